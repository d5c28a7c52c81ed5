import java.io.IOException;
import java.lang.reflect.Constructor;
import java.lang.reflect.Field;
import java.lang.reflect.Method;
import java.lang.reflect.Modifier;
import java.nio.file.Files;
import java.nio.file.Path;
import java.util.Arrays;
import java.util.Set;
import java.util.TreeSet;
import java.util.regex.Matcher;
import java.util.regex.Pattern;

/** Those rules of LANGUAGE.md that can be seen from the source's words or from the compiled class. */
public final class RuleTests {
    private static final String FORBIDDEN = "\\b(throw|throws|try|catch|finally|synchronized|assert|volatile"
            + "|transient|native|System\\.(?!arraycopy)\\w+|Random|Thread|hashCode|equals|toString|Object"
            + "|protected|NaN|addExact|\\w+Exact)\\b|->|::";
    private static final Set<String> FACE = new TreeSet<>(Arrays.asList(
            "int write(long, int)", "int erase()", "int fault()", "int land()", "int point(int, int)",
            "int older(int, int)", "int judge(int, int)", "int like(int, int)", "int bring(int, int)",
            "int pardon(int, boolean)", "int deeds(int, int)", "int least(int, int, int)",
            "int suits(int, int, int)", "int turns(int, int)", "int dead()", "int keep(int)",
            "int turning(int)", "long odds(int, int, int, int, int)", "int forged()", "int cleaned(int)",
            "int hang(int)", "int border()", "int parts(int, int)", "int frees(int)", "int save(int)",
            "int back(int)", "int count(int)"));
    private static final Check CHECK = new Check();

    public static void main(String[] args) throws IOException {
        String code = withoutComments(Files.readString(Path.of("src/main/java/LikestCase.java")));
        words(code);
        lengths(code);
        face();
        inside();
        CHECK.end("RuleTests");
    }

    private static String withoutComments(String source) {
        return source.replaceAll("(?s)/\\*.*?\\*/", "").replaceAll("//[^\n]*", "");
    }

    private static void words(String code) {
        Matcher found = Pattern.compile(FORBIDDEN).matcher(code);
        while (found.find()) {
            CHECK.due("a word that is not allowed: " + found.group(), false);
        }
        CHECK.due("no package line", !Pattern.compile("(?m)^package ").matcher(code).find());
        Matcher imports = Pattern.compile("(?m)^import (.*);").matcher(code);
        while (imports.find()) {
            CHECK.due("import " + imports.group(1), imports.group(1).equals("java.util.Arrays"));
        }
        CHECK.due("characters of 1 to 127 alone", code.chars().allMatch(c -> c > 0 && c < 128));
    }

    /** Methods of some sixty lines at most: between the lines on which they begin and end. */
    private static void lengths(String code) {
        String[] lines = code.split("\n");
        int begin = -1;
        String indent = "";
        for (int i = 0; i < lines.length; i++) {
            Matcher head = Pattern.compile("^( {4}| {8})(?!private static final class)\\w[^=;]*\\) \\{$")
                    .matcher(lines[i]);
            if (begin < 0 && head.find()) {
                begin = i;
                indent = head.group(1);
            }
            if (begin >= 0 && lines[i].equals(indent + "}")) {
                CHECK.due("a method of " + (i - begin + 1) + " lines: " + lines[begin].trim(), i - begin < 60);
                begin = -1;
            }
        }
    }

    private static void face() {
        Class<?> told = LikestCase.class;
        CHECK.due("public and final", Modifier.isPublic(told.getModifiers()) && Modifier.isFinal(told.getModifiers()));
        Set<String> found = new TreeSet<>();
        Set<String> hidden = new TreeSet<>();
        for (Method m : told.getDeclaredMethods()) {
            if (Modifier.isPublic(m.getModifiers())) {
                String types = Arrays.toString(m.getParameterTypes());
                found.add(m.getReturnType() + " " + m.getName() + "(" + types.substring(1, types.length() - 1) + ")");
            } else {
                CHECK.due("private: " + m.getName(), Modifier.isPrivate(m.getModifiers()) || m.isSynthetic());
                hidden.add(m.getName());
            }
        }
        CHECK.due("the document's calls: " + found, found.equals(FACE));
        for (String call : FACE) {
            String name = call.substring(call.indexOf(' ') + 1, call.indexOf('('));
            CHECK.due("no private method bears the name " + name, !hidden.contains(name));
        }
        for (Constructor<?> c : told.getDeclaredConstructors()) {
            CHECK.due("one public constructor", c.getParameterCount() == 0 && Modifier.isPublic(c.getModifiers()));
        }
        Set<String> constants = new TreeSet<>();
        for (Field f : told.getDeclaredFields()) {
            if (!Modifier.isPrivate(f.getModifiers())) {
                constants.add(f.getName());
            }
        }
        CHECK.due("the document's constants",
                constants.equals(new TreeSet<>(Arrays.asList("NONE", "UNKNOWN", "OUTSIDE", "NOT", "FULL"))));
    }

    private static void inside() {
        Class<?>[] inside = LikestCase.class.getDeclaredClasses();
        CHECK.due("at most twelve classes", inside.length + 1 <= 12);
        for (Class<?> one : inside) {
            CHECK.due("static: " + one.getName(), Modifier.isStatic(one.getModifiers()));
            names(one);
            fields(one);
        }
        fields(LikestCase.class);
    }

    /** The document's names stand for its calls alone, also in the classes inside. */
    private static void names(Class<?> told) {
        for (Method m : told.getDeclaredMethods()) {
            String begin = " " + m.getName() + "(";
            CHECK.due("a name of its own: " + m, FACE.stream().noneMatch(call -> call.contains(begin)));
        }
    }

    private static void fields(Class<?> told) {
        int own = 0;
        for (Field f : told.getDeclaredFields()) {
            if (Modifier.isStatic(f.getModifiers())) {
                CHECK.due("a static field is a constant: " + f, Modifier.isFinal(f.getModifiers()));
                CHECK.due("a constant of int: " + f, f.getType() == int.class);
            } else {
                own++;
            }
        }
        CHECK.due("at most twenty fields in " + told.getName(), own <= 20);
        for (Method m : told.getDeclaredMethods()) {
            CHECK.due("at most seven parameters: " + m, m.getParameterCount() <= 7);
        }
    }
}
