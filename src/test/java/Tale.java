import java.util.ArrayList;
import java.util.List;

/** All that an object lets one see: what it holds now, in its images, and behind its text. */
final class Tale {
    private Tale() {
    }

    /** Some 400 calls, which change the object. */
    static List<Long> of(LikestCase x) {
        List<Long> all = new ArrayList<>();
        addNow(all, x);
        for (int image = 0; image < 2; image++) {
            all.add((long) x.back(image));
            addNow(all, x);
        }
        all.add((long) x.land());
        addNow(all, x);
        return all;
    }

    private static void addNow(List<Long> all, LikestCase x) {
        for (int what = 0; what < 4; what++) {
            all.add((long) x.count(what));
            all.add((long) x.deeds(what, -1));
        }
        int points = x.count(0);
        for (int point = 0; point < points; point++) {
            all.add((long) x.point(point, 0));
            all.add((long) x.point(point, 1));
        }
        int cases = x.count(1);
        for (int number = 0; number < cases; number++) {
            for (int what = 0; what < 5; what++) {
                all.add((long) x.older(number, what));
            }
        }
        all.add((long) x.fault());
        all.add((long) x.dead());
        all.add((long) x.forged());
        all.add((long) x.border());
    }
}
