section BASE2
variable {p : Program} {l : Launch} {e : Env} {R : Room} {s : State} {m : MethodId} {args : Array Value} {below : List Frame} {meth : Method} {c : Code} {H : Heap} {locs : List Loc} {cells slots : Nat} {Q : State → Prop}
variable {cc : ByteArray} {pc nL : Nat} {ls : Array Slot} {rest stk : List Value} {g : GE} {A : Nat → Prop} {own : String} {index : Nat} {lv : List (Nat × Value)}
variable {ws ws2 wc : va_W} {y : MethodName} {bytes : ByteArray} {maxL np : Nat} {ret : Option FieldType} {rm : Room} {b : Nat} {As : List Value}
theorem mmaxL (C : Cx p s m args c cc nL own g A) (hsz : lv_has ls nL lv) (hl : Cond.methodLink own index Lib.MathLoose.max_long.x ∈ TBg) (hk : Cond.static Lib.MathLoose.max_long.x ∈ TBg ∧ Cond.initialized "java/lang/Math" ∈ TBg ∧ Cond.code Lib.MathLoose.max_long.x Lib.MathLoose.max_long.code 4 (some .long) ∈ TBg) (hR : 1 ≤ R.frames ∧ (rest.map fun v => v.category).sum + 15 ≤ R.locals) {x z : Int64} (hdg : decode cc pc = .ok (.invokestatic index, 3))
    (kk : W p l e R s m args below meth c H locs 0 0 Q (F0 m (pc + 3) ls (.long (if z < x then x else z) :: rest))) : W p l e R s m args below meth c H locs 0 0 Q (F0 m pc ls (.long z :: .long x :: rest)) :=
  va_mmax_long C.1 C.2.1 (C.2.2.1.trans hsz.1.symm) C.2.2.2.1 (C.2.2.2.2.1 _ hl) (C.2.2.2.2.1 _ hk.1) (C.2.2.2.2.1 _ hk.2.1) (C.2.2.2.2.1 _ hk.2.2) hR.1 hR.2 (Nat.zero_le _) (Nat.zero_le _) hdg kk
/-- a call on a String constant: no cells, the world stays -/
theorem callKi {S : Type} {k : Nat} {post : Int32 → S → Prop} {Bf : S → va_W} (C : Cx p s m args c cc nL own g A) (hw : Wd g A s ws H locs) (hsz : lv_has ls nL lv) (hk6 : k < 6)
    (hM : Cti l g y bytes maxL ret rm (.ref (g.2.2.1 k) :: As) [] post Bf) (hcls : y.cls = "java/lang/String") (hl : Cond.methodLink own index y ∈ TBg) (hk : KV y bytes maxL ret np) (hlen : As.length = np) (hz : rm.cells = 0 ∧ rm.slots = 0) (hR : rm.frames + 1 ≤ R.frames ∧ 8 + (maxL + 11) + rm.locals ≤ R.locals) (hrest : (rest.map fun v => v.category).sum ≤ 8)
    (hst : stk = As.reverse ++ .ref (g.2.2.1 k) :: rest) (hdg : decode cc pc = .ok (.invokevirtual index, 3))
    (kk : ∀ (r : Int32) (u : S) (H1 : Heap) (locs1 : List Loc), post r u → Wd g A s ws H1 locs1 → W p l e R s m args below meth c H1 locs1 0 0 Q (F0 m (pc + 3) ls (.int r :: rest))) :
    W p l e R s m args below meth c H locs 0 0 Q (F0 m pc ls stk) := by
  have hF := va_free (wc := []) hw.2.1 hw.2.2 C.2.2.2.2.2.2.2 [] rfl
  have hrec := vk_recv C.2.2.2.2.2.2.1.1 hk6 hw.2.2
  rw [← hcls] at hrec
  refine va_calli (va_runV (As := As) (rest := rest) ⟨C.1, C.2.1, C.2.2.1, C.2.2.2.1, C.2.2.2.2.1⟩ (hM H.size) (ccV C.2.2.2.2.1 hk hl hR) ⟨PreW.blind g _ _ _, hrec, pre_sub C hw [] rfl rfl⟩ rfl hlen hsz.1 hst (lv_room hrest) hdg (zroom hz.1 hz.2)) hw.2.2 (fun q _ h => hF q h) hF (fun r u t H1 locs1 ht hvm hq hB hz1 hk1 hS1 => ?_)
  rw [hz.1, hz.2]
  exact kk r u H1 locs1 hq (keepW hw hk1 hS1)
/-- constructors: a contract that makes cells -/
theorem meetN {n : Nat} {av : List Value} {S : Type} {post : S → Prop} {Bf : S → va_W}
    (hy : plainName y.cls = true) (hav : (lg_sl av).length ≤ n)
    (body : ∀ (p : Program) (e : Env) (s : State) (m : MethodId) (args : Array Value) (below : List Frame) (meth : Method) (c : Code) (A : Nat → Prop) (Qf : State → Prop) (ls : Array Slot),
      Cx p s m args c cc n y.cls g A → meth.name = y.name → (∀ (u : S) {H : Heap} {locs : List Loc} {ls : Array Slot} {pc : Nat}, post u → Wd g A s (Bf u) H locs → decode cc pc = .ok (.return_, 1) → W p l e rm s m args below meth c H locs rm.cells rm.slots Qf (F0 m pc ls [])) →
      Wd g A s ws s.heap [] → lv_has ls n (lv_args 0 av) → W p l e rm s m args below meth c s.heap [] 0 0 Qf (F0 m 0 ls [])) :
    Ctv l g y cc n none rm av ws post Bf := by
  intro sz
  refine meet (Qc := fun A => va_Qv post (Bw g Bf A) A) hy hav ?_
  intro p e s m below meth c A ls C hr hlk hnm hw hl
  refine body p e s m _ below meth c A _ ls C hnm (fun u H locs ls pc hp hw hd => ?_) hw hl
  exact W.vret C.1 C.2.1 hr (fun t ht hW => ⟨⟨u, rfl, hp, by show va_P g.1 vwCl (Bf u) t.heap ∧ va_D A (Bf u); rw [ht]; exact ⟨hw.1, hw.2.1⟩⟩, hw.2.2.F ht⟩) hw.2.2.2.2 hd hlk
theorem objI (C : Cx p s m args c cc nL own g A) (hsz : lv_has ls nL lv) (hl : Cond.methodLink own index objectInit ∈ TBg) (hk : Cond.instanceMethod objectInit ∈ TBg ∧ Cond.code objectInit ⟨#[0xb1]⟩ 1 none ∈ TBg) (hR : 1 ≤ R.frames ∧ (rest.map fun v => v.category).sum + 12 ≤ R.locals) {a : Nat} (hdg : decode cc pc = .ok (.invokespecial index, 3))
    (kk : W p l e R s m args below meth c H locs cells slots Q (F0 m (pc + 3) ls rest)) : W p l e R s m args below meth c H locs cells slots Q (F0 m pc ls (.ref a :: rest)) :=
  W.objInit C.1 C.2.1 C.2.2.2.1 (C.2.2.2.2.1 _ hl) (C.2.2.2.2.1 _ hk.1) (C.2.2.2.2.1 _ hk.2) rfl (hsz.1.trans C.2.2.1.symm) rfl hdg hR.1 (by show 2 * 0 + _ + 12 ≤ _; omega) kk
theorem nwI (C : Cx p s m args c cc nL own g A) (hw : Wd g A s ws H locs) (harr : Cond.arrayClass .int ∈ TBg) {n : Int32} {N : Nat} (hn : ¬ n < 0) (hN : n.toNatClampNeg = N) (hby : N * componentBytes .int ≤ 536870912) (hcells : cells + 1 ≤ R.cells) (hslots : slots + N ≤ R.slots) (hdg : decode cc pc = .ok (.newarray .int, 2))
    (kk : ∀ (q : Nat) (H1 : Heap), Wd g A s (ws ++ [ai g q N (fun _ => 0)]) H1 locs → W p l e R s m args below meth c H1 locs (cells + 1) (slots + N) Q (F0 m (pc + 2) ls (.ref q :: rest))) : W p l e R s m args below meth c H locs cells slots Q (F0 m pc ls (.int n :: rest)) := by
  refine va_newa (atype := .int) (ty := .int) (a0 := (N, .inl (fun _ => 0))) C.1 C.2.1 (C.2.2.2.2.1 _ harr) rfl C.2.2.2.2.2.1.1 hw.1 hw.2.1 hw.2.2 C.2.2.2.2.2.2.2 (fun _ => rfl) hn hN hby hcells hslots hdg (fun q cA H1 hK1 hP1 hD1 hS1 => ?_)
  have e1 : s.vm.findClass ("[" ++ FieldType.int.toString) = some cA := (hK1.2 2 (cA, .int) rfl).2
  have e2 : s.vm.findClass ("[" ++ FieldType.int.toString) = some g.2.1.1 := (C.2.2.2.2.2.1.1.2 0 (g.2.1.1, .int) rfl).2
  have e3 : cA = g.2.1.1 := Option.some.inj (e1.symm.trans e2)
  subst e3
  exact kk q H1 ⟨hP1, hD1, hS1⟩
theorem nwZ (C : Cx p s m args c cc nL own g A) (hw : Wd g A s ws H locs) (harr : Cond.arrayClass .boolean ∈ TBg) {n : Int32} {N : Nat} (hn : ¬ n < 0) (hN : n.toNatClampNeg = N) (hby : N * componentBytes .boolean ≤ 536870912) (hcells : cells + 1 ≤ R.cells) (hslots : slots + N ≤ R.slots) (hdg : decode cc pc = .ok (.newarray .boolean, 2))
    (kk : ∀ (q : Nat) (H1 : Heap), Wd g A s (ws ++ [az g q N (fun _ => 0)]) H1 locs → W p l e R s m args below meth c H1 locs (cells + 1) (slots + N) Q (F0 m (pc + 2) ls (.ref q :: rest))) : W p l e R s m args below meth c H locs cells slots Q (F0 m pc ls (.int n :: rest)) := by
  refine va_newa (atype := .boolean) (ty := .boolean) (a0 := (N, .inl (fun _ => 0))) C.1 C.2.1 (C.2.2.2.2.1 _ harr) rfl C.2.2.2.2.2.1.1 hw.1 hw.2.1 hw.2.2 C.2.2.2.2.2.2.2 (fun _ => rfl) hn hN hby hcells hslots hdg (fun q cA H1 hK1 hP1 hD1 hS1 => ?_)
  have e1 : s.vm.findClass ("[" ++ FieldType.boolean.toString) = some cA := (hK1.2 2 (cA, .boolean) rfl).2
  have e2 : s.vm.findClass ("[" ++ FieldType.boolean.toString) = some g.2.1.2 := (C.2.2.2.2.2.1.1.2 1 (g.2.1.2, .boolean) rfl).2
  have e3 : cA = g.2.1.2 := Option.some.inj (e1.symm.trans e2)
  subst e3
  exact kk q H1 ⟨hP1, hD1, hS1⟩
theorem nwO (C : Cx p s m args c cc nL own g A) (hw : Wd g A s ws H locs) {Cn : String} {T : u_T} {N ci : Nat} (hin : ∀ w ∈ u_ws Cn T N, w ∈ TBg) (ty : Nat → FieldType) (hty : ∀ k, k < N → parseFieldDescriptor (T k).2.2.1 = some (ty k)) (hcl : Cond.classLink own index Cn ∈ TBg) (hinst : Cond.instantiable Cn N ∈ TBg) (hini : Cond.initialized Cn ∈ TBg) (hc : vwCl[ci]? = some (Cn, T, N)) {fs : List Value} (hfs : ∀ j, j < N → defaultValue (ty j) = vp_V fs j) (hcells : cells + 1 ≤ R.cells) (hslots : slots + N ≤ R.slots) (hdg : decode cc pc = .ok (.new index, 3))
    (kk : ∀ (q : Nat) (H1 : Heap), Wd g A s (ws ++ [oc q ci fs]) H1 locs → W p l e R s m args below meth c H1 locs (cells + 1) (slots + N) Q (F0 m (pc + 3) ls (.ref q :: rest))) : W p l e R s m args below meth c H locs cells slots Q (F0 m pc ls rest) :=
  va_new C.1 C.2.1 C.2.2.2.2.1 hin ty hty C.2.2.2.1 (C.2.2.2.2.1 _ hcl) (C.2.2.2.2.1 _ hinst) (C.2.2.2.2.1 _ hini) C.2.2.2.2.2.1.1 hw.1 hw.2.1 hw.2.2 C.2.2.2.2.2.2.2 hc hfs hcells hslots hdg (fun q H1 h1 h2 h3 => kk q H1 ⟨h1, h2, h3⟩)
/-- a constructor's call -/
theorem ccI {Rr : Room} (hts : ∀ w ∈ TBg, w.before args s = true) (hk : KI y bytes maxL np) (hl : Cond.methodLink own index y ∈ TBg) (hR : rm.frames + 1 ≤ Rr.frames ∧ 8 + (maxL + 11) + rm.locals ≤ Rr.locals) :
    CallB Rr s args own index y bytes maxL none (ws1 y bytes maxL none) rm rm.cells rm.slots np ∧ y.name = "<init>" ∧ (Cond.instanceMethod y).before args s = true :=
  cwI np hts (good_ws hk.2.2.1) rfl rfl rfl (hts _ hk.2.1) (hts _ hl) (hts _ hk.1) hk.2.2.2.2.2.2 ⟨hk.2.2.2.1, hk.2.2.2.2.1, hk.2.2.2.2.2.1⟩ hR
theorem ccIN {Rr : Room} {host : String} (hts : ∀ w ∈ TBg, w.before args s = true) (hk : KI y bytes maxL np) (hl : va_Nw (.methodLinkNest own index y host) s) (hR : rm.frames + 1 ≤ Rr.frames ∧ 8 + (maxL + 11) + rm.locals ≤ Rr.locals) :
    va_CN Rr s args own index y host bytes maxL none (ws1 y bytes maxL none) rm rm.cells rm.slots np ∧ y.name = "<init>" ∧ (Cond.instanceMethod y).before args s = true :=
  ⟨va_cnB np hts (good_ws hk.2.2.1) rfl rfl rfl hl (hts _ hk.2.1) ⟨hk.2.2.2.1, hk.2.2.2.2.1, hk.2.2.2.2.2.1⟩ hR, hk.2.2.2.2.2.2, hts _ hk.1⟩
theorem callIq {S : Type} {post : S → Prop} {Bf W2 : S → va_W} (C : Cx p s m args c cc nL own g A) (hw : Wd g A s ws H locs) (hsz : lv_has ls nL lv)
    (hM : Ctv l g y bytes maxL none rm (.ref b :: As) wc post Bf) (hl : Cond.methodLink own index y ∈ TBg) (hk : KI y bytes maxL np) (hlen : As.length = np) (hR : rm.frames + 1 ≤ R.frames ∧ 8 + (maxL + 11) + rm.locals ≤ R.locals) (hf : cells + rm.cells ≤ R.cells ∧ slots + rm.slots ≤ R.slots) (hrest : (rest.map fun v => v.category).sum ≤ 8)
    (isC isR perm : List Nat) (hC : isC.map (fun i => ws[i]?) = wc.map some) (hRr : isR.map (fun i => ws[i]?) = (pick ws isR).map some) (hnC : va_nd isC = true) (hn : va_nd isR = true) (hdis : isR.all (fun i => !isC.contains i) = true) (hpn : va_nd perm = true) (hp : ∀ u : S, perm.map (fun i => (pick ws isR ++ Bf u)[i]?) = (W2 u).map some)
    (hst : stk = As.reverse ++ .ref b :: rest) (hdg : decode cc pc = .ok (.invokespecial index, 3))
    (kk : ∀ (u : S) (H1 : Heap) (locs1 : List Loc), post u → Wd g A s (W2 u) H1 locs1 → W p l e R s m args below meth c H1 locs1 (cells + rm.cells) (slots + rm.slots) Q (F0 m (pc + 3) ls rest)) :
    W p l e R s m args below meth c H locs cells slots Q (F0 m pc ls stk) := by
  have hF := va_free (wc := wc) hw.2.1 hw.2.2 C.2.2.2.2.2.2.2 isC hC
  refine va_callv (va_runI (As := As) (rest := rest) ⟨C.1, C.2.1, C.2.2.1, C.2.2.2.1, C.2.2.2.2.1⟩ (hM H.size) (ccI C.2.2.2.2.1 hk hl hR) ⟨PreW.blind g _ _ _, pre_sub C hw isC hnC hC⟩ rfl hlen hsz.1 hst (lv_room hrest) hdg hf) hw.2.2 (fun q _ h => hF q h) hF (fun u t H1 locs1 ht hvm hq hB hz1 hk1 hS1 => ?_)
  obtain ⟨hP1, hD1⟩ := hB
  rw [ht] at hP1
  exact kk u H1 locs1 hq (back_join C hw isC isR perm hC hRr hn hdis hpn (hp u) hk1 hP1 hD1 hS1)
theorem callIN {S : Type} {host : String} {post : S → Prop} {Bf W2 : S → va_W} (C : Cx p s m args c cc nL own g A) (hw : Wd g A s ws H locs) (hsz : lv_has ls nL lv)
    (hM : Ctv l g y bytes maxL none rm (.ref b :: As) wc post Bf) (hl : va_Nw (.methodLinkNest own index y host) s) (hk : KI y bytes maxL np) (hlen : As.length = np) (hR : rm.frames + 1 ≤ R.frames ∧ 8 + (maxL + 11) + rm.locals ≤ R.locals) (hf : cells + rm.cells ≤ R.cells ∧ slots + rm.slots ≤ R.slots) (hrest : (rest.map fun v => v.category).sum ≤ 8)
    (isC isR perm : List Nat) (hC : isC.map (fun i => ws[i]?) = wc.map some) (hRr : isR.map (fun i => ws[i]?) = (pick ws isR).map some) (hnC : va_nd isC = true) (hn : va_nd isR = true) (hdis : isR.all (fun i => !isC.contains i) = true) (hpn : va_nd perm = true) (hp : ∀ u : S, perm.map (fun i => (pick ws isR ++ Bf u)[i]?) = (W2 u).map some)
    (hst : stk = As.reverse ++ .ref b :: rest) (hdg : decode cc pc = .ok (.invokespecial index, 3))
    (kk : ∀ (u : S) (H1 : Heap) (locs1 : List Loc), post u → Wd g A s (W2 u) H1 locs1 → W p l e R s m args below meth c H1 locs1 (cells + rm.cells) (slots + rm.slots) Q (F0 m (pc + 3) ls rest)) :
    W p l e R s m args below meth c H locs cells slots Q (F0 m pc ls stk) := by
  have hF := va_free (wc := wc) hw.2.1 hw.2.2 C.2.2.2.2.2.2.2 isC hC
  refine va_callv (va_runIN (As := As) (rest := rest) ⟨C.1, C.2.1, C.2.2.1, C.2.2.2.1, C.2.2.2.2.1⟩ (hM H.size) (ccIN C.2.2.2.2.1 hk hl hR) ⟨PreW.blind g _ _ _, pre_sub C hw isC hnC hC⟩ rfl hlen hsz.1 hst (lv_room hrest) hdg hf) hw.2.2 (fun q _ h => hF q h) hF (fun u t H1 locs1 ht hvm hq hB hz1 hk1 hS1 => ?_)
  obtain ⟨hP1, hD1⟩ := hB
  rw [ht] at hP1
  exact kk u H1 locs1 hq (back_join C hw isC isR perm hC hRr hn hdis hpn (hp u) hk1 hP1 hD1 hS1)
/-- calls at any count of cells made -/
theorem zroomA (h1 : rm.cells = 0) (h2 : rm.slots = 0) (hf : cells ≤ R.cells ∧ slots ≤ R.slots) : cells + rm.cells ≤ R.cells ∧ slots + rm.slots ≤ R.slots := by rw [h1, h2]; exact hf
theorem callVvA {S : Type} {post : S → Prop} {Bf W2 : S → va_W} (C : Cx p s m args c cc nL own g A) (hw : Wd g A s ws H locs) (hsz : lv_has ls nL lv)
    (hM : Ctv l g y bytes maxL ret rm (.ref b :: As) wc post Bf) (hl : Cond.methodLink own index y ∈ TBg) (hk : KV y bytes maxL ret np) (hlen : As.length = np) (hz : rm.cells = 0 ∧ rm.slots = 0) (hR : rm.frames + 1 ≤ R.frames ∧ 8 + (maxL + 11) + rm.locals ≤ R.locals) (hf : cells ≤ R.cells ∧ slots ≤ R.slots) (hrest : (rest.map fun v => v.category).sum ≤ 8)
    (q0 : Nat) {ci : Nat} {fs : List Value} {qc : vw_C} (he : ws[q0]? = some (b, .inr (ci, fs))) (hc : vwCl[ci]? = some qc) (hcls : qc.1 = y.cls)
    (isC isR perm : List Nat) (hC : isC.map (fun i => ws[i]?) = wc.map some) (hRr : isR.map (fun i => ws[i]?) = (pick ws isR).map some) (hnC : va_nd isC = true) (hn : va_nd isR = true) (hdis : isR.all (fun i => !isC.contains i) = true) (hpn : va_nd perm = true) (hp : ∀ u : S, perm.map (fun i => (pick ws isR ++ Bf u)[i]?) = (W2 u).map some)
    (hst : stk = As.reverse ++ .ref b :: rest) (hdg : decode cc pc = .ok (.invokevirtual index, 3))
    (kk : ∀ (u : S) (H1 : Heap) (locs1 : List Loc), post u → Wd g A s (W2 u) H1 locs1 → W p l e R s m args below meth c H1 locs1 cells slots Q (F0 m (pc + 3) ls rest)) :
    W p l e R s m args below meth c H locs cells slots Q (F0 m pc ls stk) := by
  have hF := va_free (wc := wc) hw.2.1 hw.2.2 C.2.2.2.2.2.2.2 isC hC
  have hrec := va_recv C.2.2.2.2.2.1.1 hw.1 hc he
  rw [hcls] at hrec
  refine va_callv (va_runV (As := As) (rest := rest) ⟨C.1, C.2.1, C.2.2.1, C.2.2.2.1, C.2.2.2.2.1⟩ (hM H.size) (ccV C.2.2.2.2.1 hk hl hR) ⟨PreW.blind g _ _ _, hrec, pre_sub C hw isC hnC hC⟩ rfl hlen hsz.1 hst (lv_room hrest) hdg (zroomA hz.1 hz.2 hf)) hw.2.2 (fun q _ h => hF q h) hF (fun u t H1 locs1 ht hvm hq hB hz1 hk1 hS1 => ?_)
  obtain ⟨hP1, hD1⟩ := hB
  rw [ht] at hP1
  rw [hz.1, hz.2]
  exact kk u H1 locs1 hq (back_join C hw isC isR perm hC hRr hn hdis hpn (hp u) hk1 hP1 hD1 hS1)
theorem callViA {S : Type} {post : Int32 → S → Prop} {Bf W2 : S → va_W} (C : Cx p s m args c cc nL own g A) (hw : Wd g A s ws H locs) (hsz : lv_has ls nL lv)
    (hM : Cti l g y bytes maxL ret rm (.ref b :: As) wc post Bf) (hl : Cond.methodLink own index y ∈ TBg) (hk : KV y bytes maxL ret np) (hlen : As.length = np) (hz : rm.cells = 0 ∧ rm.slots = 0) (hR : rm.frames + 1 ≤ R.frames ∧ 8 + (maxL + 11) + rm.locals ≤ R.locals) (hf : cells ≤ R.cells ∧ slots ≤ R.slots) (hrest : (rest.map fun v => v.category).sum ≤ 8)
    (q0 : Nat) {ci : Nat} {fs : List Value} {qc : vw_C} (he : ws[q0]? = some (b, .inr (ci, fs))) (hc : vwCl[ci]? = some qc) (hcls : qc.1 = y.cls)
    (isC isR perm : List Nat) (hC : isC.map (fun i => ws[i]?) = wc.map some) (hRr : isR.map (fun i => ws[i]?) = (pick ws isR).map some) (hnC : va_nd isC = true) (hn : va_nd isR = true) (hdis : isR.all (fun i => !isC.contains i) = true) (hpn : va_nd perm = true) (hp : ∀ u : S, perm.map (fun i => (pick ws isR ++ Bf u)[i]?) = (W2 u).map some)
    (hst : stk = As.reverse ++ .ref b :: rest) (hdg : decode cc pc = .ok (.invokevirtual index, 3))
    (kk : ∀ (r : Int32) (u : S) (H1 : Heap) (locs1 : List Loc), post r u → Wd g A s (W2 u) H1 locs1 → W p l e R s m args below meth c H1 locs1 cells slots Q (F0 m (pc + 3) ls (.int r :: rest))) :
    W p l e R s m args below meth c H locs cells slots Q (F0 m pc ls stk) := by
  have hF := va_free (wc := wc) hw.2.1 hw.2.2 C.2.2.2.2.2.2.2 isC hC
  have hrec := va_recv C.2.2.2.2.2.1.1 hw.1 hc he
  rw [hcls] at hrec
  refine va_calli (va_runV (As := As) (rest := rest) ⟨C.1, C.2.1, C.2.2.1, C.2.2.2.1, C.2.2.2.2.1⟩ (hM H.size) (ccV C.2.2.2.2.1 hk hl hR) ⟨PreW.blind g _ _ _, hrec, pre_sub C hw isC hnC hC⟩ rfl hlen hsz.1 hst (lv_room hrest) hdg (zroomA hz.1 hz.2 hf)) hw.2.2 (fun q _ h => hF q h) hF (fun r u t H1 locs1 ht hvm hq hB hz1 hk1 hS1 => ?_)
  obtain ⟨hP1, hD1⟩ := hB
  rw [ht] at hP1
  rw [hz.1, hz.2]
  exact kk r u H1 locs1 hq (back_join C hw isC isR perm hC hRr hn hdis hpn (hp u) hk1 hP1 hD1 hS1)
theorem callVlA {S : Type} {post : Int64 → S → Prop} {Bf W2 : S → va_W} (C : Cx p s m args c cc nL own g A) (hw : Wd g A s ws H locs) (hsz : lv_has ls nL lv)
    (hM : Ctl l g y bytes maxL ret rm (.ref b :: As) wc post Bf) (hl : Cond.methodLink own index y ∈ TBg) (hk : KV y bytes maxL ret np) (hlen : As.length = np) (hz : rm.cells = 0 ∧ rm.slots = 0) (hR : rm.frames + 1 ≤ R.frames ∧ 8 + (maxL + 11) + rm.locals ≤ R.locals) (hf : cells ≤ R.cells ∧ slots ≤ R.slots) (hrest : (rest.map fun v => v.category).sum ≤ 8)
    (q0 : Nat) {ci : Nat} {fs : List Value} {qc : vw_C} (he : ws[q0]? = some (b, .inr (ci, fs))) (hc : vwCl[ci]? = some qc) (hcls : qc.1 = y.cls)
    (isC isR perm : List Nat) (hC : isC.map (fun i => ws[i]?) = wc.map some) (hRr : isR.map (fun i => ws[i]?) = (pick ws isR).map some) (hnC : va_nd isC = true) (hn : va_nd isR = true) (hdis : isR.all (fun i => !isC.contains i) = true) (hpn : va_nd perm = true) (hp : ∀ u : S, perm.map (fun i => (pick ws isR ++ Bf u)[i]?) = (W2 u).map some)
    (hst : stk = As.reverse ++ .ref b :: rest) (hdg : decode cc pc = .ok (.invokevirtual index, 3))
    (kk : ∀ (r : Int64) (u : S) (H1 : Heap) (locs1 : List Loc), post r u → Wd g A s (W2 u) H1 locs1 → W p l e R s m args below meth c H1 locs1 cells slots Q (F0 m (pc + 3) ls (.long r :: rest))) :
    W p l e R s m args below meth c H locs cells slots Q (F0 m pc ls stk) := by
  have hF := va_free (wc := wc) hw.2.1 hw.2.2 C.2.2.2.2.2.2.2 isC hC
  have hrec := va_recv C.2.2.2.2.2.1.1 hw.1 hc he
  rw [hcls] at hrec
  refine va_calll (va_runV (As := As) (rest := rest) ⟨C.1, C.2.1, C.2.2.1, C.2.2.2.1, C.2.2.2.2.1⟩ (hM H.size) (ccV C.2.2.2.2.1 hk hl hR) ⟨PreW.blind g _ _ _, hrec, pre_sub C hw isC hnC hC⟩ rfl hlen hsz.1 hst (lv_room hrest) hdg (zroomA hz.1 hz.2 hf)) hw.2.2 (fun q _ h => hF q h) hF (fun r u t H1 locs1 ht hvm hq hB hz1 hk1 hS1 => ?_)
  obtain ⟨hP1, hD1⟩ := hB
  rw [ht] at hP1
  rw [hz.1, hz.2]
  exact kk r u H1 locs1 hq (back_join C hw isC isR perm hC hRr hn hdis hpn (hp u) hk1 hP1 hD1 hS1)
end BASE2
def chJ (k : Nat) (i : Int32) : Int32 := ((bytJ.getD k []).getD i.toNatClampNeg 0) &&& 255
