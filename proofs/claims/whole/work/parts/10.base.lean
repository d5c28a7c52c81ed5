/-! BASE: one list of table words for all methods, one environment, contracts' form, calls, returns. -/
def TBg : List Cond := lw_tbl.filter goodWord
theorem TBg_of {w : Cond} (k : Nat) (h : lw_tbl[k]? = some w) (g : goodWord w = true) : w ∈ TBg := List.mem_filter.mpr ⟨List.mem_of_getElem? h, g⟩
theorem TBg_good {w : Cond} (h : w ∈ TBg) : (w.onTables && w.keeps) = true ∨ ∃ ty, w = .arrayClass ty := good_of_word (List.mem_filter.mp h).2
theorem TBg_tbl {w : Cond} (h : w ∈ TBg) : w ∈ lw_tbl := (List.mem_filter.mp h).1
def ws1 (y : MethodName) (cc : ByteArray) (n : Nat) (ret : Option FieldType) : List Cond := Cond.code y cc n ret :: TBg
theorem gi_all {big : List Cond} (hb : ∀ w ∈ TBg, w ∈ big) {ws : List Cond} (h : ∀ w ∈ ws, w ∈ TBg) : GoodIn big ws := fun w hw => ⟨hb w (h w hw), TBg_good (h w hw)⟩
def isNest : Cond → Bool
  | .fieldLinkNest .. => true
  | .methodLinkNest .. => true
  | _ => false
def nestOK (U : State) : Prop := ∀ w ∈ tables_1, isNest w = true → va_Nw w U
theorem nestOK.warm {s U : State} (hW : s.WarmedH U.vm) (h : nestOK s) : nestOK U := by
  intro w hw hn
  have h1 := h w hw hn
  cases w <;> first | exact va_Nw.warmF hW h1 | exact va_Nw.warmM hW h1 | (simp [isNest] at hn)
theorem nestOK.same {u U : State} (hv : u.vm = U.vm) (h : nestOK u) : nestOK U := by
  intro w hw hn
  have h1 := h w hw hn
  cases w <;> first | exact va_Nw.same rfl hv h1 | (simp [isNest] at hn)
abbrev GE : Type := va_G × (ClassId × ClassId) × (Nat → Nat) × (Nat → Nat)
def strL : List (Nat × String) := [(88, "land"), (94, "weight"), (96, "cost"), (98, "case"), (100, "pardon"), (102, "drop")]
def lenJ : List Nat := [4, 6, 4, 4, 6, 4]
def bytJ : List (List Int32) := [[108, 97, 110, 100], [119, 101, 105, 103, 104, 116], [99, 111, 115, 116], [99, 97, 115, 101], [112, 97, 114, 100, 111, 110], [100, 114, 111, 112]]
def strOK (g : GE) (U : State) : Prop := ∀ (i k : Nat) (tx : String), strL[i]? = some (k, tx) → vk_R RX8 k tx (g.2.2.1 i) U
abbrev tysG (g : GE) : List (ClassId × FieldType) := [(g.2.1.1, .int), (g.2.1.2, .boolean)]
def EV (g : GE) (U : State) : Prop := va_K g.1 vwCl (tysG g) U ∧ nestOK U ∧ strOK g U
def EH (g : GE) (A : Nat → Prop) (U : State) (H : Heap) : Prop := vk_S 6 lenJ bytJ g.2.2.1 g.2.2.2 A U H ∧ va_Z "java/lang/String" "COMPACT_STRINGS" "Z" (.int 1) A U H ∧ va_Zq "jdk/internal/util/Preconditions" "SIOOBE_FORMATTER" "Ljava/util/function/BiFunction;" A U H
theorem EV.warm {g : GE} {s U : State} (hW : s.WarmedH U.vm) (h : EV g s) : EV g U := ⟨va_K.moved hW.alike h.1, h.2.1.warm hW, fun i k tx hi => (h.2.2 i k tx hi).warm hW⟩
theorem EV.same {g : GE} {u U : State} (hv : u.vm = U.vm) (h : EV g u) : EV g U := ⟨va_K.moved (by rw [hv]; exact Vm.Alike.refl _) h.1, h.2.1.same hv, fun i k tx hi => vk_R.same hv.symm (h.2.2 i k tx hi)⟩
theorem EH.moved {g : GE} {A : Nat → Prop} {u U : State} {H : Heap} (hvm : u.vm.Alike U.vm) (h : EH g A u H) : EH g A U H := ⟨h.1.moved hvm, h.2.1.moved hvm, h.2.2.moved hvm⟩
theorem EH.kept {g : GE} {A : Nat → Prop} {U : State} {H H1 : Heap} (h : EH g A U H) (hq : ∀ a : Nat, a < H.size → ¬ A a → H1[a]? = H[a]?) : EH g A U H1 := ⟨h.1.kept hq, h.2.1.kept hq, h.2.2.kept hq⟩
theorem EH.narrow {g : GE} {A B : Nat → Prop} {U : State} {H : Heap} (h : EH g A U H) (hAB : ∀ q, B q → A q) : EH g B U H := ⟨h.1.narrow hAB, h.2.1.narrow hAB, h.2.2.narrow hAB⟩
def PreW (g : GE) (ws : va_W) (sz : Nat) (U : State) : Prop := U.heap.size = sz ∧ va_P g.1 vwCl ws U.heap ∧ EV g U ∧ EH g (va_A ws sz) U U.heap ∧ va_D (fun _ => True) ws
theorem PreW.blind (g : GE) (av : List Value) (ws : va_W) (sz : Nat) : FrameBlind (va_Pc av (PreW g ws sz)) := by
  intro a U f mk q
  obtain ⟨e, h1, h2, h3, h4, h5⟩ := q
  exact ⟨e, h1, h2, h3.same (u := U) (U := U.calling f mk a) rfl, h4.moved (u := U) (U := U.calling f mk a) (Vm.Alike.refl U.vm), h5⟩
abbrev Bw (g : GE) {S : Type} (Bf : S → va_W) (A : Nat → Prop) : S → State → Prop := fun u t => va_P g.1 vwCl (Bf u) t.heap ∧ va_D A (Bf u)
/-- a contract: int answer, void, long; nothing is made -/
def Cti (l : Launch) (g : GE) (y : MethodName) (cc : ByteArray) (n : Nat) (ret : Option FieldType) (rm : Room) (av : List Value) (ws : va_W) {S : Type} (post : Int32 → S → Prop) (Bf : S → va_W) : Prop :=
  ∀ sz : Nat, Met l y (ws1 y cc n ret) rm (va_Pc av (PreW g ws sz)) (va_Qi post (Bw g Bf (va_A ws sz)) (va_A ws sz)) rm.cells rm.slots (va_A ws sz)
def Ctl (l : Launch) (g : GE) (y : MethodName) (cc : ByteArray) (n : Nat) (ret : Option FieldType) (rm : Room) (av : List Value) (ws : va_W) {S : Type} (post : Int64 → S → Prop) (Bf : S → va_W) : Prop :=
  ∀ sz : Nat, Met l y (ws1 y cc n ret) rm (va_Pc av (PreW g ws sz)) (va_Ql post (Bw g Bf (va_A ws sz)) (va_A ws sz)) rm.cells rm.slots (va_A ws sz)
def Ctv (l : Launch) (g : GE) (y : MethodName) (cc : ByteArray) (n : Nat) (ret : Option FieldType) (rm : Room) (av : List Value) (ws : va_W) {S : Type} (post : S → Prop) (Bf : S → va_W) : Prop :=
  ∀ sz : Nat, Met l y (ws1 y cc n ret) rm (va_Pc av (PreW g ws sz)) (va_Qv post (Bw g Bf (va_A ws sz)) (va_A ws sz)) rm.cells rm.slots (va_A ws sz)
def Ctr (l : Launch) (g : GE) (y : MethodName) (cc : ByteArray) (n : Nat) (ret : Option FieldType) (rm : Room) (av : List Value) (ws : va_W) {S : Type} (ra : Nat) (post : S → Prop) (Bf : S → va_W) : Prop :=
  ∀ sz : Nat, Met l y (ws1 y cc n ret) rm (va_Pc av (PreW g ws sz)) (va_Qr post (fun u a t => a = ra ∧ Bw g Bf (va_A ws sz) u t) (va_A ws sz)) rm.cells rm.slots (va_A ws sz)
def Wd (g : GE) (A : Nat → Prop) (s : State) (ws : va_W) (H : Heap) (locs : List Loc) : Prop := va_P g.1 vwCl ws H ∧ va_D A ws ∧ va_S A s.heap H locs
def Cx (p : Program) (s : State) (m : MethodId) (args : Array Value) (c : Code) (cc : ByteArray) (nL : Nat) (own : String) (g : GE) (A : Nat → Prop) : Prop :=
  p.tables.exec = Jvm.exec ∧ c.code = cc ∧ c.maxLocals = nL ∧ s.vm.findClass own = some m.cls ∧ (∀ w ∈ TBg, w.before args s = true) ∧ EV g s ∧ EH g A s s.heap ∧ ∀ q : Nat, s.heap.size ≤ q → A q
/-- the machine goes on well from pc, whatever the heap, with these cells and these locals -/
def Wat (p : Program) (l : Launch) (e : Env) (R : Room) (s : State) (m : MethodId) (args : Array Value) (below : List Frame) (meth : Method) (c : Code) (A : Nat → Prop) (Q : State → Prop) (g : GE) (nL : Nat) (ws : va_W) (lv : List (Nat × Value)) (pc : Nat) (stk : List Value) : Prop :=
  ∀ (H : Heap) (locs : List Loc) (ls : Array Slot), Wd g A s ws H locs → lv_has ls nL lv → W p l e R s m args below meth c H locs 0 0 Q (F0 m pc ls stk)
theorem meet {l : Launch} {g : GE} {y : MethodName} {cc : ByteArray} {n : Nat} {ret : Option FieldType} {rm : Room} {av : List Value} {ws : va_W} {sz mc ms : Nat} {Qc : (Nat → Prop) → Array Value → State → Outcome → State → Prop}
    (hy : plainName y.cls = true) (hav : (lg_sl av).length ≤ n)
    (body : ∀ (p : Program) (e : Env) (s : State) (m : MethodId) (below : List Frame) (meth : Method) (c : Code) (A : Nat → Prop) (ls : Array Slot),
      Cx p s m av.toArray c cc n y.cls g A → meth.sig.returnType = ret → meth.locks = false → meth.name = y.name → Wd g A s ws s.heap [] → lv_has ls n (lv_args 0 av) →
      W p l e rm s m av.toArray below meth c s.heap [] 0 0 (MQ below (Qc A) av.toArray s mc ms A) (F0 m 0 ls [])) :
    Met l y (ws1 y cc n ret) rm (va_Pc av (PreW g ws sz)) (Qc (va_A ws sz)) mc ms (va_A ws sz) := by
  refine Met.ofW (cc := cc) (maxL := n) (ret := ret) hy rfl ?_
  intro p e s m args below meth c s₁ B hml hv
  obtain ⟨rfl, hsz, hP, hE, hH, hD0⟩ := hv
  subst hsz
  have hl := lv_entry av (n := n) hav
  have hts := atoms_spec (ws := ws1 y cc n ret) B.pre
  rw [lg_entry_eq]
  exact body p e s m below meth c (va_A ws s.heap.size) _ ⟨B.exec, B.bytes, hml, findClass_of_methodNamed B.named, fun w hw => hts w (List.mem_cons_of_mem _ hw), hE, hH, fun q h => Or.inr h⟩ B.returns B.notSynchronized (name_of_methodNamed B.named B.method).1 ⟨hP, hD0.self, va_S.rf⟩ hl
theorem meetI {l : Launch} {g : GE} {y : MethodName} {cc : ByteArray} {n : Nat} {ty : FieldType} {rm : Room} {av : List Value} {ws : va_W} {S : Type} {post : Int32 → S → Prop} {Bf : S → va_W}
    (hy : plainName y.cls = true) (hav : (lg_sl av).length ≤ n) (hz : rm.cells = 0 ∧ rm.slots = 0)
    (body : ∀ (p : Program) (e : Env) (s : State) (m : MethodId) (args : Array Value) (below : List Frame) (meth : Method) (c : Code) (A : Nat → Prop) (Qf : State → Prop) (ls : Array Slot),
      Cx p s m args c cc n y.cls g A → (∀ (u : S) {v : Int32} {H : Heap} {locs : List Loc} {ls : Array Slot} {pc : Nat}, post v u → Wd g A s (Bf u) H locs → decode cc pc = .ok (.ireturn, 1) → narrow ty (.int v) = .int v → W p l e rm s m args below meth c H locs 0 0 Qf (F0 m pc ls [.int v])) →
      Wd g A s ws s.heap [] → lv_has ls n (lv_args 0 av) → W p l e rm s m args below meth c s.heap [] 0 0 Qf (F0 m 0 ls [])) :
    Cti l g y cc n (some ty) rm av ws post Bf := by
  intro sz
  refine meet (Qc := fun A => va_Qi post (Bw g Bf A) A) hy hav ?_
  intro p e s m below meth c A ls C hr hlk _ hw hl
  rw [hz.1, hz.2]
  refine body p e s m _ below meth c A _ ls C (fun u v H locs ls pc hp hw hd hn => ?_) hw hl
  exact W.zret C.1 C.2.1 hr hn (fun t ht hW => ⟨⟨v, u, rfl, hp, by show va_P g.1 vwCl (Bf u) t.heap ∧ va_D A (Bf u); rw [ht]; exact ⟨hw.1, hw.2.1⟩⟩, hw.2.2.F ht⟩) hw.2.2.2.2 hd hlk
theorem meetL {l : Launch} {g : GE} {y : MethodName} {cc : ByteArray} {n : Nat} {rm : Room} {av : List Value} {ws : va_W} {S : Type} {post : Int64 → S → Prop} {Bf : S → va_W}
    (hy : plainName y.cls = true) (hav : (lg_sl av).length ≤ n) (hz : rm.cells = 0 ∧ rm.slots = 0)
    (body : ∀ (p : Program) (e : Env) (s : State) (m : MethodId) (args : Array Value) (below : List Frame) (meth : Method) (c : Code) (A : Nat → Prop) (Qf : State → Prop) (ls : Array Slot),
      Cx p s m args c cc n y.cls g A → (∀ (u : S) {v : Int64} {H : Heap} {locs : List Loc} {ls : Array Slot} {pc : Nat}, post v u → Wd g A s (Bf u) H locs → decode cc pc = .ok (.lreturn, 1) → W p l e rm s m args below meth c H locs 0 0 Qf (F0 m pc ls [.long v])) →
      Wd g A s ws s.heap [] → lv_has ls n (lv_args 0 av) → W p l e rm s m args below meth c s.heap [] 0 0 Qf (F0 m 0 ls [])) :
    Ctl l g y cc n (some .long) rm av ws post Bf := by
  intro sz
  refine meet (Qc := fun A => va_Ql post (Bw g Bf A) A) hy hav ?_
  intro p e s m below meth c A ls C hr hlk _ hw hl
  rw [hz.1, hz.2]
  refine body p e s m _ below meth c A _ ls C (fun u v H locs ls pc hp hw hd => ?_) hw hl
  exact W.lret C.1 C.2.1 hr (fun t ht hW => ⟨⟨v, u, rfl, hp, by show va_P g.1 vwCl (Bf u) t.heap ∧ va_D A (Bf u); rw [ht]; exact ⟨hw.1, hw.2.1⟩⟩, hw.2.2.F ht⟩) hw.2.2.2.2 hd hlk
theorem meetV {l : Launch} {g : GE} {y : MethodName} {cc : ByteArray} {n : Nat} {rm : Room} {av : List Value} {ws : va_W} {S : Type} {post : S → Prop} {Bf : S → va_W}
    (hy : plainName y.cls = true) (hav : (lg_sl av).length ≤ n) (hz : rm.cells = 0 ∧ rm.slots = 0)
    (body : ∀ (p : Program) (e : Env) (s : State) (m : MethodId) (args : Array Value) (below : List Frame) (meth : Method) (c : Code) (A : Nat → Prop) (Qf : State → Prop) (ls : Array Slot),
      Cx p s m args c cc n y.cls g A → (∀ (u : S) {H : Heap} {locs : List Loc} {ls : Array Slot} {pc : Nat}, post u → Wd g A s (Bf u) H locs → decode cc pc = .ok (.return_, 1) → W p l e rm s m args below meth c H locs 0 0 Qf (F0 m pc ls [])) →
      Wd g A s ws s.heap [] → lv_has ls n (lv_args 0 av) → W p l e rm s m args below meth c s.heap [] 0 0 Qf (F0 m 0 ls [])) :
    Ctv l g y cc n none rm av ws post Bf := by
  intro sz
  refine meet (Qc := fun A => va_Qv post (Bw g Bf A) A) hy hav ?_
  intro p e s m below meth c A ls C hr hlk _ hw hl
  rw [hz.1, hz.2]
  refine body p e s m _ below meth c A _ ls C (fun u H locs ls pc hp hw hd => ?_) hw hl
  exact W.vret C.1 C.2.1 hr (fun t ht hW => ⟨⟨u, rfl, hp, by show va_P g.1 vwCl (Bf u) t.heap ∧ va_D A (Bf u); rw [ht]; exact ⟨hw.1, hw.2.1⟩⟩, hw.2.2.F ht⟩) hw.2.2.2.2 hd hlk
theorem meetR {l : Launch} {g : GE} {y : MethodName} {cc : ByteArray} {n : Nat} {nm : String} {rm : Room} {av : List Value} {ws : va_W} {S : Type} {ra : Nat} {post : S → Prop} {Bf : S → va_W}
    (hy : plainName y.cls = true) (hav : (lg_sl av).length ≤ n) (hz : rm.cells = 0 ∧ rm.slots = 0)
    (body : ∀ (p : Program) (e : Env) (s : State) (m : MethodId) (args : Array Value) (below : List Frame) (meth : Method) (c : Code) (A : Nat → Prop) (Qf : State → Prop) (ls : Array Slot),
      Cx p s m args c cc n y.cls g A → (∀ (u : S) {H : Heap} {locs : List Loc} {ls : Array Slot} {pc : Nat}, post u → Wd g A s (Bf u) H locs → decode cc pc = .ok (.areturn, 1) → W p l e rm s m args below meth c H locs 0 0 Qf (F0 m pc ls [.ref ra])) →
      Wd g A s ws s.heap [] → lv_has ls n (lv_args 0 av) → W p l e rm s m args below meth c s.heap [] 0 0 Qf (F0 m 0 ls [])) :
    Ctr l g y cc n (some (.object nm)) rm av ws ra post Bf := by
  intro sz
  refine meet (Qc := fun A => va_Qr post (fun u a t => a = ra ∧ Bw g Bf A u t) A) hy hav ?_
  intro p e s m below meth c A ls C hr hlk _ hw hl
  rw [hz.1, hz.2]
  refine body p e s m _ below meth c A _ ls C (fun u H locs ls pc hp hw hd => ?_) hw hl
  exact W.aret C.1 C.2.1 hr (Or.inl ⟨nm, rfl⟩) (Or.inr ⟨ra, rfl⟩) (fun t ht hW => ⟨⟨u, ra, rfl, hp, rfl, by show va_P g.1 vwCl (Bf u) t.heap ∧ va_D A (Bf u); rw [ht]; exact ⟨hw.1, hw.2.1⟩⟩, hw.2.2.F ht⟩) hw.2.2.2.2 hd hlk
/-- what a called method needs of the tables, but for the link -/
def KV (y : MethodName) (cc : ByteArray) (n : Nat) (ret : Option FieldType) (np : Nat) : Prop := Cond.instanceMethod y ∈ TBg ∧ Cond.selects y.cls y y ∈ TBg ∧ Cond.initialized y.cls ∈ TBg ∧ Cond.code y cc n ret ∈ TBg ∧ y.cls ≠ "java/lang/invoke/MethodHandle" ∧ y.cls ≠ "java/lang/invoke/VarHandle" ∧ (parseMethodDescriptor y.desc).map (fun d => d.parameters.length) = some np
def KS (y : MethodName) (cc : ByteArray) (n : Nat) (ret : Option FieldType) (np : Nat) : Prop := Cond.static y ∈ TBg ∧ Cond.initialized y.cls ∈ TBg ∧ Cond.code y cc n ret ∈ TBg ∧ y.cls ≠ "java/lang/invoke/MethodHandle" ∧ y.cls ≠ "java/lang/invoke/VarHandle" ∧ (parseMethodDescriptor y.desc).map (fun d => d.parameters.length) = some np
def KI (y : MethodName) (cc : ByteArray) (n : Nat) (np : Nat) : Prop := Cond.instanceMethod y ∈ TBg ∧ Cond.initialized y.cls ∈ TBg ∧ Cond.code y cc n none ∈ TBg ∧ y.cls ≠ "java/lang/invoke/MethodHandle" ∧ y.cls ≠ "java/lang/invoke/VarHandle" ∧ (parseMethodDescriptor y.desc).map (fun d => d.parameters.length) = some np ∧ y.name = "<init>"
def pick (ws : va_W) (is : List Nat) : va_W := is.filterMap (fun i => ws[i]?)
section BASE
variable {p : Program} {l : Launch} {e : Env} {R : Room} {s : State} {m : MethodId} {args : Array Value} {below : List Frame} {meth : Method} {c : Code} {H : Heap} {locs : List Loc} {cells slots : Nat} {Q : State → Prop}
variable {cc : ByteArray} {pc nL : Nat} {ls : Array Slot} {rest stk : List Value} {g : GE} {A : Nat → Prop} {ws ws2 wc : va_W} {own : String} {y : MethodName} {bytes : ByteArray} {maxL np index : Nat} {ret : Option FieldType} {rm : Room} {b : Nat} {As : List Value}
theorem pre_sub (C : Cx p s m args c cc nL own g A) (hw : Wd g A s ws H locs) (isC : List Nat) (hn : va_nd isC = true) (hC : isC.map (fun i => ws[i]?) = wc.map some) {av : List Value} :
    ∀ U : State, U.heap = H → s.WarmedH U.vm → va_Pc av (PreW g wc H.size) av.toArray U := by
  intro U hU hW
  obtain ⟨-, -, -, -, -, hE, hH, hA⟩ := C
  obtain ⟨hP, hD, hS⟩ := hw
  have hF := va_free (wc := wc) hD hS hA isC hC
  have hDc : va_D A wc := hD.sub isC hn hC
  have hPc : va_P g.1 vwCl wc H := by
    intro k q hk
    have h1 : (isC.map (fun i => ws[i]?))[k]? = some (some q) := by rw [hC, List.getElem?_map, hk]; rfl
    rw [List.getElem?_map] at h1
    obtain ⟨i, -, hi⟩ := Option.map_eq_some_iff.mp h1
    exact hP i q hi
  exact ⟨rfl, by rw [hU], by rw [hU]; exact hPc, hE.warm hW, by rw [hU]; exact ((hH.kept hS.2.1).narrow hF).moved hW.alike, hDc.weaken (fun _ _ _ _ => trivial)⟩
theorem good_ws (h : Cond.code y bytes maxL ret ∈ TBg) : GoodIn TBg (ws1 y bytes maxL ret) := gi_all (fun _ h => h) (fun w hw => (List.mem_cons.mp hw).elim (fun e => e ▸ h) id)
theorem ccV {Rr : Room} (hts : ∀ w ∈ TBg, w.before args s = true) (hk : KV y bytes maxL ret np) (hl : Cond.methodLink own index y ∈ TBg) (hR : rm.frames + 1 ≤ Rr.frames ∧ 8 + (maxL + 11) + rm.locals ≤ Rr.locals) :
    CallW Rr s args own y.cls index y bytes maxL ret (ws1 y bytes maxL ret) rm rm.cells rm.slots np := by
  refine cwV np hts ?_ rfl rfl rfl ⟨rfl, hk.2.2.2.2.1, hk.2.2.2.2.2.1, hk.2.2.2.2.2.2⟩ hR
  refine gi_all (fun _ h => h) (fun w hw => ?_)
  rcases List.mem_append.mp hw with h | h
  · simp only [List.mem_cons, List.not_mem_nil, or_false] at h
    rcases h with rfl | rfl | rfl | rfl
    · exact hl
    · exact hk.1
    · exact hk.2.1
    · exact hk.2.2.1
  · exact (List.mem_cons.mp h).elim (fun e => e ▸ hk.2.2.2.1) id
theorem ccS {Rr : Room} (hts : ∀ w ∈ TBg, w.before args s = true) (hk : KS y bytes maxL ret np) (hl : Cond.methodLink own index y ∈ TBg) (hR : rm.frames + 1 ≤ Rr.frames ∧ 8 + (maxL + 11) + rm.locals ≤ Rr.locals) :
    CallB Rr s args own index y bytes maxL ret (ws1 y bytes maxL ret) rm rm.cells rm.slots np ∧ (Cond.static y).before args s = true := by
  refine va_cwS np hts ?_ rfl rfl rfl ⟨hk.2.2.2.1, hk.2.2.2.2.1, hk.2.2.2.2.2⟩ hR
  refine gi_all (fun _ h => h) (fun w hw => ?_)
  rcases List.mem_append.mp hw with h | h
  · simp only [List.mem_cons, List.not_mem_nil, or_false] at h
    rcases h with rfl | rfl | rfl
    · exact hl
    · exact hk.1
    · exact hk.2.1
  · exact (List.mem_cons.mp h).elim (fun e => e ▸ hk.2.2.1) id
theorem nest_in (hE : EV g s) {w : Cond} (h : w ∈ tables_1) (hn : isNest w = true) : va_Nw w s := hE.2.1 w h hn
theorem ccSN {Rr : Room} {host : String} (hts : ∀ w ∈ TBg, w.before args s = true) (hk : KS y bytes maxL ret np) (hl : va_Nw (.methodLinkNest own index y host) s) (hR : rm.frames + 1 ≤ Rr.frames ∧ 8 + (maxL + 11) + rm.locals ≤ Rr.locals) :
    va_CN Rr s args own index y host bytes maxL ret (ws1 y bytes maxL ret) rm rm.cells rm.slots np ∧ (Cond.static y).before args s = true ∧ True :=
  ⟨va_cnB np hts (good_ws hk.2.2.1) rfl rfl rfl hl (hts _ hk.2.1) ⟨hk.2.2.2.1, hk.2.2.2.2.1, hk.2.2.2.2.2⟩ hR, hts _ hk.1, trivial⟩
/-- behind a call: the rest of the world beside what came back, in any order -/
theorem back_join {w1 : va_W} {H1 : Heap} {locs1 : List Loc} (C : Cx p s m args c cc nL own g A) (hw : Wd g A s ws H locs) (isC isR perm : List Nat) (hC : isC.map (fun i => ws[i]?) = wc.map some) (hR : isR.map (fun i => ws[i]?) = (pick ws isR).map some) (hn : va_nd isR = true) (hdis : isR.all (fun i => !isC.contains i) = true) (hpn : va_nd perm = true) (hp : perm.map (fun i => (pick ws isR ++ w1)[i]?) = ws2.map some)
    (hk : ∀ q : Nat, q < H.size → ¬ va_A wc H.size q → H1[q]? = H[q]?) (hP1 : va_P g.1 vwCl w1 H1) (hD1 : va_D (va_A wc H.size) w1) (hS1 : va_S A s.heap H1 locs1) : Wd g A s ws2 H1 locs1 := by
  obtain ⟨-, -, -, -, -, hE, hH, hA⟩ := C
  obtain ⟨hP, hD, hS⟩ := hw
  obtain ⟨hP2, hD2⟩ := va_join hP hD isC isR hC hR hn (fun i hi hj => by
    have h1 := List.all_eq_true.mp hdis i hi
    simp only [Bool.not_eq_true', List.contains_eq_mem, decide_eq_false_iff_not] at h1
    exact h1 hj) hk (va_free (wc := wc) hD hS hA isC hC) hP1 hD1
  refine ⟨?_, hD2.sub perm hpn hp, hS1⟩
  intro k q hq
  have h1 : (perm.map (fun i => (pick ws isR ++ w1)[i]?))[k]? = some (some q) := by rw [hp, List.getElem?_map, hq]; rfl
  rw [List.getElem?_map] at h1
  obtain ⟨i, -, hi⟩ := Option.map_eq_some_iff.mp h1
  exact hP2 i q hi
theorem zroom (h1 : rm.cells = 0) (h2 : rm.slots = 0) : (0 : Nat) + rm.cells ≤ R.cells ∧ (0 : Nat) + rm.slots ≤ R.slots := by rw [h1, h2]; exact ⟨Nat.zero_le _, Nat.zero_le _⟩
variable {lv : List (Nat × Value)}
theorem callVi {S : Type} {post : Int32 → S → Prop} {Bf W2 : S → va_W} (C : Cx p s m args c cc nL own g A) (hw : Wd g A s ws H locs) (hsz : lv_has ls nL lv)
    (hM : Cti l g y bytes maxL ret rm (.ref b :: As) wc post Bf) (hl : Cond.methodLink own index y ∈ TBg) (hk : KV y bytes maxL ret np) (hlen : As.length = np) (hz : rm.cells = 0 ∧ rm.slots = 0) (hR : rm.frames + 1 ≤ R.frames ∧ 8 + (maxL + 11) + rm.locals ≤ R.locals) (hrest : (rest.map fun v => v.category).sum ≤ 8)
    (q0 : Nat) {ci : Nat} {fs : List Value} {qc : vw_C} (he : ws[q0]? = some (b, .inr (ci, fs))) (hc : vwCl[ci]? = some qc) (hcls : qc.1 = y.cls)
    (isC isR perm : List Nat) (hC : isC.map (fun i => ws[i]?) = wc.map some) (hRr : isR.map (fun i => ws[i]?) = (pick ws isR).map some) (hnC : va_nd isC = true) (hn : va_nd isR = true) (hdis : isR.all (fun i => !isC.contains i) = true) (hpn : va_nd perm = true) (hp : ∀ u : S, perm.map (fun i => (pick ws isR ++ Bf u)[i]?) = (W2 u).map some)
    (hst : stk = As.reverse ++ .ref b :: rest) (hdg : decode cc pc = .ok (.invokevirtual index, 3))
    (kk : ∀ (r : Int32) (u : S) (H1 : Heap) (locs1 : List Loc), post r u → Wd g A s (W2 u) H1 locs1 → W p l e R s m args below meth c H1 locs1 0 0 Q (F0 m (pc + 3) ls (.int r :: rest))) :
    W p l e R s m args below meth c H locs 0 0 Q (F0 m pc ls stk) := by
  have hF := va_free (wc := wc) hw.2.1 hw.2.2 C.2.2.2.2.2.2.2 isC hC
  have hrec := va_recv C.2.2.2.2.2.1.1 hw.1 hc he
  rw [hcls] at hrec
  refine va_calli (va_runV (As := As) (rest := rest) ⟨C.1, C.2.1, C.2.2.1, C.2.2.2.1, C.2.2.2.2.1⟩ (hM H.size) (ccV C.2.2.2.2.1 hk hl hR) ⟨PreW.blind g _ _ _, hrec, pre_sub C hw isC hnC hC⟩ rfl hlen hsz.1 hst (lv_room hrest) hdg (zroom hz.1 hz.2)) hw.2.2 (fun q _ h => hF q h) hF (fun r u t H1 locs1 ht hvm hq hB hz1 hk1 hS1 => ?_)
  obtain ⟨hP1, hD1⟩ := hB
  rw [ht] at hP1
  rw [hz.1, hz.2]
  exact kk r u H1 locs1 hq (back_join C hw isC isR perm hC hRr hn hdis hpn (hp u) hk1 hP1 hD1 hS1)
theorem callVl {S : Type} {post : Int64 → S → Prop} {Bf W2 : S → va_W} (C : Cx p s m args c cc nL own g A) (hw : Wd g A s ws H locs) (hsz : lv_has ls nL lv)
    (hM : Ctl l g y bytes maxL ret rm (.ref b :: As) wc post Bf) (hl : Cond.methodLink own index y ∈ TBg) (hk : KV y bytes maxL ret np) (hlen : As.length = np) (hz : rm.cells = 0 ∧ rm.slots = 0) (hR : rm.frames + 1 ≤ R.frames ∧ 8 + (maxL + 11) + rm.locals ≤ R.locals) (hrest : (rest.map fun v => v.category).sum ≤ 8)
    (q0 : Nat) {ci : Nat} {fs : List Value} {qc : vw_C} (he : ws[q0]? = some (b, .inr (ci, fs))) (hc : vwCl[ci]? = some qc) (hcls : qc.1 = y.cls)
    (isC isR perm : List Nat) (hC : isC.map (fun i => ws[i]?) = wc.map some) (hRr : isR.map (fun i => ws[i]?) = (pick ws isR).map some) (hnC : va_nd isC = true) (hn : va_nd isR = true) (hdis : isR.all (fun i => !isC.contains i) = true) (hpn : va_nd perm = true) (hp : ∀ u : S, perm.map (fun i => (pick ws isR ++ Bf u)[i]?) = (W2 u).map some)
    (hst : stk = As.reverse ++ .ref b :: rest) (hdg : decode cc pc = .ok (.invokevirtual index, 3))
    (kk : ∀ (r : Int64) (u : S) (H1 : Heap) (locs1 : List Loc), post r u → Wd g A s (W2 u) H1 locs1 → W p l e R s m args below meth c H1 locs1 0 0 Q (F0 m (pc + 3) ls (.long r :: rest))) :
    W p l e R s m args below meth c H locs 0 0 Q (F0 m pc ls stk) := by
  have hF := va_free (wc := wc) hw.2.1 hw.2.2 C.2.2.2.2.2.2.2 isC hC
  have hrec := va_recv C.2.2.2.2.2.1.1 hw.1 hc he
  rw [hcls] at hrec
  refine va_calll (va_runV (As := As) (rest := rest) ⟨C.1, C.2.1, C.2.2.1, C.2.2.2.1, C.2.2.2.2.1⟩ (hM H.size) (ccV C.2.2.2.2.1 hk hl hR) ⟨PreW.blind g _ _ _, hrec, pre_sub C hw isC hnC hC⟩ rfl hlen hsz.1 hst (lv_room hrest) hdg (zroom hz.1 hz.2)) hw.2.2 (fun q _ h => hF q h) hF (fun r u t H1 locs1 ht hvm hq hB hz1 hk1 hS1 => ?_)
  obtain ⟨hP1, hD1⟩ := hB
  rw [ht] at hP1
  rw [hz.1, hz.2]
  exact kk r u H1 locs1 hq (back_join C hw isC isR perm hC hRr hn hdis hpn (hp u) hk1 hP1 hD1 hS1)
theorem callVv {S : Type} {post : S → Prop} {Bf W2 : S → va_W} (C : Cx p s m args c cc nL own g A) (hw : Wd g A s ws H locs) (hsz : lv_has ls nL lv)
    (hM : Ctv l g y bytes maxL ret rm (.ref b :: As) wc post Bf) (hl : Cond.methodLink own index y ∈ TBg) (hk : KV y bytes maxL ret np) (hlen : As.length = np) (hz : rm.cells = 0 ∧ rm.slots = 0) (hR : rm.frames + 1 ≤ R.frames ∧ 8 + (maxL + 11) + rm.locals ≤ R.locals) (hrest : (rest.map fun v => v.category).sum ≤ 8)
    (q0 : Nat) {ci : Nat} {fs : List Value} {qc : vw_C} (he : ws[q0]? = some (b, .inr (ci, fs))) (hc : vwCl[ci]? = some qc) (hcls : qc.1 = y.cls)
    (isC isR perm : List Nat) (hC : isC.map (fun i => ws[i]?) = wc.map some) (hRr : isR.map (fun i => ws[i]?) = (pick ws isR).map some) (hnC : va_nd isC = true) (hn : va_nd isR = true) (hdis : isR.all (fun i => !isC.contains i) = true) (hpn : va_nd perm = true) (hp : ∀ u : S, perm.map (fun i => (pick ws isR ++ Bf u)[i]?) = (W2 u).map some)
    (hst : stk = As.reverse ++ .ref b :: rest) (hdg : decode cc pc = .ok (.invokevirtual index, 3))
    (kk : ∀ (u : S) (H1 : Heap) (locs1 : List Loc), post u → Wd g A s (W2 u) H1 locs1 → W p l e R s m args below meth c H1 locs1 0 0 Q (F0 m (pc + 3) ls rest)) :
    W p l e R s m args below meth c H locs 0 0 Q (F0 m pc ls stk) := by
  have hF := va_free (wc := wc) hw.2.1 hw.2.2 C.2.2.2.2.2.2.2 isC hC
  have hrec := va_recv C.2.2.2.2.2.1.1 hw.1 hc he
  rw [hcls] at hrec
  refine va_callv (va_runV (As := As) (rest := rest) ⟨C.1, C.2.1, C.2.2.1, C.2.2.2.1, C.2.2.2.2.1⟩ (hM H.size) (ccV C.2.2.2.2.1 hk hl hR) ⟨PreW.blind g _ _ _, hrec, pre_sub C hw isC hnC hC⟩ rfl hlen hsz.1 hst (lv_room hrest) hdg (zroom hz.1 hz.2)) hw.2.2 (fun q _ h => hF q h) hF (fun u t H1 locs1 ht hvm hq hB hz1 hk1 hS1 => ?_)
  obtain ⟨hP1, hD1⟩ := hB
  rw [ht] at hP1
  rw [hz.1, hz.2]
  exact kk u H1 locs1 hq (back_join C hw isC isR perm hC hRr hn hdis hpn (hp u) hk1 hP1 hD1 hS1)
theorem callVr {S : Type} {ra : Nat} {post : S → Prop} {Bf W2 : S → va_W} (C : Cx p s m args c cc nL own g A) (hw : Wd g A s ws H locs) (hsz : lv_has ls nL lv)
    (hM : Ctr l g y bytes maxL ret rm (.ref b :: As) wc ra post Bf) (hl : Cond.methodLink own index y ∈ TBg) (hk : KV y bytes maxL ret np) (hlen : As.length = np) (hz : rm.cells = 0 ∧ rm.slots = 0) (hR : rm.frames + 1 ≤ R.frames ∧ 8 + (maxL + 11) + rm.locals ≤ R.locals) (hrest : (rest.map fun v => v.category).sum ≤ 8)
    (q0 : Nat) {ci : Nat} {fs : List Value} {qc : vw_C} (he : ws[q0]? = some (b, .inr (ci, fs))) (hc : vwCl[ci]? = some qc) (hcls : qc.1 = y.cls)
    (isC isR perm : List Nat) (hC : isC.map (fun i => ws[i]?) = wc.map some) (hRr : isR.map (fun i => ws[i]?) = (pick ws isR).map some) (hnC : va_nd isC = true) (hn : va_nd isR = true) (hdis : isR.all (fun i => !isC.contains i) = true) (hpn : va_nd perm = true) (hp : ∀ u : S, perm.map (fun i => (pick ws isR ++ Bf u)[i]?) = (W2 u).map some)
    (hst : stk = As.reverse ++ .ref b :: rest) (hdg : decode cc pc = .ok (.invokevirtual index, 3))
    (kk : ∀ (u : S) (H1 : Heap) (locs1 : List Loc), post u → Wd g A s (W2 u) H1 locs1 → W p l e R s m args below meth c H1 locs1 0 0 Q (F0 m (pc + 3) ls (.ref ra :: rest))) :
    W p l e R s m args below meth c H locs 0 0 Q (F0 m pc ls stk) := by
  have hF := va_free (wc := wc) hw.2.1 hw.2.2 C.2.2.2.2.2.2.2 isC hC
  have hrec := va_recv C.2.2.2.2.2.1.1 hw.1 hc he
  rw [hcls] at hrec
  refine va_callr (va_runV (As := As) (rest := rest) ⟨C.1, C.2.1, C.2.2.1, C.2.2.2.1, C.2.2.2.2.1⟩ (hM H.size) (ccV C.2.2.2.2.1 hk hl hR) ⟨PreW.blind g _ _ _, hrec, pre_sub C hw isC hnC hC⟩ rfl hlen hsz.1 hst (lv_room hrest) hdg (zroom hz.1 hz.2)) hw.2.2 (fun q _ h => hF q h) hF (fun u ra1 t H1 locs1 ht hvm hq hB hz1 hk1 hS1 => ?_)
  obtain ⟨rfl, hP1, hD1⟩ := hB
  rw [ht] at hP1
  rw [hz.1, hz.2]
  exact kk u H1 locs1 hq (back_join C hw isC isR perm hC hRr hn hdis hpn (hp u) hk1 hP1 hD1 hS1)
/-- a static call over no cells: the world stays -/
theorem keepW {H1 : Heap} {locs1 : List Loc} (hw : Wd g A s ws H locs) (hk : ∀ q : Nat, q < H.size → ¬ va_A [] H.size q → H1[q]? = H[q]?) (hS1 : va_S A s.heap H1 locs1) : Wd g A s ws H1 locs1 :=
  ⟨hw.1.kept (fun k q hq => hk q.1 (hw.1 k q hq).lt (fun h => by
    rcases h with ⟨k2, e2, h2⟩ | h2
    · simp at h2
    · exact absurd (hw.1 k q hq).lt (Nat.not_lt.mpr h2))), hw.2.1, hS1⟩
theorem callSi {S : Type} {post : Int32 → S → Prop} {Bf : S → va_W} (C : Cx p s m args c cc nL own g A) (hw : Wd g A s ws H locs) (hsz : lv_has ls nL lv)
    (hM : Cti l g y bytes maxL ret rm As [] post Bf) (hl : Cond.methodLink own index y ∈ TBg) (hk : KS y bytes maxL ret np) (hlen : As.length = np) (hz : rm.cells = 0 ∧ rm.slots = 0) (hR : rm.frames + 1 ≤ R.frames ∧ 8 + (maxL + 11) + rm.locals ≤ R.locals) (hrest : (rest.map fun v => v.category).sum ≤ 8)
    (hst : stk = As.reverse ++ rest) (hdg : decode cc pc = .ok (.invokestatic index, 3))
    (kk : ∀ (r : Int32) (u : S) (H1 : Heap) (locs1 : List Loc), post r u → Wd g A s ws H1 locs1 → W p l e R s m args below meth c H1 locs1 0 0 Q (F0 m (pc + 3) ls (.int r :: rest))) :
    W p l e R s m args below meth c H locs 0 0 Q (F0 m pc ls stk) := by
  have hF := va_free (wc := []) hw.2.1 hw.2.2 C.2.2.2.2.2.2.2 [] rfl
  refine va_calli (va_runS (As := As) (rest := rest) ⟨C.1, C.2.1, C.2.2.1, C.2.2.2.1, C.2.2.2.2.1⟩ (hM H.size) (ccS C.2.2.2.2.1 hk hl hR) ⟨PreW.blind g _ _ _, pre_sub C hw [] rfl rfl⟩ rfl hlen hsz.1 hst (lv_room hrest) hdg (zroom hz.1 hz.2)) hw.2.2 (fun q _ h => hF q h) hF (fun r u t H1 locs1 ht hvm hq hB hz1 hk1 hS1 => ?_)
  rw [hz.1, hz.2]
  exact kk r u H1 locs1 hq (keepW hw hk1 hS1)
theorem callSl {S : Type} {post : Int64 → S → Prop} {Bf : S → va_W} (C : Cx p s m args c cc nL own g A) (hw : Wd g A s ws H locs) (hsz : lv_has ls nL lv)
    (hM : Ctl l g y bytes maxL ret rm As [] post Bf) (hl : Cond.methodLink own index y ∈ TBg) (hk : KS y bytes maxL ret np) (hlen : As.length = np) (hz : rm.cells = 0 ∧ rm.slots = 0) (hR : rm.frames + 1 ≤ R.frames ∧ 8 + (maxL + 11) + rm.locals ≤ R.locals) (hrest : (rest.map fun v => v.category).sum ≤ 8)
    (hst : stk = As.reverse ++ rest) (hdg : decode cc pc = .ok (.invokestatic index, 3))
    (kk : ∀ (r : Int64) (u : S) (H1 : Heap) (locs1 : List Loc), post r u → Wd g A s ws H1 locs1 → W p l e R s m args below meth c H1 locs1 0 0 Q (F0 m (pc + 3) ls (.long r :: rest))) :
    W p l e R s m args below meth c H locs 0 0 Q (F0 m pc ls stk) := by
  have hF := va_free (wc := []) hw.2.1 hw.2.2 C.2.2.2.2.2.2.2 [] rfl
  refine va_calll (va_runS (As := As) (rest := rest) ⟨C.1, C.2.1, C.2.2.1, C.2.2.2.1, C.2.2.2.2.1⟩ (hM H.size) (ccS C.2.2.2.2.1 hk hl hR) ⟨PreW.blind g _ _ _, pre_sub C hw [] rfl rfl⟩ rfl hlen hsz.1 hst (lv_room hrest) hdg (zroom hz.1 hz.2)) hw.2.2 (fun q _ h => hF q h) hF (fun r u t H1 locs1 ht hvm hq hB hz1 hk1 hS1 => ?_)
  rw [hz.1, hz.2]
  exact kk r u H1 locs1 hq (keepW hw hk1 hS1)
theorem callNi {S : Type} {host : String} {post : Int32 → S → Prop} {Bf : S → va_W} (C : Cx p s m args c cc nL own g A) (hw : Wd g A s ws H locs) (hsz : lv_has ls nL lv)
    (hM : Cti l g y bytes maxL ret rm As [] post Bf) (hl : va_Nw (.methodLinkNest own index y host) s) (hk : KS y bytes maxL ret np) (hlen : As.length = np) (hz : rm.cells = 0 ∧ rm.slots = 0) (hR : rm.frames + 1 ≤ R.frames ∧ 8 + (maxL + 11) + rm.locals ≤ R.locals) (hrest : (rest.map fun v => v.category).sum ≤ 8)
    (hst : stk = As.reverse ++ rest) (hdg : decode cc pc = .ok (.invokestatic index, 3))
    (kk : ∀ (r : Int32) (u : S) (H1 : Heap) (locs1 : List Loc), post r u → Wd g A s ws H1 locs1 → W p l e R s m args below meth c H1 locs1 0 0 Q (F0 m (pc + 3) ls (.int r :: rest))) :
    W p l e R s m args below meth c H locs 0 0 Q (F0 m pc ls stk) := by
  have hF := va_free (wc := []) hw.2.1 hw.2.2 C.2.2.2.2.2.2.2 [] rfl
  refine va_calli (va_runSN (As := As) (rest := rest) ⟨C.1, C.2.1, C.2.2.1, C.2.2.2.1, C.2.2.2.2.1⟩ (hM H.size) (ccSN C.2.2.2.2.1 hk hl hR) ⟨PreW.blind g _ _ _, pre_sub C hw [] rfl rfl⟩ rfl hlen hsz.1 hst (lv_room hrest) hdg (zroom hz.1 hz.2)) hw.2.2 (fun q _ h => hF q h) hF (fun r u t H1 locs1 ht hvm hq hB hz1 hk1 hS1 => ?_)
  rw [hz.1, hz.2]
  exact kk r u H1 locs1 hq (keepW hw hk1 hS1)
theorem callNl {S : Type} {host : String} {post : Int64 → S → Prop} {Bf : S → va_W} (C : Cx p s m args c cc nL own g A) (hw : Wd g A s ws H locs) (hsz : lv_has ls nL lv)
    (hM : Ctl l g y bytes maxL ret rm As [] post Bf) (hl : va_Nw (.methodLinkNest own index y host) s) (hk : KS y bytes maxL ret np) (hlen : As.length = np) (hz : rm.cells = 0 ∧ rm.slots = 0) (hR : rm.frames + 1 ≤ R.frames ∧ 8 + (maxL + 11) + rm.locals ≤ R.locals) (hrest : (rest.map fun v => v.category).sum ≤ 8)
    (hst : stk = As.reverse ++ rest) (hdg : decode cc pc = .ok (.invokestatic index, 3))
    (kk : ∀ (r : Int64) (u : S) (H1 : Heap) (locs1 : List Loc), post r u → Wd g A s ws H1 locs1 → W p l e R s m args below meth c H1 locs1 0 0 Q (F0 m (pc + 3) ls (.long r :: rest))) :
    W p l e R s m args below meth c H locs 0 0 Q (F0 m pc ls stk) := by
  have hF := va_free (wc := []) hw.2.1 hw.2.2 C.2.2.2.2.2.2.2 [] rfl
  refine va_calll (va_runSN (As := As) (rest := rest) ⟨C.1, C.2.1, C.2.2.1, C.2.2.2.1, C.2.2.2.2.1⟩ (hM H.size) (ccSN C.2.2.2.2.1 hk hl hR) ⟨PreW.blind g _ _ _, pre_sub C hw [] rfl rfl⟩ rfl hlen hsz.1 hst (lv_room hrest) hdg (zroom hz.1 hz.2)) hw.2.2 (fun q _ h => hF q h) hF (fun r u t H1 locs1 ht hvm hq hB hz1 hk1 hS1 => ?_)
  rw [hz.1, hz.2]
  exact kk r u H1 locs1 hq (keepW hw hk1 hS1)
/-- a static call over cells (Arrays.fill) -/
theorem callSv {S : Type} {post : S → Prop} {Bf W2 : S → va_W} (C : Cx p s m args c cc nL own g A) (hw : Wd g A s ws H locs) (hsz : lv_has ls nL lv)
    (hM : Ctv l g y bytes maxL ret rm As wc post Bf) (hl : Cond.methodLink own index y ∈ TBg) (hk : KS y bytes maxL ret np) (hlen : As.length = np) (hz : rm.cells = 0 ∧ rm.slots = 0) (hR : rm.frames + 1 ≤ R.frames ∧ 8 + (maxL + 11) + rm.locals ≤ R.locals) (hrest : (rest.map fun v => v.category).sum ≤ 8)
    (isC isR perm : List Nat) (hC : isC.map (fun i => ws[i]?) = wc.map some) (hRr : isR.map (fun i => ws[i]?) = (pick ws isR).map some) (hnC : va_nd isC = true) (hn : va_nd isR = true) (hdis : isR.all (fun i => !isC.contains i) = true) (hpn : va_nd perm = true) (hp : ∀ u : S, perm.map (fun i => (pick ws isR ++ Bf u)[i]?) = (W2 u).map some)
    (hst : stk = As.reverse ++ rest) (hdg : decode cc pc = .ok (.invokestatic index, 3))
    (kk : ∀ (u : S) (H1 : Heap) (locs1 : List Loc), post u → Wd g A s (W2 u) H1 locs1 → W p l e R s m args below meth c H1 locs1 0 0 Q (F0 m (pc + 3) ls rest)) :
    W p l e R s m args below meth c H locs 0 0 Q (F0 m pc ls stk) := by
  have hF := va_free (wc := wc) hw.2.1 hw.2.2 C.2.2.2.2.2.2.2 isC hC
  refine va_callv (va_runS (As := As) (rest := rest) ⟨C.1, C.2.1, C.2.2.1, C.2.2.2.1, C.2.2.2.2.1⟩ (hM H.size) (ccS C.2.2.2.2.1 hk hl hR) ⟨PreW.blind g _ _ _, pre_sub C hw isC hnC hC⟩ rfl hlen hsz.1 hst (lv_room hrest) hdg (zroom hz.1 hz.2)) hw.2.2 (fun q _ h => hF q h) hF (fun u t H1 locs1 ht hvm hq hB hz1 hk1 hS1 => ?_)
  obtain ⟨hP1, hD1⟩ := hB
  rw [ht] at hP1
  rw [hz.1, hz.2]
  exact kk u H1 locs1 hq (back_join C hw isC isR perm hC hRr hn hdis hpn (hp u) hk1 hP1 hD1 hS1)
/-- arrays of ints and of booleans -/
theorem aldI (C : Cx p s m args c cc nL own g A) (hw : Wd g A s ws H locs) (q0 : Nat) {a n : Nat} {f : Nat → Int32} (ha : ws[q0]? = some (a, .inl (g.2.1.1, n, .inl f))) {i : Int32} (hin : vp_in i n) (hdg : decode cc pc = .ok (.iaload, 1))
    (kk : W p l e R s m args below meth c H locs cells slots Q (F0 m (pc + 1) ls (.int (f i.toNatClampNeg) :: rest))) : W p l e R s m args below meth c H locs cells slots Q (F0 m pc ls (.int i :: .ref a :: rest)) :=
  va_iald C.1 C.2.1 C.2.2.2.2.2.1.1 hw.1 q0 0 ha rfl hin hdg kk
theorem aldZ (C : Cx p s m args c cc nL own g A) (hw : Wd g A s ws H locs) (q0 : Nat) {a n : Nat} {f : Nat → Int32} (ha : ws[q0]? = some (a, .inl (g.2.1.2, n, .inl f))) {i : Int32} (hin : vp_in i n) (hdg : decode cc pc = .ok (.baload, 1))
    (kk : W p l e R s m args below meth c H locs cells slots Q (F0 m (pc + 1) ls (.int (f i.toNatClampNeg) :: rest))) : W p l e R s m args below meth c H locs cells slots Q (F0 m pc ls (.int i :: .ref a :: rest)) :=
  va_zald C.1 C.2.1 C.2.2.2.2.2.1.1 hw.1 q0 1 ha rfl hin hdg kk
theorem astI (C : Cx p s m args c cc nL own g A) (hw : Wd g A s ws H locs) (q0 : Nat) {a n : Nat} {f : Nat → Int32} (ha : ws[q0]? = some (a, .inl (g.2.1.1, n, .inl f))) {i x : Int32} (hin : vp_in i n) (h2 : ws.set q0 (a, .inl (g.2.1.1, n, .inl (upd f i.toNatClampNeg x))) = ws2) (hdg : decode cc pc = .ok (.iastore, 1))
    (kk : ∀ (H1 : Heap) (locs1 : List Loc), Wd g A s ws2 H1 locs1 → W p l e R s m args below meth c H1 locs1 cells slots Q (F0 m (pc + 1) ls rest)) : W p l e R s m args below meth c H locs cells slots Q (F0 m pc ls (.int x :: .int i :: .ref a :: rest)) :=
  va_iast C.1 C.2.1 C.2.2.2.2.2.1.1 hw.1 hw.2.1 hw.2.2 q0 0 ha rfl hin hdg (fun H1 locs1 h3 h4 h5 => kk H1 locs1 (h2 ▸ ⟨h3, h4, h5⟩))
theorem astZ (C : Cx p s m args c cc nL own g A) (hw : Wd g A s ws H locs) (q0 : Nat) {a n : Nat} {f : Nat → Int32} (ha : ws[q0]? = some (a, .inl (g.2.1.2, n, .inl f))) {i x : Int32} (hin : vp_in i n) (h2 : ws.set q0 (a, .inl (g.2.1.2, n, .inl (upd f i.toNatClampNeg (vp_nar .boolean x)))) = ws2) (hdg : decode cc pc = .ok (.bastore, 1))
    (kk : ∀ (H1 : Heap) (locs1 : List Loc), Wd g A s ws2 H1 locs1 → W p l e R s m args below meth c H1 locs1 cells slots Q (F0 m (pc + 1) ls rest)) : W p l e R s m args below meth c H locs cells slots Q (F0 m pc ls (.int x :: .int i :: .ref a :: rest)) :=
  va_zast C.1 C.2.1 C.2.2.2.2.2.1.1 hw.1 hw.2.1 hw.2.2 q0 1 ha rfl hin hdg (fun H1 locs1 h3 h4 h5 => kk H1 locs1 (h2 ▸ ⟨h3, h4, h5⟩))
theorem alnI (C : Cx p s m args c cc nL own g A) (hw : Wd g A s ws H locs) (q0 : Nat) {a n : Nat} {f : Nat → Int32} (ha : ws[q0]? = some (a, .inl (g.2.1.1, n, .inl f))) (hdg : decode cc pc = .ok (.arraylength, 1))
    (kk : W p l e R s m args below meth c H locs cells slots Q (F0 m (pc + 1) ls (.int (nI n) :: rest))) : W p l e R s m args below meth c H locs cells slots Q (F0 m pc ls (.ref a :: rest)) :=
  va_alen C.1 C.2.1 C.2.2.2.2.2.1.1 hw.1 q0 0 ha rfl rfl hdg kk
theorem mmax (C : Cx p s m args c cc nL own g A) (hsz : lv_has ls nL lv) (hl : Cond.methodLink own index Lib.Math.max.name ∈ TBg) (hk : Cond.static Lib.Math.max.name ∈ TBg ∧ Cond.initialized "java/lang/Math" ∈ TBg ∧ Cond.code Lib.Math.max.name Lib.Math.max.code 2 (some .int) ∈ TBg) (hR : 1 ≤ R.frames ∧ (rest.map fun v => v.category).sum + 13 ≤ R.locals) {x z : Int32} (hdg : decode cc pc = .ok (.invokestatic index, 3))
    (kk : W p l e R s m args below meth c H locs 0 0 Q (F0 m (pc + 3) ls (.int (if x < z then z else x) :: rest))) : W p l e R s m args below meth c H locs 0 0 Q (F0 m pc ls (.int z :: .int x :: rest)) :=
  va_mmax C.1 C.2.1 (C.2.2.1.trans hsz.1.symm) C.2.2.2.1 (C.2.2.2.2.1 _ hl) (C.2.2.2.2.1 _ hk.1) (C.2.2.2.2.1 _ hk.2.1) (C.2.2.2.2.1 _ hk.2.2) hR.1 hR.2 (Nat.zero_le _) (Nat.zero_le _) hdg kk
theorem mmin (C : Cx p s m args c cc nL own g A) (hsz : lv_has ls nL lv) (hl : Cond.methodLink own index Lib.Math.min.name ∈ TBg) (hk : Cond.static Lib.Math.min.name ∈ TBg ∧ Cond.initialized "java/lang/Math" ∈ TBg ∧ Cond.code Lib.Math.min.name Lib.Math.min.code 2 (some .int) ∈ TBg) (hR : 1 ≤ R.frames ∧ (rest.map fun v => v.category).sum + 13 ≤ R.locals) {x z : Int32} (hdg : decode cc pc = .ok (.invokestatic index, 3))
    (kk : W p l e R s m args below meth c H locs 0 0 Q (F0 m (pc + 3) ls (.int (if z < x then z else x) :: rest))) : W p l e R s m args below meth c H locs 0 0 Q (F0 m pc ls (.int z :: .int x :: rest)) :=
  va_mmin C.1 C.2.1 (C.2.2.1.trans hsz.1.symm) C.2.2.2.1 (C.2.2.2.2.1 _ hl) (C.2.2.2.2.1 _ hk.1) (C.2.2.2.2.1 _ hk.2.1) (C.2.2.2.2.1 _ hk.2.2) hR.1 hR.2 (Nat.zero_le _) (Nat.zero_le _) hdg kk
end BASE
abbrev oc (a ci : Nat) (fs : List Value) : Nat × va_E := (a, .inr (ci, fs))
abbrev ai (g : GE) (a n : Nat) (f : Nat → Int32) : Nat × va_E := (a, .inl (g.2.1.1, n, .inl f))
abbrev az (g : GE) (a n : Nat) (f : Nat → Int32) : Nat × va_E := (a, .inl (g.2.1.2, n, .inl f))
/-- a switch's default -/
theorem sw_out {x : Int32} {lo hi : Int} (h : ∀ z : Int, lo ≤ z → z ≤ hi → x.toInt ≠ z) : x.toInt < lo ∨ hi < x.toInt := by
  rcases Int.lt_or_le x.toInt lo with h1 | h1
  · exact Or.inl h1
  · rcases Int.lt_or_le hi x.toInt with h2 | h2
    · exact Or.inr h2
    · exact absurd rfl (h _ h1 h2)
theorem sw_ne {x k : Int32} {z : Int} (h : ¬ x = k) (hk : k.toInt = z) : x.toInt ≠ z := fun e => h (Int32.toInt_inj.mp (e.trans hk.symm))
