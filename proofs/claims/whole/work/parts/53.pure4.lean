/-! PURE 4: the likest case, on both sides -/
theorem s_likest {n k a S : Nat} {w d y : Nat → Nat} {each sums deeds elders : Nat → Int32} {Q : Int32 → Prop} (hk : k ≤ 12) (hW : ScOK n w each sums) (ha : a < 2 ^ n) (hS : S < 2147483648) (hd : ∀ i, i < k → deeds i = nI (d i) ∧ d i < 2 ^ n) (hE : ElOK k y elders)
    (h : Q (enc (bst (fun i => sw w n (a ^^^ d i)) (eldB y) (fun i => S.testBit i) k))) : P_Roll_likest (nI a) (nI S) (nI k) deeds elders sums Q := by
  have hn := pw10 hW.1
  have hUb : ∀ i, sw w n (a ^^^ d i) ≤ 90 := fun i => by
    have h1 := sw_le (w := w) (n := n) (s := a ^^^ d i) (fun p hp => (hW.2.1 p hp).2)
    have := hW.1
    omega
  generalize hU : (fun i => sw w n (a ^^^ d i)) = U at h
  have hUe : ∀ i, sw w n (a ^^^ d i) = U i := fun i => by rw [← hU]
  have hU90 : ∀ i, U i ≤ 90 := fun i => by rw [← hUe]; exact hUb i
  generalize hBB : bst U (eldB y) (fun i => S.testBit i) = B at h
  have hA := lpf (fun m i => ∀ x5, (∀ b, B i = some b → x5 = nI (U b)) → L_Roll_likest_9 (nI a) (nI S) (nI k) deeds elders sums Q m (enc (B i)) x5 (nI i)) 0 k (Nat.zero_le _) (fun m x5 hx => ?_) (fun m i _ hi ih x5 hx => ?_)
  · obtain ⟨m, hm⟩ := hA
    have h0 := hm 0 (fun b hb => by rw [← hBB] at hb; cases hb)
    rw [← hBB] at h0
    exact ⟨m, h0⟩
  · exact jle (by omega) (by omega) (fun _ => h) (fun c => absurd c (by omega))
  · have go80 : B (i + 1) = some i → B_Roll_likest_80 (nI a) (nI S) (nI k) deeds elders sums Q (L_Roll_likest_9 (nI a) (nI S) (nI k) deeds elders sums Q m) (nI i) (nI (U i)) := by
      intro hb
      show L_Roll_likest_9 _ _ _ _ _ _ _ _ (nI i) (nI (U i)) (nI i + 1)
      rw [← nI_succ]
      have h1 := ih (nI (U i)) (fun b e => by rw [hb] at e; cases e; rfl)
      rw [hb] at h1
      exact h1
    have go88 : B (i + 1) = B i → B_Roll_likest_88 (nI a) (nI S) (nI k) deeds elders sums Q (L_Roll_likest_9 (nI a) (nI S) (nI k) deeds elders sums Q m) (enc (B i)) x5 (nI i) := by
      intro hb
      show L_Roll_likest_9 _ _ _ _ _ _ _ _ (enc (B i)) x5 (nI i + 1)
      rw [← nI_succ]
      have h1 := ih x5 (fun b e => by rw [hb] at e; exact hx b e)
      rw [hb] at h1
      exact h1
    refine jle (by omega) (by omega) (fun c => absurd c (by omega)) (fun _ => s_holds hS (by omega) (jb (fun c => ⟨vpn (by omega) (by decide), ?_⟩) (fun c => go88 ?_)))
    · rw [clI (by omega), (hd i hi).1, xorI]
      refine s_together hW (xor_lt ha (hd i hi).2) ?_
      rw [hUe]
      cases hB : B i with
      | none =>
        rw [← hBB] at hB
        exact br_t rfl (go80 (by rw [← hBB]; exact bst_first c hB))
      | some b =>
        have hb := hB
        rw [← hBB] at hb
        have hbi := bst_in hb
        have hx5 := hx b hB
        subst hx5
        have gN : (U i < U b ∨ (U i = U b ∧ eldB y i b = true)) → B (i + 1) = some i := fun z => by rw [← hBB]; exact bst_new c hb z
        have gO : ¬ (U i < U b ∨ (U i = U b ∧ eldB y i b = true)) → B (i + 1) = B i := fun z => by rw [hB, ← hBB]; exact bst_old c hb z
        rw [hB] at go88
        have u1 := hU90 i
        have u2 := hU90 b
        refine br_f (nI_m1 (by omega)) (jlt (by omega) (by omega) (fun z => go80 (gN (Or.inl z))) (fun z => jne (by omega) (by omega) (fun z2 => go88 (gO (fun q => by rcases q with q | q <;> omega) |>.trans hB)) (fun z2 => ⟨vpn (by omega) (by decide), ?_⟩)))
        show P_LC_holds (elders (nI b).toNatClampNeg) (nI i) _
        rw [clI (by omega), hE b (by omega)]
        have hes := Nat.lt_of_lt_of_le (es_lt y k b) (pw12 hk)
        refine s_holds (by omega) (by omega) (jb' (fun z3 => go88 ((gO (fun q => ?_)).trans hB)) (fun z3 => go80 (gN (Or.inr ⟨z2, ?_⟩))))
        · rcases q with q | q
          · omega
          · apply z3
            rw [es_bit, q.2]
            simp [hi]
        · rw [es_bit] at z3
          simp only [Bool.and_eq_true] at z3
          exact z3.2
    · rw [← hBB]
      exact bst_no (Bool.eq_false_iff.mpr c)
/-- a set by its bits -/
def mk (p : Nat → Bool) : Nat → Nat
  | 0 => 0
  | k + 1 => mk p k ||| (if p k then 2 ^ k else 0)
theorem mk_bit (p : Nat → Bool) : ∀ (k o : Nat), (mk p k).testBit o = (decide (o < k) && p o)
  | 0, o => by simp [mk]
  | k + 1, o => by
    show (mk p k ||| (if p k then 2 ^ k else 0)).testBit o = _
    rw [Nat.testBit_or, mk_bit p k o]
    by_cases c : p k = true
    · rw [if_pos c, Nat.testBit_two_pow]
      by_cases e : k = o
      · subst e; simp [c]
      · by_cases l : o < k
        · simp [l, e, show o < k + 1 by omega]
        · simp [l, e, show ¬ o < k + 1 by omega]
    · rw [if_neg c, Nat.zero_testBit, Bool.or_false]
      by_cases e : k = o
      · subst e; simp [Bool.eq_false_iff.mpr c]
      · by_cases l : o < k
        · simp [l, show o < k + 1 by omega]
        · simp [l, show ¬ o < k + 1 by omega]
theorem mk_lt (p : Nat → Bool) (k : Nat) : mk p k < 2 ^ k := by
  induction k with
  | zero => exact Nat.one_pos
  | succ k ih =>
    show mk p k ||| (if p k then 2 ^ k else 0) < 2 ^ (k + 1)
    refine Nat.or_lt_two_pow (Nat.lt_of_lt_of_le ih (pw (by omega))) ?_
    by_cases c : p k = true
    · rw [if_pos c]; exact Nat.pow_lt_pow_right (by decide) (by omega)
    · rw [if_neg c]; exact Nat.lt_of_lt_of_le Nat.one_pos (pw1 _)
theorem mk_cong {p q : Nat → Bool} : ∀ {k : Nat}, (∀ i, i < k → p i = q i) → mk p k = mk q k
  | 0, _ => rfl
  | k + 1, h => by
    show mk p k ||| (if p k then 2 ^ k else 0) = mk q k ||| (if q k then 2 ^ k else 0)
    rw [mk_cong (fun i hi => h i (by omega)), h k (by omega)]
theorem mk_zero {p : Nat → Bool} {k : Nat} : mk p k = 0 ↔ ∀ i, i < k → p i = false := by
  constructor
  · intro h i hi
    have h1 := mk_bit p k i
    rw [h, Nat.zero_testBit] at h1
    simp only [hi, decide_true, Bool.true_and] at h1
    exact h1.symm
  · intro h
    apply Nat.eq_of_testBit_eq
    intro o
    rw [mk_bit, Nat.zero_testBit]
    by_cases c : o < k
    · rw [h o c]; simp
    · simp [c]
/-- whether case c follows in the set S -/
def fol (w : Nat → Nat) (n : Nat) (d y j : Nat → Nat) (S : Nat → Bool) (k c : Nat) : Bool := match bst (fun i => sw w n (d c ^^^ d i)) (eldB y) (fun i => S i && eldB y i c) k with
  | none => true
  | some b => decide (j b = j c)
theorem allN {k : Nat} (hk : k < 31) : ((1 : Int32) <<< (nI k &&& 31)) - 1 = nI (2 ^ k - 1) := by
  rw [sh1 hk, show (1 : Int32) = nI 1 from rfl, pk_sub (pw1 k)]
theorem s_rdeed {k i : Nat} {d : Nat → Nat} {deeds : Nat → Int32} {Q : Int32 → Prop} (hk : k ≤ 12) (hi : i < k) (hd : deeds i = nI (d i)) (h : Q (nI (d i))) : P_Roll_deedOf (nI i) (nI k) deeds Q := by
  refine jneg (by omega) (jle (by omega) (by omega) (fun c => absurd c (by omega)) (fun _ => ⟨vpn (by omega) (by decide), ?_⟩))
  show Q (deeds (nI i).toNatClampNeg)
  rw [clI (by omega), hd]
  exact h
theorem s_relders {k i : Nat} {elders : Nat → Int32} {v : Int32} {Q : Int32 → Prop} (hk : k ≤ 12) (hi : i < k) (hd : elders i = v) (h : Q v) : P_Roll_eldersOf (nI i) (nI k) elders Q := by
  refine s_rhas (by omega) (jb' (fun c => absurd (vpn hi (by omega)) c) (fun _ => ⟨vpn (by omega) (by decide), ?_⟩))
  show Q (elders (nI i).toNatClampNeg)
  rw [clI (by omega), hd]
  exact h
theorem s_rfirst {k i : Nat} {fj : Nat → Int32} {v : Int32} {Q : Int32 → Prop} (hk : k ≤ 12) (hi : i < k) (hd : fj i = v) (h : Q v) : P_Roll_firstJudgmentOf (nI i) (nI k) fj Q := by
  refine s_rhas (by omega) (jb' (fun c => absurd (vpn hi (by omega)) c) (fun _ => ⟨vpn (by omega) (by decide), ?_⟩))
  show Q (fj (nI i).toNatClampNeg)
  rw [clI (by omega), hd]
  exact h
theorem s_ryear {k i : Nat} {fj : Nat → Int32} {v : Int32} {Q : Int32 → Prop} (hk : k ≤ 12) (hi : i < k) (hd : fj i = v) (h : Q v) : P_Roll_yearOf (nI i) (nI k) fj Q := by
  refine s_rhas (by omega) (jb' (fun c => absurd (vpn hi (by omega)) c) (fun _ => ⟨vpn (by omega) (by decide), ?_⟩))
  show Q (fj (nI i).toNatClampNeg)
  rw [clI (by omega), hd]
  exact h
theorem s_rjudg {k i : Nat} {j q : Nat → Nat} {fj pard : Nat → Int32} {Q : Int32 → Prop} (hk : k ≤ 12) (hi : i < k) (hj : fj i = nI (j i)) (hq : pard i = nI (q i)) (hq1 : q i ≤ 1) (h : Q (nI (jd j q i))) : P_Roll_judgmentOf (nI i) (nI k) fj pard Q := by
  have hv : vp_in (nI i) 12 := vpn (by omega) (by decide)
  refine jneg (by omega) (jlt (by omega) (by omega) (fun _ => ⟨hv, ?_⟩) (fun c => absurd c (by omega)))
  rw [clI (by omega), hq]
  unfold jd at h
  refine jeq (a := q i) (b := 0) (by omega) (by decide) (fun c => ⟨hv, ?_⟩) (fun c => ?_)
  · show Q (fj i)
    rw [hj]
    rw [if_neg (by omega)] at h
    exact h
  · show Q 0
    rw [if_pos (by omega)] at h
    exact h
theorem s_rjudgN {k : Nat} {fj pard : Nat → Int32} {Q : Int32 → Prop} (h : Q (-1)) : P_Roll_judgmentOf (-1) (nI k) fj pard Q := br_t (by decide) h
theorem s_follows {n k c S : Nat} {w d y j q : Nat → Nat} {each sums deeds elders fj years pard : Nat → Int32} {Q : Int32 → Prop} (hk : k ≤ 12) (hW : ScOK n w each sums) (hS : S < 2147483648) (hR : RlOK k d j y q deeds fj years pard) (hB : CB n k d j y q) (hE : ElOK k y elders) (hc : c < k)
    (h : Q (bI (fol w n d y j (fun i => S.testBit i) k c = true))) : P_Roll_follows (nI c) (nI S) (nI k) deeds elders fj sums Q := by
  refine s_rdeed hk hc (hR c hc).1 (s_relders hk hc (hE c hc) ?_)
  rw [andI]
  have hes := Nat.lt_of_lt_of_le (es_lt y k c) (pw12 hk)
  have hle : S &&& es y k c ≤ es y k c := Nat.and_le_right
  refine s_likest hk hW (hB c hc).1 (by omega) (fun i hi => ⟨(hR i hi).1, (hB i hi).1⟩) hE ?_
  rw [bst_cong (T := fun i => S.testBit i && eldB y i c) (V := fun i => sw w n (d c ^^^ d i)) (F := eldB y) (fun i hi => by rw [Nat.testBit_and, es_bit]; simp [hi]) (fun _ _ => rfl) (fun _ _ _ _ => rfl)]
  unfold fol at h
  cases hb : bst (fun i => sw w n (d c ^^^ d i)) (eldB y) (fun i => S.testBit i && eldB y i c) k with
  | none =>
    rw [hb] at h
    refine br_t rfl ⟨rfl, ?_⟩
    rw [bI_t rfl] at h
    exact h
  | some b =>
    rw [hb] at h
    have hbi := bst_in hb
    refine br_f (nI_m1 (by omega)) (s_rfirst hk hbi.1 (hR b hbi.1).2.1 (s_rfirst hk hc (hR c hc).2.1 ?_))
    have j1 := (hB b hbi.1).2.1
    have j2 := (hB c hc).2.1
    refine jne (by omega) (by omega) (fun z => ⟨rfl, ?_⟩) (fun z => ⟨rfl, ?_⟩)
    · rw [bI_f (by simp [z])] at h; exact h
    · rw [bI_t (by simp [z])] at h; exact h
theorem s_allFollow {n k S : Nat} {w d y j q : Nat → Nat} {each sums deeds elders fj years pard : Nat → Int32} {Q : Int32 → Prop} (hk : k ≤ 12) (hW : ScOK n w each sums) (hS : S < 2147483648) (hR : RlOK k d j y q deeds fj years pard) (hB : CB n k d j y q) (hE : ElOK k y elders)
    (h : Q (bI (∀ c, c < k → S.testBit c = true → fol w n d y j (fun i => S.testBit i) k c = true))) : P_Roll_allFollow (nI S) (nI k) deeds elders fj sums Q := by
  refine lpi (fun m i => L_Roll_allFollow_2 (nI S) (nI k) deeds elders fj sums Q m (nI i)) (fun i => ∀ c, c < i → S.testBit c = true → fol w n d y j (fun i => S.testBit i) k c = true) 0 k (Nat.zero_le _) (fun c hc => absurd hc (Nat.not_lt_zero c)) (fun m hI => ?_) (fun m i _ hi hI ih => ?_)
  · refine jle (by omega) (by omega) (fun _ => ?_) (fun c => absurd c (by omega))
    rw [bI_t hI] at h
    exact h
  · have go : (S.testBit i = true → fol w n d y j (fun i => S.testBit i) k i = true) → B_Roll_allFollow_30 (nI S) (nI k) deeds elders fj sums Q (L_Roll_allFollow_2 (nI S) (nI k) deeds elders fj sums Q m) (nI i) := by
      intro z
      show L_Roll_allFollow_2 _ _ _ _ _ _ _ _ (nI i + 1)
      rw [← nI_succ]
      refine ih (fun c hc hs => ?_)
      by_cases e : c = i
      · subst e; exact z hs
      · exact hI c (by omega) hs
    refine jle (by omega) (by omega) (fun c => absurd c (by omega)) (fun _ => s_holds hS (by omega) (jb' (fun z => go (fun z2 => absurd z2 z)) (fun z => s_follows hk hW hS hR hB hE hi (jb (fun z2 => go (fun _ => z2)) (fun z2 => ?_)))))
    rw [bI_f (fun q => z2 (q i hi z))] at h
    exact h
/-- the model -/
def OnOK (k : Nat) (d j y q : Nat → Nat) (one : Nat → Int32) : Prop := ∀ i, i < k → one (4 * i) = nI (d i) ∧ one (4 * i + 1) = nI (j i) ∧ one (4 * i + 2) = nI (y i) ∧ one (4 * i + 3) = nI (q i)
def WtOK (n : Nat) (w : Nat → Nat) (weight : Nat → Int32) : Prop := ∀ p, p < n → weight p = nI (w p) ∧ w p ≤ 9
theorem i4 (i : Nat) : (4 : Int32) * nI i = nI (4 * i) := by rw [show (4 : Int32) = nI 4 from rfl, pk_mul]
theorem i4p (i c : Nat) : (4 : Int32) * nI i + nI c = nI (4 * i + c) := by rw [i4, nI_add]
theorem s_isElder_M {k a b : Nat} {d j y q : Nat → Nat} {one : Nat → Int32} {Q : Int32 → Prop} (hk : k ≤ 14) (hO : OnOK k d j y q one) (ha : a < k) (hb : b < k) (ya : y a ≤ 9999) (yb : y b ≤ 9999) (h : Q (bI (eldB y a b = true))) : P_Mo_isElder (nI a) (nI b) one Q := by
  have ea : (4 : Int32) * nI a + 2 = nI (4 * a + 2) := i4p a 2
  have eb : (4 : Int32) * nI b + 2 = nI (4 * b + 2) := i4p b 2
  have va : vp_in ((4 : Int32) * nI a + 2) 56 := by rw [ea]; exact vpn (by omega) (by decide)
  have vb : vp_in ((4 : Int32) * nI b + 2) 56 := by rw [eb]; exact vpn (by omega) (by decide)
  refine ⟨va, vb, ?_⟩
  rw [ea, eb, clI (by omega), clI (by omega), (hO a ha).2.2.1, (hO b hb).2.2.1]
  have go1 : eldB y a b = true → Q 1 := fun z => by rw [bI_t z] at h; exact h
  have go0 : ¬ eldB y a b = true → Q 0 := fun z => by rw [bI_f z] at h; exact h
  rw [← ea, ← eb]
  refine jlt (by omega) (by omega) (fun c => ⟨rfl, go1 (eldB_t.mpr (Or.inl c))⟩) (fun c => ⟨va, vb, ?_⟩)
  refine jne (by omega) (by omega) (fun c2 => ⟨rfl, go0 (fun z => by rcases eldB_t.mp z with z | z <;> omega)⟩) (fun c2 => ?_)
  exact jle (by omega) (by omega) (fun c3 => ⟨rfl, go0 (fun z => by rcases eldB_t.mp z with z | z <;> omega)⟩) (fun c3 => ⟨rfl, go1 (eldB_t.mpr (Or.inr ⟨c2, c3⟩))⟩)
theorem s_judg_M {k i : Nat} {d j y q : Nat → Nat} {one : Nat → Int32} {Q : Int32 → Prop} (hk : k ≤ 14) (hO : OnOK k d j y q one) (hi : i < k) (hq1 : q i ≤ 1) (h : Q (nI (jd j q i))) : P_Mo_judgmentOf (nI i) one Q := by
  have e3 : (4 : Int32) * nI i + 3 = nI (4 * i + 3) := i4p i 3
  have e1 : (4 : Int32) * nI i + 1 = nI (4 * i + 1) := i4p i 1
  unfold jd at h
  refine ⟨by rw [e3]; exact vpn (by omega) (by decide), ?_⟩
  rw [e3, clI (by omega), (hO i hi).2.2.2]
  refine jne (a := q i) (b := 1) (by omega) (by decide) (fun c => ⟨by rw [e1]; exact vpn (by omega) (by decide), ?_⟩) (fun c => ?_)
  · show Q (one ((4 : Int32) * nI i + 1).toNatClampNeg)
    rw [e1, clI (by omega), (hO i hi).2.1]
    rw [if_neg c] at h
    exact h
  · show Q 0
    rw [if_pos c] at h
    exact h
theorem s_likeness_M {n a b : Nat} {w : Nat → Nat} {weight : Nat → Int32} {Q : Int32 → Prop} (hn : n ≤ 10) (hW : WtOK n w weight) (ha : a < 2 ^ n) (hb : b < 2 ^ n) (h : Q (nI (lk w n (a ^^^ b)))) : P_Mo_likeness (nI a) (nI b) (nI n) weight Q := by
  have h2 := pw10 hn
  have hx := xor_lt ha hb
  refine lpf (fun m i => L_Mo_likeness_5 (nI a) (nI b) (nI n) weight Q m (nI (lk w i (a ^^^ b))) (nI i)) 0 n (Nat.zero_le _) (fun m => ?_) (fun m i _ hi ih => ?_)
  · exact jle (by omega) (by omega) (fun _ => h) (fun c => absurd c (by omega))
  · refine jle (by omega) (by omega) (fun c => absurd c (by omega)) (fun _ => ?_)
    rw [xorI]
    have e : lk w (i + 1) (a ^^^ b) = lk w i (a ^^^ b) + (if (a ^^^ b).testBit i then 0 else w i) := rfl
    refine s_has_M (by omega) (by omega) (jb' (fun c => ⟨vpn (by omega) (by decide), ?_⟩) (fun c => ?_))
    · intro x ex
      rw [clI (by omega), (hW i hi).1, nI_add] at ex
      rw [if_neg c] at e
      subst ex
      show L_Mo_likeness_5 _ _ _ _ _ _ _ (nI i + 1)
      rw [← nI_succ, ← e]
      exact ih
    · intro x ex
      rw [show (0 : Int32) = nI 0 from rfl, nI_add] at ex
      rw [if_pos c] at e
      subst ex
      show L_Mo_likeness_5 _ _ _ _ _ _ _ (nI i + 1)
      rw [← nI_succ, ← e]
      exact ih
theorem s_caseOf_M {n k a S : Nat} {w d j y q : Nat → Nat} {one weight : Nat → Int32} {Q : Int32 → Prop} (hk : k ≤ 14) (hn : n ≤ 10) (hW : WtOK n w weight) (ha : a < 2 ^ n) (hS : S < 2147483648) (hO : OnOK k d j y q one) (hB : CB n k d j y q)
    (h : Q (enc (bst (fun i => sw w n (a ^^^ d i)) (eldB y) (fun i => S.testBit i) k))) : P_Mo_caseOf (nI a) (nI S) (nI n) (nI k) one weight Q := by
  have hw9 : ∀ p, p < n → w p ≤ 9 := fun p hp => (hW p hp).2
  have htt := tt_le hw9
  generalize hU : (fun i => sw w n (a ^^^ d i)) = U at h
  have hUe : ∀ i, U i + lk w n (a ^^^ d i) = tt w n := fun i => by rw [← hU]; exact sw_lk w _ n
  generalize hBB : bst U (eldB y) (fun i => S.testBit i) = B at h
  have hA := lpf (fun m i => ∀ x4, (∀ b, B i = some b → x4 = nI (lk w n (a ^^^ d b))) → L_Mo_caseOf_8 (nI a) (nI S) (nI n) (nI k) one weight Q m (enc (B i)) x4 (nI i)) 0 k (Nat.zero_le _) (fun m x5 hx => ?_) (fun m i _ hi ih x4 hx => ?_)
  · obtain ⟨m, hm⟩ := hA
    have h0 := hm 0 (fun b hb => by rw [← hBB] at hb; cases hb)
    rw [← hBB] at h0
    exact ⟨m, h0⟩
  · exact jle (by omega) (by omega) (fun _ => h) (fun c => absurd c (by omega))
  · have goN : B (i + 1) = some i → ∀ x3, B_Mo_caseOf_71 (nI a) (nI S) (nI n) (nI k) one weight Q (L_Mo_caseOf_8 (nI a) (nI S) (nI n) (nI k) one weight Q m) x3 x4 (nI i) (nI (lk w n (a ^^^ d i))) := by
      intro hb x3
      refine br_f (by decide) (br_f (by decide) ?_)
      show L_Mo_caseOf_8 _ _ _ _ _ _ _ _ (nI i) (nI (lk w n (a ^^^ d i))) (nI i + 1)
      rw [← nI_succ]
      have h1 := ih (nI (lk w n (a ^^^ d i))) (fun b e => by rw [hb] at e; cases e; rfl)
      rw [hb] at h1
      exact h1
    have goO : B (i + 1) = B i → ∀ x6, B_Mo_caseOf_75 (nI a) (nI S) (nI n) (nI k) one weight Q (L_Mo_caseOf_8 (nI a) (nI S) (nI n) (nI k) one weight Q m) (enc (B i)) x4 (nI i) x6 := by
      intro hb x6
      refine br_t rfl (br_t rfl ?_)
      show L_Mo_caseOf_8 _ _ _ _ _ _ _ _ (enc (B i)) x4 (nI i + 1)
      rw [← nI_succ]
      have h1 := ih x4 (fun b e => by rw [hb] at e; exact hx b e)
      rw [hb] at h1
      exact h1
    refine jle (by omega) (by omega) (fun c => absurd c (by omega)) (fun _ => s_has_M hS (by omega) (jb' (fun c => ?_) (fun c => ⟨by rw [i4]; exact vpn (by omega) (by decide), ?_⟩)))
    · have hb : B (i + 1) = B i := by rw [← hBB]; exact bst_no (Bool.eq_false_iff.mpr c)
      show L_Mo_caseOf_8 _ _ _ _ _ _ _ _ (enc (B i)) x4 (nI i + 1)
      rw [← nI_succ]
      have h1 := ih x4 (fun b e => by rw [hb] at e; exact hx b e)
      rw [hb] at h1
      exact h1
    · rw [i4, clI (by omega), (hO i hi).1]
      refine s_likeness_M hn hW ha (hB i hi).1 ?_
      cases hB2 : B i with
      | none =>
        rw [← hBB] at hB2
        exact br_t rfl (goN (by rw [← hBB]; exact bst_first c hB2) _)
      | some b =>
        have hb := hB2
        rw [← hBB] at hb
        have hbi := bst_in hb
        have hx4 := hx b hB2
        subst hx4
        have gN : (U i < U b ∨ (U i = U b ∧ eldB y i b = true)) → B (i + 1) = some i := fun z => by rw [← hBB]; exact bst_new c hb z
        have gO : ¬ (U i < U b ∨ (U i = U b ∧ eldB y i b = true)) → B (i + 1) = some b := fun z => by rw [← hBB]; exact bst_old c hb z
        rw [hB2] at goO
        have u1 := hUe i
        have u2 := hUe b
        refine br_f (nI_m1 (by omega)) (jlt (by omega) (by omega) (fun z => goN (gN (Or.inl (by omega))) _) (fun z => jne (by omega) (by omega) (fun z2 => goO (gO (fun q => by rcases q with q | q <;> omega)) _) (fun z2 => ?_)))
        refine s_isElder_M hk hO hi (by omega) (hB i hi).2.2.1 (hB b (by omega)).2.2.1 (jb' (fun z3 => goO (gO (fun q => ?_)) _) (fun z3 => goN (gN (Or.inr ⟨by omega, z3⟩)) _))
        rcases q with q | q
        · omega
        · exact z3 q.2
