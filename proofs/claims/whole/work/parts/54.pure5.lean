/-! PURE 5: the court; judgments of all deeds -/
def lb (w : Nat → Nat) (n : Nat) (d y : Nat → Nat) (k a : Nat) : Option Nat := bst (fun i => sw w n (a ^^^ d i)) (eldB y) (fun _ => true) k
def encJ (j q : Nat → Nat) : Option Nat → Int32
  | none => -1
  | some b => nI (jd j q b)
theorem lb_none {w : Nat → Nat} {n : Nat} {d y : Nat → Nat} {k a : Nat} (h : lb w n d y k a = none) : k = 0 := by
  rcases Nat.eq_zero_or_pos k with z | z
  · exact z
  · have := bst_none h 0 z
    cases this
theorem lb_zero {w : Nat → Nat} {n : Nat} {d y : Nat → Nat} {a : Nat} : lb w n d y 0 a = none := rfl
theorem lb_some {w : Nat → Nat} {n : Nat} {d y : Nat → Nat} {k a : Nat} (h : 0 < k) : ∃ b, lb w n d y k a = some b ∧ b < k := by
  cases hb : lb w n d y k a with
  | none => have := lb_none hb; omega
  | some b => exact ⟨b, rfl, (bst_in hb).1⟩
theorem lb_all {w : Nat → Nat} {n : Nat} {d y : Nat → Nat} {k a : Nat} : bst (fun i => sw w n (a ^^^ d i)) (eldB y) (fun i => (2 ^ k - 1).testBit i) k = lb w n d y k a :=
  bst_cong (fun i hi => tb_full hi) (fun _ _ => rfl) (fun _ _ _ _ => rfl)
theorem s_deedCount {n : Nat} {Q : Int32 → Prop} (hn : n ≤ 10) (h : Q (nI (2 ^ n))) : P_Court_deedCount (nI n) Q := by
  show Q (1 <<< (nI n &&& 31))
  rw [sh1 (by omega)]
  exact h
theorem s_isDeed {x : Int32} {n : Nat} {Q : Int32 → Prop} (hn : n ≤ 10) (h : Q (bI (vp_in x (2 ^ n)))) : P_Court_isDeed x (nI n) Q := by
  have h2 := pw10 hn
  refine br_c (fun c => ?_) (fun c => s_deedCount hn (br_c (fun d => ?_) (fun d => ?_)))
  · rw [bI_f (vp_out (Or.inl c) (by omega))] at h; exact ⟨rfl, h⟩
  · rw [bI_f (vp_out (Or.inr d) (by omega))] at h; exact ⟨rfl, h⟩
  · rw [bI_t (vp_yes c d (by omega))] at h; exact ⟨rfl, h⟩
theorem s_isPoint {x : Int32} {n : Nat} {Q : Int32 → Prop} (hn : n < 2147483648) (h : Q (bI (vp_in x n))) : P_Court_isPoint x (nI n) Q := by
  refine br_c (fun c => ?_) (fun c => br_c (fun d => ?_) (fun d => ?_))
  · rw [bI_f (vp_out (Or.inl c) hn)] at h; exact ⟨rfl, h⟩
  · rw [bI_f (vp_out (Or.inr d) hn)] at h; exact ⟨rfl, h⟩
  · rw [bI_t (vp_yes c d hn)] at h; exact ⟨rfl, h⟩
theorem s_isEmpty {k : Nat} {Q : Int32 → Prop} (hk : k < 2147483648) (h : Q (bI (k = 0))) : P_Roll_isEmpty (nI k) Q := by
  refine jne (a := k) (b := 0) hk (by decide) (fun c => ?_) (fun c => ?_)
  · rw [bI_f c] at h; exact ⟨rfl, h⟩
  · rw [bI_t c] at h; exact ⟨rfl, h⟩
theorem vp_le {x : Int32} {m : Nat} (hm : m < 2147483647) : (0 ≤ x ∧ x ≤ nI (m + 1) - 1) ↔ vp_in x (m + 1) := by
  rw [show (1 : Int32) = nI 1 from rfl, pk_sub (by omega), show m + 1 - 1 = m by omega]
  constructor
  · intro h
    obtain ⟨i, hi, rfl⟩ := nI_of (Int32.not_lt.mpr h.1)
    exact vpn (by have := (nI_leI hi (by omega)).mp h.2; omega) (by omega)
  · intro h
    obtain ⟨i, hi, rfl⟩ := vp_in_of h (by omega)
    exact ⟨nI_pos' (by omega), nI_le (by omega) (by omega)⟩
theorem vp_le0 {x : Int32} {m : Nat} (hm : m < 2147483647) : (0 ≤ x ∧ x ≤ nI m - 1) ↔ vp_in x m := by
  cases m with
  | zero =>
    constructor
    · intro h
      have : (nI 0 - 1 : Int32) = -1 := by decide
      rw [this] at h
      exact absurd (Int32.le_trans h.1 h.2) (by decide)
    · intro h; exact absurd (Nat.zero_le _) (fun z => h (Or.inr z))
  | succ m => exact vp_le (by omega)
theorem s_isDeed_M {x : Int32} {n : Nat} {Q : Int32 → Prop} (hn : n ≤ 10) (h : Q (bI (vp_in x (2 ^ n)))) : P_Mo_isDeed x (nI n) Q := by
  have h2 := pw10 hn
  show P_Mo_in x 0 (1 <<< (nI n &&& 31) - 1) _
  rw [sh1 (by omega)]
  refine s_in_M ?_
  rw [bI_c (vp_le0 (by omega))]
  exact ⟨bI_nar _, h⟩
theorem s_isCase_M {x : Int32} {k : Nat} {Q : Int32 → Prop} (hk : k ≤ 14) (h : Q (bI (vp_in x k))) : P_Mo_isCase x (nI k) Q := by
  refine s_in_M ?_
  rw [bI_c (vp_le0 (by omega))]
  exact ⟨bI_nar _, h⟩
theorem s_deedMany_M {n : Nat} {Q : Int32 → Prop} (hn : n ≤ 10) (h : Q (nI (2 ^ n))) : P_Mo_deedMany (nI n) Q := by
  show Q (1 <<< (nI n &&& 31))
  rw [sh1 (by omega)]
  exact h
theorem s_all_M {k : Nat} {Q : Int32 → Prop} (hk : k ≤ 14) (h : Q (nI (2 ^ k - 1))) : P_Mo_all (nI k) Q := by
  show Q ((1 <<< (nI k &&& 31)) - 1)
  rw [allN (by omega)]
  exact h
theorem s_allCases {k : Nat} {Q : Int32 → Prop} (hk : k ≤ 12) (h : Q (nI (2 ^ k - 1))) : P_Roll_allCases (nI k) Q := by
  show Q ((1 <<< (nI k &&& 31)) - 1)
  rw [allN (by omega)]
  exact h
theorem s_likestCase {n k a : Nat} {w d j y q : Nat → Nat} {each sums deeds elders fj years pard : Nat → Int32} {Q : Int32 → Prop} (hk : k ≤ 12) (hW : ScOK n w each sums) (ha : a < 2 ^ n) (hR : RlOK k d j y q deeds fj years pard) (hB : CB n k d j y q) (hE : ElOK k y elders) (h : Q (enc (lb w n d y k a))) : P_Court_likestCase (nI a) (nI k) deeds elders sums Q := by
  have h2 := pw12 hk
  refine s_allCases hk (s_likest hk hW ha (by omega) (fun i hi => ⟨(hR i hi).1, (hB i hi).1⟩) hE ?_)
  rw [lb_all]
  exact h
theorem s_caseAll_M {n k a : Nat} {w d j y q : Nat → Nat} {one weight : Nat → Int32} {Q : Int32 → Prop} (hk : k ≤ 14) (hn : n ≤ 10) (hW : WtOK n w weight) (ha : a < 2 ^ n) (hO : OnOK k d j y q one) (hB : CB n k d j y q) (h : Q (enc (lb w n d y k a))) : P_Mo_caseOf (nI a) (nI (2 ^ k - 1)) (nI n) (nI k) one weight Q := by
  have h2 := pw14 hk
  refine s_caseOf_M hk hn hW ha (by omega) hO hB ?_
  rw [lb_all]
  exact h
theorem s_judgmentAt_M {n k a : Nat} {w d j y q : Nat → Nat} {one weight : Nat → Int32} {Q : Int32 → Prop} (hk : k ≤ 14) (hn : n ≤ 10) (hW : WtOK n w weight) (ha : a < 2 ^ n) (hO : OnOK k d j y q one) (hB : CB n k d j y q) (h : Q (encJ j q (lb w n d y k a))) : P_Mo_judgmentAt (nI a) (nI n) (nI k) one weight Q := by
  refine s_all_M hk (s_caseAll_M hk hn hW ha hO hB ?_)
  cases hb : lb w n d y k a with
  | none =>
    rw [hb] at h
    exact br_nf rfl h
  | some b =>
    rw [hb] at h
    have hbi := bst_in hb
    exact br_nt (nI_m1 (by omega)) (s_judg_M hk hO hbi.1 (hB b hbi.1).2.2.2 h)
/-- what judgeAll() found -/
def JdOK (n : Nat) (f : Nat → Option Nat) (j q : Nat → Nat) (by_ jud : Nat → Int32) : Prop := ∀ a, a < 2 ^ n → by_ a = enc (f a) ∧ jud a = encJ j q (f a)
theorem s_judgeAll {n k : Nat} {w d j y q : Nat → Nat} {aj : Int32} {by_ jud each sums deeds elders fj years pard : Nat → Int32} {Q : Int32 → (Nat → Int32) → (Nat → Int32) → Prop} (hk : k ≤ 12) (hW : ScOK n w each sums) (hR : RlOK k d j y q deeds fj years pard) (hB : CB n k d j y q) (hE : ElOK k y elders)
    (hJ : aj = 0 ∨ (aj = 1 ∧ JdOK n (lb w n d y k) j q by_ jud)) (h : ∀ b' j', JdOK n (lb w n d y k) j q b' j' → Q 1 b' j') : P_Court_judgeAll (nI n) aj by_ jud (nI k) deeds elders fj pard sums Q := by
  have hn := hW.1
  have h2 := pw10 hn
  rcases hJ with rfl | ⟨rfl, hJ⟩
  · refine br_t rfl (s_deedCount hn ?_)
    intro x1 e1
    rw [if_neg (nI_nlt (a := 1024) (b := 1024) (Nat.le_refl _) (by decide)), if_neg (nI_nlt (a := 1024) (b := 2 ^ n) h2 (by decide))] at e1
    subst e1
    have hA := lpf (fun m i => ∀ b' j', (∀ a, a < i → b' a = enc (lb w n d y k a) ∧ j' a = encJ j q (lb w n d y k a)) → L_Court_judgeAll_31 (nI n) (nI k) deeds elders fj pard sums Q m (nI (2 ^ n)) (nI i) 0 b' j') 0 (2 ^ n) (Nat.zero_le _) (fun m b' j' hh => ?_) (fun m i _ hi ih b' j' hh => ?_)
    · obtain ⟨m, hm⟩ := hA
      exact ⟨m, hm _ _ (fun a ha => absurd ha (Nat.not_lt_zero a))⟩
    · exact jle (by omega) (by omega) (fun _ => h _ _ hh) (fun c => absurd c (by omega))
    · have hv : vp_in (nI i) 1024 := vpn (by omega) (by decide)
      refine jle (by omega) (by omega) (fun c => absurd c (by omega)) (fun _ => s_likestCase hk hW hi hR hB hE ⟨hv, hv, ?_⟩)
      rw [clI (by omega), upd_s]
      have fin : ∀ r2, r2 = encJ j q (lb w n d y k i) → vp_in (nI i) 1024 ∧ L_Court_judgeAll_31 (nI n) (nI k) deeds elders fj pard sums Q m (nI (2 ^ n)) (nI i + 1) 0 (upd b' i (enc (lb w n d y k i))) (upd j' i r2) := by
        intro r2 e2
        refine ⟨hv, ?_⟩
        rw [← nI_succ]
        refine ih _ _ (fun a ha => ?_)
        by_cases e : a = i
        · subst e; rw [upd_s, upd_s]; exact ⟨rfl, e2⟩
        · rw [upd_n _ e, upd_n _ e]; exact hh a (by omega)
      cases hb : lb w n d y k i with
      | none =>
        rw [hb] at fin
        exact s_rjudgN (fin _ rfl)
      | some b =>
        rw [hb] at fin
        have hbi := bst_in hb
        exact s_rjudg hk hbi.1 (hR b hbi.1).2.1 (hR b hbi.1).2.2.2 (hB b hbi.1).2.2.2 (fin _ rfl)
  · exact br_f (by decide) (h _ _ hJ)
theorem s_byWhich {n a : Nat} {f : Nat → Option Nat} {j q : Nat → Nat} {by_ jud : Nat → Int32} {Q : Int32 → Prop} (hn : n ≤ 10) (hJ : JdOK n f j q by_ jud) (ha : a < 2 ^ n) (h : Q (enc (f a))) : P_Court_byWhich (nI a) by_ Q := by
  have h1 := pw10 hn
  refine jneg (by omega) (jle (a := 1024) (b := a) (by omega) (by omega) (fun c => absurd c (by omega)) (fun _ => ⟨vpn (by omega) (by omega), ?_⟩))
  show Q (by_ (nI a).toNatClampNeg)
  rw [clI (by omega), (hJ a ha).1]
  exact h
theorem s_cjudg {n a : Nat} {f : Nat → Option Nat} {j q : Nat → Nat} {by_ jud : Nat → Int32} {Q : Int32 → Prop} (hn : n ≤ 10) (hJ : JdOK n f j q by_ jud) (ha : a < 2 ^ n) (h : Q (encJ j q (f a))) : P_Court_judgmentOf (nI a) jud Q := by
  have h1 := pw10 hn
  refine jneg (by omega) (jle (a := 1024) (b := a) (by omega) (by omega) (fun c => absurd c (by omega)) (fun _ => ⟨vpn (by omega) (by omega), ?_⟩))
  show Q (jud (nI a).toNatClampNeg)
  rw [clI (by omega), (hJ a ha).2]
  exact h
theorem s_clikeness {n k a i : Nat} {w d : Nat → Nat} {each sums deeds : Nat → Int32} {Q : Int32 → Prop} (hk : k ≤ 12) (hW : ScOK n w each sums) (ha : a < 2 ^ n) (hi : i < k) (hd : deeds i = nI (d i)) (hdi : d i < 2 ^ n) (h : Q (nI (lk w n (a ^^^ d i)))) : P_Court_likeness (nI a) (nI i) (nI n) (nI k) deeds sums Q := by
  refine s_deedCount hW.1 ?_
  rw [show (1 : Int32) = nI 1 from rfl, pk_sub (pw1 n)]
  refine s_together hW (by have := pw1 n; omega) (s_rdeed hk hi hd ?_)
  rw [xorI]
  refine s_together hW (xor_lt ha hdi) ?_
  have h1 := sw_lk w (a ^^^ d i) n
  rw [sw_full, pk_sub (by omega), show tt w n - sw w n (a ^^^ d i) = lk w n (a ^^^ d i) by omega]
  exact h
theorem s_unlike {n k a : Nat} {w d j y q : Nat → Nat} {by_ jud each sums deeds fj years pard : Nat → Int32} {Q : Int32 → Prop} {b : Nat} (hk : k ≤ 12) (hW : ScOK n w each sums) (ha : a < 2 ^ n) (hR : RlOK k d j y q deeds fj years pard) (hB : CB n k d j y q) (hJ : JdOK n (lb w n d y k) j q by_ jud) (hb : lb w n d y k a = some b) (h : Q (nI (sw w n (a ^^^ d b)))) : P_Court_unlikeness (nI a) by_ (nI k) deeds sums Q := by
  have hbi := (bst_in hb).1
  refine s_byWhich hW.1 hJ ha ?_
  rw [hb]
  refine s_rdeed hk hbi (hR b hbi).1 ?_
  rw [xorI]
  exact s_together hW (xor_lt ha (hB b hbi).1) h
theorem s_takesSuits {n k : Nat} {Q : Int32 → Prop} (hn : n ≤ 10) (hk : k ≤ 12) (h : Q (bI (n ≤ 6 ∧ 0 < k))) : P_Court_takesSuits (nI n) (nI k) Q := by
  refine jlt (a := 6) (b := n) (by decide) (by omega) (fun c => ⟨rfl, ?_⟩) (fun c => s_isEmpty (by omega) (jb (fun z => ⟨rfl, ?_⟩) (fun z => ⟨rfl, ?_⟩)))
  · rw [bI_f (fun q => by omega)] at h; exact h
  · rw [bI_f (fun q => by omega)] at h; exact h
  · rw [bI_t (by omega)] at h; exact h
