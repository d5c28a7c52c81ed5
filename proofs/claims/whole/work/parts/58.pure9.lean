/-! PURE 9: dead, turning, border, frees -/
theorem m1_bit (i : Nat) (hi : i < 32) : (-1 : Int32).toBitVec.getLsbD i = true := by
  have : ∀ k : Fin 32, (-1 : Int32).toBitVec.getLsbD k.val = true := by decide
  exact this ⟨i, hi⟩
theorem notI (a b : Nat) : nI a &&& (nI b ^^^ (-1)) = nI (a &&& (a &&& b ^^^ a)) := by
  apply Int32.toBitVec_inj.mp
  rw [Int32.toBitVec_and, Int32.toBitVec_xor, nI_bv, nI_bv, nI_bv]
  apply BitVec.eq_of_getLsbD_eq
  intro i hi
  rw [BitVec.getLsbD_and, BitVec.getLsbD_xor, m1_bit i hi, BitVec.getLsbD_ofNat, BitVec.getLsbD_ofNat, BitVec.getLsbD_ofNat, Nat.testBit_and, Nat.testBit_xor, Nat.testBit_and]
  cases a.testBit i <;> cases b.testBit i <;> simp [hi]
/-- a without b -/
def dif (a b : Nat) : Nat := a &&& (a &&& b ^^^ a)
theorem dif_bit (a b i : Nat) : (dif a b).testBit i = (a.testBit i && !(b.testBit i)) := by
  unfold dif
  rw [Nat.testBit_and, Nat.testBit_xor, Nat.testBit_and]
  cases a.testBit i <;> cases b.testBit i <;> rfl
theorem dif_le (a b : Nat) : dif a b ≤ a := Nat.and_le_left
theorem difI (a b : Nat) : nI a &&& (nI b ^^^ (-1)) = nI (dif a b) := notI a b
/-- cases by which some deed below m is judged -/
def liv (f : Nat → Option Nat) (k : Nat) : Nat → Nat
  | 0 => 0
  | m + 1 => match f m with
    | none => liv f k m
    | some b => liv f k m ||| 2 ^ b
theorem liv_lt {f : Nat → Option Nat} {k : Nat} : ∀ m, (∀ a b, a < m → f a = some b → b < k) → liv f k m < 2 ^ k
  | 0, _ => pw1 k
  | m + 1, h => by
    have ih := liv_lt (f := f) (k := k) m (fun a b ha => h a b (by omega))
    show (match f m with | none => liv f k m | some b => liv f k m ||| 2 ^ b) < 2 ^ k
    cases hb : f m with
    | none => exact ih
    | some b => exact Nat.or_lt_two_pow ih (Nat.pow_lt_pow_right (by decide) (h m b (by omega) hb))
theorem op_dead {n k : Nat} {w d j y q : Nat → Nat} {aj : Int32} {by_ jud each sums deeds elders fj years pard one mw : Nat → Int32} {K : Int32 → Int32 → (Nat → Int32) → (Nat → Int32) → Int32 → Prop} (hk : k ≤ 12) (hW : ScOK n w each sums) (hMW : WtOK n w mw) (hR : RlOK k d j y q deeds fj years pard) (hE : ElOK k y elders) (hO : OnOK k d j y q one) (hB : CB n k d j y q) (hJ : JInv n (lb w n d y k) j q aj by_ jud)
    (h : ∀ r aj' b' j', JInv n (lb w n d y k) j q aj' b' j' → K r aj' b' j' r) :
    P_LC_dead (nI n) aj by_ jud (nI k) deeds elders fj pard sums (fun r aj' b' j' => P_Mo_dead (nI n) (nI k) one mw (fun r' => K r aj' b' j' r')) := by
  have hn := hW.1
  have h2 := pw10 hn
  have h12 := pw12 hk
  have hlt : ∀ m, liv (lb w n d y k) k m < 2 ^ k := fun m => liv_lt m (fun a b _ hb => (bst_in hb).1)
  refine s_judgeAll hk hW hR hB hE hJ (fun b' j' hJ' => ?_)
  have hm : ∀ r, r = nI (dif (2 ^ k - 1) (liv (lb w n d y k) k (2 ^ n))) → P_Mo_dead (nI n) (nI k) one mw (fun r' => K r 1 b' j' r') := by
    intro r er
    refine s_all_M (by omega) ?_
    have hA := lpf (fun m a => L_Mo_dead_7 (nI n) (nI k) one mw (fun r' => K r 1 b' j' r') m (nI (dif (2 ^ k - 1) (liv (lb w n d y k) k a))) (nI a)) 0 (2 ^ n) (Nat.zero_le _) (fun m => ?_) (fun m a _ ha ih => ?_)
    · obtain ⟨m, hm⟩ := hA
      refine ⟨m, ?_⟩
      have e0 : dif (2 ^ k - 1) (liv (lb w n d y k) k 0) = 2 ^ k - 1 := by
        apply Nat.eq_of_testBit_eq
        intro i
        rw [dif_bit]
        show ((2 ^ k - 1).testBit i && !(Nat.testBit 0 i)) = _
        simp
      rw [e0] at hm
      exact hm
    · show L_Mo_dead_7 _ _ _ _ _ (m + 1) _ _
      rw [L_Mo_dead_7]
      refine s_deedMany_M hn (jle (by omega) (by omega) (fun _ => ?_) (fun c => absurd c (by omega)))
      show K r 1 b' j' _
      rw [er]; exact h _ _ _ _ (Or.inr ⟨rfl, hJ'⟩)
    · show L_Mo_dead_7 _ _ _ _ _ (m + 1) _ _
      rw [L_Mo_dead_7]
      refine s_deedMany_M hn (jle (by omega) (by omega) (fun c => absurd c (by omega)) (fun _ => jle (a := k) (b := 0) (by omega) (by decide) (fun z => ?_) (fun z => s_all_M (by omega) (s_caseAll_M (by omega) hn hMW ha hO hB ?_))))
      · have hk0 : k = 0 := by omega
        subst hk0
        show K r 1 b' j' _
        have e0 : ∀ b, dif (2 ^ 0 - 1) b = 0 := fun b => by have := dif_le (2 ^ 0 - 1) b; omega
        rw [er, e0, e0]; exact h _ _ _ _ (Or.inr ⟨rfl, hJ'⟩)
      · obtain ⟨b, hb, hbk⟩ := lb_some (w := w) (n := n) (d := d) (y := y) (k := k) (a := a) z
        rw [hb]
        intro x ex
        show L_Mo_dead_7 _ _ _ _ _ _ _ (nI a + 1)
        rw [← nI_succ]
        have e : x = nI (dif (2 ^ k - 1) (liv (lb w n d y k) k (a + 1))) := by
          rw [ex]
          show nI _ &&& (((1 : Int32) <<< (nI b &&& 31)) ^^^ (-1)) = _
          rw [sh1 (by omega), difI]
          congr 1
          apply Nat.eq_of_testBit_eq
          intro i
          rw [dif_bit, dif_bit, dif_bit, show liv (lb w n d y k) k (a + 1) = liv (lb w n d y k) k a ||| 2 ^ b by show (match lb w n d y k a with | none => _ | some b => _) = _; rw [hb], Nat.testBit_or]
          cases (2 ^ k - 1).testBit i <;> cases (liv (lb w n d y k) k a).testBit i <;> simp
        rw [e]
        exact ih
  refine lpf (fun m a => L_Keeper_deadCases_4 (nI n) b' (nI k) (fun r => P_Mo_dead (nI n) (nI k) one mw (fun r' => K r 1 b' j' r')) m (nI (liv (lb w n d y k) k a)) (nI a)) 0 (2 ^ n) (Nat.zero_le _) (fun m => ?_) (fun m a _ ha ih => ?_)
  · show L_Keeper_deadCases_4 _ _ _ _ (m + 1) _ _
    rw [L_Keeper_deadCases_4]
    refine s_deedCount hn (jle (by omega) (by omega) (fun _ => s_allCases hk ?_) (fun c => absurd c (by omega)))
    rw [difI]
    exact hm _ rfl
  · show L_Keeper_deadCases_4 _ _ _ _ (m + 1) _ _
    rw [L_Keeper_deadCases_4]
    refine s_deedCount hn (jle (by omega) (by omega) (fun c => absurd c (by omega)) (fun _ => s_byWhich hn hJ' ha ?_))
    have e : liv (lb w n d y k) k (a + 1) = match lb w n d y k a with | none => liv (lb w n d y k) k a | some b => liv (lb w n d y k) k a ||| 2 ^ b := rfl
    cases hb : lb w n d y k a with
    | none =>
      rw [hb] at e
      refine br_t rfl ?_
      show L_Keeper_deadCases_4 _ _ _ _ _ _ (nI a + 1)
      rw [← nI_succ]
      have ih2 := ih
      rw [e] at ih2
      exact ih2
    | some b =>
      rw [hb] at e
      have hbi := (bst_in hb).1
      refine br_f (nI_m1 (by omega)) ?_
      intro x ex
      have ex2 : x = nI (liv (lb w n d y k) k (a + 1)) := by
        rw [ex, e]
        show nI _ ||| ((1 : Int32) <<< (nI b &&& 31)) = _
        rw [sh1 (by omega), orI]
      show L_Keeper_deadCases_4 _ _ _ _ _ _ (nI a + 1)
      rw [← nI_succ, ex2]
      exact ih
/-- points that turn -/
theorem flip_lt {a p n : Nat} (ha : a < 2 ^ n) (hp : p < n) : a ^^^ 2 ^ p < 2 ^ n := xor_lt ha (Nat.pow_lt_pow_right (by decide) hp)
theorem op_turning {n k : Nat} {w d j y q : Nat → Nat} {x1 aj : Int32} {by_ jud each sums deeds elders fj years pard one mw : Nat → Int32} {K : Int32 → Int32 → (Nat → Int32) → (Nat → Int32) → Int32 → Prop} (hk : k ≤ 12) (hW : ScOK n w each sums) (hMW : WtOK n w mw) (hR : RlOK k d j y q deeds fj years pard) (hE : ElOK k y elders) (hO : OnOK k d j y q one) (hB : CB n k d j y q) (hJ : JInv n (lb w n d y k) j q aj by_ jud)
    (h : ∀ r aj' b' j', JInv n (lb w n d y k) j q aj' b' j' → K r aj' b' j' r) :
    P_LC_turning x1 (nI n) aj by_ jud (nI k) deeds elders fj pard sums (fun r aj' b' j' => P_Mo_turning x1 (nI n) (nI k) one mw (fun r' => K r aj' b' j' r')) := by
  have hn := hW.1
  have h2 := pw10 hn
  refine s_isDeed hn (jb (fun hx => s_isEmpty (by omega) (jb' (fun hz => ?_) (fun hz => ?_))) (fun hx => ?_))
  · obtain ⟨a, ha, rfl⟩ := vp_in_of hx (by omega)
    generalize hp : (fun p => tB (¬ encJ j q (lb w n d y k (a ^^^ 2 ^ p)) = encJ j q (lb w n d y k a))) = tp
    have htp : ∀ p, (tp p = true ↔ ¬ encJ j q (lb w n d y k (a ^^^ 2 ^ p)) = encJ j q (lb w n d y k a)) := fun p => by rw [← hp]; exact tB_t
    refine s_judgeAll hk hW hR hB hE hJ (fun b' j' hJ' => ?_)
    have hm : ∀ r, r = nI (mk tp n) → P_Mo_turning (nI a) (nI n) (nI k) one mw (fun r' => K r 1 b' j' r') := by
      intro r er
      refine s_isDeed_M hn (jb (fun _ => jne (a := k) (b := 0) (by omega) (by decide) (fun _ => ?_) (fun z => absurd z hz)) (fun z => absurd hx z))
      refine lpf (fun m p => L_Mo_turning_25 (nI a) (nI n) (nI k) one mw (fun r' => K r 1 b' j' r') m (nI (mk tp p)) (nI p)) 0 n (Nat.zero_le _) (fun m => ?_) (fun m p _ hp2 ih => ?_)
      · refine jle (by omega) (by omega) (fun _ => ?_) (fun c => absurd c (by omega))
        show K r 1 b' j' _
        rw [er]; exact h _ _ _ _ (Or.inr ⟨rfl, hJ'⟩)
      · have e : mk tp (p + 1) = mk tp p ||| (if tp p then 2 ^ p else 0) := rfl
        refine jle (by omega) (by omega) (fun c => absurd c (by omega)) (fun _ => ?_)
        rw [sh1 (by omega), xorI]
        refine s_judgmentAt_M (by omega) hn hMW (flip_lt ha hp2) hO hB (s_judgmentAt_M (by omega) hn hMW ha hO hB (br_c (fun z => ?_) (fun z => ?_)))
        · intro x ex
          rw [show (0 : Int32) = nI 0 from rfl, orI] at ex
          rw [if_neg (fun q => (htp p).mp q z)] at e
          subst ex
          show L_Mo_turning_25 _ _ _ _ _ _ _ _ (nI p + 1)
          rw [← nI_succ, ← e]; exact ih
        · intro x ex
          rw [orI] at ex
          rw [if_pos ((htp p).mpr z)] at e
          subst ex
          show L_Mo_turning_25 _ _ _ _ _ _ _ _ (nI p + 1)
          rw [← nI_succ, ← e]; exact ih
    refine lpf (fun m p => L_Keeper_turningPoints_4 (nI a) (nI n) j' (fun r => P_Mo_turning (nI a) (nI n) (nI k) one mw (fun r' => K r 1 b' j' r')) m (nI (mk tp p)) (nI p)) 0 n (Nat.zero_le _) (fun m => ?_) (fun m p _ hp2 ih => ?_)
    · show L_Keeper_turningPoints_4 _ _ _ _ (m + 1) _ _
      rw [L_Keeper_turningPoints_4]
      exact jle (by omega) (by omega) (fun _ => hm _ rfl) (fun c => absurd c (by omega))
    · have e : mk tp (p + 1) = mk tp p ||| (if tp p then 2 ^ p else 0) := rfl
      show L_Keeper_turningPoints_4 _ _ _ _ (m + 1) _ _
      rw [L_Keeper_turningPoints_4]
      refine jle (by omega) (by omega) (fun c => absurd c (by omega)) (fun _ => ?_)
      rw [sh1 (by omega), xorI]
      refine s_cjudg hn hJ' (flip_lt ha hp2) (s_cjudg hn hJ' ha (br_c (fun z => ?_) (fun z => ?_)))
      · rw [if_neg (fun q => (htp p).mp q z), Nat.or_zero] at e
        show L_Keeper_turningPoints_4 _ _ _ _ _ _ (nI p + 1)
        rw [← nI_succ, ← e]; exact ih
      · intro x ex
        rw [orI] at ex
        rw [if_pos ((htp p).mpr z)] at e
        subst ex
        show L_Keeper_turningPoints_4 _ _ _ _ _ _ (nI p + 1)
        rw [← nI_succ, ← e]; exact ih
  · exact s_isDeed_M hn (jb (fun _ => jne (a := k) (b := 0) (by omega) (by decide) (fun z => absurd hz z) (fun _ => h _ _ _ _ hJ)) (fun z => absurd hx z))
  · exact s_isDeed_M hn (jb (fun z => absurd z hx) (fun _ => h _ _ _ _ hJ))
/-- what all deeds are judged, on the model's side -/
theorem s_layJudged_M {n k : Nat} {w d j y q : Nat → Nat} {judged one weight : Nat → Int32} {Q : (Nat → Int32) → Prop} (hk : k ≤ 14) (hn : n ≤ 10) (hW : WtOK n w weight) (hO : OnOK k d j y q one) (hB : CB n k d j y q)
    (h : ∀ j', (∀ a, a < 2 ^ n → j' a = encJ j q (lb w n d y k a)) → Q j') : P_Mo_layJudged (nI n) (nI k) judged one weight Q := by
  have h2 := pw10 hn
  have hA := lpf (fun m i => ∀ j', (∀ a, a < i → j' a = encJ j q (lb w n d y k a)) → L_Mo_layJudged_2 (nI n) (nI k) one weight Q m (nI i) j') 0 (2 ^ n) (Nat.zero_le _) (fun m j' hh => ?_) (fun m i _ hi ih j' hh => ?_)
  · obtain ⟨m, hm⟩ := hA
    exact ⟨m, hm _ (fun a ha => absurd ha (Nat.not_lt_zero a))⟩
  · rw [L_Mo_layJudged_2]
    exact s_deedMany_M hn (jle (by omega) (by omega) (fun _ => h _ hh) (fun c => absurd c (by omega)))
  · rw [L_Mo_layJudged_2]
    refine s_deedMany_M hn (jle (by omega) (by omega) (fun c => absurd c (by omega)) (fun _ => s_judgmentAt_M hk hn hW hi hO hB ⟨vpn (by omega) (by decide), ?_⟩))
    rw [← nI_succ, clI (by omega)]
    refine ih _ (fun a ha => ?_)
    by_cases e : a = i
    · subst e; rw [upd_s]
    · rw [upd_n _ e]; exact hh a (by omega)
/-- pairs of deeds with one point unlike, unlike judged: by deeds, then points -/
def bd (f : Nat → Int32) (n a : Nat) : Nat → Nat
  | 0 => 0
  | p + 1 => bd f n a p + (if a.testBit p = false ∧ ¬ f a = f (a ||| 2 ^ p) then 1 else 0)
def bdS (f : Nat → Int32) (n : Nat) : Nat → Nat
  | 0 => 0
  | a + 1 => bdS f n a + bd f n a n
theorem or_bit {a p : Nat} (h : a.testBit p = true) : a ||| 2 ^ p = a := by
  apply Nat.eq_of_testBit_eq
  intro i
  rw [Nat.testBit_or, Nat.testBit_two_pow]
  by_cases e : p = i
  · subst e; simp [h]
  · simp [e]
theorem or_ne {a p : Nat} (h : a.testBit p = false) : a ||| 2 ^ p ≠ a := by
  intro z
  have h1 := congrArg (fun x => x.testBit p) z
  simp only [Nat.testBit_or, Nat.testBit_two_pow, h] at h1
  simp at h1
theorem or_lt {a p n : Nat} (ha : a < 2 ^ n) (hp : p < n) : a ||| 2 ^ p < 2 ^ n := Nat.or_lt_two_pow ha (Nat.pow_lt_pow_right (by decide) hp)
theorem bd_le (f : Nat → Int32) (n a : Nat) : ∀ p, bd f n a p ≤ p
  | 0 => Nat.le_refl 0
  | p + 1 => by
    have h := bd_le f n a p
    show bd f n a p + (if a.testBit p = false ∧ ¬ f a = f (a ||| 2 ^ p) then 1 else 0) ≤ p + 1
    split <;> omega
theorem op_border {n k : Nat} {w d j y q : Nat → Nat} {aj : Int32} {by_ jud each sums deeds elders fj years pard one mw judged : Nat → Int32} {K : Int32 → Int32 → (Nat → Int32) → (Nat → Int32) → Int32 → (Nat → Int32) → Prop} (hk : k ≤ 12) (hW : ScOK n w each sums) (hMW : WtOK n w mw) (hR : RlOK k d j y q deeds fj years pard) (hE : ElOK k y elders) (hO : OnOK k d j y q one) (hB : CB n k d j y q) (hJ : JInv n (lb w n d y k) j q aj by_ jud)
    (h : ∀ r aj' b' j' jm, JInv n (lb w n d y k) j q aj' b' j' → K r aj' b' j' r jm) :
    P_LC_border (nI n) aj by_ jud (nI k) deeds elders fj pard sums (fun r aj' b' j' => P_Mo_border (nI n) (nI k) judged one mw (fun r' jm => K r aj' b' j' r' jm)) := by
  have hn := hW.1
  have h2 := pw10 hn
  generalize hf : (fun a => encJ j q (lb w n d y k a)) = f
  have hfe : ∀ a, encJ j q (lb w n d y k a) = f a := fun a => by rw [← hf]
  have stp : ∀ a p, bd f n a (p + 1) = bd f n a p + (if a.testBit p = false ∧ ¬ f a = f (a ||| 2 ^ p) then 1 else 0) := fun _ _ => rfl
  refine s_isEmpty (by omega) (jb' (fun hz => ?_) (fun hz => ?_))
  · refine s_judgeAll hk hW hR hB hE hJ (fun b' j' hJ' => ?_)
    have hm : ∀ r, r = nI (bdS f n (2 ^ n)) → P_Mo_border (nI n) (nI k) judged one mw (fun r' jm => K r 1 b' j' r' jm) := by
      intro r er
      refine jne (a := k) (b := 0) (by omega) (by decide) (fun _ => s_layJudged_M (by omega) hn hMW hO hB (fun jm hjm => ?_)) (fun z => absurd z hz)
      refine lpf (fun m a => L_Mo_border_18 (nI n) (nI k) one mw (fun r' jm => K r 1 b' j' r' jm) m (nI (bdS f n a)) (nI a) jm) 0 (2 ^ n) (Nat.zero_le _) (fun m => ?_) (fun m a _ ha ih => ?_)
      · show L_Mo_border_18 _ _ _ _ _ (m + 1) _ _ _
        rw [L_Mo_border_18]
        refine s_deedMany_M hn (jle (by omega) (by omega) (fun _ => ?_) (fun c => absurd c (by omega)))
        show K r 1 b' j' _ jm
        rw [er]; exact h _ _ _ _ _ (Or.inr ⟨rfl, hJ'⟩)
      · show L_Mo_border_18 _ _ _ _ _ (m + 1) _ _ _
        rw [L_Mo_border_18]
        refine s_deedMany_M hn (jle (by omega) (by omega) (fun c => absurd c (by omega)) (fun _ => ?_))
        refine lpf (fun m' p => L_Mo_border_28 (nI n) (nI k) one mw (fun r' jm => K r 1 b' j' r' jm) (L_Mo_border_18 (nI n) (nI k) one mw (fun r' jm => K r 1 b' j' r' jm) m) m' (nI (bdS f n a + bd f n a p)) (nI a) (nI p) jm) 0 n (Nat.zero_le _) (fun m' => ?_) (fun m' p _ hp ih2 => ?_)
        · refine jle (by omega) (by omega) (fun _ => ?_) (fun c => absurd c (by omega))
          rw [← nI_succ]
          exact ih
        · have ho := or_lt ha hp
          have go0 : ¬ (a.testBit p = false ∧ ¬ f a = f (a ||| 2 ^ p)) → B_Mo_border_68 (nI n) (nI k) one mw (fun r' jm => K r 1 b' j' r' jm) (L_Mo_border_18 (nI n) (nI k) one mw (fun r' jm => K r 1 b' j' r' jm) m) (L_Mo_border_28 (nI n) (nI k) one mw (fun r' jm => K r 1 b' j' r' jm) (L_Mo_border_18 (nI n) (nI k) one mw (fun r' jm => K r 1 b' j' r' jm) m) m') (nI a) (nI p) (nI (bdS f n a + bd f n a p)) jm := by
            intro z x ex
            rw [show (0 : Int32) = nI 0 from rfl, nI_add] at ex
            have e := stp a p
            rw [if_neg z] at e
            rw [e] at ih2
            subst ex
            show L_Mo_border_28 _ _ _ _ _ _ _ _ _ (nI p + 1) _
            rw [← nI_succ]; exact ih2
          refine jle (by omega) (by omega) (fun c => absurd c (by omega)) (fun _ => s_has_M (by omega) (by omega) (jb (fun z => go0 (fun q => by rw [z] at q; exact absurd q.1 (by decide))) (fun z => ?_)))
          rw [sh1 (by omega), orI, clI (by omega), clI (by omega), hjm a ha, hjm _ ho, hfe, hfe]
          refine ⟨vpn (by omega) (by decide), vpn (by omega) (by decide), br_c (fun z2 => go0 (fun q => q.2 z2)) (fun z2 => ?_)⟩
          intro x ex
          rw [show (1 : Int32) = nI 1 from rfl, nI_add] at ex
          have e := stp a p
          rw [if_pos ⟨Bool.eq_false_iff.mpr z, z2⟩] at e
          rw [e, ← Nat.add_assoc] at ih2
          subst ex
          show L_Mo_border_28 _ _ _ _ _ _ _ _ _ (nI p + 1) _
          rw [← nI_succ]; exact ih2
    refine lpf (fun m a => L_Surveyor_unlikePairs_4 (nI n) j' (fun r => P_Mo_border (nI n) (nI k) judged one mw (fun r' jm => K r 1 b' j' r' jm)) m (nI (bdS f n a)) (nI a)) 0 (2 ^ n) (Nat.zero_le _) (fun m => ?_) (fun m a _ ha ih => ?_)
    · show L_Surveyor_unlikePairs_4 _ _ _ (m + 1) _ _
      rw [L_Surveyor_unlikePairs_4]
      exact s_deedCount hn (jle (by omega) (by omega) (fun _ => hm _ rfl) (fun c => absurd c (by omega)))
    · show L_Surveyor_unlikePairs_4 _ _ _ (m + 1) _ _
      rw [L_Surveyor_unlikePairs_4]
      refine s_deedCount hn (jle (by omega) (by omega) (fun c => absurd c (by omega)) (fun _ => ?_))
      refine lpf (fun m' p => L_Surveyor_unlikePairs_17 (nI n) j' (fun r => P_Mo_border (nI n) (nI k) judged one mw (fun r' jm => K r 1 b' j' r' jm)) (L_Surveyor_unlikePairs_4 (nI n) j' (fun r => P_Mo_border (nI n) (nI k) judged one mw (fun r' jm => K r 1 b' j' r' jm)) m) m' (nI (bdS f n a + bd f n a p)) (nI a) (nI p)) 0 n (Nat.zero_le _) (fun m' => ?_) (fun m' p _ hp ih2 => ?_)
      · show L_Surveyor_unlikePairs_17 _ _ _ _ (m' + 1) _ _ _
        rw [L_Surveyor_unlikePairs_17]
        refine jle (by omega) (by omega) (fun _ => ?_) (fun c => absurd c (by omega))
        rw [← nI_succ]
        exact ih
      · have ho := or_lt ha hp
        show L_Surveyor_unlikePairs_17 _ _ _ _ (m' + 1) _ _ _
        rw [L_Surveyor_unlikePairs_17]
        have go0 : ¬ (a.testBit p = false ∧ ¬ f a = f (a ||| 2 ^ p)) → L_Surveyor_unlikePairs_17 (nI n) j' (fun r => P_Mo_border (nI n) (nI k) judged one mw (fun r' jm => K r 1 b' j' r' jm)) (L_Surveyor_unlikePairs_4 (nI n) j' (fun r => P_Mo_border (nI n) (nI k) judged one mw (fun r' jm => K r 1 b' j' r' jm)) m) m' (nI (bdS f n a + bd f n a p)) (nI a) (nI p + 1) := by
          intro z
          have e := stp a p
          rw [if_neg z] at e
          rw [e, Nat.add_zero] at ih2
          rw [← nI_succ]; exact ih2
        refine jle (by omega) (by omega) (fun c => absurd c (by omega)) (fun _ => ?_)
        intro x ex
        rw [sh1 (by omega), orI] at ex
        subst ex
        refine jeq (by omega) (by omega) (fun z => go0 (fun q => or_ne q.1 z)) (fun z => s_cjudg hn hJ' ho (s_cjudg hn hJ' ha ?_))
        rw [hfe, hfe]
        refine br_c (fun z2 => go0 (fun q => q.2 z2.symm)) (fun z2 => ?_)
        have e := stp a p
        rw [if_pos ⟨Bool.eq_false_iff.mpr (fun q => z (or_bit q)), fun q => z2 q.symm⟩] at e
        rw [e, ← Nat.add_assoc] at ih2
        show L_Surveyor_unlikePairs_17 _ _ _ _ _ (nI _ + 1) _ (nI p + 1)
        rw [← nI_succ, ← nI_succ]; exact ih2
  · exact jne (a := k) (b := 0) (by omega) (by decide) (fun z => absurd hz z) (fun _ => h _ _ _ _ _ hJ)
