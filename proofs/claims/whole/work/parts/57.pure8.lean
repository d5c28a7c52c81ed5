/-! PURE 8: deeds, dead, turning, border, frees, forged -/
theorem enc_eq {a b : Option Nat} (ha : ∀ i, a = some i → i < 2147483648) (hb : ∀ i, b = some i → i < 2147483648) : enc a = enc b ↔ a = b := by
  constructor
  · intro h
    cases a with
    | none => cases b with
      | none => rfl
      | some j => exact absurd h.symm (nI_m1 (hb j rfl))
    | some i => cases b with
      | none => exact absurd h (nI_m1 (ha i rfl))
      | some j => rw [(nI_eq (ha i rfl) (hb j rfl)).mp h]
  · intro h; rw [h]
theorem encJ_val {n k a : Nat} {w d j y q : Nat → Nat} (hB : CB n k d j y q) : encJ j q (lb w n d y k a) = -1 ∨ ∃ v, v ≤ 3 ∧ encJ j q (lb w n d y k a) = nI v := by
  cases hb : lb w n d y k a with
  | none => exact Or.inl rfl
  | some b => exact Or.inr ⟨_, jd_le hB (bst_in hb).1, rfl⟩
/-- a truth value as a Bool -/
noncomputable def tB (c : Prop) : Bool := @decide c (Classical.propDecidable c)
theorem tB_t {c : Prop} : tB c = true ↔ c := by
  unfold tB
  exact @decide_eq_true_iff c (Classical.propDecidable c)
theorem tB_if {c : Prop} {α : Type} {a b : α} (h : c) : (if tB c then a else b) = a := if_pos (tB_t.mpr h)
theorem tB_nif {c : Prop} {α : Type} {a b : α} (h : ¬ c) : (if tB c then a else b) = b := if_neg (fun z => h (tB_t.mp z))
theorem op_deeds {n k : Nat} {w d j y q : Nat → Nat} {x1 x2 aj : Int32} {by_ jud each sums deeds elders fj years pard one mw : Nat → Int32} {K : Int32 → Int32 → (Nat → Int32) → (Nat → Int32) → Int32 → Prop} (hk : k ≤ 12) (hW : ScOK n w each sums) (hMW : WtOK n w mw) (hR : RlOK k d j y q deeds fj years pard) (hE : ElOK k y elders) (hO : OnOK k d j y q one) (hB : CB n k d j y q) (hJ : JInv n (lb w n d y k) j q aj by_ jud)
    (h : ∀ r aj' b' j', JInv n (lb w n d y k) j q aj' b' j' → K r aj' b' j' r) :
    P_LC_deeds x1 x2 (nI n) aj by_ jud (nI k) deeds elders fj pard sums (fun r aj' b' j' => P_Mo_deeds x1 x2 (nI n) (nI k) one mw (fun r' => K r aj' b' j' r')) := by
  have hn := hW.1
  have h2 := pw10 hn
  generalize hp : (fun a => tB (encJ j q (lb w n d y k a) = x1 ∧ (x2 = -1 ∨ enc (lb w n d y k a) = x2))) = p
  have hpe : ∀ a, (p a = true ↔ (encJ j q (lb w n d y k a) = x1 ∧ (x2 = -1 ∨ enc (lb w n d y k a) = x2))) := fun a => by rw [← hp]; exact tB_t
  have hm : ∀ r aj' b' j', JInv n (lb w n d y k) j q aj' b' j' → ((0 ≤ x1 ∧ x1 ≤ 3) → r = nI (ct p (2 ^ n))) → (¬ (0 ≤ x1 ∧ x1 ≤ 3) → r = -3) → B_Mo_deeds_16 x1 x2 (nI n) (nI k) one mw (fun r' => K r aj' b' j' r') := by
    intro r aj' b' j' hJ' g0 g1
    refine s_isJudgment_M (jb (fun hx => ?_) (fun hx => ?_))
    · have hx1 : ¬ x1 = -1 := fun e => by rw [e] at hx; exact absurd hx.1 (by decide)
      refine lpf (fun m a => L_Mo_deeds_31 x1 x2 (nI n) (nI k) one mw (fun r' => K r aj' b' j' r') m (nI (ct p a)) (nI a)) 0 (2 ^ n) (Nat.zero_le _) (fun m => ?_) (fun m a _ ha ih => ?_)
      · show L_Mo_deeds_31 _ _ _ _ _ _ _ (m + 1) _ _
        rw [L_Mo_deeds_31]
        refine s_deedMany_M hn (jle (by omega) (by omega) (fun _ => ?_) (fun c => absurd c (by omega)))
        show K r aj' b' j' _
        rw [g0 hx]; exact h _ _ _ _ hJ'
      · have e : ct p (a + 1) = ct p a + (if p a then 1 else 0) := rfl
        have go0 : ¬ p a = true → B_Mo_deeds_84 x1 x2 (nI n) (nI k) one mw (fun r' => K r aj' b' j' r') (L_Mo_deeds_31 x1 x2 (nI n) (nI k) one mw (fun r' => K r aj' b' j' r') m) (nI a) (nI (ct p a)) := by
          intro z x ex
          rw [show (0 : Int32) = nI 0 from rfl, nI_add] at ex
          rw [if_neg z] at e
          subst ex
          show L_Mo_deeds_31 _ _ _ _ _ _ _ _ _ (nI a + 1)
          rw [← nI_succ, ← e]; exact ih
        have go1 : p a = true → B_Mo_deeds_80 x1 x2 (nI n) (nI k) one mw (fun r' => K r aj' b' j' r') (L_Mo_deeds_31 x1 x2 (nI n) (nI k) one mw (fun r' => K r aj' b' j' r') m) (nI a) (nI (ct p a)) := by
          intro z x ex
          rw [show (1 : Int32) = nI 1 from rfl, nI_add] at ex
          rw [if_pos z] at e
          subst ex
          show L_Mo_deeds_31 _ _ _ _ _ _ _ _ _ (nI a + 1)
          rw [← nI_succ, ← e]; exact ih
        show L_Mo_deeds_31 _ _ _ _ _ _ _ (m + 1) _ _
        rw [L_Mo_deeds_31]
        refine s_deedMany_M hn (jle (by omega) (by omega) (fun c => absurd c (by omega)) (fun _ => s_all_M (by omega) (s_caseAll_M (by omega) hn hMW ha hO hB ?_)))
        have hpa := hpe a
        cases hb : lb w n d y k a with
        | none =>
          rw [hb] at hpa
          exact br_t rfl (go0 (fun z => hx1 (hpa.mp z).1.symm))
        | some b =>
          rw [hb] at hpa
          have hbi := (bst_in hb).1
          refine br_f (nI_m1 (by omega)) (s_judg_M (by omega) hO hbi (hB b hbi).2.2.2 (br_n (fun z => go0 (fun q => z (hpa.mp q).1)) (fun z => br_c (fun z2 => go1 (hpa.mpr ⟨z, Or.inl z2⟩)) (fun z2 => br_n (fun z3 => go0 (fun q => ?_)) (fun z3 => go1 (hpa.mpr ⟨z, Or.inr z3.symm⟩))))))
          rcases (hpa.mp q).2 with q2 | q2
          · exact z2 q2
          · exact z3 q2.symm
    · show K r aj' b' j' (-3)
      rw [g1 hx]; exact h _ _ _ _ hJ'
  have hc : (∀ r aj' b' j', JInv n (lb w n d y k) j q aj' b' j' → ((0 ≤ x1 ∧ x1 ≤ 3) → r = nI (ct p (2 ^ n))) → (¬ (0 ≤ x1 ∧ x1 ≤ 3) → r = -3) → P_Mo_deeds x1 x2 (nI n) (nI k) one mw (fun r' => K r aj' b' j' r')) → B_LC_deeds_22 x1 x2 (nI n) (nI k) deeds elders fj pard sums (fun r aj' b' j' => P_Mo_deeds x1 x2 (nI n) (nI k) one mw (fun r' => K r aj' b' j' r')) aj by_ jud := by
    intro fin
    refine s_isJudgment (jb (fun hx => s_judgeAll hk hW hR hB hE hJ (fun b' j' hJ' => ?_)) (fun hx => fin _ _ _ _ hJ (fun z => absurd z hx) (fun _ => rfl)))
    refine lpf (fun m a => L_LC_deeds_44 x1 x2 (nI n) (nI k) deeds elders fj pard sums (fun r aj' b' j' => P_Mo_deeds x1 x2 (nI n) (nI k) one mw (fun r' => K r aj' b' j' r')) m (nI (ct p a)) (nI a) 1 b' j') 0 (2 ^ n) (Nat.zero_le _) (fun m => ?_) (fun m a _ ha ih => ?_)
    · show L_LC_deeds_44 _ _ _ _ _ _ _ _ _ _ (m + 1) _ _ _ _ _
      rw [L_LC_deeds_44]
      exact s_deedCount hn (jle (by omega) (by omega) (fun _ => fin _ _ _ _ (Or.inr ⟨rfl, hJ'⟩) (fun _ => rfl) (fun z => absurd hx z)) (fun c => absurd c (by omega)))
    · have e : ct p (a + 1) = ct p a + (if p a then 1 else 0) := rfl
      have go0 : ¬ p a = true → B_LC_deeds_90 x1 x2 (nI n) (nI k) deeds elders fj pard sums (fun r aj' b' j' => P_Mo_deeds x1 x2 (nI n) (nI k) one mw (fun r' => K r aj' b' j' r')) (L_LC_deeds_44 x1 x2 (nI n) (nI k) deeds elders fj pard sums (fun r aj' b' j' => P_Mo_deeds x1 x2 (nI n) (nI k) one mw (fun r' => K r aj' b' j' r')) m) (nI (ct p a)) (nI a) 1 b' j' := by
        intro z
        rw [if_neg z] at e
        show L_LC_deeds_44 _ _ _ _ _ _ _ _ _ _ _ _ (nI a + 1) _ _ _
        rw [← nI_succ]
        have ih2 := ih
        rw [e] at ih2
        exact ih2
      have go1 : p a = true → B_LC_deeds_87 x1 x2 (nI n) (nI k) deeds elders fj pard sums (fun r aj' b' j' => P_Mo_deeds x1 x2 (nI n) (nI k) one mw (fun r' => K r aj' b' j' r')) (L_LC_deeds_44 x1 x2 (nI n) (nI k) deeds elders fj pard sums (fun r aj' b' j' => P_Mo_deeds x1 x2 (nI n) (nI k) one mw (fun r' => K r aj' b' j' r')) m) (nI (ct p a)) (nI a) 1 b' j' := by
        intro z
        rw [if_pos z] at e
        show L_LC_deeds_44 _ _ _ _ _ _ _ _ _ _ _ (nI (ct p a) + 1) (nI a + 1) _ _ _
        rw [← nI_succ, ← nI_succ, ← e]
        exact ih
      have hpa := hpe a
      show L_LC_deeds_44 _ _ _ _ _ _ _ _ _ _ (m + 1) _ _ _ _ _
      rw [L_LC_deeds_44]
      refine s_deedCount hn (jle (by omega) (by omega) (fun c => absurd c (by omega)) (fun _ => s_cjudg hn hJ' ha (br_n (fun z => go0 (fun q => z (hpa.mp q).1)) (fun z => br_c (fun z2 => go1 (hpa.mpr ⟨z, Or.inl z2⟩)) (fun z2 => s_byWhich hn hJ' ha (br_n (fun z3 => go0 (fun q => ?_)) (fun z3 => go1 (hpa.mpr ⟨z, Or.inr z3⟩))))))))
      rcases (hpa.mp q).2 with q2 | q2
      · exact z2 q2
      · exact z3 q2
  refine br_c (fun z => hc (fun r aj' b' j' hJ' g0 g1 => br_t z (hm r aj' b' j' hJ' g0 g1))) (fun z => s_rhas (by omega) (jb (fun hx => hc (fun r aj' b' j' hJ' g0 g1 => br_f z (s_isCase_M (by omega) (jb (fun _ => hm r aj' b' j' hJ' g0 g1) (fun q => absurd hx q))))) (fun hx => br_f z (s_isCase_M (by omega) (jb (fun q => absurd q hx) (fun _ => h _ _ _ _ hJ))))))
/-- forged -/
theorem s_follows_M {n k c S : Nat} {w d j y q : Nat → Nat} {one weight : Nat → Int32} {Q : Int32 → Prop} (hk : k ≤ 14) (hn : n ≤ 10) (hW : WtOK n w weight) (hS : S < 2147483648) (hO : OnOK k d j y q one) (hB : CB n k d j y q) (hc : c < k)
    (h : Q (bI (fol w n d y j (fun i => S.testBit i) k c = true))) : P_Mo_follows (nI c) (nI S) (nI n) (nI k) one weight Q := by
  have h14 := pw14 hk
  generalize hp : (fun i => S.testBit i && eldB y i c) = p
  refine lpf (fun m i => L_Mo_follows_5 (nI c) (nI S) (nI n) (nI k) one weight Q m (nI (mk p i)) (nI i)) 0 k (Nat.zero_le _) (fun m => ?_) (fun m i _ hi ih => ?_)
  · refine jle (by omega) (by omega) (fun _ => ⟨by rw [i4]; exact vpn (by omega) (by decide), ?_⟩) (fun c => absurd c (by omega))
    rw [i4, clI (by omega), (hO c hc).1]
    have hml := Nat.lt_of_lt_of_le (mk_lt p k) h14
    refine s_caseOf_M hk hn hW (hB c hc).1 (by omega) hO hB ?_
    rw [bst_cong (T := fun i => S.testBit i && eldB y i c) (V := fun i => sw w n (d c ^^^ d i)) (F := eldB y) (fun i hi => by rw [mk_bit, ← hp]; simp [hi]) (fun _ _ => rfl) (fun _ _ _ _ => rfl)]
    unfold fol at h
    cases hb : bst (fun i => sw w n (d c ^^^ d i)) (eldB y) (fun i => S.testBit i && eldB y i c) k with
    | none =>
      rw [hb] at h
      rw [bI_t rfl] at h
      exact br_t rfl ⟨rfl, h⟩
    | some b =>
      rw [hb] at h
      have hbi := (bst_in hb).1
      have e1 : (4 : Int32) * nI b + 1 = nI (4 * b + 1) := i4p b 1
      have e2 : nI (4 * c) + 1 = nI (4 * c + 1) := nI_1 (4 * c)
      refine br_f (nI_m1 (by omega)) ⟨?_, ?_, ?_⟩
      · show vp_in (4 * nI b + 1) 56
        rw [e1]; exact vpn (by omega) (by decide)
      · rw [e2]; exact vpn (by omega) (by decide)
      · show (¬ one (4 * nI b + 1).toNatClampNeg = one (nI (4 * c) + 1).toNatClampNeg → _) ∧ (one (4 * nI b + 1).toNatClampNeg = one (nI (4 * c) + 1).toNatClampNeg → _)
        rw [e1, e2, clI (by omega), clI (by omega), (hO b hbi).2.1, (hO c hc).2.1]
        have j1 := (hB b hbi).2.1
        have j2 := (hB c hc).2.1
        refine jne (by omega) (by omega) (fun z => ⟨rfl, ?_⟩) (fun z => ⟨rfl, ?_⟩)
        · rw [bI_f (by simp [z])] at h; exact h
        · rw [bI_t (by simp [z])] at h; exact h
  · have hpi : p i = (S.testBit i && eldB y i c) := by rw [← hp]
    have e : mk p (i + 1) = mk p i ||| (if p i then 2 ^ i else 0) := rfl
    have go0 : ¬ p i = true → B_Mo_follows_47 (nI c) (nI S) (nI n) (nI k) one weight Q (L_Mo_follows_5 (nI c) (nI S) (nI n) (nI k) one weight Q m) (nI i) (nI (mk p i)) := by
      intro z x ex
      rw [show (0 : Int32) = nI 0 from rfl, orI] at ex
      rw [if_neg z] at e
      subst ex
      show L_Mo_follows_5 _ _ _ _ _ _ _ _ _ (nI i + 1)
      rw [← nI_succ, ← e]; exact ih
    refine jle (by omega) (by omega) (fun c => absurd c (by omega)) (fun _ => s_has_M hS (by omega) (jb' (fun z => go0 (fun q => ?_)) (fun z => jeq (by omega) (by omega) (fun z2 => go0 (fun q => ?_)) (fun z2 => s_isElder_M hk hO hi hc (hB i hi).2.2.1 (hB c hc).2.2.1 (jb' (fun z3 => go0 (fun q => ?_)) (fun z3 => ?_))))))
    · rw [hpi] at q; exact z (Bool.and_eq_true_iff.mp q).1
    · rw [hpi, z2] at q
      rcases eldB_t.mp (Bool.and_eq_true_iff.mp q).2 with z3 | z3 <;> omega
    · rw [hpi] at q; exact z3 (Bool.and_eq_true_iff.mp q).2
    · intro x ex
      rw [sh1 (by omega), orI] at ex
      rw [if_pos (by rw [hpi]; exact Bool.and_eq_true_iff.mpr ⟨z, z3⟩)] at e
      subst ex
      show L_Mo_follows_5 _ _ _ _ _ _ _ _ _ (nI i + 1)
      rw [← nI_succ, ← e]; exact ih
theorem s_notFollowing_M {n k S : Nat} {w d j y q : Nat → Nat} {one weight : Nat → Int32} {Q : Int32 → Prop} (hk : k ≤ 14) (hn : n ≤ 10) (hW : WtOK n w weight) (hS : S < 2147483648) (hO : OnOK k d j y q one) (hB : CB n k d j y q)
    (h : Q (nI (mk (fun c => S.testBit c && !(fol w n d y j (fun i => S.testBit i) k c)) k))) : P_Mo_notFollowing (nI S) (nI n) (nI k) one weight Q := by
  generalize hp : (fun c => S.testBit c && !(fol w n d y j (fun i => S.testBit i) k c)) = p at h
  refine lpf (fun m i => L_Mo_notFollowing_4 (nI S) (nI n) (nI k) one weight Q m (nI (mk p i)) (nI i)) 0 k (Nat.zero_le _) (fun m => ?_) (fun m i _ hi ih => ?_)
  · exact jle (by omega) (by omega) (fun _ => h) (fun c => absurd c (by omega))
  · have hpi : p i = (S.testBit i && !(fol w n d y j (fun i => S.testBit i) k i)) := by rw [← hp]
    have e : mk p (i + 1) = mk p i ||| (if p i then 2 ^ i else 0) := rfl
    have go0 : ¬ p i = true → B_Mo_notFollowing_36 (nI S) (nI n) (nI k) one weight Q (L_Mo_notFollowing_4 (nI S) (nI n) (nI k) one weight Q m) (nI i) (nI (mk p i)) := by
      intro z x ex
      rw [show (0 : Int32) = nI 0 from rfl, orI] at ex
      rw [if_neg z] at e
      subst ex
      show L_Mo_notFollowing_4 _ _ _ _ _ _ _ _ (nI i + 1)
      rw [← nI_succ, ← e]; exact ih
    refine jle (by omega) (by omega) (fun c => absurd c (by omega)) (fun _ => s_has_M hS (by omega) (jb' (fun z => go0 (fun q => ?_)) (fun z => s_follows_M hk hn hW hS hO hB hi (jb (fun z2 => go0 (fun q => ?_)) (fun z2 => ?_)))))
    · rw [hpi] at q; exact z (Bool.and_eq_true_iff.mp q).1
    · rw [hpi, z2] at q; simp at q
    · intro x ex
      rw [sh1 (by omega), orI] at ex
      rw [if_pos (by rw [hpi, z, Bool.eq_false_iff.mpr z2]; rfl)] at e
      subst ex
      show L_Mo_notFollowing_4 _ _ _ _ _ _ _ _ (nI i + 1)
      rw [← nI_succ, ← e]; exact ih
theorem op_forged {n k : Nat} {w d j y q : Nat → Nat} {each sums deeds elders fj years pard one mw : Nat → Int32} {K : Int32 → Int32 → Prop} (hk : k ≤ 12) (hW : ScOK n w each sums) (hMW : WtOK n w mw) (hR : RlOK k d j y q deeds fj years pard) (hE : ElOK k y elders) (hO : OnOK k d j y q one) (hB : CB n k d j y q) (h : ∀ r, K r r) :
    P_LC_forged (nI k) deeds elders fj sums (fun r => P_Mo_forged (nI n) (nI k) one mw (fun r' => K r r')) := by
  have hn := hW.1
  have h12 := pw12 hk
  generalize hp : (fun c => (2 ^ k - 1).testBit c && !(fol w n d y j (fun i => (2 ^ k - 1).testBit i) k c)) = p
  refine lpf (fun m i => L_Examiner_forgedCases_12 (nI k) deeds elders fj sums (fun r => P_Mo_forged (nI n) (nI k) one mw (fun r' => K r r')) m (nI (mk p i)) (nI i)) 0 k (Nat.zero_le _) (fun m => ?_) (fun m i _ hi ih => ?_)
  · show L_Examiner_forgedCases_12 _ _ _ _ _ _ (m + 1) _ _
    rw [L_Examiner_forgedCases_12]
    refine jle (by omega) (by omega) (fun _ => s_all_M (by omega) (s_notFollowing_M (by omega) hn hMW (by omega) hO hB ?_)) (fun c => absurd c (by omega))
    rw [hp]
    exact h _
  · have hpi : p i = !(fol w n d y j (fun i => (2 ^ k - 1).testBit i) k i) := by rw [← hp]; simp only [tb_full hi, Bool.true_and]
    have e : mk p (i + 1) = mk p i ||| (if p i then 2 ^ i else 0) := rfl
    show L_Examiner_forgedCases_12 _ _ _ _ _ _ (m + 1) _ _
    rw [L_Examiner_forgedCases_12]
    refine jle (by omega) (by omega) (fun c => absurd c (by omega)) (fun _ => s_allCases hk (s_follows hk hW (by omega) hR hB hE hi (jb (fun z => ?_) (fun z => ?_))))
    · rw [if_neg (by rw [hpi, z]; simp)] at e
      show L_Examiner_forgedCases_12 _ _ _ _ _ _ _ _ (nI i + 1)
      rw [← nI_succ]
      have ih2 := ih
      rw [e, Nat.or_zero] at ih2
      exact ih2
    · intro x ex
      rw [sh1 (by omega), orI] at ex
      rw [if_pos (by rw [hpi, Bool.eq_false_iff.mpr z]; rfl)] at e
      subst ex
      show L_Examiner_forgedCases_12 _ _ _ _ _ _ _ _ (nI i + 1)
      rw [← nI_succ, ← e]
      exact ih
