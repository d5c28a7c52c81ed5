/-! PURE 7: count, erase, older, pardon, bring, deeds, dead, turning, border, frees, forged -/
theorem op_erase {sz : Nat} {K : Int32 → Int32 → Int32 → Int32 → Prop} (h : K (nI sz) 0 (nI sz) 0) : P_LC_erase (nI sz) (fun r s' => P_Mo_erase (nI sz) (fun r' b' => K r s' r' b')) := h
theorem op_count {n k sz : Nat} {w : Nat → Nat} {x1 : Int32} {each sums mw : Nat → Int32} {K : Int32 → Int32 → Prop} (hW : ScOK n w each sums) (hMW : WtOK n w mw) (h : ∀ r, K r r) :
    P_LC_count x1 (nI n) (nI sz) (nI k) sums (fun r => P_Mo_count x1 (nI n) (nI k) (nI sz) mw (fun r' => K r r')) := by
  have hn := hW.1
  have h2 := pw10 hn
  have hm : ∀ r, (x1 = 0 → r = nI n) → (x1 = 1 → r = nI k) → (x1 = 2 → r = nI sz) → (x1 = 3 → r = nI (tt w n)) → (¬ x1 = 0 → ¬ x1 = 1 → ¬ x1 = 2 → ¬ x1 = 3 → r = -3) → P_Mo_count x1 (nI n) (nI k) (nI sz) mw (fun r' => K r r') := by
    intro r g0 g1 g2 g3 g4
    refine lpf (fun m i => L_Mo_count_4 x1 (nI n) (nI k) (nI sz) mw (fun r' => K r r') m (nI (tt w i)) (nI i)) 0 n (Nat.zero_le _) (fun m => ?_) (fun m i _ hi ih => ?_)
    · refine jle (by omega) (by omega) (fun _ => br_c (fun z0 => ?_) (fun z0 => br_c (fun z1 => ?_) (fun z1 => br_c (fun z2 => ?_) (fun z2 => br_c (fun z3 => ?_) (fun z3 => ?_))))) (fun c => absurd c (by omega))
      · show K r (nI n); rw [g0 z0]; exact h _
      · show K r (nI k); rw [g1 z1]; exact h _
      · show K r (nI sz); rw [g2 z2]; exact h _
      · show K r (nI (tt w n)); rw [g3 z3]; exact h _
      · show K r (-3); rw [g4 z0 z1 z2 z3]; exact h _
    · refine jle (by omega) (by omega) (fun c => absurd c (by omega)) (fun _ => ⟨vpn (by omega) (by decide), ?_⟩)
      intro x ex
      rw [clI (by omega), (hMW i hi).1, nI_add] at ex
      subst ex
      rw [← nI_succ]
      exact ih
  refine br_c (fun z0 => ?_) (fun z0 => br_c (fun z1 => ?_) (fun z1 => br_c (fun z2 => ?_) (fun z2 => br_c (fun z3 => ?_) (fun z3 => ?_))))
  · exact hm _ (fun _ => rfl) (fun e => absurd (z0.symm.trans e) (by decide)) (fun e => absurd (z0.symm.trans e) (by decide)) (fun e => absurd (z0.symm.trans e) (by decide)) (fun e => absurd z0 e)
  · exact hm _ (fun e => absurd e z0) (fun _ => rfl) (fun e => absurd (z1.symm.trans e) (by decide)) (fun e => absurd (z1.symm.trans e) (by decide)) (fun _ e => absurd z1 e)
  · exact hm _ (fun e => absurd e z0) (fun e => absurd e z1) (fun _ => rfl) (fun e => absurd (z2.symm.trans e) (by decide)) (fun _ _ e => absurd z2 e)
  · refine s_deedCount hn ?_
    rw [show (1 : Int32) = nI 1 from rfl, pk_sub (pw1 n)]
    refine s_together hW (by have := pw1 n; omega) ?_
    rw [sw_full]
    exact hm _ (fun e => absurd e z0) (fun e => absurd e z1) (fun e => absurd e z2) (fun _ => rfl) (fun _ _ _ e => absurd z3 e)
  · exact hm _ (fun e => absurd e z0) (fun e => absurd e z1) (fun e => absurd e z2) (fun e => absurd e z3) (fun _ _ _ _ => rfl)
theorem op_older {n k : Nat} {d j y q : Nat → Nat} {x1 x2 : Int32} {deeds elders fj years pard one : Nat → Int32} {K : Int32 → Int32 → Prop} (hk : k ≤ 12) (hR : RlOK k d j y q deeds fj years pard) (hE : ElOK k y elders) (hO : OnOK k d j y q one) (hB : CB n k d j y q) (h : ∀ r, K r r) :
    P_LC_older x1 x2 (nI k) deeds elders fj pard years (fun r => P_Mo_older x1 x2 (nI k) one (fun r' => K r r')) := by
  refine s_rhas (by omega) (jb (fun hx => ?_) (fun hx => ?_))
  · obtain ⟨i, hi, rfl⟩ := vp_in_of hx (by omega)
    obtain ⟨o0, o1, o2, o3⟩ := hO i hi
    have hm : ∀ r, (x2 = 0 → r = nI (d i)) → (x2 = 1 → r = nI (jd j q i)) → (x2 = 2 → r = nI (y i)) → (x2 = 3 → r = nI (q i)) → (x2 = 4 → r = nI (ct (fun o => eldB y o i) k)) → (¬ x2 = 0 → ¬ x2 = 1 → ¬ x2 = 2 → ¬ x2 = 3 → ¬ x2 = 4 → r = -3) → P_Mo_older (nI i) x2 (nI k) one (fun r' => K r r') := by
      intro r g0 g1 g2 g3 g4 g5
      refine s_isCase_M (by omega) (jb (fun _ => ?_) (fun z => absurd hx z))
      refine lpf (fun m c => L_Mo_older_16 (nI i) x2 (nI k) one (fun r' => K r r') m (nI (ct (fun o => eldB y o i) c)) (nI c)) 0 k (Nat.zero_le _) (fun m => ?_) (fun m c _ hc ih => ?_)
      · have f92 : ∀ t, t ≤ 3 → x2 = nI t → K r (one (4 * i + t)) → B_Mo_older_92 (nI i) x2 (nI k) one (fun r' => K r r') := by
          intro t ht e hK
          subst e
          show vp_in (4 * nI i + nI t) 56 ∧ K r (one (4 * nI i + nI t).toNatClampNeg)
          rw [i4p, clI (by omega)]
          exact ⟨vpn (by omega) (by decide), hK⟩
        refine jle (by omega) (by omega) (fun _ => br_c (fun z0 => ?_) (fun z0 => br_c (fun z1 => ?_) (fun z1 => br_c (fun z2 => ?_) (fun z2 => br_c (fun z3 => ?_) (fun z3 => br_c (fun z4 => ?_) (fun z4 => ?_)))))) (fun c => absurd c (by omega))
        · refine f92 0 (by omega) z0 ?_
          show K r (one (4 * i)); rw [o0, g0 z0]; exact h _
        · refine s_judg_M (by omega) hO hi (hB i hi).2.2.2 ?_
          show K r _; rw [g1 z1]; exact h _
        · refine f92 2 (by omega) z2 ?_
          rw [o2, g2 z2]; exact h _
        · refine f92 3 (by omega) z3 ?_
          rw [o3, g3 z3]; exact h _
        · show K r (nI _); rw [g4 z4]; exact h _
        · show K r (-3); rw [g5 z0 z1 z2 z3 z4]; exact h _
      · have e : ct (fun o => eldB y o i) (c + 1) = ct (fun o => eldB y o i) c + (if eldB y c i then 1 else 0) := rfl
        have go0 : ¬ eldB y c i = true → B_Mo_older_46 (nI i) x2 (nI k) one (fun r' => K r r') (L_Mo_older_16 (nI i) x2 (nI k) one (fun r' => K r r') m) (nI c) (nI (ct (fun o => eldB y o i) c)) := by
          intro z x ex
          rw [show (0 : Int32) = nI 0 from rfl, nI_add] at ex
          rw [if_neg z] at e
          subst ex
          show L_Mo_older_16 _ _ _ _ _ _ _ (nI c + 1)
          rw [← nI_succ, ← e]
          exact ih
        refine jle (by omega) (by omega) (fun c => absurd c (by omega)) (fun _ => jeq (by omega) (by omega) (fun z => go0 ?_) (fun z => s_isElder_M (by omega) hO hc hi (hB c hc).2.2.1 (hB i hi).2.2.1 (jb' (fun z2 => go0 z2) (fun z2 => ?_))))
        · subst z
          intro z2
          rcases eldB_t.mp z2 with z3 | z3 <;> omega
        · intro x ex
          rw [show (1 : Int32) = nI 1 from rfl, nI_add] at ex
          rw [if_pos z2] at e
          subst ex
          show L_Mo_older_16 _ _ _ _ _ _ _ (nI c + 1)
          rw [← nI_succ, ← e]
          exact ih
    obtain ⟨r0, r1, r2, r3⟩ := hR i hi
    refine br_c (fun z0 => s_rdeed hk hi r0 ?_) (fun z0 => br_c (fun z1 => s_rjudg hk hi r1 r3 (hB i hi).2.2.2 ?_) (fun z1 => br_c (fun z2 => s_ryear hk hi r2 ?_) (fun z2 => br_c (fun z3 => ?_) (fun z3 => br_c (fun z4 => ?_) (fun z4 => ?_)))))
    · exact hm _ (fun _ => rfl) (fun e => absurd (z0.symm.trans e) (by decide)) (fun e => absurd (z0.symm.trans e) (by decide)) (fun e => absurd (z0.symm.trans e) (by decide)) (fun e => absurd (z0.symm.trans e) (by decide)) (fun e => absurd z0 e)
    · exact hm _ (fun e => absurd e z0) (fun _ => rfl) (fun e => absurd (z1.symm.trans e) (by decide)) (fun e => absurd (z1.symm.trans e) (by decide)) (fun e => absurd (z1.symm.trans e) (by decide)) (fun _ e => absurd z1 e)
    · exact hm _ (fun e => absurd e z0) (fun e => absurd e z1) (fun _ => rfl) (fun e => absurd (z2.symm.trans e) (by decide)) (fun e => absurd (z2.symm.trans e) (by decide)) (fun _ _ e => absurd z2 e)
    · refine s_rhas (by omega) (jb' (fun c => absurd (vpn hi (by omega)) c) (fun _ => ⟨vpn (by omega) (by decide), ?_⟩))
      rw [clI (by omega), r3]
      have hq := (hB i hi).2.2.2
      have fin : ∀ r, r = nI (q i) → P_Mo_older (nI i) x2 (nI k) one (fun r' => K r r') := fun r e => hm _ (fun e => absurd e z0) (fun e => absurd e z1) (fun e => absurd e z2) (fun _ => e) (fun e => absurd (z3.symm.trans e) (by decide)) (fun _ _ _ e => absurd z3 e)
      refine jeq (a := q i) (b := 0) (by omega) (by decide) (fun z => ⟨rfl, br_t rfl (fin 0 (by rw [z]; rfl))⟩) (fun z => ⟨rfl, br_f (by decide) (fin 1 (by rw [show q i = 1 by omega]; rfl))⟩)
    · refine s_relders hk hi (hE i hi) ?_
      have hes := Nat.lt_of_lt_of_le (es_lt y k i) (pw12 hk)
      refine s_bitCount hes ?_
      rw [es_mk, bc_mk (by omega)]
      exact hm _ (fun e => absurd e z0) (fun e => absurd e z1) (fun e => absurd e z2) (fun e => absurd e z3) (fun _ => rfl) (fun _ _ _ _ e => absurd z4 e)
    · exact hm _ (fun e => absurd e z0) (fun e => absurd e z1) (fun e => absurd e z2) (fun e => absurd e z3) (fun e => absurd e z4) (fun _ _ _ _ _ => rfl)
  · exact s_isCase_M (by omega) (jb (fun z => absurd z hx) (fun _ => h _))
theorem s_add_M {k a b c : Nat} {d j y q : Nat → Nat} {one : Nat → Int32} {Q : Int32 → (Nat → Int32) → Prop} (hk : k < 14) (hO : OnOK k d j y q one) (h : ∀ o', OnOK (k + 1) (un d k a) (un j k b) (un y k c) (un q k 0) o' → (∀ i, i < 4 * k → o' i = one i) → Q (nI (k + 1)) o') : P_Mo_add (nI a) (nI b) (nI c) (nI k) one Q := by
  have e0 : (4 : Int32) * nI k = nI (4 * k) := i4 k
  have e1 : (4 : Int32) * nI k + 1 = nI (4 * k + 1) := i4p k 1
  have e2 : (4 : Int32) * nI k + 2 = nI (4 * k + 2) := i4p k 2
  have e3 : (4 : Int32) * nI k + 3 = nI (4 * k + 3) := i4p k 3
  refine ⟨by rw [e0]; exact vpn (by omega) (by decide), by rw [e1]; exact vpn (by omega) (by decide), by rw [e2]; exact vpn (by omega) (by decide), by rw [e3]; exact vpn (by omega) (by decide), ?_⟩
  intro x ex
  rw [← nI_succ] at ex
  subst ex
  rw [e1, e2, e3, e0, clI (by omega), clI (by omega), clI (by omega), clI (by omega)]
  refine h _ (fun i hi => ?_) (fun i hi => by rw [upd_n _ (by omega), upd_n _ (by omega), upd_n _ (by omega), upd_n _ (by omega)])
  by_cases e : i = k
  · subst e
    simp only [un_s]
    refine ⟨?_, ?_, ?_, ?_⟩
    · rw [upd_n _ (by omega), upd_n _ (by omega), upd_n _ (by omega), upd_s]
    · rw [upd_n _ (by omega), upd_n _ (by omega), upd_s]
    · rw [upd_n _ (by omega), upd_s]
    · rw [upd_s]; rfl
  · simp only [un_n _ e]
    have hi2 : i < k := by omega
    rw [upd_n _ (by omega), upd_n _ (by omega), upd_n _ (by omega), upd_n _ (by omega), upd_n _ (by omega), upd_n _ (by omega), upd_n _ (by omega), upd_n _ (by omega), upd_n _ (by omega), upd_n _ (by omega), upd_n _ (by omega), upd_n _ (by omega), upd_n _ (by omega), upd_n _ (by omega), upd_n _ (by omega), upd_n _ (by omega)]
    exact hO i hi2
theorem CB_un {n k a b c : Nat} {d j y q : Nat → Nat} (hB : CB n k d j y q) (ha : a < 2 ^ n) (hb : b ≤ 3) (hc : c ≤ 9999) : CB n (k + 1) (un d k a) (un j k b) (un y k c) (un q k 0) := by
  intro i hi
  by_cases e : i = k
  · subst e
    simp only [un_s]
    exact ⟨ha, hb, hc, by omega⟩
  · simp only [un_n _ e]
    exact hB i (by omega)
theorem jd_le {n k i : Nat} {d j y q : Nat → Nat} (hB : CB n k d j y q) (hi : i < k) : jd j q i ≤ 3 := by
  unfold jd
  have := (hB i hi).2.1
  split <;> omega
theorem op_bring {n k : Nat} {w d j y q : Nat → Nat} {x1 x2 aj : Int32} {each sums deeds elders fj years pard one mw : Nat → Int32} {K : Int32 → Int32 → Int32 → (Nat → Int32) → (Nat → Int32) → (Nat → Int32) → (Nat → Int32) → (Nat → Int32) → Int32 → Int32 → (Nat → Int32) → Prop} (hk : k ≤ 12) (hW : ScOK n w each sums) (hMW : WtOK n w mw) (hR : RlOK k d j y q deeds fj years pard) (hE : ElOK k y elders) (hO : OnOK k d j y q one) (hB : CB n k d j y q)
    (h0 : ∀ r, K r aj (nI k) deeds elders fj pard years r (nI k) one)
    (h1 : ∀ a b c r D E F P Y O, k < 12 → CB n (k + 1) (un d k a) (un j k b) (un y k c) (un q k 0) → RlOK (k + 1) (un d k a) (un j k b) (un y k c) (un q k 0) D F Y P → ElOK (k + 1) (un y k c) E → OnOK (k + 1) (un d k a) (un j k b) (un y k c) (un q k 0) O → K r 0 (nI (k + 1)) D E F P Y r (nI (k + 1)) O) :
    P_LC_bring x1 x2 (nI n) aj (nI k) deeds elders fj pard years sums (fun r aj' k' D E F P Y => P_Mo_bring x1 x2 (nI n) (nI k) one mw (fun r' k2 O => K r aj' k' D E F P Y r' k2 O)) := by
  have hn := hW.1
  have h2 := pw10 hn
  refine s_isDeed hn (jb' (fun hx => ?_) (fun hx => s_within (jb (fun hy => s_isEmpty (by omega) (jb' (fun hz => ?_) (fun hz => ?_))) (fun hy => ?_))))
  · exact s_isDeed_M hn (jb' (fun _ => h0 _) (fun z => absurd z hx))
  · obtain ⟨a, ha, rfl⟩ := vp_in_of hx (by omega)
    obtain ⟨c, hc, rfl⟩ := nI_of2 (M := 9999) (n := 9999) rfl (Int32.not_lt.mpr hy.1) hy.2
    have hm : ∀ (Qm : Int32 → Int32 → (Nat → Int32) → Prop), (k = 12 → Qm (-5) (nI k) one) → (k ≠ 12 → ∀ b, lb w n d y k a = some b → ∀ O, OnOK (k + 1) (un d k a) (un j k (jd j q b)) (un y k c) (un q k 0) O → Qm (nI (jd j q b)) (nI (k + 1)) O) → P_Mo_bring (nI a) (nI c) (nI n) (nI k) one mw Qm := by
      intro Qm g1 g2
      refine s_isDeed_M hn (jb' (fun z => absurd hx z) (fun _ => s_in_M (jb (fun _ => jne (a := k) (b := 0) (by omega) (by decide) (fun _ => jne (a := k) (b := 12) (by omega) (by decide) (fun z => ?_) (fun z => g1 z)) (fun z => absurd z hz)) (fun z => absurd hy z))))
      refine s_judgmentAt_M (by omega) hn hMW ha hO hB ?_
      obtain ⟨b, hb, hbk⟩ := lb_some (w := w) (n := n) (d := d) (y := y) (k := k) (a := a) (by omega)
      rw [hb]
      exact s_add_M (by omega) hO (fun o' ho' _ => g2 z b hb o' ho')
    refine jne (a := k) (b := 12) (by omega) (by decide) (fun z => s_likestCase hk hW ha hR hB hE ?_) (fun z => hm _ (fun _ => h0 _) (fun q => absurd z q))
    obtain ⟨b, hb, hbk⟩ := lb_some (w := w) (n := n) (d := d) (y := y) (k := k) (a := a) (by omega)
    rw [hb]
    have hj3 := jd_le hB hbk
    refine s_rjudg hk hbk (hR b hbk).2.1 (hR b hbk).2.2.2 (hB b hbk).2.2.2 (s_append (by omega) hR hB hc (fun D E F P Y hR2 hE2 => ?_))
    exact hm _ (fun q => absurd q z) (fun _ b' hb' O hO2 => by
      rw [hb] at hb'; cases hb'
      exact h1 a (jd j q b) c _ D E F P Y O (by omega) (CB_un hB ha hj3 hc) hR2 hE2 hO2)
  · exact s_isDeed_M hn (jb' (fun z => absurd hx z) (fun _ => s_in_M (jb (fun _ => jne (a := k) (b := 0) (by omega) (by decide) (fun z => absurd hz z) (fun _ => h0 _)) (fun z => absurd hy z))))
  · exact s_isDeed_M hn (jb' (fun z => absurd hx z) (fun _ => s_in_M (jb (fun z => absurd z hy) (fun _ => h0 _))))
theorem op_pardon {n k : Nat} {d j y q : Nat → Nat} {x1 aj : Int32} {is : Nat} {deeds fj years pard one : Nat → Int32} {K : Int32 → Int32 → (Nat → Int32) → Int32 → (Nat → Int32) → Prop} (hk : k ≤ 12) (his : is ≤ 1) (hR : RlOK k d j y q deeds fj years pard) (hO : OnOK k d j y q one) (hB : CB n k d j y q)
    (h0 : ∀ r, K r aj pard r one) (h1 : ∀ i r P O, i < k → RlOK k d j y (un q i is) deeds fj years P → OnOK k d j y (un q i is) O → CB n k d j y (un q i is) → K r 0 P r O) :
    P_LC_pardon x1 (nI is) aj (nI k) fj pard (fun r aj' P => P_Mo_pardon x1 (nI is) (nI k) one (fun r' O => K r aj' P r' O)) := by
  refine s_rhas (by omega) (jb (fun hx => ?_) (fun hx => ?_))
  · obtain ⟨i, hi, rfl⟩ := vp_in_of hx (by omega)
    have hB2 : CB n k d j y (un q i is) := by
      intro c hc
      obtain ⟨b0, b1, b2, b3⟩ := hB c hc
      refine ⟨b0, b1, b2, ?_⟩
      by_cases e : c = i
      · subst e; rw [un_s]; exact his
      · rw [un_n _ e]; exact b3
    have hR2 : RlOK k d j y (un q i is) deeds fj years (upd pard i (vp_nar .boolean (nI is))) := by
      intro c hc
      obtain ⟨r0, r1, r2, r3⟩ := hR c hc
      refine ⟨r0, r1, r2, ?_⟩
      by_cases e : c = i
      · subst e; rw [un_s, upd_s]; exact vnb _ (nI_01 his)
      · rw [un_n _ e, upd_n _ e]; exact r3
    have hO2 : OnOK k d j y (un q i is) (upd one (4 * i + 3) (nI is)) := by
      intro c hc
      obtain ⟨r0, r1, r2, r3⟩ := hO c hc
      refine ⟨by rw [upd_n _ (by omega)]; exact r0, by rw [upd_n _ (by omega)]; exact r1, by rw [upd_n _ (by omega)]; exact r2, ?_⟩
      by_cases e : c = i
      · subst e; rw [un_s, upd_s]
      · rw [un_n _ e, upd_n _ (by omega)]; exact r3
    have e3 : (4 : Int32) * nI i + 3 = nI (4 * i + 3) := i4p i 3
    refine s_rhas (by omega) (jb' (fun c => absurd hx c) (fun _ => ⟨vpn (by omega) (by decide), ?_⟩))
    show P_Roll_judgmentOf (nI i) (nI k) fj (upd pard (nI i).toNatClampNeg (vp_nar .boolean (nI is))) _
    rw [clI (by omega)]
    refine s_rjudg hk hi (hR2 i hi).2.1 (hR2 i hi).2.2.2 (hB2 i hi).2.2.2 ?_
    have fin : ∀ v : Int32, v = nI is → B_Mo_pardon_29 (nI i) (nI is) (nI k) (fun r' O => K (nI (jd j (un q i is) i)) 0 (upd pard i (vp_nar .boolean (nI is))) r' O) (4 * nI i + 3) v one := by
      intro v ev
      subst ev
      refine ⟨by rw [e3]; exact vpn (by omega) (by decide), ?_⟩
      rw [e3, clI (by omega)]
      exact s_judg_M (by omega) hO2 hi (hB2 i hi).2.2.2 (h1 i _ _ _ hi hR2 hO2 hB2)
    exact s_isCase_M (by omega) (jb (fun _ => jeq (a := is) (b := 0) (by omega) (by decide) (fun z => fin 0 (by rw [z]; rfl)) (fun z => fin 1 (by rw [show is = 1 by omega]; rfl))) (fun z => absurd hx z))
  · exact s_isCase_M (by omega) (jb (fun z => absurd z hx) (fun _ => h0 _))
