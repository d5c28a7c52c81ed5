/-! PURE 10: frees, write, least -/
theorem op_frees {n k : Nat} {w d j y q : Nat → Nat} {x1 aj : Int32} {by_ jud each sums deeds elders fj years pard one mw : Nat → Int32} {K : Int32 → Int32 → (Nat → Int32) → (Nat → Int32) → Int32 → Prop} (hk : k ≤ 12) (hW : ScOK n w each sums) (hMW : WtOK n w mw) (hR : RlOK k d j y q deeds fj years pard) (hE : ElOK k y elders) (hO : OnOK k d j y q one) (hB : CB n k d j y q) (hJ : JInv n (lb w n d y k) j q aj by_ jud)
    (h : ∀ r aj' b' j', JInv n (lb w n d y k) j q aj' b' j' → K r aj' b' j' r) :
    P_LC_frees x1 (nI n) aj by_ jud (nI k) deeds elders fj pard sums (fun r aj' b' j' => P_Mo_frees x1 (nI n) (nI k) one mw (fun r' => K r aj' b' j' r')) := by
  have hn := hW.1
  have h2 := pw10 hn
  refine s_rhas (by omega) (jb (fun hx => ?_) (fun hx => ?_))
  · obtain ⟨i, hi, rfl⟩ := vp_in_of hx (by omega)
    generalize hp : (fun a => decide (lb w n d y k a = some i) && decide (0 < jd j q i)) = p
    have hpe : ∀ a, (p a = true ↔ (lb w n d y k a = some i ∧ 0 < jd j q i)) := fun a => by rw [← hp]; simp
    have hm : ∀ r aj' b' j', JInv n (lb w n d y k) j q aj' b' j' → r = nI (ct p (2 ^ n)) → P_Mo_frees (nI i) (nI n) (nI k) one mw (fun r' => K r aj' b' j' r') := by
      intro r aj' b' j' hJ' er
      refine s_isCase_M (by omega) (jb (fun _ => ?_) (fun z => absurd hx z))
      refine lpf (fun m a => L_Mo_frees_15 (nI i) (nI n) (nI k) one mw (fun r' => K r aj' b' j' r') m (nI (ct p a)) (nI a)) 0 (2 ^ n) (Nat.zero_le _) (fun m => ?_) (fun m a _ ha ih => ?_)
      · show L_Mo_frees_15 _ _ _ _ _ _ (m + 1) _ _
        rw [L_Mo_frees_15]
        refine s_deedMany_M hn (jle (by omega) (by omega) (fun _ => ?_) (fun c => absurd c (by omega)))
        show K r aj' b' j' _
        rw [er]; exact h _ _ _ _ hJ'
      · have e : ct p (a + 1) = ct p a + (if p a then 1 else 0) := rfl
        have go0 : ¬ p a = true → B_Mo_frees_49 (nI i) (nI n) (nI k) one mw (fun r' => K r aj' b' j' r') (L_Mo_frees_15 (nI i) (nI n) (nI k) one mw (fun r' => K r aj' b' j' r') m) (nI a) (nI (ct p a)) := by
          intro z x ex
          rw [show (0 : Int32) = nI 0 from rfl, nI_add] at ex
          rw [if_neg z] at e
          subst ex
          show L_Mo_frees_15 _ _ _ _ _ _ _ _ (nI a + 1)
          rw [← nI_succ, ← e]; exact ih
        show L_Mo_frees_15 _ _ _ _ _ _ (m + 1) _ _
        rw [L_Mo_frees_15]
        refine s_deedMany_M hn (jle (by omega) (by omega) (fun c => absurd c (by omega)) (fun _ => s_judgmentAt_M (by omega) hn hMW ha hO hB ?_))
        have hpa := hpe a
        obtain ⟨b, hb, hbk⟩ := lb_some (w := w) (n := n) (d := d) (y := y) (k := k) (a := a) (by omega)
        rw [hb] at hpa ⊢
        have hj3 := jd_le hB hbk
        refine jle (a := jd j q b) (b := 0) (by omega) (by decide) (fun z => go0 (fun q => ?_)) (fun z => s_all_M (by omega) (s_caseAll_M (by omega) hn hMW ha hO hB ?_))
        · have q2 := hpa.mp q
          cases q2.1
          omega
        · rw [hb]
          refine jne (by omega) (by omega) (fun z2 => go0 (fun q => z2 (by have q2 := (hpa.mp q).1; cases q2; rfl))) (fun z2 => ?_)
          subst z2
          intro x ex
          rw [show (1 : Int32) = nI 1 from rfl, nI_add] at ex
          rw [if_pos (hpa.mpr ⟨rfl, z⟩)] at e
          subst ex
          show L_Mo_frees_15 _ _ _ _ _ _ _ _ (nI a + 1)
          rw [← nI_succ, ← e]; exact ih
    obtain ⟨r0, r1, r2, r3⟩ := hR i hi
    have hj3 := jd_le hB hi
    refine s_rjudg hk hi r1 r3 (hB i hi).2.2.2 (jne (a := jd j q i) (b := 0) (by omega) (by decide) (fun z => s_judgeAll hk hW hR hB hE hJ (fun b' j' hJ' => ?_)) (fun z => hm _ _ _ _ hJ ?_))
    · refine lpf (fun m a => L_Surveyor_judgedBy_4 (nI i) (nI n) b' (fun r => P_Mo_frees (nI i) (nI n) (nI k) one mw (fun r' => K r 1 b' j' r')) m (nI (ct p a)) (nI a)) 0 (2 ^ n) (Nat.zero_le _) (fun m => ?_) (fun m a _ ha ih => ?_)
      · show L_Surveyor_judgedBy_4 _ _ _ _ (m + 1) _ _
        rw [L_Surveyor_judgedBy_4]
        exact s_deedCount hn (jle (by omega) (by omega) (fun _ => hm _ _ _ _ (Or.inr ⟨rfl, hJ'⟩) rfl) (fun c => absurd c (by omega)))
      · have e : ct p (a + 1) = ct p a + (if p a then 1 else 0) := rfl
        show L_Surveyor_judgedBy_4 _ _ _ _ (m + 1) _ _
        rw [L_Surveyor_judgedBy_4]
        refine s_deedCount hn (jle (by omega) (by omega) (fun c => absurd c (by omega)) (fun _ => s_byWhich hn hJ' ha ?_))
        have hpa := hpe a
        obtain ⟨b, hb, hbk⟩ := lb_some (w := w) (n := n) (d := d) (y := y) (k := k) (a := a) (by omega)
        rw [hb] at hpa ⊢
        refine jne (by omega) (by omega) (fun z2 => ?_) (fun z2 => ?_)
        · rw [if_neg (fun q => z2 (by have q2 := (hpa.mp q).1; cases q2; rfl))] at e
          have ih2 := ih
          rw [e] at ih2
          show L_Surveyor_judgedBy_4 _ _ _ _ _ _ (nI a + 1)
          rw [← nI_succ]; exact ih2
        · subst z2
          rw [if_pos (hpa.mpr ⟨rfl, by omega⟩)] at e
          show L_Surveyor_judgedBy_4 _ _ _ _ _ (nI (ct p a) + 1) (nI a + 1)
          rw [← nI_succ, ← nI_succ, ← e]; exact ih
    · have e0 : ∀ m, ct p m = 0 := by
        intro m
        induction m with
        | zero => rfl
        | succ m ih =>
          show ct p m + (if p m then 1 else 0) = 0
          rw [ih, if_neg (fun q => by have := ((hpe m).mp q).2; omega)]
      rw [e0]; rfl
  · exact s_isCase_M (by omega) (jb (fun z => absurd z hx) (fun _ => h _ _ _ _ hJ))
/-- the text -/
def TxOK (sz : Nat) (cb mt : Nat → Int32) : Prop := sz ≤ 200 ∧ ∀ i, i < sz → cb i = mt i ∧ ∃ v, v < 256 ∧ cb i = nI v
theorem byteI (x s : Int64) : ∃ v, v < 256 ∧ ((x >>> s) &&& 255).toInt32 = nI v := by
  refine ⟨((x >>> s) &&& 255).toBitVec.toNat, ?_, ?_⟩
  · rw [Int64.toBitVec_and, BitVec.toNat_and]
    exact Nat.lt_of_le_of_lt Nat.and_le_right (by decide)
  · apply Int32.toBitVec_inj.mp
    rw [nI_bv]
    generalize (x >>> s) &&& 255 = z
    show z.toBitVec.signExtend 32 = BitVec.ofNat 32 z.toBitVec.toNat
    apply BitVec.eq_of_getLsbD_eq
    intro i hi
    rw [BitVec.getLsbD_signExtend, BitVec.getLsbD_ofNat, if_pos (by omega)]
    rfl
theorem op_write {sz : Nat} {x1 : Int64} {x3 : Int32} {cb mt : Nat → Int32} {K : Int32 → Int32 → (Nat → Int32) → Int32 → Int32 → (Nat → Int32) → Prop} (hT : TxOK sz cb mt) (h : ∀ r s' c' m', TxOK s' c' m' → K r (nI s') c' r (nI s') m') :
    P_LC_write x1 x3 (nI sz) cb (fun r s' c' => P_Mo_write x1 x3 (nI sz) mt (fun r' t' m' => K r s' c' r' t' m')) := by
  have hs := hT.1
  refine s_within (jb (fun hx => ?_) (fun hx => s_in_M (jb (fun z => absurd z hx) (fun _ => h _ _ _ _ hT))))
  obtain ⟨l, hl, rfl⟩ := nI_of2 (M := 8) (n := 8) rfl (Int32.not_lt.mpr (Int32.le_trans (by decide) hx.1)) hx.2
  show (nI sz + nI l ≤ 200 → _) ∧ (¬ nI sz + nI l ≤ 200 → _)
  rw [nI_add]
  refine jle (a := sz + l) (b := 200) (by omega) (by decide) (fun hz => ?_) (fun hz => s_in_M (jb (fun _ => ?_) (fun z => absurd hx z)))
  · generalize hf : (fun i : Nat => ((x1 >>> ((8 * nI i).toInt64 &&& 63)) &&& 255).toInt32) = f
    have hfv : ∀ i, ∃ v, v < 256 ∧ f i = nI v := fun i => by rw [← hf]; exact byteI _ _
    have hfe : ∀ i : Nat, ((x1 >>> ((8 * nI i).toInt64 &&& 63)) &&& 255).toInt32 = f i := fun i => by rw [← hf]
    have hA := lpf (fun m i => ∀ c, (∀ a, a < sz → c a = cb a) → (∀ a, a < i → c (sz + a) = f a) → L_LC_write_34 x1 (nI l) (fun r s' c' => P_Mo_write x1 (nI l) (nI sz) mt (fun r' t' m' => K r s' c' r' t' m')) m (nI i) (nI (sz + i)) c) 0 l (Nat.zero_le _) (fun m c hc1 hc2 => ?_) (fun m i _ hi ih c hc1 hc2 => ?_)
    · obtain ⟨m, hm⟩ := hA
      exact ⟨m, hm _ (fun _ _ => rfl) (fun a ha => absurd ha (Nat.not_lt_zero a))⟩
    · refine jle (by omega) (by omega) (fun _ => ?_) (fun c => absurd c (by omega))
      refine s_in_M (jb (fun _ => ?_) (fun z => absurd hx z))
      rw [nI_add]
      refine jle (a := sz + l) (b := 200) (by omega) (by decide) (fun _ => ?_) (fun z => absurd z (by omega))
      have hB := lpf (fun m i => ∀ t, (∀ a, a < sz → t a = mt a) → (∀ a, a < i → t (sz + a) = f a) → L_Mo_write_31 x1 (nI l) (fun r' t' m' => K (nI (sz + l)) (nI (sz + l)) c r' t' m') m (nI i) (nI sz) t) 0 l (Nat.zero_le _) (fun m t ht1 ht2 => ?_) (fun m i _ hi ih t ht1 ht2 => ?_)
      · obtain ⟨m, hm⟩ := hB
        exact ⟨m, hm _ (fun _ _ => rfl) (fun a ha => absurd ha (Nat.not_lt_zero a))⟩
      · refine jle (by omega) (by omega) (fun _ => ?_) (fun c => absurd c (by omega))
        intro x ex
        rw [nI_add] at ex
        subst ex
        refine h _ _ _ _ ⟨hz, fun a ha => ?_⟩
        by_cases e : a < sz
        · rw [hc1 a e, ht1 a e]; exact hT.2 a e
        · have h1 := hc2 (a - sz) (by omega)
          have h2 := ht2 (a - sz) (by omega)
          rw [show sz + (a - sz) = a by omega] at h1 h2
          rw [h1, h2]
          exact ⟨rfl, hfv _⟩
      · refine jle (by omega) (by omega) (fun c => absurd c (by omega)) (fun _ => ?_)
        rw [nI_add, clI (by omega), ← nI_succ, hfe]
        refine ⟨vpn (by omega) (by decide), ih _ (fun a ha => by rw [upd_n _ (by omega)]; exact ht1 a ha) (fun a ha => ?_)⟩
        by_cases e : a = i
        · subst e; rw [upd_s]
        · rw [upd_n _ (by omega)]; exact ht2 a (by omega)
    · refine jle (by omega) (by omega) (fun c => absurd c (by omega)) (fun _ => ?_)
      rw [hfe]
      refine jle (a := 200) (b := sz + i) (by decide) (by omega) (fun z => absurd z (by omega)) (fun _ => ⟨vpn (by omega) (by decide), ?_⟩)
      intro x ex
      rw [← nI_succ] at ex
      subst ex
      show L_LC_write_34 _ _ _ _ (nI i + 1) _ _
      rw [← nI_succ, clI (by omega), show sz + i + 1 = sz + (i + 1) by omega]
      refine ih _ (fun a ha => by rw [upd_n _ (by omega)]; exact hc1 a ha) (fun a ha => ?_)
      by_cases e : a = i
      · subst e; rw [upd_s]
      · rw [upd_n _ (by omega)]; exact hc2 a (by omega)
  · show (nI sz + nI l ≤ 200 → _) ∧ (¬ nI sz + nI l ≤ 200 → _)
    rw [nI_add]
    exact jle (a := sz + l) (b := 200) (by omega) (by decide) (fun z => absurd z (by omega)) (fun _ => h _ _ _ _ hT)
/-- least -/
theorem op_least {n k : Nat} {w c d j y q : Nat → Nat} {x1 x2 x3 aj : Int32} {by_ jud each sums ce cs mc deeds elders fj years pard one mw : Nat → Int32} {K : Int32 → Int32 → (Nat → Int32) → (Nat → Int32) → Int32 → Prop} (hk : k ≤ 12) (hW : ScOK n w each sums) (hC : ScOK n c ce cs) (hMW : WtOK n w mw) (hMC : WtOK n c mc) (hR : RlOK k d j y q deeds fj years pard) (hE : ElOK k y elders) (hO : OnOK k d j y q one) (hB : CB n k d j y q) (hJ : JInv n (lb w n d y k) j q aj by_ jud)
    (h : ∀ r aj' b' j', JInv n (lb w n d y k) j q aj' b' j' → K r aj' b' j' r) :
    P_LC_least x1 x2 x3 (nI n) aj by_ jud (nI k) cs deeds elders fj pard sums (fun r aj' b' j' => P_Mo_least x1 x2 x3 (nI n) (nI k) mc one mw (fun r' => K r aj' b' j' r')) := by
  have hn := hW.1
  have h2 := pw10 hn
  have hc9 : ∀ p, p < n → c p ≤ 9 := fun p hp => (hC.2.1 p hp).2
  refine s_isDeed hn (jb' (fun hx => ?_) (fun hx => s_isJudgment (jb' (fun hy => ?_) (fun hy => s_within (jb (fun hz => ?_) (fun hz => ?_))))))
  · exact s_isDeed_M hn (jb' (fun _ => h _ _ _ _ hJ) (fun z => absurd z hx))
  · exact s_isDeed_M hn (jb' (fun z => absurd hx z) (fun _ => s_isJudgment_M (jb' (fun _ => h _ _ _ _ hJ) (fun z => absurd z hy))))
  · obtain ⟨t, ht, rfl⟩ := vp_in_of hx (by omega)
    refine s_judgeAll hk hW hR hB hE hJ (fun b' j' hJ' => ?_)
    generalize hU : (fun a => sw c n (t ^^^ a)) = U
    have hUe : ∀ a, sw c n (t ^^^ a) = U a := fun a => by rw [← hU]
    have hU90 : ∀ a, U a ≤ 90 := fun a => by rw [← hUe]; have := sw_le (n := n) (s := t ^^^ a) hc9; omega
    generalize hS : (fun a => tB (encJ j q (lb w n d y k a) = x2)) = S
    have hSe : ∀ a, (S a = true ↔ encJ j q (lb w n d y k a) = x2) := fun a => by rw [← hS]; exact tB_t
    generalize hBB : bst U (fun _ _ => false) S = B
    have bno : ∀ a, ¬ S a = true → B (a + 1) = B a := fun a z => by rw [← hBB]; exact bst_no (Bool.eq_false_iff.mpr z)
    have bfi : ∀ a, S a = true → B a = none → B (a + 1) = some a := fun a z z2 => by rw [← hBB] at z2 ⊢; exact bst_first z z2
    have bnw : ∀ a b, S a = true → B a = some b → U a < U b → B (a + 1) = some a := fun a b z z2 z3 => by rw [← hBB] at z2 ⊢; exact bst_new z z2 (Or.inl z3)
    have bol : ∀ a b, B a = some b → U b ≤ U a → B (a + 1) = some b := fun a b z2 z3 => by
      by_cases z : S a = true
      · rw [← hBB] at z2 ⊢
        refine bst_old z z2 (fun q => ?_)
        rcases q with q | q
        · omega
        · exact absurd q.2 (by decide)
      · rw [bno a z]; exact z2
    have bin : ∀ a b, B a = some b → b < a := fun a b z => by rw [← hBB] at z; exact (bst_in z).1
    have hm : ∀ r, (B (2 ^ n) = none → r = -1) → (∀ b, B (2 ^ n) = some b → (x3 = 1 → r = nI b) ∧ (¬ x3 = 1 → r = nI (U b))) → P_Mo_least (nI t) x2 x3 (nI n) (nI k) mc one mw (fun r' => K r 1 b' j' r') := by
      intro r g0 g1
      refine s_isDeed_M hn (jb' (fun z => absurd hx z) (fun _ => s_isJudgment_M (jb' (fun z => absurd hy z) (fun _ => s_in_M (jb (fun _ => ?_) (fun z => absurd hz z))))))
      have hA := lpf (fun m a => ∀ x5, (∀ b, B a = some b → x5 = nI (U b)) → L_Mo_least_36 (nI t) x2 x3 (nI n) (nI k) mc one mw (fun r' => K r 1 b' j' r') m (enc (B a)) x5 (nI a)) 0 (2 ^ n) (Nat.zero_le _) (fun m x5 hx5 => ?_) (fun m a _ ha ih x5 hx5 => ?_)
      · obtain ⟨m, hm⟩ := hA
        have h0 := hm 0 (fun b z => absurd (bin 0 b z) (Nat.not_lt_zero b))
        have e0 : B 0 = none := by rw [← hBB]; rfl
        rw [e0] at h0
        exact ⟨m, h0⟩
      · rw [L_Mo_least_36]
        refine s_deedMany_M hn (jle (by omega) (by omega) (fun _ => ?_) (fun c => absurd c (by omega)))
        cases hb : B (2 ^ n) with
        | none =>
          refine br_t rfl ?_
          show K r 1 b' j' (-1)
          rw [g0 hb]; exact h _ _ _ _ (Or.inr ⟨rfl, hJ'⟩)
        | some b =>
          have hbn := bin _ _ hb
          refine br_f (nI_m1 (by omega)) (br_n (fun z => ?_) (fun z => ?_))
          · show K r 1 b' j' x5
            rw [(g1 b hb).2 z, hx5 b hb]; exact h _ _ _ _ (Or.inr ⟨rfl, hJ'⟩)
          · show K r 1 b' j' (nI b)
            rw [(g1 b hb).1 z]; exact h _ _ _ _ (Or.inr ⟨rfl, hJ'⟩)
      · rw [L_Mo_least_36]
        refine s_deedMany_M hn (jle (by omega) (by omega) (fun c => absurd c (by omega)) (fun _ => ?_))
        generalize hN : L_Mo_least_36 (nI t) x2 x3 (nI n) (nI k) mc one mw (fun r' => K r 1 b' j' r') m = N
        rw [hN] at ih
        have goN : B (a + 1) = some a → ∀ x4 x5', B_Mo_least_117 (nI t) x2 x3 (nI n) (nI k) mc one mw (fun r' => K r 1 b' j' r') N x4 x5' (nI a) (nI (U a)) := by
          intro hb x4 x5'
          refine br_f (by decide) (br_f (by decide) ?_)
          show N (nI a) (nI (U a)) (nI a + 1)
          rw [← nI_succ]
          have h1 := ih (nI (U a)) (fun b e => by rw [hb] at e; cases e; rfl)
          rw [hb] at h1
          exact h1
        have goO : B (a + 1) = B a → ∀ x7, B_Mo_least_121 (nI t) x2 x3 (nI n) (nI k) mc one mw (fun r' => K r 1 b' j' r') N (enc (B a)) x5 (nI a) x7 := by
          intro hb x7
          refine br_t rfl (br_t rfl ?_)
          show N (enc (B a)) x5 (nI a + 1)
          rw [← nI_succ]
          have h1 := ih x5 (fun b e => by rw [hb] at e; exact hx5 b e)
          rw [hb] at h1
          exact h1
        have hxx := xor_lt ht ha
        refine lpf (fun m' p => L_Mo_least_51 (nI t) x2 x3 (nI n) (nI k) mc one mw (fun r' => K r 1 b' j' r') N m' (enc (B a)) x5 (nI a) (nI (sw c p (t ^^^ a))) (nI p)) 0 n (Nat.zero_le _) (fun m' => ?_) (fun m' p _ hp ih2 => ?_)
        · refine jle (by omega) (by omega) (fun _ => s_judgmentAt_M (by omega) hn hMW ha hO hB (br_n (fun z => goO (bno a (fun q => z ((hSe a).mp q))) _) (fun z => ?_))) (fun c => absurd c (by omega))
          rw [hUe]
          cases hb : B a with
          | none => exact br_t rfl (goN (bfi a ((hSe a).mpr z) hb) _ _)
          | some b =>
            have hbn := bin _ _ hb
            rw [hb] at goO
            have hx5' := hx5 b hb
            subst hx5'
            have u1 := hU90 a
            have u2 := hU90 b
            exact br_f (nI_m1 (by omega)) (jle (by omega) (by omega) (fun z2 => goO (bol a b hb z2) _) (fun z2 => goN (bnw a b ((hSe a).mpr z) hb z2) _ _))
        · have e : sw c (p + 1) (t ^^^ a) = sw c p (t ^^^ a) + (if (t ^^^ a).testBit p then c p else 0) := rfl
          refine jle (by omega) (by omega) (fun c => absurd c (by omega)) (fun _ => ?_)
          rw [xorI, Nat.xor_comm a t]
          refine s_has_M (by omega) (by omega) (jb' (fun z => ?_) (fun z => ⟨vpn (by omega) (by decide), ?_⟩))
          · intro x ex
            rw [show (0 : Int32) = nI 0 from rfl, nI_add] at ex
            rw [if_neg z] at e
            subst ex
            show L_Mo_least_51 _ _ _ _ _ _ _ _ _ _ _ _ _ _ _ (nI p + 1)
            rw [← nI_succ, ← e]; exact ih2
          · intro x ex
            rw [clI (by omega), (hMC p hp).1, nI_add] at ex
            rw [if_pos z] at e
            subst ex
            show L_Mo_least_51 _ _ _ _ _ _ _ _ _ _ _ _ _ _ _ (nI p + 1)
            rw [← nI_succ, ← e]; exact ih2
    generalize hQ : (fun r_7 => (r_7 = (-1) → B_LC_least_59 (nI t) x2 x3 (nI n) (nI k) cs deeds elders fj pard sums (fun r aj' b' j' => P_Mo_least (nI t) x2 x3 (nI n) (nI k) mc one mw (fun r' => K r aj' b' j' r')) r_7 1 b' j') ∧ (¬ r_7 = (-1) → (¬ x3 = 1 → P_Scale_together (nI t ^^^ r_7) cs (fun r_8 => P_Mo_least (nI t) x2 x3 (nI n) (nI k) mc one mw (fun r' => K r_8 1 b' j' r'))) ∧ (x3 = 1 → B_LC_least_59 (nI t) x2 x3 (nI n) (nI k) cs deeds elders fj pard sums (fun r aj' b' j' => P_Mo_least (nI t) x2 x3 (nI n) (nI k) mc one mw (fun r' => K r aj' b' j' r')) r_7 1 b' j'))) = QQ
    have hfin : QQ (enc (B (2 ^ n))) := by
      rw [← hQ]
      cases hb : B (2 ^ n) with
      | none => exact br_t rfl (hm _ (fun _ => rfl) (fun b e => by rw [hb] at e; cases e))
      | some b =>
        have hbn := bin _ _ hb
        refine br_f (nI_m1 (by omega)) (br_n (fun z => ?_) (fun z => hm _ (fun e => by rw [hb] at e; cases e) (fun b2 e => by rw [hb] at e; cases e; exact ⟨fun _ => rfl, fun q => absurd z q⟩)))
        show P_Scale_together (nI t ^^^ nI b) cs _
        rw [xorI]
        refine s_together hC (xor_lt ht hbn) ?_
        rw [hUe]
        exact hm _ (fun e => by rw [hb] at e; cases e) (fun b2 e => by rw [hb] at e; cases e; exact ⟨fun q => absurd q z, fun _ => rfl⟩)
    have hA := lpf (fun m a => ∀ x5, (∀ b, B a = some b → x5 = nI (U b)) → L_Pleader_nearest_8 (nI t) x2 (nI n) j' cs QQ m (enc (B a)) x5 (nI a)) 0 (2 ^ n) (Nat.zero_le _) (fun m x5 hx5 => ?_) (fun m a _ ha ih x5 hx5 => ?_)
    · obtain ⟨m, hm⟩ := hA
      have h0 := hm 0 (fun b z => absurd (bin 0 b z) (Nat.not_lt_zero b))
      have e0 : B 0 = none := by rw [← hBB]; rfl
      rw [e0] at h0
      exact ⟨m, h0⟩
    · rw [L_Pleader_nearest_8]
      exact s_deedCount hn (jle (by omega) (by omega) (fun _ => hfin) (fun c => absurd c (by omega)))
    · rw [L_Pleader_nearest_8]
      refine s_deedCount hn (jle (by omega) (by omega) (fun c => absurd c (by omega)) (fun _ => ?_))
      rw [xorI]
      refine s_together hC (xor_lt ht ha) ?_
      rw [hUe]
      have goN : B (a + 1) = some a → L_Pleader_nearest_8 (nI t) x2 (nI n) j' cs QQ m (nI a) (nI (U a)) (nI a + 1) := by
        intro hb
        rw [← nI_succ]
        have h1 := ih (nI (U a)) (fun b e => by rw [hb] at e; cases e; rfl)
        rw [hb] at h1
        exact h1
      have goO : B (a + 1) = B a → L_Pleader_nearest_8 (nI t) x2 (nI n) j' cs QQ m (enc (B a)) x5 (nI a + 1) := by
        intro hb
        rw [← nI_succ]
        have h1 := ih x5 (fun b e => by rw [hb] at e; exact hx5 b e)
        rw [hb] at h1
        exact h1
      cases hb : B a with
      | none =>
        rw [hb] at goO
        exact br_t rfl (s_cjudg hn hJ' ha (br_n (fun z => goO (by rw [bno a (fun q => z ((hSe a).mp q)), hb])) (fun z => goN (bfi a ((hSe a).mpr z) hb))))
      | some b =>
        have hbn := bin _ _ hb
        rw [hb] at goO
        have hx5' := hx5 b hb
        subst hx5'
        have u1 := hU90 a
        have u2 := hU90 b
        exact br_f (nI_m1 (by omega)) (jle (by omega) (by omega) (fun z2 => goO (bol a b hb z2)) (fun z2 => s_cjudg hn hJ' ha (br_n (fun z => goO (by rw [bno a (fun q => z ((hSe a).mp q)), hb])) (fun z => goN (bnw a b ((hSe a).mpr z) hb z2)))))
  · exact s_isDeed_M hn (jb' (fun z => absurd hx z) (fun _ => s_isJudgment_M (jb' (fun z => absurd hy z) (fun _ => s_in_M (jb (fun z => absurd z hz) (fun _ => h _ _ _ _ hJ))))))
