/-! PURE 6: counting bits; the calls that change little -/
def ct (p : Nat → Bool) : Nat → Nat
  | 0 => 0
  | k + 1 => ct p k + (if p k then 1 else 0)
theorem ct_cong {p q : Nat → Bool} : ∀ {k : Nat}, (∀ i, i < k → p i = q i) → ct p k = ct q k
  | 0, _ => rfl
  | k + 1, h => by
    show ct p k + (if p k then 1 else 0) = ct q k + (if q k then 1 else 0)
    rw [ct_cong (fun i hi => h i (by omega)), h k (by omega)]
theorem ct_le (p : Nat → Bool) : ∀ k, ct p k ≤ k
  | 0 => Nat.le_refl 0
  | k + 1 => by
    have h := ct_le p k
    show ct p k + (if p k then 1 else 0) ≤ k + 1
    split <;> omega
theorem ct_more {p : Nat → Bool} {k : Nat} (h : ∀ i, k ≤ i → p i = false) : ∀ m, ct p (k + m) = ct p k
  | 0 => rfl
  | m + 1 => by
    show ct p (k + m) + (if p (k + m) then 1 else 0) = ct p k
    rw [ct_more h m, h (k + m) (by omega)]
    rfl
def bc (s : Nat) : Nat := ct (fun i => s.testBit i) 14
theorem bc_mk {p : Nat → Bool} {k : Nat} (hk : k ≤ 14) : bc (mk p k) = ct p k := by
  unfold bc
  have h1 := ct_more (p := fun i => (mk p k).testBit i) (k := k) (fun i hi => by rw [mk_bit]; simp [show ¬ i < k by omega]) (14 - k)
  rw [show k + (14 - k) = 14 by omega] at h1
  rw [h1]
  exact ct_cong (fun i hi => by rw [mk_bit]; simp [hi])
theorem es_mk (y : Nat → Nat) (i : Nat) : ∀ k, es y k i = mk (fun o => eldB y o i) k
  | 0 => rfl
  | k + 1 => by
    show es y k i ||| _ = mk _ k ||| _
    rw [es_mk y i k]
theorem s_bits_M {s : Nat} {Q : Int32 → Prop} (hs : s < 16384) (h : Q (nI (bc s))) : P_Mo_bits (nI s) Q := by
  refine lpf (fun m i => L_Mo_bits_4 (nI s) Q m (nI (ct (fun i => s.testBit i) i)) (nI i)) 0 14 (by decide) (fun m => ?_) (fun m i _ hi ih => ?_)
  · exact jle (a := 14) (b := 14) (by decide) (by decide) (fun _ => h) (fun c => absurd c (by decide))
  · refine jle (a := 14) (b := i) (by decide) (by omega) (fun c => absurd c (by omega)) (fun _ => ?_)
    intro x ex
    rw [bitI (by omega) (by omega), nI_add] at ex
    subst ex
    rw [← nI_succ]
    exact ih
def bcF (x0 : Int32) : Int32 :=
  let x1 := (x0 - (((x0.toUInt32 >>> ((1 : Int32).toUInt32 &&& Int32.toUInt32 31)).toInt32) &&& 1431655765))
  let x2 := ((x1 &&& 858993459) + (((x1.toUInt32 >>> ((2 : Int32).toUInt32 &&& Int32.toUInt32 31)).toInt32) &&& 858993459))
  let x3 := ((x2 + ((x2.toUInt32 >>> ((4 : Int32).toUInt32 &&& Int32.toUInt32 31)).toInt32)) &&& 252645135)
  let x4 := (x3 + ((x3.toUInt32 >>> ((8 : Int32).toUInt32 &&& Int32.toUInt32 31)).toInt32))
  let x5 := (x4 + ((x4.toUInt32 >>> ((16 : Int32).toUInt32 &&& Int32.toUInt32 31)).toInt32))
  x5 &&& 63
set_option maxRecDepth 100000 in
theorem bcF_all : (List.range 4096).all (fun s => decide (bcF (nI s) = nI (bc s))) = true := by decide +kernel
theorem s_bitCount {s : Nat} {Q : Int32 → Prop} (hs : s < 4096) (h : Q (nI (bc s))) : P_Integer_bitCount (nI s) Q := by
  intro x1 e1 x2 e2 x3 e3 x4 e4 x5 e5
  subst e1 e2 e3 e4 e5
  have h1 := of_decide_eq_true (List.all_eq_true.mp bcF_all s (List.mem_range.mpr hs))
  show Q (bcF (nI s))
  rw [h1]
  exact h
theorem s_countOrSet {s : Nat} {x : Int32} {Q : Int32 → Prop} (hs : s < 4096) (h0 : x = 0 → Q (nI (bc s))) (h1 : ¬ x = 0 → Q (nI s)) : P_LC_countOrSet (nI s) x Q :=
  br_n (fun c => h1 c) (fun c => s_bitCount hs (h0 c))
/-- the cache -/
def JInv (n : Nat) (f : Nat → Option Nat) (j q : Nat → Nat) (aj : Int32) (by_ jud : Nat → Int32) : Prop := aj = 0 ∨ (aj = 1 ∧ JdOK n f j q by_ jud)
theorem op_point {n : Nat} {w c : Nat → Nat} {x1 x2 : Int32} {ce we ws_ cs_ mc mw : Nat → Int32} {K : Int32 → Int32 → Prop} (hW : ScOK n w we ws_) (hC : ScOK n c ce cs_) (hMW : WtOK n w mw) (hMC : WtOK n c mc) (h : ∀ r, K r r) :
    P_LC_point x1 x2 (nI n) (nI n) (nI n) ce we (fun r => P_Mo_point x1 x2 (nI n) mc mw (fun r' => K r r')) := by
  have hn := hW.1
  refine s_isPoint (by omega) (jb (fun hx => ?_) (fun hx => ?_))
  · obtain ⟨p, hp, rfl⟩ := vp_in_of hx (by omega)
    have hm : ∀ r, (x2 = 0 → r = nI (w p)) → (x2 = 1 → r = nI (c p)) → (¬ x2 = 0 → ¬ x2 = 1 → r = -3) → P_Mo_point (nI p) x2 (nI n) mc mw (fun r' => K r r') := by
      intro r h0 h1 h2
      refine s_in_M ?_
      rw [bI_c (vp_le0 (by omega))]
      refine jb (fun _ => br_n (fun z0 => br_n (fun z1 => ?_) (fun z1 => ⟨vpn (by omega) (by decide), ?_⟩)) (fun z0 => ⟨vpn (by omega) (by decide), ?_⟩)) (fun z => absurd hx z)
      · show K r (-3)
        rw [h2 z0 z1]; exact h _
      · show K r (mc (nI p).toNatClampNeg)
        rw [clI (by omega), (hMC p hp).1, h1 z1]; exact h _
      · show K r (mw (nI p).toNatClampNeg)
        rw [clI (by omega), (hMW p hp).1, h0 z0]; exact h _
    refine s_within (jb (fun z => br_n (fun z0 => s_at hC hp ?_) (fun z0 => s_at hW hp ?_)) (fun z => ?_))
    · refine hm _ (fun e => absurd e z0) (fun _ => rfl) (fun _ z1 => ?_)
      exfalso
      obtain ⟨i, hi, rfl⟩ := nI_of2 (M := 1) (n := 1) rfl (Int32.not_lt.mpr z.1) z.2
      rcases (show i = 0 ∨ i = 1 by omega) with rfl | rfl
      · exact z0 rfl
      · exact z1 rfl
    · exact hm _ (fun _ => rfl) (fun e => absurd (z0.symm.trans e) (by decide)) (fun e => absurd z0 e)
    · refine hm _ (fun e => absurd ⟨?_, ?_⟩ z) (fun e => absurd ⟨?_, ?_⟩ z) (fun _ _ => rfl) <;> rw [e] <;> decide
  · refine s_in_M ?_
    rw [bI_c (vp_le0 (by omega))]
    exact jb (fun z => absurd z hx) (fun _ => h _)
theorem op_like {n k : Nat} {w d j y q : Nat → Nat} {x1 x2 : Int32} {each sums deeds fj years pard one mw : Nat → Int32} {K : Int32 → Int32 → Prop} (hk : k ≤ 12) (hW : ScOK n w each sums) (hMW : WtOK n w mw) (hR : RlOK k d j y q deeds fj years pard) (hO : OnOK k d j y q one) (hB : CB n k d j y q) (h : ∀ r, K r r) :
    P_LC_like x1 x2 (nI n) (nI k) deeds sums (fun r => P_Mo_like x1 x2 (nI n) (nI k) one mw (fun r' => K r r')) := by
  have hn := hW.1
  have h2 := pw10 hn
  refine s_rhas (by omega) (jb (fun hx => s_isDeed hn (jb (fun hy => ?_) (fun hy => ?_))) (fun hx => ?_))
  · obtain ⟨i, hi, rfl⟩ := vp_in_of hx (by omega)
    obtain ⟨a, ha, rfl⟩ := vp_in_of hy (by omega)
    refine s_clikeness hk hW ha hi (hR i hi).1 (hB i hi).1 (s_isCase_M (by omega) (jb (fun _ => s_isDeed_M hn (jb' (fun z => absurd hy z) (fun _ => ⟨by rw [i4]; exact vpn (by omega) (by decide), ?_⟩))) (fun z => absurd hx z)))
    rw [i4, clI (by omega), (hO i hi).1]
    exact s_likeness_M hn hMW ha (hB i hi).1 (h _)
  · exact s_isCase_M (by omega) (jb (fun _ => s_isDeed_M hn (jb' (fun _ => h _) (fun z => absurd z hy))) (fun z => absurd hx z))
  · exact s_isCase_M (by omega) (jb (fun z => absurd z hx) (fun _ => h _))
theorem op_judge {n k : Nat} {w d j y q : Nat → Nat} {x1 x2 : Int32} {each sums deeds elders fj years pard one mw : Nat → Int32} {K : Int32 → Int32 → Prop} (hk : k ≤ 12) (hW : ScOK n w each sums) (hMW : WtOK n w mw) (hR : RlOK k d j y q deeds fj years pard) (hE : ElOK k y elders) (hO : OnOK k d j y q one) (hB : CB n k d j y q) (h : ∀ r, K r r) :
    P_LC_judge x1 x2 (nI n) (nI k) deeds elders fj pard sums (fun r => P_Mo_judge x1 x2 (nI n) (nI k) one mw (fun r' => K r r')) := by
  have hn := hW.1
  have h2 := pw10 hn
  refine s_isDeed hn (jb' (fun hx => ?_) (fun hx => s_within (jb (fun hy => ?_) (fun hy => ?_))))
  · exact s_isDeed_M hn (jb' (fun _ => h _) (fun z => absurd z hx))
  · obtain ⟨a, ha, rfl⟩ := vp_in_of hx (by omega)
    have hm : ∀ r, (∀ b, lb w n d y k a = some b → (x2 = 0 → r = nI (jd j q b)) ∧ (x2 = 1 → r = nI b) ∧ (¬ x2 = 0 → ¬ x2 = 1 → r = nI (lk w n (a ^^^ d b)))) → (lb w n d y k a = none → r = -1) → P_Mo_judge (nI a) x2 (nI n) (nI k) one mw (fun r' => K r r') := by
      intro r hs hn0
      refine s_isDeed_M hn (jb' (fun z => absurd hx z) (fun _ => s_in_M (jb (fun _ => s_all_M (by omega) (s_caseAll_M (by omega) hn hMW ha hO hB ?_)) (fun z => absurd hy z))))
      cases hb : lb w n d y k a with
      | none => exact br_nf rfl (by show K r (-1); rw [hn0 hb]; exact h _)
      | some b =>
        obtain ⟨g0, g1, g2⟩ := hs b hb
        have hbi := (bst_in hb).1
        refine br_nt (nI_m1 (by omega)) (br_n (fun z0 => br_n (fun z1 => ⟨?_, ?_⟩) (fun z1 => ?_)) (fun z0 => ?_))
        · show vp_in (4 * nI b) 56
          rw [i4]; exact vpn (by omega) (by decide)
        · show P_Mo_likeness (nI a) (one (4 * nI b).toNatClampNeg) (nI n) mw _
          rw [i4, clI (by omega), (hO b hbi).1]
          refine s_likeness_M hn hMW ha (hB b hbi).1 ?_
          show K r _
          rw [g2 z0 z1]; exact h _
        · show K r (nI b)
          rw [g1 z1]; exact h _
        · refine s_judg_M (by omega) hO hbi (hB b hbi).2.2.2 ?_
          show K r _
          rw [g0 z0]; exact h _
    refine s_likestCase hk hW ha hR hB hE ?_
    cases hb : lb w n d y k a with
    | none =>
      refine br_t rfl (hm _ (fun b e => by rw [hb] at e; cases e) (fun _ => rfl))
    | some b =>
      have hbi := (bst_in hb).1
      refine br_f (nI_m1 (by omega)) (br_n (fun z1 => br_n (fun z0 => ?_) (fun z0 => ?_)) (fun z1 => ?_))
      · exact s_clikeness hk hW ha hbi (hR b hbi).1 (hB b hbi).1 (hm _ (fun b' e => by rw [hb] at e; cases e; exact ⟨fun q => absurd q z0, fun q => absurd q z1, fun _ _ => rfl⟩) (fun e => by rw [hb] at e; cases e))
      · exact s_rjudg hk hbi (hR b hbi).2.1 (hR b hbi).2.2.2 (hB b hbi).2.2.2 (hm _ (fun b' e => by rw [hb] at e; cases e; exact ⟨fun _ => rfl, fun q => absurd q z1, fun q => absurd z0 q⟩) (fun e => by rw [hb] at e; cases e))
      · exact hm _ (fun b' e => by rw [hb] at e; cases e; exact ⟨fun q => absurd (z1.symm.trans q) (by decide), fun _ => rfl, fun _ q => absurd z1 q⟩) (fun e => by rw [hb] at e; cases e)
  · exact s_isDeed_M hn (jb' (fun z => absurd hx z) (fun _ => s_in_M (jb (fun z => absurd z hy) (fun _ => h _))))
