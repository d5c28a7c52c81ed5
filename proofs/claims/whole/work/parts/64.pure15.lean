/-! PURE 15: save, back -/
def ImOK (n e : Nat) (kept size : Int32) (D F P Y image isKept : Nat → Int32) : Prop :=
  (kept = 0 ∧ isKept e = 0) ∨ (kept = 1 ∧ isKept e = 1 ∧ ∃ k d j y q, k ≤ 12 ∧ size = nI k ∧ RlOK k d j y q D F Y P ∧ CB n k d j y q ∧ image (49 * e) = nI k ∧ OnOK k d j y q (fun i => image (49 * e + 1 + i)))
theorem ImOK.cong {n e : Nat} {kept size : Int32} {D F P Y im im' ik ik' : Nat → Int32} (h : ImOK n e kept size D F P Y im ik) (h1 : ∀ i, 49 * e ≤ i → i < 49 * e + 49 → im' i = im i) (h2 : ik' e = ik e) : ImOK n e kept size D F P Y im' ik' := by
  rcases h with ⟨a, b⟩ | ⟨a, b, k, d, j, y, q, hk, hs, hR, hB, h0, hO⟩
  · exact Or.inl ⟨a, by rw [h2]; exact b⟩
  · refine Or.inr ⟨a, by rw [h2]; exact b, k, d, j, y, q, hk, hs, hR, hB, by rw [h1 _ (by omega) (by omega)]; exact h0, fun i hi => ?_⟩
    have := hO i hi
    show im' (49 * e + 1 + 4 * i) = _ ∧ im' (49 * e + 1 + (4 * i + 1)) = _ ∧ im' (49 * e + 1 + (4 * i + 2)) = _ ∧ im' (49 * e + 1 + (4 * i + 3)) = _
    rw [h1 _ (by omega) (by omega), h1 _ (by omega) (by omega), h1 _ (by omega) (by omega), h1 _ (by omega) (by omega)]
    exact this
theorem i49 (e c : Nat) : (49 : Int32) * nI e + 1 + nI c = nI (49 * e + 1 + c) := by
  rw [show (49 : Int32) = nI 49 from rfl, show (1 : Int32) = nI 1 from rfl, pk_mul, nI_add, nI_add]
theorem i49' (e : Nat) : (49 : Int32) * nI e = nI (49 * e) := by
  rw [show (49 : Int32) = nI 49 from rfl, pk_mul]
theorem s_save_M {n k e : Nat} {d j y q : Nat → Nat} {one image isKept : Nat → Int32} {Q : Int32 → (Nat → Int32) → (Nat → Int32) → Prop} (he : e ≤ 1) (hk : k ≤ 12) (hO : OnOK k d j y q one)
    (h : ∀ im ik, im (49 * e) = nI k → OnOK k d j y q (fun i => im (49 * e + 1 + i)) → (∀ i, i < 49 * e ∨ 49 * e + 49 ≤ i → im i = image i) → ik e = 1 → (∀ i, i ≠ e → ik i = isKept i) → Q (nI k) im ik) : P_Mo_save (nI e) (nI k) image isKept one Q := by
  have e01 : (0 : Int32) ≤ nI e ∧ nI e ≤ 1 := by rcases (show e = 0 ∨ e = 1 by omega) with rfl | rfl <;> decide
  refine s_in_M (jb (fun _ => ?_) (fun z => absurd e01 z))
  rw [i49', clI (by omega)]
  refine ⟨vpn (by omega) (by decide), ?_⟩
  have hA := lpf (fun m i => ∀ im, im (49 * e) = nI k → (∀ c, c < i → im (49 * e + 1 + c) = one c) → (∀ c, c < 49 * e ∨ 49 * e + 49 ≤ c → im c = image c) → L_Mo_save_27 (nI e) (nI k) one Q m (nI i) im isKept) 0 48 (by decide) (fun m im h0 h1 h2 => ?_) (fun m i _ hi ih im h0 h1 h2 => ?_)
  · obtain ⟨m, hm⟩ := hA
    exact ⟨m, hm _ (upd_s _ _ _) (fun c hc => absurd hc (Nat.not_lt_zero c)) (fun c hc => upd_n _ (by omega))⟩
  · refine jle (a := 48) (b := 48) (by decide) (by decide) (fun _ => ⟨vpn (by omega) (by decide), ?_⟩) (fun c => absurd c (by decide))
    rw [clI (by omega)]
    refine h _ _ h0 (fun i hi => ?_) h2 ?_ (fun i hi => upd_n _ hi)
    · show im (49 * e + 1 + 4 * i) = _ ∧ im (49 * e + 1 + (4 * i + 1)) = _ ∧ im (49 * e + 1 + (4 * i + 2)) = _ ∧ im (49 * e + 1 + (4 * i + 3)) = _
      rw [h1 _ (by omega), h1 _ (by omega), h1 _ (by omega), h1 _ (by omega)]
      exact hO i hi
    · rw [upd_s]; exact vnb 1 (Or.inr rfl)
  · refine jle (a := 48) (b := i) (by decide) (by omega) (fun c => absurd c (by omega)) (fun _ => ⟨vpn (by omega) (by decide), ?_⟩)
    rw [i49, clI (by omega), clI (by omega)]
    refine ⟨vpn (by omega) (by decide), ?_⟩
    rw [← nI_succ]
    refine ih _ (by rw [upd_n _ (by omega)]; exact h0) (fun c hc => ?_) (fun c hc => by rw [upd_n _ (by omega)]; exact h2 c hc)
    by_cases e : c = i
    · subst e; rw [upd_s]
    · rw [upd_n _ (by omega)]; exact h1 c (by omega)
theorem op_save {n k : Nat} {d j y q : Nat → Nat} {x1 k0 k1 s0 s1 : Int32} {deeds fj years pard D0 E0 F0 P0 Y0 D1 E1 F1 P1 Y1 one image isKept : Nat → Int32} {K : Int32 → Int32 → Int32 → Int32 → Int32 → (Nat → Int32) → (Nat → Int32) → (Nat → Int32) → (Nat → Int32) → (Nat → Int32) → (Nat → Int32) → (Nat → Int32) → (Nat → Int32) → (Nat → Int32) → (Nat → Int32) → Int32 → (Nat → Int32) → (Nat → Int32) → Prop} (hk : k ≤ 12) (hR : RlOK k d j y q deeds fj years pard) (hO : OnOK k d j y q one) (hB : CB n k d j y q) (i0 : ImOK n 0 k0 s0 D0 F0 P0 Y0 image isKept) (i1 : ImOK n 1 k1 s1 D1 F1 P1 Y1 image isKept)
    (h : ∀ r k0 k1 s0 s1 D0 E0 F0 P0 Y0 D1 E1 F1 P1 Y1 im ik, ImOK n 0 k0 s0 D0 F0 P0 Y0 im ik → ImOK n 1 k1 s1 D1 F1 P1 Y1 im ik → K r k0 k1 s0 s1 D0 E0 F0 P0 Y0 D1 E1 F1 P1 Y1 r im ik) :
    P_LC_save x1 k0 k1 (nI k) s0 s1 deeds fj pard years D0 E0 F0 P0 Y0 D1 E1 F1 P1 Y1 (fun r k0 k1 s0 s1 D0 E0 F0 P0 Y0 D1 E1 F1 P1 Y1 => P_Mo_save x1 (nI k) image isKept one (fun r' im ik => K r k0 k1 s0 s1 D0 E0 F0 P0 Y0 D1 E1 F1 P1 Y1 r' im ik)) := by
  refine s_isImage (jb (fun hx => ?_) (fun hx => s_in_M (jb (fun z => absurd z hx) (fun _ => h _ _ _ _ _ _ _ _ _ _ _ _ _ _ _ _ _ i0 i1))))
  obtain ⟨e, he, rfl⟩ := nI_of2 (M := 1) (n := 1) rfl (Int32.not_lt.mpr hx.1) hx.2
  refine jeq (a := e) (b := 0) (by omega) (by decide) (fun z => ?_) (fun z => ?_)
  · subst z
    refine s_copyFrom hk hR hB (fun D E F P Y hR2 _ => s_save_M (n := n) (by decide) hk hO (fun im ik h0 h1 h2 h3 h4 => ?_))
    exact h _ _ _ _ _ _ _ _ _ _ _ _ _ _ _ _ _ (Or.inr ⟨rfl, h3, k, d, j, y, q, hk, rfl, hR2, hB, h0, h1⟩) (i1.cong (fun i a b => h2 i (by omega)) (h4 1 (by decide)))
  · have e1 : e = 1 := by omega
    subst e1
    refine s_copyFrom hk hR hB (fun D E F P Y hR2 _ => s_save_M (n := n) (by decide) hk hO (fun im ik h0 h1 h2 h3 h4 => ?_))
    exact h _ _ _ _ _ _ _ _ _ _ _ _ _ _ _ _ _ (i0.cong (fun i a b => h2 i (by omega)) (h4 0 (by decide))) (Or.inr ⟨rfl, h3, k, d, j, y, q, hk, rfl, hR2, hB, h0, h1⟩)
theorem s_back_M {e k : Nat} {d j y q : Nat → Nat} {ck : Int32} {one image isKept : Nat → Int32} {Q : Int32 → Int32 → (Nat → Int32) → Prop} (he : e ≤ 1) (hk : k ≤ 12) (hi : isKept e = 1) (h0 : image (49 * e) = nI k) (hO : OnOK k d j y q (fun i => image (49 * e + 1 + i)))
    (h : ∀ O, OnOK k d j y q O → Q (nI k) (nI k) O) : P_Mo_back (nI e) ck image isKept one Q := by
  have e01 : (0 : Int32) ≤ nI e ∧ nI e ≤ 1 := by rcases (show e = 0 ∨ e = 1 by omega) with rfl | rfl <;> decide
  refine s_in_M (jb (fun _ => ⟨vpn (by omega) (by decide), ?_⟩) (fun z => absurd e01 z))
  rw [clI (by omega), hi]
  refine br_nt (by decide) ?_
  rw [i49', clI (by omega), h0]
  refine ⟨vpn (by omega) (by decide), ?_⟩
  intro x ex
  subst ex
  have hA := lpf (fun m i => ∀ O, (∀ c, c < i → O c = image (49 * e + 1 + c)) → L_Mo_back_39 (nI e) image isKept Q m (nI i) (nI k) O) 0 48 (by decide) (fun m O h1 => ?_) (fun m i _ hi ih O h1 => ?_)
  · obtain ⟨m, hm⟩ := hA
    exact ⟨m, hm _ (fun c hc => absurd hc (Nat.not_lt_zero c))⟩
  · refine jle (a := 48) (b := 48) (by decide) (by decide) (fun _ => h O (fun i hi => ?_)) (fun c => absurd c (by decide))
    rw [h1 _ (by omega), h1 _ (by omega), h1 _ (by omega), h1 _ (by omega)]
    exact hO i hi
  · refine jle (a := 48) (b := i) (by decide) (by omega) (fun c => absurd c (by omega)) (fun _ => ?_)
    rw [i49, clI (by omega), clI (by omega)]
    refine ⟨vpn (by omega) (by decide), vpn (by omega) (by decide), ?_⟩
    rw [← nI_succ]
    refine ih _ (fun c hc => ?_)
    by_cases e : c = i
    · subst e; rw [upd_s]
    · rw [upd_n _ (by omega)]; exact h1 c (by omega)
theorem op_back {n k : Nat} {d j y q : Nat → Nat} {x1 aj k0 k1 s0 s1 : Int32} {deeds elders fj years pard D0 F0 P0 Y0 D1 F1 P1 Y1 one image isKept : Nat → Int32} {K : Int32 → Int32 → Int32 → (Nat → Int32) → (Nat → Int32) → (Nat → Int32) → (Nat → Int32) → (Nat → Int32) → Int32 → Int32 → (Nat → Int32) → Prop} (i0 : ImOK n 0 k0 s0 D0 F0 P0 Y0 image isKept) (i1 : ImOK n 1 k1 s1 D1 F1 P1 Y1 image isKept)
    (h0 : ∀ r, K r aj (nI k) deeds elders fj pard years r (nI k) one)
    (h1 : ∀ k d j y q D E F P Y O, k ≤ 12 → CB n k d j y q → RlOK k d j y q D F Y P → ElOK k y E → OnOK k d j y q O → K (nI k) 0 (nI k) D E F P Y (nI k) (nI k) O) :
    P_LC_back x1 aj k0 k1 (nI k) s0 s1 deeds elders fj pard years D0 F0 P0 Y0 D1 F1 P1 Y1 (fun r aj' k' D E F P Y => P_Mo_back x1 (nI k) image isKept one (fun r' k2 O => K r aj' k' D E F P Y r' k2 O)) := by
  refine s_isImage (jb (fun hx => ?_) (fun hx => s_in_M (jb (fun z => absurd z hx) (fun _ => h0 _))))
  obtain ⟨e, he, rfl⟩ := nI_of2 (M := 1) (n := 1) rfl (Int32.not_lt.mpr hx.1) hx.2
  refine jeq (a := e) (b := 0) (by omega) (by decide) (fun z => ?_) (fun z => ?_)
  · subst z
    rcases i0 with ⟨a, b⟩ | ⟨a, b, k', d', j', y', q', hk', hs, hR', hB', g0, hO'⟩
    · rw [a]
      refine br_nf rfl (s_in_M (jb (fun _ => ⟨vpn (by omega) (by decide), ?_⟩) (fun z => absurd hx z)))
      rw [clI (by omega), b]
      exact br_nf rfl (h0 _)
    · rw [a, hs]
      refine br_nt (by decide) (s_copyFrom hk' hR' hB' (fun D E F P Y hR2 hE2 => ?_))
      exact s_back_M (by decide) hk' b g0 hO' (fun O hO2 => h1 k' d' j' y' q' D E F P Y O hk' hB' hR2 hE2 hO2)
  · have e1 : e = 1 := by omega
    subst e1
    rcases i1 with ⟨a, b⟩ | ⟨a, b, k', d', j', y', q', hk', hs, hR', hB', g0, hO'⟩
    · rw [a]
      refine br_nf rfl (s_in_M (jb (fun _ => ⟨vpn (by omega) (by decide), ?_⟩) (fun z => absurd hx z)))
      rw [clI (by omega), b]
      exact br_nf rfl (h0 _)
    · rw [a, hs]
      refine br_nt (by decide) (s_copyFrom hk' hR' hB' (fun D E F P Y hR2 hE2 => ?_))
      exact s_back_M (by decide) hk' b g0 hO' (fun O hO2 => h1 k' d' j' y' q' D E F P Y O hk' hB' hR2 hE2 hO2)
