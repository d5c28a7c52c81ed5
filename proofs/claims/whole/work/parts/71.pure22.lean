/-! PURE 22: the law's start -/
theorem law_init {L : Nat} {xs : Nat → Int32} (hL : L ≤ 384) : P_LC_init (fun cp aj csp rs wsp ce cs we ws_ => P_Mo_init (fun mk_ mc mw => ∃ n, L_Law_18 L xs n 0 4 mk_ 0 0 0 0 0 0 0 0 0 0 0 0 0 0 mc (fun _ => 0) (fun _ => 0) (fun _ => 0) (fun _ => 0) (fun _ => 0) (fun _ => 0) (fun _ => 0) (fun _ => 0) (fun _ => 0) (fun _ => 0) mw cp aj 0 0 0 0 0 0 0 0 0 0 0 0 0 (fun _ => 0) csp (fun _ => 0) rs wsp 0 (fun _ => 0) 0 (fun _ => 0) (fun _ => 0) (fun _ => 0) (fun _ => 0) (fun _ => 0) ce cs (fun _ => 0) (fun _ => 0) (fun _ => 0) (fun _ => 0) (fun _ => 0) we ws_ (fun _ => 0) (fun _ => 0) (fun _ => 0) (fun _ => 0) (fun _ => 0) (fun _ => 0) (fun _ => 0) (fun _ => 0) (fun _ => 0) (fun _ => 0))) := by
  intro x ex
  have e4 : x = nI 4 := ex.trans (by decide)
  subst e4
  refine s_scfill (v := 1) (by decide) (by decide) (fun e2 z2 hw2 => s_scfill (v := 1) (by decide) (by decide) (fun e3 z3 hw3 => ?_))
  refine ⟨11, s_plain_M (fun co we g1 g2 => ?_) 10 0 _ _ rfl (fun p hp => absurd hp (Nat.not_lt_zero p)) (fun p hp => absurd hp (Nat.not_lt_zero p))⟩
  refine ⟨64 + 1, law_all hL 64 0 (by omega) (by omega) ?_⟩
  exact ⟨4, 0, 0, 0, fun _ => 1, fun _ => 1, fun _ => 0, fun _ => 0, fun _ => 0, fun _ => 0, ⟨rfl, rfl, rfl, rfl, rfl, rfl, rfl, rfl, rfl⟩, by decide, ⟨by decide, by decide, by decide, fun i hi => absurd hi (Nat.not_lt_zero i)⟩, hw2, hw3, fun p hp => ⟨g2 p (by omega), (show 1 ≤ 9 by decide)⟩, fun p hp => ⟨g1 p (by omega), (show 1 ≤ 9 by decide)⟩, fun i hi => absurd hi (Nat.not_lt_zero i), fun i hi => absurd hi (Nat.not_lt_zero i), fun i hi => absurd hi (Nat.not_lt_zero i), Or.inl rfl, ⟨by decide, fun i hi => absurd hi (Nat.not_lt_zero i)⟩, Or.inl ⟨rfl, rfl⟩, Or.inl ⟨rfl, rfl⟩⟩
