/-! PURE 18: lines -/
theorem lgc {x y : Int64} {A B : Prop} (f : x = y → A) (g : ¬ x = y → B) : (lg_cmp x y = 0 → A) ∧ (¬ lg_cmp x y = 0 → B) := by
  have key : lg_cmp x y = 0 ↔ x = y := by
    unfold lg_cmp
    by_cases e : x = y
    · subst e
      have h : ¬ x > x := Int64.lt_irrefl
      rw [if_neg h, if_pos rfl]
      exact ⟨fun _ => rfl, fun _ => rfl⟩
    · by_cases e2 : x > y
      · rw [if_pos e2]; exact ⟨fun z => absurd z (by decide), fun z => absurd z e⟩
      · rw [if_neg e2, if_neg e]; exact ⟨fun z => absurd z (by decide), fun z => absurd z e⟩
  exact ⟨fun z => f (key.mp z), fun z => g (fun q => z (key.mpr q))⟩
theorem lgc' {x y : Int64} {A B : Prop} (g : ¬ x = y → B) (f : x = y → A) : (¬ lg_cmp x y = 0 → B) ∧ (lg_cmp x y = 0 → A) := (lgc f g).symm
theorem lgw {x : Int64} {wmP A B : Prop} {y : Int64} (h : x = y ↔ wmP) (g : ¬ wmP → B) (f : wmP → A) : (¬ lg_cmp x y = 0 → B) ∧ (lg_cmp x y = 0 → A) := lgc' (fun z => g (fun q => z (h.mpr q))) (fun z => f (h.mp z))
theorem s_isNumber_M {sz e c lo hc : Nat} {tx : Nat → Nat} {x2 x3 ta d0 n0 r0 i0 fa : Int32} {tk : Int64} {read mt : Nat → Int32} {Q : Int32 → Int32 → Int32 → Int64 → Int32 → Int32 → Int32 → Int32 → Int32 → (Nat → Int32) → Prop} (hT : TX sz tx mt) (he : e ≤ sz) (hc32 : c < 32) (hlo : lo < 2147483648) (hhc : hc < 2147483648) (hx2 : x2 = nI lo) (hx3 : x3 = nI hc - 1)
    (h1 : nOK sz tx (sS sz tx e) lo hc → ∀ tok dg nm rv ir, Q 1 (nI (eE sz tx (sS sz tx e))) (nI (sS sz tx e)) tok dg nm rv ir fa (upd read c (nI (vl tx (sS sz tx e) (eE sz tx (sS sz tx e) - sS sz tx e)))))
    (h0 : ¬ nOK sz tx (sS sz tx e) lo hc → ∀ tok dg nm rv ir, Q 0 (nI (eE sz tx (sS sz tx e))) (nI (sS sz tx e)) tok dg nm rv ir (nI (sS sz tx e)) read) : P_Mo_isNumber (nI c) x2 x3 (nI sz) (nI e) ta tk d0 n0 r0 i0 fa read mt Q := by
  have hs := hT.1
  subst hx2 hx3
  refine s_nextTok_M hT he (fun tok dg nm rv ir hk => ?_)
  have hsS := sS_le (tx := tx) he
  generalize sS sz tx e = s at *
  have hE := eE_le (tx := tx) hsS.2
  have hn1 := tok_num hsS.2 hk
  refine lgc' (fun z => ⟨rfl, h0 (fun q => z (hn1.mpr q.1)) _ _ _ _ _⟩) (fun z => ?_)
  have hk1 := hn1.mp z
  rcases hk with ⟨q0, _⟩ | ⟨q0, _⟩ | ⟨q0, q1, q2, q3, q4, q5⟩ | ⟨_, q0, _⟩
  · have := (kd1 hk1).1; omega
  · omega
  · subst q2 q3
    refine jlt (a := 4) (b := eE sz tx s - s) (by decide) (by omega) (fun z2 => ⟨rfl, h0 (fun q => by have := q.2.1; omega) _ _ _ _ _⟩) (fun z2 => s_in_M ?_)
    have hv : vl tx s (eE sz tx s - s) < 10000 := Nat.lt_of_lt_of_le (vl_lt _ (fun i hi => by
      have := hE.2.2.2 (by omega) (s + i) (by omega) (by omega)
      rw [hk1] at this
      exact (kd1 this).2.2)) (Nat.pow_le_pow_right (by decide) (show eE sz tx s - s ≤ 4 by omega))
    rw [show min (eE sz tx s - s) 4 = eE sz tx s - s by omega, bI_c (wit hlo (by omega) hhc)]
    refine jb (fun z3 => ⟨vpn hc32 (by decide), ?_⟩) (fun z3 => ⟨rfl, h0 (fun q => z3 q.2.2) _ _ _ _ _⟩)
    rw [clI (by omega)]
    exact h1 ⟨hk1, by omega, z3⟩ _ _ _ _ _
  · omega
theorem s_isDeedRow_M {sz e c n : Nat} {tx : Nat → Nat} {ta d0 n0 r0 i0 fa : Int32} {tk : Int64} {read mt : Nat → Int32} {Q : Int32 → Int32 → Int32 → Int64 → Int32 → Int32 → Int32 → Int32 → Int32 → (Nat → Int32) → Prop} (hT : TX sz tx mt) (he : e ≤ sz) (hc32 : c < 32) (hn : n ≤ 10)
    (h1 : rOK sz tx (sS sz tx e) n → ∀ tok dg nm rv ir, Q 1 (nI (eE sz tx (sS sz tx e))) (nI (sS sz tx e)) tok dg nm rv ir fa (upd read c (nI (rw_ tx (sS sz tx e) n))))
    (h0 : ¬ rOK sz tx (sS sz tx e) n → ∀ tok dg nm rv ir, Q 0 (nI (eE sz tx (sS sz tx e))) (nI (sS sz tx e)) tok dg nm rv ir (nI (sS sz tx e)) read) : P_Mo_isDeedRow (nI c) (nI sz) (nI e) ta tk d0 n0 r0 i0 fa (nI n) read mt Q := by
  have hs := hT.1
  refine s_nextTok_M hT he (fun tok dg nm rv ir hk => ?_)
  have hsS := sS_le (tx := tx) he
  generalize sS sz tx e = s at *
  have hE := eE_le (tx := tx) hsS.2
  have hn1 := tok_num hsS.2 hk
  refine lgc' (fun z => ⟨rfl, h0 (fun q => z (hn1.mpr q.1)) _ _ _ _ _⟩) (fun z => ?_)
  have hk1 := hn1.mp z
  rcases hk with ⟨q0, _⟩ | ⟨q0, _⟩ | ⟨q0, q1, q2, q3, q4, q5⟩ | ⟨_, q0, _⟩
  · have := (kd1 hk1).1; omega
  · omega
  · subst q2 q4
    refine jne (by omega) (by omega) (fun z2 => ⟨rfl, h0 (fun q => z2 q.2.1) _ _ _ _ _⟩) (fun z2 => ?_)
    rw [z2] at q5 ⊢
    refine jb (fun z3 => ⟨vpn hc32 (by decide), ?_⟩) (fun z3 => ⟨rfl, h0 (fun q => z3 ⟨hn, q.2.2⟩) _ _ _ _ _⟩)
    rw [clI (by omega), q5 z3]
    exact h1 ⟨hk1, z2, z3.2⟩ _ _ _ _ _
  · omega
/-- one line, purely -/
abbrev LT := Nat × Nat × Nat × Nat
abbrev LR := Nat ⊕ (LT × Nat × Nat × Nat)
def sb {α β : Type} (x : Nat ⊕ α) (g : α → Nat ⊕ β) : Nat ⊕ β := match x with
  | .inl f => .inl f
  | .inr a => g a
theorem sb_l {α β : Type} {x : Nat ⊕ α} {g : α → Nat ⊕ β} {f : Nat} (h : x = .inl f) : sb x g = .inl f := by rw [h]; rfl
theorem sb_r {α β : Type} {x : Nat ⊕ α} {g : α → Nat ⊕ β} {a : α} (h : x = .inr a) : sb x g = g a := by rw [h]; rfl
noncomputable def nu (sz : Nat) (tx : Nat → Nat) (lo hc e : Nat) : Nat ⊕ (Nat × Nat) := if tB (nOK sz tx (sS sz tx e) lo hc) then .inr (vl tx (sS sz tx e) (eE sz tx (sS sz tx e) - sS sz tx e), eE sz tx (sS sz tx e)) else .inl (sS sz tx e)
noncomputable def ru (sz : Nat) (tx : Nat → Nat) (n e : Nat) : Nat ⊕ (Nat × Nat) := if tB (rOK sz tx (sS sz tx e) n) then .inr (rw_ tx (sS sz tx e) n, eE sz tx (sS sz tx e)) else .inl (sS sz tx e)
noncomputable def ln (sz : Nat) (tx : Nat → Nat) (e pts css : Nat) : LR :=
  if wd tx (sS sz tx e) (eE sz tx (sS sz tx e)) = 0 then sb (nu sz tx 1 11 (eE sz tx (sS sz tx e))) (fun v => .inr ((0, v.1, 0, 0), v.2, v.1, 0))
  else if wd tx (sS sz tx e) (eE sz tx (sS sz tx e)) = 1 then sb (nu sz tx 0 pts (eE sz tx (sS sz tx e))) (fun v => sb (nu sz tx 0 10 v.2) (fun u => .inr ((1, v.1, u.1, 0), u.2, pts, css)))
  else if wd tx (sS sz tx e) (eE sz tx (sS sz tx e)) = 2 then sb (nu sz tx 0 pts (eE sz tx (sS sz tx e))) (fun v => sb (nu sz tx 0 10 v.2) (fun u => .inr ((2, v.1, u.1, 0), u.2, pts, css)))
  else if wd tx (sS sz tx e) (eE sz tx (sS sz tx e)) = 3 then (if css = 12 then .inl (sS sz tx e) else sb (ru sz tx pts (eE sz tx (sS sz tx e))) (fun v => sb (nu sz tx 0 4 v.2) (fun u => sb (nu sz tx 0 10000 u.2) (fun x => .inr ((3, v.1, u.1, x.1), x.2, pts, css + 1)))))
  else if wd tx (sS sz tx e) (eE sz tx (sS sz tx e)) = 4 then sb (nu sz tx 0 css (eE sz tx (sS sz tx e))) (fun v => .inr ((4, v.1, 0, 0), v.2, pts, css))
  else if wd tx (sS sz tx e) (eE sz tx (sS sz tx e)) = 5 then sb (nu sz tx 0 css (eE sz tx (sS sz tx e))) (fun v => .inr ((5, v.1, 0, 0), v.2, pts, css - 1))
  else .inl (sS sz tx e)
theorem nu_r {sz : Nat} {tx : Nat → Nat} {lo hc e : Nat} {v : Nat × Nat} (he : e ≤ sz) (h : nu sz tx lo hc e = .inr v) : lo ≤ v.1 ∧ v.1 < hc ∧ v.2 ≤ sz := by
  unfold nu at h
  by_cases c : nOK sz tx (sS sz tx e) lo hc
  · rw [tB_if c] at h
    cases h
    exact ⟨c.2.2.1, c.2.2.2, (eE_le (sS_le he).2).2.1⟩
  · rw [tB_nif c] at h; cases h
theorem ru_r {sz : Nat} {tx : Nat → Nat} {n e : Nat} {v : Nat × Nat} (he : e ≤ sz) (h : ru sz tx n e = .inr v) : v.1 < 2 ^ n ∧ v.2 ≤ sz := by
  unfold ru at h
  by_cases c : rOK sz tx (sS sz tx e) n
  · rw [tB_if c] at h
    cases h
    exact ⟨rw_lt n c.2.2, (eE_le (sS_le he).2).2.1⟩
  · rw [tB_nif c] at h; cases h
theorem nu_l {sz : Nat} {tx : Nat → Nat} {lo hc e f : Nat} (he : e ≤ sz) (h : nu sz tx lo hc e = .inl f) : f ≤ sz := by
  unfold nu at h
  by_cases c : nOK sz tx (sS sz tx e) lo hc
  · rw [tB_if c] at h; cases h
  · rw [tB_nif c] at h; cases h; exact (sS_le he).2
theorem ru_l {sz : Nat} {tx : Nat → Nat} {n e f : Nat} (he : e ≤ sz) (h : ru sz tx n e = .inl f) : f ≤ sz := by
  unfold ru at h
  by_cases c : rOK sz tx (sS sz tx e) n
  · rw [tB_if c] at h; cases h
  · rw [tB_nif c] at h; cases h; exact (sS_le he).2
/-- what a line may say -/
def LV (pts css : Nat) (t : LT) (p' c' : Nat) : Prop :=
  (t.1 = 0 ∧ 1 ≤ t.2.1 ∧ t.2.1 ≤ 10 ∧ p' = t.2.1 ∧ c' = 0) ∨
  ((t.1 = 1 ∨ t.1 = 2) ∧ t.2.1 < pts ∧ t.2.2.1 ≤ 9 ∧ p' = pts ∧ c' = css) ∨
  (t.1 = 3 ∧ css < 12 ∧ t.2.1 < 2 ^ pts ∧ t.2.2.1 ≤ 3 ∧ t.2.2.2 ≤ 9999 ∧ p' = pts ∧ c' = css + 1) ∨
  (t.1 = 4 ∧ t.2.1 < css ∧ p' = pts ∧ c' = css) ∨
  (t.1 = 5 ∧ t.2.1 < css ∧ p' = pts ∧ c' = css - 1)
theorem ln_ok {sz : Nat} {tx : Nat → Nat} {e pts css : Nat} {t : LT} {e' p' c' : Nat} (he : e ≤ sz) (hc : css ≤ 12) (h : ln sz tx e pts css = .inr (t, e', p', c')) : LV pts css t p' c' ∧ e' ≤ sz := by
  have h1 : eE sz tx (sS sz tx e) ≤ sz := (eE_le (sS_le he).2).2.1
  unfold ln at h
  generalize hw : wd tx (sS sz tx e) (eE sz tx (sS sz tx e)) = w at h
  generalize eE sz tx (sS sz tx e) = e1 at *
  by_cases w0 : w = 0
  · rw [if_pos w0] at h
    cases hn : nu sz tx 1 11 e1 with
    | inl f => rw [sb_l hn] at h; cases h
    | inr v =>
      rw [sb_r hn] at h
      have hv := nu_r h1 hn
      cases h
      exact ⟨Or.inl ⟨rfl, hv.1, by show v.1 ≤ 10; omega, rfl, rfl⟩, hv.2.2⟩
  rw [if_neg w0] at h
  by_cases w1 : w = 1
  · rw [if_pos w1] at h
    cases hn : nu sz tx 0 pts e1 with
    | inl f => rw [sb_l hn] at h; cases h
    | inr v =>
      rw [sb_r hn] at h
      have hv := nu_r h1 hn
      cases hn2 : nu sz tx 0 10 v.2 with
      | inl f => rw [sb_l hn2] at h; cases h
      | inr u =>
        rw [sb_r hn2] at h
        have hu := nu_r hv.2.2 hn2
        cases h
        exact ⟨Or.inr (Or.inl ⟨Or.inl rfl, hv.2.1, by show u.1 ≤ 9; omega, rfl, rfl⟩), hu.2.2⟩
  rw [if_neg w1] at h
  by_cases w2 : w = 2
  · rw [if_pos w2] at h
    cases hn : nu sz tx 0 pts e1 with
    | inl f => rw [sb_l hn] at h; cases h
    | inr v =>
      rw [sb_r hn] at h
      have hv := nu_r h1 hn
      cases hn2 : nu sz tx 0 10 v.2 with
      | inl f => rw [sb_l hn2] at h; cases h
      | inr u =>
        rw [sb_r hn2] at h
        have hu := nu_r hv.2.2 hn2
        cases h
        exact ⟨Or.inr (Or.inl ⟨Or.inr rfl, hv.2.1, by show u.1 ≤ 9; omega, rfl, rfl⟩), hu.2.2⟩
  rw [if_neg w2] at h
  by_cases w3 : w = 3
  · rw [if_pos w3] at h
    by_cases c12 : css = 12
    · rw [if_pos c12] at h; cases h
    rw [if_neg c12] at h
    cases hn : ru sz tx pts e1 with
    | inl f => rw [sb_l hn] at h; cases h
    | inr v =>
      rw [sb_r hn] at h
      have hv := ru_r h1 hn
      cases hn2 : nu sz tx 0 4 v.2 with
      | inl f => rw [sb_l hn2] at h; cases h
      | inr u =>
        rw [sb_r hn2] at h
        have hu := nu_r hv.2 hn2
        cases hn3 : nu sz tx 0 10000 u.2 with
        | inl f => rw [sb_l hn3] at h; cases h
        | inr x =>
          rw [sb_r hn3] at h
          have hx := nu_r hu.2.2 hn3
          cases h
          exact ⟨Or.inr (Or.inr (Or.inl ⟨rfl, by omega, hv.1, by show u.1 ≤ 3; omega, by show x.1 ≤ 9999; omega, rfl, rfl⟩)), hx.2.2⟩
  rw [if_neg w3] at h
  by_cases w4 : w = 4
  · rw [if_pos w4] at h
    cases hn : nu sz tx 0 css e1 with
    | inl f => rw [sb_l hn] at h; cases h
    | inr v =>
      rw [sb_r hn] at h
      have hv := nu_r h1 hn
      cases h
      exact ⟨Or.inr (Or.inr (Or.inr (Or.inl ⟨rfl, hv.2.1, rfl, rfl⟩))), hv.2.2⟩
  rw [if_neg w4] at h
  by_cases w5 : w = 5
  · rw [if_pos w5] at h
    cases hn : nu sz tx 0 css e1 with
    | inl f => rw [sb_l hn] at h; cases h
    | inr v =>
      rw [sb_r hn] at h
      have hv := nu_r h1 hn
      cases h
      exact ⟨Or.inr (Or.inr (Or.inr (Or.inr ⟨rfl, hv.2.1, rfl, rfl⟩))), hv.2.2⟩
  rw [if_neg w5] at h
  cases h
theorem s_num {sz e lo hc : Nat} {tx : Nat → Nat} {x1 x2 ts : Int32} {cb : Nat → Int32} {Q : Int32 → Int32 → Int32 → Int32 → Prop} (hT : TX sz tx cb) (he : e ≤ sz) (hlo : lo < 2147483648) (hhc : hc < 2147483648) (hx1 : x1 = nI lo) (hx2 : x2 = nI hc - 1)
    (h1 : ∀ v st, nu sz tx lo hc e = .inr v → Q (nI v.1) (-1) st (nI v.2)) (h0 : ∀ f st en, nu sz tx lo hc e = .inl f → Q 0 (nI f) st en) : P_Text_number x1 x2 (nI sz) (-1) ts (nI e) cb Q := by
  unfold nu at h1 h0
  refine s_number hT he hlo hhc hx1 hx2 (fun c => ?_) (fun c => ?_)
  · exact h1 (_, _) _ (tB_if c)
  · exact h0 _ _ _ (tB_nif c)
theorem s_num_M {sz e c lo hc : Nat} {tx : Nat → Nat} {x2 x3 ta d0 n0 r0 i0 fa : Int32} {tk : Int64} {read mt : Nat → Int32} {Q : Int32 → Int32 → Int32 → Int64 → Int32 → Int32 → Int32 → Int32 → Int32 → (Nat → Int32) → Prop} (hT : TX sz tx mt) (he : e ≤ sz) (hc32 : c < 32) (hlo : lo < 2147483648) (hhc : hc < 2147483648) (hx2 : x2 = nI lo) (hx3 : x3 = nI hc - 1)
    (h1 : ∀ v ta tok dg nm rv ir, nu sz tx lo hc e = .inr v → Q 1 (nI v.2) ta tok dg nm rv ir fa (upd read c (nI v.1)))
    (h0 : ∀ f en ta tok dg nm rv ir, nu sz tx lo hc e = .inl f → Q 0 en ta tok dg nm rv ir (nI f) read) : P_Mo_isNumber (nI c) x2 x3 (nI sz) (nI e) ta tk d0 n0 r0 i0 fa read mt Q := by
  unfold nu at h1 h0
  refine s_isNumber_M hT he hc32 hlo hhc hx2 hx3 (fun c tok dg nm rv ir => ?_) (fun c tok dg nm rv ir => ?_)
  · exact h1 (_, _) _ _ _ _ _ _ (tB_if c)
  · exact h0 _ _ _ _ _ _ _ _ (tB_nif c)
theorem wd_le (tx : Nat → Nat) (s e : Nat) : wd tx s e ≤ 6 := by
  unfold wd
  by_cases z0 : wm tx 0 s e
  · rw [tB_if z0]; decide
  rw [tB_nif z0]
  by_cases z1 : wm tx 1 s e
  · rw [tB_if z1]; decide
  rw [tB_nif z1]
  by_cases z2 : wm tx 2 s e
  · rw [tB_if z2]; decide
  rw [tB_nif z2]
  by_cases z3 : wm tx 3 s e
  · rw [tB_if z3]; decide
  rw [tB_nif z3]
  by_cases z4 : wm tx 4 s e
  · rw [tB_if z4]; decide
  rw [tB_nif z4]
  by_cases z5 : wm tx 5 s e
  · rw [tB_if z5]; decide
  rw [tB_nif z5]
  exact Nat.le_refl 6
/-- the class reads a line -/
theorem s_keepLine {l : Nat} {x2 x3 x4 x5 : Int32} {values words : Nat → Int32} {Q : (Nat → Int32) → (Nat → Int32) → Prop} (hl : l < 8) (h : Q (upd (upd (upd values (3 * l) x3) (3 * l + 1) x4) (3 * l + 2) x5) (upd words l x2)) : P_Text_keepLine (nI l) x2 x3 x4 x5 values words Q := by
  intro x ex
  rw [show (3 : Int32) = nI 3 from rfl, pk_mul, show l * 3 = 3 * l by omega] at ex
  subst ex
  have e1 : nI (3 * l) + 1 = nI (3 * l + 1) := nI_1 _
  have e2 : nI (3 * l) + 2 = nI (3 * l + 2) := nI_add (3 * l) 2
  rw [e1, e2]
  refine jneg (by omega) (jle (a := 8) (b := l) (by decide) (by omega) (fun c => absurd c (by omega)) (fun _ => jle (a := 24) (b := 3 * l + 2) (by decide) (by omega) (fun c => absurd c (by omega)) (fun _ => ⟨vpn hl (by decide), vpn (by omega) (by decide), vpn (by omega) (by decide), vpn (by omega) (by decide), ?_⟩)))
  rw [clI (by omega), clI (by omega), clI (by omega), clI (by omega)]
  exact h
def KVl (l : Nat) (t : LT) (values words values' words' : Nat → Int32) : Prop := words' = upd words l (nI t.1) ∧ values' = upd (upd (upd values (3 * l) (nI t.2.1)) (3 * l + 1) (nI t.2.2.1)) (3 * l + 2) (nI t.2.2.2)
theorem s_readLine {sz e l pts css : Nat} {tx : Nat → Nat} {tl ts : Int32} {cb values words : Nat → Int32} {Q : Int32 → Int32 → Int32 → Int32 → Int32 → Int32 → (Nat → Int32) → (Nat → Int32) → Prop} (hT : TX sz tx cb) (he : e ≤ sz) (hl : l < 8) (hp : pts ≤ 10) (hc : css ≤ 12)
    (h0 : ∀ f a1 a2 a3 a4 a5 a6 a7, ln sz tx e pts css = .inl f → Q a1 (nI f) a2 a3 a4 a5 a6 a7)
    (h1 : ∀ t e' p' c' st values' words', ln sz tx e pts css = .inr (t, e', p', c') → KVl l t values words values' words' → Q (nI (l + 1)) (-1) (nI p') (nI c') st (nI e') values' words') :
    P_Text_readLine (nI l) (nI sz) tl (-1) (nI pts) (nI css) ts (nI e) cb values words Q := by
  have hs := hT.1
  have hsS := sS_le (tx := tx) he
  have hE := eE_le (tx := tx) hsS.2
  have he1 := hE.2.1
  refine s_nextToken hT he (s_wordHere hT hE.1 hE.2.1 ?_)
  unfold ln at h0 h1
  have hw6 := wd_le tx (sS sz tx e) (eE sz tx (sS sz tx e))
  generalize wd tx (sS sz tx e) (eE sz tx (sS sz tx e)) = w at *
  generalize eE sz tx (sS sz tx e) = e1 at *
  generalize sS sz tx e = s at *
  have hs200 : s < 2147483648 := by omega
  have hfl : ∀ f, f ≤ sz → ¬ nI f = -1 := fun f hf => nI_m1 (by omega)
  by_cases w0 : w = 0
  · subst w0
    rw [if_pos rfl] at h0 h1
    refine br_f (by decide) (br_nt (by decide) (br_t (by decide) (s_num (lo := 1) (hc := 11) hT he1 (by decide) (by decide) (by decide) (by decide) (fun v st hn => s_keepLine hl ?_) (fun f st en hn => s_keepLine hl ?_))))
    · intro x ex
      rw [← nI_succ] at ex
      subst ex
      exact h1 _ _ _ _ _ _ _ (by rw [sb_r hn]) ⟨rfl, rfl⟩
    · intro x ex
      exact h0 _ _ _ _ _ _ _ _ (by rw [sb_l hn])
  rw [if_neg w0] at h0 h1
  have two : ∀ wI t1, (∀ f a1 a2 a3 a4 a5 a6 a7, sb (nu sz tx 0 pts e1) (fun v => sb (nu sz tx 0 10 v.2) (fun u => (.inr ((t1, v.1, u.1, 0), u.2, pts, css) : LR))) = .inl f → Q a1 (nI f) a2 a3 a4 a5 a6 a7) → (∀ t e' p' c' st values' words', sb (nu sz tx 0 pts e1) (fun v => sb (nu sz tx 0 10 v.2) (fun u => (.inr ((t1, v.1, u.1, 0), u.2, pts, css) : LR))) = .inr (t, e', p', c') → KVl l t values words values' words' → Q (nI (l + 1)) (-1) (nI p') (nI c') st (nI e') values' words') → wI = nI t1 →
      B_Text_readValues_63 (nI l) wI (nI sz) cb (fun t_fault_2 t_points_3 t_cases_4 t_start_5 t_end_6 t_values_7 t_words_8 => ∀ t_lines_9 : Int32, t_lines_9 = (nI l + 1) → Q t_lines_9 t_fault_2 t_points_3 t_cases_4 t_start_5 t_end_6 t_values_7 t_words_8) (-1) (nI pts) (nI css) (nI s) (nI e1) values words := by
    intro wI t1 g0 g1 ew
    subst ew
    refine s_num (lo := 0) (hc := pts) hT he1 (by decide) (by omega) rfl rfl (fun v st hn => ?_) (fun f st en hn => s_number1 (hfl f (nu_l he1 hn)) (s_keepLine hl ?_))
    · have hv := nu_r he1 hn
      refine s_num (lo := 0) (hc := 10) hT hv.2.2 (by decide) (by decide) rfl (by decide) (fun u st hn2 => s_keepLine hl ?_) (fun f st en hn2 => s_keepLine hl ?_)
      · intro x ex
        rw [← nI_succ] at ex
        subst ex
        exact g1 _ _ _ _ _ _ _ (by rw [sb_r hn, sb_r hn2]) ⟨rfl, rfl⟩
      · intro x ex
        exact g0 _ _ _ _ _ _ _ _ (by rw [sb_r hn, sb_l hn2])
    · intro x ex
      exact g0 _ _ _ _ _ _ _ _ (by rw [sb_l hn])
  by_cases w1 : w = 1
  · subst w1
    rw [if_pos rfl] at h0 h1
    exact br_f (by decide) (br_nt (by decide) (br_f (by decide) (br_t (by decide) (two _ 1 h0 h1 rfl))))
  rw [if_neg w1] at h0 h1
  by_cases w2 : w = 2
  · subst w2
    rw [if_pos rfl] at h0 h1
    exact br_f (by decide) (br_nt (by decide) (br_f (by decide) (br_f (by decide) (br_t (by decide) (two _ 2 h0 h1 rfl)))))
  rw [if_neg w2] at h0 h1
  by_cases w3 : w = 3
  · subst w3
    rw [if_pos rfl] at h0 h1
    refine br_f (by decide) (br_nf (by decide) (jne (a := css) (b := 12) (by omega) (by decide) (fun z => ?_) (fun z => ?_)))
    · rw [if_neg z] at h0 h1
      refine br_f (by decide) (br_f (by decide) (br_f (by decide) (br_t (by decide) ?_)))
      have key : ∀ (Q2 : Int32 → Int32 → Int32 → Int32 → Prop), (∀ v st, ru sz tx pts e1 = .inr v → Q2 (nI v.1) (-1) st (nI v.2)) → (∀ f st en, ru sz tx pts e1 = .inl f → Q2 0 (nI f) st en) → P_Text_figures (nI sz) (-1) (nI pts) (nI s) (nI e1) cb Q2 := by
        intro Q2 g1 g0
        unfold ru at g1 g0
        exact s_figures hT he1 hp (fun c => g1 (_, _) _ (tB_if c)) (fun c => g0 _ _ _ (tB_nif c))
      refine key _ (fun v st hn => ?_) (fun f st en hn => s_number1 (hfl f (ru_l he1 hn)) (s_number1 (hfl f (ru_l he1 hn)) (s_keepLine hl ?_)))
      · have hv := ru_r he1 hn
        refine s_num (lo := 0) (hc := 4) hT hv.2 (by decide) (by decide) rfl (by decide) (fun u st hn2 => ?_) (fun f st en hn2 => s_number1 (hfl f (nu_l hv.2 hn2)) (s_keepLine hl ?_))
        · have hu := nu_r hv.2 hn2
          refine s_num (lo := 0) (hc := 10000) hT hu.2.2 (by decide) (by decide) rfl (by decide) (fun u st hn3 => s_keepLine hl ?_) (fun f st en hn3 => s_keepLine hl ?_)
          · intro x ex y ey
            rw [← nI_succ] at ex ey
            subst ex ey
            exact h1 _ _ _ _ _ _ _ (by rw [sb_r hn, sb_r hn2, sb_r hn3]) ⟨rfl, rfl⟩
          · intro x ex y ey
            exact h0 _ _ _ _ _ _ _ _ (by rw [sb_r hn, sb_r hn2, sb_l hn3])
        · intro x ex y ey
          exact h0 _ _ _ _ _ _ _ _ (by rw [sb_r hn, sb_l hn2])
      · intro x ex y ey
        exact h0 _ _ _ _ _ _ _ _ (by rw [sb_l hn])
    · rw [if_pos z] at h0
      exact s_fail0 (h0 _ _ _ _ _ _ _ _ rfl)
  rw [if_neg w3] at h0 h1
  by_cases w4 : w = 4
  · subst w4
    rw [if_pos rfl] at h0 h1
    refine br_f (by decide) (br_nt (by decide) (br_f (by decide) (br_f (by decide) (br_f (by decide) (br_f (by decide) (s_num (lo := 0) (hc := css) hT he1 (by decide) (by omega) rfl rfl (fun v st hn => s_keepLine hl (br_nt (by decide) ?_)) (fun f st en hn => s_keepLine hl (br_nt (by decide) ?_))))))))
    · intro x ex y ey
      rw [show (0 : Int32) = nI 0 from rfl, pk_sub (Nat.zero_le _), Nat.sub_zero] at ex
      rw [← nI_succ] at ey
      subst ex ey
      exact h1 _ _ _ _ _ _ _ (by rw [sb_r hn]) ⟨rfl, rfl⟩
    · intro x ex y ey
      exact h0 _ _ _ _ _ _ _ _ (by rw [sb_l hn])
  rw [if_neg w4] at h0 h1
  by_cases w5 : w = 5
  · subst w5
    rw [if_pos rfl] at h0 h1
    refine br_f (by decide) (br_nt (by decide) (br_f (by decide) (br_f (by decide) (br_f (by decide) (br_f (by decide) (s_num (lo := 0) (hc := css) hT he1 (by decide) (by omega) rfl rfl (fun v st hn => s_keepLine hl (br_nf (by decide) ?_)) (fun f st en hn => s_keepLine hl (br_nf (by decide) ?_))))))))
    · intro x ex y ey
      have hv := nu_r he1 hn
      rw [show (1 : Int32) = nI 1 from rfl, pk_sub (by omega)] at ex
      rw [← nI_succ] at ey
      subst ex ey
      exact h1 _ _ _ _ _ _ _ (by rw [sb_r hn]) ⟨rfl, rfl⟩
    · intro x ex y ey
      exact h0 _ _ _ _ _ _ _ _ (by rw [sb_l hn])
  rw [if_neg w5] at h0
  have w6 : w = 6 := by
    have := hw6
    omega
  subst w6
  exact br_t rfl (s_fail0 (h0 _ _ _ _ _ _ _ _ rfl))
/-- the model reads a line -/
theorem lw_chain {sz : Nat} {tx : Nat → Nat} {s : Nat} {tok : Int64} {dg nm rv ir : Int32} {R : Int32 → Prop} (hs : s ≤ sz) (hk : TokOK sz tx s tok dg nm rv ir) (h : R (wdI (wd tx s (eE sz tx s)))) :
    (¬ lg_cmp tok 237307 = 0 → (¬ lg_cmp tok 332864552 = 0 → (¬ lg_cmp tok 70517 = 0 → (¬ lg_cmp tok 60296 = 0 → (¬ lg_cmp tok 230471582 = 0 → (¬ lg_cmp tok 92275 = 0 → R (-1)) ∧ (lg_cmp tok 92275 = 0 → R 5)) ∧ (lg_cmp tok 230471582 = 0 → R 4)) ∧ (lg_cmp tok 60296 = 0 → R 3)) ∧ (lg_cmp tok 70517 = 0 → R 2)) ∧ (lg_cmp tok 332864552 = 0 → R 1)) ∧ (lg_cmp tok 237307 = 0 → R 0) := by
  have k0 : tok = 237307 ↔ wm tx 0 s (eE sz tx s) := tok_word (k := 0) hs (by decide) hk
  have k1 : tok = 332864552 ↔ wm tx 1 s (eE sz tx s) := tok_word (k := 1) hs (by decide) hk
  have k2 : tok = 70517 ↔ wm tx 2 s (eE sz tx s) := tok_word (k := 2) hs (by decide) hk
  have k3 : tok = 60296 ↔ wm tx 3 s (eE sz tx s) := tok_word (k := 3) hs (by decide) hk
  have k4 : tok = 230471582 ↔ wm tx 4 s (eE sz tx s) := tok_word (k := 4) hs (by decide) hk
  have k5 : tok = 92275 ↔ wm tx 5 s (eE sz tx s) := tok_word (k := 5) hs (by decide) hk
  unfold wd at h
  refine lgw k0 (fun z0 => lgw k1 (fun z1 => lgw k2 (fun z2 => lgw k3 (fun z3 => lgw k4 (fun z4 => lgw k5 (fun z5 => ?_) (fun z5 => ?_)) (fun z4 => ?_)) (fun z3 => ?_)) (fun z2 => ?_)) (fun z1 => ?_)) (fun z0 => ?_)
  · rw [tB_nif z0, tB_nif z1, tB_nif z2, tB_nif z3, tB_nif z4, tB_nif z5] at h; exact h
  · rw [tB_nif z0, tB_nif z1, tB_nif z2, tB_nif z3, tB_nif z4, tB_if z5] at h; exact h
  · rw [tB_nif z0, tB_nif z1, tB_nif z2, tB_nif z3, tB_if z4] at h; exact h
  · rw [tB_nif z0, tB_nif z1, tB_nif z2, tB_if z3] at h; exact h
  · rw [tB_nif z0, tB_nif z1, tB_if z2] at h; exact h
  · rw [tB_nif z0, tB_if z1] at h; exact h
  · rw [tB_if z0] at h; exact h
/-- line l of what the model has read -/
def RdL (l : Nat) (t : LT) (read : Nat → Int32) : Prop := read (4 * l) = nI t.1 ∧ read (4 * l + 1) = nI t.2.1 ∧ (t.1 = 1 ∨ t.1 = 2 ∨ t.1 = 3 → read (4 * l + 2) = nI t.2.2.1) ∧ (t.1 = 3 → read (4 * l + 3) = nI t.2.2.2)
def RdOK (l : Nat) (t : LT) (read read' : Nat → Int32) : Prop := RdL l t read' ∧ ∀ i, i < 4 * l → read' i = read i
theorem rd1 {l a b : Nat} {read : Nat → Int32} (hl : ¬ (a = 1 ∨ a = 2 ∨ a = 3)) : RdOK l (a, b, 0, 0) read (upd (upd read (4 * l) (nI a)) (4 * l + 1) (nI b)) := by
  refine ⟨⟨?_, upd_s _ _ _, fun z => absurd z hl, fun z => absurd (Or.inr (Or.inr z)) hl⟩, fun i hi => ?_⟩
  · rw [upd_n _ (by omega), upd_s]
  · rw [upd_n _ (by omega), upd_n _ (by omega)]
theorem rd2 {l a b c : Nat} {read : Nat → Int32} (hl : a ≠ 3) : RdOK l (a, b, c, 0) read (upd (upd (upd read (4 * l) (nI a)) (4 * l + 1) (nI b)) (4 * l + 2) (nI c)) := by
  refine ⟨⟨?_, ?_, fun z => upd_s _ _ _, fun z => absurd z hl⟩, fun i hi => ?_⟩
  · rw [upd_n _ (by omega), upd_n _ (by omega), upd_s]
  · rw [upd_n _ (by omega), upd_s]
  · rw [upd_n _ (by omega), upd_n _ (by omega), upd_n _ (by omega)]
theorem rd3 {l a b c d : Nat} {read : Nat → Int32} : RdOK l (a, b, c, d) read (upd (upd (upd (upd read (4 * l) (nI a)) (4 * l + 1) (nI b)) (4 * l + 2) (nI c)) (4 * l + 3) (nI d)) := by
  refine ⟨⟨?_, ?_, fun z => ?_, fun z => upd_s _ _ _⟩, fun i hi => ?_⟩
  · rw [upd_n _ (by omega), upd_n _ (by omega), upd_n _ (by omega), upd_s]
  · rw [upd_n _ (by omega), upd_n _ (by omega), upd_s]
  · rw [upd_n _ (by omega), upd_s]
  · rw [upd_n _ (by omega), upd_n _ (by omega), upd_n _ (by omega), upd_n _ (by omega)]
theorem s_isLine_M {sz e l pts css : Nat} {tx : Nat → Nat} {ta d0 n0 r0 i0 fa : Int32} {tk : Int64} {read mt : Nat → Int32} {Q : Int32 → Int32 → Int32 → Int64 → Int32 → Int32 → Int32 → Int32 → Int32 → Int32 → Int32 → (Nat → Int32) → Prop} (hT : TX sz tx mt) (he : e ≤ sz) (hl : l < 8) (hp : pts ≤ 10) (hc : css ≤ 12)
    (h0 : ∀ f a1 a2 a3 a4 a5 a6 a7 a8 a9 a10, ln sz tx e pts css = .inl f → Q 0 a1 a2 a3 a4 a5 a6 a7 (nI f) a8 a9 a10)
    (h1 : ∀ t e' p' c' a2 a3 a4 a5 a6 a7 a8 read', ln sz tx e pts css = .inr (t, e', p', c') → RdOK l t read read' → Q 1 (nI e') a2 a3 a4 a5 a6 a7 a8 (nI p') (nI c') read') :
    P_Mo_isLine (nI (4 * l)) (nI sz) (nI e) ta tk d0 n0 r0 i0 fa (nI pts) (nI css) read mt Q := by
  have hs := hT.1
  have hsS := sS_le (tx := tx) he
  have hE := eE_le (tx := tx) hsS.2
  have he1 := hE.2.1
  refine s_nextTok_M hT he (fun tok dg nm rv ir hk => ?_)
  refine lw_chain (R := fun k => B_Mo_isLine_100 (nI (4 * l)) (nI sz) mt Q (nI (4 * l)) k (nI (eE sz tx (sS sz tx e))) (nI (sS sz tx e)) tok dg nm rv ir fa (nI pts) (nI css) read) hsS.2 hk ?_
  unfold ln at h0 h1
  have hw6 := wd_le tx (sS sz tx e) (eE sz tx (sS sz tx e))
  generalize wd tx (sS sz tx e) (eE sz tx (sS sz tx e)) = w at *
  generalize eE sz tx (sS sz tx e) = e1 at *
  generalize sS sz tx e = s at *
  refine ⟨vpn (by omega) (by decide), vpn (by omega) (by decide), ?_⟩
  have x1 : nI (4 * l) + 1 = nI (4 * l + 1) := nI_1 _
  have x2 : nI (4 * l) + 2 = nI (4 * l + 2) := nI_add (4 * l) 2
  have x3 : nI (4 * l) + 3 = nI (4 * l + 3) := nI_add (4 * l) 3
  rw [clI (show 4 * l < 2147483648 by omega), upd_s]
  by_cases w0 : w = 0
  · subst w0
    rw [if_pos rfl] at h0 h1
    refine br_t (by decide) ?_
    unfold P_Mo_isLand
    rw [x1]
    refine s_num_M (lo := 1) (hc := 11) hT he1 (by omega) (by decide) (by decide) (by decide) (by decide) (fun v a2 a3 a4 a5 a6 a7 hn => ?_) (fun f a1 a2 a3 a4 a5 a6 a7 hn => ?_)
    · refine br_nt (by decide) ⟨vpn (by omega) (by decide), fun x ex => ?_⟩
      rw [clI (show 4 * l + 1 < 2147483648 by omega), upd_s] at ex
      subst ex
      exact ⟨rfl, h1 _ _ _ _ _ _ _ _ _ _ _ _ (by rw [sb_r hn]) (rd1 (by decide))⟩
    · exact br_nf rfl ⟨rfl, h0 _ _ _ _ _ _ _ _ _ _ _ (by rw [sb_l hn])⟩
  rw [if_neg w0] at h0 h1
  have two : ∀ t1, t1 ≠ 3 → (∀ f a1 a2 a3 a4 a5 a6 a7 a8 a9 a10, sb (nu sz tx 0 pts e1) (fun v => sb (nu sz tx 0 10 v.2) (fun u => (.inr ((t1, v.1, u.1, 0), u.2, pts, css) : LR))) = .inl f → Q 0 a1 a2 a3 a4 a5 a6 a7 (nI f) a8 a9 a10) → (∀ t e' p' c' a2 a3 a4 a5 a6 a7 a8 read', sb (nu sz tx 0 pts e1) (fun v => sb (nu sz tx 0 10 v.2) (fun u => (.inr ((t1, v.1, u.1, 0), u.2, pts, css) : LR))) = .inr (t, e', p', c') → RdOK l t read read' → Q 1 (nI e') a2 a3 a4 a5 a6 a7 a8 (nI p') (nI c') read') →
      B_Mo_isLine_150 (nI (4 * l)) (nI sz) mt Q (nI e1) (nI s) tok dg nm rv ir fa (nI pts) (nI css) (upd read (4 * l) (nI t1)) := by
    intro t1 t3 g0 g1
    unfold B_Mo_isLine_150
    rw [x1, x2]
    refine s_num_M (lo := 0) (hc := pts) hT he1 (by omega) (by decide) (by omega) rfl rfl (fun v a2 a3 a4 a5 a6 a7 hn => ?_) (fun f a1 a2 a3 a4 a5 a6 a7 hn => ?_)
    · have hv := nu_r he1 hn
      refine br_f (by decide) (s_num_M (lo := 0) (hc := 10) hT hv.2.2 (by omega) (by decide) (by decide) rfl (by decide) (fun u a2 a3 a4 a5 a6 a7 hn2 => ?_) (fun f a1 a2 a3 a4 a5 a6 a7 hn2 => ?_))
      · exact br_f (by decide) ⟨rfl, g1 _ _ _ _ _ _ _ _ _ _ _ _ (by rw [sb_r hn, sb_r hn2]) (rd2 t3)⟩
      · exact br_t rfl ⟨rfl, g0 _ _ _ _ _ _ _ _ _ _ _ (by rw [sb_r hn, sb_l hn2])⟩
    · exact br_t rfl ⟨rfl, g0 _ _ _ _ _ _ _ _ _ _ _ (by rw [sb_l hn])⟩
  by_cases w1 : w = 1
  · subst w1
    rw [if_pos rfl] at h0 h1
    exact br_f (by decide) (br_t (by decide) (two 1 (by decide) h0 h1))
  rw [if_neg w1] at h0 h1
  by_cases w2 : w = 2
  · subst w2
    rw [if_pos rfl] at h0 h1
    exact br_f (by decide) (br_f (by decide) (br_t (by decide) (two 2 (by decide) h0 h1)))
  rw [if_neg w2] at h0 h1
  by_cases w3 : w = 3
  · subst w3
    rw [if_pos rfl] at h0 h1
    refine br_f (by decide) (br_f (by decide) (br_f (by decide) (br_t (by decide) ?_)))
    unfold P_Mo_isCaseLine
    rw [x1, x2, x3]
    refine jne (a := css) (b := 12) (by omega) (by decide) (fun z => ?_) (fun z => ?_)
    · rw [if_neg z] at h0 h1
      intro x ex
      have key : ∀ (Q2 : Int32 → Int32 → Int32 → Int64 → Int32 → Int32 → Int32 → Int32 → Int32 → (Nat → Int32) → Prop) (rd : Nat → Int32), (∀ v a2 a3 a4 a5 a6 a7, ru sz tx pts e1 = .inr v → Q2 1 (nI v.2) a2 a3 a4 a5 a6 a7 fa (upd rd (4 * l + 1) (nI v.1))) → (∀ f a1 a2 a3 a4 a5 a6 a7, ru sz tx pts e1 = .inl f → Q2 0 a1 a2 a3 a4 a5 a6 a7 (nI f) rd) → P_Mo_isDeedRow (nI (4 * l + 1)) (nI sz) (nI e1) (nI s) tok dg nm rv ir fa (nI pts) rd mt Q2 := by
        intro Q2 rd g1 g0
        unfold ru at g1 g0
        exact s_isDeedRow_M hT he1 (by omega) hp (fun c _ _ _ _ _ => g1 (_, _) _ _ _ _ _ _ (tB_if c)) (fun c _ _ _ _ _ => g0 _ _ _ _ _ _ _ _ (tB_nif c))
      rw [← nI_succ] at ex
      subst ex
      refine key _ _ (fun v a2 a3 a4 a5 a6 a7 hn => ?_) (fun f a1 a2 a3 a4 a5 a6 a7 hn => ?_)
      · have hv := ru_r he1 hn
        refine br_f (by decide) (s_num_M (lo := 0) (hc := 4) hT hv.2 (by omega) (by decide) (by decide) rfl (by decide) (fun u a2 a3 a4 a5 a6 a7 hn2 => ?_) (fun f a1 a2 a3 a4 a5 a6 a7 hn2 => ?_))
        · have hu := nu_r hv.2 hn2
          refine br_f (by decide) (s_num_M (lo := 0) (hc := 10000) hT hu.2.2 (by omega) (by decide) (by decide) rfl (by decide) (fun u a2 a3 a4 a5 a6 a7 hn3 => ?_) (fun f a1 a2 a3 a4 a5 a6 a7 hn3 => ?_))
          · exact br_f (by decide) ⟨rfl, rfl, h1 _ _ _ _ _ _ _ _ _ _ _ _ (by rw [sb_r hn, sb_r hn2, sb_r hn3]) rd3⟩
          · exact br_t rfl ⟨rfl, rfl, h0 _ _ _ _ _ _ _ _ _ _ _ (by rw [sb_r hn, sb_r hn2, sb_l hn3])⟩
        · exact br_t rfl ⟨rfl, rfl, h0 _ _ _ _ _ _ _ _ _ _ _ (by rw [sb_r hn, sb_l hn2])⟩
      · exact br_t rfl ⟨rfl, rfl, h0 _ _ _ _ _ _ _ _ _ _ _ (by rw [sb_l hn])⟩
    · rw [if_pos z] at h0
      exact ⟨rfl, rfl, h0 _ _ _ _ _ _ _ _ _ _ _ rfl⟩
  rw [if_neg w3] at h0 h1
  by_cases w4 : w = 4
  · subst w4
    rw [if_pos rfl] at h0 h1
    refine br_f (by decide) (br_f (by decide) (br_f (by decide) (br_f (by decide) (br_t (by decide) ?_))))
    rw [x1]
    refine s_num_M (lo := 0) (hc := css) hT he1 (by omega) (by decide) (by omega) rfl rfl (fun v a2 a3 a4 a5 a6 a7 hn => ?_) (fun f a1 a2 a3 a4 a5 a6 a7 hn => ?_)
    · exact ⟨rfl, h1 _ _ _ _ _ _ _ _ _ _ _ _ (by rw [sb_r hn]) (rd1 (by decide))⟩
    · exact ⟨rfl, h0 _ _ _ _ _ _ _ _ _ _ _ (by rw [sb_l hn])⟩
  rw [if_neg w4] at h0 h1
  by_cases w5 : w = 5
  · subst w5
    rw [if_pos rfl] at h0 h1
    refine br_f (by decide) (br_f (by decide) (br_f (by decide) (br_f (by decide) (br_f (by decide) (br_t (by decide) ?_)))))
    unfold P_Mo_isDrop
    rw [x1]
    refine s_num_M (lo := 0) (hc := css) hT he1 (by omega) (by decide) (by omega) rfl rfl (fun v a2 a3 a4 a5 a6 a7 hn => ?_) (fun f a1 a2 a3 a4 a5 a6 a7 hn => ?_)
    · have hv := nu_r he1 hn
      refine br_f (by decide) (fun x ex => ?_)
      rw [show (1 : Int32) = nI 1 from rfl, pk_sub (by omega)] at ex
      subst ex
      exact ⟨rfl, rfl, h1 _ _ _ _ _ _ _ _ _ _ _ _ (by rw [sb_r hn]) (rd1 (by decide))⟩
    · refine br_t rfl (fun x ex => ?_)
      exact ⟨rfl, rfl, h0 _ _ _ _ _ _ _ _ _ _ _ (by rw [sb_l hn])⟩
  rw [if_neg w5] at h0
  have w6 : w = 6 := by omega
  subst w6
  exact br_f (by decide) (br_f (by decide) (br_f (by decide) (br_f (by decide) (br_f (by decide) (br_f (by decide) ⟨rfl, h0 _ _ _ _ _ _ _ _ _ _ _ rfl⟩)))))
