/-! PURE 20: the land of a text -/
abbrev St := Nat × (Nat → Nat) × (Nat → Nat) × Nat × (Nat → Nat) × (Nat → Nat) × (Nat → Nat) × (Nat → Nat)
def ClI (by_ jud : Nat → Int32) (s : St) (cp aj csp rs wsp : Int32) (ce cs rD rE rF rP rY we ws_ : Nat → Int32) : Prop := match s with
  | (n, w, c, k, d, j, y, q) => (cp = nI n ∧ csp = nI n ∧ wsp = nI n ∧ rs = nI k) ∧ ScOK n w we ws_ ∧ ScOK n c ce cs ∧ RlOK k d j y q rD rF rY rP ∧ ElOK k y rE ∧ JInv n (lb w n d y k) j q aj by_ jud
def MdI (s : St) (mp mk_ : Int32) (cost one weight : Nat → Int32) : Prop := match s with
  | (n, w, c, k, d, j, y, q) => (mp = nI n ∧ mk_ = nI k) ∧ WtOK n w weight ∧ WtOK n c cost ∧ OnOK k d j y q one
def SBd (s : St) : Prop := match s with
  | (n, _, _, k, d, j, y, q) => 1 ≤ n ∧ n ≤ 10 ∧ k ≤ 12 ∧ CB n k d j y q
def stp (s : St) (t : LT) : St := match s with
  | (n, w, c, k, d, j, y, q) => if t.1 = 0 then (t.2.1, fun _ => 1, fun _ => 1, 0, d, j, y, q) else if t.1 = 1 then (n, un w t.2.1 t.2.2.1, c, k, d, j, y, q) else if t.1 = 2 then (n, w, un c t.2.1 t.2.2.1, k, d, j, y, q) else if t.1 = 3 then (n, w, c, k + 1, un d k t.2.1, un j k t.2.2.1, un y k t.2.2.2, un q k 0) else if t.1 = 4 then (n, w, c, k, d, j, y, un q t.2.1 1) else (n, w, c, k - 1, dn d t.2.1, dn j t.2.1, dn y t.2.1, dn q t.2.1)
theorem cb_app {n k a b c : Nat} {d j y q : Nat → Nat} (hB : CB n k d j y q) (ha : a < 2 ^ n) (hb : b ≤ 3) (hc : c ≤ 9999) : CB n (k + 1) (un d k a) (un j k b) (un y k c) (un q k 0) := by
  intro i hi
  by_cases e : i = k
  · subst e
    rw [un_s, un_s, un_s, un_s]
    exact ⟨ha, hb, hc, by decide⟩
  · rw [un_n _ e, un_n _ e, un_n _ e, un_n _ e]
    exact hB i (by omega)
theorem cb_prd {n k a : Nat} {d j y q : Nat → Nat} (hB : CB n k d j y q) : CB n k d j y (un q a 1) := by
  intro i hi
  obtain ⟨b0, b1, b2, b3⟩ := hB i hi
  refine ⟨b0, b1, b2, ?_⟩
  by_cases e : i = a
  · subst e; rw [un_s]; decide
  · rw [un_n _ e]; exact b3
theorem dn_l (f : Nat → Nat) {a i : Nat} (h : i < a) : dn f a i = f i := if_pos h
theorem dn_g (f : Nat → Nat) {a i : Nat} (h : ¬ i < a) : dn f a i = f (i + 1) := if_neg h
theorem cb_drp {n k a : Nat} {d j y q : Nat → Nat} (hB : CB n k d j y q) (ha : a < k) : CB n (k - 1) (dn d a) (dn j a) (dn y a) (dn q a) := by
  intro i hi
  by_cases e : i < a
  · rw [dn_l _ e, dn_l _ e, dn_l _ e, dn_l _ e]
    exact hB i (by omega)
  · rw [dn_g _ e, dn_g _ e, dn_g _ e, dn_g _ e]
    exact hB (i + 1) (by omega)
theorem wt_put {n a v : Nat} {w : Nat → Nat} {weight : Nat → Int32} (h : WtOK n w weight) (hv : v ≤ 9) : WtOK n (un w a v) (upd weight a (nI v)) := by
  intro i hi
  by_cases e : i = a
  · subst e; rw [un_s, upd_s]; exact ⟨rfl, hv⟩
  · rw [un_n _ e, upd_n _ e]; exact h i hi
theorem s_value {i c : Nat} {x2 : Int32} {values : Nat → Int32} {Q : Int32 → Prop} (hx : x2 = nI c) (hi : 3 * i + c < 24) (h : Q (values (3 * i + c))) : P_Text_value (nI i) x2 values Q := by
  subst hx
  intro x ex
  rw [show (3 : Int32) = nI 3 from rfl, pk_mul, nI_add, show i * 3 + c = 3 * i + c by omega] at ex
  subst ex
  refine jneg (by omega) (jle (by decide) (by omega) (fun z => absurd z (by omega)) (fun _ => ⟨vpn hi (by decide), ?_⟩))
  rw [clI (by omega)]
  exact h
theorem s_word {i : Nat} {words : Nat → Int32} {Q : Int32 → Prop} (hi : i < 8) (h : Q (words i)) : P_Text_word (nI i) words Q := by
  refine jneg (by omega) (jle (by decide) (by omega) (fun z => absurd z (by omega)) (fun _ => ⟨vpn hi (by decide), ?_⟩))
  rw [clI (by omega)]
  exact h
theorem stp_ok {s : St} {t : LT} {p' c' : Nat} (hS : SBd s) (hv : LV s.1 s.2.2.2.1 t p' c') : SBd (stp s t) ∧ (stp s t).1 = p' ∧ (stp s t).2.2.2.1 = c' := by
  obtain ⟨n, w, c, k, d, j, y, q⟩ := s
  obtain ⟨t0, a, b, e⟩ := t
  obtain ⟨s1, s2, s3, hB⟩ := hS
  rcases hv with ⟨e0, h1, h2, h3, h4⟩ | ⟨e0, h1, h2, h3, h4⟩ | ⟨e0, h0, h1, h2, h3, h4, h5⟩ | ⟨e0, h1, h3, h4⟩ | ⟨e0, h1, h3, h4⟩
  · have e0 : t0 = 0 := e0
    subst e0
    exact ⟨⟨h1, h2, Nat.zero_le _, fun i hi => absurd hi (Nat.not_lt_zero i)⟩, h3.symm, h4.symm⟩
  · rcases e0 with e0 | e0
    · have e0 : t0 = 1 := e0
      subst e0
      exact ⟨⟨s1, s2, s3, hB⟩, h3.symm, h4.symm⟩
    · have e0 : t0 = 2 := e0
      subst e0
      exact ⟨⟨s1, s2, s3, hB⟩, h3.symm, h4.symm⟩
  · have e0 : t0 = 3 := e0
    subst e0
    exact ⟨⟨s1, s2, h0, cb_app hB h1 h2 h3⟩, h4.symm, h5.symm⟩
  · have e0 : t0 = 4 := e0
    subst e0
    exact ⟨⟨s1, s2, s3, cb_prd hB⟩, h3.symm, h4.symm⟩
  · have e0 : t0 = 5 := e0
    subst e0
    exact ⟨⟨s1, s2, Nat.le_trans (Nat.sub_le _ _) s3, cb_drp hB h1⟩, h3.symm, h4.symm⟩
theorem s_perform {i : Nat} {s : St} {t : LT} {p' c' : Nat} {cp aj csp rs wsp : Int32} {by_ jud values words ce cs rD rE rF rP rY we ws_ : Nat → Int32} {Q : Int32 → Int32 → Int32 → Int32 → Int32 → (Nat → Int32) → (Nat → Int32) → (Nat → Int32) → (Nat → Int32) → (Nat → Int32) → (Nat → Int32) → (Nat → Int32) → (Nat → Int32) → (Nat → Int32) → Prop} (hi : i < 8)
    (hV : words i = nI t.1 ∧ values (3 * i) = nI t.2.1 ∧ values (3 * i + 1) = nI t.2.2.1 ∧ values (3 * i + 2) = nI t.2.2.2) (hv : LV s.1 s.2.2.2.1 t p' c') (hS : SBd s) (hC : ClI by_ jud s cp aj csp rs wsp ce cs rD rE rF rP rY we ws_)
    (h : ∀ cp aj csp rs wsp ce cs rD rE rF rP rY we ws_, ClI by_ jud (stp s t) cp aj csp rs wsp ce cs rD rE rF rP rY we ws_ → Q cp aj csp rs wsp ce cs rD rE rF rP rY we ws_) :
    P_LC_perform (nI i) cp aj csp rs wsp values words ce cs rD rE rF rP rY we ws_ Q := by
  obtain ⟨n, w, c, k, d, j, y, q⟩ := s
  obtain ⟨t0, a, b, e⟩ := t
  obtain ⟨v0, v1, v2, v3⟩ := hV
  have v0 : words i = nI t0 := v0
  have v1 : values (3 * i) = nI a := v1
  have v2 : values (3 * i + 1) = nI b := v2
  have v3 : values (3 * i + 2) = nI e := v3
  obtain ⟨s1, s2, s3, hB⟩ := hS
  obtain ⟨⟨rfl, rfl, rfl, rfl⟩, hW, hCs, hR, hE, hJ⟩ := hC
  refine s_value (c := 0) rfl (by omega) (s_value (c := 1) rfl (by omega) (s_word hi ?_))
  rw [v0, v2, show values (3 * i + 0) = nI a from v1]
  rcases hv with ⟨e0, h1, h2, h3, h4⟩ | ⟨e0, h1, h2, h3, h4⟩ | ⟨e0, h0, h1, h2, h3, h4, h5⟩ | ⟨e0, h1, h3, h4⟩ | ⟨e0, h1, h3, h4⟩
  · have e0 : t0 = 0 := e0
    have h1 : 1 ≤ a := h1
    have h2 : a ≤ 10 := h2
    subst e0
    refine br_t rfl (fun x ex => ?_)
    have e1 : (if (1 : Int32) < (if (10 : Int32) < nI a then 10 else nI a) then (if (10 : Int32) < nI a then 10 else nI a) else 1) = nI a := by
      rw [if_neg (show ¬ (10 : Int32) < nI a from fun z => absurd ((nI_ltI (a := 10) (by decide) (by omega)).mp z) (by omega))]
      by_cases z : a = 1
      · subst z; rfl
      · rw [if_pos (show (1 : Int32) < nI a from (nI_ltI (a := 1) (by decide) (by omega)).mpr (by omega))]
    rw [show x = nI a from ex.trans e1]
    refine s_scfill (v := 1) h2 (by decide) (fun e2 s2 hw2 => s_scfill (v := 1) h2 (by decide) (fun e3 s3 hw3 => ?_))
    exact h _ _ _ _ _ _ _ _ _ _ _ _ _ _ ⟨⟨rfl, rfl, rfl, rfl⟩, hw2, hw3, fun i hi => absurd hi (Nat.not_lt_zero i), fun i hi => absurd hi (Nat.not_lt_zero i), Or.inl rfl⟩
  · have h1 : a < n := h1
    have h2 : b ≤ 9 := h2
    rcases e0 with e0 | e0
    · have e0 : t0 = 1 := e0
      subst e0
      exact br_f (by decide) (br_t rfl (s_put hW h1 h2 (fun e2 s2 hw2 => h _ _ _ _ _ _ _ _ _ _ _ _ _ _ ⟨⟨rfl, rfl, rfl, rfl⟩, hw2, hCs, hR, hE, Or.inl rfl⟩)))
    · have e0 : t0 = 2 := e0
      subst e0
      exact br_f (by decide) (br_f (by decide) (br_t rfl (s_put hCs h1 h2 (fun e2 s2 hw2 => h _ _ _ _ _ _ _ _ _ _ _ _ _ _ ⟨⟨rfl, rfl, rfl, rfl⟩, hW, hw2, hR, hE, hJ⟩))))
  · have e0 : t0 = 3 := e0
    have h0 : k < 12 := h0
    have h3 : e ≤ 9999 := h3
    subst e0
    refine br_f (by decide) (br_f (by decide) (br_f (by decide) (br_t rfl (s_value (c := 2) rfl (by omega) ?_))))
    rw [v3]
    exact s_append h0 hR hB h3 (fun D E F P Y hR2 hE2 => h _ _ _ _ _ _ _ _ _ _ _ _ _ _ ⟨⟨rfl, rfl, rfl, rfl⟩, hW, hCs, hR2, hE2, Or.inl rfl⟩)
  · have e0 : t0 = 4 := e0
    have h1 : a < k := h1
    subst e0
    refine br_f (by decide) (br_f (by decide) (br_f (by decide) (br_f (by decide) (br_t rfl (s_rhas (by omega) (jb' (fun z => absurd (vpn h1 (show k < 2147483648 by omega)) z) (fun _ => ⟨vpn (by omega) (by decide), ?_⟩)))))))
    rw [clI (by omega)]
    refine h _ _ _ _ _ _ _ _ _ _ _ _ _ _ ⟨⟨rfl, rfl, rfl, rfl⟩, hW, hCs, ?_, hE, Or.inl rfl⟩
    intro m hm
    obtain ⟨r0, r1, r2, r3⟩ := hR m hm
    refine ⟨r0, r1, r2, ?_⟩
    by_cases z : m = a
    · subst z; rw [un_s, upd_s]; exact vnb 1 (Or.inr rfl)
    · rw [un_n _ z, upd_n _ z]; exact r3
  · have e0 : t0 = 5 := e0
    have h1 : a < k := h1
    subst e0
    exact br_f (by decide) (br_f (by decide) (br_f (by decide) (br_f (by decide) (br_f (by decide) (s_remove s3 h1 hR hB (fun D E F P Y hR2 hE2 => h _ _ _ _ _ _ _ _ _ _ _ _ _ _ ⟨⟨rfl, rfl, rfl, rfl⟩, hW, hCs, hR2, hE2, Or.inl rfl⟩))))))
theorem s_plain_M {ck : Int32} {Q : Int32 → (Nat → Int32) → (Nat → Int32) → Prop} (h : ∀ co we : Nat → Int32, (∀ p, p < 10 → co p = nI 1) → (∀ p, p < 10 → we p = nI 1) → Q 0 co we) : ∀ (r i : Nat) (co we : Nat → Int32), i + r = 10 → (∀ p, p < i → co p = nI 1) → (∀ p, p < i → we p = nI 1) → L_Mo_plain_2 Q (r + 1) (nI i) ck co we := by
  intro r
  induction r with
  | zero =>
    intro i co we hi h1 h2
    have e : i = 10 := by omega
    subst e
    exact br_t (by decide) (h co we h1 h2)
  | succ r ih =>
    intro i co we hi h1 h2
    refine jle (a := 10) (b := i) (by decide) (by omega) (fun z => absurd z (by omega)) (fun _ => ⟨vpn (by omega) (by decide), vpn (by omega) (by decide), ?_⟩)
    rw [clI (by omega), ← nI_succ]
    have up : ∀ f : Nat → Int32, (∀ p, p < i → f p = nI 1) → ∀ p, p < i + 1 → upd f i 1 p = nI 1 := by
      intro f hf p hp
      by_cases z : p = i
      · subst z; rw [upd_s]; rfl
      · rw [upd_n _ z]; exact hf p (by omega)
    exact ih (i + 1) _ _ (by omega) (up co h1) (up we h2)
theorem s_drop_M {k a : Nat} {d j y q : Nat → Nat} {x1 mp : Int32} {read cost one weight : Nat → Int32} {Q : Int32 → Int32 → (Nat → Int32) → (Nat → Int32) → (Nat → Int32) → Prop} (hk : k ≤ 12) (ha : a < k) (hO : OnOK k d j y q one)
    (h : ∀ o, OnOK (k - 1) (dn d a) (dn j a) (dn y a) (dn q a) o → Q mp (nI (k - 1)) cost o weight) : ∀ (r i : Nat) (o : Nat → Int32), i + r = 4 * (k - 1) → 4 * a ≤ i → (∀ x, x < 4 * a → o x = one x) → (∀ x, 4 * a ≤ x → x < i → o x = one (x + 4)) → (∀ x, i ≤ x → o x = one x) → L_Mo_doLine_146 x1 read Q (r + 1) (nI i) mp (nI (k - 1)) cost o weight := by
  intro r
  have e4 : (4 : Int32) * nI (k - 1) = nI (4 * (k - 1)) := pk_mul 4 (k - 1)
  induction r with
  | zero =>
    intro i o hi h0 h1 h2 h3
    unfold L_Mo_doLine_146
    rw [e4]
    refine jle (by omega) (by omega) (fun _ => h o ?_) (fun z => absurd z (by omega))
    intro c hc
    by_cases e : c < a
    · rw [dn_l _ e, dn_l _ e, dn_l _ e, dn_l _ e, h1 _ (by omega), h1 _ (by omega), h1 _ (by omega), h1 _ (by omega)]
      exact hO c (by omega)
    · rw [dn_g _ e, dn_g _ e, dn_g _ e, dn_g _ e, h2 _ (by omega) (by omega), h2 _ (by omega) (by omega), h2 _ (by omega) (by omega), h2 _ (by omega) (by omega)]
      exact hO (c + 1) (by omega)
  | succ r ih =>
    intro i o hi h0 h1 h2 h3
    unfold L_Mo_doLine_146
    have e5 : nI i + 4 = nI (i + 4) := nI_add i 4
    rw [e4, e5]
    refine jle (by omega) (by omega) (fun z => absurd z (by omega)) (fun _ => ⟨vpn (by omega) (by decide), vpn (by omega) (by decide), ?_⟩)
    rw [clI (show i < 2147483648 by omega), clI (show i + 4 < 2147483648 by omega), ← nI_succ]
    refine ih (i + 1) _ (by omega) (by omega) (fun x hx => ?_) (fun x hx hx2 => ?_) (fun x hx => ?_)
    · rw [upd_n _ (by omega)]; exact h1 x hx
    · by_cases z : x = i
      · subst z; rw [upd_s]; exact h3 _ (by omega)
      · rw [upd_n _ z]; exact h2 x hx (by omega)
    · rw [upd_n _ (by omega)]; exact h3 x (by omega)
theorem s_doLine_M {i : Nat} {s : St} {t : LT} {p' c' : Nat} {mp mk_ : Int32} {cost one read weight : Nat → Int32} {Q : Int32 → Int32 → (Nat → Int32) → (Nat → Int32) → (Nat → Int32) → Prop} (hi : i < 8) (hL : RdL i t read) (hv : LV s.1 s.2.2.2.1 t p' c') (hS : SBd s) (hM : MdI s mp mk_ cost one weight)
    (h : ∀ mp mk_ cost one weight, MdI (stp s t) mp mk_ cost one weight → Q mp mk_ cost one weight) : P_Mo_doLine (nI (4 * i)) mp mk_ cost one read weight Q := by
  obtain ⟨n, w, c, k, d, j, y, q⟩ := s
  obtain ⟨t0, a, b, e⟩ := t
  obtain ⟨v0, v1, v2, v3⟩ := hL
  have v0 : read (4 * i) = nI t0 := v0
  have v1 : read (4 * i + 1) = nI a := v1
  have v2 : t0 = 1 ∨ t0 = 2 ∨ t0 = 3 → read (4 * i + 2) = nI b := v2
  have v3 : t0 = 3 → read (4 * i + 3) = nI e := v3
  obtain ⟨s1, s2, s3, hB⟩ := hS
  obtain ⟨⟨rfl, rfl⟩, hW, hCs, hO⟩ := hM
  have x1 : nI (4 * i) + 1 = nI (4 * i + 1) := nI_1 _
  have x2 : nI (4 * i) + 2 = nI (4 * i + 2) := nI_add (4 * i) 2
  have x3 : nI (4 * i) + 3 = nI (4 * i + 3) := nI_add (4 * i) 3
  unfold P_Mo_doLine
  rw [x1, x2, x3, clI (show 4 * i < 2147483648 by omega), clI (show 4 * i + 1 < 2147483648 by omega), clI (show 4 * i + 2 < 2147483648 by omega), clI (show 4 * i + 3 < 2147483648 by omega), v0, v1]
  refine ⟨vpn (by omega) (by decide), fun x ex => ?_⟩
  subst ex
  refine ⟨vpn (by omega) (by decide), ?_⟩
  rcases hv with ⟨e0, h1, h2, h3, h4⟩ | ⟨e0, h1, h2, h3, h4⟩ | ⟨e0, h0, h1, h2, h3, h4, h5⟩ | ⟨e0, h1, h3, h4⟩ | ⟨e0, h1, h3, h4⟩
  · have e0 : t0 = 0 := e0
    have h2 : a ≤ 10 := h2
    subst e0
    refine br_t rfl ⟨11, s_plain_M (fun co we g1 g2 => ?_) 10 0 _ _ rfl (fun p hp => absurd hp (Nat.not_lt_zero p)) (fun p hp => absurd hp (Nat.not_lt_zero p))⟩
    exact h _ _ _ _ _ ⟨⟨rfl, rfl⟩, fun p hp => ⟨g2 p (Nat.lt_of_lt_of_le hp h2), (show 1 ≤ 9 by decide)⟩, fun p hp => ⟨g1 p (Nat.lt_of_lt_of_le hp h2), (show 1 ≤ 9 by decide)⟩, fun i hi => absurd hi (Nat.not_lt_zero i)⟩
  · have h1 : a < n := h1
    have h2 : b ≤ 9 := h2
    rcases e0 with e0 | e0
    · have e0 : t0 = 1 := e0
      subst e0
      rw [v2 (Or.inl rfl)]
      refine br_f (by decide) (br_t rfl ⟨vpn (by omega) (by decide), vpn (by omega) (by decide), ?_⟩)
      rw [clI (by omega)]
      exact h _ _ _ _ _ ⟨⟨rfl, rfl⟩, wt_put hW h2, hCs, hO⟩
    · have e0 : t0 = 2 := e0
      subst e0
      rw [v2 (Or.inr (Or.inl rfl))]
      refine br_f (by decide) (br_f (by decide) (br_t rfl ⟨vpn (by omega) (by decide), vpn (by omega) (by decide), ?_⟩))
      rw [clI (by omega)]
      exact h _ _ _ _ _ ⟨⟨rfl, rfl⟩, hW, wt_put hCs h2, hO⟩
  · have e0 : t0 = 3 := e0
    have h0 : k < 12 := h0
    subst e0
    rw [v2 (Or.inr (Or.inr rfl)), v3 rfl]
    refine br_f (by decide) (br_f (by decide) (br_f (by decide) (br_t rfl ⟨vpn (by omega) (by decide), vpn (by omega) (by decide), ?_⟩)))
    exact s_add_M (by omega) hO (fun o ho _ => h _ _ _ _ _ ⟨⟨rfl, rfl⟩, hW, hCs, ho⟩)
  · have e0 : t0 = 4 := e0
    have h1 : a < k := h1
    subst e0
    have e3 : (4 : Int32) * nI a + 3 = nI (4 * a + 3) := i4p a 3
    rw [e3]
    refine br_f (by decide) (br_f (by decide) (br_f (by decide) (br_f (by decide) (br_t rfl ⟨vpn (by omega) (by decide), ?_⟩))))
    rw [clI (by omega)]
    refine h _ _ _ _ _ ⟨⟨rfl, rfl⟩, hW, hCs, ?_⟩
    intro m hm
    obtain ⟨r0, r1, r2, r3⟩ := hO m hm
    refine ⟨by rw [upd_n _ (by omega)]; exact r0, by rw [upd_n _ (by omega)]; exact r1, by rw [upd_n _ (by omega)]; exact r2, ?_⟩
    by_cases z : m = a
    · subst z; rw [un_s, upd_s]; rfl
    · rw [un_n _ z, upd_n _ (by omega)]; exact r3
  · have e0 : t0 = 5 := e0
    have h1 : a < k := h1
    subst e0
    refine br_f (by decide) (br_f (by decide) (br_f (by decide) (br_f (by decide) (br_f (by decide) (fun ck eck x ex => ?_)))))
    rw [show (1 : Int32) = nI 1 from rfl, pk_sub (by omega)] at eck
    rw [show (4 : Int32) * nI a = nI (4 * a) from pk_mul 4 a] at ex
    subst eck ex
    exact ⟨4 * (k - 1) - 4 * a + 1, s_drop_M (a := a) s3 h1 hO (fun o ho => h _ _ _ _ _ ⟨⟨rfl, rfl⟩, hW, hCs, ho⟩) _ _ _ (by omega) (Nat.le_refl _) (fun _ _ => rfl) (fun x hx hx2 => absurd hx2 (by omega)) (fun _ _ => rfl)⟩
theorem s_land_C {by_ jud cb values words : Nat → Int32} {N : Nat} {fk sk tz tl tf tp tc ts te : Int32} {Q : Int32 → Int32 → Int32 → Int32 → Int32 → Int32 → Int32 → Int32 → Int32 → Int32 → Int32 → Int32 → Int32 → Int32 → Int32 → (Nat → Int32) → (Nat → Int32) → (Nat → Int32) → (Nat → Int32) → (Nat → Int32) → (Nat → Int32) → (Nat → Int32) → (Nat → Int32) → (Nat → Int32) → (Nat → Int32) → (Nat → Int32) → Prop} (hN : N ≤ 8) : ∀ (ls : List LT) (i : Nat) (s : St) (cp aj csp rs wsp : Int32) (ce cs rD rE rF rP rY we ws_ : Nat → Int32), i + ls.length = N → VWm values words i ls → RV s.1 s.2.2.2.1 ls → SBd s → ClI by_ jud s cp aj csp rs wsp ce cs rD rE rF rP rY we ws_ →
    (∀ cp aj csp rs wsp ce cs rD rE rF rP rY we ws_, SBd (ls.foldl stp s) → ClI by_ jud (ls.foldl stp s) cp aj csp rs wsp ce cs rD rE rF rP rY we ws_ → Q (nI N) cp aj 0 0 0 tl tf tp tc ts te csp rs wsp values words ce cs rD rE rF rP rY we ws_) →
    L_LC_land_41 cb Q (ls.length + 1) (nI N) (nI i) cp aj fk sk tz tl tf tp tc ts te csp rs wsp values words ce cs rD rE rF rP rY we ws_ := by
  intro ls
  induction ls with
  | nil =>
    intro i s cp aj csp rs wsp ce cs rD rE rF rP rY we ws_ hi hV hr hS hC h
    have hi : i = N := hi
    exact jle (by omega) (by omega) (fun _ => h _ _ _ _ _ _ _ _ _ _ _ _ _ _ hS hC) (fun z => absurd z (by omega))
  | cons t ls ih =>
    intro i s cp aj csp rs wsp ce cs rD rE rF rP rY we ws_ hi hV hr hS hC h
    have hi : i + (ls.length + 1) = N := hi
    obtain ⟨p', c', hv, hr2⟩ := hr
    have ho := stp_ok hS hv
    refine jle (by omega) (by omega) (fun z => absurd z (by omega)) (fun _ => s_perform (by omega) hV.1 hv hS hC (fun cp aj csp rs wsp ce cs rD rE rF rP rY we ws_ hC2 => ?_))
    rw [← nI_succ]
    exact ih (i + 1) (stp s t) _ _ _ _ _ _ _ _ _ _ _ _ _ _ (by omega) hV.2 (by rw [ho.2.1, ho.2.2]; exact hr2) ho.1 hC2 h
theorem s_land_M {mt read : Nat → Int32} {N : Nat} {mb po ta dg nm rv ir fa rp rc : Int32} {tok : Int64} {isKept : Nat → Int32} {Q : Int32 → Int32 → Int32 → Int32 → Int32 → Int32 → Int64 → Int32 → Int32 → Int32 → Int32 → Int32 → Int32 → Int32 → Int32 → (Nat → Int32) → (Nat → Int32) → (Nat → Int32) → (Nat → Int32) → (Nat → Int32) → Prop} (hN : N ≤ 8) : ∀ (ls : List LT) (i : Nat) (s : St) (mp mk_ : Int32) (cost one weight : Nat → Int32), i + ls.length = N → RMm read i ls → RV s.1 s.2.2.2.1 ls → SBd s → MdI s mp mk_ cost one weight →
    (∀ mp mk_ cost ik one weight, MdI (ls.foldl stp s) mp mk_ cost one weight → ik 0 = 0 → ik 1 = 0 → Q (nI N) mp mk_ 0 po ta tok dg nm rv ir fa (nI N) rp rc cost ik one read weight) →
    L_Mo_land_12 mt Q (ls.length + 1) (nI i) mp mk_ mb po ta tok dg nm rv ir fa (nI N) rp rc cost isKept one read weight := by
  intro ls
  induction ls with
  | nil =>
    intro i s mp mk_ cost one weight hi hV hr hS hC h
    have hi : i = N := hi
    exact jle (by omega) (by omega) (fun _ => ⟨vpn (i := 0) (by decide) (by decide), vpn (i := 1) (by decide) (by decide), h _ _ _ _ _ _ hC rfl rfl⟩) (fun z => absurd z (by omega))
  | cons t ls ih =>
    intro i s mp mk_ cost one weight hi hV hr hS hC h
    have hi : i + (ls.length + 1) = N := hi
    obtain ⟨p', c', hv, hr2⟩ := hr
    have ho := stp_ok hS hv
    refine jle (by omega) (by omega) (fun z => absurd z (by omega)) (fun _ => ?_)
    rw [show (4 : Int32) * nI i = nI (4 * i) from pk_mul 4 i]
    refine s_doLine_M (by omega) hV.1 hv hS hC (fun mp mk_ cost one weight hC2 => ?_)
    rw [← nI_succ]
    exact ih (i + 1) (stp s t) _ _ _ _ _ (by omega) hV.2 (by rw [ho.2.1, ho.2.2]; exact hr2) ho.1 hC2 h
theorem op_land {sz n k : Nat} {tx w c d j y q : Nat → Nat} {aj fk sk tl tf tp tc ts te po ta dg nm rv ir fa rm rp rc : Int32} {tok : Int64} {by_ jud cb values words ce cs rD rE rF rP rY we ws_ mt read cost isKept one weight : Nat → Int32}
    {K : Int32 → Int32 → Int32 → Int32 → Int32 → Int32 → Int32 → Int32 → Int32 → Int32 → Int32 → Int32 → Int32 → Int32 → Int32 → (Nat → Int32) → (Nat → Int32) → (Nat → Int32) → (Nat → Int32) → (Nat → Int32) → (Nat → Int32) → (Nat → Int32) → (Nat → Int32) → (Nat → Int32) → (Nat → Int32) → (Nat → Int32) → Int32 → Int32 → Int32 → Int32 → Int32 → Int32 → Int64 → Int32 → Int32 → Int32 → Int32 → Int32 → Int32 → Int32 → Int32 → (Nat → Int32) → (Nat → Int32) → (Nat → Int32) → (Nat → Int32) → (Nat → Int32) → Prop}
    (hT : TX sz tx cb) (hT2 : TX sz tx mt) (hS : SBd (n, w, c, k, d, j, y, q)) (hW : ScOK n w we ws_) (hC : ScOK n c ce cs) (hMW : WtOK n w weight) (hMC : WtOK n c cost) (hR : RlOK k d j y q rD rF rY rP) (hE : ElOK k y rE) (hO : OnOK k d j y q one) (hJ : JInv n (lb w n d y k) j q aj by_ jud)
    (h0 : ∀ a1 a2 a3 a4 a5 a6 a7 a8 b1 b2 b3 b4 b5 b6 b7 b8 b9 b10 b11 b12, K (-4) (nI n) aj fk sk (nI sz) a1 a2 a3 a4 a5 a6 (nI n) (nI k) (nI n) a7 a8 ce cs rD rE rF rP rY we ws_ (-4) (nI n) (nI k) (nI sz) b1 b2 b3 b4 b5 b6 b7 b8 b9 b10 b11 cost isKept one b12 weight)
    (h1 : ∀ r s cp aj csp rs wsp ce cs rD rE rF rP rY we ws_ mp mk_ cost ik one weight a1 a2 a3 a4 a5 a6 a7 a8 b1 b2 b3 b4 b5 b6 b7 b8 b9 b10 b11 b12, SBd s → ClI by_ jud s cp aj csp rs wsp ce cs rD rE rF rP rY we ws_ → MdI s mp mk_ cost one weight → ik 0 = 0 → ik 1 = 0 → K r cp aj 0 0 0 a1 a2 a3 a4 a5 a6 csp rs wsp a7 a8 ce cs rD rE rF rP rY we ws_ r mp mk_ 0 b1 b2 b3 b4 b5 b6 b7 b8 b9 b10 b11 cost ik one b12 weight) :
    P_LC_land (nI n) aj fk sk (nI sz) tl tf tp tc ts te (nI n) (nI k) (nI n) cb values words ce cs rD rE rF rP rY we ws_ (fun r cp aj fk sk tz a1 a2 a3 a4 a5 a6 csp rs wsp a7 a8 ce cs rD rE rF rP rY we ws_ => P_Mo_land (nI n) (nI k) (nI sz) po ta tok dg nm rv ir fa rm rp rc cost isKept one read mt weight (fun r' mp mk_ mb b1 b2 b3 b4 b5 b6 b7 b8 b9 b10 b11 cost ik one b12 weight => K r cp aj fk sk tz a1 a2 a3 a4 a5 a6 csp rs wsp a7 a8 ce cs rD rE rF rP rY we ws_ r' mp mk_ mb b1 b2 b3 b4 b5 b6 b7 b8 b9 b10 b11 cost ik one b12 weight)) := by
  have hz := hT.1
  have hn : n ≤ 10 := hS.2.1
  have hk : k ≤ 12 := hS.2.2.1
  refine ⟨9, s_rd_C hT 7 0 0 n k ts values words rfl (Nat.zero_le _) hn hk (fun g li pt cs st en v' w' hg hr => ?_) (fun ls pt cs st en v' w' hr hv => ?_)⟩
  · refine br_f (nI_m1 (by omega)) ⟨9, s_rd_M hT2 7 0 0 n k ta tok dg nm rv ir fa read rfl (Nat.zero_le _) hn hk (fun g2 a1 a2 a3 a4 a5 a6 a7 a8 a9 a10 a11 hg2 hr2 => ?_) (fun ls a1 a2 a3 a4 a5 a6 a7 a8 a9 a10 r2 hr2 hrm => ?_)⟩
    · exact br_nf rfl (h0 _ _ _ _ _ _ _ _ _ _ _ _ _ _ _ _ _ _ _ _)
    · rw [hr] at hr2
      cases hr2
  · have hok := rd_ok 7 0 n k ls (Nat.zero_le _) hn hk hr
    refine br_t rfl ⟨ls.length + 1, ?_⟩
    refine s_land_C (N := 0 + ls.length) (by omega) ls 0 (n, w, c, k, d, j, y, q) _ _ _ _ _ _ _ _ _ _ _ _ _ _ rfl hv.1 hok.1 hS ⟨⟨rfl, rfl, rfl, rfl⟩, hW, hC, hR, hE, hJ⟩ (fun cp aj csp rs wsp ce cs rD rE rF rP rY we ws_ hS2 hC2 => ?_)
    refine ⟨9, s_rd_M hT2 7 0 0 n k ta tok dg nm rv ir fa read rfl (Nat.zero_le _) hn hk (fun g2 a1 a2 a3 a4 a5 a6 a7 a8 a9 a10 a11 hg2 hr2 => ?_) (fun ls2 a1 a2 a3 a4 a5 a6 a7 a8 a9 a10 r2 hr2 hrm => ?_)⟩
    · rw [hr] at hr2
      cases hr2
    · rw [hr] at hr2
      cases hr2
      refine br_nt (by decide) ⟨ls.length + 1, ?_⟩
      exact s_land_M (N := 0 + ls.length) (by omega) ls 0 (n, w, c, k, d, j, y, q) _ _ _ _ _ rfl hrm.1 hok.1 hS ⟨⟨rfl, rfl⟩, hMW, hMC, hO⟩ (fun mp mk_ cost ik one weight hM2 z0 z1 => h1 _ _ _ _ _ _ _ _ _ _ _ _ _ _ _ _ _ _ _ _ _ _ _ _ _ _ _ _ _ _ _ _ _ _ _ _ _ _ _ _ _ _ hS2 hC2 hM2 z0 z1)
