/-! PURE 17: tokens, the model's side -/
def cd (tx : Nat → Nat) (s : Nat) : Nat → Nat
  | 0 => 0
  | m + 1 => 27 * cd tx s m + (tx (s + m) - 96)
def cw (k : Nat) : Nat → Nat
  | 0 => 0
  | i + 1 => 27 * cw k i + (wch k i - 96)
theorem cd_lt {tx : Nat → Nat} {s : Nat} : ∀ m, (∀ i, i < m → tx (s + i) ≤ 122) → cd tx s m < 27 ^ m
  | 0, _ => Nat.one_pos
  | m + 1, h => by
    have ih := cd_lt (tx := tx) (s := s) m (fun i hi => h i (by omega))
    have h1 := h m (by omega)
    show 27 * cd tx s m + (tx (s + m) - 96) < 27 ^ (m + 1)
    rw [Nat.pow_succ]
    omega
theorem cd_word {tx : Nat → Nat} {s k : Nat} (hk : k < 6) : ∀ (i m : Nat), i ≤ wln k → (∀ c, c < m → 97 ≤ tx (s + c) ∧ tx (s + c) ≤ 122) → (cd tx s m = cw k i ↔ (m = i ∧ ∀ c, c < i → tx (s + c) = wch k c))
  | 0, m, _, hl => by
    constructor
    · intro h
      cases m with
      | zero => exact ⟨rfl, fun c hc => absurd hc (Nat.not_lt_zero c)⟩
      | succ m =>
        have h1 := hl m (by omega)
        have h2 : 27 * cd tx s m + (tx (s + m) - 96) = 0 := h
        omega
    · intro h; rw [h.1]; rfl
  | i + 1, m, hi, hl => by
    have h6 := wl_len6 k hk
    have hw := wl_ch2 k hk i (by omega) (by omega)
    constructor
    · intro h
      cases m with
      | zero =>
        have h2 : 0 = 27 * cw k i + (wch k i - 96) := h
        omega
      | succ m =>
        have h1 := hl m (by omega)
        have h2 : 27 * cd tx s m + (tx (s + m) - 96) = 27 * cw k i + (wch k i - 96) := h
        obtain ⟨e1, e2⟩ := (cd_word hk i m (by omega) (fun c hc => hl c (by omega))).mp (by omega)
        subst e1
        refine ⟨rfl, fun c hc => ?_⟩
        by_cases e : c = m
        · subst e; omega
        · exact e2 c (by omega)
    · intro h
      obtain ⟨e1, e2⟩ := h
      subst e1
      have h3 := (cd_word (tx := tx) (s := s) hk i i (by omega) (fun c hc => hl c (by omega))).mpr ⟨rfl, fun c hc => e2 c (by omega)⟩
      show 27 * cd tx s i + (tx (s + i) - 96) = 27 * cw k i + (wch k i - 96)
      rw [h3, e2 i (by omega)]
def TokOK (sz : Nat) (tx : Nat → Nat) (s : Nat) (tok : Int64) (dg nm rv ir : Int32) : Prop :=
  (s = sz ∧ tok = -2) ∨
  (kd sz tx s = 0 ∧ tok = (if eE sz tx s - s ≤ 9 then lN (cd tx s (eE sz tx s - s)) else -4)) ∨
  (kd sz tx s = 1 ∧ tok = -1 ∧ dg = nI (eE sz tx s - s) ∧ nm = nI (vl tx s (min (eE sz tx s - s) 4)) ∧ ir = bI (eE sz tx s - s ≤ 10 ∧ ∀ i, i < eE sz tx s - s → tx (s + i) ≤ 49) ∧ ((eE sz tx s - s ≤ 10 ∧ ∀ i, i < eE sz tx s - s → tx (s + i) ≤ 49) → rv = nI (rw_ tx s (eE sz tx s - s)))) ∨
  (s < sz ∧ kd sz tx s = 2 ∧ tok = (if tx s = 59 then -3 else -4))
theorem s_in_N {v lo hi : Nat} {Q : Int32 → Prop} (hv : v < 2147483648) (hlo : lo < 2147483648) (hhi : hi < 2147483648) (h : Q (bI (lo ≤ v ∧ v ≤ hi))) : P_Mo_in (nI v) (nI lo) (nI hi) Q := by
  refine s_in_M ?_
  rw [bI_c (d := lo ≤ v ∧ v ≤ hi) (by rw [nI_leI hlo hv, nI_leI hv hhi])]
  exact h
theorem s_nextTok_M {sz e : Nat} {tx : Nat → Nat} {ta d0 n0 r0 i0 : Int32} {tk : Int64} {mt : Nat → Int32} {Q : Int32 → Int32 → Int64 → Int32 → Int32 → Int32 → Int32 → Prop} (hT : TX sz tx mt) (he : e ≤ sz)
    (h : ∀ tok dg nm rv ir, TokOK sz tx (sS sz tx e) tok dg nm rv ir → Q (nI (eE sz tx (sS sz tx e))) (nI (sS sz tx e)) tok dg nm rv ir) : P_Mo_nextToken (nI sz) (nI e) ta tk d0 n0 r0 i0 mt Q := by
  have h1 := hT.1
  have key : ∀ s, s ≤ sz → (∀ tok dg nm rv ir, TokOK sz tx s tok dg nm rv ir → Q (nI (eE sz tx s)) (nI s) tok dg nm rv ir) → B_Mo_nextToken_38 (nI sz) mt Q (nI s) ta tk d0 n0 r0 i0 := by
    intro s hs hQ
    have hE := eE_le (tx := tx) hs
    refine jne (by omega) (by omega) (fun c => ⟨vpn (by omega) (by decide), ?_⟩) (fun c => ?_)
    · have c2 : s < sz := by omega
      have hv := hT.2 s c2
      rw [clI (by omega), hv.1]
      refine s_in_N (by omega) (lo := 97) (by decide) (hi := 122) (by decide) (jb' (fun z => ⟨vpn (by omega) (by decide), s_in_N (by omega) (lo := 48) (by decide) (hi := 57) (by decide) (jb' (fun z2 => ⟨vpn (by omega) (by decide), ?_⟩) (fun z2 => ?_))⟩) (fun z => ?_))
      · have hk := kd_2 c2 z z2
        have e1 : eE sz tx s = s + 1 := by unfold eE; rw [if_pos c2, if_pos hk]
        rw [e1] at hQ
        refine jne (a := tx s) (b := 59) (by omega) (by decide) (fun z3 => ?_) (fun z3 => ?_)
        · intro x ex
          rw [← nI_succ] at ex
          subst ex
          exact hQ _ _ _ _ _ (Or.inr (Or.inr (Or.inr ⟨c2, hk, by rw [if_neg z3]⟩)))
        · intro x ex
          rw [← nI_succ] at ex
          subst ex
          exact hQ _ _ _ _ _ (Or.inr (Or.inr (Or.inr ⟨c2, hk, by rw [if_pos z3]⟩)))
      · have hk := kd_1 c2 z2
        have e1 : eE sz tx s = rn sz tx 1 (sz - s) s := by
          unfold eE
          rw [if_pos c2, if_neg (by omega), hk, show sz - s = (sz - (s + 1)) + 1 by omega]
          show _ = if kd sz tx s = 1 then rn sz tx 1 (sz - (s + 1)) (s + 1) else s
          rw [if_pos hk]
        have hA := lpd (fun m f => ∀ p rv, s ≤ p → p + f = sz → rn sz tx 1 f p = eE sz tx s → (∀ i, s ≤ i → i < p → 48 ≤ tx i ∧ tx i ≤ 57) → ((p - s ≤ 10 ∧ ∀ i, i < p - s → tx (s + i) ≤ 49) → rv = nI (rw_ tx s (p - s))) → L_Mo_nextToken_251 (nI sz) mt Q m (nI p) (nI s) tk (nI (p - s)) (nI (vl tx s (min (p - s) 4))) rv (bI (p - s ≤ 10 ∧ ∀ i, i < p - s → tx (s + i) ≤ 49))) (sz - s) (fun m p rv p1 p2 p3 p4 p5 => ?_) (fun m f hf ih p rv p1 p2 p3 p4 p5 => ?_)
        · obtain ⟨m, hm⟩ := hA
          have h0 := hm s 0 (Nat.le_refl _) (by omega) e1.symm (fun i a b => absurd b (by omega)) (fun _ => by rw [Nat.sub_self]; rfl)
          rw [Nat.sub_self, bI_t ⟨by decide, fun i hi => absurd hi (Nat.not_lt_zero i)⟩] at h0
          exact ⟨m, h0⟩
        · have p3' : p = eE sz tx s := p3
          refine jle (by omega) (by omega) (fun _ => ?_) (fun z => absurd z (by omega))
          subst p3'
          exact hQ _ _ _ _ _ (Or.inr (Or.inr (Or.inl ⟨hk, rfl, rfl, rfl, rfl, p5⟩)))
        · have p3' : (if kd sz tx p = 1 then rn sz tx 1 f (p + 1) else p) = eE sz tx s := p3
          have hvp := hT.2 p (by omega)
          refine jle (by omega) (by omega) (fun z => absurd z (by omega)) (fun _ => ⟨vpn (by omega) (by decide), ?_⟩)
          rw [clI (by omega), hvp.1]
          refine s_in_N (by omega) (lo := 48) (by decide) (hi := 57) (by decide) (jb' (fun z3 => ?_) (fun z3 => ⟨vpn (by omega) (by decide), ?_⟩))
          · rw [if_neg (fun q => z3 (kd1 q).2)] at p3'
            subst p3'
            exact hQ _ _ _ _ _ (Or.inr (Or.inr (Or.inl ⟨hk, rfl, rfl, rfl, rfl, p5⟩)))
          · rw [if_pos (kd_1 (by omega) z3)] at p3'
            intro x ex
            rw [show (48 : Int32) = nI 48 from rfl, pk_sub z3.1] at ex
            subst ex
            have hvb : vl tx s (min (p - s) 4) < 10000 := Nat.lt_of_lt_of_le (vl_lt _ (fun i hi => (p4 (s + i) (by omega) (by omega)).2)) (Nat.pow_le_pow_right (by decide) (show min (p - s) 4 ≤ 4 by omega))
            have en : p + 1 - s = (p - s) + 1 := by omega
            have go : ∀ nm, nm = nI (vl tx s (min (p + 1 - s) 4)) → B_Mo_nextToken_319 (nI sz) mt Q (L_Mo_nextToken_251 (nI sz) mt Q m) (nI (tx p - 48)) nm (nI p) (nI s) tk (nI (p - s)) (nI (vl tx s (min (p - s) 4))) rv (bI (p - s ≤ 10 ∧ ∀ i, i < p - s → tx (s + i) ≤ 49)) := by
              intro nm enm
              subst enm
              have fin : ∀ (b : Prop) rv', (b ↔ (p + 1 - s ≤ 10 ∧ ∀ i, i < p + 1 - s → tx (s + i) ≤ 49)) → (b → rv' = nI (rw_ tx s (p + 1 - s))) → B_Mo_nextToken_378 (nI sz) mt Q (L_Mo_nextToken_251 (nI sz) mt Q m) rv' (nI p) (nI s) tk (nI (p - s)) (nI (vl tx s (min (p + 1 - s) 4))) rv (bI b) := by
                intro b rv' hb hrv x ex y ey
                rw [← nI_succ] at ex ey
                subst ex ey
                have h0 := ih (p + 1) rv' (by omega) (by omega) p3' (fun i a b => by
                  by_cases e : i = p
                  · rw [e]; exact z3
                  · exact p4 i a (by omega)) (fun q => hrv (hb.mpr q))
                rw [bI_c hb, ← en]
                exact h0
              have no : ¬ (p + 1 - s ≤ 10 ∧ ∀ i, i < p + 1 - s → tx (s + i) ≤ 49) → B_Mo_nextToken_348 (nI sz) mt Q (L_Mo_nextToken_251 (nI sz) mt Q m) (nI (tx p - 48)) (nI p) (nI s) tk (nI (p - s)) (nI (vl tx s (min (p + 1 - s) 4))) rv (bI (p - s ≤ 10 ∧ ∀ i, i < p - s → tx (s + i) ≤ 49)) := by
                intro z4
                have g := fin False rv ⟨fun q => q.elim, fun q => absurd q z4⟩ (fun q => q.elim)
                rw [bI_f (fun q => q)] at g
                exact ⟨rfl, rfl, br_t rfl g⟩
              refine jb' (fun z4 => no (fun q => z4 ⟨by omega, fun i hi => q.2 i (by omega)⟩)) (fun z4 => jle (a := 2) (b := tx p - 48) (by decide) (by omega) (fun z5 => no (fun q => ?_)) (fun z5 => jle (a := 10) (b := p - s) (by decide) (by omega) (fun z6 => no (fun q => by omega)) (fun z6 => ?_)))
              · have := q.2 (p - s) (by omega)
                rw [show s + (p - s) = p by omega] at this
                omega
              · have hr := p5 z4
                subst hr
                have g := fin True (nI (rw_ tx s (p - s)) ||| (nI (tx p - 48) <<< (nI (p - s) &&& 31))) ⟨fun _ => ⟨by omega, fun i hi => ?_⟩, fun _ => trivial⟩ (fun _ => ?_)
                · rw [bI_t trivial] at g
                  exact ⟨rfl, rfl, br_f (by decide) g⟩
                · by_cases e : i = p - s
                  · rw [e, show s + (p - s) = p by omega]; omega
                  · exact z4.2 i (by omega)
                · rw [shl01 (by omega) (by omega), orI, en]
                  show _ = nI (rw_ tx s (p - s) ||| ((tx (s + (p - s)) - 48) * 2 ^ (p - s)))
                  rw [show s + (p - s) = p by omega]
            refine jle (a := 4) (b := p - s) (by decide) (by omega) (fun z4 => go _ ?_) (fun z4 => go _ ?_)
            · rw [show min (p + 1 - s) 4 = min (p - s) 4 by omega]
            · rw [show (10 : Int32) = nI 10 from rfl, pk_mul, nI_add, show min (p + 1 - s) 4 = (p - s) + 1 by omega, show min (p - s) 4 = p - s by omega]
              show _ = nI (10 * vl tx s (p - s) + (tx (s + (p - s)) - 48))
              rw [show s + (p - s) = p by omega]
      · have hk := kd_0 c2 z
        have e1 : eE sz tx s = rn sz tx 0 (sz - s) s := by
          unfold eE
          rw [if_pos c2, if_neg (by omega), hk, show sz - s = (sz - (s + 1)) + 1 by omega]
          show _ = if kd sz tx s = 0 then rn sz tx 0 (sz - (s + 1)) (s + 1) else s
          rw [if_pos hk]
        have fin : ∀ p t, p = eE sz tx s → t = (if p - s ≤ 9 then lN (cd tx s (p - s)) else -4) → B_Mo_nextToken_201 (nI sz) mt Q (nI p) (nI s) t 0 0 0 1 := by
          intro p t ep et
          subst ep
          show (nI (eE sz tx s) - nI s ≤ 9 → _) ∧ (¬ nI (eE sz tx s) - nI s ≤ 9 → _)
          rw [pk_sub hE.1]
          refine jle (a := eE sz tx s - s) (b := 9) (by omega) (by decide) (fun z3 => ?_) (fun z3 => ?_)
          · exact hQ _ _ _ _ _ (Or.inr (Or.inl ⟨hk, et⟩))
          · exact hQ _ _ _ _ _ (Or.inr (Or.inl ⟨hk, by rw [if_neg (by omega)]⟩))
        have hA := lpd (fun m f => ∀ p t, s ≤ p → p + f = sz → rn sz tx 0 f p = eE sz tx s → (∀ i, s ≤ i → i < p → 97 ≤ tx i ∧ tx i ≤ 122) → t = (if p - s ≤ 9 then lN (cd tx s (p - s)) else -4) → L_Mo_nextToken_111 (nI sz) mt Q m (nI p) (nI s) t 0 0 0 1) (sz - s) (fun m p t p1 p2 p3 p4 p5 => ?_) (fun m f hf ih p t p1 p2 p3 p4 p5 => ?_)
        · obtain ⟨m, hm⟩ := hA
          refine ⟨m, hm s 0 (Nat.le_refl _) (by omega) e1.symm (fun i a b => absurd b (by omega)) ?_⟩
          rw [Nat.sub_self, if_pos (by decide)]; rfl
        · exact jle (by omega) (by omega) (fun _ => fin p t p3 p5) (fun z => absurd z (by omega))
        · have p3' : (if kd sz tx p = 0 then rn sz tx 0 f (p + 1) else p) = eE sz tx s := p3
          have hvp := hT.2 p (by omega)
          refine jle (by omega) (by omega) (fun z => absurd z (by omega)) (fun _ => ⟨vpn (by omega) (by decide), ?_⟩)
          rw [clI (by omega), hvp.1]
          refine s_in_N (by omega) (lo := 97) (by decide) (hi := 122) (by decide) (jb' (fun z3 => ?_) (fun z3 => ?_))
          · rw [if_neg (fun q => z3 (kd0 q).2)] at p3'
            exact fin p t p3' p5
          · rw [if_pos (kd_0 (by omega) z3)] at p3'
            rw [pk_sub p1]
            have en : p + 1 - s = (p - s) + 1 := by omega
            have nx : ∀ t', t' = (if p + 1 - s ≤ 9 then lN (cd tx s (p + 1 - s)) else -4) → B_Mo_nextToken_185 (nI sz) mt Q (L_Mo_nextToken_111 (nI sz) mt Q m) t' (nI p) (nI s) t 0 0 0 1 := by
              intro t' et x ex
              rw [← nI_succ] at ex
              subst ex
              exact ih (p + 1) t' (by omega) (by omega) p3' (fun i a b => by
                by_cases e : i = p
                · rw [e]; exact z3
                · exact p4 i a (by omega)) et
            refine jle (a := 9) (b := p - s) (by decide) (by omega) (fun z4 => nx _ (by rw [if_neg (by omega)])) (fun z4 => ⟨vpn (by omega) (by decide), nx _ ?_⟩)
            rw [p5, if_pos (by omega), if_pos (by omega), en, show (27 : Int64) = lN 27 from rfl, lN_mul, nI_l (by omega), lN_add, show (96 : Int64) = lN 96 from rfl, lN_sub (by omega)]
            show _ = lN (27 * cd tx s (p - s) + (tx (s + (p - s)) - 96))
            rw [show s + (p - s) = p by omega, show 27 * cd tx s (p - s) + tx p - 96 = 27 * cd tx s (p - s) + (tx p - 96) by omega]
    · subst c
      have e1 : eE s tx s = s := by unfold eE; rw [if_neg (by omega)]
      rw [e1] at hQ
      exact hQ _ _ _ _ _ (Or.inl ⟨rfl, rfl⟩)
  have hA := lpd (fun m f => ∀ p, p + f = sz → (∀ tok dg nm rv ir, TokOK sz tx (sk sz tx f p) tok dg nm rv ir → Q (nI (eE sz tx (sk sz tx f p))) (nI (sk sz tx f p)) tok dg nm rv ir) → L_Mo_nextToken_0 (nI sz) mt Q m (nI p) ta tk d0 n0 r0 i0) (sz - e) (fun m p hp hq => ?_) (fun m f hf ih p hp hq => ?_)
  · obtain ⟨m, hm⟩ := hA
    exact ⟨m, hm e (by omega) h⟩
  · exact jle (by omega) (by omega) (fun _ => key p (by omega) hq) (fun z => absurd z (by omega))
  · have e2 : sk sz tx (f + 1) p = if tx p = 32 then sk sz tx f (p + 1) else p := rfl
    rw [e2] at hq
    have h3 := hT.2 p (by omega)
    refine jle (by omega) (by omega) (fun z => absurd z (by omega)) (fun _ => ⟨vpn (by omega) (by decide), ?_⟩)
    rw [clI (by omega), h3.1]
    refine jne (a := tx p) (b := 32) (by omega) (by decide) (fun z => ?_) (fun z => ?_)
    · rw [if_neg z] at hq
      exact key p (by omega) hq
    · rw [if_pos z] at hq
      intro x ex
      rw [← nI_succ] at ex
      subst ex
      exact ih (p + 1) (by omega) hq
/-- what the token says -/
theorem lN_ng {c : Nat} {x : Int64} (hc : c < 9223372036854775808) (hx : x.toInt < 0) : ¬ lN c = x := by
  intro h
  have h1 := pk_lT (n := c) hc
  rw [h] at h1
  omega
theorem cd_big {tx : Nat → Nat} {s m : Nat} (h : ∀ i, i < m → tx (s + i) ≤ 122) (hm : m ≤ 9) : cd tx s m < 9223372036854775808 :=
  Nat.lt_of_lt_of_le (cd_lt m h) (Nat.le_trans (Nat.pow_le_pow_right (by decide) hm) (by decide))
theorem tok_let {sz : Nat} {tx : Nat → Nat} {s : Nat} (hs : s ≤ sz) (h : kd sz tx s = 0) : ∀ i, i < eE sz tx s - s → 97 ≤ tx (s + i) ∧ tx (s + i) ≤ 122 := by
  intro i hi
  have hE := eE_le (tx := tx) hs
  have := hE.2.2.2 (by omega) (s + i) (by omega) (by omega)
  rw [h] at this
  exact (kd0 this).2
theorem tok_ng {sz : Nat} {tx : Nat → Nat} {s : Nat} {tok : Int64} {dg nm rv ir : Int32} (hs : s ≤ sz) (h : TokOK sz tx s tok dg nm rv ir) (hk : kd sz tx s = 0) (x : Int64) (hx : x.toInt < 0) (h4 : ¬ x = -4) : ¬ tok = x := by
  rcases h with ⟨h0, _⟩ | ⟨_, h0⟩ | ⟨h0, _⟩ | ⟨_, h0, _⟩
  · have := (kd0 hk).1; omega
  · rw [h0]
    by_cases c : eE sz tx s - s ≤ 9
    · rw [if_pos c]
      exact lN_ng (cd_big (fun i hi => (tok_let hs hk i hi).2) c) hx
    · rw [if_neg c]; exact fun q => h4 q.symm
  · omega
  · omega
theorem tok_num {sz : Nat} {tx : Nat → Nat} {s : Nat} {tok : Int64} {dg nm rv ir : Int32} (hs : s ≤ sz) (h : TokOK sz tx s tok dg nm rv ir) : tok = -1 ↔ kd sz tx s = 1 := by
  have h' := h
  rcases h with ⟨h0, h1⟩ | ⟨h0, h1⟩ | ⟨h0, h1, _⟩ | ⟨_, h0, h1⟩
  · rw [h1, kd_o (by omega)]; exact ⟨fun q => absurd q (by decide), fun q => absurd q (by decide)⟩
  · exact ⟨fun q => absurd q (tok_ng hs h' h0 _ (by decide) (by decide)), fun q => by omega⟩
  · exact ⟨fun _ => h0, fun _ => h1⟩
  · rw [h1, h0]
    constructor
    · intro q
      by_cases c : tx s = 59
      · rw [if_pos c] at q; exact absurd q (by decide)
      · rw [if_neg c] at q; exact absurd q (by decide)
    · intro q; exact absurd q (by decide)
theorem tok_end {sz : Nat} {tx : Nat → Nat} {s : Nat} {tok : Int64} {dg nm rv ir : Int32} (hs : s ≤ sz) (h : TokOK sz tx s tok dg nm rv ir) : tok = -2 ↔ s = sz := by
  have h' := h
  rcases h with ⟨h0, h1⟩ | ⟨h0, h1⟩ | ⟨h0, h1, _⟩ | ⟨h2, h0, h1⟩
  · exact ⟨fun _ => h0, fun _ => h1⟩
  · have := (kd0 h0).1
    exact ⟨fun q => absurd q (tok_ng hs h' h0 _ (by decide) (by decide)), fun q => by omega⟩
  · have := (kd1 h0).1
    rw [h1]
    exact ⟨fun q => absurd q (by decide), fun q => by omega⟩
  · rw [h1]
    constructor
    · intro q
      by_cases c : tx s = 59
      · rw [if_pos c] at q; exact absurd q (by decide)
      · rw [if_neg c] at q; exact absurd q (by decide)
    · intro q; omega
theorem tok_semi {sz : Nat} {tx : Nat → Nat} {s : Nat} {tok : Int64} {dg nm rv ir : Int32} (hs : s ≤ sz) (h : TokOK sz tx s tok dg nm rv ir) : tok = -3 ↔ (s < sz ∧ tx s = 59) := by
  have h' := h
  rcases h with ⟨h0, h1⟩ | ⟨h0, h1⟩ | ⟨h0, h1, _⟩ | ⟨h2, h0, h1⟩
  · rw [h1]; exact ⟨fun q => absurd q (by decide), fun q => by omega⟩
  · have := kd0 h0
    exact ⟨fun q => absurd q (tok_ng hs h' h0 _ (by decide) (by decide)), fun q => by omega⟩
  · have := kd1 h0
    rw [h1]
    exact ⟨fun q => absurd q (by decide), fun q => by omega⟩
  · rw [h1]
    constructor
    · intro q
      by_cases c : tx s = 59
      · exact ⟨h2, c⟩
      · rw [if_neg c] at q; exact absurd q (by decide)
    · intro q; rw [if_pos q.2]
def wcode : List Nat := [237307, 332864552, 70517, 60296, 230471582, 92275]
theorem wcode_cw : ∀ k, k < 6 → cw k (wln k) = wcode.getD k 0 := by decide
theorem wcode_lt : ∀ k, k < 6 → wcode.getD k 0 < 400000000 := by decide
theorem tok_word {sz : Nat} {tx : Nat → Nat} {s k : Nat} {tok : Int64} {dg nm rv ir : Int32} (hs : s ≤ sz) (hk : k < 6) (h : TokOK sz tx s tok dg nm rv ir) : tok = lN (wcode.getD k 0) ↔ wm tx k s (eE sz tx s) := by
  have hl := wl_len6 k hk
  have hE := eE_le (tx := tx) hs
  have hcl := wcode_lt k hk
  have ng : ∀ x : Int64, x.toInt < 0 → ¬ x = lN (wcode.getD k 0) := fun x hx q => lN_ng (by omega) hx q.symm
  have nw : kd sz tx s ≠ 0 → ¬ wm tx k s (eE sz tx s) := by
    intro hz q
    have h1 := q.2 0 (by omega)
    have h2 := wl_ch2 k hk 0 (by omega) (by omega)
    have h3 := q.1
    refine hz (kd_0 (by omega) ?_)
    rw [Nat.add_zero] at h1
    omega
  rcases h with ⟨h0, h1⟩ | ⟨h0, h1⟩ | ⟨h0, h1, _⟩ | ⟨h2, h0, h1⟩
  · rw [h1]
    exact ⟨fun q => absurd q (ng _ (by decide)), fun q => absurd q (nw (by rw [kd_o (by omega)]; decide))⟩
  · rw [h1]
    have hlet := tok_let hs h0
    by_cases c : eE sz tx s - s ≤ 9
    · rw [if_pos c]
      have hb := cd_big (fun i hi => (hlet i hi).2) c
      rw [pk_lEQ hb (by omega), ← wcode_cw k hk]
      exact cd_word hk (wln k) _ (Nat.le_refl _) hlet
    · rw [if_neg c]
      exact ⟨fun q => absurd q (ng _ (by decide)), fun q => by have := q.1; omega⟩
  · rw [h1]
    exact ⟨fun q => absurd q (ng _ (by decide)), fun q => absurd q (nw (by omega))⟩
  · rw [h1]
    refine ⟨fun q => ?_, fun q => absurd q (nw (by omega))⟩
    by_cases c : tx s = 59
    · rw [if_pos c] at q; exact absurd q (ng _ (by decide))
    · rw [if_neg c] at q; exact absurd q (ng _ (by decide))
