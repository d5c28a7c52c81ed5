/-! PURE 11: suits, turns -/
def sU (w : Nat → Nat) (n : Nat) (d y : Nat → Nat) (k t : Nat) : Nat := match lb w n d y k t with
  | none => 0
  | some b => sw w n (t ^^^ d b)
def sJ1 (w : Nat → Nat) (n : Nat) (d j y q : Nat → Nat) (k t a : Nat) : Int32 := if sw w n (t ^^^ a) < sU w n d y k t then encJ j q (lb w n d y k a) else encJ j q (lb w n d y k t)
def sU1 (w : Nat → Nat) (n : Nat) (d y : Nat → Nat) (k t a : Nat) : Nat := if sw w n (t ^^^ a) < sU w n d y k t then sw w n (t ^^^ a) else sU w n d y k t
def sJ2 (w : Nat → Nat) (n : Nat) (d j y q : Nat → Nat) (k t a b : Nat) : Int32 := if sw w n (t ^^^ b) < sU1 w n d y k t a then sJ1 w n d j y q k b a else sJ1 w n d j y q k t a
theorem sU_s {w : Nat → Nat} {n : Nat} {d y : Nat → Nat} {k t b : Nat} (hb : lb w n d y k t = some b) : sU w n d y k t = sw w n (t ^^^ d b) := by
  unfold sU
  rw [hb]
theorem sU_le {n k t : Nat} {w d y : Nat → Nat} (h : ∀ p, p < n → w p ≤ 9) : sU w n d y k t ≤ 9 * n := by
  unfold sU
  cases lb w n d y k t with
  | none => exact Nat.zero_le _
  | some b => exact sw_le h
theorem lb_ext {n k t a : Nat} {w d j y q : Nat → Nat} (hB : CB n k d j y q) {b : Nat} (hb : lb w n d y k t = some b) :
    lb w n (un d k a) (un y k 9999) (k + 1) t = if sw w n (t ^^^ a) < sU w n d y k t then some k else some b := by
  have hbi := (bst_in hb).1
  have hyb := (hB b hbi).2.2.1
  have e0 : bst (fun i => sw w n (t ^^^ un d k a i)) (eldB (un y k 9999)) (fun _ => true) k = some b := by
    rw [← hb]
    refine bst_cong (fun _ _ => rfl) (fun i hi => ?_) (fun i o hi ho => ?_)
    · show sw w n (t ^^^ un d k a i) = _
      rw [un_n _ (by omega)]
    · unfold eldB
      rw [un_n _ (show i ≠ k by omega), un_n _ (show o ≠ k by omega)]
  rw [sU_s hb]
  have eU : un d k a k = a := un_s _ _ _
  have eb : un d k a b = d b := un_n _ (by omega)
  by_cases c : sw w n (t ^^^ a) < sw w n (t ^^^ d b)
  · rw [if_pos c]
    refine bst_new rfl e0 (Or.inl ?_)
    show sw w n (t ^^^ un d k a k) < sw w n (t ^^^ un d k a b)
    rw [eU, eb]; exact c
  · rw [if_neg c]
    refine bst_old rfl e0 (fun z => ?_)
    rcases z with z | z
    · have z2 : sw w n (t ^^^ un d k a k) < sw w n (t ^^^ un d k a b) := z
      rw [eU, eb] at z2; exact c z2
    · have z2 := eldB_t.mp z.2
      rw [un_s, un_n _ (show b ≠ k by omega)] at z2
      rcases z2 with z2 | z2 <;> omega
theorem jd_ext {n k v b : Nat} {d j y q : Nat → Nat} (hb : b < k) : jd (un j k v) (un q k 0) b = jd j q b := by
  unfold jd
  rw [un_n _ (show b ≠ k by omega), un_n _ (show b ≠ k by omega)]
theorem J_ext {n k t a v : Nat} {w d j y q : Nat → Nat} (hk : 0 < k) (hB : CB n k d j y q) (hv : encJ j q (lb w n d y k a) = nI v) :
    encJ (un j k v) (un q k 0) (lb w n (un d k a) (un y k 9999) (k + 1) t) = sJ1 w n d j y q k t a := by
  obtain ⟨b, hb, hbk⟩ := lb_some (w := w) (n := n) (d := d) (y := y) (k := k) (a := t) hk
  rw [lb_ext hB hb]
  unfold sJ1
  by_cases c : sw w n (t ^^^ a) < sU w n d y k t
  · rw [if_pos c, if_pos c, hv]
    show nI (jd (un j k v) (un q k 0) k) = _
    unfold jd
    rw [un_s, un_s]; rfl
  · rw [if_neg c, if_neg c, hb]
    show nI (jd (un j k v) (un q k 0) b) = nI (jd j q b)
    rw [jd_ext (n := n) (d := d) (y := y) hbk]
theorem U_ext {n k t a : Nat} {w d j y q : Nat → Nat} (hk : 0 < k) (hB : CB n k d j y q) : sU w n (un d k a) (un y k 9999) (k + 1) t = sU1 w n d y k t a := by
  obtain ⟨b, hb, hbk⟩ := lb_some (w := w) (n := n) (d := d) (y := y) (k := k) (a := t) hk
  have h1 := lb_ext (a := a) hB hb
  unfold sU1
  by_cases c : sw w n (t ^^^ a) < sU w n d y k t
  · rw [if_pos c] at h1 ⊢
    rw [sU_s h1, un_s]
  · rw [if_neg c] at h1 ⊢
    rw [sU_s h1, un_n _ (show b ≠ k by omega), sU_s hb]
theorem J_ext2 {n k t a b v u : Nat} {w d j y q : Nat → Nat} (hk : 0 < k) (hB : CB n k d j y q) (ha : a < 2 ^ n) (hv3 : v ≤ 3) (hv : encJ j q (lb w n d y k a) = nI v) (hu : sJ1 w n d j y q k b a = nI u) :
    encJ (un (un j k v) (k + 1) u) (un (un q k 0) (k + 1) 0) (lb w n (un (un d k a) (k + 1) b) (un (un y k 9999) (k + 1) 9999) (k + 1 + 1) t) = sJ2 w n d j y q k t a b := by
  have hB1 : CB n (k + 1) (un d k a) (un j k v) (un y k 9999) (un q k 0) := CB_un hB ha hv3 (Nat.le_refl _)
  rw [J_ext (by omega) hB1 (by rw [J_ext hk hB hv]; exact hu)]
  unfold sJ2
  rw [← U_ext hk hB, ← J_ext (t := b) hk hB hv, ← J_ext (t := t) hk hB hv]
  rfl
theorem sJ1_val {n k t a : Nat} {w d j y q : Nat → Nat} (hk : 0 < k) (hB : CB n k d j y q) : ∃ v, v ≤ 3 ∧ sJ1 w n d j y q k t a = nI v := by
  unfold sJ1
  obtain ⟨b, hb, hbk⟩ := lb_some (w := w) (n := n) (d := d) (y := y) (k := k) (a := a) hk
  obtain ⟨c, hc, hck⟩ := lb_some (w := w) (n := n) (d := d) (y := y) (k := k) (a := t) hk
  by_cases z : sw w n (t ^^^ a) < sU w n d y k t
  · rw [if_pos z, hb]; exact ⟨_, jd_le hB hbk, rfl⟩
  · rw [if_neg z, hc]; exact ⟨_, jd_le hB hck, rfl⟩
/-- the class -/
theorem s_behind {n k t a : Nat} {w d j y q : Nat → Nat} {by_ jud each sums deeds fj years pard : Nat → Int32} {Q : Int32 → Prop} (hk : k ≤ 12) (hk0 : 0 < k) (hW : ScOK n w each sums) (hR : RlOK k d j y q deeds fj years pard) (hB : CB n k d j y q) (hJ : JdOK n (lb w n d y k) j q by_ jud) (ht : t < 2 ^ n) (ha : a < 2 ^ n)
    (h : Q (sJ1 w n d j y q k t a)) : P_Pleader_judgedBehind (nI t) (nI a) by_ jud (nI k) deeds sums Q := by
  have hn := hW.1
  have hw9 : ∀ p, p < n → w p ≤ 9 := fun p hp => (hW.2.1 p hp).2
  have s1 := sw_le (s := t ^^^ a) hw9
  have s2 := sU_le (d := d) (y := y) (k := k) (t := t) hw9
  obtain ⟨b, hb, hbk⟩ := lb_some (w := w) (n := n) (d := d) (y := y) (k := k) (a := t) hk0
  unfold sJ1 at h
  show P_Scale_together (nI t ^^^ nI a) sums _
  rw [xorI]
  refine s_together hW (xor_lt ht ha) (s_unlike hk hW ht hR hB hJ hb ?_)
  rw [← sU_s hb]
  refine jle (by omega) (by omega) (fun z => br_t rfl (s_cjudg hn hJ ht ?_)) (fun z => br_f (by decide) (s_cjudg hn hJ ha ?_))
  · rw [if_neg (by omega)] at h; exact h
  · rw [if_pos z] at h; exact h
theorem s_behindBoth {n k t a b : Nat} {w d j y q : Nat → Nat} {by_ jud each sums deeds fj years pard : Nat → Int32} {Q : Int32 → Prop} (hk : k ≤ 12) (hk0 : 0 < k) (hW : ScOK n w each sums) (hR : RlOK k d j y q deeds fj years pard) (hB : CB n k d j y q) (hJ : JdOK n (lb w n d y k) j q by_ jud) (ht : t < 2 ^ n) (ha : a < 2 ^ n) (hb2 : b < 2 ^ n)
    (h : Q (sJ2 w n d j y q k t a b)) : P_Pleader_judgedBehindBoth (nI t) (nI a) (nI b) by_ jud (nI k) deeds sums Q := by
  have hn := hW.1
  have hw9 : ∀ p, p < n → w p ≤ 9 := fun p hp => (hW.2.1 p hp).2
  have s1 := sw_le (s := t ^^^ a) hw9
  have s2 := sU_le (d := d) (y := y) (k := k) (t := t) hw9
  have s3 := sw_le (s := t ^^^ b) hw9
  obtain ⟨c, hc, hck⟩ := lb_some (w := w) (n := n) (d := d) (y := y) (k := k) (a := t) hk0
  unfold sJ2 at h
  refine s_unlike hk hW ht hR hB hJ hc ?_
  rw [← sU_s hc, xorI]
  refine s_together hW (xor_lt ht ha) ?_
  intro x4 e4
  have e5 : x4 = nI (sU1 w n d y k t a) := by
    rw [e4]
    unfold sU1
    by_cases z : sw w n (t ^^^ a) < sU w n d y k t
    · rw [if_pos z, if_pos ((nI_ltI (by omega) (by omega)).mpr z)]
    · rw [if_neg z, if_neg (fun q => z ((nI_ltI (by omega) (by omega)).mp q))]
  have s4 : sU1 w n d y k t a ≤ 9 * n := by
    unfold sU1
    split <;> omega
  rw [xorI]
  refine s_together hW (xor_lt ht hb2) ?_
  rw [e5]
  refine jle (by omega) (by omega) (fun z => br_t rfl (s_behind hk hk0 hW hR hB hJ ht ha ?_)) (fun z => br_f (by decide) (s_behind hk hk0 hW hR hB hJ hb2 ha ?_))
  · rw [if_neg (by omega)] at h; exact h
  · rw [if_pos z] at h; exact h
/-- the answer of suits -/
def SR (N : Nat) (p0 : Prop) (p1 : Nat → Prop) (p2 : Nat → Nat → Prop) (r : Int32) (a b : Nat) : Prop :=
  (r = 0 ∧ p0) ∨ (r = 1 ∧ ¬ p0 ∧ a < N ∧ p1 a ∧ ∀ a', a' < a → ¬ p1 a') ∨
  (r = 2 ∧ ¬ p0 ∧ (∀ a, a < N → ¬ p1 a) ∧ a < N ∧ b < N ∧ p2 a b ∧ (∀ a', a' < a → ∀ b', b' < N → ¬ p2 a' b') ∧ ∀ b', b' < b → ¬ p2 a b') ∨
  (r = -1 ∧ ¬ p0 ∧ (∀ a, a < N → ¬ p1 a) ∧ ∀ a, a < N → ∀ b, b < N → ¬ p2 a b)
theorem fst1 {p : Nat → Prop} {a b : Nat} (ha : p a) (hb : p b) (fa : ∀ c, c < a → ¬ p c) (fb : ∀ c, c < b → ¬ p c) : a = b := by
  rcases Nat.lt_trichotomy a b with z | z | z
  · exact absurd ha (fb a z)
  · exact z
  · exact absurd hb (fa b z)
theorem SR_det {N : Nat} {p0 : Prop} {p1 : Nat → Prop} {p2 : Nat → Nat → Prop} {r r' : Int32} {a b a' b' : Nat} (h : SR N p0 p1 p2 r a b) (h' : SR N p0 p1 p2 r' a' b') : r = r' ∧ (r = 1 → a = a') ∧ (r = 2 → a = a' ∧ b = b') := by
  have d01 : ¬ (0 : Int32) = 1 := by decide
  have d02 : ¬ (0 : Int32) = 2 := by decide
  have d12 : ¬ (1 : Int32) = 2 := by decide
  have d21 : ¬ (2 : Int32) = 1 := by decide
  have dm1 : ¬ (-1 : Int32) = 1 := by decide
  have dm2 : ¬ (-1 : Int32) = 2 := by decide
  rcases h with ⟨e, g⟩ | ⟨e, g, ga, gp, gf⟩ | ⟨e, g, g1, ga, gb, gp, gf, gl⟩ | ⟨e, g, g1, g2⟩ <;> rcases h' with ⟨e', f⟩ | ⟨e', f, fa, fp, ff⟩ | ⟨e', f, f1, fa, fb, fp, ff, fl⟩ | ⟨e', f, f1, f2⟩ <;> subst e <;> subst e'
  · exact ⟨rfl, fun z => absurd z d01, fun z => absurd z d02⟩
  · exact absurd g f
  · exact absurd g f
  · exact absurd g f
  · exact absurd f g
  · exact ⟨rfl, fun _ => fst1 gp fp gf ff, fun z => absurd z d12⟩
  · exact absurd gp (f1 a ga)
  · exact absurd gp (f1 a ga)
  · exact absurd f g
  · exact absurd fp (g1 a' fa)
  · refine ⟨rfl, fun z => absurd z d21, fun _ => ?_⟩
    have e : a = a' := fst1 (p := fun c => ∃ x, x < N ∧ p2 c x) ⟨b, gb, gp⟩ ⟨b', fb, fp⟩ (fun c hc ⟨x, hx, z⟩ => gf c hc x hx z) (fun c hc ⟨x, hx, z⟩ => ff c hc x hx z)
    subst e
    exact ⟨rfl, fst1 (p := p2 a) gp fp gl fl⟩
  · exact absurd gp (f2 a ga b gb)
  · exact absurd f g
  · exact absurd fp (g1 a' fa)
  · exact absurd fp (g2 a' fa b' fb)
  · exact ⟨rfl, fun z => absurd z dm1, fun z => absurd z dm2⟩
theorem s_fewest {n k t : Nat} {w d j y q : Nat → Nat} {x2 : Int32} {row by_ jud each sums deeds fj years pard : Nat → Int32} {Q : Int32 → (Nat → Int32) → Prop} (hk : k ≤ 12) (hk0 : 0 < k) (hW : ScOK n w each sums) (hR : RlOK k d j y q deeds fj years pard) (hB : CB n k d j y q) (hJ : JdOK n (lb w n d y k) j q by_ jud) (ht : t < 2 ^ n)
    (h : ∀ r a b row', SR (2 ^ n) (encJ j q (lb w n d y k t) = x2) (fun a => sJ1 w n d j y q k t a = x2) (fun a b => sJ2 w n d j y q k t a b = x2) r a b → (r = 1 → row' 0 = nI a) → (r = 2 → row' 0 = nI a ∧ row' 1 = nI b) → Q r row') :
    P_Pleader_fewestSuits (nI t) x2 (nI n) row by_ jud (nI k) deeds sums Q := by
  have hn := hW.1
  have h2 := pw10 hn
  have d01 : ¬ (0 : Int32) = 1 := by decide
  have d02 : ¬ (0 : Int32) = 2 := by decide
  have d12 : ¬ (1 : Int32) = 2 := by decide
  have d21 : ¬ (2 : Int32) = 1 := by decide
  have dm1 : ¬ (-1 : Int32) = 1 := by decide
  have dm2 : ¬ (-1 : Int32) = 2 := by decide
  refine s_cjudg hn hJ ht (br_n (fun h0 => ?_) (fun h0 => h 0 0 0 _ (Or.inl ⟨rfl, h0⟩) (fun z => absurd z d01) (fun z => absurd z d02)))
  refine lpi (fun m a => L_Pleader_fewestSuits_16 (nI t) x2 (nI n) by_ jud (nI k) deeds sums Q m (nI a) row) (fun a => ∀ a', a' < a → ¬ sJ1 w n d j y q k t a' = x2) 0 (2 ^ n) (Nat.zero_le _) (fun a ha => absurd ha (Nat.not_lt_zero a)) (fun m h1 => ?_) (fun m a _ ha hI ih => ?_)
  · show L_Pleader_fewestSuits_16 _ _ _ _ _ _ _ _ _ (m + 1) _ _
    rw [L_Pleader_fewestSuits_16]
    refine s_deedCount hn (jle (by omega) (by omega) (fun _ => ?_) (fun c => absurd c (by omega)))
    refine lpi (fun m a => L_Pleader_fewestSuits_54 (nI t) x2 (nI n) by_ jud (nI k) deeds sums Q m (nI a) row) (fun a => ∀ a', a' < a → ∀ b', b' < 2 ^ n → ¬ sJ2 w n d j y q k t a' b' = x2) 0 (2 ^ n) (Nat.zero_le _) (fun a ha => absurd ha (Nat.not_lt_zero a)) (fun m h2' => ?_) (fun m a _ ha hI ih => ?_)
    · show L_Pleader_fewestSuits_54 _ _ _ _ _ _ _ _ _ (m + 1) _ _
      rw [L_Pleader_fewestSuits_54]
      exact s_deedCount hn (jle (by omega) (by omega) (fun _ => h (-1) 0 0 _ (Or.inr (Or.inr (Or.inr ⟨rfl, h0, h1, h2'⟩))) (fun z => absurd z dm1) (fun z => absurd z dm2)) (fun c => absurd c (by omega)))
    · show L_Pleader_fewestSuits_54 _ _ _ _ _ _ _ _ _ (m + 1) _ _
      rw [L_Pleader_fewestSuits_54]
      refine s_deedCount hn (jle (by omega) (by omega) (fun c => absurd c (by omega)) (fun _ => ?_))
      refine lpi (fun m' b => L_Pleader_fewestSuits_68 (nI t) x2 (nI n) by_ jud (nI k) deeds sums Q (L_Pleader_fewestSuits_54 (nI t) x2 (nI n) by_ jud (nI k) deeds sums Q m) m' (nI a) (nI b) row) (fun b => ∀ b', b' < b → ¬ sJ2 w n d j y q k t a b' = x2) 0 (2 ^ n) (Nat.zero_le _) (fun a ha => absurd ha (Nat.not_lt_zero a)) (fun m' h3 => ?_) (fun m' b _ hb hI2 ih2 => ?_)
      · show L_Pleader_fewestSuits_68 _ _ _ _ _ _ _ _ _ _ (m' + 1) _ _ _
        rw [L_Pleader_fewestSuits_68]
        refine s_deedCount hn (jle (by omega) (by omega) (fun _ => ?_) (fun c => absurd c (by omega)))
        rw [← nI_succ]
        refine ih (fun a' ha' b' hb' => ?_)
        by_cases e : a' = a
        · subst e; exact h3 b' hb'
        · exact hI a' (by omega) b' hb'
      · show L_Pleader_fewestSuits_68 _ _ _ _ _ _ _ _ _ _ (m' + 1) _ _ _
        rw [L_Pleader_fewestSuits_68]
        refine s_deedCount hn (jle (by omega) (by omega) (fun c => absurd c (by omega)) (fun _ => s_behindBoth hk hk0 hW hR hB hJ ht ha hb (br_n (fun z => ?_) (fun z => ⟨vpn (i := 0) (n := 2) (by decide) (by decide), vpn (i := 1) (n := 2) (by decide) (by decide), ?_⟩))))
        · show L_Pleader_fewestSuits_68 _ _ _ _ _ _ _ _ _ _ _ _ (nI b + 1) _
          rw [← nI_succ]
          refine ih2 (fun b' hb' => ?_)
          by_cases e : b' = b
          · subst e; exact z
          · exact hI2 b' (by omega)
        · exact h 2 a b _ (Or.inr (Or.inr (Or.inl ⟨rfl, h0, h1, ha, hb, z, hI, hI2⟩))) (fun q => absurd q d21) (fun _ => ⟨rfl, rfl⟩)
  · show L_Pleader_fewestSuits_16 _ _ _ _ _ _ _ _ _ (m + 1) _ _
    rw [L_Pleader_fewestSuits_16]
    refine s_deedCount hn (jle (by omega) (by omega) (fun c => absurd c (by omega)) (fun _ => s_behind hk hk0 hW hR hB hJ ht ha (br_n (fun z => ?_) (fun z => ⟨vpn (i := 0) (n := 2) (by decide) (by decide), ?_⟩))))
    · show L_Pleader_fewestSuits_16 _ _ _ _ _ _ _ _ _ _ (nI a + 1) _
      rw [← nI_succ]
      refine ih (fun a' ha' => ?_)
      by_cases e : a' = a
      · subst e; exact z
      · exact hI a' (by omega)
    · exact h 1 a 0 _ (Or.inr (Or.inl ⟨rfl, h0, ha, z, hI⟩)) (fun _ => rfl) (fun q => absurd q d12)
/-- the model -/
theorem OnOK_old {k : Nat} {d j y q : Nat → Nat} {one o' : Nat → Int32} (h : OnOK k d j y q one) (e : ∀ i, i < 4 * k → o' i = one i) : OnOK k d j y q o' := by
  intro i hi
  rw [e _ (by omega), e _ (by omega), e _ (by omega), e _ (by omega)]
  exact h i hi
theorem s_try_M {n k a : Nat} {w d j y q : Nat → Nat} {one mw : Nat → Int32} {Q : Int32 → (Nat → Int32) → Prop} (hk : k < 14) (hk0 : 0 < k) (hn : n ≤ 10) (hMW : WtOK n w mw) (hO : OnOK k d j y q one) (hB : CB n k d j y q) (ha : a < 2 ^ n)
    (h : ∀ v o', v ≤ 3 → encJ j q (lb w n d y k a) = nI v → OnOK (k + 1) (un d k a) (un j k v) (un y k 9999) (un q k 0) o' → CB n (k + 1) (un d k a) (un j k v) (un y k 9999) (un q k 0) → (∀ i, i < 4 * k → o' i = one i) → Q (nI (k + 1)) o') :
    P_Mo_tryDeed (nI a) (nI n) (nI k) one mw Q := by
  refine s_judgmentAt_M (by omega) hn hMW ha hO hB ?_
  obtain ⟨b, hb, hbk⟩ := lb_some (w := w) (n := n) (d := d) (y := y) (k := k) (a := a) hk0
  have hj := jd_le hB hbk
  rw [hb]
  exact s_add_M (c := 9999) hk hO (fun o' ho e => h (jd j q b) o' hj (by rw [hb]; rfl) ho (CB_un hB ha hj (Nat.le_refl _)) e)
theorem s_suit_M {n k t : Nat} {w d j y q : Nat → Nat} {x2 s1 s2 : Int32} {one mw : Nat → Int32} {Q : Int32 → Int32 → Int32 → Int32 → (Nat → Int32) → Prop} (hk : k ≤ 12) (hk0 : 0 < k) (hn : n ≤ 10) (hMW : WtOK n w mw) (hO : OnOK k d j y q one) (hB : CB n k d j y q) (ht : t < 2 ^ n)
    (h : ∀ r a b t1 t2 o', SR (2 ^ n) (encJ j q (lb w n d y k t) = x2) (fun a => sJ1 w n d j y q k t a = x2) (fun a b => sJ2 w n d j y q k t a b = x2) r a b → (r = 1 → t1 = nI a) → (r = 2 → t1 = nI a ∧ t2 = nI b) → OnOK k d j y q o' → Q r (nI k) t1 t2 o') :
    P_Mo_suit (nI t) x2 (nI n) (nI k) s1 s2 one mw Q := by
  have h2 := pw10 hn
  have d01 : ¬ (0 : Int32) = 1 := by decide
  have d02 : ¬ (0 : Int32) = 2 := by decide
  have d12 : ¬ (1 : Int32) = 2 := by decide
  have d21 : ¬ (2 : Int32) = 1 := by decide
  have dm1 : ¬ (-1 : Int32) = 1 := by decide
  have dm2 : ¬ (-1 : Int32) = 2 := by decide
  refine s_judgmentAt_M (by omega) hn hMW ht hO hB (br_n (fun h0 => ?_) (fun h0 => h 0 0 0 _ _ _ (Or.inl ⟨rfl, h0⟩) (fun z => absurd z d01) (fun z => absurd z d02) hO))
  have l3 : ∀ o, OnOK k d j y q o → (∀ a, a < 2 ^ n → ¬ sJ1 w n d j y q k t a = x2) → (∀ a, a < 2 ^ n → ∀ b, b < 2 ^ n → ¬ sJ2 w n d j y q k t a b = x2) → L_Mo_suit_19 (nI t) x2 (nI n) mw Q 1 (nI k) 3 (nI k) s1 s2 o := by
    intro o ho h1 h2'
    exact br_t (by decide) (h (-1) 0 0 _ _ _ (Or.inr (Or.inr (Or.inr ⟨rfl, h0, h1, h2'⟩))) (fun z => absurd z dm1) (fun z => absurd z dm2) ho)
  have l2 : ∀ o, OnOK k d j y q o → (∀ a, a < 2 ^ n → ¬ sJ1 w n d j y q k t a = x2) → L_Mo_suit_19 (nI t) x2 (nI n) mw Q 2 (nI k) 2 (nI k) s1 s2 o := by
    intro o ho h1
    refine br_f (by decide) ?_
    generalize hN : L_Mo_suit_19 (nI t) x2 (nI n) mw Q 1 = N1
    rw [hN] at l3
    have hA := lpf (fun m a => ∀ o, OnOK k d j y q o → (∀ a', a' < a → ∀ b', b' < 2 ^ n → ¬ sJ2 w n d j y q k t a' b' = x2) → L_Mo_suit_28 (nI t) x2 (nI n) mw Q N1 m (nI k) 2 (nI a) (nI k) s1 s2 o) 0 (2 ^ n) (Nat.zero_le _) (fun m o ho hI => ?_) (fun m a _ ha ih o ho hI => ?_)
    · obtain ⟨m, hm⟩ := hA
      exact ⟨m, hm o ho (fun a ha => absurd ha (Nat.not_lt_zero a))⟩
    · rw [L_Mo_suit_28]
      exact s_deedMany_M hn (jle (by omega) (by omega) (fun _ => l3 o ho h1 hI) (fun c => absurd c (by omega)))
    · rw [L_Mo_suit_28]
      refine s_deedMany_M hn (jle (by omega) (by omega) (fun c => absurd c (by omega)) (fun _ => ?_))
      generalize hN2 : L_Mo_suit_28 (nI t) x2 (nI n) mw Q N1 m = N2
      rw [hN2] at ih
      have hA2 := lpf (fun m b => ∀ o, OnOK k d j y q o → (∀ b', b' < b → ¬ sJ2 w n d j y q k t a b' = x2) → L_Mo_suit_40 (nI t) x2 (nI n) mw Q N1 N2 m (nI k) 2 (nI a) (nI b) (nI k) s1 s2 o) 0 (2 ^ n) (Nat.zero_le _) (fun m o ho hI2 => ?_) (fun m b _ hb ih2 o ho hI2 => ?_)
      · obtain ⟨m, hm⟩ := hA2
        exact ⟨m, hm o ho (fun a ha => absurd ha (Nat.not_lt_zero a))⟩
      · refine br_nt (by decide) (s_deedMany_M hn (jle (by omega) (by omega) (fun _ => ?_) (fun c => absurd c (by omega))))
        rw [← nI_succ]
        refine ih o ho (fun a' ha' b' hb' => ?_)
        by_cases e : a' = a
        · subst e; exact hI2 b' hb'
        · exact hI a' (by omega) b' hb'
      · refine br_nt (by decide) (s_deedMany_M hn (jle (by omega) (by omega) (fun c => absurd c (by omega)) (fun _ => s_try_M (by omega) hk0 hn hMW ho hB ha (fun v o1 hv hv2 ho1 hB1 e1 => br_nf rfl ?_))))
        refine s_try_M (by omega) (by omega) hn hMW ho1 hB1 hb (fun u o2 hu hu2 ho2 hB2 e2 => ?_)
        rw [J_ext hk0 hB hv2] at hu2
        have ho3 : OnOK k d j y q o2 := OnOK_old ho (fun i hi => by rw [e2 i (by omega), e1 i hi])
        refine s_judgmentAt_M (by omega) hn hMW ht ho2 hB2 ?_
        rw [J_ext2 hk0 hB ha hv hv2 hu2]
        refine br_n (fun z => br_t rfl ?_) (fun z => br_f (by decide) ?_)
        · rw [← nI_succ]
          refine ih2 o2 ho3 (fun b' hb' => ?_)
          by_cases e : b' = b
          · subst e; exact z
          · exact hI2 b' (by omega)
        · exact h 2 a b _ _ _ (Or.inr (Or.inr (Or.inl ⟨rfl, h0, h1, ha, hb, z, hI, hI2⟩))) (fun q => absurd q d21) (fun _ => ⟨rfl, rfl⟩) ho3
  refine ⟨3, br_f (by decide) ?_⟩
  show ∃ m, L_Mo_suit_28 (nI t) x2 (nI n) mw Q (L_Mo_suit_19 (nI t) x2 (nI n) mw Q 2) m (nI k) 1 0 (nI k) s1 s2 one
  generalize hN : L_Mo_suit_19 (nI t) x2 (nI n) mw Q 2 = N1
  rw [hN] at l2
  have hA := lpf (fun m a => ∀ o, OnOK k d j y q o → (∀ a', a' < a → ¬ sJ1 w n d j y q k t a' = x2) → L_Mo_suit_28 (nI t) x2 (nI n) mw Q N1 m (nI k) 1 (nI a) (nI k) s1 s2 o) 0 (2 ^ n) (Nat.zero_le _) (fun m o ho hI => ?_) (fun m a _ ha ih o ho hI => ?_)
  · obtain ⟨m, hm⟩ := hA
    exact ⟨m, hm one hO (fun a ha => absurd ha (Nat.not_lt_zero a))⟩
  · rw [L_Mo_suit_28]
    exact s_deedMany_M hn (jle (by omega) (by omega) (fun _ => l2 o ho hI) (fun c => absurd c (by omega)))
  · rw [L_Mo_suit_28]
    refine s_deedMany_M hn (jle (by omega) (by omega) (fun c => absurd c (by omega)) (fun _ => ⟨2, ?_⟩))
    generalize hN2 : L_Mo_suit_28 (nI t) x2 (nI n) mw Q N1 m = N2
    rw [hN2] at ih
    refine br_nf rfl (br_f (by decide) (s_try_M (by omega) hk0 hn hMW ho hB ha (fun v o1 hv hv2 ho1 hB1 e1 => br_nt (by decide) ?_)))
    have ho3 : OnOK k d j y q o1 := OnOK_old ho e1
    refine s_judgmentAt_M (by omega) hn hMW ht ho1 hB1 ?_
    rw [J_ext hk0 hB hv2]
    refine br_n (fun z => br_t rfl (br_nf rfl (br_t (by decide) ?_))) (fun z => br_f (by decide) ?_)
    · rw [← nI_succ]
      refine ih o1 ho3 (fun a' ha' => ?_)
      by_cases e : a' = a
      · subst e; exact z
      · exact hI a' (by omega)
    · exact h 1 a 0 _ _ _ (Or.inr (Or.inl ⟨rfl, h0, ha, z, hI⟩)) (fun _ => rfl) (fun q => absurd q d12) ho3
theorem op_suits {n k : Nat} {w d j y q : Nat → Nat} {x1 x2 x3 aj s1 s2 : Int32} {row by_ jud each sums deeds elders fj years pard one mw : Nat → Int32} {K : Int32 → Int32 → (Nat → Int32) → (Nat → Int32) → (Nat → Int32) → Int32 → Int32 → Int32 → Int32 → (Nat → Int32) → Prop} (hk : k ≤ 12) (hW : ScOK n w each sums) (hMW : WtOK n w mw) (hR : RlOK k d j y q deeds fj years pard) (hE : ElOK k y elders) (hO : OnOK k d j y q one) (hB : CB n k d j y q) (hJ : JInv n (lb w n d y k) j q aj by_ jud)
    (h : ∀ r aj' b' j' row' t1 t2 o', JInv n (lb w n d y k) j q aj' b' j' → OnOK k d j y q o' → K r aj' b' j' row' r (nI k) t1 t2 o') :
    P_LC_suits x1 x2 x3 (nI n) aj by_ jud (nI k) row deeds elders fj pard sums (fun r aj' b' j' row' => P_Mo_suits x1 x2 x3 (nI n) (nI k) s1 s2 one mw (fun r' k' t1 t2 o' => K r aj' b' j' row' r' k' t1 t2 o')) := by
  have hn := hW.1
  have h2 := pw10 hn
  refine s_isDeed hn (jb' (fun hx => ?_) (fun hx => s_isJudgment (jb' (fun hy => ?_) (fun hy => br_c (fun hz => s_takesSuits hn hk (jb (fun ht => ?_) (fun ht => ?_))) (fun hz => ?_)))))
  · exact s_isDeed_M hn (jb' (fun _ => h _ _ _ _ _ _ _ _ hJ hO) (fun z => absurd z hx))
  · exact s_isDeed_M hn (jb' (fun z => absurd hx z) (fun _ => s_isJudgment_M (jb' (fun _ => h _ _ _ _ _ _ _ _ hJ hO) (fun z => absurd z hy))))
  · obtain ⟨t, htt, rfl⟩ := vp_in_of hx (by omega)
    refine s_judgeAll hk hW hR hB hE hJ (fun b' j' hJ' => s_fewest hk ht.2 hW hR hB hJ' htt (fun r a b row' hS g1 g2 => ?_))
    have hm : ∀ r1, (∀ r' a' b' t1 t2, SR (2 ^ n) (encJ j q (lb w n d y k t) = x2) (fun a => sJ1 w n d j y q k t a = x2) (fun a b => sJ2 w n d j y q k t a b = x2) r' a' b' → (r' = 1 → t1 = nI a') → (r' = 2 → t1 = nI a' ∧ t2 = nI b') → (x3 = -1 → r1 = r') ∧ (¬ x3 = -1 → x3 < r' → x3 = 0 → r1 = t1) ∧ (¬ x3 = -1 → x3 < r' → ¬ x3 = 0 → r1 = t2) ∧ (¬ x3 = -1 → ¬ x3 < r' → r1 = -1)) → P_Mo_suits (nI t) x2 x3 (nI n) (nI k) s1 s2 one mw (fun r' k' t1 t2 o' => K r1 1 b' j' row' r' k' t1 t2 o') := by
      intro r1 g
      refine s_isDeed_M hn (jb' (fun z => absurd hx z) (fun _ => s_isJudgment_M (jb' (fun z => absurd hy z) (fun _ => br_t hz (jlt (a := 6) (b := n) (by decide) (by omega) (fun z => absurd ht.1 (by omega)) (fun _ => jne (a := k) (b := 0) (by omega) (by decide) (fun _ => ?_) (fun z => absurd ht.2 (by omega))))))))
      refine s_suit_M hk ht.2 hn hMW hO hB htt (fun r' a' b'' t1 t2 o' hS' g1' g2' ho' => ?_)
      obtain ⟨q1, q2, q3, q4⟩ := g r' a' b'' t1 t2 hS' g1' g2'
      have fin := fun v => h v 1 b' j' row' t1 t2 o' (Or.inr ⟨rfl, hJ'⟩) ho'
      refine br_n (fun z => br_c (fun z2 => br_n (fun z3 => ?_) (fun z3 => ?_)) (fun z2 => ?_)) (fun z => ?_)
      · show K r1 1 b' j' row' t2 (nI k) t1 t2 o'
        rw [q3 z z2 z3]; exact fin _
      · show K r1 1 b' j' row' t1 (nI k) t1 t2 o'
        rw [q2 z z2 z3]; exact fin _
      · show K r1 1 b' j' row' (-1) (nI k) t1 t2 o'
        rw [q4 z z2]; exact fin _
      · show K r1 1 b' j' row' r' (nI k) t1 t2 o'
        rw [q1 z]; exact fin _
    have r4 : r = 0 ∨ r = 1 ∨ r = 2 ∨ r = -1 := by
      rcases hS with z | z | z | z
      · exact Or.inl z.1
      · exact Or.inr (Or.inl z.1)
      · exact Or.inr (Or.inr (Or.inl z.1))
      · exact Or.inr (Or.inr (Or.inr z.1))
    refine br_n (fun z => br_c (fun z2 => ?_) (fun z2 => ?_)) (fun z => ?_)
    · refine hm _ (fun r' a' b'' t1 t2 hS' _ _ => ?_)
      obtain ⟨e, _, _⟩ := SR_det hS hS'
      subst e
      exact ⟨fun q => absurd q z, fun _ q _ => absurd z2 (Int32.not_le.mpr q), fun _ q _ => absurd z2 (Int32.not_le.mpr q), fun _ _ => rfl⟩
    · have hx0 : ¬ x3 < 0 := by
        intro q
        have q2 : (-1 : Int32).toInt ≤ x3.toInt := Int32.le_iff_toInt_le.mp hz
        have q3 : x3.toInt < (0 : Int32).toInt := Int32.lt_iff_toInt_lt.mp q
        have q4 : (-1 : Int32).toInt = -1 := rfl
        have q5 : (0 : Int32).toInt = 0 := rfl
        refine z (Int32.toInt_inj.mp ?_)
        omega
      obtain ⟨c, hc, rfl⟩ := nI_of hx0
      have hc2 : (r = 1 ∧ c = 0) ∨ (r = 2 ∧ c = 0) ∨ (r = 2 ∧ c = 1) := by
        rcases r4 with e | e | e | e
        · subst e; exact absurd (nI_pos' hc) z2
        · subst e
          have : ¬ 1 ≤ c := fun q => z2 (nI_le (a := 1) (b := c) q hc)
          exact Or.inl ⟨rfl, by omega⟩
        · subst e
          have : ¬ 2 ≤ c := fun q => z2 (nI_le (a := 2) (b := c) q hc)
          rcases (show c = 0 ∨ c = 1 by omega) with e | e
          · exact Or.inr (Or.inl ⟨rfl, e⟩)
          · exact Or.inr (Or.inr ⟨rfl, e⟩)
        · subst e; exact absurd (Int32.le_trans (by decide) (nI_pos' hc)) z2
      refine jneg hc (jle (a := 2) (b := c) (by decide) hc (fun q => absurd q (by omega)) (fun _ => ⟨vpn (by omega) (by decide), ?_⟩))
      rw [clI hc]
      refine hm _ (fun r' a' b'' t1 t2 hS' g1' g2' => ?_)
      obtain ⟨e, e1, e2⟩ := SR_det hS hS'
      subst e
      refine ⟨fun q => absurd q z, fun _ _ q => ?_, fun _ _ q => ?_, fun _ q => absurd (Int32.not_le.mp z2) q⟩
      · have c0 : c = 0 := (nI_eq (b := 0) hc (by decide)).mp q
        subst c0
        rcases hc2 with ⟨f, _⟩ | ⟨f, _⟩ | ⟨f, f2⟩
        · rw [g1 f, g1' f, e1 f]
        · rw [(g2 f).1, (g2' f).1, (e2 f).1]
        · cases f2
      · rcases hc2 with ⟨f, f2⟩ | ⟨f, f2⟩ | ⟨f, f2⟩
        · subst f2; exact absurd rfl q
        · subst f2; exact absurd rfl q
        · subst f2
          rw [(g2 f).2, (g2' f).2, (e2 f).2]
    · refine hm _ (fun r' a' b'' t1 t2 hS' _ _ => ?_)
      obtain ⟨e, _, _⟩ := SR_det hS hS'
      subst e
      exact ⟨fun _ => rfl, fun q => absurd z q, fun q => absurd z q, fun q => absurd z q⟩
  · refine s_isDeed_M hn (jb' (fun z => absurd hx z) (fun _ => s_isJudgment_M (jb' (fun z => absurd hy z) (fun _ => br_t hz (jlt (a := 6) (b := n) (by decide) (by omega) (fun _ => h _ _ _ _ _ _ _ _ hJ hO) (fun z => jne (a := k) (b := 0) (by omega) (by decide) (fun z2 => absurd ⟨z, by omega⟩ ht) (fun _ => h _ _ _ _ _ _ _ _ hJ hO)))))))
  · exact s_isDeed_M hn (jb' (fun z => absurd hx z) (fun _ => s_isJudgment_M (jb' (fun z => absurd hy z) (fun _ => br_f hz (h _ _ _ _ _ _ _ _ hJ hO)))))
/-- turns -/
def tP (N : Nat) (x2 : Int32) (f1 : Nat → Int32) (f2 : Nat → Nat → Int32) (a : Nat) : Prop := f1 a = x2 ∧ ∀ b, b < N → f2 a b = x2
theorem s_safeDeed {n k t : Nat} {w d j y q : Nat → Nat} {x2 : Int32} {by_ jud each sums deeds fj years pard : Nat → Int32} {Q : Int32 → Prop} (hk : k ≤ 12) (hk0 : 0 < k) (hW : ScOK n w each sums) (hR : RlOK k d j y q deeds fj years pard) (hB : CB n k d j y q) (hJ : JdOK n (lb w n d y k) j q by_ jud) (ht : t < 2 ^ n)
    (h0 : (∀ a, a < 2 ^ n → ¬ tP (2 ^ n) x2 (sJ1 w n d j y q k t) (sJ2 w n d j y q k t) a) → Q (-1))
    (h1 : ∀ a, a < 2 ^ n → tP (2 ^ n) x2 (sJ1 w n d j y q k t) (sJ2 w n d j y q k t) a → (∀ a', a' < a → ¬ tP (2 ^ n) x2 (sJ1 w n d j y q k t) (sJ2 w n d j y q k t) a') → Q (nI a)) :
    P_Pleader_safeDeed (nI t) x2 (nI n) by_ jud (nI k) deeds sums Q := by
  have hn := hW.1
  have h2 := pw10 hn
  refine lpi (fun m a => L_Pleader_safeDeed_2 (nI t) x2 (nI n) by_ jud (nI k) deeds sums Q m (nI a)) (fun a => ∀ a', a' < a → ¬ tP (2 ^ n) x2 (sJ1 w n d j y q k t) (sJ2 w n d j y q k t) a') 0 (2 ^ n) (Nat.zero_le _) (fun a ha => absurd ha (Nat.not_lt_zero a)) (fun m hI => ?_) (fun m a _ ha hI ih => ?_)
  · show L_Pleader_safeDeed_2 _ _ _ _ _ _ _ _ _ (m + 1) _
    rw [L_Pleader_safeDeed_2]
    exact s_deedCount hn (jle (by omega) (by omega) (fun _ => h0 hI) (fun c => absurd c (by omega)))
  · show L_Pleader_safeDeed_2 _ _ _ _ _ _ _ _ _ (m + 1) _
    rw [L_Pleader_safeDeed_2]
    have go : ¬ tP (2 ^ n) x2 (sJ1 w n d j y q k t) (sJ2 w n d j y q k t) a → L_Pleader_safeDeed_2 (nI t) x2 (nI n) by_ jud (nI k) deeds sums Q m (nI a + 1) := by
      intro z
      rw [← nI_succ]
      refine ih (fun a' ha' => ?_)
      by_cases e : a' = a
      · subst e; exact z
      · exact hI a' (by omega)
    refine s_deedCount hn (jle (by omega) (by omega) (fun c => absurd c (by omega)) (fun _ => s_behind hk hk0 hW hR hB hJ ht ha (br_n (fun z => go (fun q => z q.1)) (fun z => ?_))))
    generalize hQ2 : (fun r_3 : Int32 => (r_3 = 0 → B_Pleader_safeDeed_35 (nI t) x2 (nI n) by_ jud (nI k) deeds sums Q (L_Pleader_safeDeed_2 (nI t) x2 (nI n) by_ jud (nI k) deeds sums Q m) (nI a)) ∧ (¬ r_3 = 0 → Q (nI a))) = Q2
    refine lpi (fun m' b => L_Pleader_isSafe_3 (nI t) (nI a) x2 (nI n) by_ jud (nI k) deeds sums Q2 m' (nI b)) (fun b => ∀ b', b' < b → sJ2 w n d j y q k t a b' = x2) 0 (2 ^ n) (Nat.zero_le _) (fun a ha => absurd ha (Nat.not_lt_zero a)) (fun m' hI2 => ?_) (fun m' b _ hb hI2 ih2 => ?_)
    · show L_Pleader_isSafe_3 _ _ _ _ _ _ _ _ _ _ (m' + 1) _
      rw [L_Pleader_isSafe_3]
      refine s_deedCount hn (jle (by omega) (by omega) (fun _ => ?_) (fun c => absurd c (by omega)))
      rw [← hQ2]
      exact br_f (by decide) (h1 a ha ⟨z, hI2⟩ hI)
    · show L_Pleader_isSafe_3 _ _ _ _ _ _ _ _ _ _ (m' + 1) _
      rw [L_Pleader_isSafe_3]
      refine s_deedCount hn (jle (by omega) (by omega) (fun c => absurd c (by omega)) (fun _ => s_behindBoth hk hk0 hW hR hB hJ ht ha hb (br_c (fun z2 => ?_) (fun z2 => ?_))))
      · rw [← nI_succ]
        refine ih2 (fun b' hb' => ?_)
        by_cases e : b' = b
        · subst e; exact z2
        · exact hI2 b' (by omega)
      · rw [← hQ2]
        exact br_t rfl (go (fun q => z2 (q.2 b hb)))
theorem s_doesTurn_M {n k t a : Nat} {w d j y q : Nat → Nat} {x2 : Int32} {one mw : Nat → Int32} {Q : Int32 → Int32 → (Nat → Int32) → Prop} (hk : k ≤ 12) (hk0 : 0 < k) (hn : n ≤ 10) (hMW : WtOK n w mw) (hO : OnOK k d j y q one) (hB : CB n k d j y q) (ht : t < 2 ^ n) (ha : a < 2 ^ n)
    (h : ∀ o', OnOK k d j y q o' → Q (bI (tP (2 ^ n) x2 (sJ1 w n d j y q k t) (sJ2 w n d j y q k t) a)) (nI k) o') : P_Mo_doesTurn (nI t) x2 (nI a) (nI n) (nI k) one mw Q := by
  have h2 := pw10 hn
  have h1 := pw1 n
  refine s_try_M (by omega) hk0 hn hMW hO hB ha (fun v o1 hv hv2 ho1 hB1 e1 => s_judgmentAt_M (by omega) hn hMW ht ho1 hB1 ?_)
  rw [J_ext hk0 hB hv2]
  have hout : ∀ (c : Prop) o, OnOK k d j y q o → (c ↔ tP (2 ^ n) x2 (sJ1 w n d j y q k t) (sJ2 w n d j y q k t) a) → B_Mo_doesTurn_82 (nI t) x2 (nI a) (nI n) mw Q (nI k) (bI c) (nI (k + 1)) o := by
    intro c o ho hc
    rw [bI_c hc]
    exact ⟨bI_nar _, h o ho⟩
  have key : B_Mo_doesTurn_25 (nI t) x2 (nI a) (nI n) mw Q (nI k) (bI (sJ1 w n d j y q k t a = x2)) (nI (k + 1)) o1 := by
    have hA := lpf (fun m b => ∀ o, OnOK k d j y q o → OnOK (k + 1) (un d k a) (un j k v) (un y k 9999) (un q k 0) o → L_Mo_doesTurn_30 (nI t) x2 (nI a) (nI n) mw Q m (nI k) (bI (sJ1 w n d j y q k t a = x2 ∧ ∀ b', b' < b → sJ2 w n d j y q k t a b' = x2)) (nI b) (nI (k + 1)) o) 0 (2 ^ n) (Nat.zero_le _) (fun m o ho ho1 => ?_) (fun m b _ hb ih o ho ho1 => ?_)
    · obtain ⟨m, hm⟩ := hA
      have h0 := hm o1 (OnOK_old hO e1) ho1
      rw [bI_c (d := sJ1 w n d j y q k t a = x2) ⟨fun z => z.1, fun z => ⟨z, fun b' hb' => absurd hb' (Nat.not_lt_zero b')⟩⟩] at h0
      exact ⟨m, h0⟩
    · rw [L_Mo_doesTurn_30]
      exact s_deedMany_M hn (jle (by omega) (by omega) (fun _ => hout _ o ho Iff.rfl) (fun c => absurd c (by omega)))
    · rw [L_Mo_doesTurn_30]
      refine s_deedMany_M hn (jle (by omega) (by omega) (fun c => absurd c (by omega)) (fun _ => jb' (fun z => hout _ o ho ⟨fun q => absurd q z, fun q => absurd ⟨q.1, fun b' hb' => q.2 b' (by omega)⟩ z⟩) (fun z => ?_)))
      refine s_try_M (by omega) (by omega) hn hMW ho1 hB1 hb (fun u o2 hu hu2 ho2 hB2 e2 => s_judgmentAt_M (by omega) hn hMW ht ho2 hB2 ?_)
      rw [J_ext hk0 hB hv2] at hu2
      rw [J_ext2 hk0 hB ha hv hv2 hu2]
      have ho3 : OnOK k d j y q o2 := OnOK_old ho (fun i hi => e2 i (by omega))
      have ho4 : OnOK (k + 1) (un d k a) (un j k v) (un y k 9999) (un q k 0) o2 := OnOK_old ho1 e2
      have go : ∀ c : Prop, (c ↔ sJ2 w n d j y q k t a b = x2) → B_Mo_doesTurn_64 (nI t) x2 (nI a) (nI n) mw Q (L_Mo_doesTurn_30 (nI t) x2 (nI a) (nI n) mw Q m) (nI k) (nI b) (bI c) (nI (k + 1 + 1)) o2 := by
        intro c hc x ex
        rw [show (1 : Int32) = nI 1 from rfl, pk_sub (by omega)] at ex
        subst ex
        rw [← nI_succ]
        have h0 := ih o2 ho3 ho4
        have hi : (sJ1 w n d j y q k t a = x2 ∧ ∀ b', b' < b + 1 → sJ2 w n d j y q k t a b' = x2) ↔ c := by
          refine ⟨fun q => hc.mpr (q.2 b (by omega)), fun q => ⟨z.1, fun b' hb' => ?_⟩⟩
          by_cases e : b' = b
          · subst e; exact hc.mp q
          · exact z.2 b' (by omega)
        rw [bI_c hi] at h0
        exact h0
      refine br_n (fun z2 => ?_) (fun z2 => ?_)
      · have g := go False ⟨fun q => q.elim, fun q => absurd q z2⟩
        rw [bI_f (fun q => q)] at g
        exact g
      · have g := go True ⟨fun _ => z2, fun _ => trivial⟩
        rw [bI_t trivial] at g
        exact g
  refine br_n (fun z => ?_) (fun z => ?_)
  · rw [bI_f z] at key; exact key
  · rw [bI_t z] at key; exact key
theorem op_turns {n k : Nat} {w d j y q : Nat → Nat} {x1 x2 aj : Int32} {by_ jud each sums deeds elders fj years pard one mw : Nat → Int32} {K : Int32 → Int32 → (Nat → Int32) → (Nat → Int32) → Int32 → Int32 → (Nat → Int32) → Prop} (hk : k ≤ 12) (hW : ScOK n w each sums) (hMW : WtOK n w mw) (hR : RlOK k d j y q deeds fj years pard) (hE : ElOK k y elders) (hO : OnOK k d j y q one) (hB : CB n k d j y q) (hJ : JInv n (lb w n d y k) j q aj by_ jud)
    (h : ∀ r aj' b' j' o', JInv n (lb w n d y k) j q aj' b' j' → OnOK k d j y q o' → K r aj' b' j' r (nI k) o') :
    P_LC_turns x1 x2 (nI n) aj by_ jud (nI k) deeds elders fj pard sums (fun r aj' b' j' => P_Mo_turns x1 x2 (nI n) (nI k) one mw (fun r' k' o' => K r aj' b' j' r' k' o')) := by
  have hn := hW.1
  have h2 := pw10 hn
  refine s_isDeed hn (jb' (fun hx => ?_) (fun hx => s_isJudgment (jb (fun hy => s_takesSuits hn hk (jb (fun ht => ?_) (fun ht => ?_))) (fun hy => ?_))))
  · exact s_isDeed_M hn (jb' (fun _ => h _ _ _ _ _ hJ hO) (fun z => absurd z hx))
  · obtain ⟨t, htt, rfl⟩ := vp_in_of hx (by omega)
    refine s_judgeAll hk hW hR hB hE hJ (fun b' j' hJ' => ?_)
    have hm : ∀ r, ((∀ a, a < 2 ^ n → ¬ tP (2 ^ n) x2 (sJ1 w n d j y q k t) (sJ2 w n d j y q k t) a) → r = -1) → (∀ a, a < 2 ^ n → tP (2 ^ n) x2 (sJ1 w n d j y q k t) (sJ2 w n d j y q k t) a → (∀ a', a' < a → ¬ tP (2 ^ n) x2 (sJ1 w n d j y q k t) (sJ2 w n d j y q k t) a') → r = nI a) → P_Mo_turns (nI t) x2 (nI n) (nI k) one mw (fun r' k' o' => K r 1 b' j' r' k' o') := by
      intro r g0 g1
      refine s_isDeed_M hn (jb' (fun z => absurd hx z) (fun _ => s_isJudgment_M (jb (fun _ => jlt (a := 6) (b := n) (by decide) (by omega) (fun z => absurd ht.1 (by omega)) (fun _ => jne (a := k) (b := 0) (by omega) (by decide) (fun _ => ?_) (fun z => absurd ht.2 (by omega)))) (fun z => absurd hy z))))
      have hA := lpf (fun m a => ∀ o, OnOK k d j y q o → (∀ a', a' < a → ¬ tP (2 ^ n) x2 (sJ1 w n d j y q k t) (sJ2 w n d j y q k t) a') → L_Mo_turns_39 (nI t) x2 (nI n) mw (fun r' k' o' => K r 1 b' j' r' k' o') m (nI a) (nI k) o) 0 (2 ^ n) (Nat.zero_le _) (fun m o ho hI => ?_) (fun m a _ ha ih o ho hI => ?_)
      · obtain ⟨m, hm⟩ := hA
        exact ⟨m, hm _ hO (fun a ha => absurd ha (Nat.not_lt_zero a))⟩
      · rw [L_Mo_turns_39]
        refine s_deedMany_M hn (jle (by omega) (by omega) (fun _ => ?_) (fun c => absurd c (by omega)))
        rw [g0 hI]; exact h _ _ _ _ _ (Or.inr ⟨rfl, hJ'⟩) ho
      · rw [L_Mo_turns_39]
        refine s_deedMany_M hn (jle (by omega) (by omega) (fun c => absurd c (by omega)) (fun _ => s_doesTurn_M hk ht.2 hn hMW ho hB htt ha (fun o' ho' => jb' (fun z => ?_) (fun z => ?_))))
        · rw [← nI_succ]
          refine ih o' ho' (fun a' ha' => ?_)
          by_cases e : a' = a
          · subst e; exact z
          · exact hI a' (by omega)
        · rw [g1 a ha z hI]; exact h _ _ _ _ _ (Or.inr ⟨rfl, hJ'⟩) ho'
    refine s_safeDeed hk ht.2 hW hR hB hJ' htt (fun z => hm _ (fun _ => rfl) (fun a ha p _ => absurd p (z a ha))) (fun a ha p f => hm _ (fun z => absurd p (z a ha)) (fun a' ha' p' f' => ?_))
    rw [fst1 p p' f f']
  · refine s_isDeed_M hn (jb' (fun z => absurd hx z) (fun _ => s_isJudgment_M (jb (fun _ => jlt (a := 6) (b := n) (by decide) (by omega) (fun _ => h _ _ _ _ _ hJ hO) (fun z => jne (a := k) (b := 0) (by omega) (by decide) (fun z2 => absurd ⟨z, by omega⟩ ht) (fun _ => h _ _ _ _ _ hJ hO))) (fun z => absurd hy z))))
  · exact s_isDeed_M hn (jb' (fun z => absurd hx z) (fun _ => s_isJudgment_M (jb (fun z => absurd z hy) (fun _ => h _ _ _ _ _ hJ hO))))
