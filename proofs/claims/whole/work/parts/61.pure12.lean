/-! PURE 12: keep, cleaned -/
theorem lpd (W : Nat → Nat → Prop) (s0 : Nat) (h0 : ∀ n, W (n + 1) 0) (hs : ∀ n s, s < s0 → W n s → W (n + 1) (s + 1)) : ∃ n, W n s0 := by
  have key : ∀ s, s ≤ s0 → W (s + 1) s := by
    intro s
    induction s with
    | zero => intro _; exact h0 0
    | succ s ih => intro hk; exact hs (s + 1) s (by omega) (ih (by omega))
  exact ⟨_, key s0 (Nat.le_refl _)⟩
theorem nI_dec (s : Nat) : nI (s + 1) + (-1) = nI s := by
  apply Int32.toBitVec_inj.mp
  rw [Int32.toBitVec_add, nI_bv, nI_bv]
  apply BitVec.eq_of_toNat_eq
  rw [BitVec.toNat_add, BitVec.toNat_ofNat, BitVec.toNat_ofNat, show (-1 : Int32).toBitVec.toNat = 4294967295 from rfl]
  omega
def Lst (N : Nat) (good : Nat → Prop) (R : Nat) : Prop := R ≤ N ∧ good R ∧ ∀ T, T ≤ N → good T → bc R < bc T ∨ (bc R = bc T ∧ R ≤ T)
theorem Lst_det {N : Nat} {g : Nat → Prop} {R S : Nat} (h : Lst N g R) (h' : Lst N g S) : R = S := by
  have h1 := h.2.2 S h'.1 h'.2.1
  have h2 := h'.2.2 R h.1 h.2.1
  omega
set_option maxRecDepth 100000 in
theorem bc_full_all : (List.range 11).all (fun k => decide (bc (2 ^ k - 1) = k)) = true := by decide +kernel
set_option maxRecDepth 100000 in
theorem bc_less_all : (List.range 11).all (fun k => (List.range (2 ^ k - 1)).all (fun t => decide (bc t < k))) = true := by decide +kernel
theorem bc_full {k : Nat} (hk : k ≤ 10) : bc (2 ^ k - 1) = k := of_decide_eq_true (List.all_eq_true.mp bc_full_all k (List.mem_range.mpr (by omega)))
theorem bc_less {k t : Nat} (hk : k ≤ 10) (ht : t < 2 ^ k - 1) : bc t < k := of_decide_eq_true (List.all_eq_true.mp (List.all_eq_true.mp bc_less_all k (List.mem_range.mpr (by omega))) t (List.mem_range.mpr ht))
theorem bc_le (s : Nat) : bc s ≤ 14 := ct_le _ _
/-- all deeds judged alike by the set S -/
def alk (w : Nat → Nat) (n : Nat) (d j y q : Nat → Nat) (k S : Nat) : Prop := ∀ a, a < 2 ^ n → encJ j q (bst (fun i => sw w n (a ^^^ d i)) (eldB y) (fun i => S.testBit i) k) = encJ j q (lb w n d y k a)
theorem alk_all {w : Nat → Nat} {n : Nat} {d j y q : Nat → Nat} {k : Nat} : alk w n d j y q k (2 ^ k - 1) := fun a _ => by rw [lb_all]
theorem bst_empty {U : Nat → Nat} {E : Nat → Nat → Bool} {S : Nat → Bool} {k : Nat} (h : ∀ i, i < k → S i = false) : bst U E S k = none := by
  cases hb : bst U E S k with
  | none => rfl
  | some b => have h1 := bst_in hb; rw [h b h1.1] at h1; exact absurd h1.2 (by decide)
theorem alk_zero {w : Nat → Nat} {n : Nat} {d j y q : Nat → Nat} {k : Nat} (hB : CB n k d j y q) (hk : 0 < k) : ¬ alk w n d j y q k 0 := by
  intro h
  have h1 := h 0 (pw1 n)
  rw [bst_empty (fun i _ => Nat.zero_testBit i)] at h1
  obtain ⟨b, hb, hbk⟩ := lb_some (w := w) (n := n) (d := d) (y := y) (k := k) (a := 0) hk
  rw [hb] at h1
  have h2 := jd_le hB hbk
  exact nI_m1 (by omega) h1.symm
theorem wrap {N wt a : Nat} (hN : 0 < N) (ha : a < N) : ∃ i, i < N ∧ (wt + i) % N = a := by
  have h1 := Nat.div_add_mod wt N
  have h2 := Nat.mod_lt wt hN
  by_cases c : wt % N ≤ a
  · refine ⟨a - wt % N, by omega, ?_⟩
    rw [show wt + (a - wt % N) = N * (wt / N) + a by omega, Nat.mul_add_mod, Nat.mod_eq_of_lt ha]
  · refine ⟨a + N - wt % N, by omega, ?_⟩
    rw [show wt + (a + N - wt % N) = N * (wt / N) + (N + a) by omega, Nat.mul_add_mod, Nat.add_mod_left, Nat.mod_eq_of_lt ha]
theorem s_judgesAlike {n k S wt : Nat} {w d j y q : Nat → Nat} {by_ jud each sums deeds elders fj years pard : Nat → Int32} {Q : Int32 → Int32 → Prop} (hk : k ≤ 12) (hS : S < 2147483648) (hwt : wt < 1024) (hW : ScOK n w each sums) (hR : RlOK k d j y q deeds fj years pard) (hE : ElOK k y elders) (hB : CB n k d j y q) (hJ : JdOK n (lb w n d y k) j q by_ jud)
    (h : ∀ wt', wt' < 1024 → Q (bI (alk w n d j y q k S)) (nI wt')) : P_Keeper_judgesAlike (nI S) (nI wt) (nI n) jud (nI k) deeds elders fj pard sums Q := by
  have hn := hW.1
  have h2 := pw10 hn
  have h1 := pw1 n
  refine s_deedCount hn ?_
  intro x2 e2
  rw [show (1 : Int32) = nI 1 from rfl, pk_sub h1] at e2
  subst e2
  refine lpi (fun m i => L_Keeper_judgesAlike_18 (nI S) (nI n) jud (nI k) deeds elders fj pard sums Q m (nI (2 ^ n - 1)) (nI wt) (nI i) (nI wt)) (fun i => ∀ i', i' < i → encJ j q (bst (fun c => sw w n ((wt + i') % 2 ^ n ^^^ d c)) (eldB y) (fun c => S.testBit c) k) = encJ j q (lb w n d y k ((wt + i') % 2 ^ n))) 0 (2 ^ n) (Nat.zero_le _) (fun i hi => absurd hi (Nat.not_lt_zero i)) (fun m hI => ?_) (fun m i _ hi hI ih => ?_)
  · refine jlt (by omega) (by omega) (fun _ => ?_) (fun c => absurd c (by omega))
    have hA : alk w n d j y q k S := by
      intro a ha
      obtain ⟨i, hi, e⟩ := wrap (wt := wt) (pw1 n) ha
      have := hI i hi
      rw [e] at this
      exact this
    have h0 := h wt hwt
    rw [bI_t hA] at h0
    exact h0
  · refine jlt (by omega) (by omega) (fun c => absurd c (by omega)) (fun _ => ?_)
    intro x5 e5
    rw [nI_add, andI, Nat.and_two_pow_sub_one_eq_mod] at e5
    subst e5
    have ha : (wt + i) % 2 ^ n < 2 ^ n := Nat.mod_lt _ (pw1 n)
    generalize hae : (wt + i) % 2 ^ n = a at ha
    refine s_likest hk hW ha hS (fun i hi => ⟨(hR i hi).1, (hB i hi).1⟩) hE ?_
    generalize hf : bst (fun c => sw w n (a ^^^ d c)) (eldB y) (fun c => S.testBit c) k = fa
    have fin : ∀ r, r = encJ j q fa → P_Court_judgmentOf (nI a) jud (fun r_4 => (r = r_4 → (L_Keeper_judgesAlike_18 (nI S) (nI n) jud (nI k) deeds elders fj pard sums Q m) (nI (2 ^ n - 1)) (nI wt) (nI i + 1) (nI wt)) ∧ (¬ r = r_4 → Q 0 (nI a))) := by
      intro r er
      subst er
      refine s_cjudg hn hJ ha (br_c (fun z => ?_) (fun z => ?_))
      · rw [← nI_succ]
        refine ih (fun i' hi' => ?_)
        by_cases e : i' = i
        · subst e; rw [hae, hf]; exact z
        · exact hI i' (by omega)
      · have hA : ¬ alk w n d j y q k S := fun q => z (by have := q a ha; rw [hf] at this; exact this)
        have h0 := h a (by omega)
        rw [bI_f hA] at h0
        exact h0
    cases hfa : fa with
    | none =>
      rw [hfa] at fin
      exact s_rjudgN (fin _ rfl)
    | some b =>
      rw [hfa] at fin hf
      have hbi := bst_in hf
      exact s_rjudg hk hbi.1 (hR b hbi.1).2.1 (hR b hbi.1).2.2.2 (hB b hbi.1).2.2.2 (fin _ rfl)
theorem s_fewestCases {n k wt : Nat} {w d j y q : Nat → Nat} {by_ jud each sums deeds elders fj years pard : Nat → Int32} {Q : Int32 → Int32 → Prop} (hk : k ≤ 10) (hwt : wt < 1024) (hW : ScOK n w each sums) (hR : RlOK k d j y q deeds fj years pard) (hE : ElOK k y elders) (hB : CB n k d j y q) (hJ : JdOK n (lb w n d y k) j q by_ jud)
    (h : ∀ R wt', wt' < 1024 → Lst (2 ^ k - 1) (alk w n d j y q k) R → Q (nI R) (nI wt')) : P_Keeper_fewestCases (nI wt) (nI n) jud (nI k) deeds elders fj pard sums Q := by
  have hn := hW.1
  have h2 := pw10 hn
  have hk2 := pw10 hk
  have h1 := pw1 k
  refine s_allCases (by omega) ?_
  have hA := lpf (fun m s => ∀ wt, wt < 1024 → (∀ T, T < 2 ^ k - 1 → alk w n d j y q k T → s ≤ bc T) → L_Keeper_fewestCases_13 (nI n) jud (nI k) deeds elders fj pard sums Q m (nI (2 ^ k - 1)) (nI s) (nI wt)) 0 k (Nat.zero_le _) (fun m wt hwt hI => ?_) (fun m s _ hs ih wt hwt hI => ?_)
  · obtain ⟨m, hm⟩ := hA
    exact ⟨m, hm wt hwt (fun _ _ _ => Nat.zero_le _)⟩
  · refine jle (by omega) (by omega) (fun _ => h _ _ hwt ⟨Nat.le_refl _, alk_all, fun T hT hg => ?_⟩) (fun c => absurd c (by omega))
    by_cases c : T = 2 ^ k - 1
    · subst c; exact Or.inr ⟨rfl, Nat.le_refl _⟩
    · have := hI T (by omega) hg
      have := bc_less hk (show T < 2 ^ k - 1 by omega)
      omega
  · refine jle (by omega) (by omega) (fun c => absurd c (by omega)) (fun _ => ?_)
    generalize hN : L_Keeper_fewestCases_13 (nI n) jud (nI k) deeds elders fj pard sums Q m = N
    rw [hN] at ih
    have hA2 := lpf (fun m T => ∀ wt, wt < 1024 → (∀ T', T' < T → alk w n d j y q k T' → ¬ bc T' = s) → L_Keeper_fewestCases_29 (nI n) jud (nI k) deeds elders fj pard sums Q N m (nI (2 ^ k - 1)) (nI s) (nI T) (nI wt)) 0 (2 ^ k - 1) (Nat.zero_le _) (fun m wt hwt hI2 => ?_) (fun m T _ hT ih2 wt hwt hI2 => ?_)
    · obtain ⟨m, hm⟩ := hA2
      exact ⟨m, hm wt hwt (fun T hT => absurd hT (Nat.not_lt_zero T))⟩
    · refine jle (by omega) (by omega) (fun _ => ?_) (fun c => absurd c (by omega))
      rw [← nI_succ]
      refine ih wt hwt (fun T hT hg => ?_)
      have a1 := hI T hT hg
      have a2 := hI2 T hT hg
      omega
    · have hbT := bc_le T
      have go : ∀ wt, wt < 1024 → (alk w n d j y q k T → ¬ bc T = s) → L_Keeper_fewestCases_29 (nI n) jud (nI k) deeds elders fj pard sums Q N m (nI (2 ^ k - 1)) (nI s) (nI T + 1) (nI wt) := by
        intro wt hwt z
        rw [← nI_succ]
        refine ih2 wt hwt (fun T' hT' hg => ?_)
        by_cases e : T' = T
        · subst e; exact z hg
        · exact hI2 T' (by omega) hg
      refine jle (by omega) (by omega) (fun c => absurd c (by omega)) (fun _ => s_bitCount (by omega) (jne (by omega) (by omega) (fun z => go wt hwt (fun _ => z)) (fun z => ?_)))
      refine s_judgesAlike (by omega) (by omega) hwt hW hR hE hB hJ (fun wt' hwt' => jb' (fun z2 => go wt' hwt' (fun q => absurd q z2)) (fun z2 => h _ _ hwt' ⟨by omega, z2, fun T' hT' hg => ?_⟩))
      by_cases c : T' = 2 ^ k - 1
      · subst c; rw [bc_full hk]; omega
      · have a1 := hI T' (by omega) hg
        by_cases c2 : T' < T
        · have a2 := hI2 T' c2 hg
          omega
        · omega
/-- the model -/
def LkOK (n k : Nat) (w d : Nat → Nat) (likes : Nat → Int32) : Prop := ∀ a, a < 2 ^ n → ∀ i, i < k → likes (14 * a + i) = nI (lk w n (a ^^^ d i))
theorem i14 (a i : Nat) : (14 : Int32) * nI a + nI i = nI (14 * a + i) := by rw [show (14 : Int32) = nI 14 from rfl, pk_mul, nI_add]
theorem s_layLikes_M {n k : Nat} {w d j y q : Nat → Nat} {judged likes one weight : Nat → Int32} {Q : (Nat → Int32) → (Nat → Int32) → Prop} (hk : k ≤ 14) (hn : n ≤ 10) (hW : WtOK n w weight) (hO : OnOK k d j y q one) (hB : CB n k d j y q)
    (h : ∀ j' l', (∀ a, a < 2 ^ n → j' a = encJ j q (lb w n d y k a)) → LkOK n k w d l' → Q j' l') : P_Mo_layLikes (nI n) (nI k) judged likes one weight Q := by
  have h2 := pw10 hn
  have hA := lpf (fun m a => ∀ j' l', (∀ c, c < a → j' c = encJ j q (lb w n d y k c)) → (∀ c, c < a → ∀ i, i < k → l' (14 * c + i) = nI (lk w n (c ^^^ d i))) → L_Mo_layLikes_2 (nI n) (nI k) one weight Q m (nI a) j' l') 0 (2 ^ n) (Nat.zero_le _) (fun m j' l' hj hl => ?_) (fun m a _ ha ih j' l' hj hl => ?_)
  · obtain ⟨m, hm⟩ := hA
    exact ⟨m, hm _ _ (fun a ha => absurd ha (Nat.not_lt_zero a)) (fun a ha => absurd ha (Nat.not_lt_zero a))⟩
  · rw [L_Mo_layLikes_2]
    exact s_deedMany_M hn (jle (by omega) (by omega) (fun _ => h _ _ hj hl) (fun c => absurd c (by omega)))
  · rw [L_Mo_layLikes_2]
    refine s_deedMany_M hn (jle (by omega) (by omega) (fun c => absurd c (by omega)) (fun _ => ?_))
    generalize hN : L_Mo_layLikes_2 (nI n) (nI k) one weight Q m = N
    rw [hN] at ih
    have hA2 := lpf (fun m i => ∀ l', (∀ c, c < a → ∀ i, i < k → l' (14 * c + i) = nI (lk w n (c ^^^ d i))) → (∀ i', i' < i → l' (14 * a + i') = nI (lk w n (a ^^^ d i'))) → L_Mo_layLikes_12 (nI n) (nI k) one weight Q N m (nI a) (nI i) j' l') 0 k (Nat.zero_le _) (fun m l' hl hl2 => ?_) (fun m i _ hi ih2 l' hl hl2 => ?_)
    · obtain ⟨m, hm⟩ := hA2
      exact ⟨m, hm l' hl (fun i hi => absurd hi (Nat.not_lt_zero i))⟩
    · refine jle (by omega) (by omega) (fun _ => s_judgmentAt_M hk hn hW ha hO hB ⟨vpn (by omega) (by decide), ?_⟩) (fun c => absurd c (by omega))
      rw [← nI_succ, clI (by omega)]
      refine ih _ _ (fun c hc => ?_) (fun c hc i hi => ?_)
      · by_cases e : c = a
        · subst e; rw [upd_s]
        · rw [upd_n _ e]; exact hj c (by omega)
      · by_cases e : c = a
        · subst e; exact hl2 i hi
        · exact hl c (by omega) i hi
    · refine jle (by omega) (by omega) (fun c => absurd c (by omega)) (fun _ => ⟨by rw [i4]; exact vpn (by omega) (by decide), ?_⟩)
      rw [i4, clI (by omega), (hO i hi).1, i14, clI (by omega)]
      refine s_likeness_M hn hW ha (hB i hi).1 ⟨vpn (by omega) (by decide), ?_⟩
      rw [← nI_succ]
      refine ih2 _ (fun c hc i' hi' => by rw [upd_n _ (by omega)]; exact hl c hc i' hi') (fun i' hi' => ?_)
      by_cases e : i' = i
      · subst e; rw [upd_s]
      · rw [upd_n _ (by omega)]; exact hl2 i' (by omega)
theorem sub_pos {a b : Nat} (ha : a ≤ 1000) (hb : b ≤ 1000) : (0 < nI a - nI b ↔ b < a) ∧ (nI a - nI b = 0 ↔ a = b) := by
  have h1 := pk_sub_toInt (a := a) (b := b) (by omega) (by omega)
  constructor
  · rw [Int32.lt_iff_toInt_lt, h1, show (0 : Int32).toInt = 0 from rfl]
    omega
  · rw [← Int32.toInt_inj, h1, show (0 : Int32).toInt = 0 from rfl]
    omega
theorem s_judgesAlike_M {n k S : Nat} {w d j y q : Nat → Nat} {judged likes one : Nat → Int32} {Q : Int32 → Prop} (hk : k ≤ 14) (hn : n ≤ 10) (hk0 : 0 < k) (hS : S < 2147483648) (hw9 : ∀ p, p < n → w p ≤ 9) (hO : OnOK k d j y q one) (hB : CB n k d j y q) (hj : ∀ a, a < 2 ^ n → judged a = encJ j q (lb w n d y k a)) (hl : LkOK n k w d likes)
    (h : Q (bI (alk w n d j y q k S))) : P_Mo_judgesAlike (nI S) (nI n) (nI k) judged likes one Q := by
  have h2 := pw10 hn
  have hA := lpf (fun m a => L_Mo_judgesAlike_4 (nI S) (nI n) (nI k) judged likes one Q m (bI (∀ c, c < a → encJ j q (bst (fun i => sw w n (c ^^^ d i)) (eldB y) (fun i => S.testBit i) k) = encJ j q (lb w n d y k c))) (nI a)) 0 (2 ^ n) (Nat.zero_le _) (fun m => ?_) (fun m a _ ha ih => ?_)
  · obtain ⟨m, hm⟩ := hA
    rw [bI_t (fun c hc => absurd hc (Nat.not_lt_zero c))] at hm
    exact ⟨m, hm⟩
  · rw [L_Mo_judgesAlike_4]
    exact s_deedMany_M hn (jle (by omega) (by omega) (fun _ => ⟨bI_nar _, h⟩) (fun c => absurd c (by omega)))
  · rw [L_Mo_judgesAlike_4]
    refine s_deedMany_M hn (jle (by omega) (by omega) (fun c => absurd c (by omega)) (fun _ => jb' (fun z => ?_) (fun z => ?_)))
    · refine ⟨bI_nar _, ?_⟩
      rw [bI_f z]
      rw [bI_f (fun q : alk w n d j y q k S => z (fun c hc => q c (by omega)))] at h
      exact h
    · generalize hN : L_Mo_judgesAlike_4 (nI S) (nI n) (nI k) judged likes one Q m = N
      rw [hN] at ih
      generalize hU : (fun i => sw w n (a ^^^ d i)) = U
      have hUe : ∀ i, U i + lk w n (a ^^^ d i) = tt w n := fun i => by rw [← hU]; exact sw_lk w _ n
      have hlk : ∀ i, lk w n (a ^^^ d i) ≤ 90 := fun i => by have := lk_le (n := n) (s := a ^^^ d i) hw9; omega
      generalize hBB : bst U (eldB y) (fun i => S.testBit i) = B
      have hBk : ∀ r, (r = bI (encJ j q (B k) = encJ j q (lb w n d y k a))) → N r (nI a + 1) := by
        intro r er
        subst er
        rw [← nI_succ]
        have hi : (∀ c, c < a + 1 → encJ j q (bst (fun i => sw w n (c ^^^ d i)) (eldB y) (fun i => S.testBit i) k) = encJ j q (lb w n d y k c)) ↔ encJ j q (B k) = encJ j q (lb w n d y k a) := by
          constructor
          · intro q
            have q1 := q a (by omega)
            rw [hU, hBB] at q1
            exact q1
          · intro q c hc
            by_cases e : c = a
            · subst e; rw [hU, hBB]; exact q
            · exact z c (by omega)
        rw [bI_c hi] at ih
        exact ih
      have hA2 := lpf (fun m i => L_Mo_judgesAlike_22 (nI S) (nI n) (nI k) judged likes one Q N m (nI a) (enc (B i)) (nI i)) 0 k (Nat.zero_le _) (fun m => ?_) (fun m i _ hi ih2 => ?_)
      · obtain ⟨m, hm⟩ := hA2
        have e0 : B 0 = none := by rw [← hBB]; rfl
        rw [e0] at hm
        exact ⟨m, hm⟩
      · refine jle (by omega) (by omega) (fun _ => ?_) (fun c => absurd c (by omega))
        obtain ⟨c, hc, hck⟩ := lb_some (w := w) (n := n) (d := d) (y := y) (k := k) (a := a) hk0
        have hjc := jd_le hB hck
        cases hb : B k with
        | none =>
          refine br_t rfl (hBk 0 ?_)
          rw [hb, hc, bI_f (fun q => nI_m1 (by omega) q.symm)]
        | some b =>
          rw [← hBB] at hb
          have hbi := bst_in hb
          rw [hBB] at hb
          refine br_f (nI_m1 (by omega)) (s_judg_M hk hO hbi.1 (hB b hbi.1).2.2.2 ⟨vpn (by omega) (by decide), ?_⟩)
          rw [clI (by omega), hj a ha]
          refine br_n (fun z2 => hBk 0 ?_) (fun z2 => hBk 1 ?_)
          · rw [hb]
            exact (bI_f z2).symm
          · rw [hb]
            exact (bI_t z2).symm
      · have goN : B (i + 1) = some i → B_Mo_judgesAlike_98 (nI S) (nI n) (nI k) judged likes one Q N (L_Mo_judgesAlike_22 (nI S) (nI n) (nI k) judged likes one Q N m) (nI a) (nI i) := by
          intro hb
          show L_Mo_judgesAlike_22 _ _ _ _ _ _ _ _ _ (nI a) (nI i) (nI i + 1)
          rw [← nI_succ]
          have h1 := ih2
          rw [hb] at h1
          exact h1
        have goO : B (i + 1) = B i → L_Mo_judgesAlike_22 (nI S) (nI n) (nI k) judged likes one Q N m (nI a) (enc (B i)) (nI i + 1) := by
          intro hb
          rw [← nI_succ]
          have h1 := ih2
          rw [hb] at h1
          exact h1
        refine jle (by omega) (by omega) (fun c => absurd c (by omega)) (fun _ => s_has_M hS (by omega) (jb' (fun c => goO (by rw [← hBB]; exact bst_no (Bool.eq_false_iff.mpr c))) (fun c => ?_)))
        cases hB2 : B i with
        | none =>
          rw [← hBB] at hB2
          exact br_nf rfl (br_t (by decide) (goN (by rw [← hBB]; exact bst_first c hB2)))
        | some b =>
          have hb := hB2
          rw [← hBB] at hb
          have hbi := bst_in hb
          rw [hB2] at goO
          have gN : (U i < U b ∨ (U i = U b ∧ eldB y i b = true)) → B (i + 1) = some i := fun z => by rw [← hBB]; exact bst_new c hb z
          have gO : ¬ (U i < U b ∨ (U i = U b ∧ eldB y i b = true)) → B (i + 1) = some b := fun z => by rw [← hBB]; exact bst_old c hb z
          have u1 := hUe i
          have u2 := hUe b
          have l1 := hlk i
          have l2 := hlk b
          have hsp := sub_pos (a := lk w n (a ^^^ d i)) (b := lk w n (a ^^^ d b)) (by omega) (by omega)
          refine br_nt (nI_m1 (by omega)) ?_
          show vp_in ((14 * nI a) + nI i) 14336 ∧ (vp_in ((14 * nI a) + nI b) 14336 ∧ (B_Mo_judgesAlike_75 _ _ _ _ _ _ _ _ _ _ _ _ (likes (14 * nI a + nI i).toNatClampNeg - likes (14 * nI a + nI b).toNatClampNeg)))
          rw [i14, i14, clI (by omega), clI (by omega), hl a ha i hi, hl a ha b (by omega)]
          refine ⟨vpn (by omega) (by decide), vpn (by omega) (by decide), br_c (fun z => goN (gN (Or.inl (by have := hsp.1.mp z; omega)))) (fun z => br_n (fun z2 => goO (gO (fun q => ?_))) (fun z2 => ?_))⟩
          · have z3 : ¬ lk w n (a ^^^ d b) < lk w n (a ^^^ d i) := fun q => z (hsp.1.mpr q)
            have z4 : ¬ lk w n (a ^^^ d i) = lk w n (a ^^^ d b) := fun q => z2 (hsp.2.mpr q)
            rcases q with q | q <;> omega
          · have z4 := hsp.2.mp z2
            refine s_isElder_M hk hO hi (by omega) (hB i hi).2.2.1 (hB b (by omega)).2.2.1 (jb' (fun z3 => goO (gO (fun q => ?_))) (fun z3 => goN (gN (Or.inr ⟨by omega, z3⟩))))
            rcases q with q | q
            · omega
            · exact z3 q.2
theorem op_keep {n k wt : Nat} {w d j y q : Nat → Nat} {x1 aj : Int32} {by_ jud each sums deeds elders fj years pard one mw judged likes : Nat → Int32} {K : Int32 → Int32 → Int32 → (Nat → Int32) → (Nat → Int32) → Int32 → (Nat → Int32) → (Nat → Int32) → Prop} (hk : k ≤ 12) (hwt : wt < 1024) (hW : ScOK n w each sums) (hMW : WtOK n w mw) (hR : RlOK k d j y q deeds fj years pard) (hE : ElOK k y elders) (hO : OnOK k d j y q one) (hB : CB n k d j y q) (hJ : JInv n (lb w n d y k) j q aj by_ jud)
    (h : ∀ r aj' wt' b' j' jm lm, JInv n (lb w n d y k) j q aj' b' j' → wt' < 1024 → K r aj' (nI wt') b' j' r jm lm) :
    P_LC_keep x1 (nI n) aj (nI wt) by_ jud (nI k) deeds elders fj pard sums (fun r aj' wt' b' j' => P_Mo_keep x1 (nI n) (nI k) judged likes one mw (fun r' jm lm => K r aj' wt' b' j' r' jm lm)) := by
  have hn := hW.1
  have h2 := pw10 hn
  refine s_within (jb (fun hx => jlt (a := 8) (b := n) (by decide) (by omega) (fun hy => ?_) (fun hy => jle (a := k) (b := 10) (by omega) (by decide) (fun hz => ?_) (fun hz => ?_))) (fun hx => ?_))
  · exact s_in_M (jb (fun _ => jlt (a := 8) (b := n) (by decide) (by omega) (fun _ => h _ _ _ _ _ _ _ hJ hwt) (fun z => absurd z (by omega))) (fun z => absurd hx z))
  · have hk2 := pw10 hz
    have hk1 := pw1 k
    have hmod : ∀ r R aj' wt' b' j', wt' < 1024 → JInv n (lb w n d y k) j q aj' b' j' → Lst (2 ^ k - 1) (alk w n d j y q k) R → (x1 = 0 → r = nI (bc R)) → (¬ x1 = 0 → r = nI R) → P_Mo_keep x1 (nI n) (nI k) judged likes one mw (fun r' jm lm => K r aj' (nI wt') b' j' r' jm lm) := by
      intro r R aj' wt' b' j' hwt' hJ' hL g0 g1
      refine s_in_M (jb (fun _ => jlt (a := 8) (b := n) (by decide) (by omega) (fun z => absurd z (by omega)) (fun _ => jle (a := k) (b := 10) (by omega) (by decide) (fun _ => ?_) (fun z => absurd z (by omega)))) (fun z => absurd hx z))
      refine s_layLikes_M (by omega) hn hMW hO hB (fun jm lm hjm hlm => s_all_M (by omega) (s_all_M (by omega) ?_))
      intro x3 e3
      have fin : ∀ B, Lst (2 ^ k - 1) (alk w n d j y q k) B → ∀ m s, s ≤ 0 → L_Mo_keep_49 x1 (nI n) (nI k) one mw (fun r' jm lm => K r aj' (nI wt') b' j' r' jm lm) (m + 1) (nI B) s jm lm := by
        intro B hLB m s hs
        have e := Lst_det hL hLB
        subst e
        have hR1 := hL.1
        refine br_t hs (br_n (fun z => ?_) (fun z => s_bits_M (by omega) ?_))
        · show K r aj' (nI wt') b' j' (nI R) jm lm
          rw [g1 z]; exact h _ _ _ _ _ _ _ hJ' hwt'
        · show K r aj' (nI wt') b' j' (nI (bc R)) jm lm
          rw [g0 z]; exact h _ _ _ _ _ _ _ hJ' hwt'
      by_cases hk0 : k = 0
      · subst hk0
        refine ⟨1, fin 0 ⟨Nat.zero_le _, alk_all, fun T hT _ => ?_⟩ 0 x3 ?_⟩
        · have e : T = 0 := by omega
          subst e; exact Or.inr ⟨rfl, Nat.le_refl _⟩
        · subst e3; decide
      · have hk3 : 2 ≤ 2 ^ k := by have := pw (n := 1) (m := k) (by omega); omega
        have e3' : x3 = nI (2 ^ k - 1 - 1) := by rw [e3, show (1 : Int32) = nI 1 from rfl, pk_sub (by omega)]
        subst e3'
        have hA := lpd (fun m s => ∀ B, B ≤ 2 ^ k - 1 → s < B → alk w n d j y q k B → (∀ T, s < T → T ≤ 2 ^ k - 1 → alk w n d j y q k T → bc B < bc T ∨ (bc B = bc T ∧ B ≤ T)) → L_Mo_keep_49 x1 (nI n) (nI k) one mw (fun r' jm lm => K r aj' (nI wt') b' j' r' jm lm) m (nI B) (nI s) jm lm) (2 ^ k - 1 - 1) (fun m B b1 b2 b3 b4 => ?_) (fun m s hs ih B b1 b2 b3 b4 => ?_)
        · obtain ⟨m, hm⟩ := hA
          refine ⟨m, hm (2 ^ k - 1) (Nat.le_refl _) (by omega) alk_all (fun T t1 t2 _ => ?_)⟩
          have e : T = 2 ^ k - 1 := by omega
          subst e; exact Or.inr ⟨rfl, Nat.le_refl _⟩
        · refine fin B ⟨b1, b3, fun T t1 t2 => ?_⟩ m (nI 0) (by decide)
          refine b4 T ?_ t1 t2
          rcases Nat.eq_zero_or_pos T with z | z
          · subst z; exact absurd t2 (alk_zero hB (by omega))
          · exact z
        · refine jle (a := s + 1) (b := 0) (by omega) (by decide) (fun z => absurd z (by omega)) (fun _ => s_bits_M (by omega) (s_bits_M (by omega) ?_))
          have c1 := bc_le B
          have c2 := bc_le (s + 1)
          have go : (alk w n d j y q k (s + 1) → bc B < bc (s + 1)) → L_Mo_keep_49 x1 (nI n) (nI k) one mw (fun r' jm lm => K r aj' (nI wt') b' j' r' jm lm) m (nI B) (nI (s + 1) + (-1)) jm lm := by
            intro z
            rw [nI_dec]
            refine ih B b1 (by omega) b3 (fun T t1 t2 t3 => ?_)
            by_cases e : T = s + 1
            · subst e; exact Or.inl (z t3)
            · exact b4 T (by omega) t2 t3
          refine jlt (by omega) (by omega) (fun z => go (fun _ => z)) (fun z => s_judgesAlike_M (by omega) hn (by omega) (by omega) (fun p hp => (hMW p hp).2) hO hB hjm hlm (jb' (fun z2 => go (fun q => absurd q z2)) (fun z2 => ?_)))
          show L_Mo_keep_49 x1 (nI n) (nI k) one mw _ m (nI (s + 1)) (nI (s + 1) + (-1)) jm lm
          rw [nI_dec]
          refine ih (s + 1) (by omega) (by omega) z2 (fun T t1 t2 t3 => ?_)
          by_cases e : T = s + 1
          · subst e; exact Or.inr ⟨rfl, Nat.le_refl _⟩
          · have := b4 T (by omega) t2 t3
            omega
    refine s_judgeAll hk hW hR hB hE hJ (fun b' j' hJ' => s_fewestCases hz hwt hW hR hE hB hJ' (fun R wt' hwt' hL => ?_))
    have hR1 := hL.1
    exact s_countOrSet (by omega) (fun z => hmod _ R 1 wt' b' j' hwt' (Or.inr ⟨rfl, hJ'⟩) hL (fun _ => rfl) (fun q => absurd z q)) (fun z => hmod _ R 1 wt' b' j' hwt' (Or.inr ⟨rfl, hJ'⟩) hL (fun q => absurd q z) (fun _ => rfl))
  · exact s_in_M (jb (fun _ => jlt (a := 8) (b := n) (by decide) (by omega) (fun _ => h _ _ _ _ _ _ _ hJ hwt) (fun _ => jle (a := k) (b := 10) (by omega) (by decide) (fun z => absurd z (by omega)) (fun _ => h _ _ _ _ _ _ _ hJ hwt))) (fun z => absurd hx z))
  · exact s_in_M (jb (fun z => absurd z hx) (fun _ => h _ _ _ _ _ _ _ hJ hwt))
/-- cleaned -/
def cln (w : Nat → Nat) (n : Nat) (d y j : Nat → Nat) (k S : Nat) : Prop := ∀ c, c < k → (dif (2 ^ k - 1) S).testBit c = true → fol w n d y j (fun i => (dif (2 ^ k - 1) S).testBit i) k c = true
theorem cln_all {w : Nat → Nat} {n : Nat} {d y j : Nat → Nat} {k : Nat} : cln w n d y j k (2 ^ k - 1) := by
  intro c hc h
  rw [dif_bit] at h
  simp at h
theorem op_cleaned {n k : Nat} {w d j y q : Nat → Nat} {x1 : Int32} {each sums deeds elders fj years pard one mw : Nat → Int32} {K : Int32 → Int32 → Prop} (hk : k ≤ 12) (hW : ScOK n w each sums) (hMW : WtOK n w mw) (hR : RlOK k d j y q deeds fj years pard) (hE : ElOK k y elders) (hO : OnOK k d j y q one) (hB : CB n k d j y q) (h : ∀ r, K r r) :
    P_LC_cleaned x1 (nI k) deeds elders fj sums (fun r => P_Mo_cleaned x1 (nI n) (nI k) one mw (fun r' => K r r')) := by
  have hn := hW.1
  have h2 := pw10 hn
  refine s_within (jb (fun hx => jle (a := k) (b := 10) (by omega) (by decide) (fun hz => ?_) (fun hz => ?_)) (fun hx => ?_))
  · have hk2 := pw10 hz
    have hk1 := pw1 k
    have hdl : ∀ S, dif (2 ^ k - 1) S ≤ 2 ^ k - 1 := fun S => dif_le _ _
    have hmod : ∀ r R, Lst (2 ^ k - 1) (cln w n d y j k) R → (x1 = 0 → r = nI (bc R)) → (¬ x1 = 0 → r = nI R) → P_Mo_cleaned x1 (nI n) (nI k) one mw (fun r' => K r r') := by
      intro r R hL g0 g1
      refine s_in_M (jb (fun _ => jle (a := k) (b := 10) (by omega) (by decide) (fun _ => s_all_M (by omega) (s_all_M (by omega) ?_)) (fun z => absurd z (by omega))) (fun z => absurd hx z))
      have hA := lpd (fun m s => ∀ B, B ≤ 2 ^ k - 1 → cln w n d y j k B → (∀ T, s ≤ T → T ≤ 2 ^ k - 1 → cln w n d y j k T → bc B < bc T ∨ (bc B = bc T ∧ B ≤ T)) → L_Mo_cleaned_34 x1 (nI n) (nI k) one mw (fun r' => K r r') m (nI B) (nI s + (-1))) (2 ^ k) (fun m B b1 b3 b4 => ?_) (fun m s hs ih B b1 b3 b4 => ?_)
      · obtain ⟨m, hm⟩ := hA
        refine ⟨m, ?_⟩
        have h0 := hm (2 ^ k - 1) (Nat.le_refl _) cln_all (fun T t1 t2 _ => absurd t1 (by omega))
        have e : nI (2 ^ k) + (-1) = nI (2 ^ k - 1) := by
          have := nI_dec (2 ^ k - 1)
          rw [show 2 ^ k - 1 + 1 = 2 ^ k by omega] at this
          exact this
        rw [e] at h0
        exact h0
      · have hLB : Lst (2 ^ k - 1) (cln w n d y j k) B := ⟨b1, b3, fun T t1 t2 => b4 T (Nat.zero_le _) t1 t2⟩
        have e := Lst_det hL hLB
        subst e
        refine br_t (by decide) (br_n (fun z => ?_) (fun z => s_bits_M (by omega) ?_))
        · show K r (nI R)
          rw [g1 z]; exact h _
        · show K r (nI (bc R))
          rw [g0 z]; exact h _
      · show L_Mo_cleaned_34 x1 (nI n) (nI k) one mw _ (m + 1) (nI B) (nI (s + 1) + (-1))
        rw [nI_dec]
        refine jneg (by omega) (s_bits_M (by omega) (s_bits_M (by omega) ?_))
        have c1 := bc_le B
        have c2 := bc_le s
        have go : (cln w n d y j k s → bc B < bc s) → L_Mo_cleaned_34 x1 (nI n) (nI k) one mw (fun r' => K r r') m (nI B) (nI s + (-1)) := by
          intro z
          refine ih B b1 b3 (fun T t1 t2 t3 => ?_)
          by_cases e : T = s
          · subst e; exact Or.inl (z t3)
          · exact b4 T (by omega) t2 t3
        refine jlt (by omega) (by omega) (fun z => go (fun _ => z)) (fun z => s_all_M (by omega) ?_)
        rw [difI]
        have hd := hdl s
        generalize hp : (fun c => (dif (2 ^ k - 1) s).testBit c && !(fol w n d y j (fun i => (dif (2 ^ k - 1) s).testBit i) k c)) = p
        have hml := Nat.lt_of_lt_of_le (mk_lt p k) hk2
        refine s_notFollowing_M (by omega) hn hMW (by omega) hO hB ?_
        rw [hp]
        refine jne (a := mk p k) (b := 0) (by omega) (by decide) (fun z2 => go (fun q => absurd ?_ z2)) (fun z2 => ?_)
        · refine mk_zero.mpr (fun i hi => ?_)
          rw [← hp]
          show ((dif (2 ^ k - 1) s).testBit i && !(fol w n d y j (fun i => (dif (2 ^ k - 1) s).testBit i) k i)) = false
          by_cases e : (dif (2 ^ k - 1) s).testBit i = true
          · rw [q i hi e]; simp
          · rw [Bool.eq_false_iff.mpr e]; rfl
        · have hc : cln w n d y j k s := by
            intro c hc e
            have := mk_zero.mp z2 c hc
            rw [← hp] at this
            have t2 : ((dif (2 ^ k - 1) s).testBit c && !(fol w n d y j (fun i => (dif (2 ^ k - 1) s).testBit i) k c)) = false := this
            rw [e] at t2
            simpa using t2
          show L_Mo_cleaned_34 x1 (nI n) (nI k) one mw _ m (nI s) (nI s + (-1))
          refine ih s (by omega) hc (fun T t1 t2 t3 => ?_)
          by_cases e : T = s
          · subst e; exact Or.inr ⟨rfl, Nat.le_refl _⟩
          · have := b4 T (by omega) t2 t3
            omega
    generalize hQ : (fun r_3 : Int32 => P_LC_countOrSet r_3 x1 (fun r_4 => P_Mo_cleaned x1 (nI n) (nI k) one mw (fun r' => K r_4 r'))) = Q
    have hfin : ∀ R, Lst (2 ^ k - 1) (cln w n d y j k) R → Q (nI R) := by
      intro R hL
      rw [← hQ]
      have hR1 := hL.1
      exact s_countOrSet (by omega) (fun z => hmod _ R hL (fun _ => rfl) (fun q => absurd z q)) (fun z => hmod _ R hL (fun q => absurd q z) (fun _ => rfl))
    refine s_allCases (by omega) ?_
    refine lpi (fun m s => L_Examiner_fewestLeftOut_13 (nI k) deeds elders fj sums Q m (nI (2 ^ k - 1)) (nI s)) (fun s => ∀ T, T < 2 ^ k - 1 → cln w n d y j k T → s ≤ bc T) 0 k (Nat.zero_le _) (fun _ _ _ => Nat.zero_le _) (fun m hI => ?_) (fun m s _ hs hI ih => ?_)
    · refine jle (by omega) (by omega) (fun _ => hfin _ ⟨Nat.le_refl _, cln_all, fun T hT hg => ?_⟩) (fun c => absurd c (by omega))
      by_cases c : T = 2 ^ k - 1
      · subst c; exact Or.inr ⟨rfl, Nat.le_refl _⟩
      · have := hI T (by omega) hg
        have := bc_less hz (show T < 2 ^ k - 1 by omega)
        omega
    · refine jle (by omega) (by omega) (fun c => absurd c (by omega)) (fun _ => ?_)
      generalize hN : L_Examiner_fewestLeftOut_13 (nI k) deeds elders fj sums Q m = N
      rw [hN] at ih
      refine lpi (fun m T => L_Examiner_fewestLeftOut_29 (nI k) deeds elders fj sums Q N m (nI (2 ^ k - 1)) (nI s) (nI T)) (fun T => ∀ T', T' < T → cln w n d y j k T' → ¬ bc T' = s) 0 (2 ^ k - 1) (Nat.zero_le _) (fun T hT => absurd hT (Nat.not_lt_zero T)) (fun m hI2 => ?_) (fun m T _ hT hI2 ih2 => ?_)
      · refine jle (by omega) (by omega) (fun _ => ?_) (fun c => absurd c (by omega))
        rw [← nI_succ]
        refine ih (fun T hT hg => ?_)
        have a1 := hI T hT hg
        have a2 := hI2 T hT hg
        omega
      · have hbT := bc_le T
        have hd := hdl T
        have go : (cln w n d y j k T → ¬ bc T = s) → L_Examiner_fewestLeftOut_29 (nI k) deeds elders fj sums Q N m (nI (2 ^ k - 1)) (nI s) (nI T + 1) := by
          intro z
          rw [← nI_succ]
          refine ih2 (fun T' hT' hg => ?_)
          by_cases e : T' = T
          · subst e; exact z hg
          · exact hI2 T' (by omega) hg
        refine jle (by omega) (by omega) (fun c => absurd c (by omega)) (fun _ => s_bitCount (by omega) (jne (by omega) (by omega) (fun z => go (fun _ => z)) (fun z => ?_)))
        rw [difI]
        refine s_allFollow hk hW (by omega) hR hB hE (jb' (fun z2 => go (fun q => absurd q z2)) (fun z2 => hfin T ⟨by omega, z2, fun T' hT' hg => ?_⟩))
        by_cases c : T' = 2 ^ k - 1
        · subst c; rw [bc_full hz]; omega
        · have a1 := hI T' (by omega) hg
          by_cases c2 : T' < T
          · have a2 := hI2 T' c2 hg
            omega
          · omega
  · exact s_in_M (jb (fun _ => jle (a := k) (b := 10) (by omega) (by decide) (fun z => absurd z (by omega)) (fun _ => h _)) (fun z => absurd hx z))
  · exact s_in_M (jb (fun z => absurd z hx) (fun _ => h _))
