/-! PURE 13: hang, odds -/
theorem s_power {b e : Nat} {Q : Int64 → Prop} (hb : b < 2147483648) (he : e < 2147483648) (h : Q (lN (b ^ e))) : P_LC_power (nI b) (nI e) Q := by
  refine lpf (fun m i => L_LC_power_5 (nI b) (nI e) Q m (lN (b ^ i)) (nI i)) 0 e (Nat.zero_le _) (fun m => ?_) (fun m i _ hi ih => ?_)
  · exact jle he he (fun _ => h) (fun c => absurd c (by omega))
  · refine jle he (by omega) (fun c => absurd c (by omega)) (fun _ => ?_)
    intro x ex
    rw [nI_l hb, lN_mul, ← Nat.pow_succ] at ex
    subst ex
    rw [← nI_succ]
    exact ih
/-- all follow: all first judgments are one -/
theorem fol_all {w d y j : Nat → Nat} {n k : Nat} (hk : k ≤ 12) : (∀ c, c < k → (2 ^ k - 1).testBit c = true → fol w n d y j (fun i => (2 ^ k - 1).testBit i) k c = true) ↔ ∀ a b, a < k → b < k → j a = j b := by
  constructor
  · intro h
    have rk : ∀ a b, a < k → eldB y a b = true → y a * 13 + a < y b * 13 + b := by
      intro a b ha he
      rcases eldB_t.mp he with z | z <;> omega
    have key : ∀ m a b, a < k → b < k → y a * 13 + a + (y b * 13 + b) < m → j a = j b := by
      intro m
      induction m with
      | zero => intro a b _ _ hm; exact absurd hm (Nat.not_lt_zero _)
      | succ m ih =>
        have half : ∀ a b, a < k → b < k → y a * 13 + a + (y b * 13 + b) < m + 1 → eldB y a b = true → j a = j b := by
          intro a b ha hb hm he
          have hf := h b hb (tb_full hb)
          unfold fol at hf
          cases hbb : bst (fun i => sw w n (d b ^^^ d i)) (eldB y) (fun i => (2 ^ k - 1).testBit i && eldB y i b) k with
          | none =>
            have := bst_none hbb a ha
            rw [tb_full ha, he] at this
            exact absurd this (by decide)
          | some c =>
            rw [hbb] at hf
            have hci := bst_in hbb
            have hc2 := (Bool.and_eq_true_iff.mp hci.2).2
            have h3 := rk c b hci.1 hc2
            have h4 := ih a c ha hci.1 (by omega)
            rw [h4]
            exact of_decide_eq_true hf
        intro a b ha hb hm
        by_cases e : a = b
        · rw [e]
        · by_cases e1 : eldB y a b = true
          · exact half a b ha hb hm e1
          · refine (half b a hb ha (by omega) (eldB_t.mpr ?_)).symm
            have e2 : ¬ (y a < y b ∨ (y a = y b ∧ a < b)) := fun z => e1 (eldB_t.mpr z)
            omega
    intro a b ha hb
    exact key _ a b ha hb (Nat.lt_succ_self _)
  · intro h c hc _
    unfold fol
    cases hb : bst (fun i => sw w n (d c ^^^ d i)) (eldB y) (fun i => (2 ^ k - 1).testBit i && eldB y i c) k with
    | none => rfl
    | some b => exact decide_eq_true (h b c (bst_in hb).1 hc)
theorem p3 {n : Nat} (h : n ≤ 6) : 3 ^ n ≤ 729 := Nat.le_trans (Nat.pow_le_pow_right (by decide) h) (by decide)
theorem op_hang {n k : Nat} {w d j y q : Nat → Nat} {x1 : Int32} {each sums deeds elders fj years pard one mw had : Nat → Int32} {K : Int32 → Int32 → (Nat → Int32) → (Nat → Int32) → Prop} (hk : k ≤ 12) (hW : ScOK n w each sums) (hMW : WtOK n w mw) (hR : RlOK k d j y q deeds fj years pard) (hE : ElOK k y elders) (hO : OnOK k d j y q one) (hB : CB n k d j y q)
    (h : ∀ r had' mw', WtOK n w mw' → K r r had' mw') :
    P_LC_hang x1 (nI n) (nI k) deeds elders fj sums (fun r => P_Mo_hang x1 (nI n) (nI k) had one mw (fun r' had' mw' => K r r' had' mw')) := by
  have hn := hW.1
  have h2 := pw10 hn
  have h12 := pw12 hk
  generalize hhh : (∀ a b, a < k → b < k → j a = j b) = HH
  have hfol : ∀ w', (∀ c, c < k → (2 ^ k - 1).testBit c = true → fol w' n d y j (fun i => (2 ^ k - 1).testBit i) k c = true) ↔ HH := fun w' => by rw [← hhh]; exact fol_all hk
  have hm22 : ∀ r, (x1 = -1 ∨ vp_in x1 n) → (n ≤ 6 → HH → x1 = -1 → r = nI (3 ^ n)) → (n ≤ 6 → HH → ¬ x1 = -1 → r = 0) → (n ≤ 6 → ¬ HH → x1 = -1 → r = 0) → (n ≤ 6 → ¬ HH → ¬ x1 = -1 → r = -1) → (¬ n ≤ 6 → r = -4) → B_Mo_hang_22 x1 (nI n) (nI k) one (fun r' had' mw' => K r r' had' mw') had mw := by
    intro r hx g1 g2 g3 g4 g5
    refine jle (a := n) (b := 6) (by omega) (by decide) (fun hn6 => ?_) (fun hn6 => ?_)
    · have h3 := p3 hn6
      generalize hQ : (fun r' had' mw' => K r r' had' mw') = Q
      have hA := lpf (fun m p => ∀ hd, (∀ i, i < p → hd i = mw i) → L_Mo_hang_38 x1 (nI n) (nI k) one Q m (nI (3 ^ p)) (nI p) hd mw) 0 n (Nat.zero_le _) (fun m hd hhd => ?_) (fun m p _ hp ih hd hhd => ?_)
      · obtain ⟨m, hm⟩ := hA
        exact ⟨m, hm had (fun i hi => absurd hi (Nat.not_lt_zero i))⟩
      · refine jle (by omega) (by omega) (fun _ => ?_) (fun c => absurd c (by omega))
        have hend : ∀ x3 x4 mw', (x1 = -1 → r = x3) → (¬ x1 = -1 → r = x4) → ∃ m, L_Mo_hang_167 x1 (nI n) (nI k) one Q m x3 x4 0 hd mw' := by
          intro x3 x4 mw' q1 q2
          have hC := lpf (fun m p => ∀ mw', (∀ i, i < p → mw' i = mw i) → L_Mo_hang_167 x1 (nI n) (nI k) one Q m x3 x4 (nI p) hd mw') 0 n (Nat.zero_le _) (fun m mw' hmw => ?_) (fun m p _ hp ih mw' hmw => ?_)
          · obtain ⟨m, hm⟩ := hC
            exact ⟨m, hm mw' (fun i hi => absurd hi (Nat.not_lt_zero i))⟩
          · have hw' : WtOK n w mw' := fun i hi => by rw [hmw i hi]; exact hMW i hi
            refine jle (by omega) (by omega) (fun _ => br_n (fun z => ?_) (fun z => ?_)) (fun c => absurd c (by omega))
            · rw [← hQ]
              show K r x4 hd mw'
              rw [q2 z]; exact h _ _ _ hw'
            · rw [← hQ]
              show K r x3 hd mw'
              rw [q1 z]; exact h _ _ _ hw'
          · refine jle (by omega) (by omega) (fun c => absurd c (by omega)) (fun _ => ⟨vpn (by omega) (by decide), vpn (by omega) (by decide), ?_⟩)
            rw [← nI_succ, clI (by omega)]
            refine ih _ (fun i hi => ?_)
            by_cases e : i = p
            · subst e; rw [upd_s, hhd _ hp]
            · rw [upd_n _ e]; exact hmw i (by omega)
        have hD := lpf (fun m c => ∀ x3 x4 mw', (HH → x3 = nI c) → (¬ HH → x3 = 0) → (HH → ¬ x1 = -1 → 0 < c → x4 = 0) → (¬ HH → x4 = -1) → L_Mo_hang_76 x1 (nI n) (nI k) one Q m (nI (3 ^ n)) x3 x4 (nI c) hd mw') 0 (3 ^ n) (Nat.zero_le _) (fun m x3 x4 mw' q1 q2 q3 q4 => ?_) (fun m c _ hc ih2 x3 x4 mw' q1 q2 q3 q4 => ?_)
        · obtain ⟨m, hm⟩ := hD
          exact ⟨m, hm 0 (-1) mw (fun _ => rfl) (fun _ => rfl) (fun _ _ z => absurd z (by omega)) (fun _ => rfl)⟩
        · refine jle (by omega) (by omega) (fun _ => hend x3 x4 mw' (fun z => ?_) (fun z => ?_)) (fun c => absurd c (by omega))
          · by_cases e : HH
            · rw [g1 hn6 e z, q1 e]
            · rw [g3 hn6 e z, q2 e]
          · by_cases e : HH
            · rw [g2 hn6 e z, q3 e z (Nat.pow_pos (by decide))]
            · rw [g4 hn6 e z, q4 e]
        · refine jle (by omega) (by omega) (fun c => absurd c (by omega)) (fun _ => ?_)
          intro x7 e7
          generalize hN : L_Mo_hang_76 x1 (nI n) (nI k) one Q m = N
          rw [hN] at ih2
          have hF := lpd (fun m s => ∀ v mw', v ≤ 729 → (c = 0 → v = 0) → (∀ p, s ≤ p → p < n → ∃ u, u ≤ 2 ∧ mw' p = nI u ∧ (c = 0 → u = 0)) → L_Mo_hang_94 x1 (nI n) (nI k) one Q N m (nI (3 ^ n)) x3 x4 (nI c) (nI v) (nI s + (-1)) hd mw') n (fun m v mw' hv hv0 hu => ?_) (fun m s hs ih3 v mw' hv hv0 hu => ?_)
          · obtain ⟨m, hm⟩ := hF
            refine ⟨m, ?_⟩
            have h0 := hm c mw' (by omega) (fun z => z) (fun p p1 p2 => absurd p1 (by omega))
            have e8 : x7 = nI n + (-1) := by rw [e7, Int32.sub_eq_add_neg]
            rw [e8]
            exact h0
          · have hw' : WtOK n (fun p => (mw' p).toNatClampNeg) mw' := by
              intro p hp
              obtain ⟨u, u1, u2, _⟩ := hu p (Nat.zero_le _) hp
              show mw' p = nI (mw' p).toNatClampNeg ∧ (mw' p).toNatClampNeg ≤ 9
              rw [u2, clI (by omega)]
              exact ⟨rfl, by omega⟩
            refine br_t (by decide) (s_all_M (by omega) (s_notFollowing_M (by omega) hn hw' (by omega) hO hB ?_))
            generalize hp : (fun c => (2 ^ k - 1).testBit c && !(fol (fun p => (mw' p).toNatClampNeg) n d y j (fun i => (2 ^ k - 1).testBit i) k c)) = p
            have hml := Nat.lt_of_lt_of_le (mk_lt p k) h12
            have hpz : mk p k = 0 ↔ HH := by
              rw [mk_zero, ← hfol (fun p => (mw' p).toNatClampNeg), ← hp]
              constructor
              · intro z c hc e
                have := z c hc
                have t2 : ((2 ^ k - 1).testBit c && !(fol (fun p => (mw' p).toNatClampNeg) n d y j (fun i => (2 ^ k - 1).testBit i) k c)) = false := this
                rw [e] at t2
                simpa using t2
              · intro z c hc
                show ((2 ^ k - 1).testBit c && !(fol (fun p => (mw' p).toNatClampNeg) n d y j (fun i => (2 ^ k - 1).testBit i) k c)) = false
                rw [z c hc (tb_full hc)]
                simp
            refine jne (a := mk p k) (b := 0) (by omega) (by decide) (fun z => ?_) (fun z => ?_)
            · have z2 : ¬ HH := fun q => z (hpz.mpr q)
              show N (nI (3 ^ n)) x3 x4 (nI c + 1) hd mw'
              rw [← nI_succ]
              exact ih2 x3 x4 mw' (fun q => absurd q z2) q2 (fun q => absurd q z2) q4
            · have z2 : HH := hpz.mp z
              have e3 := q1 z2
              subst e3
              have go : ∀ x4', (¬ x1 = -1 → x4' = 0) → N (nI (3 ^ n)) (nI c + 1) x4' (nI c + 1) hd mw' := by
                intro x4' q5
                rw [← nI_succ]
                exact ih2 _ x4' mw' (fun _ => rfl) (fun q => absurd z2 q) (fun _ q _ => q5 q) (fun q => absurd z2 q)
              refine br_n (fun z3 => go x4 (fun q => q3 z2 q ?_)) (fun z3 => br_c (fun z4 => go x4 (fun q => absurd z4 q)) (fun z4 => ?_))
              · rcases Nat.eq_zero_or_pos c with z5 | z5
                · subst z5; exact absurd rfl z3
                · exact z5
              · rcases hx with z5 | z5
                · exact absurd z5 z4
                · obtain ⟨p1, hp1, rfl⟩ := vp_in_of z5 (by omega)
                  have hc0 : c = 0 := (nI_eq (b := 0) (by omega) (by decide)).mp z3
                  refine ⟨vpn (by omega) (by decide), go _ (fun _ => ?_)⟩
                  rw [clI (by omega)]
                  obtain ⟨u, u1, u2, u3⟩ := hu p1 (Nat.zero_le _) hp1
                  rw [u2, u3 hc0]; rfl
          · show L_Mo_hang_94 x1 (nI n) (nI k) one Q N (m + 1) (nI (3 ^ n)) x3 x4 (nI c) (nI v) (nI (s + 1) + (-1)) hd mw'
            rw [nI_dec]
            refine jneg (by omega) ⟨vpn (by omega) (by decide), ?_⟩
            intro x6 e6
            rw [show (3 : Int32) = nI 3 from rfl, pk_div (by omega) (by decide) (by decide)] at e6
            subst e6
            rw [show (3 : Int32) = nI 3 from rfl, pk_rem (by omega) (by decide) (by decide), clI (by omega)]
            refine ih3 (v / 3) _ (by omega) (fun z => by rw [hv0 z]) (fun p p1 p2 => ?_)
            by_cases e : p = s
            · subst e
              rw [upd_s]
              exact ⟨v % 3, by omega, rfl, fun z => by rw [hv0 z]⟩
            · rw [upd_n _ e]
              exact hu p (by omega) p2
      · refine jle (by omega) (by omega) (fun c => absurd c (by omega)) (fun _ => ⟨vpn (by omega) (by decide), vpn (by omega) (by decide), ?_⟩)
        intro x2 e2
        rw [show (3 : Int32) = nI 3 from rfl, pk_mul, ← Nat.pow_succ] at e2
        subst e2
        rw [← nI_succ, clI (by omega)]
        refine ih _ (fun i hi => ?_)
        by_cases e : i = p
        · subst e; rw [upd_s]
        · rw [upd_n _ e]; exact hhd i (by omega)
    · show K r (-4) had mw
      rw [g5 (by omega)]; exact h _ _ _ hMW
  have hm : ∀ r, (x1 = -1 ∨ vp_in x1 n) → (n ≤ 6 → HH → x1 = -1 → r = nI (3 ^ n)) → (n ≤ 6 → HH → ¬ x1 = -1 → r = 0) → (n ≤ 6 → ¬ HH → x1 = -1 → r = 0) → (n ≤ 6 → ¬ HH → ¬ x1 = -1 → r = -1) → (¬ n ≤ 6 → r = -4) → P_Mo_hang x1 (nI n) (nI k) had one mw (fun r' had' mw' => K r r' had' mw') := by
    intro r hx g1 g2 g3 g4 g5
    refine br_c (fun z => hm22 r hx g1 g2 g3 g4 g5) (fun z => s_in_M ?_)
    rw [bI_c (vp_le0 (by omega))]
    refine jb (fun _ => hm22 r hx g1 g2 g3 g4 g5) (fun z2 => ?_)
    rcases hx with q | q
    · exact absurd q z
    · exact absurd q z2
  have hc19 : (x1 = -1 ∨ vp_in x1 n) → B_LC_hang_19 x1 (nI n) (nI k) deeds elders fj sums (fun r => P_Mo_hang x1 (nI n) (nI k) had one mw (fun r' had' mw' => K r r' had' mw')) := by
    intro hx
    refine jle (a := n) (b := 6) (by omega) (by decide) (fun hn6 => br_n (fun z => ?_) (fun z => ?_)) (fun hn6 => hm _ hx (fun q => absurd q (by omega)) (fun q => absurd q (by omega)) (fun q => absurd q (by omega)) (fun q => absurd q (by omega)) (fun _ => rfl))
    · unfold P_Examiner_firstHanging P_Examiner_hangsTogether
      refine s_allCases hk ?_
      refine s_allFollow (S := 2 ^ k - 1) hk hW (by omega) hR hB hE ?_
      rw [bI_c (hfol w)]
      exact ⟨bI_nar _, jb' (fun z2 => hm _ hx (fun _ q => absurd q z2) (fun _ q => absurd q z2) (fun _ _ q => absurd q z) (fun _ _ _ => rfl) (fun q => absurd hn6 q)) (fun z2 => hm _ hx (fun _ _ q => absurd q z) (fun _ _ _ => rfl) (fun _ q => absurd z2 q) (fun _ q => absurd z2 q) (fun q => absurd hn6 q))⟩
    · unfold P_Examiner_countHanging P_Examiner_hangsTogether
      refine s_allCases hk ?_
      refine s_allFollow (S := 2 ^ k - 1) hk hW (by omega) hR hB hE ?_
      rw [bI_c (hfol w)]
      refine ⟨bI_nar _, jb' (fun z2 => hm _ hx (fun _ q => absurd q z2) (fun _ q => absurd q z2) (fun _ _ _ => rfl) (fun _ _ q => absurd z q) (fun q => absurd hn6 q)) (fun z2 => s_power (b := 3) (by decide) (by omega) ?_)⟩
      rw [lN_i]
      exact hm _ hx (fun _ _ _ => rfl) (fun _ _ q => absurd z q) (fun _ q => absurd z2 q) (fun _ q => absurd z2 q) (fun q => absurd hn6 q)
  refine br_c (fun z => hc19 (Or.inl z)) (fun z => s_isPoint (by omega) (jb (fun z2 => hc19 (Or.inr z2)) (fun z2 => br_f z (s_in_M ?_))))
  rw [bI_c (vp_le0 (by omega))]
  exact jb (fun q => absurd q z2) (fun _ => h _ _ _ hMW)
/-- odds -/
theorem bc_lt {s n : Nat} (hs : s < 2 ^ n) (hn : n ≤ 14) : bc s = ct (fun i => s.testBit i) n := by
  have h1 := ct_more (p := fun i => s.testBit i) (k := n) (fun i hi => Nat.testBit_lt_two_pow (Nat.lt_of_lt_of_le hs (pw hi))) (14 - n)
  rw [show n + (14 - n) = 14 by omega] at h1
  exact h1
def tm (p M a : Nat) : Nat → Nat
  | 0 => 1
  | i + 1 => tm p M a i * (if M.testBit i then (if a.testBit i then p else 10 - p) else 1)
def e1 (M a n : Nat) : Nat := ct (fun i => M.testBit i && a.testBit i) n
def e2 (M a n : Nat) : Nat := ct (fun i => M.testBit i && !(a.testBit i)) n
theorem e12 (M a : Nat) : ∀ n, e1 M a n + e2 M a n = ct (fun i => M.testBit i) n
  | 0 => rfl
  | n + 1 => by
    have h := e12 M a n
    show ct _ n + (if (M.testBit n && a.testBit n) then 1 else 0) + (ct _ n + (if (M.testBit n && !(a.testBit n)) then 1 else 0)) = ct _ n + (if M.testBit n then 1 else 0)
    unfold e1 e2 at h
    cases M.testBit n <;> cases a.testBit n <;> simp <;> omega
theorem tm_pow (p M a : Nat) : ∀ n, tm p M a n = p ^ e1 M a n * (10 - p) ^ e2 M a n
  | 0 => rfl
  | n + 1 => by
    have h := tm_pow p M a n
    have h1 : e1 M a (n + 1) = e1 M a n + (if (M.testBit n && a.testBit n) then 1 else 0) := rfl
    have h2 : e2 M a (n + 1) = e2 M a n + (if (M.testBit n && !(a.testBit n)) then 1 else 0) := rfl
    show tm p M a n * (if M.testBit n then (if a.testBit n then p else 10 - p) else 1) = _
    rw [h1, h2, h]
    cases M.testBit n <;> cases a.testBit n <;> simp [Nat.pow_succ, Nat.mul_assoc, Nat.mul_comm, Nat.mul_left_comm]
theorem tm_le {p M a n : Nat} (hp : p ≤ 10) (h : ct (fun i => M.testBit i) n ≤ 8) : tm p M a n ≤ 100000000 := by
  have h12 := e12 M a n
  rw [tm_pow]
  have h1 : p ^ e1 M a n ≤ 10 ^ e1 M a n := Nat.pow_le_pow_left hp _
  have h2 : (10 - p) ^ e2 M a n ≤ 10 ^ e2 M a n := Nat.pow_le_pow_left (by omega) _
  refine Nat.le_trans (Nat.mul_le_mul h1 h2) ?_
  rw [← Nat.pow_add, h12]
  exact Nat.le_trans (Nat.pow_le_pow_right (by decide) h) (by decide)
def od (c : Nat → Bool) (f : Nat → Nat) : Nat → Nat
  | 0 => 0
  | a + 1 => od c f a + (if c a then f a else 0)
theorem od_le {c : Nat → Bool} {f : Nat → Nat} (hf : ∀ a, f a ≤ 100000000) : ∀ a, od c f a ≤ a * 100000000
  | 0 => Nat.zero_le _
  | a + 1 => by
    have h := od_le (c := c) hf a
    have h1 := hf a
    have e : (a + 1) * 100000000 = a * 100000000 + 100000000 := Nat.succ_mul _ _
    show od c f a + (if c a then f a else 0) ≤ (a + 1) * 100000000
    rw [e]
    by_cases z : c a = true
    · rw [if_pos z]; exact Nat.add_le_add h h1
    · rw [if_neg z]; exact Nat.le_trans h (Nat.le_add_right _ _)
theorem lgc0 {x : Int64} {A B : Prop} (f : x = 0 → A) (g : ¬ x = 0 → B) : (lg_cmp x 0 = 0 → A) ∧ (¬ lg_cmp x 0 = 0 → B) := by
  have key : lg_cmp x 0 = 0 ↔ x = 0 := by
    unfold lg_cmp
    by_cases e : x = 0
    · subst e; simp
    · by_cases e2 : x > 0
      · rw [if_pos e2]; exact ⟨fun z => absurd z (by decide), fun z => absurd z e⟩
      · rw [if_neg e2, if_neg e]; exact ⟨fun z => absurd z (by decide), fun z => absurd z e⟩
  exact ⟨fun z => f (key.mp z), fun z => g (fun q => z (key.mpr q))⟩
theorem lN0 {b : Nat} (hb : b < 9223372036854775808) (h : ¬ lN b = 0) : 0 < b := by
  rcases Nat.eq_zero_or_pos b with z | z
  · subst z; exact absurd rfl h
  · exact z
theorem lNz {b : Nat} (hb : b < 9223372036854775808) (h : lN b = 0) : b = 0 := (pk_lEQ (b := 0) hb (by decide)).mp h
theorem halves {a b : Nat} (hb : 0 < b) (hr : 0 < a % b) : 2 * (b % (a % b)) < b := by
  have h1 := Nat.mod_lt a hb
  have h2 := Nat.mod_lt b hr
  have h3 := Nat.div_add_mod b (a % b)
  have h4 : 1 ≤ b / (a % b) := (Nat.one_le_div_iff hr).mpr (by omega)
  have h5 : a % b ≤ (a % b) * (b / (a % b)) := Nat.le_mul_of_pos_right _ h4
  omega
theorem gcd_st (a b : Nat) : Nat.gcd b (a % b) = Nat.gcd a b := by
  rw [Nat.gcd_comm a b, Nat.gcd_rec b a, Nat.gcd_comm]
theorem s_gcd {Q : Int64 → Prop} {x0 x2 : Int64} : ∀ (j a b i : Nat), b < 2 ^ j → i + 2 * j ≤ 99 → a < 9223372036854775808 → b < 9223372036854775808 → Q (lN (Nat.gcd a b)) → ∃ m, L_LC_commonDivisor_9 x0 x2 Q m (lN a) (lN b) (nI i)
  | 0, a, b, i, hb, hi, ha, hb2, h => by
    have e : b = 0 := by have : 2 ^ 0 = 1 := rfl; omega
    subst e
    rw [Nat.gcd_zero_right] at h
    exact ⟨1, jle (a := 100) (b := i) (by decide) (by omega) (fun _ => h) (fun _ => lgc0 (fun _ => h) (fun z => absurd rfl z))⟩
  | j + 1, a, b, i, hb, hi, ha, hb2, h => by
    by_cases e : b = 0
    · subst e
      rw [Nat.gcd_zero_right] at h
      exact ⟨1, jle (a := 100) (b := i) (by decide) (by omega) (fun _ => h) (fun _ => lgc0 (fun _ => h) (fun z => absurd rfl z))⟩
    · have hbp : 0 < b := by omega
      have hm1 := Nat.mod_lt a hbp
      have nz : ¬ lN b = 0 := fun z => e (lNz hb2 z)
      by_cases e2 : a % b = 0
      · refine ⟨2, jle (a := 100) (b := i) (by decide) (by omega) (fun z => absurd z (by omega)) (fun _ => lgc0 (fun z => absurd z nz) (fun _ => ⟨nz, ?_⟩))⟩
        intro x ex
        rw [pk_lRem ha hbp hb2, e2] at ex
        subst ex
        rw [← gcd_st, e2, Nat.gcd_zero_right] at h
        rw [← nI_succ]
        exact jle (a := 100) (b := i + 1) (by decide) (by omega) (fun z => absurd z (by omega)) (fun _ => lgc0 (fun _ => h) (fun z => absurd rfl z))
      · have hrp : 0 < a % b := by omega
        have hm2 := Nat.mod_lt b hrp
        have hh := halves hbp hrp
        have nz2 : ¬ lN (a % b) = 0 := fun z => e2 (lNz (by omega) z)
        rw [← gcd_st, ← gcd_st] at h
        obtain ⟨m, hm⟩ := s_gcd (Q := Q) (x0 := x0) (x2 := x2) j (a % b) (b % (a % b)) (i + 2) (by rw [Nat.pow_succ] at hb; omega) (by omega) (by omega) (by omega) h
        refine ⟨m + 2, jle (a := 100) (b := i) (by decide) (by omega) (fun z => absurd z (by omega)) (fun _ => lgc0 (fun z => absurd z nz) (fun _ => ⟨nz, ?_⟩))⟩
        intro x ex
        rw [pk_lRem ha hbp hb2] at ex
        subst ex
        rw [← nI_succ]
        refine jle (a := 100) (b := i + 1) (by decide) (by omega) (fun z => absurd z (by omega)) (fun _ => lgc0 (fun z => absurd z nz2) (fun _ => ⟨nz2, ?_⟩))
        intro x ex
        rw [pk_lRem hb2 hrp (by omega)] at ex
        subst ex
        rw [← nI_succ]
        exact hm
theorem s_gcd_M {x1 x2 x3 x4 x5 p c : Int32} {one weight : Nat → Int32} {Q : Int64 → Prop} {x6 x8 : Int64} : ∀ (j a b : Nat), b < 2 ^ j → a < 9223372036854775808 → b < 9223372036854775808 → ((¬ x5 = 0 → B_Mo_odds_265 x1 x2 x3 x4 x5 p c one weight Q (lN (Nat.gcd a b)) x8) ∧ (x5 = 0 → B_Mo_odds_265 x1 x2 x3 x4 x5 p c one weight Q (lN (Nat.gcd a b)) x6)) → ∃ m, L_Mo_odds_228 x1 x2 x3 x4 x5 p c one weight Q m x6 x8 (lN a) (lN b)
  | 0, a, b, hb, ha, hb2, h => by
    have e : b = 0 := by have : 2 ^ 0 = 1 := rfl; omega
    subst e
    rw [Nat.gcd_zero_right] at h
    exact ⟨1, lgc0 (fun _ => h) (fun z => absurd rfl z)⟩
  | j + 1, a, b, hb, ha, hb2, h => by
    by_cases e : b = 0
    · subst e
      rw [Nat.gcd_zero_right] at h
      exact ⟨1, lgc0 (fun _ => h) (fun z => absurd rfl z)⟩
    · have hbp : 0 < b := by omega
      have hm1 := Nat.mod_lt a hbp
      have nz : ¬ lN b = 0 := fun z => e (lNz hb2 z)
      by_cases e2 : a % b = 0
      · refine ⟨2, lgc0 (fun z => absurd z nz) (fun _ => ⟨nz, ?_⟩)⟩
        intro x ex
        rw [pk_lRem ha hbp hb2, e2] at ex
        subst ex
        rw [← gcd_st, e2, Nat.gcd_zero_right] at h
        exact lgc0 (fun _ => h) (fun z => absurd rfl z)
      · have hrp : 0 < a % b := by omega
        have hm2 := Nat.mod_lt b hrp
        have hh := halves hbp hrp
        have nz2 : ¬ lN (a % b) = 0 := fun z => e2 (lNz (by omega) z)
        rw [← gcd_st, ← gcd_st] at h
        obtain ⟨m, hm⟩ := s_gcd_M (x1 := x1) (x2 := x2) (x3 := x3) (x4 := x4) (x5 := x5) (p := p) (c := c) (one := one) (weight := weight) (Q := Q) (x6 := x6) (x8 := x8) j (a % b) (b % (a % b)) (by rw [Nat.pow_succ] at hb; omega) (by omega) (by omega) h
        refine ⟨m + 2, lgc0 (fun z => absurd z nz) (fun _ => ⟨nz, ?_⟩)⟩
        intro x ex
        rw [pk_lRem ha hbp hb2] at ex
        subst ex
        refine lgc0 (fun z => absurd z nz2) (fun _ => ⟨nz2, ?_⟩)
        intro x ex
        rw [pk_lRem hb2 hrp (by omega)] at ex
        subst ex
        exact hm
theorem op_odds {n k : Nat} {w d j y q : Nat → Nat} {x1 x2 x3 x4 x5 aj : Int32} {by_ jud each sums deeds elders fj years pard one mw : Nat → Int32} {K : Int64 → Int32 → (Nat → Int32) → (Nat → Int32) → Int64 → Prop} (hk : k ≤ 12) (hW : ScOK n w each sums) (hMW : WtOK n w mw) (hR : RlOK k d j y q deeds fj years pard) (hE : ElOK k y elders) (hO : OnOK k d j y q one) (hB : CB n k d j y q) (hJ : JInv n (lb w n d y k) j q aj by_ jud)
    (h : ∀ r aj' b' j', JInv n (lb w n d y k) j q aj' b' j' → K r aj' b' j' r) :
    P_LC_odds x1 x2 x3 x4 x5 (nI n) aj by_ jud (nI k) deeds elders fj pard sums (fun r aj' b' j' => P_Mo_odds x1 x2 x3 x4 x5 (nI n) (nI k) one mw (fun r' => K r aj' b' j' r')) := by
  have hn := hW.1
  have h2 := pw10 hn
  refine s_isDeed hn (jb' (fun hx => ?_) (fun hx => s_isDeed hn (jb' (fun hy => ?_) (fun hy => ?_))))
  · exact s_isDeed_M hn (jb' (fun _ => h _ _ _ _ hJ) (fun z => absurd z hx))
  · exact s_isDeed_M hn (jb' (fun z => absurd hx z) (fun _ => s_isDeed_M hn (jb' (fun _ => h _ _ _ _ hJ) (fun z => absurd z hy))))
  obtain ⟨t, ht, rfl⟩ := vp_in_of hx (by omega)
  obtain ⟨M, hM, rfl⟩ := vp_in_of hy (by omega)
  have hbM := bc_le M
  refine s_bitCount (by omega) (jlt (a := 8) (b := bc M) (by decide) (by omega) (fun h8 => ?_) (fun h8 => s_within (jb' (fun hp => ?_) (fun hp => s_isJudgment (jb' (fun hj => ?_) (fun hj => s_within (jb (fun hz => s_isEmpty (by omega) (jb' (fun hk0 => ?_) (fun hk0 => ?_))) (fun hz => ?_))))))))
  · exact s_isDeed_M hn (jb' (fun z => absurd hx z) (fun _ => s_isDeed_M hn (jb' (fun z => absurd hy z) (fun _ => s_bits_M (by omega) (jlt (a := 8) (b := bc M) (by decide) (by omega) (fun _ => h _ _ _ _ hJ) (fun z => absurd z (by omega)))))))
  · exact s_isDeed_M hn (jb' (fun z => absurd hx z) (fun _ => s_isDeed_M hn (jb' (fun z => absurd hy z) (fun _ => s_bits_M (by omega) (jlt (a := 8) (b := bc M) (by decide) (by omega) (fun z => absurd z (by omega)) (fun _ => s_in_M (jb' (fun _ => h _ _ _ _ hJ) (fun z => absurd z hp))))))))
  · exact s_isDeed_M hn (jb' (fun z => absurd hx z) (fun _ => s_isDeed_M hn (jb' (fun z => absurd hy z) (fun _ => s_bits_M (by omega) (jlt (a := 8) (b := bc M) (by decide) (by omega) (fun z => absurd z (by omega)) (fun _ => s_in_M (jb' (fun z => absurd hp z) (fun _ => s_isJudgment_M (jb' (fun _ => h _ _ _ _ hJ) (fun z => absurd z hj))))))))))
  · obtain ⟨p, hp10, rfl⟩ := nI_of2 (M := 10) (n := 10) rfl (Int32.not_lt.mpr hp.1) hp.2
    have hbn := bc_lt hM (show n ≤ 14 by omega)
    generalize hf : (fun a => tm p M a n) = f
    have hfe : ∀ a, tm p M a n = f a := fun a => by rw [← hf]
    have hf8 : ∀ a, f a ≤ 100000000 := fun a => by rw [← hfe]; exact tm_le hp10 (by omega)
    generalize hc : (fun a => tB (dif (t ^^^ a) M = 0 ∧ encJ j q (lb w n d y k a) = x4)) = c
    have hce : ∀ a, (c a = true ↔ (dif (t ^^^ a) M = 0 ∧ encJ j q (lb w n d y k a) = x4)) := fun a => by rw [← hc]; exact tB_t
    have hodl := od_le (c := c) hf8
    have hod : ∀ a, a ≤ 2 ^ n → od c f a < 9223372036854775808 := fun a ha => by have := hodl a; omega
    have h10 : 10 ^ bc M ≤ 100000000 := Nat.le_trans (Nat.pow_le_pow_right (by decide) (show bc M ≤ 8 by omega)) (by decide)
    have h10p : 0 < 10 ^ bc M := Nat.pow_pos (by decide)
    generalize hg : Nat.gcd (od c f (2 ^ n)) (10 ^ bc M) = g
    have hg0 : 0 < g := by rw [← hg]; exact Nat.gcd_pos_of_pos_right _ h10p
    have hgl : g ≤ 100000000 := by rw [← hg]; exact Nat.le_trans (Nat.gcd_le_right _ h10p) h10
    have ngz : ¬ lN g = 0 := fun z => by have := lNz (by omega) z; omega
    refine s_judgeAll hk hW hR hB hE hJ (fun b' j' hJ' => ?_)
    have hm : ∀ r, (x5 = 0 → r = lN (od c f (2 ^ n)) / lN g) → (¬ x5 = 0 → r = lN (10 ^ bc M) / lN g) → P_Mo_odds (nI t) (nI M) (nI p) x4 x5 (nI n) (nI k) one mw (fun r' => K r 1 b' j' r') := by
      intro r g0 g1
      refine s_isDeed_M hn (jb' (fun z => absurd hx z) (fun _ => s_isDeed_M hn (jb' (fun z => absurd hy z) (fun _ => s_bits_M (by omega) (jlt (a := 8) (b := bc M) (by decide) (by omega) (fun z => absurd z (by omega)) (fun _ => s_in_M (jb' (fun z => absurd hp z) (fun _ => s_isJudgment_M (jb' (fun z => absurd hj z) (fun _ => s_in_M (jb (fun _ => jne (a := k) (b := 0) (by omega) (by decide) (fun _ => ?_) (fun z => absurd z hk0)) (fun z => absurd hz z))))))))))))
      generalize hQ : (fun r' => K r 1 b' j' r') = Q
      have hfin : ∃ m, L_Mo_odds_228 (nI t) (nI M) (nI p) x4 x5 (nI n) (nI k) one mw Q m (lN (od c f (2 ^ n))) (lN (10 ^ bc M)) (lN (od c f (2 ^ n))) (lN (10 ^ bc M)) := by
        refine s_gcd_M 27 _ _ (Nat.lt_of_le_of_lt h10 (by decide)) (hod _ (Nat.le_refl _)) (by omega) ?_
        rw [hg]
        refine br_n (fun z => ⟨ngz, ?_⟩) (fun z => ⟨ngz, ?_⟩)
        · rw [← hQ]
          show K r 1 b' j' _
          rw [g1 z]; exact h _ _ _ _ (Or.inr ⟨rfl, hJ'⟩)
        · rw [← hQ]
          show K r 1 b' j' _
          rw [g0 z]; exact h _ _ _ _ (Or.inr ⟨rfl, hJ'⟩)
      refine lpf (fun m i => L_Mo_odds_77 (nI t) (nI M) (nI p) x4 x5 (nI n) (nI k) one mw Q m 0 (lN (10 ^ ct (fun i => M.testBit i) i)) (nI i)) 0 n (Nat.zero_le _) (fun m => ?_) (fun m i _ hi ih => ?_)
      · refine jle (by omega) (by omega) (fun _ => ?_) (fun c => absurd c (by omega))
        rw [← hbn]
        refine lpf (fun m a => L_Mo_odds_116 (nI t) (nI M) (nI p) x4 x5 (nI n) (nI k) one mw Q m (lN (od c f a)) (lN (10 ^ bc M)) (nI a)) 0 (2 ^ n) (Nat.zero_le _) (fun m => ?_) (fun m a _ ha ih => ?_)
        · show L_Mo_odds_116 _ _ _ _ _ _ _ _ _ _ (m + 1) _ _ _
          rw [L_Mo_odds_116]
          exact s_deedMany_M hn (jle (by omega) (by omega) (fun _ => hfin) (fun c => absurd c (by omega)))
        · show L_Mo_odds_116 _ _ _ _ _ _ _ _ _ _ (m + 1) _ _ _
          rw [L_Mo_odds_116]
          have e : od c f (a + 1) = od c f a + (if c a then f a else 0) := rfl
          have hca := hce a
          have hxx := xor_lt ht ha
          have hdl := dif_le (t ^^^ a) M
          have go0 : ¬ c a = true → L_Mo_odds_116 (nI t) (nI M) (nI p) x4 x5 (nI n) (nI k) one mw Q m (lN (od c f a)) (lN (10 ^ bc M)) (nI a + 1) := by
            intro z
            rw [if_neg z] at e
            rw [← nI_succ]
            have ih2 := ih
            rw [e] at ih2
            exact ih2
          refine s_deedMany_M hn (jle (by omega) (by omega) (fun c => absurd c (by omega)) (fun _ => ?_))
          rw [xorI, Nat.xor_comm a t, difI]
          refine jne (a := dif (t ^^^ a) M) (b := 0) (by omega) (by decide) (fun z => go0 (fun q => z (hca.mp q).1)) (fun z => s_judgmentAt_M (by omega) hn hMW ha hO hB (br_n (fun z2 => go0 (fun q => z2 (hca.mp q).2)) (fun z2 => ?_)))
          refine lpf (fun m' i => L_Mo_odds_153 (nI t) (nI M) (nI p) x4 x5 (nI n) (nI k) one mw Q (L_Mo_odds_116 (nI t) (nI M) (nI p) x4 x5 (nI n) (nI k) one mw Q m) m' (lN (od c f a)) (lN (10 ^ bc M)) (nI a) (lN (tm p M a i)) (nI i)) 0 n (Nat.zero_le _) (fun m' => ?_) (fun m' i _ hi ih3 => ?_)
          · refine jle (by omega) (by omega) (fun _ => ?_) (fun c => absurd c (by omega))
            intro x ex
            rw [lN_add, hfe] at ex
            rw [if_pos (hca.mpr ⟨z, z2⟩)] at e
            subst ex
            show L_Mo_odds_116 _ _ _ _ _ _ _ _ _ _ _ _ _ (nI a + 1)
            rw [← nI_succ, ← e]
            exact ih
          · have et : tm p M a (i + 1) = tm p M a i * (if M.testBit i then (if a.testBit i then p else 10 - p) else 1) := rfl
            refine jle (by omega) (by omega) (fun c => absurd c (by omega)) (fun _ => s_has_M (by omega) (by omega) (jb (fun z3 => s_has_M (by omega) (by omega) (jb' (fun z4 => ?_) (fun z4 => ?_))) (fun z3 => ?_)))
            · intro x ex
              rw [nI_l (by omega), show (10 : Int64) = lN 10 from rfl, lN_sub hp10, lN_mul] at ex
              rw [if_pos z3, if_neg z4] at et
              subst ex
              rw [← nI_succ, ← et]; exact ih3
            · intro x ex
              rw [nI_l (by omega), lN_mul] at ex
              rw [if_pos z3, if_pos z4] at et
              subst ex
              rw [← nI_succ, ← et]; exact ih3
            · intro x ex
              rw [show (1 : Int64) = lN 1 from rfl, lN_mul] at ex
              rw [if_neg z3] at et
              subst ex
              rw [← nI_succ, ← et]; exact ih3
      · have e : ct (fun i => M.testBit i) (i + 1) = ct (fun i => M.testBit i) i + (if M.testBit i then 1 else 0) := rfl
        refine jle (by omega) (by omega) (fun c => absurd c (by omega)) (fun _ => s_has_M (by omega) (by omega) (jb' (fun z => ?_) (fun z => ?_)))
        · intro x ex
          rw [show (1 : Int64) = lN 1 from rfl, lN_mul, Nat.mul_one] at ex
          rw [if_neg z] at e
          subst ex
          rw [← nI_succ]
          have ih2 := ih
          rw [e] at ih2
          exact ih2
        · intro x ex
          rw [show (10 : Int64) = lN 10 from rfl, lN_mul, ← Nat.pow_succ] at ex
          rw [if_pos z] at e
          subst ex
          rw [← nI_succ]
          have ih2 := ih
          rw [e] at ih2
          exact ih2
    refine s_bitCount (by omega) ?_
    generalize hQ : (fun r_11 : Int64 => P_Integer_bitCount (nI M) (fun r_12 => P_LC_power 10 r_12 (fun r_13 => P_LC_commonDivisor r_11 r_13 (fun r_14 => ∀ x10_15 : Int64, x10_15 = (if r_14 < 1 then 1 else r_14) → (¬ x5 = 0 → B_LC_odds_137 (nI t) (nI M) (nI p) x4 x5 (nI n) (nI k) deeds elders fj pard sums (fun r aj' b' j' => P_Mo_odds (nI t) (nI M) (nI p) x4 x5 (nI n) (nI k) one mw (fun r' => K r aj' b' j' r')) x10_15 r_13 1 b' j') ∧ (x5 = 0 → B_LC_odds_137 (nI t) (nI M) (nI p) x4 x5 (nI n) (nI k) deeds elders fj pard sums (fun r aj' b' j' => P_Mo_odds (nI t) (nI M) (nI p) x4 x5 (nI n) (nI k) one mw (fun r' => K r aj' b' j' r')) x10_15 r_11 1 b' j'))))) = Q
    have hfin : Q (lN (od c f (2 ^ n))) := by
      rw [← hQ]
      refine s_bitCount (by omega) (s_power (b := 10) (by decide) (by omega) ?_)
      refine s_gcd 27 _ _ 0 (Nat.lt_of_le_of_lt h10 (by decide)) (by decide) (hod _ (Nat.le_refl _)) (by omega) ?_
      rw [hg]
      intro x10 e10
      rw [if_neg (fun z => by have := (pk_lLT (a := g) (b := 1) (by omega) (by decide)).mp z; omega)] at e10
      subst e10
      exact br_n (fun z => ⟨ngz, hm _ (fun q => absurd q z) (fun _ => rfl)⟩) (fun z => ⟨ngz, hm _ (fun _ => rfl) (fun q => absurd z q)⟩)
    refine lpf (fun m a => L_Keeper_likely_12 (nI t) (nI M) (nI p) x4 (nI n) j' Q m (nI (bc M)) (lN (od c f a)) (nI a)) 0 (2 ^ n) (Nat.zero_le _) (fun m => ?_) (fun m a _ ha ih => ?_)
    · show L_Keeper_likely_12 _ _ _ _ _ _ _ (m + 1) _ _ _
      rw [L_Keeper_likely_12]
      exact s_deedCount hn (jle (by omega) (by omega) (fun _ => hfin) (fun c => absurd c (by omega)))
    · show L_Keeper_likely_12 _ _ _ _ _ _ _ (m + 1) _ _ _
      rw [L_Keeper_likely_12]
      have e : od c f (a + 1) = od c f a + (if c a then f a else 0) := rfl
      have hca := hce a
      have hxx := xor_lt ht ha
      have hdl := dif_le (t ^^^ a) M
      have go0 : ¬ c a = true → L_Keeper_likely_12 (nI t) (nI M) (nI p) x4 (nI n) j' Q m (nI (bc M)) (lN (od c f a)) (nI a + 1) := by
        intro z
        rw [if_neg z] at e
        rw [← nI_succ]
        have ih2 := ih
        rw [e] at ih2
        exact ih2
      refine s_deedCount hn (jle (by omega) (by omega) (fun c => absurd c (by omega)) (fun _ => ?_))
      rw [xorI, difI]
      refine jne (a := dif (t ^^^ a) M) (b := 0) (by omega) (by decide) (fun z => br_t rfl (go0 (fun q => z (hca.mp q).1))) (fun z => br_f (by decide) (s_cjudg hn hJ' ha (br_n (fun z2 => go0 (fun q => z2 (hca.mp q).2)) (fun z2 => ?_))))
      rw [andI]
      have hal : a &&& M ≤ a := Nat.and_le_left
      have hbe : bc (a &&& M) = e1 M a n := by
        rw [bc_lt (n := n) (by omega) (by omega)]
        exact ct_cong (fun i _ => by rw [Nat.testBit_and, Bool.and_comm])
      have h12 := e12 M a n
      refine s_bitCount (by omega) ?_
      rw [hbe]
      refine s_power (by omega) (by omega) ?_
      rw [show (10 : Int32) = nI 10 from rfl, pk_sub hp10, pk_sub (by omega), show bc M - e1 M a n = e2 M a n by omega]
      refine s_power (by omega) (by omega) ?_
      intro x ex
      rw [lN_mul, ← tm_pow, hfe, lN_add] at ex
      rw [if_pos (hca.mpr ⟨z, z2⟩)] at e
      subst ex
      show L_Keeper_likely_12 _ _ _ _ _ _ _ _ _ _ (nI a + 1)
      rw [← nI_succ, ← e]
      exact ih
  · exact s_isDeed_M hn (jb' (fun z => absurd hx z) (fun _ => s_isDeed_M hn (jb' (fun z => absurd hy z) (fun _ => s_bits_M (by omega) (jlt (a := 8) (b := bc M) (by decide) (by omega) (fun z => absurd z (by omega)) (fun _ => s_in_M (jb' (fun z => absurd hp z) (fun _ => s_isJudgment_M (jb' (fun z => absurd hj z) (fun _ => s_in_M (jb (fun _ => jne (a := k) (b := 0) (by omega) (by decide) (fun z => absurd hk0 z) (fun _ => h _ _ _ _ hJ)) (fun z => absurd hz z))))))))))))
  · exact s_isDeed_M hn (jb' (fun z => absurd hx z) (fun _ => s_isDeed_M hn (jb' (fun z => absurd hy z) (fun _ => s_bits_M (by omega) (jlt (a := 8) (b := bc M) (by decide) (by omega) (fun z => absurd z (by omega)) (fun _ => s_in_M (jb' (fun z => absurd hp z) (fun _ => s_isJudgment_M (jb' (fun z => absurd hj z) (fun _ => s_in_M (jb (fun z => absurd z hz) (fun _ => h _ _ _ _ hJ))))))))))))
