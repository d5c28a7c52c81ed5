/-! PURE 3: the class's Scale and Roll -/
def ScOK (n : Nat) (w : Nat → Nat) (each sums : Nat → Int32) : Prop := n ≤ 10 ∧ (∀ p, p < n → each p = nI (w p) ∧ w p ≤ 9) ∧ ∀ s, s < 2 ^ n → sums s = nI (sw w n s)
theorem ScOK.cong {n : Nat} {w v : Nat → Nat} {e s : Nat → Int32} (h : ScOK n w e s) (hw : ∀ p, p < n → w p = v p) : ScOK n v e s :=
  ⟨h.1, fun p hp => by rw [← hw p hp]; exact h.2.1 p hp, fun a ha => by rw [← sw_cong a hw]; exact h.2.2 a ha⟩
theorem addsub {A v q B : Nat} (h : A + v = B + q) : nI A + (nI v - nI q) = nI B := by
  apply Int32.toBitVec_inj.mp
  rw [Int32.toBitVec_add, Int32.toBitVec_sub, nI_bv, nI_bv, nI_bv, nI_bv]
  apply BitVec.eq_of_toNat_eq
  simp only [BitVec.toNat_add, BitVec.toNat_sub, BitVec.toNat_ofNat]
  omega
theorem s_hasPoint {x : Int32} {n : Nat} {Q : Int32 → Prop} (hn : n < 2147483648) (h : Q (bI (vp_in x n))) : P_Scale_hasPoint x (nI n) Q := by
  refine br_c (fun c => ?_) (fun c => br_c (fun d => ?_) (fun d => ?_))
  · rw [bI_f (vp_out (Or.inl c) hn)] at h; exact ⟨rfl, h⟩
  · rw [bI_f (vp_out (Or.inr d) hn)] at h; exact ⟨rfl, h⟩
  · rw [bI_t (vp_yes c d hn)] at h; exact ⟨rfl, h⟩
theorem s_together {a n : Nat} {w : Nat → Nat} {e s : Nat → Int32} {Q : Int32 → Prop} (hS : ScOK n w e s) (ha : a < 2 ^ n) (h : Q (nI (sw w n a))) : P_Scale_together (nI a) s Q := by
  have h1 := pw10 hS.1
  refine jneg (by omega) (jle (a := 1024) (b := a) (by omega) (by omega) (fun c => absurd c (by omega)) (fun _ => ⟨vpn (by omega) (by omega), ?_⟩))
  show Q (s (nI a).toNatClampNeg)
  rw [clI (by omega), hS.2.2 a ha]
  exact h
theorem s_at {p n : Nat} {w : Nat → Nat} {e s : Nat → Int32} {Q : Int32 → Prop} (hS : ScOK n w e s) (hp : p < n) (h : Q (nI (w p))) : P_Scale_at (nI p) (nI n) e Q := by
  have h1 := hS.1
  refine s_hasPoint (by omega) (jb' (fun c => absurd (vpn hp (by omega)) c) (fun _ => ⟨vpn (by omega) (by decide), ?_⟩))
  show Q (e (nI p).toNatClampNeg)
  rw [clI (by omega), (hS.2.1 p hp).1]
  exact h
theorem s_put {n p v : Nat} {w : Nat → Nat} {each sums : Nat → Int32} {Q : (Nat → Int32) → (Nat → Int32) → Prop} (hS : ScOK n w each sums) (hp : p < n) (hv : v ≤ 9) (h : ∀ e' s', ScOK n (un w p v) e' s' → Q e' s') : P_Scale_put (nI p) (nI v) (nI n) each sums Q := by
  have hn := hS.1
  have h2 := pw10 hn
  obtain ⟨he, hw⟩ := hS.2.1 p hp
  refine s_hasPoint (by omega) (jb (fun _ => ⟨vpn (n := 10) (by omega) (by decide), ?_⟩) (fun c => absurd (vpn hp (by omega)) c))
  intro x3 e3
  rw [clI (by omega), he] at e3
  have e9 : nI (w p) + x3 = nI v := by rw [e3]; exact addsub (by omega)
  refine br_n (fun c => ⟨vpn (n := 10) (by omega) (by decide), ?_⟩) (fun c => ?_)
  · intro x4 e4
    rw [sh1 (by omega), if_neg (nI_nlt (a := 1024) (b := 2 ^ n) h2 (by decide))] at e4
    subst e4
    rw [clI (by omega)]
    have hk := lpf (fun k i => L_Scale_put_49 (nI p) (nI v) (nI n) Q k x3 (nI (2 ^ n)) (nI i) (upd each p (nI v)) (fun s => if s < i ∧ s.testBit p = true then sums s + x3 else sums s)) 0 (2 ^ n) (Nat.zero_le _) (fun k => ?_) (fun k i _ hi ih => ?_)
    · have h0 : (fun s => if s < 0 ∧ s.testBit p = true then sums s + x3 else sums s) = sums := by funext s; simp
      rw [h0] at hk
      exact hk
    · refine jle (by omega) (by omega) (fun _ => h _ _ ⟨hn, fun q hq => ?_, fun s hs => ?_⟩) (fun c => absurd c (by omega))
      · unfold upd
        by_cases e : q = p
        · subst e; rw [if_pos rfl, un_s]; exact ⟨rfl, hv⟩
        · rw [if_neg e, un_n _ e]; exact hS.2.1 q hq
      · have h5 := sw_un (w := w) (v := v) (s := s) hp
        show (if s < 2 ^ n ∧ s.testBit p = true then sums s + x3 else sums s) = _
        by_cases c : s.testBit p = true
        · rw [if_pos ⟨hs, c⟩, hS.2.2 s hs, e3]
          rw [if_pos c, if_pos c] at h5
          exact addsub (by omega)
        · rw [if_neg (fun z => c z.2), hS.2.2 s hs]
          rw [if_neg c, if_neg c] at h5
          rw [show sw w n s = sw (un w p v) n s by omega]
    · refine jle (by omega) (by omega) (fun c => absurd c (by omega)) (fun _ => s_holds (by omega) (by omega) (jb' (fun c => ?_) (fun c => ⟨vpn (by omega) (by decide), vpn (by omega) (by decide), ?_⟩)))
      · show L_Scale_put_49 _ _ _ _ _ _ _ (nI i + 1) _ _
        rw [← nI_succ]
        have e : (fun s => if s < i ∧ s.testBit p = true then sums s + x3 else sums s) = (fun s => if s < i + 1 ∧ s.testBit p = true then sums s + x3 else sums s) := by
          funext s
          by_cases e1 : s = i
          · subst e1; rw [if_neg (fun z => c z.2), if_neg (fun z => c z.2)]
          · by_cases e2 : s < i ∧ s.testBit p = true
            · rw [if_pos e2, if_pos ⟨by omega, e2.2⟩]
            · rw [if_neg e2, if_neg (fun z => e2 ⟨by omega, z.2⟩)]
        rw [e]
        exact ih
      · show L_Scale_put_49 _ _ _ _ _ _ _ (nI i + 1) _ _
        rw [← nI_succ, clI (by omega)]
        have e : upd (fun s => if s < i ∧ s.testBit p = true then sums s + x3 else sums s) i ((if i < i ∧ i.testBit p = true then sums i + x3 else sums i) + x3) = (fun s => if s < i + 1 ∧ s.testBit p = true then sums s + x3 else sums s) := by
          funext s
          unfold upd
          by_cases e1 : s = i
          · subst e1; rw [if_pos rfl, if_neg (fun z => absurd z.1 (by omega)), if_pos ⟨by omega, c⟩]
          · rw [if_neg e1]
            show (if s < i ∧ s.testBit p = true then sums s + x3 else sums s) = _
            by_cases e2 : s < i ∧ s.testBit p = true
            · rw [if_pos e2, if_pos ⟨by omega, e2.2⟩]
            · rw [if_neg e2, if_neg (fun z => e2 ⟨by omega, z.2⟩)]
        rw [e]
        exact ih
  · have e5 : w p = v := by
      rw [c, show (0 : Int32) = nI 0 from rfl, nI_add] at e9
      have := (nI_eq (by omega) (by omega)).mp e9
      omega
    refine h _ _ (hS.cong (fun q hq => ?_))
    by_cases e : q = p
    · subst e; rw [un_s, e5]
    · rw [un_n _ e]
theorem s_scfill {n v : Nat} {t_points : Int32} {each sums : Nat → Int32} {Q : Int32 → (Nat → Int32) → (Nat → Int32) → Prop} (hn : n ≤ 10) (hv : v ≤ 9) (h : ∀ e' s', ScOK n (fun _ => v) e' s' → Q (nI n) e' s') : P_Scale_fill (nI n) (nI v) t_points each sums Q := by
  have h2 := pw10 hn
  intro x1 e1
  rw [if_neg (nI_nlt (a := 10) (b := n) hn (by decide))] at e1
  subst e1
  refine s_fill (by decide) (s_fill (by decide) ?_)
  have z0 : ∀ (m s : Nat), sw (fun p => if p < 0 then v else 0) m s = 0 := by
    intro m s
    induction m with
    | zero => rfl
    | succ m ih =>
      show sw _ m s + _ = 0
      rw [ih]
      simp
  have hk := lpf (fun k i => ∀ e s, ScOK n (fun p => if p < i then v else 0) e s → L_Scale_fill_31 (nI n) (nI v) Q k (nI i) (nI n) e s) 0 n (Nat.zero_le _) (fun k e s hS => ?_) (fun k i _ hi ih e s hS => ?_)
  · obtain ⟨k, hk⟩ := hk
    refine ⟨k, hk _ _ ⟨hn, fun p hp => ⟨?_, ?_⟩, fun s hs => ?_⟩⟩
    · show (if p < 10 then 0 else each p) = nI (if p < 0 then v else 0)
      rw [if_pos (show p < 10 by omega), if_neg (Nat.not_lt_zero p)]; rfl
    · simp
    · show (if s < 1024 then 0 else sums s) = _
      rw [if_pos (show s < 1024 by omega), z0]; rfl
  · exact jle (by omega) (by omega) (fun _ => h _ _ (hS.cong (fun p hp => if_pos hp))) (fun c => absurd c (by omega))
  · refine jle (by omega) (by omega) (fun c => absurd c (by omega)) (fun _ => s_put hS hi hv (fun e' s' hS' => ?_))
    show L_Scale_fill_31 _ _ _ _ (nI i + 1) _ _ _
    rw [← nI_succ]
    refine ih _ _ (hS'.cong (fun p hp => ?_))
    by_cases e : p = i
    · subst e; rw [un_s, if_pos (by omega)]
    · rw [un_n _ e]
      by_cases e2 : p < i
      · rw [if_pos e2, if_pos (by omega)]
      · rw [if_neg e2, if_neg (by omega)]
/-- the roll -/
def CB (n k : Nat) (d j y q : Nat → Nat) : Prop := ∀ i, i < k → d i < 2 ^ n ∧ j i ≤ 3 ∧ y i ≤ 9999 ∧ q i ≤ 1
def RlOK (k : Nat) (d j y q : Nat → Nat) (deeds fj years pard : Nat → Int32) : Prop := ∀ i, i < k → deeds i = nI (d i) ∧ fj i = nI (j i) ∧ years i = nI (y i) ∧ pard i = nI (q i)
def ElOK (k : Nat) (y : Nat → Nat) (elders : Nat → Int32) : Prop := ∀ i, i < k → elders i = nI (es y k i)
theorem s_rhas {x : Int32} {n : Nat} {Q : Int32 → Prop} (hn : n < 2147483648) (h : Q (bI (vp_in x n))) : P_Roll_has x (nI n) Q := by
  refine br_c (fun c => ?_) (fun c => br_c (fun d => ?_) (fun d => ?_))
  · rw [bI_f (vp_out (Or.inl c) hn)] at h; exact ⟨rfl, h⟩
  · rw [bI_f (vp_out (Or.inr d) hn)] at h; exact ⟨rfl, h⟩
  · rw [bI_t (vp_yes c d hn)] at h; exact ⟨rfl, h⟩
theorem upd_s (f : Nat → Int32) (k : Nat) (x : Int32) : upd f k x k = x := if_pos rfl
theorem upd_n (f : Nat → Int32) {k j : Nat} {x : Int32} (h : j ≠ k) : upd f k x j = f j := if_neg h
theorem s_findElders {k : Nat} {y : Nat → Nat} {elders years : Nat → Int32} {Q : (Nat → Int32) → Prop} (hk : k ≤ 12) (hy : ∀ i, i < k → years i = nI (y i) ∧ y i ≤ 9999) (h : ∀ e', ElOK k y e' → Q e') : P_Roll_findElders (nI k) elders years Q := by
  have hA := lpf (fun m i => ∀ e, (∀ a, a < i → e a = nI (es y k a)) → L_Roll_findElders_2 (nI k) years Q m (nI i) e) 0 k (Nat.zero_le _) (fun m e he => ?_) (fun m i _ hi ih e he => ?_)
  · obtain ⟨m, hm⟩ := hA
    exact ⟨m, hm _ (fun a ha => absurd ha (Nat.not_lt_zero a))⟩
  · exact jle (by omega) (by omega) (fun _ => h _ he) (fun c => absurd c (by omega))
  · refine jle (by omega) (by omega) (fun c => absurd c (by omega)) (fun _ => ⟨vpn (by omega) (by decide), ?_⟩)
    rw [clI (by omega)]
    have hB := lpf (fun m' o => ∀ e, (∀ a, a < i → e a = nI (es y k a)) → e i = nI (es y o i) → L_Roll_findElders_19 (nI k) years Q (L_Roll_findElders_2 (nI k) years Q m) m' (nI i) (nI o) e) 0 k (Nat.zero_le _) (fun m' e he hi2 => ?_) (fun m' o _ ho ih2 e he hi2 => ?_)
    · obtain ⟨m', hm'⟩ := hB
      exact ⟨m', hm' _ (fun a ha => by rw [upd_n _ (by omega)]; exact he a ha) (upd_s _ _ _)⟩
    · refine jle (by omega) (by omega) (fun _ => ?_) (fun c => absurd c (by omega))
      rw [← nI_succ]
      refine ih e (fun a ha => ?_)
      by_cases c : a = i
      · rw [c]; exact hi2
      · exact he a (by omega)
    · have hi1 := hy i hi
      have ho1 := hy o ho
      have ees : es y (o + 1) i = es y o i ||| (if eldB y o i then 2 ^ o else 0) := rfl
      have hes := Nat.lt_of_lt_of_le (es_lt y o i) (pw12 (n := o) (by omega))
      have h2o := pw12 (n := o) (by omega)
      have go74 : eldB y o i = false → B_Roll_findElders_74 (nI k) years Q (L_Roll_findElders_2 (nI k) years Q m) (L_Roll_findElders_19 (nI k) years Q (L_Roll_findElders_2 (nI k) years Q m) m') (nI i) (nI o) e := by
        intro hf
        show L_Roll_findElders_19 _ _ _ _ _ _ (nI o + 1) _
        rw [← nI_succ]
        refine ih2 e he ?_
        rw [ees, hf, hi2]
        simp
      have go62 : eldB y o i = true → B_Roll_findElders_62 (nI k) years Q (L_Roll_findElders_2 (nI k) years Q m) (L_Roll_findElders_19 (nI k) years Q (L_Roll_findElders_2 (nI k) years Q m) m') (nI i) (nI o) e := by
        intro hf
        refine ⟨vpn (by omega) (by decide), vpn (by omega) (by decide), ?_⟩
        show L_Roll_findElders_19 _ _ _ _ _ _ (nI o + 1) _
        rw [← nI_succ, clI (by omega), sh1 (by omega)]
        refine ih2 _ (fun a ha => by rw [upd_n _ (by omega)]; exact he a ha) ?_
        rw [upd_s, hi2, orI, ees, if_pos hf]
      refine jle (by omega) (by omega) (fun c => absurd c (by omega)) (fun _ => ⟨vpn (by omega) (by decide), vpn (by omega) (by decide), ?_⟩)
      rw [clI (by omega), clI (by omega), hi1.1, ho1.1]
      refine jlt (by omega) (by omega) (fun c => go62 (eldB_t.mpr (Or.inl c))) (fun c => ⟨vpn (by omega) (by decide), vpn (by omega) (by decide), ?_⟩)
      refine jne (by omega) (by omega) (fun c2 => go74 (Bool.eq_false_iff.mpr (fun z => by rcases eldB_t.mp z with z | z <;> omega))) (fun c2 => ?_)
      exact jle (by omega) (by omega) (fun c3 => go74 (Bool.eq_false_iff.mpr (fun z => by rcases eldB_t.mp z with z | z <;> omega))) (fun c3 => go62 (eldB_t.mpr (Or.inr ⟨c2, c3⟩)))
theorem vnb (x : Int32) (h : x = 0 ∨ x = 1) : vp_nar .boolean x = x := by rcases h with rfl | rfl <;> decide
theorem nI_01 {q : Nat} (h : q ≤ 1) : nI q = 0 ∨ nI q = 1 := by rcases (show q = 0 ∨ q = 1 by omega) with rfl | rfl; exact Or.inl rfl; exact Or.inr rfl
theorem s_append {n k : Nat} {d j y q : Nat → Nat} {a b c : Nat} {deeds elders fj pard years : Nat → Int32} {Q : Int32 → (Nat → Int32) → (Nat → Int32) → (Nat → Int32) → (Nat → Int32) → (Nat → Int32) → Prop}
    (hk : k < 12) (hR : RlOK k d j y q deeds fj years pard) (hB : CB n k d j y q) (hc : c ≤ 9999)
    (h : ∀ D E F P Y, RlOK (k + 1) (un d k a) (un j k b) (un y k c) (un q k 0) D F Y P → ElOK (k + 1) (un y k c) E → Q (nI (k + 1)) D E F P Y) :
    P_Roll_append (nI a) (nI b) (nI c) (nI k) deeds elders fj pard years Q := by
  have hv : vp_in (nI k) 12 := vpn hk (by decide)
  refine jlt (a := k) (b := 12) (by omega) (by decide) (fun _ => ⟨hv, hv, hv, hv, ?_⟩) (fun z => absurd z (by omega))
  intro x ex
  rw [← nI_succ] at ex
  subst ex
  rw [clI (by omega)]
  have hR2 : RlOK (k + 1) (un d k a) (un j k b) (un y k c) (un q k 0) (upd deeds k (nI a)) (upd fj k (nI b)) (upd years k (nI c)) (upd pard k (vp_nar .boolean 0)) := by
    intro i hi
    by_cases e : i = k
    · subst e
      rw [upd_s, upd_s, upd_s, upd_s, un_s, un_s, un_s, un_s]
      exact ⟨rfl, rfl, rfl, vnb 0 (Or.inl rfl)⟩
    · simp only [upd_n _ e, un_n _ e]
      exact hR i (by omega)
  refine s_findElders (k := k + 1) (y := un y k c) (by omega) (fun i hi => ⟨(hR2 i hi).2.2.1, ?_⟩) (fun e' he => h _ _ _ _ _ hR2 he)
  by_cases e : i = k
  · subst e; rw [un_s]; exact hc
  · rw [un_n _ e]; exact (hB i (by omega)).2.2.1
/-- a case taken out -/
def dn (f : Nat → Nat) (a : Nat) : Nat → Nat := fun i => if i < a then f i else f (i + 1)
def dI (f : Nat → Int32) (a i : Nat) : Nat → Int32 := fun m => if a ≤ m ∧ m < i then f (m + 1) else f m
theorem dI_step (f : Nat → Int32) {a i : Nat} (h : a ≤ i) (g : Int32 → Int32) (hg : g (f (i + 1)) = f (i + 1)) : upd (dI f a i) i (g (dI f a i (i + 1))) = dI f a (i + 1) := by
  funext m
  unfold upd dI
  by_cases e : m = i
  · subst e
    rw [if_pos rfl, if_neg (by omega), if_pos ⟨h, by omega⟩]
    exact hg
  · rw [if_neg e]
    by_cases c : a ≤ m ∧ m < i
    · rw [if_pos c, if_pos ⟨c.1, by omega⟩]
    · rw [if_neg c, if_neg (fun z => c ⟨z.1, by omega⟩)]
theorem s_copyCase_s {x z : Nat} {D F P Y : Nat → Int32} {Q : (Nat → Int32) → (Nat → Int32) → (Nat → Int32) → (Nat → Int32) → Prop} (hx : x < 12) (hz : z < 12) (h : Q (upd D z (D x)) (upd F z (F x)) (upd P z (vp_nar .boolean (P x))) (upd Y z (Y x))) : P_Roll_copyCase_s (nI x) (nI z) D F P Y Q := by
  have h1 : vp_in (nI x) 12 := vpn hx (by decide)
  have h2 : vp_in (nI z) 12 := vpn hz (by decide)
  refine jneg (by omega) (jle (a := 12) (b := x) (by decide) (by omega) (fun c => absurd c (by omega)) (fun _ => jneg (by omega) (jlt (a := z) (b := 12) (by omega) (by decide) (fun _ => ⟨h1, h2, h1, h2, h1, h2, h1, h2, ?_⟩) (fun c => absurd c (by omega)))))
  rw [clI (by omega), clI (by omega)]
  exact h
theorem s_copyCase {x z : Nat} {D F P Y D2 F2 P2 Y2 : Nat → Int32} {Q : (Nat → Int32) → (Nat → Int32) → (Nat → Int32) → (Nat → Int32) → Prop} (hx : x < 12) (hz : z < 12) (h : Q (upd D z (D2 x)) (upd F z (F2 x)) (upd P z (vp_nar .boolean (P2 x))) (upd Y z (Y2 x))) : P_Roll_copyCase (nI x) (nI z) D F P Y D2 F2 P2 Y2 Q := by
  have h1 : vp_in (nI x) 12 := vpn hx (by decide)
  have h2 : vp_in (nI z) 12 := vpn hz (by decide)
  refine jneg (by omega) (jle (a := 12) (b := x) (by decide) (by omega) (fun c => absurd c (by omega)) (fun _ => jneg (by omega) (jlt (a := z) (b := 12) (by omega) (by decide) (fun _ => ⟨h1, h2, h1, h2, h1, h2, h1, h2, ?_⟩) (fun c => absurd c (by omega)))))
  rw [clI (by omega), clI (by omega)]
  exact h
theorem s_remove {n k a : Nat} {d j y q : Nat → Nat} {deeds elders fj pard years : Nat → Int32} {Q : Int32 → (Nat → Int32) → (Nat → Int32) → (Nat → Int32) → (Nat → Int32) → (Nat → Int32) → Prop}
    (hk : k ≤ 12) (ha : a < k) (hR : RlOK k d j y q deeds fj years pard) (hB : CB n k d j y q)
    (h : ∀ D E F P Y, RlOK (k - 1) (dn d a) (dn j a) (dn y a) (dn q a) D F Y P → ElOK (k - 1) (dn y a) E → Q (nI (k - 1)) D E F P Y) :
    P_Roll_remove (nI a) (nI k) deeds elders fj pard years Q := by
  refine s_rhas (by omega) (jb (fun _ => ?_) (fun c => absurd (vpn ha (by omega)) c))
  have hA := lpf (fun m i => L_Roll_remove_11 (nI a) Q m (nI i) (nI k) (dI deeds a i) elders (dI fj a i) (dI pard a i) (dI years a i)) a (k - 1) (by omega) (fun m => ?_) (fun m i hai hi ih => ?_)
  · have e0 : ∀ f : Nat → Int32, dI f a a = f := fun f => by funext m; exact if_neg (by omega)
    rw [e0, e0, e0, e0] at hA
    exact hA
  · refine br_c (fun _ => ?_) (fun c => absurd (by rw [← nI_succ]; exact nI_le (by omega) (by omega)) c)
    intro x ex
    rw [show (1 : Int32) = nI 1 from rfl, pk_sub (by omega)] at ex
    subst ex
    have hR2 : RlOK (k - 1) (dn d a) (dn j a) (dn y a) (dn q a) (dI deeds a (k - 1)) (dI fj a (k - 1)) (dI years a (k - 1)) (dI pard a (k - 1)) := by
      intro i hi
      unfold dn dI
      by_cases c : i < a
      · simp only [if_pos c, if_neg (show ¬ (a ≤ i ∧ i < k - 1) by omega)]
        exact hR i (by omega)
      · simp only [if_neg c, if_pos (show a ≤ i ∧ i < k - 1 by omega)]
        exact hR (i + 1) (by omega)
    refine s_findElders (k := k - 1) (y := dn y a) (by omega) (fun i hi => ⟨(hR2 i hi).2.2.1, ?_⟩) (fun e' he => h _ _ _ _ _ hR2 he)
    unfold dn
    by_cases c : i < a
    · rw [if_pos c]; exact (hB i (by omega)).2.2.1
    · rw [if_neg c]; exact (hB (i + 1) (by omega)).2.2.1
  · refine br_c (fun c => absurd (by rw [← nI_succ] at c; exact (nI_leI (by omega) (by omega)).mp c) (by omega)) (fun _ => ?_)
    rw [← nI_succ]
    refine s_copyCase_s (by omega) (by omega) ?_
    have hq : vp_nar .boolean (pard (i + 1)) = pard (i + 1) := by
      rw [(hR (i + 1) (by omega)).2.2.2]
      exact vnb _ (nI_01 (hB (i + 1) (by omega)).2.2.2)
    have s1 := dI_step deeds hai id rfl
    have s2 := dI_step fj hai id rfl
    have s3 := dI_step years hai id rfl
    simp only [id] at s1 s2 s3
    rw [s1, s2, s3, dI_step pard hai (vp_nar .boolean) hq]
    exact ih
theorem s_copyFrom {n k : Nat} {d j y q : Nat → Nat} {t_size : Int32} {deeds elders fj pard years D2 F2 P2 Y2 : Nat → Int32} {Q : Int32 → (Nat → Int32) → (Nat → Int32) → (Nat → Int32) → (Nat → Int32) → (Nat → Int32) → Prop}
    (hk : k ≤ 12) (hR : RlOK k d j y q D2 F2 Y2 P2) (hB : CB n k d j y q)
    (h : ∀ D E F P Y, RlOK k d j y q D F Y P → ElOK k y E → Q (nI k) D E F P Y) :
    P_Roll_copyFrom t_size deeds elders fj pard years (nI k) D2 F2 P2 Y2 Q := by
  intro x ex
  rw [if_neg (show ¬ (12 : Int32) < nI k from nI_nlt (a := 12) (b := k) hk (by decide))] at ex
  subst ex
  have hA := lpf (fun m i => ∀ D F P Y, (∀ a, a < i → D a = nI (d a) ∧ F a = nI (j a) ∧ Y a = nI (y a) ∧ P a = nI (q a)) → L_Roll_copyFrom_15 (nI k) D2 F2 P2 Y2 Q m (nI i) (nI k) D elders F P Y) 0 k (Nat.zero_le _) (fun m D F P Y hh => ?_) (fun m i _ hi ih D F P Y hh => ?_)
  · obtain ⟨m, hm⟩ := hA
    exact ⟨m, hm _ _ _ _ (fun a ha => absurd ha (Nat.not_lt_zero a))⟩
  · refine jle (by omega) (by omega) (fun _ => ?_) (fun c => absurd c (by omega))
    exact s_findElders (y := y) hk (fun i hi => ⟨(hh i hi).2.2.1, (hB i hi).2.2.1⟩) (fun e' he => h _ _ _ _ _ hh he)
  · refine jle (by omega) (by omega) (fun c => absurd c (by omega)) (fun _ => s_copyCase (by omega) (by omega) ?_)
    show L_Roll_copyFrom_15 _ _ _ _ _ _ _ (nI i + 1) _ _ _ _ _ _
    rw [← nI_succ]
    refine ih _ _ _ _ (fun a ha => ?_)
    by_cases e : a = i
    · subst e
      obtain ⟨h1, h2, h3, h4⟩ := hR a hi
      simp only [upd_s]
      exact ⟨h1, h2, h3, by rw [h4]; exact vnb _ (nI_01 (hB a hi).2.2.2)⟩
    · simp only [upd_n _ e]
      exact hh a (by omega)
