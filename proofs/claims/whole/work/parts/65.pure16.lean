/-! PURE 16: tokens, the class's side -/
def kd (sz : Nat) (tx : Nat → Nat) (p : Nat) : Nat := if p < sz then (if 97 ≤ tx p ∧ tx p ≤ 122 then 0 else if 48 ≤ tx p ∧ tx p ≤ 57 then 1 else 2) else 2
def sk (sz : Nat) (tx : Nat → Nat) : Nat → Nat → Nat
  | 0, p => p
  | f + 1, p => if tx p = 32 then sk sz tx f (p + 1) else p
def sS (sz : Nat) (tx : Nat → Nat) (e : Nat) : Nat := sk sz tx (sz - e) e
def rn (sz : Nat) (tx : Nat → Nat) (c : Nat) : Nat → Nat → Nat
  | 0, p => p
  | f + 1, p => if kd sz tx p = c then rn sz tx c f (p + 1) else p
def eE (sz : Nat) (tx : Nat → Nat) (s : Nat) : Nat := if s < sz then (if kd sz tx s = 2 then s + 1 else rn sz tx (kd sz tx s) (sz - (s + 1)) (s + 1)) else sz
def TX (sz : Nat) (tx : Nat → Nat) (cb : Nat → Int32) : Prop := sz ≤ 200 ∧ ∀ i, i < sz → cb i = nI (tx i) ∧ tx i < 256
theorem kd_le (sz : Nat) (tx : Nat → Nat) (p : Nat) : kd sz tx p ≤ 2 := by
  unfold kd
  split
  · split
    · omega
    · split <;> omega
  · omega
theorem kd_in {sz : Nat} {tx : Nat → Nat} {p : Nat} (h : kd sz tx p ≠ 2) : p < sz := by
  unfold kd at h
  by_cases c : p < sz
  · exact c
  · rw [if_neg c] at h; exact absurd rfl h
theorem kd0 {sz : Nat} {tx : Nat → Nat} {p : Nat} (h : kd sz tx p = 0) : p < sz ∧ 97 ≤ tx p ∧ tx p ≤ 122 := by
  have hp := kd_in (sz := sz) (tx := tx) (p := p) (by omega)
  unfold kd at h
  rw [if_pos hp] at h
  by_cases c : 97 ≤ tx p ∧ tx p ≤ 122
  · exact ⟨hp, c⟩
  · rw [if_neg c] at h
    by_cases c2 : 48 ≤ tx p ∧ tx p ≤ 57
    · rw [if_pos c2] at h; omega
    · rw [if_neg c2] at h; omega
theorem kd1 {sz : Nat} {tx : Nat → Nat} {p : Nat} (h : kd sz tx p = 1) : p < sz ∧ 48 ≤ tx p ∧ tx p ≤ 57 := by
  have hp := kd_in (sz := sz) (tx := tx) (p := p) (by omega)
  unfold kd at h
  rw [if_pos hp] at h
  by_cases c : 97 ≤ tx p ∧ tx p ≤ 122
  · rw [if_pos c] at h; omega
  · rw [if_neg c] at h
    by_cases c2 : 48 ≤ tx p ∧ tx p ≤ 57
    · exact ⟨hp, c2⟩
    · rw [if_neg c2] at h; omega
theorem kd_0 {sz : Nat} {tx : Nat → Nat} {p : Nat} (hp : p < sz) (h : 97 ≤ tx p ∧ tx p ≤ 122) : kd sz tx p = 0 := by
  unfold kd
  rw [if_pos hp, if_pos h]
theorem kd_1 {sz : Nat} {tx : Nat → Nat} {p : Nat} (hp : p < sz) (h : 48 ≤ tx p ∧ tx p ≤ 57) : kd sz tx p = 1 := by
  unfold kd
  rw [if_pos hp, if_neg (by omega), if_pos h]
theorem kd_2 {sz : Nat} {tx : Nat → Nat} {p : Nat} (hp : p < sz) (h : ¬ (97 ≤ tx p ∧ tx p ≤ 122)) (h2 : ¬ (48 ≤ tx p ∧ tx p ≤ 57)) : kd sz tx p = 2 := by
  unfold kd
  rw [if_pos hp, if_neg h, if_neg h2]
theorem kd_o {sz : Nat} {tx : Nat → Nat} {p : Nat} (hp : ¬ p < sz) : kd sz tx p = 2 := if_neg hp
theorem sk_le {sz : Nat} {tx : Nat → Nat} : ∀ (f p : Nat), p + f = sz → p ≤ sk sz tx f p ∧ sk sz tx f p ≤ sz
  | 0, p, h => ⟨Nat.le_refl _, by show p ≤ sz; omega⟩
  | f + 1, p, h => by
    show p ≤ (if tx p = 32 then sk sz tx f (p + 1) else p) ∧ (if tx p = 32 then sk sz tx f (p + 1) else p) ≤ sz
    by_cases c : tx p = 32
    · rw [if_pos c]
      have := sk_le (sz := sz) (tx := tx) f (p + 1) (by omega)
      omega
    · rw [if_neg c]; omega
theorem sS_le {sz : Nat} {tx : Nat → Nat} {e : Nat} (h : e ≤ sz) : e ≤ sS sz tx e ∧ sS sz tx e ≤ sz := sk_le (sz - e) e (by omega)
theorem rn_le {sz : Nat} {tx : Nat → Nat} {c : Nat} : ∀ (f p : Nat), p + f = sz → p ≤ rn sz tx c f p ∧ rn sz tx c f p ≤ sz ∧ ∀ i, p ≤ i → i < rn sz tx c f p → kd sz tx i = c
  | 0, p, h => ⟨Nat.le_refl _, by show p ≤ sz; omega, fun i a b => absurd b (by show ¬ i < p; omega)⟩
  | f + 1, p, h => by
    show p ≤ (if kd sz tx p = c then rn sz tx c f (p + 1) else p) ∧ (if kd sz tx p = c then rn sz tx c f (p + 1) else p) ≤ sz ∧ ∀ i, p ≤ i → i < (if kd sz tx p = c then rn sz tx c f (p + 1) else p) → kd sz tx i = c
    by_cases z : kd sz tx p = c
    · rw [if_pos z]
      obtain ⟨h1, h2, h3⟩ := rn_le (sz := sz) (tx := tx) (c := c) f (p + 1) (by omega)
      refine ⟨by omega, h2, fun i a b => ?_⟩
      by_cases e : i = p
      · rw [e]; exact z
      · exact h3 i (by omega) b
    · rw [if_neg z]
      exact ⟨Nat.le_refl _, by omega, fun i a b => absurd b (by omega)⟩
theorem eE_le {sz : Nat} {tx : Nat → Nat} {s : Nat} (h : s ≤ sz) : s ≤ eE sz tx s ∧ eE sz tx s ≤ sz ∧ (s < sz → s < eE sz tx s) ∧ (kd sz tx s ≠ 2 → ∀ i, s ≤ i → i < eE sz tx s → kd sz tx i = kd sz tx s) := by
  unfold eE
  by_cases c : s < sz
  · rw [if_pos c]
    by_cases c2 : kd sz tx s = 2
    · rw [if_pos c2]
      exact ⟨by omega, by omega, fun _ => by omega, fun z => absurd c2 z⟩
    · rw [if_neg c2]
      obtain ⟨h1, h2, h3⟩ := rn_le (sz := sz) (tx := tx) (c := kd sz tx s) (sz - (s + 1)) (s + 1) (by omega)
      refine ⟨by omega, h2, fun _ => by omega, fun _ i a b => ?_⟩
      by_cases e : i = s
      · rw [e]
      · exact h3 i (by omega) b
  · rw [if_neg c]
    exact ⟨h, Nat.le_refl _, fun z => absurd z c, fun z => absurd (kd_o c) z⟩
theorem s_byteAt {sz p : Nat} {tx : Nat → Nat} {cb : Nat → Int32} {Q : Int32 → Prop} (hT : TX sz tx cb) (hp : p < sz) (h : Q (nI (tx p))) : P_Text_byteAt (nI p) (nI sz) cb Q := by
  have h1 := hT.1
  refine jneg (by omega) (jle (by omega) (by omega) (fun c => absurd c (by omega)) (fun _ => ⟨vpn (by omega) (by decide), ?_⟩))
  show Q (cb (nI p).toNatClampNeg)
  rw [clI (by omega), (hT.2 p hp).1]
  exact h
theorem s_kindAt {sz p : Nat} {tx : Nat → Nat} {cb : Nat → Int32} {Q : Int32 → Prop} (hT : TX sz tx cb) (hp : p ≤ 400) (h : Q (nI (kd sz tx p))) : P_Text_kindAt (nI p) (nI sz) cb Q := by
  have h1 := hT.1
  refine jneg (by omega) (jle (by omega) (by omega) (fun c => ?_) (fun c => ⟨vpn (by omega) (by decide), ?_⟩))
  · rw [kd_o (by omega)] at h
    exact br_t (by decide) (br_t (by decide) h)
  · rw [clI (by omega), (hT.2 p c).1]
    have h2 := (hT.2 p c).2
    have go : ¬ (97 ≤ tx p ∧ tx p ≤ 122) → B_Text_kindAt_37 (nI p) (nI sz) cb Q (nI (tx p)) := by
      intro z
      refine jlt (a := tx p) (b := 48) (by omega) (by decide) (fun z2 => ?_) (fun z2 => jlt (a := 57) (b := tx p) (by decide) (by omega) (fun z3 => ?_) (fun z3 => ?_))
      · rw [kd_2 c z (by omega)] at h; exact h
      · rw [kd_2 c z (by omega)] at h; exact h
      · rw [kd_1 c (by omega)] at h; exact h
    refine jlt (a := tx p) (b := 97) (by omega) (by decide) (fun z => go (by omega)) (fun z => jlt (a := 122) (b := tx p) (by decide) (by omega) (fun z2 => go (by omega)) (fun z2 => ?_))
    rw [kd_0 c (by omega)] at h
    exact h
theorem s_nextToken {sz e : Nat} {tx : Nat → Nat} {ts : Int32} {cb : Nat → Int32} {Q : Int32 → Int32 → Prop} (hT : TX sz tx cb) (he : e ≤ sz) (h : Q (nI (sS sz tx e)) (nI (eE sz tx (sS sz tx e)))) : P_Text_nextToken (nI sz) ts (nI e) cb Q := by
  have h1 := hT.1
  have key : ∀ s, s ≤ sz → Q (nI s) (nI (eE sz tx s)) → B_Text_nextToken_45 (nI sz) cb Q (nI s) (nI e) := by
    intro s hs hQ
    refine s_kindAt hT (by omega) ?_
    intro x ex
    have hk2 := kd_le sz tx s
    by_cases c : s < sz
    · rw [← nI_succ, if_neg (nI_nlt (by omega) (by omega))] at ex
      subst ex
      by_cases c2 : kd sz tx s = 2
      · have e1 : eE sz tx s = s + 1 := by unfold eE; rw [if_pos c, if_pos c2]
        rw [e1] at hQ
        exact ⟨1, br_c (fun _ => hQ) (fun _ => jeq (a := kd sz tx s) (b := 2) (by omega) (by decide) (fun _ => hQ) (fun z => absurd c2 z))⟩
      · have e1 : eE sz tx s = rn sz tx (kd sz tx s) (sz - (s + 1)) (s + 1) := by unfold eE; rw [if_pos c, if_neg c2]
        rw [e1] at hQ
        have hA := lpd (fun m f => ∀ p, p + f = sz → Q (nI s) (nI (rn sz tx (kd sz tx s) f p)) → L_Text_nextToken_71 (nI sz) cb Q m (nI (kd sz tx s)) (nI s) (nI p)) (sz - (s + 1)) (fun m p hp hq => ?_) (fun m f hf ih p hp hq => ?_)
        · obtain ⟨m, hm⟩ := hA
          exact ⟨m, hm (s + 1) (by omega) hQ⟩
        · exact jle (by omega) (by omega) (fun _ => hq) (fun z => absurd z (by omega))
        · refine jle (by omega) (by omega) (fun z => absurd z (by omega)) (fun _ => jeq (a := kd sz tx s) (b := 2) (by omega) (by decide) (fun z => absurd z c2) (fun _ => s_kindAt hT (by omega) ?_))
          have hkp := kd_le sz tx p
          have e2 : rn sz tx (kd sz tx s) (f + 1) p = if kd sz tx p = kd sz tx s then rn sz tx (kd sz tx s) f (p + 1) else p := rfl
          rw [e2] at hq
          refine jne (by omega) (by omega) (fun z => ?_) (fun z => ?_)
          · rw [if_neg z] at hq; exact hq
          · rw [if_pos z] at hq
            intro x ex
            rw [← nI_succ] at ex
            subst ex
            exact ih (p + 1) (by omega) hq
    · have e0 : s = sz := by omega
      subst e0
      rw [← nI_succ, if_pos (nI_lt (by omega) (by omega))] at ex
      subst ex
      have e1 : eE s tx s = s := by unfold eE; rw [if_neg c]
      rw [e1] at hQ
      exact ⟨1, jle (by omega) (by omega) (fun _ => hQ) (fun z => absurd z (by omega))⟩
  have hA := lpd (fun m f => ∀ p, p + f = sz → Q (nI (sk sz tx f p)) (nI (eE sz tx (sk sz tx f p))) → L_Text_nextToken_8 (nI sz) cb Q m (nI p) (nI e)) (sz - e) (fun m p hp hq => ?_) (fun m f hf ih p hp hq => ?_)
  · obtain ⟨m, hm⟩ := hA
    exact ⟨m, hm e (by omega) h⟩
  · exact jle (by omega) (by omega) (fun _ => key p (by omega) hq) (fun z => absurd z (by omega))
  · have e2 : sk sz tx (f + 1) p = if tx p = 32 then sk sz tx f (p + 1) else p := rfl
    rw [e2] at hq
    have h3 := (hT.2 p (by omega)).2
    refine jle (by omega) (by omega) (fun z => absurd z (by omega)) (fun _ => s_byteAt hT (by omega) (jne (a := tx p) (b := 32) (by omega) (by decide) (fun z => ?_) (fun z => ?_)))
    · rw [if_neg z] at hq
      exact key p (by omega) hq
    · rw [if_pos z] at hq
      intro x ex
      rw [← nI_succ] at ex
      subst ex
      exact ih (p + 1) (by omega) hq
/-- words -/
def wl : List (List Nat) := [[108, 97, 110, 100], [119, 101, 105, 103, 104, 116], [99, 111, 115, 116], [99, 97, 115, 101], [112, 97, 114, 100, 111, 110], [100, 114, 111, 112]]
def wln (k : Nat) : Nat := (wl.getD k []).length
def wch (k i : Nat) : Nat := (wl.getD k []).getD i 0
theorem wl_len : ∀ k, k < 6 → lenJ.getD k 0 = wln k := by decide
theorem wl_len6 : ∀ k, k < 6 → 4 ≤ wln k ∧ wln k ≤ 6 := by decide
theorem wl_ch : ∀ k, k < 6 → ∀ i, i < 6 → i < wln k → chJ k (nI i) = nI (wch k i) := by decide
theorem wl_ch2 : ∀ k, k < 6 → ∀ i, i < 6 → i < wln k → 97 ≤ wch k i ∧ wch k i ≤ 122 := by decide
def wm (tx : Nat → Nat) (k s e : Nat) : Prop := e - s = wln k ∧ ∀ i, i < wln k → tx (s + i) = wch k i
theorem s_isWord {sz k s e : Nat} {tx : Nat → Nat} {cb : Nat → Int32} {Q : Int32 → Prop} (hT : TX sz tx cb) (hk : k < 6) (hs : s ≤ e) (he : e ≤ sz) (h : Q (bI (wm tx k s e))) : P_Text_isWord k (nI sz) (nI s) (nI e) cb Q := by
  have h1 := hT.1
  have hl := wl_len6 k hk
  refine ⟨hk, ?_⟩
  intro r er
  rw [wl_len k hk] at er
  subst er
  rw [pk_sub hs]
  refine jeq (by omega) (by omega) (fun c => ?_) (fun c => ?_)
  · refine lpi (fun m i => L_Text_isWord_20 k (nI sz) (nI s) (nI e) cb Q m (nI i)) (fun i => ∀ i', i' < i → tx (s + i') = wch k i') 0 (wln k) (Nat.zero_le _) (fun i hi => absurd hi (Nat.not_lt_zero i)) (fun m hI => ?_) (fun m i _ hi hI ih => ?_)
    · refine ⟨hk, ?_⟩
      intro r er
      rw [wl_len k hk] at er
      subst er
      refine jle (by omega) (by omega) (fun _ => ?_) (fun z => absurd z (by omega))
      rw [bI_t ⟨c, hI⟩] at h
      exact h
    · refine ⟨hk, ?_⟩
      intro r er
      rw [wl_len k hk] at er
      subst er
      refine jle (by omega) (by omega) (fun z => absurd z (by omega)) (fun _ => ?_)
      rw [nI_add]
      refine s_byteAt hT (by omega) ⟨hk, by rw [wl_len k hk]; exact vpn hi (by omega), ?_⟩
      intro r er
      rw [wl_ch k hk i (by omega) hi] at er
      subst er
      have h2 := (hT.2 (s + i) (by omega)).2
      have h3 := wl_ch2 k hk i (by omega) hi
      refine jeq (by omega) (by omega) (fun z => ?_) (fun z => ?_)
      · rw [← nI_succ]
        refine ih (fun i' hi' => ?_)
        by_cases e : i' = i
        · subst e; exact z
        · exact hI i' (by omega)
      · rw [bI_f (fun q : wm tx k s e => z (q.2 i hi))] at h
        exact h
  · rw [bI_f (fun q : wm tx k s e => c q.1)] at h
    exact h
/-- which word, 6 for none -/
noncomputable def wd (tx : Nat → Nat) (s e : Nat) : Nat := if tB (wm tx 0 s e) then 0 else if tB (wm tx 1 s e) then 1 else if tB (wm tx 2 s e) then 2 else if tB (wm tx 3 s e) then 3 else if tB (wm tx 4 s e) then 4 else if tB (wm tx 5 s e) then 5 else 6
def wdI (k : Nat) : Int32 := if k = 6 then -1 else nI k
theorem s_wordHere {sz s e : Nat} {tx : Nat → Nat} {cb : Nat → Int32} {Q : Int32 → Prop} (hT : TX sz tx cb) (hs : s ≤ e) (he : e ≤ sz) (h : Q (wdI (wd tx s e))) : P_Text_wordHere (nI sz) (nI s) (nI e) cb Q := by
  unfold wd at h
  refine s_isWord hT (by decide) hs he (jb' (fun z0 => ?_) (fun z0 => ?_))
  · rw [tB_nif z0] at h
    refine s_isWord hT (by decide) hs he (jb' (fun z1 => ?_) (fun z1 => ?_))
    · rw [tB_nif z1] at h
      refine s_isWord hT (by decide) hs he (jb' (fun z2 => ?_) (fun z2 => ?_))
      · rw [tB_nif z2] at h
        refine s_isWord hT (by decide) hs he (jb' (fun z3 => ?_) (fun z3 => ?_))
        · rw [tB_nif z3] at h
          refine s_isWord hT (by decide) hs he (jb' (fun z4 => ?_) (fun z4 => ?_))
          · rw [tB_nif z4] at h
            refine s_isWord hT (by decide) hs he (jb' (fun z5 => ?_) (fun z5 => ?_))
            · rw [tB_nif z5] at h; exact h
            · rw [tB_if z5] at h; exact h
          · rw [tB_if z4] at h; exact h
        · rw [tB_if z3] at h; exact h
      · rw [tB_if z2] at h; exact h
    · rw [tB_if z1] at h; exact h
  · rw [tB_if z0] at h; exact h
/-- numbers -/
def vl (tx : Nat → Nat) (s : Nat) : Nat → Nat
  | 0 => 0
  | m + 1 => 10 * vl tx s m + (tx (s + m) - 48)
def nOK (sz : Nat) (tx : Nat → Nat) (s lo hc : Nat) : Prop := kd sz tx s = 1 ∧ eE sz tx s - s ≤ 4 ∧ lo ≤ vl tx s (eE sz tx s - s) ∧ vl tx s (eE sz tx s - s) < hc
theorem vl_lt {tx : Nat → Nat} {s : Nat} : ∀ m, (∀ i, i < m → tx (s + i) ≤ 57) → vl tx s m < 10 ^ m
  | 0, _ => Nat.one_pos
  | m + 1, h => by
    have ih := vl_lt (tx := tx) (s := s) m (fun i hi => h i (by omega))
    have h1 := h m (by omega)
    show 10 * vl tx s m + (tx (s + m) - 48) < 10 ^ (m + 1)
    rw [Nat.pow_succ]
    omega
theorem wit {lo hc v : Nat} (hlo : lo < 2147483648) (hv : v < 2147483648) (hhc : hc < 2147483648) : (nI lo ≤ nI v ∧ nI v ≤ nI hc - 1) ↔ (lo ≤ v ∧ v < hc) := by
  rw [nI_leI hlo hv]
  rcases Nat.eq_zero_or_pos hc with z | z
  · subst z
    have e : (nI 0 - 1 : Int32) = -1 := by decide
    rw [e]
    constructor
    · intro h
      exact absurd (Int32.le_trans (nI_pos' hv) h.2) (by decide)
    · intro h; omega
  · rw [show (1 : Int32) = nI 1 from rfl, pk_sub z, nI_leI hv (by omega)]
    omega
theorem s_fail0 {ts : Int32} {Q : Int32 → Prop} (h : Q ts) : P_Text_fail (-1) ts Q := br_nf rfl h
theorem s_fail1 {tf ts : Int32} {Q : Int32 → Prop} (hf : ¬ tf = -1) (h : Q tf) : P_Text_fail tf ts Q := br_nt hf h
theorem s_number1 {x1 x2 sz_ tf ts te : Int32} {cb : Nat → Int32} {Q : Int32 → Int32 → Int32 → Int32 → Prop} (hf : ¬ tf = -1) (h : Q 0 tf ts te) : P_Text_number x1 x2 sz_ tf ts te cb Q := br_f hf h
theorem s_number {sz e lo hc : Nat} {tx : Nat → Nat} {x1 x2 ts : Int32} {cb : Nat → Int32} {Q : Int32 → Int32 → Int32 → Int32 → Prop} (hT : TX sz tx cb) (he : e ≤ sz) (hlo : lo < 2147483648) (hhc : hc < 2147483648) (hx1 : x1 = nI lo) (hx2 : x2 = nI hc - 1)
    (h1 : nOK sz tx (sS sz tx e) lo hc → Q (nI (vl tx (sS sz tx e) (eE sz tx (sS sz tx e) - sS sz tx e))) (-1) (nI (sS sz tx e)) (nI (eE sz tx (sS sz tx e))))
    (h0 : ¬ nOK sz tx (sS sz tx e) lo hc → Q 0 (nI (sS sz tx e)) (nI (sS sz tx e)) (nI (eE sz tx (sS sz tx e)))) : P_Text_number x1 x2 (nI sz) (-1) ts (nI e) cb Q := by
  have hs := hT.1
  subst hx1 hx2
  refine br_t rfl (s_nextToken hT he ?_)
  have hsS := sS_le (tx := tx) he
  generalize sS sz tx e = s at *
  have hE := eE_le (tx := tx) hsS.2
  have hk2 := kd_le sz tx s
  refine s_kindAt hT (by omega) (jne (a := kd sz tx s) (b := 1) (by omega) (by decide) (fun z => s_fail0 (h0 (fun q => z q.1))) (fun z => ?_))
  rw [pk_sub hE.1]
  refine jle (a := eE sz tx s - s) (b := 4) (by omega) (by decide) (fun z2 => ?_) (fun z2 => s_fail0 (h0 (fun q => by have := q.2.1; omega)))
  have hk := hE.2.2.2 (by omega)
  have hdig : ∀ i, i < eE sz tx s - s → 48 ≤ tx (s + i) ∧ tx (s + i) ≤ 57 := fun i hi => by
    have := hk (s + i) (by omega) (by omega)
    rw [z] at this
    exact (kd1 this).2
  have hvl : ∀ m, m ≤ eE sz tx s - s → vl tx s m < 10000 := fun m hm => Nat.lt_of_lt_of_le (vl_lt m (fun i hi => (hdig i (by omega)).2)) (Nat.pow_le_pow_right (by decide) (show m ≤ 4 by omega))
  have hA := lpf (fun m p => L_Text_number_53 (nI lo) (nI hc - 1) (nI sz) cb Q m (nI (vl tx s (p - s))) (nI p) (-1) (nI s) (nI (eE sz tx s))) s (eE sz tx s) hE.1 (fun m => ?_) (fun m p hp1 hp2 ih => ?_)
  · obtain ⟨m, hm⟩ := hA
    rw [Nat.sub_self] at hm
    exact ⟨m, hm⟩
  · refine jle (by omega) (by omega) (fun _ => s_within ?_) (fun z => absurd z (by omega))
    have hv := hvl _ (Nat.le_refl _)
    rw [bI_c (wit hlo (by omega) hhc)]
    exact jb (fun z3 => h1 ⟨z, z2, z3⟩) (fun z3 => s_fail0 (h0 (fun q => z3 q.2.2)))
  · have hv := hvl (p - s) (by omega)
    have hd := hdig (p - s) (by omega)
    rw [show s + (p - s) = p by omega] at hd
    refine jle (by omega) (by omega) (fun z => absurd z (by omega)) (fun _ => s_byteAt hT (by omega) ?_)
    intro x ex
    have e2 : vl tx s (p + 1 - s) = 10 * vl tx s (p - s) + (tx p - 48) := by
      rw [show p + 1 - s = (p - s) + 1 by omega]
      show 10 * vl tx s (p - s) + (tx (s + (p - s)) - 48) = _
      rw [show s + (p - s) = p by omega]
    rw [show (10 : Int32) = nI 10 from rfl, show (48 : Int32) = nI 48 from rfl, pk_mul, nI_add, pk_sub (by omega), show vl tx s (p - s) * 10 + tx p - 48 = vl tx s (p + 1 - s) by omega] at ex
    subst ex
    rw [← nI_succ]
    exact ih
/-- a deed's figures -/
def rw_ (tx : Nat → Nat) (s : Nat) : Nat → Nat
  | 0 => 0
  | m + 1 => rw_ tx s m ||| ((tx (s + m) - 48) * 2 ^ m)
def rOK (sz : Nat) (tx : Nat → Nat) (s n : Nat) : Prop := kd sz tx s = 1 ∧ eE sz tx s - s = n ∧ ∀ i, i < n → tx (s + i) ≤ 49
theorem rw_lt {tx : Nat → Nat} {s : Nat} : ∀ m, (∀ i, i < m → tx (s + i) ≤ 49) → rw_ tx s m < 2 ^ m
  | 0, _ => Nat.one_pos
  | m + 1, h => by
    have ih := rw_lt (tx := tx) (s := s) m (fun i hi => h i (by omega))
    have h1 := h m (by omega)
    show rw_ tx s m ||| ((tx (s + m) - 48) * 2 ^ m) < 2 ^ (m + 1)
    refine Nat.or_lt_two_pow (Nat.lt_of_lt_of_le ih (pw (by omega))) ?_
    rw [Nat.pow_succ]
    have h2 : (tx (s + m) - 48) * 2 ^ m ≤ 1 * 2 ^ m := Nat.mul_le_mul_right _ (by omega)
    have h3 := pw1 m
    omega
theorem shl01 {f n : Nat} (hf : f ≤ 1) (h : n < 30) : nI f <<< (nI n &&& 31) = nI (f * 2 ^ n) := by
  refine pk_shlN (nI n &&& 31) n (by
    have : ∀ k : Fin 31, ((nI k.val &&& 31).toBitVec.smod 32).toNat = k.val := by decide
    exact this ⟨n, by omega⟩) ?_
  have h2 : f * 2 ^ n ≤ 1 * 2 ^ n := Nat.mul_le_mul_right _ hf
  have h3 : 2 ^ n ≤ 2 ^ 30 := pw (by omega)
  have h4 : (2 : Nat) ^ 30 < 2 ^ 32 := by decide
  omega
theorem s_figures {sz e n : Nat} {tx : Nat → Nat} {ts : Int32} {cb : Nat → Int32} {Q : Int32 → Int32 → Int32 → Int32 → Prop} (hT : TX sz tx cb) (he : e ≤ sz) (hn : n ≤ 10)
    (h1 : rOK sz tx (sS sz tx e) n → Q (nI (rw_ tx (sS sz tx e) n)) (-1) (nI (sS sz tx e)) (nI (eE sz tx (sS sz tx e))))
    (h0 : ¬ rOK sz tx (sS sz tx e) n → Q 0 (nI (sS sz tx e)) (nI (sS sz tx e)) (nI (eE sz tx (sS sz tx e)))) : P_Text_figures (nI sz) (-1) (nI n) ts (nI e) cb Q := by
  have hs := hT.1
  refine s_nextToken hT he ?_
  have hsS := sS_le (tx := tx) he
  generalize sS sz tx e = s at *
  have hE := eE_le (tx := tx) hsS.2
  have hk2 := kd_le sz tx s
  refine s_kindAt hT (by omega) (jne (a := kd sz tx s) (b := 1) (by omega) (by decide) (fun z => s_fail0 (h0 (fun q => z q.1))) (fun z => ?_))
  rw [pk_sub hE.1]
  refine jeq (by omega) (by omega) (fun z2 => ?_) (fun z2 => s_fail0 (h0 (fun q => z2 q.2.1)))
  have hk := hE.2.2.2 (by omega)
  have hdig : ∀ i, i < n → 48 ≤ tx (s + i) ∧ tx (s + i) ≤ 57 := fun i hi => by
    have := hk (s + i) (by omega) (by omega)
    rw [z] at this
    exact (kd1 this).2
  refine lpi (fun m p => L_Text_figures_42 (nI sz) (nI n) cb Q m (nI (rw_ tx s p)) (nI p) (-1) (nI s) (nI (eE sz tx s))) (fun p => ∀ i, i < p → tx (s + i) ≤ 49) 0 n (Nat.zero_le _) (fun i hi => absurd hi (Nat.not_lt_zero i)) (fun m hI => ?_) (fun m p _ hp hI ih => ?_)
  · exact jle (by omega) (by omega) (fun _ => h1 ⟨z, z2, hI⟩) (fun z => absurd z (by omega))
  · have hd := hdig p hp
    refine jle (by omega) (by omega) (fun z => absurd z (by omega)) (fun _ => ?_)
    rw [nI_add]
    refine s_byteAt hT (by omega) ?_
    intro x ex
    rw [show (48 : Int32) = nI 48 from rfl, pk_sub (by omega)] at ex
    subst ex
    refine jle (a := tx (s + p) - 48) (b := 1) (by omega) (by decide) (fun z3 => ?_) (fun z3 => s_fail0 (h0 (fun q => by have := q.2.2 p hp; omega)))
    intro x ex
    rw [shl01 z3 (by omega), orI] at ex
    subst ex
    rw [← nI_succ]
    refine ih (fun i hi => ?_)
    by_cases e : i = p
    · subst e; omega
    · exact hI i (by omega)
