/-! PURE 2: weights of sets, elders, the likest case: plain mathematics -/
def un (f : Nat → Nat) (k v : Nat) : Nat → Nat := fun j => if j = k then v else f j
theorem un_s (f : Nat → Nat) (k v : Nat) : un f k v k = v := if_pos rfl
theorem un_n (f : Nat → Nat) {k v j : Nat} (h : j ≠ k) : un f k v j = f j := if_neg h
def sw (w : Nat → Nat) : Nat → Nat → Nat
  | 0, _ => 0
  | n + 1, s => sw w n s + (if s.testBit n then w n else 0)
def lk (w : Nat → Nat) : Nat → Nat → Nat
  | 0, _ => 0
  | n + 1, s => lk w n s + (if s.testBit n then 0 else w n)
def tt (w : Nat → Nat) : Nat → Nat
  | 0 => 0
  | n + 1 => tt w n + w n
theorem sw_lk (w : Nat → Nat) (s : Nat) : ∀ n, sw w n s + lk w n s = tt w n
  | 0 => rfl
  | n + 1 => by
    have h := sw_lk w s n
    show sw w n s + (if s.testBit n then w n else 0) + (lk w n s + (if s.testBit n then 0 else w n)) = tt w n + w n
    by_cases c : s.testBit n = true
    · rw [if_pos c, if_pos c]; omega
    · rw [if_neg c, if_neg c]; omega
theorem tt_le {w : Nat → Nat} : ∀ {n : Nat}, (∀ p, p < n → w p ≤ 9) → tt w n ≤ 9 * n
  | 0, _ => Nat.le_refl 0
  | n + 1, h => by
    have h1 := tt_le (n := n) (fun p hp => h p (by omega))
    have h2 := h n (by omega)
    show tt w n + w n ≤ 9 * (n + 1)
    omega
theorem sw_le {w : Nat → Nat} {n s : Nat} (h : ∀ p, p < n → w p ≤ 9) : sw w n s ≤ 9 * n := by
  have h1 := sw_lk w s n
  have h2 := tt_le h
  omega
theorem lk_le {w : Nat → Nat} {n s : Nat} (h : ∀ p, p < n → w p ≤ 9) : lk w n s ≤ 9 * n := by
  have h1 := sw_lk w s n
  have h2 := tt_le h
  omega
theorem sw_cong {w v : Nat → Nat} (s : Nat) : ∀ {n : Nat}, (∀ p, p < n → w p = v p) → sw w n s = sw v n s
  | 0, _ => rfl
  | n + 1, h => by
    show sw w n s + (if s.testBit n then w n else 0) = sw v n s + (if s.testBit n then v n else 0)
    rw [sw_cong s (fun p hp => h p (by omega)), h n (by omega)]
theorem sw_un {w : Nat → Nat} {p v s : Nat} : ∀ {n : Nat}, p < n → sw (un w p v) n s + (if s.testBit p then w p else 0) = sw w n s + (if s.testBit p then v else 0)
  | 0, h => absurd h (Nat.not_lt_zero p)
  | n + 1, h => by
    show sw (un w p v) n s + (if s.testBit n then un w p v n else 0) + _ = sw w n s + (if s.testBit n then w n else 0) + _
    by_cases hp : p = n
    · subst hp
      rw [un_s, sw_cong (v := w) s (fun q hq => un_n w (by omega))]
      omega
    · have h1 := sw_un (w := w) (p := p) (v := v) (s := s) (n := n) (by omega)
      rw [un_n w (fun z => hp z.symm)]
      omega
theorem tb_full {n p : Nat} (h : p < n) : (2 ^ n - 1).testBit p = true := by
  rw [Nat.testBit_two_pow_sub_one]; exact decide_eq_true h
theorem sw_fullA (w : Nat → Nat) {m : Nat} : ∀ n, n ≤ m → sw w n (2 ^ m - 1) = tt w n
  | 0, _ => rfl
  | n + 1, h => by
    show sw w n (2 ^ m - 1) + (if (2 ^ m - 1).testBit n then w n else 0) = tt w n + w n
    rw [if_pos (tb_full (by omega)), sw_fullA w n (by omega)]
theorem sw_full (w : Nat → Nat) (n : Nat) : sw w n (2 ^ n - 1) = tt w n := sw_fullA w n (Nat.le_refl n)
theorem xor_lt {a b n : Nat} (ha : a < 2 ^ n) (hb : b < 2 ^ n) : a ^^^ b < 2 ^ n := Nat.xor_lt_two_pow ha hb
/-- elders -/
def eldB (y : Nat → Nat) (a b : Nat) : Bool := decide (y a < y b) || (decide (y a = y b) && decide (a < b))
theorem eldB_t {y : Nat → Nat} {a b : Nat} : eldB y a b = true ↔ (y a < y b ∨ (y a = y b ∧ a < b)) := by
  simp [eldB]
def es (y : Nat → Nat) : Nat → Nat → Nat
  | 0, _ => 0
  | k + 1, i => es y k i ||| (if eldB y k i then 2 ^ k else 0)
theorem es_bit (y : Nat → Nat) (i : Nat) : ∀ (k o : Nat), (es y k i).testBit o = (decide (o < k) && eldB y o i)
  | 0, o => by simp [es]
  | k + 1, o => by
    show (es y k i ||| (if eldB y k i then 2 ^ k else 0)).testBit o = _
    rw [Nat.testBit_or, es_bit y i k o]
    by_cases c : eldB y k i = true
    · rw [if_pos c, Nat.testBit_two_pow]
      by_cases e : k = o
      · subst e; simp [c]
      · by_cases l : o < k
        · simp [l, e, show o < k + 1 by omega]
        · simp [l, e, show ¬ o < k + 1 by omega]
    · rw [if_neg c, Nat.zero_testBit, Bool.or_false]
      by_cases e : k = o
      · subst e; simp [Bool.eq_false_iff.mpr c]
      · by_cases l : o < k
        · simp [l, show o < k + 1 by omega]
        · simp [l, show ¬ o < k + 1 by omega]
theorem es_lt (y : Nat → Nat) (k i : Nat) : es y k i < 2 ^ k := by
  induction k with
  | zero => exact Nat.one_pos
  | succ k ih =>
    show es y k i ||| (if eldB y k i then 2 ^ k else 0) < 2 ^ (k + 1)
    refine Nat.or_lt_two_pow (Nat.lt_of_lt_of_le ih (pw (by omega))) ?_
    by_cases c : eldB y k i = true
    · rw [if_pos c]; exact Nat.pow_lt_pow_right (by decide) (by omega)
    · rw [if_neg c]; exact Nat.lt_of_lt_of_le Nat.one_pos (pw1 _)
theorem es_cong {y z : Nat → Nat} {i : Nat} : ∀ {k : Nat}, (∀ o, o < k → y o = z o) → y i = z i → es y k i = es z k i
  | 0, _, _ => rfl
  | k + 1, h, hi => by
    show es y k i ||| (if eldB y k i then 2 ^ k else 0) = es z k i ||| (if eldB z k i then 2 ^ k else 0)
    have e : eldB y k i = eldB z k i := by unfold eldB; rw [h k (by omega), hi]
    rw [es_cong (fun o ho => h o (by omega)) hi, e]
/-- the likest case of a set -/
def bst (U : Nat → Nat) (E : Nat → Nat → Bool) (S : Nat → Bool) : Nat → Option Nat
  | 0 => none
  | k + 1 => if S k then (match bst U E S k with
    | none => some k
    | some b => if U k < U b ∨ (U k = U b ∧ E k b = true) then some k else some b) else bst U E S k
def enc : Option Nat → Int32
  | none => -1
  | some b => nI b
theorem bst_no {U : Nat → Nat} {E : Nat → Nat → Bool} {S : Nat → Bool} {k : Nat} (h : S k = false) : bst U E S (k + 1) = bst U E S k := by
  show (if S k then _ else _) = _
  rw [h]; rfl
theorem bst_first {U : Nat → Nat} {E : Nat → Nat → Bool} {S : Nat → Bool} {k : Nat} (h : S k = true) (hb : bst U E S k = none) : bst U E S (k + 1) = some k := by
  show (if S k then _ else _) = _
  rw [if_pos h, hb]
theorem bst_new {U : Nat → Nat} {E : Nat → Nat → Bool} {S : Nat → Bool} {k b : Nat} (h : S k = true) (hb : bst U E S k = some b) (hc : U k < U b ∨ (U k = U b ∧ E k b = true)) : bst U E S (k + 1) = some k := by
  show (if S k then _ else _) = _
  rw [if_pos h, hb]
  exact if_pos hc
theorem bst_old {U : Nat → Nat} {E : Nat → Nat → Bool} {S : Nat → Bool} {k b : Nat} (h : S k = true) (hb : bst U E S k = some b) (hc : ¬ (U k < U b ∨ (U k = U b ∧ E k b = true))) : bst U E S (k + 1) = some b := by
  show (if S k then _ else _) = _
  rw [if_pos h, hb]
  exact if_neg hc
theorem bst_in {U : Nat → Nat} {E : Nat → Nat → Bool} {S : Nat → Bool} : ∀ {k b : Nat}, bst U E S k = some b → b < k ∧ S b = true
  | 0, b, h => by cases h
  | k + 1, b, h => by
    by_cases hs : S k = true
    · cases hb : bst U E S k with
      | none => rw [bst_first hs hb] at h; cases h; exact ⟨by omega, hs⟩
      | some c =>
        by_cases hc : U k < U c ∨ (U k = U c ∧ E k c = true)
        · rw [bst_new hs hb hc] at h; cases h; exact ⟨by omega, hs⟩
        · rw [bst_old hs hb hc] at h
          cases h
          have h1 := bst_in hb
          exact ⟨by omega, h1.2⟩
    · rw [bst_no (Bool.eq_false_iff.mpr hs)] at h
      have h1 := bst_in h
      exact ⟨by omega, h1.2⟩
theorem bst_none {U : Nat → Nat} {E : Nat → Nat → Bool} {S : Nat → Bool} : ∀ {k : Nat}, bst U E S k = none → ∀ i, i < k → S i = false
  | 0, _, i, hi => absurd hi (Nat.not_lt_zero i)
  | k + 1, h, i, hi => by
    by_cases hs : S k = true
    · cases hb : bst U E S k with
      | none => rw [bst_first hs hb] at h; cases h
      | some c =>
        by_cases hc : U k < U c ∨ (U k = U c ∧ E k c = true)
        · rw [bst_new hs hb hc] at h; cases h
        · rw [bst_old hs hb hc] at h; cases h
    · have hs2 := Bool.eq_false_iff.mpr hs
      rw [bst_no hs2] at h
      by_cases e : i = k
      · rw [e]; exact hs2
      · exact bst_none h i (by omega)
theorem bst_cong {U V : Nat → Nat} {E F : Nat → Nat → Bool} {S T : Nat → Bool} : ∀ {k : Nat}, (∀ i, i < k → S i = T i) → (∀ i, i < k → U i = V i) → (∀ i j, i < k → j < k → E i j = F i j) → bst U E S k = bst V F T k
  | 0, _, _, _ => rfl
  | k + 1, h1, h2, h3 => by
    have ih := bst_cong (k := k) (fun i hi => h1 i (by omega)) (fun i hi => h2 i (by omega)) (fun i j hi hj => h3 i j (by omega) (by omega))
    by_cases hs : S k = true
    · have ht : T k = true := by rw [← h1 k (by omega)]; exact hs
      cases hb : bst U E S k with
      | none => rw [bst_first hs hb, bst_first ht (ih ▸ hb)]
      | some c =>
        have hc := bst_in hb
        have e : (U k < U c ∨ (U k = U c ∧ E k c = true)) ↔ (V k < V c ∨ (V k = V c ∧ F k c = true)) := by rw [h2 k (by omega), h2 c (by omega), h3 k c (by omega) (by omega)]
        by_cases hq : U k < U c ∨ (U k = U c ∧ E k c = true)
        · rw [bst_new hs hb hq, bst_new ht (ih ▸ hb) (e.mp hq)]
        · rw [bst_old hs hb hq, bst_old ht (ih ▸ hb) (fun z => hq (e.mpr z))]
    · have hs2 := Bool.eq_false_iff.mpr hs
      have ht2 : T k = false := by rw [← h1 k (by omega)]; exact hs2
      rw [bst_no hs2, bst_no ht2, ih]
/-- the judgment that a case has now -/
def jd (j p : Nat → Nat) (i : Nat) : Nat := if p i = 1 then 0 else j i
