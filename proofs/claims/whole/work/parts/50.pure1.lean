/-! PURE 1: loops, numbers, truth values, the static methods -/
theorem lpf (W : Nat → Nat → Prop) (i0 e : Nat) (hi : i0 ≤ e) (hx : ∀ n, W (n + 1) e) (hs : ∀ n i, i0 ≤ i → i < e → W n (i + 1) → W (n + 1) i) : ∃ n, W n i0 := by
  have key : ∀ k, k ≤ e - i0 → W (k + 1) (e - k) := by
    intro k
    induction k with
    | zero => intro _; exact hx 0
    | succ k ih =>
      intro hk
      have h1 := ih (by omega)
      refine hs (k + 1) (e - (k + 1)) (by omega) (by omega) ?_
      rw [show e - (k + 1) + 1 = e - k by omega]
      exact h1
  have h2 := key (e - i0) (Nat.le_refl _)
  rw [show e - (e - i0) = i0 by omega] at h2
  exact ⟨_, h2⟩
theorem lpi (W : Nat → Nat → Prop) (I : Nat → Prop) (i0 e : Nat) (hi : i0 ≤ e) (h0 : I i0) (hx : ∀ n, I e → W (n + 1) e) (hs : ∀ n i, i0 ≤ i → i < e → I i → (I (i + 1) → W n (i + 1)) → W (n + 1) i) : ∃ n, W n i0 := by
  obtain ⟨n, h⟩ := lpf (fun n i => I i → W n i) i0 e hi hx (fun n i h1 h2 h3 h4 => hs n i h1 h2 h4 h3)
  exact ⟨n, h h0⟩
theorem nIl {a : Nat} (h : a < 2147483648) : a < 2 ^ 31 := h
theorem jle {a b : Nat} {A B : Prop} (ha : a < 2147483648) (hb : b < 2147483648) (f : a ≤ b → A) (g : b < a → B) : (nI a ≤ nI b → A) ∧ (¬ nI a ≤ nI b → B) :=
  ⟨fun h => f ((nI_leI ha hb).mp h), fun h => g (Nat.lt_of_not_le (fun z => h ((nI_leI ha hb).mpr z)))⟩
theorem jlt {a b : Nat} {A B : Prop} (ha : a < 2147483648) (hb : b < 2147483648) (f : a < b → A) (g : b ≤ a → B) : (nI a < nI b → A) ∧ (¬ nI a < nI b → B) :=
  ⟨fun h => f ((nI_ltI ha hb).mp h), fun h => g (Nat.le_of_not_lt (fun z => h ((nI_ltI ha hb).mpr z)))⟩
theorem jeq {a b : Nat} {A B : Prop} (ha : a < 2147483648) (hb : b < 2147483648) (f : a = b → A) (g : a ≠ b → B) : (nI a = nI b → A) ∧ (¬ nI a = nI b → B) :=
  ⟨fun h => f ((nI_eq ha hb).mp h), fun h => g (fun z => h ((nI_eq ha hb).mpr z))⟩
theorem jne {a b : Nat} {A B : Prop} (ha : a < 2147483648) (hb : b < 2147483648) (f : a ≠ b → A) (g : a = b → B) : (¬ nI a = nI b → A) ∧ (nI a = nI b → B) := (jeq ha hb g f).symm
theorem jneg {a : Nat} {A B : Prop} (ha : a < 2147483648) (g : B) : (nI a < 0 → A) ∧ (¬ nI a < 0 → B) := ⟨fun h => absurd h (nI_pos ha), fun _ => g⟩
theorem br_n {c A B : Prop} (a : ¬ c → A) (b : c → B) : (¬ c → A) ∧ (c → B) := ⟨a, b⟩
theorem br_nt {c A B : Prop} (h : ¬ c) (a : A) : (¬ c → A) ∧ (c → B) := ⟨fun _ => a, fun z => absurd z h⟩
theorem br_nf {c A B : Prop} (h : c) (b : B) : (¬ c → A) ∧ (c → B) := ⟨fun z => absurd h z, fun _ => b⟩
theorem nI_m1 {a : Nat} (h : a < 2147483648) : ¬ nI a = -1 := by
  intro z
  have h1 := nI_pos (n := a) h
  rw [z] at h1
  exact h1 (by decide)
/-- truth values -/
noncomputable def bI (c : Prop) : Int32 := @ite Int32 c (Classical.propDecidable c) 1 0
theorem bI_t {c : Prop} (h : c) : bI c = 1 := if_pos h
theorem bI_f {c : Prop} (h : ¬ c) : bI c = 0 := if_neg h
theorem bI_c {c d : Prop} (h : c ↔ d) : bI c = bI d := by
  by_cases hc : c
  · rw [bI_t hc, bI_t (h.mp hc)]
  · rw [bI_f hc, bI_f (fun z => hc (h.mpr z))]
theorem jb {c A B : Prop} (f : c → A) (g : ¬ c → B) : (¬ bI c = 0 → A) ∧ (bI c = 0 → B) := by
  by_cases hc : c
  · rw [bI_t hc]
    exact ⟨fun _ => f hc, fun z => absurd z (by decide)⟩
  · rw [bI_f hc]
    exact ⟨fun z => absurd rfl z, fun _ => g hc⟩
theorem jb' {c A B : Prop} (g : ¬ c → B) (f : c → A) : (bI c = 0 → B) ∧ (¬ bI c = 0 → A) := (jb f g).symm
theorem bI_nar (c : Prop) : narrow .boolean (.int (bI c)) = .int (bI c) := by
  by_cases hc : c
  · rw [bI_t hc]; rfl
  · rw [bI_f hc]; rfl
theorem bI_fit (c : Prop) : fits .boolean (.int (bI c)) = true := by
  by_cases hc : c
  · rw [bI_t hc]; rfl
  · rw [bI_f hc]; rfl
theorem vp_out {x : Int32} {n : Nat} (h : x < 0 ∨ nI n ≤ x) (hn : n < 2147483648) : ¬ vp_in x n := by
  intro z
  obtain ⟨j, hj, rfl⟩ := vp_in_of z hn
  rcases h with h | h
  · exact nI_pos (by omega) h
  · exact nI_ge hj (by omega) h
theorem vp_yes {x : Int32} {n : Nat} (h0 : ¬ x < 0) (h1 : ¬ nI n ≤ x) (hn : n < 2147483648) : vp_in x n := by
  obtain ⟨j, hj, rfl⟩ := nI_of h0
  exact vp_in_nI (Nat.lt_of_not_le (fun z => h1 (nI_le z hj))) (by omega)
theorem vpn {i n : Nat} (h : i < n) (hn : n < 2147483648) : vp_in (nI i) n := vp_in_nI h hn
theorem clI {i : Nat} (h : i < 2147483648) : (nI i).toNatClampNeg = i := nI_clamp h
/-- bits -/
theorem sh1 {n : Nat} (h : n < 31) : (1 : Int32) <<< (nI n &&& 31) = nI (2 ^ n) := by
  have h1 := pk_shlN (n := 1) (nI n &&& 31) n (by
    have : ∀ k : Fin 31, ((nI k.val &&& 31).toBitVec.smod 32).toNat = k.val := by decide
    exact this ⟨n, h⟩) (by
      rw [Nat.one_mul]
      exact Nat.lt_of_lt_of_le (Nat.pow_lt_pow_right (by decide) h) (by decide))
  rw [Nat.one_mul] at h1
  exact h1
theorem shrN {a n : Nat} (ha : a < 2147483648) (h : n < 31) : nI a >>> (nI n &&& 31) = nI (a / 2 ^ n) :=
  pk_shrN ha (nI n &&& 31) n (by
    have : ∀ k : Fin 31, ((nI k.val &&& 31).toBitVec.smod 32).toNat = k.val := by decide
    exact this ⟨n, h⟩)
theorem nI_bv (a : Nat) : (nI a).toBitVec = BitVec.ofNat 32 a := rfl
theorem andI (a b : Nat) : nI a &&& nI b = nI (a &&& b) := by
  apply Int32.toBitVec_inj.mp
  rw [Int32.toBitVec_and, nI_bv, nI_bv, nI_bv]
  apply BitVec.eq_of_getLsbD_eq
  intro i hi
  simp [BitVec.getLsbD_and, BitVec.getLsbD_ofNat, hi]
theorem orI (a b : Nat) : nI a ||| nI b = nI (a ||| b) := by
  apply Int32.toBitVec_inj.mp
  rw [Int32.toBitVec_or, nI_bv, nI_bv, nI_bv]
  apply BitVec.eq_of_getLsbD_eq
  intro i hi
  simp [BitVec.getLsbD_or, BitVec.getLsbD_ofNat, hi]
theorem xorI (a b : Nat) : nI a ^^^ nI b = nI (a ^^^ b) := by
  apply Int32.toBitVec_inj.mp
  rw [Int32.toBitVec_xor, nI_bv, nI_bv, nI_bv]
  apply BitVec.eq_of_getLsbD_eq
  intro i hi
  simp [BitVec.getLsbD_xor, BitVec.getLsbD_ofNat, hi]
theorem bit01 (a n : Nat) : a / 2 ^ n % 2 = if a.testBit n then 1 else 0 := by
  rw [Nat.testBit_eq_decide_div_mod_eq]
  have := Nat.mod_two_eq_zero_or_one (a / 2 ^ n)
  rcases this with h | h <;> simp [h]
theorem bitI {a n : Nat} (ha : a < 2147483648) (h : n < 31) : (nI a >>> (nI n &&& 31)) &&& 1 = nI (if a.testBit n then 1 else 0) := by
  rw [shrN ha h, show (1 : Int32) = nI 1 from rfl, andI, Nat.and_one_is_mod, bit01]
theorem pw {n m : Nat} (h : n ≤ m) : 2 ^ n ≤ 2 ^ m := Nat.pow_le_pow_right (by decide) h
theorem pw1 (n : Nat) : 1 ≤ 2 ^ n := Nat.one_le_two_pow
theorem pw10 {n : Nat} (h : n ≤ 10) : 2 ^ n ≤ 1024 := pw h
theorem pw12 {n : Nat} (h : n ≤ 12) : 2 ^ n ≤ 4096 := pw h
theorem pw14 {n : Nat} (h : n ≤ 14) : 2 ^ n ≤ 16384 := pw h
/-- statics of the class -/
theorem s_within {x lo hi : Int32} {Q : Int32 → Prop} (h : Q (bI (lo ≤ x ∧ x ≤ hi))) : P_LC_within x lo hi Q := by
  refine br_c (fun c => ?_) (fun c => br_c (fun d => ?_) (fun d => ?_))
  · rw [bI_f (fun z => absurd z.1 (Int32.not_le.mpr c))] at h; exact ⟨rfl, h⟩
  · rw [bI_f (fun z => absurd z.2 (Int32.not_le.mpr d))] at h; exact ⟨rfl, h⟩
  · rw [bI_t ⟨Int32.not_lt.mp c, Int32.not_lt.mp d⟩] at h; exact ⟨rfl, h⟩
theorem s_isJudgment {x : Int32} {Q : Int32 → Prop} (h : Q (bI (0 ≤ x ∧ x ≤ 3))) : P_LC_isJudgment x Q := s_within ⟨bI_nar _, h⟩
theorem s_isImage {x : Int32} {Q : Int32 → Prop} (h : Q (bI (0 ≤ x ∧ x ≤ 1))) : P_LC_isImage x Q := s_within ⟨bI_nar _, h⟩
theorem nI01 {c : Prop} [Decidable c] : (nI (if c then 1 else 0)) = bI c := by
  by_cases h : c
  · rw [if_pos h, bI_t h]; rfl
  · rw [if_neg h, bI_f h]; rfl
theorem s_holds {a n : Nat} {Q : Int32 → Prop} (ha : a < 2147483648) (hn : n < 31) (h : Q (bI (a.testBit n = true))) : P_LC_holds (nI a) (nI n) Q := by
  show (((nI a >>> (nI n &&& 31)) &&& 1) = 0 → _) ∧ (¬ ((nI a >>> (nI n &&& 31)) &&& 1) = 0 → _)
  rw [bitI ha hn, nI01]
  refine jb' (fun c => ?_) (fun c => ?_)
  · rw [bI_f c] at h; exact ⟨rfl, h⟩
  · rw [bI_t c] at h; exact ⟨rfl, h⟩
theorem s_has_M {a n : Nat} {Q : Int32 → Prop} (ha : a < 2147483648) (hn : n < 31) (h : Q (bI (a.testBit n = true))) : P_Mo_has (nI a) (nI n) Q := by
  show (¬ ((nI a >>> (nI n &&& 31)) &&& 1) = 1 → _) ∧ (((nI a >>> (nI n &&& 31)) &&& 1) = 1 → _)
  rw [bitI ha hn, nI01]
  by_cases c : a.testBit n = true
  · rw [bI_t c] at h ⊢; exact br_nf rfl ⟨rfl, h⟩
  · rw [bI_f c] at h ⊢; exact br_nt (by decide) ⟨rfl, h⟩
theorem s_in_M {x lo hi : Int32} {Q : Int32 → Prop} (h : Q (bI (lo ≤ x ∧ x ≤ hi))) : P_Mo_in x lo hi Q := by
  refine br_c (fun c => ?_) (fun c => br_c (fun d => ?_) (fun d => ?_))
  · rw [bI_f (fun z => absurd z.1 (Int32.not_le.mpr c))] at h; exact ⟨rfl, h⟩
  · rw [bI_f (fun z => absurd z.2 (Int32.not_le.mpr d))] at h; exact ⟨rfl, h⟩
  · rw [bI_t ⟨Int32.not_lt.mp c, Int32.not_lt.mp d⟩] at h; exact ⟨rfl, h⟩
theorem s_isJudgment_M {x : Int32} {Q : Int32 → Prop} (h : Q (bI (0 ≤ x ∧ x ≤ 3))) : P_Mo_isJudgment x Q := s_in_M ⟨bI_nar _, h⟩
theorem s_fill {v : Int32} {n : Nat} {a : Nat → Int32} {Q : (Nat → Int32) → Prop} (hn : n < 2147483648) (h : Q (fun j => if j < n then v else a j)) : P_Arrays_fill v n a Q := by
  intro x3 e3
  subst e3
  have h0 : a = (fun j => if j < 0 then v else a j) := by funext j; simp
  have hk := lpf (fun k i => L_Arrays_fill_5 v n Q k (nI i) (nI n) (fun j => if j < i then v else a j)) 0 n (Nat.zero_le _) (fun k => ?_) (fun k i _ hi ih => ?_)
  · rw [← h0] at hk; exact hk
  · exact jle hn hn (fun _ => h) (fun c => absurd c (by omega))
  · refine jle hn (by omega) (fun c => absurd c (by omega)) (fun _ => ⟨vpn hi hn, ?_⟩)
    rw [← nI_succ, clI (by omega)]
    have e : upd (fun j => if j < i then v else a j) i v = (fun j => if j < i + 1 then v else a j) := by
      funext j
      unfold upd
      by_cases hj : j = i
      · subst hj; simp
      · rw [if_neg hj]
        show (if j < i then v else a j) = if j < i + 1 then v else a j
        by_cases hj2 : j < i
        · rw [if_pos hj2, if_pos (by omega)]
        · rw [if_neg hj2, if_neg (by omega)]
    rw [e]
    exact ih
