/-! PURE 14: parts -/
abbrev BS := Nat × (Nat → Nat) × (Nat → Bool)
def bv (s : BS) (a : Nat) : BS := if s.2.2 a then s else (s.1 + 1, un s.2.1 s.1 a, fun x => if x = a then true else s.2.2 x)
def bp (h : Nat) : Nat → BS → BS
  | 0, s => s
  | p + 1, s => bv (bp h p s) ((bp h p s).2.1 h ^^^ 2 ^ p)
def bf (n : Nat) : Nat → Nat → BS → BS
  | 0, _, s => s
  | f + 1, h, s => if h < s.1 then bf n f (h + 1) (bp h n s) else s
def BI (n : Nat) (s : BS) : Prop := s.1 + ct (fun a => !(s.2.2 a)) (2 ^ n) ≤ 2 ^ n ∧ ∀ i, i < s.1 → s.2.1 i < 2 ^ n
theorem bv_met {s : BS} {a : Nat} (h : s.2.2 a = true) : bv s a = s := if_pos h
theorem bv_new {s : BS} {a : Nat} (h : ¬ s.2.2 a = true) : bv s a = (s.1 + 1, un s.2.1 s.1 a, fun x => if x = a then true else s.2.2 x) := if_neg h
theorem ct_out {p : Nat → Bool} {a : Nat} (hp : p a = true) : ∀ {N : Nat}, a < N → ct (fun x => if x = a then false else p x) N + 1 = ct p N
  | 0, h => absurd h (Nat.not_lt_zero a)
  | N + 1, h => by
    show ct (fun x => if x = a then false else p x) N + (if (if N = a then false else p N) then 1 else 0) + 1 = ct p N + (if p N then 1 else 0)
    by_cases e : N = a
    · subst e
      rw [if_pos rfl, hp]
      have h2 : ct (fun x => if x = N then false else p x) N = ct p N := ct_cong (fun i hi => by show (if i = N then false else p i) = p i; rw [if_neg (by omega)])
      rw [h2]
      rfl
    · have ih := ct_out hp (N := N) (by omega)
      rw [if_neg e]
      omega
theorem bi_lt {n a : Nat} {s : BS} (hI : BI n s) (ha : a < 2 ^ n) (h : ¬ s.2.2 a = true) : s.1 < 2 ^ n := by
  have h1 := ct_out (p := fun x => !(s.2.2 x)) (a := a) (by show (!(s.2.2 a)) = true; rw [Bool.eq_false_iff.mpr h]; rfl) ha
  have h2 := hI.1
  omega
theorem bv_inv {n a : Nat} {s : BS} (hI : BI n s) (ha : a < 2 ^ n) : BI n (bv s a) ∧ s.1 ≤ (bv s a).1 ∧ ∀ i, i < s.1 → (bv s a).2.1 i = s.2.1 i := by
  by_cases h : s.2.2 a = true
  · rw [bv_met h]; exact ⟨hI, Nat.le_refl _, fun _ _ => rfl⟩
  · rw [bv_new h]
    have h1 := ct_out (p := fun x => !(s.2.2 x)) (a := a) (by show (!(s.2.2 a)) = true; rw [Bool.eq_false_iff.mpr h]; rfl) ha
    have h2 := hI.1
    refine ⟨⟨?_, fun i hi => ?_⟩, Nat.le_succ _, fun i hi => un_n _ (by omega)⟩
    · show s.1 + 1 + ct (fun x => !(if x = a then true else s.2.2 x)) (2 ^ n) ≤ 2 ^ n
      have e : ct (fun x => !(if x = a then true else s.2.2 x)) (2 ^ n) = ct (fun x => if x = a then false else !(s.2.2 x)) (2 ^ n) := ct_cong (fun i _ => by
        show (!(if i = a then true else s.2.2 i)) = (if i = a then false else !(s.2.2 i))
        by_cases c : i = a
        · rw [if_pos c, if_pos c]; rfl
        · rw [if_neg c, if_neg c])
      rw [e]
      omega
    · show un s.2.1 s.1 a i < 2 ^ n
      have hi2 : i < s.1 + 1 := hi
      by_cases c : i = s.1
      · rw [c, un_s]; exact ha
      · rw [un_n _ c]; exact hI.2 i (by omega)
theorem bp_inv {n h : Nat} {s : BS} (hI : BI n s) (hh : h < s.1) : ∀ p, p ≤ n → BI n (bp h p s) ∧ s.1 ≤ (bp h p s).1
  | 0, _ => ⟨hI, Nat.le_refl _⟩
  | p + 1, hp => by
    obtain ⟨h1, h2⟩ := bp_inv hI hh p (by omega)
    have h3 := bv_inv (a := (bp h p s).2.1 h ^^^ 2 ^ p) h1 (flip_lt (h1.2 h (by omega)) (by omega))
    exact ⟨h3.1, Nat.le_trans h2 h3.2.1⟩
theorem bf_inv {n : Nat} : ∀ (f h : Nat) (s : BS), BI n s → BI n (bf n f h s)
  | 0, _, _, hI => hI
  | f + 1, h, s, hI => by
    show BI n (if h < s.1 then bf n f (h + 1) (bp h n s) else s)
    by_cases c : h < s.1
    · rw [if_pos c]; exact bf_inv f (h + 1) _ (bp_inv hI c n (Nat.le_refl _)).1
    · rw [if_neg c]; exact hI
/-- the class -/
def RC (n : Nat) (x1 : Int32) (f : Nat → Int32) (s : BS) (tq tr : Nat → Int32) : Prop := (∀ i, i < s.1 → tq i = nI (s.2.1 i)) ∧ ∀ a, a < 2 ^ n → (s.2.2 a = true ↔ (¬ tr a = 0 ∨ ¬ f a = x1))
theorem s_reach {n a : Nat} {s : BS} {x1 : Int32} {F : Nat → Option Nat} {j q : Nat → Nat} {tq tr by_ jud : Nat → Int32} {Q : Int32 → (Nat → Int32) → (Nat → Int32) → Prop} (hn : n ≤ 10) (hJ : JdOK n F j q by_ jud) (hI : BI n s) (hR : RC n x1 (fun a => encJ j q (F a)) s tq tr) (ha : a < 2 ^ n)
    (h : ∀ tq' tr', RC n x1 (fun a => encJ j q (F a)) (bv s a) tq' tr' → Q (nI (bv s a).1) tq' tr') : P_Surveyor_reach (nI a) x1 (nI s.1) (nI n) tq tr jud Q := by
  have h2 := pw10 hn
  have h3 := hI.1
  have hra := hR.2 a ha
  have same : s.2.2 a = true → Q (nI s.1) tq tr := fun z => by
    have := h tq tr
    rw [bv_met z] at this
    exact this hR
  refine s_isDeed hn (jb' (fun z => absurd (vpn ha (by omega)) z) (fun _ => jle (a := 1024) (b := s.1) (by decide) (by omega) (fun z => ?_) (fun z => jlt (a := a) (b := 1024) (by omega) (by decide) (fun _ => ⟨vpn (by omega) (by decide), ?_⟩) (fun z => absurd z (by omega)))))
  · refine same (Classical.byContradiction (fun q => ?_))
    have := bi_lt hI ha q
    omega
  · rw [clI (by omega)]
    refine br_n (fun z => same (hra.mpr (Or.inl z))) (fun z => s_cjudg hn hJ ha (br_n (fun z2 => same (hra.mpr (Or.inr z2))) (fun z2 => ⟨vpn (by omega) (by decide), vpn (by omega) (by decide), ?_⟩)))
    intro t e
    rw [← nI_succ] at e
    subst e
    have hm : ¬ s.2.2 a = true := fun q => by
      rcases hra.mp q with q | q
      · exact q z
      · exact q z2
    have := h (upd tq s.1 (nI a)) (upd tr a 1)
    rw [bv_new hm] at this
    rw [clI (by omega)]
    refine this ⟨fun i hi => ?_, fun b hb => ?_⟩
    · show upd tq s.1 (nI a) i = nI (un s.2.1 s.1 a i)
      have hi2 : i < s.1 + 1 := hi
      by_cases c : i = s.1
      · rw [c, upd_s, un_s]
      · rw [upd_n _ c, un_n _ c]; exact hR.1 i (by omega)
    · show (if b = a then true else s.2.2 b) = true ↔ (¬ upd tr a 1 b = 0 ∨ ¬ encJ j q (F b) = x1)
      by_cases c : b = a
      · subst c
        rw [if_pos rfl, upd_s]
        exact ⟨fun _ => Or.inl (by decide), fun _ => rfl⟩
      · rw [if_neg c, upd_n _ c]
        exact hR.2 b hb
theorem s_partSize {n : Nat} {x1 : Int32} {F : Nat → Option Nat} {j q : Nat → Nat} {by_ jud : Nat → Int32} {Q : Int32 → Int32 → (Nat → Int32) → (Nat → Int32) → Prop} (hn : n ≤ 10) (hJ : JdOK n F j q by_ jud) {s : BS} {tq tr : Nat → Int32} (hI : BI n s) (hR : RC n x1 (fun a => encJ j q (F a)) s tq tr)
    (h : ∀ tq' tr', RC n x1 (fun a => encJ j q (F a)) (bf n (2 ^ n) 0 s) tq' tr' → Q (nI (bf n (2 ^ n) 0 s).1) (nI (bf n (2 ^ n) 0 s).1) tq' tr') : P_Surveyor_partSize x1 (nI s.1) (nI n) tq tr jud Q := by
  have h2 := pw10 hn
  have hA := lpd (fun m f => ∀ hd s tq tr, hd + f = 2 ^ n → BI n s → RC n x1 (fun a => encJ j q (F a)) s tq tr → (∀ tq' tr', RC n x1 (fun a => encJ j q (F a)) (bf n f hd s) tq' tr' → Q (nI (bf n f hd s).1) (nI (bf n f hd s).1) tq' tr') → L_Surveyor_partSize_2 x1 (nI n) jud Q m (nI hd) (nI s.1) tq tr) (2 ^ n) (fun m hd s tq tr e hI hR h => ?_) (fun m f hf ih hd s tq tr e hI hR h => ?_)
  · obtain ⟨m, hm⟩ := hA
    exact ⟨m, hm 0 s tq tr (by omega) hI hR h⟩
  · have h3 := hI.1
    exact jle (by omega) (by omega) (fun _ => h tq tr hR) (fun z => absurd z (by omega))
  · have h3 := hI.1
    refine jle (by omega) (by omega) (fun z => ?_) (fun z => jle (a := 1024) (b := hd) (by decide) (by omega) (fun z2 => absurd z2 (by omega)) (fun _ => ?_))
    · have e2 : bf n (f + 1) hd s = s := if_neg (by omega)
      rw [e2] at h
      exact h tq tr hR
    · have e2 : bf n (f + 1) hd s = bf n f (hd + 1) (bp hd n s) := if_pos z
      rw [e2] at h
      generalize hN : L_Surveyor_partSize_2 x1 (nI n) jud Q m = N
      rw [hN] at ih
      have hB := lpf (fun m p => ∀ tq tr, RC n x1 (fun a => encJ j q (F a)) (bp hd p s) tq tr → L_Surveyor_partSize_21 x1 (nI n) jud Q N m (nI hd) (nI p) (nI (bp hd p s).1) tq tr) 0 n (Nat.zero_le _) (fun m tq tr hR => ?_) (fun m p _ hp ih2 tq tr hR => ?_)
      · obtain ⟨m, hm⟩ := hB
        exact ⟨m, hm tq tr hR⟩
      · refine jle (by omega) (by omega) (fun _ => ?_) (fun c => absurd c (by omega))
        rw [← nI_succ]
        exact ih (hd + 1) (bp hd n s) tq tr (by omega) (bp_inv hI z n (Nat.le_refl _)).1 hR h
      · obtain ⟨hI2, hle⟩ := bp_inv hI z p (by omega)
        have hq := hI2.2 hd (by omega)
        refine jle (by omega) (by omega) (fun c => absurd c (by omega)) (fun _ => ⟨vpn (by omega) (by decide), ?_⟩)
        rw [clI (by omega), hR.1 hd (by omega), sh1 (by omega), xorI]
        refine s_reach hn hJ hI2 hR (flip_lt hq hp) (fun tq' tr' hR' => ?_)
        rw [← nI_succ]
        exact ih2 tq' tr' hR'
/-- the whole survey -/
def sv (n : Nat) (m0 : Nat → Bool) : Nat → (Nat → Bool) × Nat × Nat
  | 0 => (m0, 0, 0)
  | a + 1 => if (sv n m0 a).1 a then sv n m0 a else ((bf n (2 ^ n) 0 (bv (0, fun _ => 0, (sv n m0 a).1) a)).2.2, (sv n m0 a).2.1 + 1, if (sv n m0 a).2.2 < (bf n (2 ^ n) 0 (bv (0, fun _ => 0, (sv n m0 a).1) a)).1 then (bf n (2 ^ n) 0 (bv (0, fun _ => 0, (sv n m0 a).1) a)).1 else (sv n m0 a).2.2)
theorem BI0 (n : Nat) (qu : Nat → Nat) (me : Nat → Bool) : BI n (0, qu, me) := ⟨by have := ct_le (fun a => !(me a)) (2 ^ n); show 0 + ct (fun a => !(me a)) (2 ^ n) ≤ 2 ^ n; omega, fun i hi => absurd hi (Nat.not_lt_zero i)⟩
theorem sv_le {n : Nat} (m0 : Nat → Bool) : ∀ a, a ≤ 2 ^ n → (sv n m0 a).2.1 ≤ a ∧ (sv n m0 a).2.2 ≤ 2 ^ n
  | 0, _ => ⟨Nat.le_refl 0, Nat.zero_le _⟩
  | a + 1, ha => by
    have ih := sv_le (n := n) m0 a (by omega)
    by_cases c : (sv n m0 a).1 a = true
    · have e : sv n m0 (a + 1) = sv n m0 a := if_pos c
      rw [e]; omega
    · have hI := bf_inv (n := n) (2 ^ n) 0 _ (bv_inv (BI0 n (fun _ => 0) (sv n m0 a).1) (a := a) (by omega)).1
      have h3 := hI.1
      have e : sv n m0 (a + 1) = ((bf n (2 ^ n) 0 (bv (0, fun _ => 0, (sv n m0 a).1) a)).2.2, (sv n m0 a).2.1 + 1, if (sv n m0 a).2.2 < (bf n (2 ^ n) 0 (bv (0, fun _ => 0, (sv n m0 a).1) a)).1 then (bf n (2 ^ n) 0 (bv (0, fun _ => 0, (sv n m0 a).1) a)).1 else (sv n m0 a).2.2) := if_neg c
      rw [e]
      refine ⟨?_, ?_⟩
      · show (sv n m0 a).2.1 + 1 ≤ a + 1
        omega
      · show (if (sv n m0 a).2.2 < (bf n (2 ^ n) 0 (bv (0, fun _ => 0, (sv n m0 a).1) a)).1 then (bf n (2 ^ n) 0 (bv (0, fun _ => 0, (sv n m0 a).1) a)).1 else (sv n m0 a).2.2) ≤ 2 ^ n
        split <;> omega
theorem s_survey {n : Nat} {x1 qd pc gp : Int32} {F : Nat → Option Nat} {j q : Nat → Nat} {tq tr by_ jud : Nat → Int32} {Q : Int32 → Int32 → Int32 → (Nat → Int32) → (Nat → Int32) → Prop} (hn : n ≤ 10) (hJ : JdOK n F j q by_ jud)
    (h : ∀ qd' tq' tr', Q qd' (nI (sv n (fun a => tB (¬ encJ j q (F a) = x1)) (2 ^ n)).2.1) (nI (sv n (fun a => tB (¬ encJ j q (F a) = x1)) (2 ^ n)).2.2) tq' tr') : P_Surveyor_survey x1 qd pc gp (nI n) tq tr jud Q := by
  have h2 := pw10 hn
  generalize hm0 : (fun a => tB (¬ encJ j q (F a) = x1)) = m0 at h
  refine s_fill (by decide) ?_
  have hA := lpf (fun m a => ∀ qd tq tr, RC n x1 (fun a => encJ j q (F a)) (0, fun _ => 0, (sv n m0 a).1) tq tr → L_Surveyor_survey_20 x1 (nI n) jud Q m (nI a) qd (nI (sv n m0 a).2.1) (nI (sv n m0 a).2.2) tq tr) 0 (2 ^ n) (Nat.zero_le _) (fun m qd tq tr hR => ?_) (fun m a _ ha ih qd tq tr hR => ?_)
  · obtain ⟨m, hm⟩ := hA
    refine ⟨m, hm qd tq _ ⟨fun i hi => absurd hi (Nat.not_lt_zero i), fun a ha => ?_⟩⟩
    show m0 a = true ↔ (¬ (if a < 1024 then (0 : Int32) else tr a) = 0 ∨ ¬ encJ j q (F a) = x1)
    rw [if_pos (by omega), ← hm0]
    show tB (¬ encJ j q (F a) = x1) = true ↔ _
    rw [tB_t]
    exact ⟨fun z => Or.inr z, fun z => by rcases z with z | z; exact absurd rfl z; exact z⟩
  · rw [L_Surveyor_survey_20]
    exact s_deedCount hn (jle (by omega) (by omega) (fun _ => h _ _ _) (fun c => absurd c (by omega)))
  · rw [L_Surveyor_survey_20]
    have hI0 := BI0 n (fun _ => 0) (sv n m0 a).1
    refine s_deedCount hn (jle (by omega) (by omega) (fun c => absurd c (by omega)) (fun _ => s_reach hn hJ hI0 hR ha (fun tq' tr' hR' => ?_)))
    by_cases c : (sv n m0 a).1 a = true
    · have e : sv n m0 (a + 1) = sv n m0 a := if_pos c
      have e2 : bv (0, fun _ => 0, (sv n m0 a).1) a = (0, fun _ => 0, (sv n m0 a).1) := bv_met c
      rw [e] at ih
      rw [e2] at hR' ⊢
      refine br_t (show nI 0 ≤ 0 by decide) ?_
      show L_Surveyor_survey_20 _ _ _ _ _ (nI a + 1) _ _ _ _ _
      rw [← nI_succ]
      exact ih _ _ _ hR'
    · have e : sv n m0 (a + 1) = ((bf n (2 ^ n) 0 (bv (0, fun _ => 0, (sv n m0 a).1) a)).2.2, (sv n m0 a).2.1 + 1, if (sv n m0 a).2.2 < (bf n (2 ^ n) 0 (bv (0, fun _ => 0, (sv n m0 a).1) a)).1 then (bf n (2 ^ n) 0 (bv (0, fun _ => 0, (sv n m0 a).1) a)).1 else (sv n m0 a).2.2) := if_neg c
      have hI1 := (bv_inv hI0 ha).1
      have e1 : (bv (0, fun _ => 0, (sv n m0 a).1) a).1 = 1 := by rw [bv_new c]
      have hsl := sv_le (n := n) m0 a (by omega)
      have hI2 := bf_inv (n := n) (2 ^ n) 0 _ hI1
      have h3 := hI2.1
      generalize hst : bv (0, fun _ => 0, (sv n m0 a).1) a = st at *
      rw [e1]
      refine br_f (by decide) ?_
      intro pc' epc
      rw [← nI_succ] at epc
      subst epc
      have hps := s_partSize (Q := fun r_6 t_queued_7 t_queue_8 t_reached_9 => ∀ t_greatestPart_10 : Int32, t_greatestPart_10 = (if nI (sv n m0 a).2.2 < r_6 then r_6 else nI (sv n m0 a).2.2) → B_Surveyor_survey_75 x1 (nI n) jud Q (L_Surveyor_survey_20 x1 (nI n) jud Q m) (nI a) t_queued_7 (nI ((sv n m0 a).2.1 + 1)) t_greatestPart_10 t_queue_8 t_reached_9) hn hJ hI1 hR' (fun tq2 tr2 hR2 => ?_)
      · rw [e1] at hps
        exact hps
      · intro g eg
        show L_Surveyor_survey_20 _ _ _ _ _ (nI a + 1) _ _ _ _ _
        rw [← nI_succ]
        have ih2 := ih (nI (bf n (2 ^ n) 0 st).1) tq2 tr2
        rw [e] at ih2
        have eg2 : g = nI (if (sv n m0 a).2.2 < (bf n (2 ^ n) 0 st).1 then (bf n (2 ^ n) 0 st).1 else (sv n m0 a).2.2) := by
          rw [eg]
          by_cases z : (sv n m0 a).2.2 < (bf n (2 ^ n) 0 st).1
          · rw [if_pos z, if_pos ((nI_ltI (by omega) (by omega)).mpr z)]
          · rw [if_neg z, if_neg (fun q => z ((nI_ltI (by omega) (by omega)).mp q))]
        rw [eg2]
        exact ih2 ⟨fun i hi => absurd hi (Nat.not_lt_zero i), hR2.2⟩
/-- the model -/
def RM (n : Nat) (s : BS) (tl tm : Nat → Int32) : Prop := (∀ i, i < s.1 → tl i = nI (s.2.1 i)) ∧ ∀ a, a < 2 ^ n → (s.2.2 a = true ↔ ¬ tm a = 0)
theorem RM_new {n a : Nat} {s : BS} {tl tm : Nat → Int32} (hR : RM n s tl tm) (hm : ¬ s.2.2 a = true) : RM n (bv s a) (upd tl s.1 (nI a)) (upd tm a 1) := by
  rw [bv_new hm]
  refine ⟨fun i hi => ?_, fun b hb => ?_⟩
  · show upd tl s.1 (nI a) i = nI (un s.2.1 s.1 a i)
    have hi2 : i < s.1 + 1 := hi
    by_cases c : i = s.1
    · rw [c, upd_s, un_s]
    · rw [upd_n _ c, un_n _ c]; exact hR.1 i (by omega)
  · show (if b = a then true else s.2.2 b) = true ↔ ¬ upd tm a 1 b = 0
    by_cases c : b = a
    · subst c
      rw [if_pos rfl, upd_s]
      exact ⟨fun _ => by decide, fun _ => rfl⟩
    · rw [if_neg c, upd_n _ c]
      exact hR.2 b hb
theorem s_spread_M {n a : Nat} {me : Nat → Bool} {tl tm : Nat → Int32} {Q : Int32 → (Nat → Int32) → (Nat → Int32) → Prop} (hn : n ≤ 10) (ha : a < 2 ^ n) (hme : ¬ me a = true) (hR : ∀ a, a < 2 ^ n → (me a = true ↔ ¬ tm a = 0))
    (h : ∀ tl' tm', RM n (bf n (2 ^ n) 0 (bv (0, fun _ => 0, me) a)) tl' tm' → Q (nI (bf n (2 ^ n) 0 (bv (0, fun _ => 0, me) a)).1) tl' tm') : P_Mo_spread (nI a) (nI n) tl tm Q := by
  have h2 := pw10 hn
  have hR0 : RM n (0, fun _ => 0, me) tl tm := ⟨fun i hi => absurd hi (Nat.not_lt_zero i), hR⟩
  have hI0 := BI0 n (fun _ => 0) me
  have hI1 := (bv_inv hI0 ha).1
  have hR1 := RM_new (a := a) hR0 hme
  have e1 : (bv (0, fun _ => 0, me) a).1 = 1 := by rw [bv_new (s := (0, fun _ => 0, me)) hme]
  refine ⟨vpn (i := 0) (by decide) (by decide), vpn (by omega) (by decide), ?_⟩
  rw [clI (by omega)]
  generalize hst : bv (0, fun _ => 0, me) a = st at *
  have hA := lpd (fun m f => ∀ hd s tq tr, hd + f = 2 ^ n → BI n s → RM n s tq tr → (∀ tq' tr', RM n (bf n f hd s) tq' tr' → Q (nI (bf n f hd s).1) tq' tr') → L_Mo_spread_18 (nI a) (nI n) Q m (nI s.1) (nI hd) tq tr) (2 ^ n) (fun m hd s tq tr e hI hR h => ?_) (fun m f hf ih hd s tq tr e hI hR h => ?_)
  · obtain ⟨m, hm⟩ := hA
    have h0 := hm 0 st _ _ (by omega) hI1 hR1 h
    rw [e1] at h0
    exact ⟨m, h0⟩
  · have h3 := hI.1
    exact jle (by omega) (by omega) (fun _ => h tq tr hR) (fun z => absurd z (by omega))
  · have h3 := hI.1
    refine jle (by omega) (by omega) (fun z => ?_) (fun z => ?_)
    · have e2 : bf n (f + 1) hd s = s := if_neg (by omega)
      rw [e2] at h
      exact h tq tr hR
    · have e2 : bf n (f + 1) hd s = bf n f (hd + 1) (bp hd n s) := if_pos z
      rw [e2] at h
      generalize hN : L_Mo_spread_18 (nI a) (nI n) Q m = N
      rw [hN] at ih
      have hB := lpf (fun m p => ∀ tq tr, RM n (bp hd p s) tq tr → L_Mo_spread_26 (nI a) (nI n) Q N m (nI (bp hd p s).1) (nI hd) (nI p) tq tr) 0 n (Nat.zero_le _) (fun m tq tr hR => ?_) (fun m p _ hp ih2 tq tr hR => ?_)
      · obtain ⟨m, hm⟩ := hB
        exact ⟨m, hm tq tr hR⟩
      · refine jle (by omega) (by omega) (fun _ => ?_) (fun c => absurd c (by omega))
        rw [← nI_succ]
        exact ih (hd + 1) (bp hd n s) tq tr (by omega) (bp_inv hI z n (Nat.le_refl _)).1 hR h
      · obtain ⟨hI2, hle⟩ := bp_inv hI z p (by omega)
        have hq := hI2.2 hd (by omega)
        have hfl := flip_lt hq hp
        have h4 := hI2.1
        refine jle (by omega) (by omega) (fun c => absurd c (by omega)) (fun _ => ⟨vpn (by omega) (by decide), ?_⟩)
        intro x5 e5
        rw [clI (by omega), hR.1 hd (by omega), sh1 (by omega), xorI] at e5
        subst e5
        have eb : bp hd (p + 1) s = bv (bp hd p s) ((bp hd p s).2.1 hd ^^^ 2 ^ p) := rfl
        refine ⟨vpn (by omega) (by decide), ?_⟩
        rw [clI (by omega)]
        have hra := hR.2 _ hfl
        refine br_n (fun z2 => ?_) (fun z2 => ⟨vpn (by omega) (by decide), ?_⟩)
        · rw [eb, bv_met (hra.mpr z2)] at ih2
          show L_Mo_spread_26 _ _ _ _ _ _ _ (nI p + 1) _ _
          rw [← nI_succ]
          exact ih2 tq tr hR
        · have hm : ¬ (bp hd p s).2.2 ((bp hd p s).2.1 hd ^^^ 2 ^ p) = true := fun q => hra.mp q z2
          have hl := bi_lt hI2 hfl hm
          refine ⟨vpn (by omega) (by decide), ?_⟩
          have hRn := RM_new hR hm
          rw [eb] at ih2
          have ih3 := ih2 _ _ hRn
          have e9 : (bv (bp hd p s) ((bp hd p s).2.1 hd ^^^ 2 ^ p)).1 = (bp hd p s).1 + 1 := by rw [bv_new hm]
          rw [e9] at ih3
          show L_Mo_spread_26 _ _ _ _ _ (nI _ + 1) _ (nI p + 1) _ _
          rw [← nI_succ, ← nI_succ, clI (by omega)]
          exact ih3
theorem op_parts {n k : Nat} {w d j y q : Nat → Nat} {x1 x2 aj qd pc gp : Int32} {tq tr by_ jud each sums deeds elders fj years pard one mw judged tl tm : Nat → Int32} {K : Int32 → Int32 → Int32 → Int32 → Int32 → (Nat → Int32) → (Nat → Int32) → (Nat → Int32) → (Nat → Int32) → Int32 → (Nat → Int32) → (Nat → Int32) → (Nat → Int32) → Prop} (hk : k ≤ 12) (hW : ScOK n w each sums) (hMW : WtOK n w mw) (hR : RlOK k d j y q deeds fj years pard) (hE : ElOK k y elders) (hO : OnOK k d j y q one) (hB : CB n k d j y q) (hJ : JInv n (lb w n d y k) j q aj by_ jud)
    (h : ∀ r aj' qd' pc' gp' b' j' tq' tr' jm tl' tm', JInv n (lb w n d y k) j q aj' b' j' → K r aj' qd' pc' gp' b' j' tq' tr' r jm tl' tm') :
    P_LC_parts x1 x2 (nI n) aj qd pc gp by_ jud (nI k) tq tr deeds elders fj pard sums (fun r aj' qd' pc' gp' b' j' tq' tr' => P_Mo_parts x1 x2 (nI n) (nI k) judged tl tm one mw (fun r' jm tl' tm' => K r aj' qd' pc' gp' b' j' tq' tr' r' jm tl' tm')) := by
  have hn := hW.1
  have h2 := pw10 hn
  refine s_isJudgment (jb' (fun hx => ?_) (fun hx => s_within (jb (fun hy => ?_) (fun hy => ?_))))
  · exact s_isJudgment_M (jb' (fun _ => h _ _ _ _ _ _ _ _ _ _ _ _ hJ) (fun z => absurd z hx))
  · refine s_judgeAll hk hW hR hB hE hJ (fun b' j' hJ' => s_survey hn hJ' (fun qd' tq' tr' => ?_))
    generalize hm0 : (fun a => tB (¬ encJ j q (lb w n d y k a) = x1)) = m0
    have hme : ∀ a, (m0 a = true ↔ ¬ encJ j q (lb w n d y k a) = x1) := fun a => by rw [← hm0]; exact tB_t
    have hm : ∀ r, (x2 = 0 → r = nI (sv n m0 (2 ^ n)).2.1) → (¬ x2 = 0 → r = nI (sv n m0 (2 ^ n)).2.2) → P_Mo_parts x1 x2 (nI n) (nI k) judged tl tm one mw (fun r' jm tl2 tm2 => K r 1 qd' (nI (sv n m0 (2 ^ n)).2.1) (nI (sv n m0 (2 ^ n)).2.2) b' j' tq' tr' r' jm tl2 tm2) := by
      intro r g0 g1
      refine s_isJudgment_M (jb' (fun z => absurd hx z) (fun _ => s_in_M (jb (fun _ => s_layJudged_M (by omega) hn hMW hO hB (fun jm hjm => ?_)) (fun z => absurd hy z))))
      generalize hQ : (fun r' jm tl2 tm2 => K r 1 qd' (nI (sv n m0 (2 ^ n)).2.1) (nI (sv n m0 (2 ^ n)).2.2) b' j' tq' tr' r' jm tl2 tm2) = Q
      have hA := lpf (fun m a => ∀ tm, (∀ c, c < a → (m0 c = true ↔ ¬ tm c = 0)) → L_Mo_parts_25 x1 x2 (nI n) (nI k) one mw Q m (nI a) jm tl tm) 0 (2 ^ n) (Nat.zero_le _) (fun m tm htm => ?_) (fun m a _ ha ih tm htm => ?_)
      · obtain ⟨m, hm⟩ := hA
        exact ⟨m, hm tm (fun c hc => absurd hc (Nat.not_lt_zero c))⟩
      · rw [L_Mo_parts_25]
        refine s_deedMany_M hn (jle (by omega) (by omega) (fun _ => ?_) (fun c => absurd c (by omega)))
        have hC := lpf (fun m a => ∀ tl tm, (∀ c, c < 2 ^ n → ((sv n m0 a).1 c = true ↔ ¬ tm c = 0)) → L_Mo_parts_68 x1 x2 (nI n) (nI k) one mw Q m (nI (sv n m0 a).2.1) (nI (sv n m0 a).2.2) (nI a) jm tl tm) 0 (2 ^ n) (Nat.zero_le _) (fun m tl tm htm => ?_) (fun m a _ ha ih tl tm htm => ?_)
        · obtain ⟨m, hm⟩ := hC
          exact ⟨m, hm tl tm htm⟩
        · rw [L_Mo_parts_68]
          refine s_deedMany_M hn (jle (by omega) (by omega) (fun _ => br_n (fun z => ?_) (fun z => ?_)) (fun c => absurd c (by omega)))
          · rw [← hQ]
            show K r 1 qd' _ _ b' j' tq' tr' _ jm tl tm
            rw [g1 z]; exact h _ _ _ _ _ _ _ _ _ _ _ _ (Or.inr ⟨rfl, hJ'⟩)
          · rw [← hQ]
            show K r 1 qd' _ _ b' j' tq' tr' _ jm tl tm
            rw [g0 z]; exact h _ _ _ _ _ _ _ _ _ _ _ _ (Or.inr ⟨rfl, hJ'⟩)
        · rw [L_Mo_parts_68]
          refine s_deedMany_M hn (jle (by omega) (by omega) (fun c => absurd c (by omega)) (fun _ => ⟨vpn (by omega) (by decide), ?_⟩))
          rw [clI (by omega)]
          have hta := htm a ha
          refine br_n (fun z => ?_) (fun z => ?_)
          · have e : sv n m0 (a + 1) = sv n m0 a := if_pos (hta.mpr z)
            rw [e] at ih
            show L_Mo_parts_68 _ _ _ _ _ _ _ _ _ _ (nI a + 1) _ _ _
            rw [← nI_succ]
            exact ih tl tm htm
          · have c : ¬ (sv n m0 a).1 a = true := fun q => hta.mp q z
            have e : sv n m0 (a + 1) = ((bf n (2 ^ n) 0 (bv (0, fun _ => 0, (sv n m0 a).1) a)).2.2, (sv n m0 a).2.1 + 1, if (sv n m0 a).2.2 < (bf n (2 ^ n) 0 (bv (0, fun _ => 0, (sv n m0 a).1) a)).1 then (bf n (2 ^ n) 0 (bv (0, fun _ => 0, (sv n m0 a).1) a)).1 else (sv n m0 a).2.2) := if_neg c
            have hsl := sv_le (n := n) m0 a (by omega)
            have hI0 := BI0 n (fun _ => 0) (sv n m0 a).1
            have hI2 := bf_inv (n := n) (2 ^ n) 0 _ (bv_inv hI0 ha).1
            have h3 := hI2.1
            refine s_spread_M hn ha c htm (fun tl2 tm2 hR2 => ?_)
            have ih2 := ih tl2 tm2
            rw [e] at ih2
            have ih3 := ih2 hR2.2
            refine jle (by omega) (by omega) (fun z2 => ?_) (fun z2 => ?_)
            · show L_Mo_parts_68 _ _ _ _ _ _ _ _ (nI _ + 1) _ (nI a + 1) _ _ _
              rw [← nI_succ, ← nI_succ]
              have e5 : (if (sv n m0 a).2.2 < (bf n (2 ^ n) 0 (bv (0, fun _ => 0, (sv n m0 a).1) a)).1 then (bf n (2 ^ n) 0 (bv (0, fun _ => 0, (sv n m0 a).1) a)).1 else (sv n m0 a).2.2) = (sv n m0 a).2.2 := if_neg (by omega)
              rw [e5] at ih3
              exact ih3
            · show L_Mo_parts_68 _ _ _ _ _ _ _ _ (nI _ + 1) _ (nI a + 1) _ _ _
              rw [← nI_succ, ← nI_succ]
              have e5 : (if (sv n m0 a).2.2 < (bf n (2 ^ n) 0 (bv (0, fun _ => 0, (sv n m0 a).1) a)).1 then (bf n (2 ^ n) 0 (bv (0, fun _ => 0, (sv n m0 a).1) a)).1 else (sv n m0 a).2.2) = (bf n (2 ^ n) 0 (bv (0, fun _ => 0, (sv n m0 a).1) a)).1 := if_pos z2
              rw [e5] at ih3
              exact ih3
      · rw [L_Mo_parts_25]
        refine s_deedMany_M hn (jle (by omega) (by omega) (fun c => absurd c (by omega)) (fun _ => ⟨vpn (by omega) (by decide), ?_⟩))
        rw [clI (by omega), hjm a ha]
        have go : ∀ v : Int32, (m0 a = true ↔ ¬ v = 0) → L_Mo_parts_25 x1 x2 (nI n) (nI k) one mw Q m (nI a + 1) jm tl (upd tm a v) := by
          intro v hv
          rw [← nI_succ]
          refine ih _ (fun c hc => ?_)
          by_cases e : c = a
          · subst e; rw [upd_s]; exact hv
          · rw [upd_n _ e]; exact htm c (by omega)
        refine br_n (fun z => ⟨vpn (by omega) (by decide), ?_⟩) (fun z => ⟨vpn (by omega) (by decide), ?_⟩)
        · rw [clI (by omega)]
          exact go 1 ⟨fun _ => by decide, fun _ => (hme a).mpr z⟩
        · rw [clI (by omega)]
          exact go 0 ⟨fun q => absurd z ((hme a).mp q), fun q => absurd rfl q⟩
    exact br_n (fun z => hm _ (fun q => absurd q z) (fun _ => rfl)) (fun z => hm _ (fun _ => rfl) (fun q => absurd z q))
  · exact s_isJudgment_M (jb' (fun z => absurd hx z) (fun _ => s_in_M (jb (fun z => absurd z hy) (fun _ => h _ _ _ _ _ _ _ _ _ _ _ _ hJ))))
