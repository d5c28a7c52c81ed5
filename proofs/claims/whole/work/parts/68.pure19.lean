/-! PURE 19: texts -/
theorem sb_i {α β : Type} {x : Nat ⊕ α} {g : α → Nat ⊕ β} {f : Nat} (h : sb x g = .inl f) : x = .inl f ∨ ∃ a, x = .inr a ∧ g a = .inl f := by
  cases x with
  | inl y =>
    have e : y = f := Sum.inl.inj h
    subst e
    exact Or.inl rfl
  | inr a => exact Or.inr ⟨a, rfl, h⟩
theorem ln_l {sz : Nat} {tx : Nat → Nat} {e pts css f : Nat} (he : e ≤ sz) (h : ln sz tx e pts css = .inl f) : f ≤ sz := by
  have h1 : eE sz tx (sS sz tx e) ≤ sz := (eE_le (sS_le he).2).2.1
  have h2 : sS sz tx e ≤ sz := (sS_le he).2
  unfold ln at h
  generalize hw : wd tx (sS sz tx e) (eE sz tx (sS sz tx e)) = w at h
  generalize eE sz tx (sS sz tx e) = e1 at *
  generalize sS sz tx e = s at *
  by_cases w0 : w = 0
  · rw [if_pos w0] at h
    rcases sb_i h with z | ⟨a, _, z⟩
    · exact nu_l h1 z
    · cases z
  rw [if_neg w0] at h
  by_cases w1 : w = 1
  · rw [if_pos w1] at h
    rcases sb_i h with z | ⟨a, za, z⟩
    · exact nu_l h1 z
    · rcases sb_i z with z | ⟨b, _, z⟩
      · exact nu_l (nu_r h1 za).2.2 z
      · cases z
  rw [if_neg w1] at h
  by_cases w2 : w = 2
  · rw [if_pos w2] at h
    rcases sb_i h with z | ⟨a, za, z⟩
    · exact nu_l h1 z
    · rcases sb_i z with z | ⟨b, _, z⟩
      · exact nu_l (nu_r h1 za).2.2 z
      · cases z
  rw [if_neg w2] at h
  by_cases w3 : w = 3
  · rw [if_pos w3] at h
    by_cases c12 : css = 12
    · rw [if_pos c12] at h; cases h; exact h2
    rw [if_neg c12] at h
    rcases sb_i h with z | ⟨a, za, z⟩
    · exact ru_l h1 z
    · rcases sb_i z with z | ⟨b, zb, z⟩
      · exact nu_l (ru_r h1 za).2 z
      · rcases sb_i z with z | ⟨c, _, z⟩
        · exact nu_l (nu_r (ru_r h1 za).2 zb).2.2 z
        · cases z
  rw [if_neg w3] at h
  by_cases w4 : w = 4
  · rw [if_pos w4] at h
    rcases sb_i h with z | ⟨a, _, z⟩
    · exact nu_l h1 z
    · cases z
  rw [if_neg w4] at h
  by_cases w5 : w = 5
  · rw [if_pos w5] at h
    rcases sb_i h with z | ⟨a, _, z⟩
    · exact nu_l h1 z
    · cases z
  rw [if_neg w5] at h
  cases h
  exact h2
theorem LV_b {p c : Nat} {t : LT} {p' c' : Nat} (hp : p ≤ 10) (hc : c ≤ 12) (h : LV p c t p' c') : p' ≤ 10 ∧ c' ≤ 12 := by
  rcases h with h | h | h | h | h <;> omega
/-- a whole text, purely: the first fault or the lines -/
noncomputable def rd (sz : Nat) (tx : Nat → Nat) : Nat → Nat → Nat → Nat → Nat ⊕ List LT
  | 0 => fun e p c => sb (ln sz tx e p c) (fun v => if sS sz tx v.2.1 = sz then .inr [v.1] else .inl (sS sz tx v.2.1))
  | f + 1 => fun e p c => sb (ln sz tx e p c) (fun v => if sS sz tx v.2.1 = sz then .inr [v.1] else if tx (sS sz tx v.2.1) = 59 then sb (rd sz tx f (eE sz tx (sS sz tx v.2.1)) v.2.2.1 v.2.2.2) (fun ls => .inr (v.1 :: ls)) else .inl (sS sz tx v.2.1))
def RV : Nat → Nat → List LT → Prop
  | _, _, [] => True
  | p, c, t :: ls => ∃ p' c', LV p c t p' c' ∧ RV p' c' ls
theorem rd_ok {sz : Nat} {tx : Nat → Nat} : ∀ (f e p c : Nat) (ls : List LT), e ≤ sz → p ≤ 10 → c ≤ 12 → rd sz tx f e p c = .inr ls → RV p c ls ∧ ls.length ≤ f + 1 := by
  intro f
  induction f with
  | zero =>
    intro e p c ls he hp hc h
    unfold rd at h
    cases hl : ln sz tx e p c with
    | inl g => rw [sb_l hl] at h; cases h
    | inr v =>
      obtain ⟨t, e', p', c'⟩ := v
      rw [sb_r hl] at h
      have hv := ln_ok he hc hl
      by_cases z : sS sz tx e' = sz
      · rw [if_pos z] at h; cases h
        exact ⟨⟨p', c', hv.1, trivial⟩, Nat.le_refl _⟩
      · rw [if_neg z] at h; cases h
  | succ f ih =>
    intro e p c ls he hp hc h
    unfold rd at h
    cases hl : ln sz tx e p c with
    | inl g => rw [sb_l hl] at h; cases h
    | inr v =>
      obtain ⟨t, e', p', c'⟩ := v
      rw [sb_r hl] at h
      have hv := ln_ok he hc hl
      have hb := LV_b hp hc hv.1
      by_cases z : sS sz tx e' = sz
      · rw [if_pos z] at h; cases h
        exact ⟨⟨p', c', hv.1, trivial⟩, by show 1 ≤ f + 1 + 1; omega⟩
      · rw [if_neg z] at h
        by_cases z2 : tx (sS sz tx e') = 59
        · rw [if_pos z2] at h
          have hsS := (sS_le (tx := tx) hv.2).2
          cases hr : rd sz tx f (eE sz tx (sS sz tx e')) p' c' with
          | inl g => rw [sb_l hr] at h; cases h
          | inr l2 =>
            rw [sb_r hr] at h
            cases h
            have hi := ih _ _ _ _ (eE_le hsS).2.1 hb.1 hb.2 hr
            exact ⟨⟨p', c', hv.1, hi.1⟩, by show l2.length + 1 ≤ f + 1 + 1; omega⟩
        · rw [if_neg z2] at h; cases h
/-- what the class keeps of the lines -/
def VWm (values words : Nat → Int32) : Nat → List LT → Prop
  | _, [] => True
  | i, t :: ls => (words i = nI t.1 ∧ values (3 * i) = nI t.2.1 ∧ values (3 * i + 1) = nI t.2.2.1 ∧ values (3 * i + 2) = nI t.2.2.2) ∧ VWm values words (i + 1) ls
def VW (i : Nat) (ls : List LT) (values words values' words' : Nat → Int32) : Prop := VWm values' words' i ls ∧ (∀ r, r < i → words' r = words r) ∧ ∀ r, r < 3 * i → values' r = values r
theorem VW_c {i : Nat} {t : LT} {ls : List LT} {v0 w0 v1 w1 v2 w2 : Nat → Int32} (h1 : KVl i t v0 w0 v1 w1) (h2 : VW (i + 1) ls v1 w1 v2 w2) : VW i (t :: ls) v0 w0 v2 w2 := by
  obtain ⟨e1, e2⟩ := h1
  obtain ⟨g1, g2, g3⟩ := h2
  refine ⟨⟨⟨?_, ?_, ?_, ?_⟩, g1⟩, fun r hr => ?_, fun r hr => ?_⟩
  · rw [g2 i (by omega), e1, upd_s]
  · rw [g3 _ (by omega), e2, upd_n _ (by omega), upd_n _ (by omega), upd_s]
  · rw [g3 _ (by omega), e2, upd_n _ (by omega), upd_s]
  · rw [g3 _ (by omega), e2, upd_s]
  · rw [g2 r (by omega), e1, upd_n _ (by omega)]
  · rw [g3 r (by omega), e2, upd_n _ (by omega), upd_n _ (by omega), upd_n _ (by omega)]
theorem VW_n {i : Nat} {v w : Nat → Int32} : VW i [] v w v w := ⟨trivial, fun _ _ => rfl, fun _ _ => rfl⟩
theorem ra_end {x1 x2 sz x4 li fa pt cs st en : Int32} {cb v w : Nat → Int32} {Q : Int32 → Int32 → Int32 → Int32 → Int32 → Int32 → Int32 → (Nat → Int32) → (Nat → Int32) → Prop} {m : Nat} (h : Q fa li fa pt cs st en v w) : L_Text_readAll_30 x1 x2 sz cb Q (m + 1) 0 x4 li fa pt cs st en v w := ⟨fun _ => h, fun _ => br_t rfl h⟩
theorem s_rd_C {sz : Nat} {tx : Nat → Nat} {x1 x2 : Int32} {cb : Nat → Int32} {Q : Int32 → Int32 → Int32 → Int32 → Int32 → Int32 → Int32 → (Nat → Int32) → (Nat → Int32) → Prop} (hT : TX sz tx cb) : ∀ (f i e p c : Nat) (ts : Int32) (values words : Nat → Int32), i + f + 1 = 8 → e ≤ sz → p ≤ 10 → c ≤ 12 →
    (∀ g li pt cs st en v' w', g ≤ sz → rd sz tx f e p c = .inl g → Q (nI g) li (nI g) pt cs st en v' w') →
    (∀ ls pt cs st en v' w', rd sz tx f e p c = .inr ls → VW i ls values words v' w' → Q (-1) (nI (i + ls.length)) (-1) pt cs st en v' w') →
    L_Text_readAll_30 x1 x2 (nI sz) cb Q (f + 2) 1 (nI i) (nI i) (-1) (nI p) (nI c) ts (nI e) values words := by
  have hs := hT.1
  intro f
  induction f with
  | zero =>
    intro i e p c ts values words hi he hp hc h0 h1
    unfold rd at h0 h1
    refine jle (a := 8) (b := i) (by decide) (by omega) (fun z => absurd z (by omega)) (fun _ => br_f (by decide) (s_readLine hT he (by omega) hp hc (fun g a1 a2 a3 a4 a5 a6 a7 hl => ?_) (fun t e' p' c' st v1 w1 hl hk => ?_)))
    · have hg := ln_l he hl
      exact br_nt (nI_m1 (by omega)) (ra_end (h0 g _ _ _ _ _ _ _ hg (sb_l hl)))
    · have hv := ln_ok he hc hl
      have hsS := (sS_le (tx := tx) hv.2).2
      rw [sb_r hl] at h0 h1
      refine br_nf rfl (s_nextToken hT hv.2 ?_)
      refine jlt (by omega) (by omega) (fun z => s_byteAt hT z ?_) (fun z => ?_)
      · rw [if_neg (show ¬ sS sz tx e' = sz by omega)] at h0
        have hf : ∀ m, L_Text_readAll_30 x1 x2 (nI sz) cb Q (m + 1) 0 (nI i + 1) (nI (i + 1)) (nI (sS sz tx e')) (nI p') (nI c') (nI (sS sz tx e')) (nI (eE sz tx (sS sz tx e'))) v1 w1 := fun m => ra_end (h0 _ _ _ _ _ _ _ _ hsS rfl)
        refine jne (b := 59) (by have := (hT.2 _ z).2; omega) (by decide) (fun z2 => s_fail0 (br_t rfl (hf 0))) (fun z2 => ?_)
        exact jne (a := i + 1) (b := 8) (by omega) (by decide) (fun z3 => absurd (show i + 1 = 8 by omega) z3) (fun _ => s_fail0 (br_t rfl (hf 0)))
      · rw [if_pos (show sS sz tx e' = sz by omega)] at h1
        exact br_t rfl (ra_end (h1 [t] _ _ _ _ _ _ rfl (VW_c hk VW_n)))
  | succ f ih =>
    intro i e p c ts values words hi he hp hc h0 h1
    unfold rd at h0 h1
    refine jle (a := 8) (b := i) (by decide) (by omega) (fun z => absurd z (by omega)) (fun _ => br_f (by decide) (s_readLine hT he (by omega) hp hc (fun g a1 a2 a3 a4 a5 a6 a7 hl => ?_) (fun t e' p' c' st v1 w1 hl hk => ?_)))
    · have hg := ln_l he hl
      exact br_nt (nI_m1 (by omega)) (ra_end (h0 g _ _ _ _ _ _ _ hg (sb_l hl)))
    · have hv := ln_ok he hc hl
      have hb := LV_b hp hc hv.1
      have hsS := (sS_le (tx := tx) hv.2).2
      rw [sb_r hl] at h0 h1
      refine br_nf rfl (s_nextToken hT hv.2 ?_)
      refine jlt (by omega) (by omega) (fun z => s_byteAt hT z ?_) (fun z => ?_)
      · rw [if_neg (show ¬ sS sz tx e' = sz by omega)] at h0 h1
        refine jne (b := 59) (by have := (hT.2 _ z).2; omega) (by decide) (fun z2 => ?_) (fun z2 => ?_)
        · rw [if_neg z2] at h0
          exact s_fail0 (br_t rfl (ra_end (h0 _ _ _ _ _ _ _ _ hsS rfl)))
        · rw [if_pos z2] at h0 h1
          refine jne (a := i + 1) (b := 8) (by omega) (by decide) (fun _ => br_f (by decide) ?_) (fun z3 => absurd z3 (by omega))
          show L_Text_readAll_30 x1 x2 (nI sz) cb Q (f + 2) 1 (nI i + 1) (nI (i + 1)) (-1) (nI p') (nI c') (nI (sS sz tx e')) (nI (eE sz tx (sS sz tx e'))) v1 w1
          rw [← nI_succ]
          refine ih (i + 1) _ _ _ _ _ _ (by omega) (eE_le hsS).2.1 hb.1 hb.2 (fun g li pt cs st en v' w' hg hr => h0 g _ _ _ _ _ _ _ hg (by rw [sb_l hr])) (fun ls pt cs st en v' w' hr hvw => ?_)
          have := h1 (t :: ls) pt cs st en v' w' (by rw [sb_r hr]) (VW_c hk hvw)
          rw [show i + (t :: ls).length = i + 1 + ls.length by show i + (ls.length + 1) = _; omega] at this
          exact this
      · rw [if_pos (show sS sz tx e' = sz by omega)] at h1
        exact br_t rfl (ra_end (h1 [t] _ _ _ _ _ _ rfl (VW_c hk VW_n)))
/-- what the model keeps of the lines -/
def RMm (read : Nat → Int32) : Nat → List LT → Prop
  | _, [] => True
  | i, t :: ls => RdL i t read ∧ RMm read (i + 1) ls
def RMd (i : Nat) (ls : List LT) (read read' : Nat → Int32) : Prop := RMm read' i ls ∧ ∀ r, r < 4 * i → read' r = read r
theorem RMd_n {i : Nat} {r : Nat → Int32} : RMd i [] r r := ⟨trivial, fun _ _ => rfl⟩
theorem RMd_c {i : Nat} {t : LT} {ls : List LT} {r0 r1 r2 : Nat → Int32} (h1 : RdOK i t r0 r1) (h2 : RMd (i + 1) ls r1 r2) : RMd i (t :: ls) r0 r2 := by
  obtain ⟨⟨a1, a2, a3, a4⟩, b⟩ := h1
  obtain ⟨g1, g2⟩ := h2
  refine ⟨⟨⟨?_, ?_, fun z => ?_, fun z => ?_⟩, g1⟩, fun r hr => ?_⟩
  · rw [g2 _ (by omega), a1]
  · rw [g2 _ (by omega), a2]
  · rw [g2 _ (by omega), a3 z]
  · rw [g2 _ (by omega), a4 z]
  · rw [g2 _ (by omega), b _ hr]
theorem ir_end {sz s : Nat} {tx : Nat → Nat} {x1 x2 po dg nm rv ir fa rm rp rc : Int32} {tok : Int64} {mt read : Nat → Int32} {Q : Int32 → Int32 → Int32 → Int64 → Int32 → Int32 → Int32 → Int32 → Int32 → Int32 → Int32 → Int32 → (Nat → Int32) → Prop} {m : Nat} (hs : s ≤ sz) (hk : TokOK sz tx s tok dg nm rv ir)
    (h0 : ¬ s = sz → Q 0 po (nI s) tok dg nm rv ir (nI s) rm rp rc read) (h1 : s = sz → Q 1 po (nI s) tok dg nm rv ir fa rm rp rc read) : L_Mo_isRead_28 x1 x2 (nI sz) mt Q (m + 1) 0 po (nI s) tok dg nm rv ir fa rm rp rc read := by
  have hw := tok_end hs hk
  refine br_t rfl (lgc (fun z => ?_) (fun z => ?_))
  · exact ⟨rfl, h1 (hw.mp z)⟩
  · exact br_t rfl ⟨rfl, h0 (fun q => z (hw.mpr q))⟩
theorem s_rd_M {sz : Nat} {tx : Nat → Nat} {x1 x2 : Int32} {mt : Nat → Int32} {Q : Int32 → Int32 → Int32 → Int64 → Int32 → Int32 → Int32 → Int32 → Int32 → Int32 → Int32 → Int32 → (Nat → Int32) → Prop} (hT : TX sz tx mt) : ∀ (f i e p c : Nat) (ta : Int32) (tok : Int64) (dg nm rv ir fa : Int32) (read : Nat → Int32), i + f + 1 = 8 → e ≤ sz → p ≤ 10 → c ≤ 12 →
    (∀ g a1 a2 a3 a4 a5 a6 a7 a8 a9 a10 a11, g ≤ sz → rd sz tx f e p c = .inl g → Q 0 a1 a2 a3 a4 a5 a6 a7 (nI g) a8 a9 a10 a11) →
    (∀ ls a1 a2 a3 a4 a5 a6 a7 a8 a9 a10 read', rd sz tx f e p c = .inr ls → RMd i ls read read' → Q 1 a1 a2 a3 a4 a5 a6 a7 a8 (nI (i + ls.length)) a9 a10 read') →
    L_Mo_isRead_28 x1 x2 (nI sz) mt Q (f + 2) 1 (nI e) ta tok dg nm rv ir fa (nI i) (nI p) (nI c) read := by
  have hs := hT.1
  intro f
  induction f with
  | zero =>
    intro i e p c ta tok dg nm rv ir fa read hi he hp hc h0 h1
    unfold rd at h0 h1
    refine br_f (by decide) ?_
    rw [show (4 : Int32) = nI 4 from rfl, pk_mul]
    refine s_isLine_M hT he (by omega) hp hc (fun g a1 a2 a3 a4 a5 a6 a7 a8 a9 a10 hl => ?_) (fun t e' p' c' a2 a3 a4 a5 a6 a7 a8 r1 hl hk => ?_)
    · have hg := ln_l he hl
      exact br_nf rfl (h0 g _ _ _ _ _ _ _ _ _ _ _ hg (sb_l hl))
    · have hv := ln_ok he hc hl
      have hsS := (sS_le (tx := tx) hv.2).2
      rw [sb_r hl] at h0 h1
      refine br_nt (by decide) (fun x ex => ?_)
      rw [← nI_succ] at ex
      subst ex
      refine s_nextTok_M hT hv.2 (fun tok dg nm rv ir hk2 => ?_)
      have fin : ∀ m, L_Mo_isRead_28 x1 x2 (nI sz) mt Q (m + 1) 0 (nI (eE sz tx (sS sz tx e'))) (nI (sS sz tx e')) tok dg nm rv ir a8 (nI (i + 1)) (nI p') (nI c') r1 := fun m => ir_end hsS hk2 (fun z => h0 _ _ _ _ _ _ _ _ _ _ _ _ hsS (if_neg z)) (fun z => h1 [t] _ _ _ _ _ _ _ _ _ _ _ (if_pos z) (RMd_c hk RMd_n))
      exact lgc' (fun z => fin 0) (fun z => jle (a := 8) (b := i + 1) (by decide) (by omega) (fun _ => fin 0) (fun z3 => absurd z3 (by omega)))
  | succ f ih =>
    intro i e p c ta tok dg nm rv ir fa read hi he hp hc h0 h1
    unfold rd at h0 h1
    refine br_f (by decide) ?_
    rw [show (4 : Int32) = nI 4 from rfl, pk_mul]
    refine s_isLine_M hT he (by omega) hp hc (fun g a1 a2 a3 a4 a5 a6 a7 a8 a9 a10 hl => ?_) (fun t e' p' c' a2 a3 a4 a5 a6 a7 a8 r1 hl hk => ?_)
    · have hg := ln_l he hl
      exact br_nf rfl (h0 g _ _ _ _ _ _ _ _ _ _ _ hg (sb_l hl))
    · have hv := ln_ok he hc hl
      have hb := LV_b hp hc hv.1
      have hsS := (sS_le (tx := tx) hv.2).2
      rw [sb_r hl] at h0 h1
      refine br_nt (by decide) (fun x ex => ?_)
      rw [← nI_succ] at ex
      subst ex
      refine s_nextTok_M hT hv.2 (fun tok dg nm rv ir hk2 => ?_)
      have hw3 := tok_semi hsS hk2
      refine lgc' (fun z => ?_) (fun z => ?_)
      · have h59 : ¬ sS sz tx e' = sz → ¬ tx (sS sz tx e') = 59 := fun z1 z2 => z (hw3.mpr ⟨by omega, z2⟩)
        exact ir_end hsS hk2 (fun z1 => h0 _ _ _ _ _ _ _ _ _ _ _ _ hsS (by rw [if_neg z1, if_neg (h59 z1)])) (fun z1 => h1 [t] _ _ _ _ _ _ _ _ _ _ _ (if_pos z1) (RMd_c hk RMd_n))
      · have hw := hw3.mp z
        rw [if_neg (show ¬ sS sz tx e' = sz by omega), if_pos hw.2] at h0 h1
        refine jle (a := 8) (b := i + 1) (by decide) (by omega) (fun z3 => absurd z3 (by omega)) (fun _ => ?_)
        refine ih (i + 1) _ _ _ _ _ _ _ _ _ _ _ (by omega) (eE_le hsS).2.1 hb.1 hb.2 (fun g a1 a2 a3 a4 a5 a6 a7 a8 a9 a10 a11 hg hr => h0 g _ _ _ _ _ _ _ _ _ _ _ hg (by rw [sb_l hr])) (fun ls a1 a2 a3 a4 a5 a6 a7 a8 a9 a10 r2 hr hrm => ?_)
        have := h1 (t :: ls) a1 a2 a3 a4 a5 a6 a7 a8 a9 a10 r2 (by rw [sb_r hr]) (RMd_c hk hrm)
        rw [show i + (t :: ls).length = i + 1 + ls.length by show i + (ls.length + 1) = _; omega] at this
        exact this
theorem op_fault {sz n k : Nat} {tx : Nat → Nat} {tl tf tp tc ts te po ta dg nm rv ir fa rm rp rc : Int32} {tok : Int64} {cb values words mt read : Nat → Int32} {K : Int32 → Int32 → Int32 → Int32 → Int32 → Int32 → Int32 → (Nat → Int32) → (Nat → Int32) → Int32 → Int32 → Int32 → Int64 → Int32 → Int32 → Int32 → Int32 → Int32 → Int32 → Int32 → Int32 → (Nat → Int32) → Prop} (hT : TX sz tx cb) (hT2 : TX sz tx mt) (hn : n ≤ 10) (hk : k ≤ 12)
    (h : ∀ r a1 a2 a3 a4 a5 a6 a7 a8 b1 b2 b3 b4 b5 b6 b7 b8 b9 b10 b11 b12, K r a1 a2 a3 a4 a5 a6 a7 a8 r b1 b2 b3 b4 b5 b6 b7 b8 b9 b10 b11 b12) :
    P_LC_fault (nI n) (nI sz) tl tf tp tc ts te (nI k) cb values words (fun r a1 a2 a3 a4 a5 a6 a7 a8 => P_Mo_fault (nI n) (nI k) (nI sz) po ta tok dg nm rv ir fa rm rp rc read mt (fun r' b1 b2 b3 b4 b5 b6 b7 b8 b9 b10 b11 b12 => K r a1 a2 a3 a4 a5 a6 a7 a8 r' b1 b2 b3 b4 b5 b6 b7 b8 b9 b10 b11 b12)) := by
  refine ⟨9, s_rd_C hT 7 0 0 n k ts values words rfl (Nat.zero_le _) hn hk (fun g li pt cs st en v' w' hg hr => ?_) (fun ls pt cs st en v' w' hr hv => ?_)⟩
  · refine ⟨9, s_rd_M hT2 7 0 0 n k ta tok dg nm rv ir fa read rfl (Nat.zero_le _) hn hk (fun g2 a1 a2 a3 a4 a5 a6 a7 a8 a9 a10 a11 hg2 hr2 => ?_) (fun ls a1 a2 a3 a4 a5 a6 a7 a8 a9 a10 r2 hr2 hrm => ?_)⟩
    · rw [hr] at hr2
      cases hr2
      exact br_t rfl (h _ _ _ _ _ _ _ _ _ _ _ _ _ _ _ _ _ _ _ _ _)
    · rw [hr] at hr2
      cases hr2
  · refine ⟨9, s_rd_M hT2 7 0 0 n k ta tok dg nm rv ir fa read rfl (Nat.zero_le _) hn hk (fun g2 a1 a2 a3 a4 a5 a6 a7 a8 a9 a10 a11 hg2 hr2 => ?_) (fun ls a1 a2 a3 a4 a5 a6 a7 a8 a9 a10 r2 hr2 hrm => ?_)⟩
    · rw [hr] at hr2
      cases hr2
    · exact br_f (by decide) (h _ _ _ _ _ _ _ _ _ _ _ _ _ _ _ _ _ _ _ _ _)
