def P_Roll_size (t_size : Int32) (Q : Int32 → Prop) : Prop := Q t_size
abbrev rm_Roll_size : Room := { frames := 0, cells := 0, slots := 0, locals := 0 }
def cs_Roll_size (g : GE) (a_t a_t_deeds a_t_firstJudgments a_t_years a_t_pardoned a_t_elders : Nat) (t_size : Int32) : va_W := [oc a_t 5 [.ref a_t_deeds, .ref a_t_firstJudgments, .ref a_t_years, .ref a_t_pardoned, .ref a_t_elders, .int t_size]]
set_option maxHeartbeats 4000000 in
set_option maxRecDepth 100000 in
theorem c_Roll_size (l : Launch) (g : GE) (a_t a_t_deeds a_t_firstJudgments a_t_years a_t_pardoned a_t_elders : Nat) (t_size : Int32) (Q : Int32 → Prop) (h : P_Roll_size t_size Q) : Cti l g yX5_size cX5_size 1 (some .int) rm_Roll_size [.ref a_t] (cs_Roll_size g a_t a_t_deeds a_t_firstJudgments a_t_years a_t_pardoned a_t_elders t_size) (S := Unit) (fun r u => Q r) (fun _ => (cs_Roll_size g a_t a_t_deeds a_t_firstJudgments a_t_years a_t_pardoned a_t_elders t_size)) := by
  refine meetI rfl (Nat.le_of_ble_eq_true rfl) ⟨rfl, rfl⟩ ?_
  intro p e s m args below meth c A Qf ls C hret hw hl
  have hx := C.1
  have hb := C.2.1
  have hown := C.2.2.2.1
  have hts := C.2.2.2.2.1
  have hE := C.2.2.2.2.2.1
  have hl : lv_has ls 1 [(0, .ref a_t)] := hl
  refine lv_aload_n hx hb dX5_size_0 rfl (lv_at hl 0 rfl) ?_
  refine G_RX5_28 C hw 0 rfl dX5_size_1 ?_
  exact hret () h hw dX5_size_4 rfl
def B_Roll_findElders_74 (t_size : Int32) (t_years : (Nat → Int32)) (Q : (Nat → Int32) → Prop) (N_2 : Int32 → (Nat → Int32) → Prop) (N_19 : Int32 → Int32 → (Nat → Int32) → Prop) (x1 : Int32) (x2 : Int32) (t_elders : (Nat → Int32)) : Prop := N_19 x1 (x2 + 1) t_elders
def B_Roll_findElders_62 (t_size : Int32) (t_years : (Nat → Int32)) (Q : (Nat → Int32) → Prop) (N_2 : Int32 → (Nat → Int32) → Prop) (N_19 : Int32 → Int32 → (Nat → Int32) → Prop) (x1 : Int32) (x2 : Int32) (t_elders : (Nat → Int32)) : Prop := vp_in x1 12 ∧ (vp_in x1 12 ∧ (B_Roll_findElders_74 t_size t_years Q N_2 N_19 x1 x2 (upd t_elders x1.toNatClampNeg ((t_elders x1.toNatClampNeg) ||| (1 <<< (x2 &&& 31))))))
def L_Roll_findElders_19 (t_size : Int32) (t_years : (Nat → Int32)) (Q : (Nat → Int32) → Prop) (N_2 : Int32 → (Nat → Int32) → Prop) : Nat → Int32 → Int32 → (Nat → Int32) → Prop
  | 0 => fun _ _ _ => False
  | n + 1 => fun x1 x2 t_elders => (t_size ≤ x2 → N_2 (x1 + 1) t_elders) ∧ (¬ t_size ≤ x2 → vp_in x2 12 ∧ (vp_in x1 12 ∧ (((t_years x2.toNatClampNeg) < (t_years x1.toNatClampNeg) → B_Roll_findElders_62 t_size t_years Q N_2 (L_Roll_findElders_19 t_size t_years Q N_2 n) x1 x2 t_elders) ∧ (¬ (t_years x2.toNatClampNeg) < (t_years x1.toNatClampNeg) → vp_in x2 12 ∧ (vp_in x1 12 ∧ ((¬ (t_years x2.toNatClampNeg) = (t_years x1.toNatClampNeg) → B_Roll_findElders_74 t_size t_years Q N_2 (L_Roll_findElders_19 t_size t_years Q N_2 n) x1 x2 t_elders) ∧ ((t_years x2.toNatClampNeg) = (t_years x1.toNatClampNeg) → (x1 ≤ x2 → B_Roll_findElders_74 t_size t_years Q N_2 (L_Roll_findElders_19 t_size t_years Q N_2 n) x1 x2 t_elders) ∧ (¬ x1 ≤ x2 → B_Roll_findElders_62 t_size t_years Q N_2 (L_Roll_findElders_19 t_size t_years Q N_2 n) x1 x2 t_elders))))))))
def L_Roll_findElders_2 (t_size : Int32) (t_years : (Nat → Int32)) (Q : (Nat → Int32) → Prop) : Nat → Int32 → (Nat → Int32) → Prop
  | 0 => fun _ _ => False
  | n + 1 => fun x1 t_elders => (t_size ≤ x1 → Q t_elders) ∧ (¬ t_size ≤ x1 → vp_in x1 12 ∧ (∃ n_19 : Nat, L_Roll_findElders_19 t_size t_years Q (L_Roll_findElders_2 t_size t_years Q n) n_19 x1 0 (upd t_elders x1.toNatClampNeg 0)))
def P_Roll_findElders (t_size : Int32) (t_elders : (Nat → Int32)) (t_years : (Nat → Int32)) (Q : (Nat → Int32) → Prop) : Prop := ∃ n_2 : Nat, L_Roll_findElders_2 t_size t_years Q n_2 0 t_elders
abbrev rm_Roll_findElders : Room := { frames := 0, cells := 0, slots := 0, locals := 0 }
def cs_Roll_findElders (g : GE) (a_t a_t_elders a_t_years a_t_deeds a_t_firstJudgments a_t_pardoned : Nat) (t_size : Int32) (t_elders : (Nat → Int32)) (t_years : (Nat → Int32)) : va_W := [oc a_t 5 [.ref a_t_deeds, .ref a_t_firstJudgments, .ref a_t_years, .ref a_t_pardoned, .ref a_t_elders, .int t_size], ai g a_t_elders 12 t_elders, ai g a_t_years 12 t_years]
set_option maxHeartbeats 4000000 in
set_option maxRecDepth 100000 in
theorem c_Roll_findElders (l : Launch) (g : GE) (a_t a_t_elders a_t_years a_t_deeds a_t_firstJudgments a_t_pardoned : Nat) (t_size : Int32) (t_elders : (Nat → Int32)) (t_years : (Nat → Int32)) (Q : (Nat → Int32) → Prop) (h : P_Roll_findElders t_size t_elders t_years Q) : Ctv l g yX5_findElders cX5_findElders 3 none rm_Roll_findElders [.ref a_t] (cs_Roll_findElders g a_t a_t_elders a_t_years a_t_deeds a_t_firstJudgments a_t_pardoned t_size t_elders t_years) (S := (Nat → Int32)) (fun u => Q u) (fun u => (cs_Roll_findElders g a_t a_t_elders a_t_years a_t_deeds a_t_firstJudgments a_t_pardoned t_size u t_years)) := by
  refine meetV rfl (Nat.le_of_ble_eq_true rfl) ⟨rfl, rfl⟩ ?_
  intro p e s m args below meth c A Qf ls C hret hw hl
  have hx := C.1
  have hb := C.2.1
  have hown := C.2.2.2.1
  have hts := C.2.2.2.2.1
  have hE := C.2.2.2.2.2.1
  have hl : lv_has ls 3 [(0, .ref a_t)] := hl
  have hB_Roll_findElders_74 : ∀ (N_2 : Int32 → (Nat → Int32) → Prop) (hN_2 : ∀ (x1 : Int32) (t_elders : (Nat → Int32)), N_2 x1 t_elders → Wat p l e rm_Roll_findElders s m args below meth c A Qf g 3 (cs_Roll_findElders g a_t a_t_elders a_t_years a_t_deeds a_t_firstJudgments a_t_pardoned t_size t_elders t_years) [(0, .ref a_t), (1, .int x1)] 2 []) (N_19 : Int32 → Int32 → (Nat → Int32) → Prop) (hN_19 : ∀ (x1 : Int32) (x2 : Int32) (t_elders : (Nat → Int32)), N_19 x1 x2 t_elders → Wat p l e rm_Roll_findElders s m args below meth c A Qf g 3 (cs_Roll_findElders g a_t a_t_elders a_t_years a_t_deeds a_t_firstJudgments a_t_pardoned t_size t_elders t_years) [(0, .ref a_t), (1, .int x1), (2, .int x2)] 19 []) (x1 : Int32) (x2 : Int32) (t_elders : (Nat → Int32)), B_Roll_findElders_74 t_size t_years Q N_2 N_19 x1 x2 t_elders → Wat p l e rm_Roll_findElders s m args below meth c A Qf g 3 (cs_Roll_findElders g a_t a_t_elders a_t_years a_t_deeds a_t_firstJudgments a_t_pardoned t_size t_elders t_years) [(0, .ref a_t), (1, .int x1), (2, .int x2)] 74 [] := by
    intro N_2 hN_2 N_19 hN_19 x1 x2 t_elders h H locs ls hw hl
    refine lv_iinc (v := x2 + 1) (lv' := [(2, .int (x2 + 1)), (0, .ref a_t), (1, .int x1)]) hx hb dX5_findElders_74 hl (k := 2) rfl rfl (by decide) rfl (fun ls hl => ?_)
    refine lv_goto (tgt := 19) hx hb dX5_findElders_77 (by decide) ?_
    exact hN_19 x1 (x2 + 1) t_elders h _ _ _ hw (lv_sub hl [1, 2, 0] rfl)
  have hB_Roll_findElders_62 : ∀ (N_2 : Int32 → (Nat → Int32) → Prop) (hN_2 : ∀ (x1 : Int32) (t_elders : (Nat → Int32)), N_2 x1 t_elders → Wat p l e rm_Roll_findElders s m args below meth c A Qf g 3 (cs_Roll_findElders g a_t a_t_elders a_t_years a_t_deeds a_t_firstJudgments a_t_pardoned t_size t_elders t_years) [(0, .ref a_t), (1, .int x1)] 2 []) (N_19 : Int32 → Int32 → (Nat → Int32) → Prop) (hN_19 : ∀ (x1 : Int32) (x2 : Int32) (t_elders : (Nat → Int32)), N_19 x1 x2 t_elders → Wat p l e rm_Roll_findElders s m args below meth c A Qf g 3 (cs_Roll_findElders g a_t a_t_elders a_t_years a_t_deeds a_t_firstJudgments a_t_pardoned t_size t_elders t_years) [(0, .ref a_t), (1, .int x1), (2, .int x2)] 19 []) (x1 : Int32) (x2 : Int32) (t_elders : (Nat → Int32)), B_Roll_findElders_62 t_size t_years Q N_2 N_19 x1 x2 t_elders → Wat p l e rm_Roll_findElders s m args below meth c A Qf g 3 (cs_Roll_findElders g a_t a_t_elders a_t_years a_t_deeds a_t_firstJudgments a_t_pardoned t_size t_elders t_years) [(0, .ref a_t), (1, .int x1), (2, .int x2)] 62 [] := by
    intro N_2 hN_2 N_19 hN_19 x1 x2 t_elders h H locs ls hw hl
    refine lv_aload_n hx hb dX5_findElders_62 rfl (lv_at hl 0 rfl) ?_
    refine G_RX5_25 C hw 0 rfl dX5_findElders_63 ?_
    refine lv_iload_n hx hb dX5_findElders_66 rfl (lv_at hl 1 rfl) ?_
    refine lv_dup2_11 hx hb dX5_findElders_67 rfl rfl ?_
    refine aldI C hw 1 rfl h.1 dX5_findElders_68 ?_
    have h := h.2
    refine lv_iconst (v := 1) hx hb dX5_findElders_69 (by decide) ?_
    refine lv_iload_n hx hb dX5_findElders_70 rfl (lv_at hl 2 rfl) ?_
    refine lv_ishl hx hb dX5_findElders_71 ?_
    refine lv_ior hx hb dX5_findElders_72 ?_
    refine astI (ws2 := (cs_Roll_findElders g a_t a_t_elders a_t_years a_t_deeds a_t_firstJudgments a_t_pardoned t_size (upd t_elders x1.toNatClampNeg ((t_elders x1.toNatClampNeg) ||| (1 <<< (x2 &&& 31)))) t_years)) C hw 1 rfl h.1 rfl dX5_findElders_73 (fun H locs hw => ?_)
    have h := h.2
    exact hB_Roll_findElders_74 N_2 hN_2 N_19 hN_19 x1 x2 (upd t_elders x1.toNatClampNeg ((t_elders x1.toNatClampNeg) ||| (1 <<< (x2 &&& 31)))) h _ _ _ hw (lv_sub hl [0, 1, 2] rfl)
  have hL_Roll_findElders_19 : ∀ (N_2 : Int32 → (Nat → Int32) → Prop) (hN_2 : ∀ (x1 : Int32) (t_elders : (Nat → Int32)), N_2 x1 t_elders → Wat p l e rm_Roll_findElders s m args below meth c A Qf g 3 (cs_Roll_findElders g a_t a_t_elders a_t_years a_t_deeds a_t_firstJudgments a_t_pardoned t_size t_elders t_years) [(0, .ref a_t), (1, .int x1)] 2 []) (n : Nat) (x1 : Int32) (x2 : Int32) (t_elders : (Nat → Int32)), L_Roll_findElders_19 t_size t_years Q N_2 n x1 x2 t_elders → Wat p l e rm_Roll_findElders s m args below meth c A Qf g 3 (cs_Roll_findElders g a_t a_t_elders a_t_years a_t_deeds a_t_firstJudgments a_t_pardoned t_size t_elders t_years) [(0, .ref a_t), (1, .int x1), (2, .int x2)] 19 [] := by
    intro N_2 hN_2 n
    induction n with
    | zero => intro x1 x2 t_elders h; exact absurd h id
    | succ n ih =>
      intro x1 x2 t_elders h H locs ls hw hl
      rw [L_Roll_findElders_19] at h
      refine lv_iload_n hx hb dX5_findElders_19 rfl (lv_at hl 2 rfl) ?_
      refine lv_aload_n hx hb dX5_findElders_20 rfl (lv_at hl 0 rfl) ?_
      refine G_RX5_28 C hw 0 rfl dX5_findElders_21 ?_
      refine lv_icmp_ge (tgt := 80) hx hb dX5_findElders_24 (by decide) (fun c_24 => ?_) (fun c_24 => ?_)
      · have h := h.1 c_24
        refine lv_iinc (v := x1 + 1) (lv' := [(1, .int (x1 + 1)), (0, .ref a_t), (2, .int x2)]) hx hb dX5_findElders_80 hl (k := 1) rfl rfl (by decide) rfl (fun ls hl => ?_)
        refine lv_goto (tgt := 2) hx hb dX5_findElders_83 (by decide) ?_
        exact hN_2 (x1 + 1) t_elders h _ _ _ hw (lv_sub hl [1, 0] rfl)
      · have h := h.2 c_24
        refine lv_aload_n hx hb dX5_findElders_27 rfl (lv_at hl 0 rfl) ?_
        refine G_RX5_18 C hw 0 rfl dX5_findElders_28 ?_
        refine lv_iload_n hx hb dX5_findElders_31 rfl (lv_at hl 2 rfl) ?_
        refine aldI C hw 2 rfl h.1 dX5_findElders_32 ?_
        have h := h.2
        refine lv_aload_n hx hb dX5_findElders_33 rfl (lv_at hl 0 rfl) ?_
        refine G_RX5_18 C hw 0 rfl dX5_findElders_34 ?_
        refine lv_iload_n hx hb dX5_findElders_37 rfl (lv_at hl 1 rfl) ?_
        refine aldI C hw 2 rfl h.1 dX5_findElders_38 ?_
        have h := h.2
        refine lv_icmp_lt (tgt := 62) hx hb dX5_findElders_39 (by decide) (fun c_39 => ?_) (fun c_39 => ?_)
        · have h := h.1 c_39
          exact hB_Roll_findElders_62 N_2 hN_2 (L_Roll_findElders_19 t_size t_years Q N_2 n) ih x1 x2 t_elders h _ _ _ hw (lv_sub hl [0, 1, 2] rfl)
        · have h := h.2 c_39
          refine lv_aload_n hx hb dX5_findElders_42 rfl (lv_at hl 0 rfl) ?_
          refine G_RX5_18 C hw 0 rfl dX5_findElders_43 ?_
          refine lv_iload_n hx hb dX5_findElders_46 rfl (lv_at hl 2 rfl) ?_
          refine aldI C hw 2 rfl h.1 dX5_findElders_47 ?_
          have h := h.2
          refine lv_aload_n hx hb dX5_findElders_48 rfl (lv_at hl 0 rfl) ?_
          refine G_RX5_18 C hw 0 rfl dX5_findElders_49 ?_
          refine lv_iload_n hx hb dX5_findElders_52 rfl (lv_at hl 1 rfl) ?_
          refine aldI C hw 2 rfl h.1 dX5_findElders_53 ?_
          have h := h.2
          refine lv_icmp_ne (tgt := 74) hx hb dX5_findElders_54 (by decide) (fun c_54 => ?_) (fun c_54 => ?_)
          · have h := h.1 c_54
            exact hB_Roll_findElders_74 N_2 hN_2 (L_Roll_findElders_19 t_size t_years Q N_2 n) ih x1 x2 t_elders h _ _ _ hw (lv_sub hl [0, 1, 2] rfl)
          · have h := h.2 c_54
            refine lv_iload_n hx hb dX5_findElders_57 rfl (lv_at hl 2 rfl) ?_
            refine lv_iload_n hx hb dX5_findElders_58 rfl (lv_at hl 1 rfl) ?_
            refine lv_icmp_ge (tgt := 74) hx hb dX5_findElders_59 (by decide) (fun c_59 => ?_) (fun c_59 => ?_)
            · have h := h.1 c_59
              exact hB_Roll_findElders_74 N_2 hN_2 (L_Roll_findElders_19 t_size t_years Q N_2 n) ih x1 x2 t_elders h _ _ _ hw (lv_sub hl [0, 1, 2] rfl)
            · have h := h.2 c_59
              exact hB_Roll_findElders_62 N_2 hN_2 (L_Roll_findElders_19 t_size t_years Q N_2 n) ih x1 x2 t_elders h _ _ _ hw (lv_sub hl [0, 1, 2] rfl)
  have hL_Roll_findElders_2 : ∀ (n : Nat) (x1 : Int32) (t_elders : (Nat → Int32)), L_Roll_findElders_2 t_size t_years Q n x1 t_elders → Wat p l e rm_Roll_findElders s m args below meth c A Qf g 3 (cs_Roll_findElders g a_t a_t_elders a_t_years a_t_deeds a_t_firstJudgments a_t_pardoned t_size t_elders t_years) [(0, .ref a_t), (1, .int x1)] 2 [] := by
    intro n
    induction n with
    | zero => intro x1 t_elders h; exact absurd h id
    | succ n ih =>
      intro x1 t_elders h H locs ls hw hl
      rw [L_Roll_findElders_2] at h
      refine lv_iload_n hx hb dX5_findElders_2 rfl (lv_at hl 1 rfl) ?_
      refine lv_aload_n hx hb dX5_findElders_3 rfl (lv_at hl 0 rfl) ?_
      refine G_RX5_28 C hw 0 rfl dX5_findElders_4 ?_
      refine lv_icmp_ge (tgt := 86) hx hb dX5_findElders_7 (by decide) (fun c_7 => ?_) (fun c_7 => ?_)
      · have h := h.1 c_7
        exact hret (t_elders) h hw dX5_findElders_86
      · have h := h.2 c_7
        refine lv_aload_n hx hb dX5_findElders_10 rfl (lv_at hl 0 rfl) ?_
        refine G_RX5_25 C hw 0 rfl dX5_findElders_11 ?_
        refine lv_iload_n hx hb dX5_findElders_14 rfl (lv_at hl 1 rfl) ?_
        refine lv_iconst (v := 0) hx hb dX5_findElders_15 (by decide) ?_
        refine astI (ws2 := (cs_Roll_findElders g a_t a_t_elders a_t_years a_t_deeds a_t_firstJudgments a_t_pardoned t_size (upd t_elders x1.toNatClampNeg 0) t_years)) C hw 1 rfl h.1 rfl dX5_findElders_16 (fun H locs hw => ?_)
        have h := h.2
        refine lv_iconst (v := 0) hx hb dX5_findElders_17 (by decide) ?_
        refine lv_istore_n (lv' := [(2, .int 0), (0, .ref a_t), (1, .int x1)]) hx hb dX5_findElders_18 rfl hl (by decide) rfl (fun ls hl => ?_)
        obtain ⟨n_19, h⟩ := h
        exact hL_Roll_findElders_19 (L_Roll_findElders_2 t_size t_years Q n) ih n_19 x1 0 (upd t_elders x1.toNatClampNeg 0) h _ _ _ hw (lv_sub hl [1, 2, 0] rfl)
  refine lv_iconst (v := 0) hx hb dX5_findElders_0 (by decide) ?_
  refine lv_istore_n (lv' := [(1, .int 0), (0, .ref a_t)]) hx hb dX5_findElders_1 rfl hl (by decide) rfl (fun ls hl => ?_)
  obtain ⟨n_2, h⟩ := h
  exact hL_Roll_findElders_2 n_2 0 t_elders h _ _ _ hw (lv_sub hl [1, 0] rfl)
def P_Roll_append (x1 : Int32) (x2 : Int32) (x3 : Int32) (t_size : Int32) (t_deeds : (Nat → Int32)) (t_elders : (Nat → Int32)) (t_firstJudgments : (Nat → Int32)) (t_pardoned : (Nat → Int32)) (t_years : (Nat → Int32)) (Q : Int32 → (Nat → Int32) → (Nat → Int32) → (Nat → Int32) → (Nat → Int32) → (Nat → Int32) → Prop) : Prop := (t_size < 12 → vp_in t_size 12 ∧ (vp_in t_size 12 ∧ (vp_in t_size 12 ∧ (vp_in t_size 12 ∧ (∀ t_size_1 : Int32, t_size_1 = (t_size + 1) → P_Roll_findElders t_size_1 t_elders (upd t_years t_size.toNatClampNeg x3) (fun t_elders_2 => Q t_size_1 (upd t_deeds t_size.toNatClampNeg x1) t_elders_2 (upd t_firstJudgments t_size.toNatClampNeg x2) (upd t_pardoned t_size.toNatClampNeg (vp_nar .boolean 0)) (upd t_years t_size.toNatClampNeg x3))))))) ∧ (¬ t_size < 12 → Q t_size t_deeds t_elders t_firstJudgments t_pardoned t_years)
abbrev rm_Roll_append : Room := { frames := 1, cells := 0, slots := 0, locals := 22 }
def cs_Roll_append (g : GE) (a_t a_t_deeds a_t_elders a_t_firstJudgments a_t_pardoned a_t_years : Nat) (t_size : Int32) (t_deeds : (Nat → Int32)) (t_elders : (Nat → Int32)) (t_firstJudgments : (Nat → Int32)) (t_pardoned : (Nat → Int32)) (t_years : (Nat → Int32)) : va_W := [oc a_t 5 [.ref a_t_deeds, .ref a_t_firstJudgments, .ref a_t_years, .ref a_t_pardoned, .ref a_t_elders, .int t_size], ai g a_t_deeds 12 t_deeds, ai g a_t_elders 12 t_elders, ai g a_t_firstJudgments 12 t_firstJudgments, az g a_t_pardoned 12 t_pardoned, ai g a_t_years 12 t_years]
set_option maxHeartbeats 4000000 in
set_option maxRecDepth 100000 in
theorem c_Roll_append (l : Launch) (g : GE) (a_t a_t_deeds a_t_elders a_t_firstJudgments a_t_pardoned a_t_years : Nat) (t_size : Int32) (t_deeds : (Nat → Int32)) (t_elders : (Nat → Int32)) (t_firstJudgments : (Nat → Int32)) (t_pardoned : (Nat → Int32)) (t_years : (Nat → Int32)) (x1 : Int32) (x2 : Int32) (x3 : Int32) (Q : Int32 → (Nat → Int32) → (Nat → Int32) → (Nat → Int32) → (Nat → Int32) → (Nat → Int32) → Prop) (h : P_Roll_append x1 x2 x3 t_size t_deeds t_elders t_firstJudgments t_pardoned t_years Q) : Ctv l g yX5_append cX5_append 4 none rm_Roll_append [.ref a_t, .int x1, .int x2, .int x3] (cs_Roll_append g a_t a_t_deeds a_t_elders a_t_firstJudgments a_t_pardoned a_t_years t_size t_deeds t_elders t_firstJudgments t_pardoned t_years) (S := Int32 × (Nat → Int32) × (Nat → Int32) × (Nat → Int32) × (Nat → Int32) × (Nat → Int32)) (fun u => Q u.1 u.2.1 u.2.2.1 u.2.2.2.1 u.2.2.2.2.1 u.2.2.2.2.2) (fun u => (cs_Roll_append g a_t a_t_deeds a_t_elders a_t_firstJudgments a_t_pardoned a_t_years (u.1) (u.2.1) (u.2.2.1) (u.2.2.2.1) (u.2.2.2.2.1) (u.2.2.2.2.2))) := by
  refine meetV rfl (Nat.le_of_ble_eq_true rfl) ⟨rfl, rfl⟩ ?_
  intro p e s m args below meth c A Qf ls C hret hw hl
  have hx := C.1
  have hb := C.2.1
  have hown := C.2.2.2.1
  have hts := C.2.2.2.2.1
  have hE := C.2.2.2.2.2.1
  have hl : lv_has ls 4 [(0, .ref a_t), (1, .int x1), (2, .int x2), (3, .int x3)] := hl
  refine lv_aload_n hx hb dX5_append_0 rfl (lv_at hl 0 rfl) ?_
  refine G_RX5_28 C hw 0 rfl dX5_append_1 ?_
  refine lv_bipush (v := 12) hx hb dX5_append_4 (by decide) ?_
  refine lv_icmp_lt (tgt := 10) hx hb dX5_append_6 (by decide) (fun c_6 => ?_) (fun c_6 => ?_)
  · have h := h.1 c_6
    refine lv_aload_n hx hb dX5_append_10 rfl (lv_at hl 0 rfl) ?_
    refine G_RX5_9 C hw 0 rfl dX5_append_11 ?_
    refine lv_aload_n hx hb dX5_append_14 rfl (lv_at hl 0 rfl) ?_
    refine G_RX5_28 C hw 0 rfl dX5_append_15 ?_
    refine lv_iload_n hx hb dX5_append_18 rfl (lv_at hl 1 rfl) ?_
    refine astI (ws2 := (cs_Roll_append g a_t a_t_deeds a_t_elders a_t_firstJudgments a_t_pardoned a_t_years t_size (upd t_deeds t_size.toNatClampNeg x1) t_elders t_firstJudgments t_pardoned t_years)) C hw 1 rfl h.1 rfl dX5_append_19 (fun H locs hw => ?_)
    have h := h.2
    refine lv_aload_n hx hb dX5_append_20 rfl (lv_at hl 0 rfl) ?_
    refine G_RX5_15 C hw 0 rfl dX5_append_21 ?_
    refine lv_aload_n hx hb dX5_append_24 rfl (lv_at hl 0 rfl) ?_
    refine G_RX5_28 C hw 0 rfl dX5_append_25 ?_
    refine lv_iload_n hx hb dX5_append_28 rfl (lv_at hl 2 rfl) ?_
    refine astI (ws2 := (cs_Roll_append g a_t a_t_deeds a_t_elders a_t_firstJudgments a_t_pardoned a_t_years t_size (upd t_deeds t_size.toNatClampNeg x1) t_elders (upd t_firstJudgments t_size.toNatClampNeg x2) t_pardoned t_years)) C hw 3 rfl h.1 rfl dX5_append_29 (fun H locs hw => ?_)
    have h := h.2
    refine lv_aload_n hx hb dX5_append_30 rfl (lv_at hl 0 rfl) ?_
    refine G_RX5_18 C hw 0 rfl dX5_append_31 ?_
    refine lv_aload_n hx hb dX5_append_34 rfl (lv_at hl 0 rfl) ?_
    refine G_RX5_28 C hw 0 rfl dX5_append_35 ?_
    refine lv_iload_n hx hb dX5_append_38 rfl (lv_at hl 3 rfl) ?_
    refine astI (ws2 := (cs_Roll_append g a_t a_t_deeds a_t_elders a_t_firstJudgments a_t_pardoned a_t_years t_size (upd t_deeds t_size.toNatClampNeg x1) t_elders (upd t_firstJudgments t_size.toNatClampNeg x2) t_pardoned (upd t_years t_size.toNatClampNeg x3))) C hw 5 rfl h.1 rfl dX5_append_39 (fun H locs hw => ?_)
    have h := h.2
    refine lv_aload_n hx hb dX5_append_40 rfl (lv_at hl 0 rfl) ?_
    refine G_RX5_21 C hw 0 rfl dX5_append_41 ?_
    refine lv_aload_n hx hb dX5_append_44 rfl (lv_at hl 0 rfl) ?_
    refine G_RX5_28 C hw 0 rfl dX5_append_45 ?_
    refine lv_iconst (v := 0) hx hb dX5_append_48 (by decide) ?_
    refine astZ (ws2 := (cs_Roll_append g a_t a_t_deeds a_t_elders a_t_firstJudgments a_t_pardoned a_t_years t_size (upd t_deeds t_size.toNatClampNeg x1) t_elders (upd t_firstJudgments t_size.toNatClampNeg x2) (upd t_pardoned t_size.toNatClampNeg (vp_nar .boolean 0)) (upd t_years t_size.toNatClampNeg x3))) C hw 4 rfl h.1 rfl dX5_append_49 (fun H locs hw => ?_)
    have h := h.2
    refine lv_aload_n hx hb dX5_append_50 rfl (lv_at hl 0 rfl) ?_
    refine lv_dup hx hb dX5_append_51 rfl ?_
    refine G_RX5_28 C hw 0 rfl dX5_append_52 ?_
    refine lv_iconst (v := 1) hx hb dX5_append_55 (by decide) ?_
    refine lv_iadd hx hb dX5_append_56 ?_
    refine lv_topi (fun t_size_1 et_size_1 => ?_)
    have h := h t_size_1 et_size_1
    refine U_RX5_28 (ws2 := (cs_Roll_append g a_t a_t_deeds a_t_elders a_t_firstJudgments a_t_pardoned a_t_years t_size_1 (upd t_deeds t_size.toNatClampNeg x1) t_elders (upd t_firstJudgments t_size.toNatClampNeg x2) (upd t_pardoned t_size.toNatClampNeg (vp_nar .boolean 0)) (upd t_years t_size.toNatClampNeg x3))) C hw 0 rfl rfl rfl rfl dX5_append_57 (fun H locs hw => ?_)
    refine lv_aload_n hx hb dX5_append_60 rfl (lv_at hl 0 rfl) ?_
    refine callVv (As := []) (rest := []) (W2 := fun u => (cs_Roll_append g a_t a_t_deeds a_t_elders a_t_firstJudgments a_t_pardoned a_t_years t_size_1 (upd t_deeds t_size.toNatClampNeg x1) u (upd t_firstJudgments t_size.toNatClampNeg x2) (upd t_pardoned t_size.toNatClampNeg (vp_nar .boolean 0)) (upd t_years t_size.toNatClampNeg x3))) C hw hl (c_Roll_findElders l g a_t a_t_elders a_t_years a_t_deeds a_t_firstJudgments a_t_pardoned t_size_1 t_elders (upd t_years t_size.toNatClampNeg x3) _ h) tw_512 kk_X5_findElders rfl ⟨rfl, rfl⟩ ⟨by decide, by decide⟩ (Nat.le_of_ble_eq_true rfl) 0 rfl rfl rfl [0, 2, 5] [1, 3, 4] [3, 0, 4, 1, 2, 5] rfl rfl rfl rfl rfl rfl (fun u => rfl) rfl dX5_append_61 (fun u H locs h hw => ?_)
    obtain ⟨t_elders_2, rfl⟩ : ∃ z, z = u := ⟨_, rfl⟩
    have hw : Wd g A s (cs_Roll_append g a_t a_t_deeds a_t_elders a_t_firstJudgments a_t_pardoned a_t_years t_size_1 (upd t_deeds t_size.toNatClampNeg x1) t_elders_2 (upd t_firstJudgments t_size.toNatClampNeg x2) (upd t_pardoned t_size.toNatClampNeg (vp_nar .boolean 0)) (upd t_years t_size.toNatClampNeg x3)) H locs := hw
    exact hret (t_size_1, upd t_deeds t_size.toNatClampNeg x1, t_elders_2, upd t_firstJudgments t_size.toNatClampNeg x2, upd t_pardoned t_size.toNatClampNeg (vp_nar .boolean 0), upd t_years t_size.toNatClampNeg x3) h hw dX5_append_64
  · have h := h.2 c_6
    exact hret (t_size, t_deeds, t_elders, t_firstJudgments, t_pardoned, t_years) h hw dX5_append_9
def B_Roll_has_17 (x1 : Int32) (t_size : Int32) (Q : Int32 → Prop) (k0 : Int32) : Prop := narrow .boolean (.int k0) = .int k0 ∧ Q k0 
def B_Roll_has_16 (x1 : Int32) (t_size : Int32) (Q : Int32 → Prop) : Prop := B_Roll_has_17 x1 t_size Q 0
def P_Roll_has (x1 : Int32) (t_size : Int32) (Q : Int32 → Prop) : Prop := (x1 < 0 → B_Roll_has_16 x1 t_size Q) ∧ (¬ x1 < 0 → (t_size ≤ x1 → B_Roll_has_16 x1 t_size Q) ∧ (¬ t_size ≤ x1 → B_Roll_has_17 x1 t_size Q 1))
abbrev rm_Roll_has : Room := { frames := 0, cells := 0, slots := 0, locals := 0 }
def cs_Roll_has (g : GE) (a_t a_t_deeds a_t_firstJudgments a_t_years a_t_pardoned a_t_elders : Nat) (t_size : Int32) : va_W := [oc a_t 5 [.ref a_t_deeds, .ref a_t_firstJudgments, .ref a_t_years, .ref a_t_pardoned, .ref a_t_elders, .int t_size]]
set_option maxHeartbeats 4000000 in
set_option maxRecDepth 100000 in
theorem c_Roll_has (l : Launch) (g : GE) (a_t a_t_deeds a_t_firstJudgments a_t_years a_t_pardoned a_t_elders : Nat) (t_size : Int32) (x1 : Int32) (Q : Int32 → Prop) (h : P_Roll_has x1 t_size Q) : Cti l g yX5_has cX5_has 2 (some .boolean) rm_Roll_has [.ref a_t, .int x1] (cs_Roll_has g a_t a_t_deeds a_t_firstJudgments a_t_years a_t_pardoned a_t_elders t_size) (S := Unit) (fun r u => Q r) (fun _ => (cs_Roll_has g a_t a_t_deeds a_t_firstJudgments a_t_years a_t_pardoned a_t_elders t_size)) := by
  refine meetI rfl (Nat.le_of_ble_eq_true rfl) ⟨rfl, rfl⟩ ?_
  intro p e s m args below meth c A Qf ls C hret hw hl
  have hx := C.1
  have hb := C.2.1
  have hown := C.2.2.2.1
  have hts := C.2.2.2.2.1
  have hE := C.2.2.2.2.2.1
  have hl : lv_has ls 2 [(0, .ref a_t), (1, .int x1)] := hl
  have hB_Roll_has_17 : ∀ (k0 : Int32), B_Roll_has_17 x1 t_size Q k0 → Wat p l e rm_Roll_has s m args below meth c A Qf g 2 (cs_Roll_has g a_t a_t_deeds a_t_firstJudgments a_t_years a_t_pardoned a_t_elders t_size) [] 17 [.int k0] := by
    intro k0 h H locs ls hw hl
    exact hret () h.2 hw dX5_has_17 h.1
  have hB_Roll_has_16 : B_Roll_has_16 x1 t_size Q → Wat p l e rm_Roll_has s m args below meth c A Qf g 2 (cs_Roll_has g a_t a_t_deeds a_t_firstJudgments a_t_years a_t_pardoned a_t_elders t_size) [] 16 [] := by
    intro  h H locs ls hw hl
    refine lv_iconst (v := 0) hx hb dX5_has_16 (by decide) ?_
    exact hB_Roll_has_17 0 h _ _ _ hw (lv_sub hl [] rfl)
  refine lv_iload_n hx hb dX5_has_0 rfl (lv_at hl 1 rfl) ?_
  refine lv_if_lt (tgt := 16) hx hb dX5_has_1 (by decide) (fun c_1 => ?_) (fun c_1 => ?_)
  · have h := h.1 c_1
    exact hB_Roll_has_16  h _ _ _ hw (lv_sub hl [] rfl)
  · have h := h.2 c_1
    refine lv_iload_n hx hb dX5_has_4 rfl (lv_at hl 1 rfl) ?_
    refine lv_aload_n hx hb dX5_has_5 rfl (lv_at hl 0 rfl) ?_
    refine G_RX5_28 C hw 0 rfl dX5_has_6 ?_
    refine lv_icmp_ge (tgt := 16) hx hb dX5_has_9 (by decide) (fun c_9 => ?_) (fun c_9 => ?_)
    · have h := h.1 c_9
      exact hB_Roll_has_16  h _ _ _ hw (lv_sub hl [] rfl)
    · have h := h.2 c_9
      refine lv_iconst (v := 1) hx hb dX5_has_12 (by decide) ?_
      refine lv_goto (tgt := 17) hx hb dX5_has_13 (by decide) ?_
      exact hB_Roll_has_17 1 h _ _ _ hw (lv_sub hl [] rfl)
def B_Roll_setPardoned_15 (x1 : Int32) (x2 : Int32) (t_size : Int32) (Q : (Nat → Int32) → Prop) (t_pardoned : (Nat → Int32)) : Prop := Q t_pardoned
def P_Roll_setPardoned (x1 : Int32) (x2 : Int32) (t_size : Int32) (t_pardoned : (Nat → Int32)) (Q : (Nat → Int32) → Prop) : Prop := P_Roll_has x1 t_size (fun r_1 => (r_1 = 0 → B_Roll_setPardoned_15 x1 x2 t_size Q t_pardoned) ∧ (¬ r_1 = 0 → vp_in x1 12 ∧ (B_Roll_setPardoned_15 x1 x2 t_size Q (upd t_pardoned x1.toNatClampNeg (vp_nar .boolean x2)))))
abbrev rm_Roll_setPardoned : Room := { frames := 1, cells := 0, slots := 0, locals := 21 }
def cs_Roll_setPardoned (g : GE) (a_t a_t_pardoned a_t_deeds a_t_firstJudgments a_t_years a_t_elders : Nat) (t_size : Int32) (t_pardoned : (Nat → Int32)) : va_W := [oc a_t 5 [.ref a_t_deeds, .ref a_t_firstJudgments, .ref a_t_years, .ref a_t_pardoned, .ref a_t_elders, .int t_size], az g a_t_pardoned 12 t_pardoned]
set_option maxHeartbeats 4000000 in
set_option maxRecDepth 100000 in
theorem c_Roll_setPardoned (l : Launch) (g : GE) (a_t a_t_pardoned a_t_deeds a_t_firstJudgments a_t_years a_t_elders : Nat) (t_size : Int32) (t_pardoned : (Nat → Int32)) (x1 : Int32) (x2 : Int32) (Q : (Nat → Int32) → Prop) (h : P_Roll_setPardoned x1 x2 t_size t_pardoned Q) : Ctv l g yX5_setPardoned cX5_setPardoned 3 none rm_Roll_setPardoned [.ref a_t, .int x1, .int x2] (cs_Roll_setPardoned g a_t a_t_pardoned a_t_deeds a_t_firstJudgments a_t_years a_t_elders t_size t_pardoned) (S := (Nat → Int32)) (fun u => Q u) (fun u => (cs_Roll_setPardoned g a_t a_t_pardoned a_t_deeds a_t_firstJudgments a_t_years a_t_elders t_size u)) := by
  refine meetV rfl (Nat.le_of_ble_eq_true rfl) ⟨rfl, rfl⟩ ?_
  intro p e s m args below meth c A Qf ls C hret hw hl
  have hx := C.1
  have hb := C.2.1
  have hown := C.2.2.2.1
  have hts := C.2.2.2.2.1
  have hE := C.2.2.2.2.2.1
  have hl : lv_has ls 3 [(0, .ref a_t), (1, .int x1), (2, .int x2)] := hl
  have hB_Roll_setPardoned_15 : ∀ (t_pardoned : (Nat → Int32)), B_Roll_setPardoned_15 x1 x2 t_size Q t_pardoned → Wat p l e rm_Roll_setPardoned s m args below meth c A Qf g 3 (cs_Roll_setPardoned g a_t a_t_pardoned a_t_deeds a_t_firstJudgments a_t_years a_t_elders t_size t_pardoned) [] 15 [] := by
    intro t_pardoned h H locs ls hw hl
    exact hret (t_pardoned) h hw dX5_setPardoned_15
  refine lv_aload_n hx hb dX5_setPardoned_0 rfl (lv_at hl 0 rfl) ?_
  refine lv_iload_n hx hb dX5_setPardoned_1 rfl (lv_at hl 1 rfl) ?_
  refine callVi (As := [.int x1]) (rest := []) (W2 := fun _ => (cs_Roll_setPardoned g a_t a_t_pardoned a_t_deeds a_t_firstJudgments a_t_years a_t_elders t_size t_pardoned)) C hw hl (c_Roll_has l g a_t a_t_deeds a_t_firstJudgments a_t_years a_t_pardoned a_t_elders t_size x1 _ h) tw_524 kk_X5_has rfl ⟨rfl, rfl⟩ ⟨by decide, by decide⟩ (Nat.le_of_ble_eq_true rfl) 0 rfl rfl rfl [0] [1] [1, 0] rfl rfl rfl rfl rfl rfl (fun u => rfl) rfl dX5_setPardoned_2 (fun r_1 u H locs h hw => ?_)
  refine lv_if_eq (tgt := 15) hx hb dX5_setPardoned_5 (by decide) (fun c_5 => ?_) (fun c_5 => ?_)
  · have h := h.1 c_5
    exact hB_Roll_setPardoned_15 t_pardoned h _ _ _ hw (lv_sub hl [] rfl)
  · have h := h.2 c_5
    refine lv_aload_n hx hb dX5_setPardoned_8 rfl (lv_at hl 0 rfl) ?_
    refine G_RX5_21 C hw 0 rfl dX5_setPardoned_9 ?_
    refine lv_iload_n hx hb dX5_setPardoned_12 rfl (lv_at hl 1 rfl) ?_
    refine lv_iload_n hx hb dX5_setPardoned_13 rfl (lv_at hl 2 rfl) ?_
    refine astZ (ws2 := (cs_Roll_setPardoned g a_t a_t_pardoned a_t_deeds a_t_firstJudgments a_t_years a_t_elders t_size (upd t_pardoned x1.toNatClampNeg (vp_nar .boolean x2)))) C hw 1 rfl h.1 rfl dX5_setPardoned_14 (fun H locs hw => ?_)
    have h := h.2
    exact hB_Roll_setPardoned_15 (upd t_pardoned x1.toNatClampNeg (vp_nar .boolean x2)) h _ _ _ hw (lv_sub hl [] rfl)
def B_Roll_copyCase_s_20 (x2 : Int32) (x3 : Int32) (Q : (Nat → Int32) → (Nat → Int32) → (Nat → Int32) → (Nat → Int32) → Prop) (t_deeds : (Nat → Int32)) (t_firstJudgments : (Nat → Int32)) (t_pardoned : (Nat → Int32)) (t_years : (Nat → Int32)) : Prop := Q t_deeds t_firstJudgments t_pardoned t_years
def P_Roll_copyCase_s (x2 : Int32) (x3 : Int32) (t_deeds : (Nat → Int32)) (t_firstJudgments : (Nat → Int32)) (t_pardoned : (Nat → Int32)) (t_years : (Nat → Int32)) (Q : (Nat → Int32) → (Nat → Int32) → (Nat → Int32) → (Nat → Int32) → Prop) : Prop := (x2 < 0 → B_Roll_copyCase_s_20 x2 x3 Q t_deeds t_firstJudgments t_pardoned t_years) ∧ (¬ x2 < 0 → (12 ≤ x2 → B_Roll_copyCase_s_20 x2 x3 Q t_deeds t_firstJudgments t_pardoned t_years) ∧ (¬ 12 ≤ x2 → (x3 < 0 → B_Roll_copyCase_s_20 x2 x3 Q t_deeds t_firstJudgments t_pardoned t_years) ∧ (¬ x3 < 0 → (x3 < 12 → vp_in x2 12 ∧ (vp_in x3 12 ∧ (vp_in x2 12 ∧ (vp_in x3 12 ∧ (vp_in x2 12 ∧ (vp_in x3 12 ∧ (vp_in x2 12 ∧ (vp_in x3 12 ∧ (Q (upd t_deeds x3.toNatClampNeg (t_deeds x2.toNatClampNeg)) (upd t_firstJudgments x3.toNatClampNeg (t_firstJudgments x2.toNatClampNeg)) (upd t_pardoned x3.toNatClampNeg (vp_nar .boolean (t_pardoned x2.toNatClampNeg))) (upd t_years x3.toNatClampNeg (t_years x2.toNatClampNeg))))))))))) ∧ (¬ x3 < 12 → B_Roll_copyCase_s_20 x2 x3 Q t_deeds t_firstJudgments t_pardoned t_years))))
abbrev rm_Roll_copyCase_s : Room := { frames := 0, cells := 0, slots := 0, locals := 0 }
def cs_Roll_copyCase_s (g : GE) (a_t a_t_deeds a_t_firstJudgments a_t_pardoned a_t_years a_t_elders : Nat) (t_size : Int32) (t_deeds : (Nat → Int32)) (t_firstJudgments : (Nat → Int32)) (t_pardoned : (Nat → Int32)) (t_years : (Nat → Int32)) : va_W := [oc a_t 5 [.ref a_t_deeds, .ref a_t_firstJudgments, .ref a_t_years, .ref a_t_pardoned, .ref a_t_elders, .int t_size], ai g a_t_deeds 12 t_deeds, ai g a_t_firstJudgments 12 t_firstJudgments, az g a_t_pardoned 12 t_pardoned, ai g a_t_years 12 t_years]
set_option maxHeartbeats 4000000 in
set_option maxRecDepth 100000 in
theorem c_Roll_copyCase_s (l : Launch) (g : GE) (a_t a_t_deeds a_t_firstJudgments a_t_pardoned a_t_years a_t_elders : Nat) (t_size : Int32) (t_deeds : (Nat → Int32)) (t_firstJudgments : (Nat → Int32)) (t_pardoned : (Nat → Int32)) (t_years : (Nat → Int32)) (x2 : Int32) (x3 : Int32) (Q : (Nat → Int32) → (Nat → Int32) → (Nat → Int32) → (Nat → Int32) → Prop) (h : P_Roll_copyCase_s x2 x3 t_deeds t_firstJudgments t_pardoned t_years Q) : Ctv l g yX5_copyCase cX5_copyCase 4 none rm_Roll_copyCase_s [.ref a_t, .ref a_t, .int x2, .int x3] (cs_Roll_copyCase_s g a_t a_t_deeds a_t_firstJudgments a_t_pardoned a_t_years a_t_elders t_size t_deeds t_firstJudgments t_pardoned t_years) (S := (Nat → Int32) × (Nat → Int32) × (Nat → Int32) × (Nat → Int32)) (fun u => Q u.1 u.2.1 u.2.2.1 u.2.2.2) (fun u => (cs_Roll_copyCase_s g a_t a_t_deeds a_t_firstJudgments a_t_pardoned a_t_years a_t_elders t_size (u.1) (u.2.1) (u.2.2.1) (u.2.2.2))) := by
  refine meetV rfl (Nat.le_of_ble_eq_true rfl) ⟨rfl, rfl⟩ ?_
  intro p e s m args below meth c A Qf ls C hret hw hl
  have hx := C.1
  have hb := C.2.1
  have hown := C.2.2.2.1
  have hts := C.2.2.2.2.1
  have hE := C.2.2.2.2.2.1
  have hl : lv_has ls 4 [(0, .ref a_t), (1, .ref a_t), (2, .int x2), (3, .int x3)] := hl
  have hB_Roll_copyCase_s_20 : ∀ (t_deeds : (Nat → Int32)) (t_firstJudgments : (Nat → Int32)) (t_pardoned : (Nat → Int32)) (t_years : (Nat → Int32)), B_Roll_copyCase_s_20 x2 x3 Q t_deeds t_firstJudgments t_pardoned t_years → Wat p l e rm_Roll_copyCase_s s m args below meth c A Qf g 4 (cs_Roll_copyCase_s g a_t a_t_deeds a_t_firstJudgments a_t_pardoned a_t_years a_t_elders t_size t_deeds t_firstJudgments t_pardoned t_years) [] 20 [] := by
    intro t_deeds t_firstJudgments t_pardoned t_years h H locs ls hw hl
    exact hret (t_deeds, t_firstJudgments, t_pardoned, t_years) h hw dX5_copyCase_20
  refine lv_iload_n hx hb dX5_copyCase_0 rfl (lv_at hl 2 rfl) ?_
  refine lv_if_lt (tgt := 20) hx hb dX5_copyCase_1 (by decide) (fun c_1 => ?_) (fun c_1 => ?_)
  · have h := h.1 c_1
    exact hB_Roll_copyCase_s_20 t_deeds t_firstJudgments t_pardoned t_years h _ _ _ hw (lv_sub hl [] rfl)
  · have h := h.2 c_1
    refine lv_iload_n hx hb dX5_copyCase_4 rfl (lv_at hl 2 rfl) ?_
    refine lv_bipush (v := 12) hx hb dX5_copyCase_5 (by decide) ?_
    refine lv_icmp_ge (tgt := 20) hx hb dX5_copyCase_7 (by decide) (fun c_7 => ?_) (fun c_7 => ?_)
    · have h := h.1 c_7
      exact hB_Roll_copyCase_s_20 t_deeds t_firstJudgments t_pardoned t_years h _ _ _ hw (lv_sub hl [] rfl)
    · have h := h.2 c_7
      refine lv_iload_n hx hb dX5_copyCase_10 rfl (lv_at hl 3 rfl) ?_
      refine lv_if_lt (tgt := 20) hx hb dX5_copyCase_11 (by decide) (fun c_11 => ?_) (fun c_11 => ?_)
      · have h := h.1 c_11
        exact hB_Roll_copyCase_s_20 t_deeds t_firstJudgments t_pardoned t_years h _ _ _ hw (lv_sub hl [] rfl)
      · have h := h.2 c_11
        refine lv_iload_n hx hb dX5_copyCase_14 rfl (lv_at hl 3 rfl) ?_
        refine lv_bipush (v := 12) hx hb dX5_copyCase_15 (by decide) ?_
        refine lv_icmp_lt (tgt := 21) hx hb dX5_copyCase_17 (by decide) (fun c_17 => ?_) (fun c_17 => ?_)
        · have h := h.1 c_17
          refine lv_aload_n hx hb dX5_copyCase_21 rfl (lv_at hl 0 rfl) ?_
          refine G_RX5_9 C hw 0 rfl dX5_copyCase_22 ?_
          refine lv_iload_n hx hb dX5_copyCase_25 rfl (lv_at hl 3 rfl) ?_
          refine lv_aload_n hx hb dX5_copyCase_26 rfl (lv_at hl 1 rfl) ?_
          refine G_RX5_9 C hw 0 rfl dX5_copyCase_27 ?_
          refine lv_iload_n hx hb dX5_copyCase_30 rfl (lv_at hl 2 rfl) ?_
          refine aldI C hw 1 rfl h.1 dX5_copyCase_31 ?_
          have h := h.2
          refine astI (ws2 := (cs_Roll_copyCase_s g a_t a_t_deeds a_t_firstJudgments a_t_pardoned a_t_years a_t_elders t_size (upd t_deeds x3.toNatClampNeg (t_deeds x2.toNatClampNeg)) t_firstJudgments t_pardoned t_years)) C hw 1 rfl h.1 rfl dX5_copyCase_32 (fun H locs hw => ?_)
          have h := h.2
          refine lv_aload_n hx hb dX5_copyCase_33 rfl (lv_at hl 0 rfl) ?_
          refine G_RX5_15 C hw 0 rfl dX5_copyCase_34 ?_
          refine lv_iload_n hx hb dX5_copyCase_37 rfl (lv_at hl 3 rfl) ?_
          refine lv_aload_n hx hb dX5_copyCase_38 rfl (lv_at hl 1 rfl) ?_
          refine G_RX5_15 C hw 0 rfl dX5_copyCase_39 ?_
          refine lv_iload_n hx hb dX5_copyCase_42 rfl (lv_at hl 2 rfl) ?_
          refine aldI C hw 2 rfl h.1 dX5_copyCase_43 ?_
          have h := h.2
          refine astI (ws2 := (cs_Roll_copyCase_s g a_t a_t_deeds a_t_firstJudgments a_t_pardoned a_t_years a_t_elders t_size (upd t_deeds x3.toNatClampNeg (t_deeds x2.toNatClampNeg)) (upd t_firstJudgments x3.toNatClampNeg (t_firstJudgments x2.toNatClampNeg)) t_pardoned t_years)) C hw 2 rfl h.1 rfl dX5_copyCase_44 (fun H locs hw => ?_)
          have h := h.2
          refine lv_aload_n hx hb dX5_copyCase_45 rfl (lv_at hl 0 rfl) ?_
          refine G_RX5_18 C hw 0 rfl dX5_copyCase_46 ?_
          refine lv_iload_n hx hb dX5_copyCase_49 rfl (lv_at hl 3 rfl) ?_
          refine lv_aload_n hx hb dX5_copyCase_50 rfl (lv_at hl 1 rfl) ?_
          refine G_RX5_18 C hw 0 rfl dX5_copyCase_51 ?_
          refine lv_iload_n hx hb dX5_copyCase_54 rfl (lv_at hl 2 rfl) ?_
          refine aldI C hw 4 rfl h.1 dX5_copyCase_55 ?_
          have h := h.2
          refine astI (ws2 := (cs_Roll_copyCase_s g a_t a_t_deeds a_t_firstJudgments a_t_pardoned a_t_years a_t_elders t_size (upd t_deeds x3.toNatClampNeg (t_deeds x2.toNatClampNeg)) (upd t_firstJudgments x3.toNatClampNeg (t_firstJudgments x2.toNatClampNeg)) t_pardoned (upd t_years x3.toNatClampNeg (t_years x2.toNatClampNeg)))) C hw 4 rfl h.1 rfl dX5_copyCase_56 (fun H locs hw => ?_)
          have h := h.2
          refine lv_aload_n hx hb dX5_copyCase_57 rfl (lv_at hl 0 rfl) ?_
          refine G_RX5_21 C hw 0 rfl dX5_copyCase_58 ?_
          refine lv_iload_n hx hb dX5_copyCase_61 rfl (lv_at hl 3 rfl) ?_
          refine lv_aload_n hx hb dX5_copyCase_62 rfl (lv_at hl 1 rfl) ?_
          refine G_RX5_21 C hw 0 rfl dX5_copyCase_63 ?_
          refine lv_iload_n hx hb dX5_copyCase_66 rfl (lv_at hl 2 rfl) ?_
          refine aldZ C hw 3 rfl h.1 dX5_copyCase_67 ?_
          have h := h.2
          refine astZ (ws2 := (cs_Roll_copyCase_s g a_t a_t_deeds a_t_firstJudgments a_t_pardoned a_t_years a_t_elders t_size (upd t_deeds x3.toNatClampNeg (t_deeds x2.toNatClampNeg)) (upd t_firstJudgments x3.toNatClampNeg (t_firstJudgments x2.toNatClampNeg)) (upd t_pardoned x3.toNatClampNeg (vp_nar .boolean (t_pardoned x2.toNatClampNeg))) (upd t_years x3.toNatClampNeg (t_years x2.toNatClampNeg)))) C hw 3 rfl h.1 rfl dX5_copyCase_68 (fun H locs hw => ?_)
          have h := h.2
          exact hret (upd t_deeds x3.toNatClampNeg (t_deeds x2.toNatClampNeg), upd t_firstJudgments x3.toNatClampNeg (t_firstJudgments x2.toNatClampNeg), upd t_pardoned x3.toNatClampNeg (vp_nar .boolean (t_pardoned x2.toNatClampNeg)), upd t_years x3.toNatClampNeg (t_years x2.toNatClampNeg)) h hw dX5_copyCase_69
        · have h := h.2 c_17
          exact hB_Roll_copyCase_s_20 t_deeds t_firstJudgments t_pardoned t_years h _ _ _ hw (lv_sub hl [] rfl)
def L_Roll_remove_11 (x1 : Int32) (Q : Int32 → (Nat → Int32) → (Nat → Int32) → (Nat → Int32) → (Nat → Int32) → (Nat → Int32) → Prop) : Nat → Int32 → Int32 → (Nat → Int32) → (Nat → Int32) → (Nat → Int32) → (Nat → Int32) → (Nat → Int32) → Prop
  | 0 => fun _ _ _ _ _ _ _ => False
  | n + 1 => fun x2 t_size t_deeds t_elders t_firstJudgments t_pardoned t_years => (t_size ≤ (x2 + 1) → ∀ t_size_1 : Int32, t_size_1 = (t_size - 1) → P_Roll_findElders t_size_1 t_elders t_years (fun t_elders_2 => Q t_size_1 t_deeds t_elders_2 t_firstJudgments t_pardoned t_years)) ∧ (¬ t_size ≤ (x2 + 1) → P_Roll_copyCase_s (x2 + 1) x2 t_deeds t_firstJudgments t_pardoned t_years (fun t_deeds_3 t_firstJudgments_4 t_pardoned_5 t_years_6 => (L_Roll_remove_11 x1 Q n) (x2 + 1) t_size t_deeds_3 t_elders t_firstJudgments_4 t_pardoned_5 t_years_6))
def P_Roll_remove (x1 : Int32) (t_size : Int32) (t_deeds : (Nat → Int32)) (t_elders : (Nat → Int32)) (t_firstJudgments : (Nat → Int32)) (t_pardoned : (Nat → Int32)) (t_years : (Nat → Int32)) (Q : Int32 → (Nat → Int32) → (Nat → Int32) → (Nat → Int32) → (Nat → Int32) → (Nat → Int32) → Prop) : Prop := P_Roll_has x1 t_size (fun r_7 => (¬ r_7 = 0 → ∃ n_11 : Nat, L_Roll_remove_11 x1 Q n_11 x1 t_size t_deeds t_elders t_firstJudgments t_pardoned t_years) ∧ (r_7 = 0 → Q t_size t_deeds t_elders t_firstJudgments t_pardoned t_years))
abbrev rm_Roll_remove : Room := { frames := 1, cells := 0, slots := 0, locals := 23 }
def cs_Roll_remove (g : GE) (a_t a_t_deeds a_t_elders a_t_firstJudgments a_t_pardoned a_t_years : Nat) (t_size : Int32) (t_deeds : (Nat → Int32)) (t_elders : (Nat → Int32)) (t_firstJudgments : (Nat → Int32)) (t_pardoned : (Nat → Int32)) (t_years : (Nat → Int32)) : va_W := [oc a_t 5 [.ref a_t_deeds, .ref a_t_firstJudgments, .ref a_t_years, .ref a_t_pardoned, .ref a_t_elders, .int t_size], ai g a_t_deeds 12 t_deeds, ai g a_t_elders 12 t_elders, ai g a_t_firstJudgments 12 t_firstJudgments, az g a_t_pardoned 12 t_pardoned, ai g a_t_years 12 t_years]
set_option maxHeartbeats 4000000 in
set_option maxRecDepth 100000 in
theorem c_Roll_remove (l : Launch) (g : GE) (a_t a_t_deeds a_t_elders a_t_firstJudgments a_t_pardoned a_t_years : Nat) (t_size : Int32) (t_deeds : (Nat → Int32)) (t_elders : (Nat → Int32)) (t_firstJudgments : (Nat → Int32)) (t_pardoned : (Nat → Int32)) (t_years : (Nat → Int32)) (x1 : Int32) (Q : Int32 → (Nat → Int32) → (Nat → Int32) → (Nat → Int32) → (Nat → Int32) → (Nat → Int32) → Prop) (h : P_Roll_remove x1 t_size t_deeds t_elders t_firstJudgments t_pardoned t_years Q) : Ctv l g yX5_remove cX5_remove 3 none rm_Roll_remove [.ref a_t, .int x1] (cs_Roll_remove g a_t a_t_deeds a_t_elders a_t_firstJudgments a_t_pardoned a_t_years t_size t_deeds t_elders t_firstJudgments t_pardoned t_years) (S := Int32 × (Nat → Int32) × (Nat → Int32) × (Nat → Int32) × (Nat → Int32) × (Nat → Int32)) (fun u => Q u.1 u.2.1 u.2.2.1 u.2.2.2.1 u.2.2.2.2.1 u.2.2.2.2.2) (fun u => (cs_Roll_remove g a_t a_t_deeds a_t_elders a_t_firstJudgments a_t_pardoned a_t_years (u.1) (u.2.1) (u.2.2.1) (u.2.2.2.1) (u.2.2.2.2.1) (u.2.2.2.2.2))) := by
  refine meetV rfl (Nat.le_of_ble_eq_true rfl) ⟨rfl, rfl⟩ ?_
  intro p e s m args below meth c A Qf ls C hret hw hl
  have hx := C.1
  have hb := C.2.1
  have hown := C.2.2.2.1
  have hts := C.2.2.2.2.1
  have hE := C.2.2.2.2.2.1
  have hl : lv_has ls 3 [(0, .ref a_t), (1, .int x1)] := hl
  have hL_Roll_remove_11 : ∀ (n : Nat) (x2 : Int32) (t_size : Int32) (t_deeds : (Nat → Int32)) (t_elders : (Nat → Int32)) (t_firstJudgments : (Nat → Int32)) (t_pardoned : (Nat → Int32)) (t_years : (Nat → Int32)), L_Roll_remove_11 x1 Q n x2 t_size t_deeds t_elders t_firstJudgments t_pardoned t_years → Wat p l e rm_Roll_remove s m args below meth c A Qf g 3 (cs_Roll_remove g a_t a_t_deeds a_t_elders a_t_firstJudgments a_t_pardoned a_t_years t_size t_deeds t_elders t_firstJudgments t_pardoned t_years) [(0, .ref a_t), (2, .int x2)] 11 [] := by
    intro n
    induction n with
    | zero => intro x2 t_size t_deeds t_elders t_firstJudgments t_pardoned t_years h; exact absurd h id
    | succ n ih =>
      intro x2 t_size t_deeds t_elders t_firstJudgments t_pardoned t_years h H locs ls hw hl
      rw [L_Roll_remove_11] at h
      refine lv_iload_n hx hb dX5_remove_11 rfl (lv_at hl 1 rfl) ?_
      refine lv_iconst (v := 1) hx hb dX5_remove_12 (by decide) ?_
      refine lv_iadd hx hb dX5_remove_13 ?_
      refine lv_aload_n hx hb dX5_remove_14 rfl (lv_at hl 0 rfl) ?_
      refine G_RX5_28 C hw 0 rfl dX5_remove_15 ?_
      refine lv_icmp_ge (tgt := 36) hx hb dX5_remove_18 (by decide) (fun c_18 => ?_) (fun c_18 => ?_)
      · have h := h.1 c_18
        refine lv_aload_n hx hb dX5_remove_36 rfl (lv_at hl 0 rfl) ?_
        refine lv_dup hx hb dX5_remove_37 rfl ?_
        refine G_RX5_28 C hw 0 rfl dX5_remove_38 ?_
        refine lv_iconst (v := 1) hx hb dX5_remove_41 (by decide) ?_
        refine lv_isub hx hb dX5_remove_42 ?_
        refine lv_topi (fun t_size_1 et_size_1 => ?_)
        have h := h t_size_1 et_size_1
        refine U_RX5_28 (ws2 := (cs_Roll_remove g a_t a_t_deeds a_t_elders a_t_firstJudgments a_t_pardoned a_t_years t_size_1 t_deeds t_elders t_firstJudgments t_pardoned t_years)) C hw 0 rfl rfl rfl rfl dX5_remove_43 (fun H locs hw => ?_)
        refine lv_aload_n hx hb dX5_remove_46 rfl (lv_at hl 0 rfl) ?_
        refine callVv (As := []) (rest := []) (W2 := fun u => (cs_Roll_remove g a_t a_t_deeds a_t_elders a_t_firstJudgments a_t_pardoned a_t_years t_size_1 t_deeds u t_firstJudgments t_pardoned t_years)) C hw hl (c_Roll_findElders l g a_t a_t_elders a_t_years a_t_deeds a_t_firstJudgments a_t_pardoned t_size_1 t_elders t_years _ h) tw_512 kk_X5_findElders rfl ⟨rfl, rfl⟩ ⟨by decide, by decide⟩ (Nat.le_of_ble_eq_true rfl) 0 rfl rfl rfl [0, 2, 5] [1, 3, 4] [3, 0, 4, 1, 2, 5] rfl rfl rfl rfl rfl rfl (fun u => rfl) rfl dX5_remove_47 (fun u H locs h hw => ?_)
        obtain ⟨t_elders_2, rfl⟩ : ∃ z, z = u := ⟨_, rfl⟩
        have hw : Wd g A s (cs_Roll_remove g a_t a_t_deeds a_t_elders a_t_firstJudgments a_t_pardoned a_t_years t_size_1 t_deeds t_elders_2 t_firstJudgments t_pardoned t_years) H locs := hw
        exact hret (t_size_1, t_deeds, t_elders_2, t_firstJudgments, t_pardoned, t_years) h hw dX5_remove_50
      · have h := h.2 c_18
        refine lv_aload_n hx hb dX5_remove_21 rfl (lv_at hl 0 rfl) ?_
        refine lv_aload_n hx hb dX5_remove_22 rfl (lv_at hl 0 rfl) ?_
        refine lv_iload_n hx hb dX5_remove_23 rfl (lv_at hl 1 rfl) ?_
        refine lv_iconst (v := 1) hx hb dX5_remove_24 (by decide) ?_
        refine lv_iadd hx hb dX5_remove_25 ?_
        refine lv_iload_n hx hb dX5_remove_26 rfl (lv_at hl 1 rfl) ?_
        refine callVv (As := [.ref a_t, .int (x2 + 1), .int x2]) (rest := []) (W2 := fun u => (cs_Roll_remove g a_t a_t_deeds a_t_elders a_t_firstJudgments a_t_pardoned a_t_years t_size (u.1) t_elders (u.2.1) (u.2.2.1) (u.2.2.2))) C hw hl (c_Roll_copyCase_s l g a_t a_t_deeds a_t_firstJudgments a_t_pardoned a_t_years a_t_elders t_size t_deeds t_firstJudgments t_pardoned t_years (x2 + 1) x2 _ h) tw_536 kk_X5_copyCase rfl ⟨rfl, rfl⟩ ⟨by decide, by decide⟩ (Nat.le_of_ble_eq_true rfl) 0 rfl rfl rfl [0, 1, 3, 4, 5] [2] [1, 2, 0, 3, 4, 5] rfl rfl rfl rfl rfl rfl (fun u => rfl) rfl dX5_remove_27 (fun u H locs h hw => ?_)
        obtain ⟨t_deeds_3, t_firstJudgments_4, t_pardoned_5, t_years_6⟩ := u
        have hw : Wd g A s (cs_Roll_remove g a_t a_t_deeds a_t_elders a_t_firstJudgments a_t_pardoned a_t_years t_size t_deeds_3 t_elders t_firstJudgments_4 t_pardoned_5 t_years_6) H locs := hw
        refine lv_iinc (v := x2 + 1) (lv' := [(2, .int (x2 + 1)), (0, .ref a_t)]) hx hb dX5_remove_30 hl (k := 1) rfl rfl (by decide) rfl (fun ls hl => ?_)
        refine lv_goto (tgt := 11) hx hb dX5_remove_33 (by decide) ?_
        exact ih (x2 + 1) t_size t_deeds_3 t_elders t_firstJudgments_4 t_pardoned_5 t_years_6 h _ _ _ hw (lv_sub hl [1, 0] rfl)
  refine lv_aload_n hx hb dX5_remove_0 rfl (lv_at hl 0 rfl) ?_
  refine lv_iload_n hx hb dX5_remove_1 rfl (lv_at hl 1 rfl) ?_
  refine callVi (As := [.int x1]) (rest := []) (W2 := fun _ => (cs_Roll_remove g a_t a_t_deeds a_t_elders a_t_firstJudgments a_t_pardoned a_t_years t_size t_deeds t_elders t_firstJudgments t_pardoned t_years)) C hw hl (c_Roll_has l g a_t a_t_deeds a_t_firstJudgments a_t_years a_t_pardoned a_t_elders t_size x1 _ h) tw_524 kk_X5_has rfl ⟨rfl, rfl⟩ ⟨by decide, by decide⟩ (Nat.le_of_ble_eq_true rfl) 0 rfl rfl rfl [0] [1, 2, 3, 4, 5] [5, 0, 1, 2, 3, 4] rfl rfl rfl rfl rfl rfl (fun u => rfl) rfl dX5_remove_2 (fun r_7 u H locs h hw => ?_)
  refine lv_if_ne (tgt := 9) hx hb dX5_remove_5 (by decide) (fun c_5 => ?_) (fun c_5 => ?_)
  · have h := h.1 c_5
    refine lv_iload_n hx hb dX5_remove_9 rfl (lv_at hl 1 rfl) ?_
    refine lv_istore_n (lv' := [(2, .int x1), (0, .ref a_t), (1, .int x1)]) hx hb dX5_remove_10 rfl hl (by decide) rfl (fun ls hl => ?_)
    obtain ⟨n_11, h⟩ := h
    exact hL_Roll_remove_11 n_11 x1 t_size t_deeds t_elders t_firstJudgments t_pardoned t_years h _ _ _ hw (lv_sub hl [1, 0] rfl)
  · have h := h.2 c_5
    exact hret (t_size, t_deeds, t_elders, t_firstJudgments, t_pardoned, t_years) h hw dX5_remove_8
def P_Roll_clear (t_size : Int32) (Q : Int32 → Prop) : Prop := Q 0
abbrev rm_Roll_clear : Room := { frames := 0, cells := 0, slots := 0, locals := 0 }
def cs_Roll_clear (g : GE) (a_t a_t_deeds a_t_firstJudgments a_t_years a_t_pardoned a_t_elders : Nat) (t_size : Int32) : va_W := [oc a_t 5 [.ref a_t_deeds, .ref a_t_firstJudgments, .ref a_t_years, .ref a_t_pardoned, .ref a_t_elders, .int t_size]]
set_option maxHeartbeats 4000000 in
set_option maxRecDepth 100000 in
theorem c_Roll_clear (l : Launch) (g : GE) (a_t a_t_deeds a_t_firstJudgments a_t_years a_t_pardoned a_t_elders : Nat) (t_size : Int32) (Q : Int32 → Prop) (h : P_Roll_clear t_size Q) : Ctv l g yX5_clear cX5_clear 1 none rm_Roll_clear [.ref a_t] (cs_Roll_clear g a_t a_t_deeds a_t_firstJudgments a_t_years a_t_pardoned a_t_elders t_size) (S := Int32) (fun u => Q u) (fun u => (cs_Roll_clear g a_t a_t_deeds a_t_firstJudgments a_t_years a_t_pardoned a_t_elders u)) := by
  refine meetV rfl (Nat.le_of_ble_eq_true rfl) ⟨rfl, rfl⟩ ?_
  intro p e s m args below meth c A Qf ls C hret hw hl
  have hx := C.1
  have hb := C.2.1
  have hown := C.2.2.2.1
  have hts := C.2.2.2.2.1
  have hE := C.2.2.2.2.2.1
  have hl : lv_has ls 1 [(0, .ref a_t)] := hl
  refine lv_aload_n hx hb dX5_clear_0 rfl (lv_at hl 0 rfl) ?_
  refine lv_iconst (v := 0) hx hb dX5_clear_1 (by decide) ?_
  refine U_RX5_28 (ws2 := (cs_Roll_clear g a_t a_t_deeds a_t_firstJudgments a_t_years a_t_pardoned a_t_elders 0)) C hw 0 rfl rfl rfl rfl dX5_clear_2 (fun H locs hw => ?_)
  exact hret (0) h hw dX5_clear_5
def B_Roll_judgmentOf_12 (x1 : Int32) (t_size : Int32) (t_firstJudgments : (Nat → Int32)) (t_pardoned : (Nat → Int32)) (Q : Int32 → Prop) : Prop := Q (-1)
def B_Roll_judgmentOf_33 (x1 : Int32) (t_size : Int32) (t_firstJudgments : (Nat → Int32)) (t_pardoned : (Nat → Int32)) (Q : Int32 → Prop) (k0 : Int32) : Prop := Q k0
def P_Roll_judgmentOf (x1 : Int32) (t_size : Int32) (t_firstJudgments : (Nat → Int32)) (t_pardoned : (Nat → Int32)) (Q : Int32 → Prop) : Prop := (x1 < 0 → B_Roll_judgmentOf_12 x1 t_size t_firstJudgments t_pardoned Q) ∧ (¬ x1 < 0 → (x1 < t_size → vp_in x1 12 ∧ (((t_pardoned x1.toNatClampNeg) = 0 → vp_in x1 12 ∧ (B_Roll_judgmentOf_33 x1 t_size t_firstJudgments t_pardoned Q (t_firstJudgments x1.toNatClampNeg))) ∧ (¬ (t_pardoned x1.toNatClampNeg) = 0 → B_Roll_judgmentOf_33 x1 t_size t_firstJudgments t_pardoned Q 0))) ∧ (¬ x1 < t_size → B_Roll_judgmentOf_12 x1 t_size t_firstJudgments t_pardoned Q))
abbrev rm_Roll_judgmentOf : Room := { frames := 0, cells := 0, slots := 0, locals := 0 }
def cs_Roll_judgmentOf (g : GE) (a_t a_t_firstJudgments a_t_pardoned a_t_deeds a_t_years a_t_elders : Nat) (t_size : Int32) (t_firstJudgments : (Nat → Int32)) (t_pardoned : (Nat → Int32)) : va_W := [oc a_t 5 [.ref a_t_deeds, .ref a_t_firstJudgments, .ref a_t_years, .ref a_t_pardoned, .ref a_t_elders, .int t_size], ai g a_t_firstJudgments 12 t_firstJudgments, az g a_t_pardoned 12 t_pardoned]
set_option maxHeartbeats 4000000 in
set_option maxRecDepth 100000 in
theorem c_Roll_judgmentOf (l : Launch) (g : GE) (a_t a_t_firstJudgments a_t_pardoned a_t_deeds a_t_years a_t_elders : Nat) (t_size : Int32) (t_firstJudgments : (Nat → Int32)) (t_pardoned : (Nat → Int32)) (x1 : Int32) (Q : Int32 → Prop) (h : P_Roll_judgmentOf x1 t_size t_firstJudgments t_pardoned Q) : Cti l g yX5_judgmentOf cX5_judgmentOf 2 (some .int) rm_Roll_judgmentOf [.ref a_t, .int x1] (cs_Roll_judgmentOf g a_t a_t_firstJudgments a_t_pardoned a_t_deeds a_t_years a_t_elders t_size t_firstJudgments t_pardoned) (S := Unit) (fun r u => Q r) (fun _ => (cs_Roll_judgmentOf g a_t a_t_firstJudgments a_t_pardoned a_t_deeds a_t_years a_t_elders t_size t_firstJudgments t_pardoned)) := by
  refine meetI rfl (Nat.le_of_ble_eq_true rfl) ⟨rfl, rfl⟩ ?_
  intro p e s m args below meth c A Qf ls C hret hw hl
  have hx := C.1
  have hb := C.2.1
  have hown := C.2.2.2.1
  have hts := C.2.2.2.2.1
  have hE := C.2.2.2.2.2.1
  have hl : lv_has ls 2 [(0, .ref a_t), (1, .int x1)] := hl
  have hB_Roll_judgmentOf_12 : B_Roll_judgmentOf_12 x1 t_size t_firstJudgments t_pardoned Q → Wat p l e rm_Roll_judgmentOf s m args below meth c A Qf g 2 (cs_Roll_judgmentOf g a_t a_t_firstJudgments a_t_pardoned a_t_deeds a_t_years a_t_elders t_size t_firstJudgments t_pardoned) [] 12 [] := by
    intro  h H locs ls hw hl
    refine lv_iconst (v := (-1)) hx hb dX5_judgmentOf_12 (by decide) ?_
    exact hret () h hw dX5_judgmentOf_13 rfl
  have hB_Roll_judgmentOf_33 : ∀ (k0 : Int32), B_Roll_judgmentOf_33 x1 t_size t_firstJudgments t_pardoned Q k0 → Wat p l e rm_Roll_judgmentOf s m args below meth c A Qf g 2 (cs_Roll_judgmentOf g a_t a_t_firstJudgments a_t_pardoned a_t_deeds a_t_years a_t_elders t_size t_firstJudgments t_pardoned) [] 33 [.int k0] := by
    intro k0 h H locs ls hw hl
    exact hret () h hw dX5_judgmentOf_33 rfl
  refine lv_iload_n hx hb dX5_judgmentOf_0 rfl (lv_at hl 1 rfl) ?_
  refine lv_if_lt (tgt := 12) hx hb dX5_judgmentOf_1 (by decide) (fun c_1 => ?_) (fun c_1 => ?_)
  · have h := h.1 c_1
    exact hB_Roll_judgmentOf_12  h _ _ _ hw (lv_sub hl [] rfl)
  · have h := h.2 c_1
    refine lv_iload_n hx hb dX5_judgmentOf_4 rfl (lv_at hl 1 rfl) ?_
    refine lv_aload_n hx hb dX5_judgmentOf_5 rfl (lv_at hl 0 rfl) ?_
    refine G_RX5_28 C hw 0 rfl dX5_judgmentOf_6 ?_
    refine lv_icmp_lt (tgt := 14) hx hb dX5_judgmentOf_9 (by decide) (fun c_9 => ?_) (fun c_9 => ?_)
    · have h := h.1 c_9
      refine lv_aload_n hx hb dX5_judgmentOf_14 rfl (lv_at hl 0 rfl) ?_
      refine G_RX5_21 C hw 0 rfl dX5_judgmentOf_15 ?_
      refine lv_iload_n hx hb dX5_judgmentOf_18 rfl (lv_at hl 1 rfl) ?_
      refine aldZ C hw 2 rfl h.1 dX5_judgmentOf_19 ?_
      have h := h.2
      refine lv_if_eq (tgt := 27) hx hb dX5_judgmentOf_20 (by decide) (fun c_20 => ?_) (fun c_20 => ?_)
      · have h := h.1 c_20
        refine lv_aload_n hx hb dX5_judgmentOf_27 rfl (lv_at hl 0 rfl) ?_
        refine G_RX5_15 C hw 0 rfl dX5_judgmentOf_28 ?_
        refine lv_iload_n hx hb dX5_judgmentOf_31 rfl (lv_at hl 1 rfl) ?_
        refine aldI C hw 1 rfl h.1 dX5_judgmentOf_32 ?_
        have h := h.2
        exact hB_Roll_judgmentOf_33 (t_firstJudgments x1.toNatClampNeg) h _ _ _ hw (lv_sub hl [] rfl)
      · have h := h.2 c_20
        refine lv_iconst (v := 0) hx hb dX5_judgmentOf_23 (by decide) ?_
        refine lv_goto (tgt := 33) hx hb dX5_judgmentOf_24 (by decide) ?_
        exact hB_Roll_judgmentOf_33 0 h _ _ _ hw (lv_sub hl [] rfl)
    · have h := h.2 c_9
      exact hB_Roll_judgmentOf_12  h _ _ _ hw (lv_sub hl [] rfl)
def B_Roll_yearOf_18 (x1 : Int32) (t_size : Int32) (t_years : (Nat → Int32)) (Q : Int32 → Prop) (k0 : Int32) : Prop := Q k0
def P_Roll_yearOf (x1 : Int32) (t_size : Int32) (t_years : (Nat → Int32)) (Q : Int32 → Prop) : Prop := P_Roll_has x1 t_size (fun r_1 => (r_1 = 0 → B_Roll_yearOf_18 x1 t_size t_years Q (-1)) ∧ (¬ r_1 = 0 → vp_in x1 12 ∧ (B_Roll_yearOf_18 x1 t_size t_years Q (t_years x1.toNatClampNeg))))
abbrev rm_Roll_yearOf : Room := { frames := 1, cells := 0, slots := 0, locals := 21 }
def cs_Roll_yearOf (g : GE) (a_t a_t_years a_t_deeds a_t_firstJudgments a_t_pardoned a_t_elders : Nat) (t_size : Int32) (t_years : (Nat → Int32)) : va_W := [oc a_t 5 [.ref a_t_deeds, .ref a_t_firstJudgments, .ref a_t_years, .ref a_t_pardoned, .ref a_t_elders, .int t_size], ai g a_t_years 12 t_years]
set_option maxHeartbeats 4000000 in
set_option maxRecDepth 100000 in
theorem c_Roll_yearOf (l : Launch) (g : GE) (a_t a_t_years a_t_deeds a_t_firstJudgments a_t_pardoned a_t_elders : Nat) (t_size : Int32) (t_years : (Nat → Int32)) (x1 : Int32) (Q : Int32 → Prop) (h : P_Roll_yearOf x1 t_size t_years Q) : Cti l g yX5_yearOf cX5_yearOf 2 (some .int) rm_Roll_yearOf [.ref a_t, .int x1] (cs_Roll_yearOf g a_t a_t_years a_t_deeds a_t_firstJudgments a_t_pardoned a_t_elders t_size t_years) (S := Unit) (fun r u => Q r) (fun _ => (cs_Roll_yearOf g a_t a_t_years a_t_deeds a_t_firstJudgments a_t_pardoned a_t_elders t_size t_years)) := by
  refine meetI rfl (Nat.le_of_ble_eq_true rfl) ⟨rfl, rfl⟩ ?_
  intro p e s m args below meth c A Qf ls C hret hw hl
  have hx := C.1
  have hb := C.2.1
  have hown := C.2.2.2.1
  have hts := C.2.2.2.2.1
  have hE := C.2.2.2.2.2.1
  have hl : lv_has ls 2 [(0, .ref a_t), (1, .int x1)] := hl
  have hB_Roll_yearOf_18 : ∀ (k0 : Int32), B_Roll_yearOf_18 x1 t_size t_years Q k0 → Wat p l e rm_Roll_yearOf s m args below meth c A Qf g 2 (cs_Roll_yearOf g a_t a_t_years a_t_deeds a_t_firstJudgments a_t_pardoned a_t_elders t_size t_years) [] 18 [.int k0] := by
    intro k0 h H locs ls hw hl
    exact hret () h hw dX5_yearOf_18 rfl
  refine lv_aload_n hx hb dX5_yearOf_0 rfl (lv_at hl 0 rfl) ?_
  refine lv_iload_n hx hb dX5_yearOf_1 rfl (lv_at hl 1 rfl) ?_
  refine callVi (As := [.int x1]) (rest := []) (W2 := fun _ => (cs_Roll_yearOf g a_t a_t_years a_t_deeds a_t_firstJudgments a_t_pardoned a_t_elders t_size t_years)) C hw hl (c_Roll_has l g a_t a_t_deeds a_t_firstJudgments a_t_years a_t_pardoned a_t_elders t_size x1 _ h) tw_524 kk_X5_has rfl ⟨rfl, rfl⟩ ⟨by decide, by decide⟩ (Nat.le_of_ble_eq_true rfl) 0 rfl rfl rfl [0] [1] [1, 0] rfl rfl rfl rfl rfl rfl (fun u => rfl) rfl dX5_yearOf_2 (fun r_1 u H locs h hw => ?_)
  refine lv_if_eq (tgt := 17) hx hb dX5_yearOf_5 (by decide) (fun c_5 => ?_) (fun c_5 => ?_)
  · have h := h.1 c_5
    refine lv_iconst (v := (-1)) hx hb dX5_yearOf_17 (by decide) ?_
    exact hB_Roll_yearOf_18 (-1) h _ _ _ hw (lv_sub hl [] rfl)
  · have h := h.2 c_5
    refine lv_aload_n hx hb dX5_yearOf_8 rfl (lv_at hl 0 rfl) ?_
    refine G_RX5_18 C hw 0 rfl dX5_yearOf_9 ?_
    refine lv_iload_n hx hb dX5_yearOf_12 rfl (lv_at hl 1 rfl) ?_
    refine aldI C hw 1 rfl h.1 dX5_yearOf_13 ?_
    have h := h.2
    refine lv_goto (tgt := 18) hx hb dX5_yearOf_14 (by decide) ?_
    exact hB_Roll_yearOf_18 (t_years x1.toNatClampNeg) h _ _ _ hw (lv_sub hl [] rfl)
def B_Roll_isPardoned_22 (x1 : Int32) (t_size : Int32) (t_pardoned : (Nat → Int32)) (Q : Int32 → Prop) (k0 : Int32) : Prop := narrow .boolean (.int k0) = .int k0 ∧ Q k0 
def B_Roll_isPardoned_21 (x1 : Int32) (t_size : Int32) (t_pardoned : (Nat → Int32)) (Q : Int32 → Prop) : Prop := B_Roll_isPardoned_22 x1 t_size t_pardoned Q 0
def P_Roll_isPardoned (x1 : Int32) (t_size : Int32) (t_pardoned : (Nat → Int32)) (Q : Int32 → Prop) : Prop := P_Roll_has x1 t_size (fun r_1 => (r_1 = 0 → B_Roll_isPardoned_21 x1 t_size t_pardoned Q) ∧ (¬ r_1 = 0 → vp_in x1 12 ∧ (((t_pardoned x1.toNatClampNeg) = 0 → B_Roll_isPardoned_21 x1 t_size t_pardoned Q) ∧ (¬ (t_pardoned x1.toNatClampNeg) = 0 → B_Roll_isPardoned_22 x1 t_size t_pardoned Q 1))))
abbrev rm_Roll_isPardoned : Room := { frames := 1, cells := 0, slots := 0, locals := 21 }
def cs_Roll_isPardoned (g : GE) (a_t a_t_pardoned a_t_deeds a_t_firstJudgments a_t_years a_t_elders : Nat) (t_size : Int32) (t_pardoned : (Nat → Int32)) : va_W := [oc a_t 5 [.ref a_t_deeds, .ref a_t_firstJudgments, .ref a_t_years, .ref a_t_pardoned, .ref a_t_elders, .int t_size], az g a_t_pardoned 12 t_pardoned]
set_option maxHeartbeats 4000000 in
set_option maxRecDepth 100000 in
theorem c_Roll_isPardoned (l : Launch) (g : GE) (a_t a_t_pardoned a_t_deeds a_t_firstJudgments a_t_years a_t_elders : Nat) (t_size : Int32) (t_pardoned : (Nat → Int32)) (x1 : Int32) (Q : Int32 → Prop) (h : P_Roll_isPardoned x1 t_size t_pardoned Q) : Cti l g yX5_isPardoned cX5_isPardoned 2 (some .boolean) rm_Roll_isPardoned [.ref a_t, .int x1] (cs_Roll_isPardoned g a_t a_t_pardoned a_t_deeds a_t_firstJudgments a_t_years a_t_elders t_size t_pardoned) (S := Unit) (fun r u => Q r) (fun _ => (cs_Roll_isPardoned g a_t a_t_pardoned a_t_deeds a_t_firstJudgments a_t_years a_t_elders t_size t_pardoned)) := by
  refine meetI rfl (Nat.le_of_ble_eq_true rfl) ⟨rfl, rfl⟩ ?_
  intro p e s m args below meth c A Qf ls C hret hw hl
  have hx := C.1
  have hb := C.2.1
  have hown := C.2.2.2.1
  have hts := C.2.2.2.2.1
  have hE := C.2.2.2.2.2.1
  have hl : lv_has ls 2 [(0, .ref a_t), (1, .int x1)] := hl
  have hB_Roll_isPardoned_22 : ∀ (k0 : Int32), B_Roll_isPardoned_22 x1 t_size t_pardoned Q k0 → Wat p l e rm_Roll_isPardoned s m args below meth c A Qf g 2 (cs_Roll_isPardoned g a_t a_t_pardoned a_t_deeds a_t_firstJudgments a_t_years a_t_elders t_size t_pardoned) [] 22 [.int k0] := by
    intro k0 h H locs ls hw hl
    exact hret () h.2 hw dX5_isPardoned_22 h.1
  have hB_Roll_isPardoned_21 : B_Roll_isPardoned_21 x1 t_size t_pardoned Q → Wat p l e rm_Roll_isPardoned s m args below meth c A Qf g 2 (cs_Roll_isPardoned g a_t a_t_pardoned a_t_deeds a_t_firstJudgments a_t_years a_t_elders t_size t_pardoned) [] 21 [] := by
    intro  h H locs ls hw hl
    refine lv_iconst (v := 0) hx hb dX5_isPardoned_21 (by decide) ?_
    exact hB_Roll_isPardoned_22 0 h _ _ _ hw (lv_sub hl [] rfl)
  refine lv_aload_n hx hb dX5_isPardoned_0 rfl (lv_at hl 0 rfl) ?_
  refine lv_iload_n hx hb dX5_isPardoned_1 rfl (lv_at hl 1 rfl) ?_
  refine callVi (As := [.int x1]) (rest := []) (W2 := fun _ => (cs_Roll_isPardoned g a_t a_t_pardoned a_t_deeds a_t_firstJudgments a_t_years a_t_elders t_size t_pardoned)) C hw hl (c_Roll_has l g a_t a_t_deeds a_t_firstJudgments a_t_years a_t_pardoned a_t_elders t_size x1 _ h) tw_524 kk_X5_has rfl ⟨rfl, rfl⟩ ⟨by decide, by decide⟩ (Nat.le_of_ble_eq_true rfl) 0 rfl rfl rfl [0] [1] [1, 0] rfl rfl rfl rfl rfl rfl (fun u => rfl) rfl dX5_isPardoned_2 (fun r_1 u H locs h hw => ?_)
  refine lv_if_eq (tgt := 21) hx hb dX5_isPardoned_5 (by decide) (fun c_5 => ?_) (fun c_5 => ?_)
  · have h := h.1 c_5
    exact hB_Roll_isPardoned_21  h _ _ _ hw (lv_sub hl [] rfl)
  · have h := h.2 c_5
    refine lv_aload_n hx hb dX5_isPardoned_8 rfl (lv_at hl 0 rfl) ?_
    refine G_RX5_21 C hw 0 rfl dX5_isPardoned_9 ?_
    refine lv_iload_n hx hb dX5_isPardoned_12 rfl (lv_at hl 1 rfl) ?_
    refine aldZ C hw 1 rfl h.1 dX5_isPardoned_13 ?_
    have h := h.2
    refine lv_if_eq (tgt := 21) hx hb dX5_isPardoned_14 (by decide) (fun c_14 => ?_) (fun c_14 => ?_)
    · have h := h.1 c_14
      exact hB_Roll_isPardoned_21  h _ _ _ hw (lv_sub hl [] rfl)
    · have h := h.2 c_14
      refine lv_iconst (v := 1) hx hb dX5_isPardoned_17 (by decide) ?_
      refine lv_goto (tgt := 22) hx hb dX5_isPardoned_18 (by decide) ?_
      exact hB_Roll_isPardoned_22 1 h _ _ _ hw (lv_sub hl [] rfl)
def B_Roll_eldersOf_18 (x1 : Int32) (t_size : Int32) (t_elders : (Nat → Int32)) (Q : Int32 → Prop) (k0 : Int32) : Prop := Q k0
def P_Roll_eldersOf (x1 : Int32) (t_size : Int32) (t_elders : (Nat → Int32)) (Q : Int32 → Prop) : Prop := P_Roll_has x1 t_size (fun r_1 => (r_1 = 0 → B_Roll_eldersOf_18 x1 t_size t_elders Q 0) ∧ (¬ r_1 = 0 → vp_in x1 12 ∧ (B_Roll_eldersOf_18 x1 t_size t_elders Q (t_elders x1.toNatClampNeg))))
abbrev rm_Roll_eldersOf : Room := { frames := 1, cells := 0, slots := 0, locals := 21 }
def cs_Roll_eldersOf (g : GE) (a_t a_t_elders a_t_deeds a_t_firstJudgments a_t_years a_t_pardoned : Nat) (t_size : Int32) (t_elders : (Nat → Int32)) : va_W := [oc a_t 5 [.ref a_t_deeds, .ref a_t_firstJudgments, .ref a_t_years, .ref a_t_pardoned, .ref a_t_elders, .int t_size], ai g a_t_elders 12 t_elders]
set_option maxHeartbeats 4000000 in
set_option maxRecDepth 100000 in
theorem c_Roll_eldersOf (l : Launch) (g : GE) (a_t a_t_elders a_t_deeds a_t_firstJudgments a_t_years a_t_pardoned : Nat) (t_size : Int32) (t_elders : (Nat → Int32)) (x1 : Int32) (Q : Int32 → Prop) (h : P_Roll_eldersOf x1 t_size t_elders Q) : Cti l g yX5_eldersOf cX5_eldersOf 2 (some .int) rm_Roll_eldersOf [.ref a_t, .int x1] (cs_Roll_eldersOf g a_t a_t_elders a_t_deeds a_t_firstJudgments a_t_years a_t_pardoned t_size t_elders) (S := Unit) (fun r u => Q r) (fun _ => (cs_Roll_eldersOf g a_t a_t_elders a_t_deeds a_t_firstJudgments a_t_years a_t_pardoned t_size t_elders)) := by
  refine meetI rfl (Nat.le_of_ble_eq_true rfl) ⟨rfl, rfl⟩ ?_
  intro p e s m args below meth c A Qf ls C hret hw hl
  have hx := C.1
  have hb := C.2.1
  have hown := C.2.2.2.1
  have hts := C.2.2.2.2.1
  have hE := C.2.2.2.2.2.1
  have hl : lv_has ls 2 [(0, .ref a_t), (1, .int x1)] := hl
  have hB_Roll_eldersOf_18 : ∀ (k0 : Int32), B_Roll_eldersOf_18 x1 t_size t_elders Q k0 → Wat p l e rm_Roll_eldersOf s m args below meth c A Qf g 2 (cs_Roll_eldersOf g a_t a_t_elders a_t_deeds a_t_firstJudgments a_t_years a_t_pardoned t_size t_elders) [] 18 [.int k0] := by
    intro k0 h H locs ls hw hl
    exact hret () h hw dX5_eldersOf_18 rfl
  refine lv_aload_n hx hb dX5_eldersOf_0 rfl (lv_at hl 0 rfl) ?_
  refine lv_iload_n hx hb dX5_eldersOf_1 rfl (lv_at hl 1 rfl) ?_
  refine callVi (As := [.int x1]) (rest := []) (W2 := fun _ => (cs_Roll_eldersOf g a_t a_t_elders a_t_deeds a_t_firstJudgments a_t_years a_t_pardoned t_size t_elders)) C hw hl (c_Roll_has l g a_t a_t_deeds a_t_firstJudgments a_t_years a_t_pardoned a_t_elders t_size x1 _ h) tw_524 kk_X5_has rfl ⟨rfl, rfl⟩ ⟨by decide, by decide⟩ (Nat.le_of_ble_eq_true rfl) 0 rfl rfl rfl [0] [1] [1, 0] rfl rfl rfl rfl rfl rfl (fun u => rfl) rfl dX5_eldersOf_2 (fun r_1 u H locs h hw => ?_)
  refine lv_if_eq (tgt := 17) hx hb dX5_eldersOf_5 (by decide) (fun c_5 => ?_) (fun c_5 => ?_)
  · have h := h.1 c_5
    refine lv_iconst (v := 0) hx hb dX5_eldersOf_17 (by decide) ?_
    exact hB_Roll_eldersOf_18 0 h _ _ _ hw (lv_sub hl [] rfl)
  · have h := h.2 c_5
    refine lv_aload_n hx hb dX5_eldersOf_8 rfl (lv_at hl 0 rfl) ?_
    refine G_RX5_25 C hw 0 rfl dX5_eldersOf_9 ?_
    refine lv_iload_n hx hb dX5_eldersOf_12 rfl (lv_at hl 1 rfl) ?_
    refine aldI C hw 1 rfl h.1 dX5_eldersOf_13 ?_
    have h := h.2
    refine lv_goto (tgt := 18) hx hb dX5_eldersOf_14 (by decide) ?_
    exact hB_Roll_eldersOf_18 (t_elders x1.toNatClampNeg) h _ _ _ hw (lv_sub hl [] rfl)
def B_Roll_deedOf_22 (x1 : Int32) (t_size : Int32) (t_deeds : (Nat → Int32)) (Q : Int32 → Prop) (k0 : Int32) : Prop := Q k0
def B_Roll_deedOf_21 (x1 : Int32) (t_size : Int32) (t_deeds : (Nat → Int32)) (Q : Int32 → Prop) : Prop := B_Roll_deedOf_22 x1 t_size t_deeds Q (-1)
def P_Roll_deedOf (x1 : Int32) (t_size : Int32) (t_deeds : (Nat → Int32)) (Q : Int32 → Prop) : Prop := (x1 < 0 → B_Roll_deedOf_21 x1 t_size t_deeds Q) ∧ (¬ x1 < 0 → (t_size ≤ x1 → B_Roll_deedOf_21 x1 t_size t_deeds Q) ∧ (¬ t_size ≤ x1 → vp_in x1 12 ∧ (B_Roll_deedOf_22 x1 t_size t_deeds Q (t_deeds x1.toNatClampNeg))))
abbrev rm_Roll_deedOf : Room := { frames := 0, cells := 0, slots := 0, locals := 0 }
def cs_Roll_deedOf (g : GE) (a_t a_t_deeds a_t_firstJudgments a_t_years a_t_pardoned a_t_elders : Nat) (t_size : Int32) (t_deeds : (Nat → Int32)) : va_W := [oc a_t 5 [.ref a_t_deeds, .ref a_t_firstJudgments, .ref a_t_years, .ref a_t_pardoned, .ref a_t_elders, .int t_size], ai g a_t_deeds 12 t_deeds]
set_option maxHeartbeats 4000000 in
set_option maxRecDepth 100000 in
theorem c_Roll_deedOf (l : Launch) (g : GE) (a_t a_t_deeds a_t_firstJudgments a_t_years a_t_pardoned a_t_elders : Nat) (t_size : Int32) (t_deeds : (Nat → Int32)) (x1 : Int32) (Q : Int32 → Prop) (h : P_Roll_deedOf x1 t_size t_deeds Q) : Cti l g yX5_deedOf cX5_deedOf 2 (some .int) rm_Roll_deedOf [.ref a_t, .int x1] (cs_Roll_deedOf g a_t a_t_deeds a_t_firstJudgments a_t_years a_t_pardoned a_t_elders t_size t_deeds) (S := Unit) (fun r u => Q r) (fun _ => (cs_Roll_deedOf g a_t a_t_deeds a_t_firstJudgments a_t_years a_t_pardoned a_t_elders t_size t_deeds)) := by
  refine meetI rfl (Nat.le_of_ble_eq_true rfl) ⟨rfl, rfl⟩ ?_
  intro p e s m args below meth c A Qf ls C hret hw hl
  have hx := C.1
  have hb := C.2.1
  have hown := C.2.2.2.1
  have hts := C.2.2.2.2.1
  have hE := C.2.2.2.2.2.1
  have hl : lv_has ls 2 [(0, .ref a_t), (1, .int x1)] := hl
  have hB_Roll_deedOf_22 : ∀ (k0 : Int32), B_Roll_deedOf_22 x1 t_size t_deeds Q k0 → Wat p l e rm_Roll_deedOf s m args below meth c A Qf g 2 (cs_Roll_deedOf g a_t a_t_deeds a_t_firstJudgments a_t_years a_t_pardoned a_t_elders t_size t_deeds) [] 22 [.int k0] := by
    intro k0 h H locs ls hw hl
    exact hret () h hw dX5_deedOf_22 rfl
  have hB_Roll_deedOf_21 : B_Roll_deedOf_21 x1 t_size t_deeds Q → Wat p l e rm_Roll_deedOf s m args below meth c A Qf g 2 (cs_Roll_deedOf g a_t a_t_deeds a_t_firstJudgments a_t_years a_t_pardoned a_t_elders t_size t_deeds) [] 21 [] := by
    intro  h H locs ls hw hl
    refine lv_iconst (v := (-1)) hx hb dX5_deedOf_21 (by decide) ?_
    exact hB_Roll_deedOf_22 (-1) h _ _ _ hw (lv_sub hl [] rfl)
  refine lv_iload_n hx hb dX5_deedOf_0 rfl (lv_at hl 1 rfl) ?_
  refine lv_if_lt (tgt := 21) hx hb dX5_deedOf_1 (by decide) (fun c_1 => ?_) (fun c_1 => ?_)
  · have h := h.1 c_1
    exact hB_Roll_deedOf_21  h _ _ _ hw (lv_sub hl [] rfl)
  · have h := h.2 c_1
    refine lv_iload_n hx hb dX5_deedOf_4 rfl (lv_at hl 1 rfl) ?_
    refine lv_aload_n hx hb dX5_deedOf_5 rfl (lv_at hl 0 rfl) ?_
    refine G_RX5_28 C hw 0 rfl dX5_deedOf_6 ?_
    refine lv_icmp_ge (tgt := 21) hx hb dX5_deedOf_9 (by decide) (fun c_9 => ?_) (fun c_9 => ?_)
    · have h := h.1 c_9
      exact hB_Roll_deedOf_21  h _ _ _ hw (lv_sub hl [] rfl)
    · have h := h.2 c_9
      refine lv_aload_n hx hb dX5_deedOf_12 rfl (lv_at hl 0 rfl) ?_
      refine G_RX5_9 C hw 0 rfl dX5_deedOf_13 ?_
      refine lv_iload_n hx hb dX5_deedOf_16 rfl (lv_at hl 1 rfl) ?_
      refine aldI C hw 1 rfl h.1 dX5_deedOf_17 ?_
      have h := h.2
      refine lv_goto (tgt := 22) hx hb dX5_deedOf_18 (by decide) ?_
      exact hB_Roll_deedOf_22 (t_deeds x1.toNatClampNeg) h _ _ _ hw (lv_sub hl [] rfl)
def P_Roll_allCases (t_size : Int32) (Q : Int32 → Prop) : Prop := Q ((1 <<< (t_size &&& 31)) - 1)
abbrev rm_Roll_allCases : Room := { frames := 0, cells := 0, slots := 0, locals := 0 }
def cs_Roll_allCases (g : GE) (a_t a_t_deeds a_t_firstJudgments a_t_years a_t_pardoned a_t_elders : Nat) (t_size : Int32) : va_W := [oc a_t 5 [.ref a_t_deeds, .ref a_t_firstJudgments, .ref a_t_years, .ref a_t_pardoned, .ref a_t_elders, .int t_size]]
set_option maxHeartbeats 4000000 in
set_option maxRecDepth 100000 in
theorem c_Roll_allCases (l : Launch) (g : GE) (a_t a_t_deeds a_t_firstJudgments a_t_years a_t_pardoned a_t_elders : Nat) (t_size : Int32) (Q : Int32 → Prop) (h : P_Roll_allCases t_size Q) : Cti l g yX5_allCases cX5_allCases 1 (some .int) rm_Roll_allCases [.ref a_t] (cs_Roll_allCases g a_t a_t_deeds a_t_firstJudgments a_t_years a_t_pardoned a_t_elders t_size) (S := Unit) (fun r u => Q r) (fun _ => (cs_Roll_allCases g a_t a_t_deeds a_t_firstJudgments a_t_years a_t_pardoned a_t_elders t_size)) := by
  refine meetI rfl (Nat.le_of_ble_eq_true rfl) ⟨rfl, rfl⟩ ?_
  intro p e s m args below meth c A Qf ls C hret hw hl
  have hx := C.1
  have hb := C.2.1
  have hown := C.2.2.2.1
  have hts := C.2.2.2.2.1
  have hE := C.2.2.2.2.2.1
  have hl : lv_has ls 1 [(0, .ref a_t)] := hl
  refine lv_iconst (v := 1) hx hb dX5_allCases_0 (by decide) ?_
  refine lv_aload_n hx hb dX5_allCases_1 rfl (lv_at hl 0 rfl) ?_
  refine G_RX5_28 C hw 0 rfl dX5_allCases_2 ?_
  refine lv_ishl hx hb dX5_allCases_5 ?_
  refine lv_iconst (v := 1) hx hb dX5_allCases_6 (by decide) ?_
  refine lv_isub hx hb dX5_allCases_7 ?_
  exact hret () h hw dX5_allCases_8 rfl
def B_Roll_likest_88 (x1 : Int32) (x2 : Int32) (t_size : Int32) (t_deeds : (Nat → Int32)) (t_elders : (Nat → Int32)) (a3_sums : (Nat → Int32)) (Q : Int32 → Prop) (N_9 : Int32 → Int32 → Int32 → Prop) (x4 : Int32) (x5 : Int32) (x6 : Int32) : Prop := N_9 x4 x5 (x6 + 1)
def B_Roll_likest_80 (x1 : Int32) (x2 : Int32) (t_size : Int32) (t_deeds : (Nat → Int32)) (t_elders : (Nat → Int32)) (a3_sums : (Nat → Int32)) (Q : Int32 → Prop) (N_9 : Int32 → Int32 → Int32 → Prop) (x6 : Int32) (x7 : Int32) : Prop := B_Roll_likest_88 x1 x2 t_size t_deeds t_elders a3_sums Q N_9 x6 x7 x6
def L_Roll_likest_9 (x1 : Int32) (x2 : Int32) (t_size : Int32) (t_deeds : (Nat → Int32)) (t_elders : (Nat → Int32)) (a3_sums : (Nat → Int32)) (Q : Int32 → Prop) : Nat → Int32 → Int32 → Int32 → Prop
  | 0 => fun _ _ _ => False
  | n + 1 => fun x4 x5 x6 => (t_size ≤ x6 → Q x4) ∧ (¬ t_size ≤ x6 → P_LC_holds x2 x6 (fun r_1 => (¬ r_1 = 0 → vp_in x6 12 ∧ (P_Scale_together (x1 ^^^ (t_deeds x6.toNatClampNeg)) a3_sums (fun r_2 => (x4 = (-1) → B_Roll_likest_80 x1 x2 t_size t_deeds t_elders a3_sums Q (L_Roll_likest_9 x1 x2 t_size t_deeds t_elders a3_sums Q n) x6 r_2) ∧ (¬ x4 = (-1) → (r_2 < x5 → B_Roll_likest_80 x1 x2 t_size t_deeds t_elders a3_sums Q (L_Roll_likest_9 x1 x2 t_size t_deeds t_elders a3_sums Q n) x6 r_2) ∧ (¬ r_2 < x5 → (¬ r_2 = x5 → B_Roll_likest_88 x1 x2 t_size t_deeds t_elders a3_sums Q (L_Roll_likest_9 x1 x2 t_size t_deeds t_elders a3_sums Q n) x4 x5 x6) ∧ (r_2 = x5 → vp_in x4 12 ∧ (P_LC_holds (t_elders x4.toNatClampNeg) x6 (fun r_3 => (r_3 = 0 → B_Roll_likest_88 x1 x2 t_size t_deeds t_elders a3_sums Q (L_Roll_likest_9 x1 x2 t_size t_deeds t_elders a3_sums Q n) x4 x5 x6) ∧ (¬ r_3 = 0 → B_Roll_likest_80 x1 x2 t_size t_deeds t_elders a3_sums Q (L_Roll_likest_9 x1 x2 t_size t_deeds t_elders a3_sums Q n) x6 r_2))))))))) ∧ (r_1 = 0 → B_Roll_likest_88 x1 x2 t_size t_deeds t_elders a3_sums Q (L_Roll_likest_9 x1 x2 t_size t_deeds t_elders a3_sums Q n) x4 x5 x6)))
def P_Roll_likest (x1 : Int32) (x2 : Int32) (t_size : Int32) (t_deeds : (Nat → Int32)) (t_elders : (Nat → Int32)) (a3_sums : (Nat → Int32)) (Q : Int32 → Prop) : Prop := ∃ n_9 : Nat, L_Roll_likest_9 x1 x2 t_size t_deeds t_elders a3_sums Q n_9 (-1) 0 0
abbrev rm_Roll_likest : Room := { frames := 1, cells := 0, slots := 0, locals := 21 }
def cs_Roll_likest (g : GE) (a_t a_t_deeds a_t_elders a_a3 a_a3_sums a_t_firstJudgments a_t_years a_t_pardoned a_a3_each : Nat) (t_size : Int32) (t_deeds : (Nat → Int32)) (t_elders : (Nat → Int32)) (a3_points : Int32) (a3_sums : (Nat → Int32)) : va_W := [oc a_t 5 [.ref a_t_deeds, .ref a_t_firstJudgments, .ref a_t_years, .ref a_t_pardoned, .ref a_t_elders, .int t_size], ai g a_t_deeds 12 t_deeds, ai g a_t_elders 12 t_elders, oc a_a3 6 [.ref a_a3_each, .ref a_a3_sums, .int a3_points], ai g a_a3_sums 1024 a3_sums]
set_option maxHeartbeats 4000000 in
set_option maxRecDepth 100000 in
theorem c_Roll_likest (l : Launch) (g : GE) (a_t a_t_deeds a_t_elders a_a3 a_a3_sums a_t_firstJudgments a_t_years a_t_pardoned a_a3_each : Nat) (t_size : Int32) (t_deeds : (Nat → Int32)) (t_elders : (Nat → Int32)) (a3_points : Int32) (a3_sums : (Nat → Int32)) (x1 : Int32) (x2 : Int32) (Q : Int32 → Prop) (h : P_Roll_likest x1 x2 t_size t_deeds t_elders a3_sums Q) : Cti l g yX5_likest cX5_likest 8 (some .int) rm_Roll_likest [.ref a_t, .int x1, .int x2, .ref a_a3] (cs_Roll_likest g a_t a_t_deeds a_t_elders a_a3 a_a3_sums a_t_firstJudgments a_t_years a_t_pardoned a_a3_each t_size t_deeds t_elders a3_points a3_sums) (S := Unit) (fun r u => Q r) (fun _ => (cs_Roll_likest g a_t a_t_deeds a_t_elders a_a3 a_a3_sums a_t_firstJudgments a_t_years a_t_pardoned a_a3_each t_size t_deeds t_elders a3_points a3_sums)) := by
  refine meetI rfl (Nat.le_of_ble_eq_true rfl) ⟨rfl, rfl⟩ ?_
  intro p e s m args below meth c A Qf ls C hret hw hl
  have hx := C.1
  have hb := C.2.1
  have hown := C.2.2.2.1
  have hts := C.2.2.2.2.1
  have hE := C.2.2.2.2.2.1
  have hl : lv_has ls 8 [(0, .ref a_t), (1, .int x1), (2, .int x2), (3, .ref a_a3)] := hl
  have hB_Roll_likest_88 : ∀ (N_9 : Int32 → Int32 → Int32 → Prop) (hN_9 : ∀ (x4 : Int32) (x5 : Int32) (x6 : Int32), N_9 x4 x5 x6 → Wat p l e rm_Roll_likest s m args below meth c A Qf g 8 (cs_Roll_likest g a_t a_t_deeds a_t_elders a_a3 a_a3_sums a_t_firstJudgments a_t_years a_t_pardoned a_a3_each t_size t_deeds t_elders a3_points a3_sums) [(0, .ref a_t), (1, .int x1), (2, .int x2), (3, .ref a_a3), (4, .int x4), (5, .int x5), (6, .int x6)] 9 []) (x4 : Int32) (x5 : Int32) (x6 : Int32), B_Roll_likest_88 x1 x2 t_size t_deeds t_elders a3_sums Q N_9 x4 x5 x6 → Wat p l e rm_Roll_likest s m args below meth c A Qf g 8 (cs_Roll_likest g a_t a_t_deeds a_t_elders a_a3 a_a3_sums a_t_firstJudgments a_t_years a_t_pardoned a_a3_each t_size t_deeds t_elders a3_points a3_sums) [(0, .ref a_t), (1, .int x1), (2, .int x2), (3, .ref a_a3), (4, .int x4), (5, .int x5), (6, .int x6)] 88 [] := by
    intro N_9 hN_9 x4 x5 x6 h H locs ls hw hl
    refine lv_iinc (v := x6 + 1) (lv' := [(6, .int (x6 + 1)), (0, .ref a_t), (1, .int x1), (2, .int x2), (3, .ref a_a3), (4, .int x4), (5, .int x5)]) hx hb dX5_likest_88 hl (k := 6) rfl rfl (by decide) rfl (fun ls hl => ?_)
    refine lv_goto (tgt := 9) hx hb dX5_likest_91 (by decide) ?_
    exact hN_9 x4 x5 (x6 + 1) h _ _ _ hw (lv_sub hl [1, 2, 3, 4, 5, 6, 0] rfl)
  have hB_Roll_likest_80 : ∀ (N_9 : Int32 → Int32 → Int32 → Prop) (hN_9 : ∀ (x4 : Int32) (x5 : Int32) (x6 : Int32), N_9 x4 x5 x6 → Wat p l e rm_Roll_likest s m args below meth c A Qf g 8 (cs_Roll_likest g a_t a_t_deeds a_t_elders a_a3 a_a3_sums a_t_firstJudgments a_t_years a_t_pardoned a_a3_each t_size t_deeds t_elders a3_points a3_sums) [(0, .ref a_t), (1, .int x1), (2, .int x2), (3, .ref a_a3), (4, .int x4), (5, .int x5), (6, .int x6)] 9 []) (x6 : Int32) (x7 : Int32), B_Roll_likest_80 x1 x2 t_size t_deeds t_elders a3_sums Q N_9 x6 x7 → Wat p l e rm_Roll_likest s m args below meth c A Qf g 8 (cs_Roll_likest g a_t a_t_deeds a_t_elders a_a3 a_a3_sums a_t_firstJudgments a_t_years a_t_pardoned a_a3_each t_size t_deeds t_elders a3_points a3_sums) [(0, .ref a_t), (1, .int x1), (2, .int x2), (3, .ref a_a3), (6, .int x6), (7, .int x7)] 80 [] := by
    intro N_9 hN_9 x6 x7 h H locs ls hw hl
    refine lv_iload hx hb dX5_likest_80 (lv_at hl 4 rfl) ?_
    refine lv_istore (lv' := [(4, .int x6), (0, .ref a_t), (1, .int x1), (2, .int x2), (3, .ref a_a3), (6, .int x6), (7, .int x7)]) hx hb dX5_likest_82 hl (by decide) rfl (fun ls hl => ?_)
    refine lv_iload hx hb dX5_likest_84 (lv_at hl 6 rfl) ?_
    refine lv_istore (lv' := [(5, .int x7), (4, .int x6), (0, .ref a_t), (1, .int x1), (2, .int x2), (3, .ref a_a3), (6, .int x6), (7, .int x7)]) hx hb dX5_likest_86 hl (by decide) rfl (fun ls hl => ?_)
    exact hB_Roll_likest_88 N_9 hN_9 x6 x7 x6 h _ _ _ hw (lv_sub hl [2, 3, 4, 5, 1, 0, 6] rfl)
  have hL_Roll_likest_9 : ∀ (n : Nat) (x4 : Int32) (x5 : Int32) (x6 : Int32), L_Roll_likest_9 x1 x2 t_size t_deeds t_elders a3_sums Q n x4 x5 x6 → Wat p l e rm_Roll_likest s m args below meth c A Qf g 8 (cs_Roll_likest g a_t a_t_deeds a_t_elders a_a3 a_a3_sums a_t_firstJudgments a_t_years a_t_pardoned a_a3_each t_size t_deeds t_elders a3_points a3_sums) [(0, .ref a_t), (1, .int x1), (2, .int x2), (3, .ref a_a3), (4, .int x4), (5, .int x5), (6, .int x6)] 9 [] := by
    intro n
    induction n with
    | zero => intro x4 x5 x6 h; exact absurd h id
    | succ n ih =>
      intro x4 x5 x6 h H locs ls hw hl
      rw [L_Roll_likest_9] at h
      refine lv_iload hx hb dX5_likest_9 (lv_at hl 6 rfl) ?_
      refine lv_aload_n hx hb dX5_likest_11 rfl (lv_at hl 0 rfl) ?_
      refine G_RX5_28 C hw 0 rfl dX5_likest_12 ?_
      refine lv_icmp_ge (tgt := 94) hx hb dX5_likest_15 (by decide) (fun c_15 => ?_) (fun c_15 => ?_)
      · have h := h.1 c_15
        refine lv_iload hx hb dX5_likest_94 (lv_at hl 4 rfl) ?_
        exact hret () h hw dX5_likest_96 rfl
      · have h := h.2 c_15
        refine lv_iload_n hx hb dX5_likest_18 rfl (lv_at hl 2 rfl) ?_
        refine lv_iload hx hb dX5_likest_19 (lv_at hl 6 rfl) ?_
        refine callNi (As := [.int x2, .int x6]) (rest := []) C hw hl (c_LC_holds l g x2 x6 _ h) (nest_in hE tn_554 rfl) kk_X9_holds rfl ⟨rfl, rfl⟩ ⟨by decide, by decide⟩ (Nat.le_of_ble_eq_true rfl) rfl dX5_likest_21 (fun r_1 u H locs h hw => ?_)
        refine lv_if_ne (tgt := 30) hx hb dX5_likest_24 (by decide) (fun c_24 => ?_) (fun c_24 => ?_)
        · have h := h.1 c_24
          refine lv_aload_n hx hb dX5_likest_30 rfl (lv_at hl 3 rfl) ?_
          refine lv_iload_n hx hb dX5_likest_31 rfl (lv_at hl 1 rfl) ?_
          refine lv_aload_n hx hb dX5_likest_32 rfl (lv_at hl 0 rfl) ?_
          refine G_RX5_9 C hw 0 rfl dX5_likest_33 ?_
          refine lv_iload hx hb dX5_likest_36 (lv_at hl 6 rfl) ?_
          refine aldI C hw 1 rfl h.1 dX5_likest_38 ?_
          have h := h.2
          refine lv_ixor hx hb dX5_likest_39 ?_
          refine callVi (As := [.int (x1 ^^^ (t_deeds x6.toNatClampNeg))]) (rest := []) (W2 := fun _ => (cs_Roll_likest g a_t a_t_deeds a_t_elders a_a3 a_a3_sums a_t_firstJudgments a_t_years a_t_pardoned a_a3_each t_size t_deeds t_elders a3_points a3_sums)) C hw hl (c_Scale_together l g a_a3 a_a3_sums a_a3_each a3_points a3_sums (x1 ^^^ (t_deeds x6.toNatClampNeg)) _ h) tw_608 kk_X6_together rfl ⟨rfl, rfl⟩ ⟨by decide, by decide⟩ (Nat.le_of_ble_eq_true rfl) 3 rfl rfl rfl [3, 4] [0, 1, 2] [0, 1, 2, 3, 4] rfl rfl rfl rfl rfl rfl (fun u => rfl) rfl dX5_likest_40 (fun r_2 u H locs h hw => ?_)
          refine lv_istore (lv' := [(7, .int r_2), (0, .ref a_t), (1, .int x1), (2, .int x2), (3, .ref a_a3), (4, .int x4), (5, .int x5), (6, .int x6)]) hx hb dX5_likest_43 hl (by decide) rfl (fun ls hl => ?_)
          refine lv_iload hx hb dX5_likest_45 (lv_at hl 5 rfl) ?_
          refine lv_iconst (v := (-1)) hx hb dX5_likest_47 (by decide) ?_
          refine lv_icmp_eq (tgt := 80) hx hb dX5_likest_48 (by decide) (fun c_48 => ?_) (fun c_48 => ?_)
          · have h := h.1 c_48
            exact hB_Roll_likest_80 (L_Roll_likest_9 x1 x2 t_size t_deeds t_elders a3_sums Q n) ih x6 r_2 h _ _ _ hw (lv_sub hl [1, 2, 3, 4, 7, 0] rfl)
          · have h := h.2 c_48
            refine lv_iload hx hb dX5_likest_51 (lv_at hl 0 rfl) ?_
            refine lv_iload hx hb dX5_likest_53 (lv_at hl 6 rfl) ?_
            refine lv_icmp_lt (tgt := 80) hx hb dX5_likest_55 (by decide) (fun c_55 => ?_) (fun c_55 => ?_)
            · have h := h.1 c_55
              exact hB_Roll_likest_80 (L_Roll_likest_9 x1 x2 t_size t_deeds t_elders a3_sums Q n) ih x6 r_2 h _ _ _ hw (lv_sub hl [1, 2, 3, 4, 7, 0] rfl)
            · have h := h.2 c_55
              refine lv_iload hx hb dX5_likest_58 (lv_at hl 0 rfl) ?_
              refine lv_iload hx hb dX5_likest_60 (lv_at hl 6 rfl) ?_
              refine lv_icmp_ne (tgt := 88) hx hb dX5_likest_62 (by decide) (fun c_62 => ?_) (fun c_62 => ?_)
              · have h := h.1 c_62
                exact hB_Roll_likest_88 (L_Roll_likest_9 x1 x2 t_size t_deeds t_elders a3_sums Q n) ih x4 x5 x6 h _ _ _ hw (lv_sub hl [1, 2, 3, 4, 5, 6, 7] rfl)
              · have h := h.2 c_62
                refine lv_aload_n hx hb dX5_likest_65 rfl (lv_at hl 1 rfl) ?_
                refine G_RX5_25 C hw 0 rfl dX5_likest_66 ?_
                refine lv_iload hx hb dX5_likest_69 (lv_at hl 5 rfl) ?_
                refine aldI C hw 2 rfl h.1 dX5_likest_71 ?_
                have h := h.2
                refine lv_iload hx hb dX5_likest_72 (lv_at hl 7 rfl) ?_
                refine callNi (As := [.int (t_elders x4.toNatClampNeg), .int x6]) (rest := []) C hw hl (c_LC_holds l g (t_elders x4.toNatClampNeg) x6 _ h) (nest_in hE tn_554 rfl) kk_X9_holds rfl ⟨rfl, rfl⟩ ⟨by decide, by decide⟩ (Nat.le_of_ble_eq_true rfl) rfl dX5_likest_74 (fun r_3 u H locs h hw => ?_)
                refine lv_if_eq (tgt := 88) hx hb dX5_likest_77 (by decide) (fun c_77 => ?_) (fun c_77 => ?_)
                · have h := h.1 c_77
                  exact hB_Roll_likest_88 (L_Roll_likest_9 x1 x2 t_size t_deeds t_elders a3_sums Q n) ih x4 x5 x6 h _ _ _ hw (lv_sub hl [1, 2, 3, 4, 5, 6, 7] rfl)
                · have h := h.2 c_77
                  exact hB_Roll_likest_80 (L_Roll_likest_9 x1 x2 t_size t_deeds t_elders a3_sums Q n) ih x6 r_2 h _ _ _ hw (lv_sub hl [1, 2, 3, 4, 7, 0] rfl)
        · have h := h.2 c_24
          refine lv_goto (tgt := 88) hx hb dX5_likest_27 (by decide) ?_
          exact hB_Roll_likest_88 (L_Roll_likest_9 x1 x2 t_size t_deeds t_elders a3_sums Q n) ih x4 x5 x6 h _ _ _ hw (lv_sub hl [0, 1, 2, 3, 4, 5, 6] rfl)
  refine lv_iconst (v := (-1)) hx hb dX5_likest_0 (by decide) ?_
  refine lv_istore (lv' := [(4, .int (-1)), (0, .ref a_t), (1, .int x1), (2, .int x2), (3, .ref a_a3)]) hx hb dX5_likest_1 hl (by decide) rfl (fun ls hl => ?_)
  refine lv_iconst (v := 0) hx hb dX5_likest_3 (by decide) ?_
  refine lv_istore (lv' := [(5, .int 0), (4, .int (-1)), (0, .ref a_t), (1, .int x1), (2, .int x2), (3, .ref a_a3)]) hx hb dX5_likest_4 hl (by decide) rfl (fun ls hl => ?_)
  refine lv_iconst (v := 0) hx hb dX5_likest_6 (by decide) ?_
  refine lv_istore (lv' := [(6, .int 0), (5, .int 0), (4, .int (-1)), (0, .ref a_t), (1, .int x1), (2, .int x2), (3, .ref a_a3)]) hx hb dX5_likest_7 hl (by decide) rfl (fun ls hl => ?_)
  obtain ⟨n_9, h⟩ := h
  exact hL_Roll_likest_9 n_9 (-1) 0 0 h _ _ _ hw (lv_sub hl [3, 4, 5, 6, 2, 1, 0] rfl)
def B_Roll_isEmpty_12 (t_size : Int32) (Q : Int32 → Prop) (k0 : Int32) : Prop := narrow .boolean (.int k0) = .int k0 ∧ Q k0 
def P_Roll_isEmpty (t_size : Int32) (Q : Int32 → Prop) : Prop := (¬ t_size = 0 → B_Roll_isEmpty_12 t_size Q 0) ∧ (t_size = 0 → B_Roll_isEmpty_12 t_size Q 1)
abbrev rm_Roll_isEmpty : Room := { frames := 0, cells := 0, slots := 0, locals := 0 }
def cs_Roll_isEmpty (g : GE) (a_t a_t_deeds a_t_firstJudgments a_t_years a_t_pardoned a_t_elders : Nat) (t_size : Int32) : va_W := [oc a_t 5 [.ref a_t_deeds, .ref a_t_firstJudgments, .ref a_t_years, .ref a_t_pardoned, .ref a_t_elders, .int t_size]]
set_option maxHeartbeats 4000000 in
set_option maxRecDepth 100000 in
theorem c_Roll_isEmpty (l : Launch) (g : GE) (a_t a_t_deeds a_t_firstJudgments a_t_years a_t_pardoned a_t_elders : Nat) (t_size : Int32) (Q : Int32 → Prop) (h : P_Roll_isEmpty t_size Q) : Cti l g yX5_isEmpty cX5_isEmpty 1 (some .boolean) rm_Roll_isEmpty [.ref a_t] (cs_Roll_isEmpty g a_t a_t_deeds a_t_firstJudgments a_t_years a_t_pardoned a_t_elders t_size) (S := Unit) (fun r u => Q r) (fun _ => (cs_Roll_isEmpty g a_t a_t_deeds a_t_firstJudgments a_t_years a_t_pardoned a_t_elders t_size)) := by
  refine meetI rfl (Nat.le_of_ble_eq_true rfl) ⟨rfl, rfl⟩ ?_
  intro p e s m args below meth c A Qf ls C hret hw hl
  have hx := C.1
  have hb := C.2.1
  have hown := C.2.2.2.1
  have hts := C.2.2.2.2.1
  have hE := C.2.2.2.2.2.1
  have hl : lv_has ls 1 [(0, .ref a_t)] := hl
  have hB_Roll_isEmpty_12 : ∀ (k0 : Int32), B_Roll_isEmpty_12 t_size Q k0 → Wat p l e rm_Roll_isEmpty s m args below meth c A Qf g 1 (cs_Roll_isEmpty g a_t a_t_deeds a_t_firstJudgments a_t_years a_t_pardoned a_t_elders t_size) [] 12 [.int k0] := by
    intro k0 h H locs ls hw hl
    exact hret () h.2 hw dX5_isEmpty_12 h.1
  refine lv_aload_n hx hb dX5_isEmpty_0 rfl (lv_at hl 0 rfl) ?_
  refine G_RX5_28 C hw 0 rfl dX5_isEmpty_1 ?_
  refine lv_if_ne (tgt := 11) hx hb dX5_isEmpty_4 (by decide) (fun c_4 => ?_) (fun c_4 => ?_)
  · have h := h.1 c_4
    refine lv_iconst (v := 0) hx hb dX5_isEmpty_11 (by decide) ?_
    exact hB_Roll_isEmpty_12 0 h _ _ _ hw (lv_sub hl [] rfl)
  · have h := h.2 c_4
    refine lv_iconst (v := 1) hx hb dX5_isEmpty_7 (by decide) ?_
    refine lv_goto (tgt := 12) hx hb dX5_isEmpty_8 (by decide) ?_
    exact hB_Roll_isEmpty_12 1 h _ _ _ hw (lv_sub hl [] rfl)
def B_Roll_firstJudgmentOf_18 (x1 : Int32) (t_size : Int32) (t_firstJudgments : (Nat → Int32)) (Q : Int32 → Prop) (k0 : Int32) : Prop := Q k0
def P_Roll_firstJudgmentOf (x1 : Int32) (t_size : Int32) (t_firstJudgments : (Nat → Int32)) (Q : Int32 → Prop) : Prop := P_Roll_has x1 t_size (fun r_1 => (r_1 = 0 → B_Roll_firstJudgmentOf_18 x1 t_size t_firstJudgments Q (-1)) ∧ (¬ r_1 = 0 → vp_in x1 12 ∧ (B_Roll_firstJudgmentOf_18 x1 t_size t_firstJudgments Q (t_firstJudgments x1.toNatClampNeg))))
abbrev rm_Roll_firstJudgmentOf : Room := { frames := 1, cells := 0, slots := 0, locals := 21 }
def cs_Roll_firstJudgmentOf (g : GE) (a_t a_t_firstJudgments a_t_deeds a_t_years a_t_pardoned a_t_elders : Nat) (t_size : Int32) (t_firstJudgments : (Nat → Int32)) : va_W := [oc a_t 5 [.ref a_t_deeds, .ref a_t_firstJudgments, .ref a_t_years, .ref a_t_pardoned, .ref a_t_elders, .int t_size], ai g a_t_firstJudgments 12 t_firstJudgments]
set_option maxHeartbeats 4000000 in
set_option maxRecDepth 100000 in
theorem c_Roll_firstJudgmentOf (l : Launch) (g : GE) (a_t a_t_firstJudgments a_t_deeds a_t_years a_t_pardoned a_t_elders : Nat) (t_size : Int32) (t_firstJudgments : (Nat → Int32)) (x1 : Int32) (Q : Int32 → Prop) (h : P_Roll_firstJudgmentOf x1 t_size t_firstJudgments Q) : Cti l g yX5_firstJudgmentOf cX5_firstJudgmentOf 2 (some .int) rm_Roll_firstJudgmentOf [.ref a_t, .int x1] (cs_Roll_firstJudgmentOf g a_t a_t_firstJudgments a_t_deeds a_t_years a_t_pardoned a_t_elders t_size t_firstJudgments) (S := Unit) (fun r u => Q r) (fun _ => (cs_Roll_firstJudgmentOf g a_t a_t_firstJudgments a_t_deeds a_t_years a_t_pardoned a_t_elders t_size t_firstJudgments)) := by
  refine meetI rfl (Nat.le_of_ble_eq_true rfl) ⟨rfl, rfl⟩ ?_
  intro p e s m args below meth c A Qf ls C hret hw hl
  have hx := C.1
  have hb := C.2.1
  have hown := C.2.2.2.1
  have hts := C.2.2.2.2.1
  have hE := C.2.2.2.2.2.1
  have hl : lv_has ls 2 [(0, .ref a_t), (1, .int x1)] := hl
  have hB_Roll_firstJudgmentOf_18 : ∀ (k0 : Int32), B_Roll_firstJudgmentOf_18 x1 t_size t_firstJudgments Q k0 → Wat p l e rm_Roll_firstJudgmentOf s m args below meth c A Qf g 2 (cs_Roll_firstJudgmentOf g a_t a_t_firstJudgments a_t_deeds a_t_years a_t_pardoned a_t_elders t_size t_firstJudgments) [] 18 [.int k0] := by
    intro k0 h H locs ls hw hl
    exact hret () h hw dX5_firstJudgmentOf_18 rfl
  refine lv_aload_n hx hb dX5_firstJudgmentOf_0 rfl (lv_at hl 0 rfl) ?_
  refine lv_iload_n hx hb dX5_firstJudgmentOf_1 rfl (lv_at hl 1 rfl) ?_
  refine callVi (As := [.int x1]) (rest := []) (W2 := fun _ => (cs_Roll_firstJudgmentOf g a_t a_t_firstJudgments a_t_deeds a_t_years a_t_pardoned a_t_elders t_size t_firstJudgments)) C hw hl (c_Roll_has l g a_t a_t_deeds a_t_firstJudgments a_t_years a_t_pardoned a_t_elders t_size x1 _ h) tw_524 kk_X5_has rfl ⟨rfl, rfl⟩ ⟨by decide, by decide⟩ (Nat.le_of_ble_eq_true rfl) 0 rfl rfl rfl [0] [1] [1, 0] rfl rfl rfl rfl rfl rfl (fun u => rfl) rfl dX5_firstJudgmentOf_2 (fun r_1 u H locs h hw => ?_)
  refine lv_if_eq (tgt := 17) hx hb dX5_firstJudgmentOf_5 (by decide) (fun c_5 => ?_) (fun c_5 => ?_)
  · have h := h.1 c_5
    refine lv_iconst (v := (-1)) hx hb dX5_firstJudgmentOf_17 (by decide) ?_
    exact hB_Roll_firstJudgmentOf_18 (-1) h _ _ _ hw (lv_sub hl [] rfl)
  · have h := h.2 c_5
    refine lv_aload_n hx hb dX5_firstJudgmentOf_8 rfl (lv_at hl 0 rfl) ?_
    refine G_RX5_15 C hw 0 rfl dX5_firstJudgmentOf_9 ?_
    refine lv_iload_n hx hb dX5_firstJudgmentOf_12 rfl (lv_at hl 1 rfl) ?_
    refine aldI C hw 1 rfl h.1 dX5_firstJudgmentOf_13 ?_
    have h := h.2
    refine lv_goto (tgt := 18) hx hb dX5_firstJudgmentOf_14 (by decide) ?_
    exact hB_Roll_firstJudgmentOf_18 (t_firstJudgments x1.toNatClampNeg) h _ _ _ hw (lv_sub hl [] rfl)
def B_Roll_follows_44 (x1 : Int32) (x2 : Int32) (t_size : Int32) (t_deeds : (Nat → Int32)) (t_elders : (Nat → Int32)) (t_firstJudgments : (Nat → Int32)) (a3_sums : (Nat → Int32)) (Q : Int32 → Prop) (k0 : Int32) : Prop := narrow .boolean (.int k0) = .int k0 ∧ Q k0 
def B_Roll_follows_39 (x1 : Int32) (x2 : Int32) (t_size : Int32) (t_deeds : (Nat → Int32)) (t_elders : (Nat → Int32)) (t_firstJudgments : (Nat → Int32)) (a3_sums : (Nat → Int32)) (Q : Int32 → Prop) : Prop := B_Roll_follows_44 x1 x2 t_size t_deeds t_elders t_firstJudgments a3_sums Q 1
def P_Roll_follows (x1 : Int32) (x2 : Int32) (t_size : Int32) (t_deeds : (Nat → Int32)) (t_elders : (Nat → Int32)) (t_firstJudgments : (Nat → Int32)) (a3_sums : (Nat → Int32)) (Q : Int32 → Prop) : Prop := P_Roll_deedOf x1 t_size t_deeds (fun r_1 => P_Roll_eldersOf x1 t_size t_elders (fun r_2 => P_Roll_likest r_1 (x2 &&& r_2) t_size t_deeds t_elders a3_sums (fun r_3 => (r_3 = (-1) → B_Roll_follows_39 x1 x2 t_size t_deeds t_elders t_firstJudgments a3_sums Q) ∧ (¬ r_3 = (-1) → P_Roll_firstJudgmentOf r_3 t_size t_firstJudgments (fun r_4 => P_Roll_firstJudgmentOf x1 t_size t_firstJudgments (fun r_5 => (¬ r_4 = r_5 → B_Roll_follows_44 x1 x2 t_size t_deeds t_elders t_firstJudgments a3_sums Q 0) ∧ (r_4 = r_5 → B_Roll_follows_39 x1 x2 t_size t_deeds t_elders t_firstJudgments a3_sums Q)))))))
abbrev rm_Roll_follows : Room := { frames := 2, cells := 0, slots := 0, locals := 48 }
def cs_Roll_follows (g : GE) (a_t a_t_deeds a_t_elders a_t_firstJudgments a_a3 a_a3_sums a_t_years a_t_pardoned a_a3_each : Nat) (t_size : Int32) (t_deeds : (Nat → Int32)) (t_elders : (Nat → Int32)) (t_firstJudgments : (Nat → Int32)) (a3_points : Int32) (a3_sums : (Nat → Int32)) : va_W := [oc a_t 5 [.ref a_t_deeds, .ref a_t_firstJudgments, .ref a_t_years, .ref a_t_pardoned, .ref a_t_elders, .int t_size], ai g a_t_deeds 12 t_deeds, ai g a_t_elders 12 t_elders, ai g a_t_firstJudgments 12 t_firstJudgments, oc a_a3 6 [.ref a_a3_each, .ref a_a3_sums, .int a3_points], ai g a_a3_sums 1024 a3_sums]
set_option maxHeartbeats 4000000 in
set_option maxRecDepth 100000 in
theorem c_Roll_follows (l : Launch) (g : GE) (a_t a_t_deeds a_t_elders a_t_firstJudgments a_a3 a_a3_sums a_t_years a_t_pardoned a_a3_each : Nat) (t_size : Int32) (t_deeds : (Nat → Int32)) (t_elders : (Nat → Int32)) (t_firstJudgments : (Nat → Int32)) (a3_points : Int32) (a3_sums : (Nat → Int32)) (x1 : Int32) (x2 : Int32) (Q : Int32 → Prop) (h : P_Roll_follows x1 x2 t_size t_deeds t_elders t_firstJudgments a3_sums Q) : Cti l g yX5_follows cX5_follows 5 (some .boolean) rm_Roll_follows [.ref a_t, .int x1, .int x2, .ref a_a3] (cs_Roll_follows g a_t a_t_deeds a_t_elders a_t_firstJudgments a_a3 a_a3_sums a_t_years a_t_pardoned a_a3_each t_size t_deeds t_elders t_firstJudgments a3_points a3_sums) (S := Unit) (fun r u => Q r) (fun _ => (cs_Roll_follows g a_t a_t_deeds a_t_elders a_t_firstJudgments a_a3 a_a3_sums a_t_years a_t_pardoned a_a3_each t_size t_deeds t_elders t_firstJudgments a3_points a3_sums)) := by
  refine meetI rfl (Nat.le_of_ble_eq_true rfl) ⟨rfl, rfl⟩ ?_
  intro p e s m args below meth c A Qf ls C hret hw hl
  have hx := C.1
  have hb := C.2.1
  have hown := C.2.2.2.1
  have hts := C.2.2.2.2.1
  have hE := C.2.2.2.2.2.1
  have hl : lv_has ls 5 [(0, .ref a_t), (1, .int x1), (2, .int x2), (3, .ref a_a3)] := hl
  have hB_Roll_follows_44 : ∀ (k0 : Int32), B_Roll_follows_44 x1 x2 t_size t_deeds t_elders t_firstJudgments a3_sums Q k0 → Wat p l e rm_Roll_follows s m args below meth c A Qf g 5 (cs_Roll_follows g a_t a_t_deeds a_t_elders a_t_firstJudgments a_a3 a_a3_sums a_t_years a_t_pardoned a_a3_each t_size t_deeds t_elders t_firstJudgments a3_points a3_sums) [] 44 [.int k0] := by
    intro k0 h H locs ls hw hl
    exact hret () h.2 hw dX5_follows_44 h.1
  have hB_Roll_follows_39 : B_Roll_follows_39 x1 x2 t_size t_deeds t_elders t_firstJudgments a3_sums Q → Wat p l e rm_Roll_follows s m args below meth c A Qf g 5 (cs_Roll_follows g a_t a_t_deeds a_t_elders a_t_firstJudgments a_a3 a_a3_sums a_t_years a_t_pardoned a_a3_each t_size t_deeds t_elders t_firstJudgments a3_points a3_sums) [] 39 [] := by
    intro  h H locs ls hw hl
    refine lv_iconst (v := 1) hx hb dX5_follows_39 (by decide) ?_
    refine lv_goto (tgt := 44) hx hb dX5_follows_40 (by decide) ?_
    exact hB_Roll_follows_44 1 h _ _ _ hw (lv_sub hl [] rfl)
  refine lv_aload_n hx hb dX5_follows_0 rfl (lv_at hl 0 rfl) ?_
  refine lv_aload_n hx hb dX5_follows_1 rfl (lv_at hl 0 rfl) ?_
  refine lv_iload_n hx hb dX5_follows_2 rfl (lv_at hl 1 rfl) ?_
  refine callVi (As := [.int x1]) (rest := [.ref a_t]) (W2 := fun _ => (cs_Roll_follows g a_t a_t_deeds a_t_elders a_t_firstJudgments a_a3 a_a3_sums a_t_years a_t_pardoned a_a3_each t_size t_deeds t_elders t_firstJudgments a3_points a3_sums)) C hw hl (c_Roll_deedOf l g a_t a_t_deeds a_t_firstJudgments a_t_years a_t_pardoned a_t_elders t_size t_deeds x1 _ h) tw_785 kk_X5_deedOf rfl ⟨rfl, rfl⟩ ⟨by decide, by decide⟩ (Nat.le_of_ble_eq_true rfl) 0 rfl rfl rfl [0, 1] [2, 3, 4, 5] [4, 5, 0, 1, 2, 3] rfl rfl rfl rfl rfl rfl (fun u => rfl) rfl dX5_follows_3 (fun r_1 u H locs h hw => ?_)
  refine lv_iload_n hx hb dX5_follows_6 rfl (lv_at hl 2 rfl) ?_
  refine lv_aload_n hx hb dX5_follows_7 rfl (lv_at hl 0 rfl) ?_
  refine lv_iload_n hx hb dX5_follows_8 rfl (lv_at hl 1 rfl) ?_
  refine callVi (As := [.int x1]) (rest := [.int x2, .int r_1, .ref a_t]) (W2 := fun _ => (cs_Roll_follows g a_t a_t_deeds a_t_elders a_t_firstJudgments a_a3 a_a3_sums a_t_years a_t_pardoned a_a3_each t_size t_deeds t_elders t_firstJudgments a3_points a3_sums)) C hw hl (c_Roll_eldersOf l g a_t a_t_elders a_t_deeds a_t_firstJudgments a_t_years a_t_pardoned t_size t_elders x1 _ h) tw_786 kk_X5_eldersOf rfl ⟨rfl, rfl⟩ ⟨by decide, by decide⟩ (Nat.le_of_ble_eq_true rfl) 0 rfl rfl rfl [0, 2] [1, 3, 4, 5] [4, 0, 5, 1, 2, 3] rfl rfl rfl rfl rfl rfl (fun u => rfl) rfl dX5_follows_9 (fun r_2 u H locs h hw => ?_)
  refine lv_iand hx hb dX5_follows_12 ?_
  refine lv_aload_n hx hb dX5_follows_13 rfl (lv_at hl 3 rfl) ?_
  refine callVi (As := [.int r_1, .int (x2 &&& r_2), .ref a_a3]) (rest := []) (W2 := fun _ => (cs_Roll_follows g a_t a_t_deeds a_t_elders a_t_firstJudgments a_a3 a_a3_sums a_t_years a_t_pardoned a_a3_each t_size t_deeds t_elders t_firstJudgments a3_points a3_sums)) C hw hl (c_Roll_likest l g a_t a_t_deeds a_t_elders a_a3 a_a3_sums a_t_firstJudgments a_t_years a_t_pardoned a_a3_each t_size t_deeds t_elders a3_points a3_sums r_1 (x2 &&& r_2) _ h) tw_787 kk_X5_likest rfl ⟨rfl, rfl⟩ ⟨by decide, by decide⟩ (Nat.le_of_ble_eq_true rfl) 0 rfl rfl rfl [0, 1, 2, 4, 5] [3] [1, 2, 3, 0, 4, 5] rfl rfl rfl rfl rfl rfl (fun u => rfl) rfl dX5_follows_14 (fun r_3 u H locs h hw => ?_)
  refine lv_istore (lv' := [(4, .int r_3), (0, .ref a_t), (1, .int x1), (2, .int x2), (3, .ref a_a3)]) hx hb dX5_follows_17 hl (by decide) rfl (fun ls hl => ?_)
  refine lv_iload hx hb dX5_follows_19 (lv_at hl 0 rfl) ?_
  refine lv_iconst (v := (-1)) hx hb dX5_follows_21 (by decide) ?_
  refine lv_icmp_eq (tgt := 39) hx hb dX5_follows_22 (by decide) (fun c_22 => ?_) (fun c_22 => ?_)
  · have h := h.1 c_22
    exact hB_Roll_follows_39  h _ _ _ hw (lv_sub hl [] rfl)
  · have h := h.2 c_22
    refine lv_aload_n hx hb dX5_follows_25 rfl (lv_at hl 1 rfl) ?_
    refine lv_iload hx hb dX5_follows_26 (lv_at hl 0 rfl) ?_
    refine callVi (As := [.int r_3]) (rest := []) (W2 := fun _ => (cs_Roll_follows g a_t a_t_deeds a_t_elders a_t_firstJudgments a_a3 a_a3_sums a_t_years a_t_pardoned a_a3_each t_size t_deeds t_elders t_firstJudgments a3_points a3_sums)) C hw hl (c_Roll_firstJudgmentOf l g a_t a_t_firstJudgments a_t_deeds a_t_years a_t_pardoned a_t_elders t_size t_firstJudgments r_3 _ h) tw_788 kk_X5_firstJudgmentOf rfl ⟨rfl, rfl⟩ ⟨by decide, by decide⟩ (Nat.le_of_ble_eq_true rfl) 0 rfl rfl rfl [0, 3] [1, 2, 4, 5] [4, 0, 1, 5, 2, 3] rfl rfl rfl rfl rfl rfl (fun u => rfl) rfl dX5_follows_28 (fun r_4 u H locs h hw => ?_)
    refine lv_aload_n hx hb dX5_follows_31 rfl (lv_at hl 1 rfl) ?_
    refine lv_iload_n hx hb dX5_follows_32 rfl (lv_at hl 2 rfl) ?_
    refine callVi (As := [.int x1]) (rest := [.int r_4]) (W2 := fun _ => (cs_Roll_follows g a_t a_t_deeds a_t_elders a_t_firstJudgments a_a3 a_a3_sums a_t_years a_t_pardoned a_a3_each t_size t_deeds t_elders t_firstJudgments a3_points a3_sums)) C hw hl (c_Roll_firstJudgmentOf l g a_t a_t_firstJudgments a_t_deeds a_t_years a_t_pardoned a_t_elders t_size t_firstJudgments x1 _ h) tw_788 kk_X5_firstJudgmentOf rfl ⟨rfl, rfl⟩ ⟨by decide, by decide⟩ (Nat.le_of_ble_eq_true rfl) 0 rfl rfl rfl [0, 3] [1, 2, 4, 5] [4, 0, 1, 5, 2, 3] rfl rfl rfl rfl rfl rfl (fun u => rfl) rfl dX5_follows_33 (fun r_5 u H locs h hw => ?_)
    refine lv_icmp_ne (tgt := 43) hx hb dX5_follows_36 (by decide) (fun c_36 => ?_) (fun c_36 => ?_)
    · have h := h.1 c_36
      refine lv_iconst (v := 0) hx hb dX5_follows_43 (by decide) ?_
      exact hB_Roll_follows_44 0 h _ _ _ hw (lv_sub hl [] rfl)
    · have h := h.2 c_36
      exact hB_Roll_follows_39  h _ _ _ hw (lv_sub hl [] rfl)
def B_Roll_allFollow_30 (x1 : Int32) (t_size : Int32) (t_deeds : (Nat → Int32)) (t_elders : (Nat → Int32)) (t_firstJudgments : (Nat → Int32)) (a2_sums : (Nat → Int32)) (Q : Int32 → Prop) (N_2 : Int32 → Prop) (x3 : Int32) : Prop := N_2 (x3 + 1)
def L_Roll_allFollow_2 (x1 : Int32) (t_size : Int32) (t_deeds : (Nat → Int32)) (t_elders : (Nat → Int32)) (t_firstJudgments : (Nat → Int32)) (a2_sums : (Nat → Int32)) (Q : Int32 → Prop) : Nat → Int32 → Prop
  | 0 => fun _ => False
  | n + 1 => fun x3 => (t_size ≤ x3 → Q 1) ∧ (¬ t_size ≤ x3 → P_LC_holds x1 x3 (fun r_1 => (r_1 = 0 → B_Roll_allFollow_30 x1 t_size t_deeds t_elders t_firstJudgments a2_sums Q (L_Roll_allFollow_2 x1 t_size t_deeds t_elders t_firstJudgments a2_sums Q n) x3) ∧ (¬ r_1 = 0 → P_Roll_follows x3 x1 t_size t_deeds t_elders t_firstJudgments a2_sums (fun r_2 => (¬ r_2 = 0 → B_Roll_allFollow_30 x1 t_size t_deeds t_elders t_firstJudgments a2_sums Q (L_Roll_allFollow_2 x1 t_size t_deeds t_elders t_firstJudgments a2_sums Q n) x3) ∧ (r_2 = 0 → Q 0)))))
def P_Roll_allFollow (x1 : Int32) (t_size : Int32) (t_deeds : (Nat → Int32)) (t_elders : (Nat → Int32)) (t_firstJudgments : (Nat → Int32)) (a2_sums : (Nat → Int32)) (Q : Int32 → Prop) : Prop := ∃ n_2 : Nat, L_Roll_allFollow_2 x1 t_size t_deeds t_elders t_firstJudgments a2_sums Q n_2 0
abbrev rm_Roll_allFollow : Room := { frames := 3, cells := 0, slots := 0, locals := 72 }
def cs_Roll_allFollow (g : GE) (a_t a_t_deeds a_t_elders a_t_firstJudgments a_a2 a_a2_sums a_t_years a_t_pardoned a_a2_each : Nat) (t_size : Int32) (t_deeds : (Nat → Int32)) (t_elders : (Nat → Int32)) (t_firstJudgments : (Nat → Int32)) (a2_points : Int32) (a2_sums : (Nat → Int32)) : va_W := [oc a_t 5 [.ref a_t_deeds, .ref a_t_firstJudgments, .ref a_t_years, .ref a_t_pardoned, .ref a_t_elders, .int t_size], ai g a_t_deeds 12 t_deeds, ai g a_t_elders 12 t_elders, ai g a_t_firstJudgments 12 t_firstJudgments, oc a_a2 6 [.ref a_a2_each, .ref a_a2_sums, .int a2_points], ai g a_a2_sums 1024 a2_sums]
set_option maxHeartbeats 4000000 in
set_option maxRecDepth 100000 in
theorem c_Roll_allFollow (l : Launch) (g : GE) (a_t a_t_deeds a_t_elders a_t_firstJudgments a_a2 a_a2_sums a_t_years a_t_pardoned a_a2_each : Nat) (t_size : Int32) (t_deeds : (Nat → Int32)) (t_elders : (Nat → Int32)) (t_firstJudgments : (Nat → Int32)) (a2_points : Int32) (a2_sums : (Nat → Int32)) (x1 : Int32) (Q : Int32 → Prop) (h : P_Roll_allFollow x1 t_size t_deeds t_elders t_firstJudgments a2_sums Q) : Cti l g yX5_allFollow cX5_allFollow 4 (some .boolean) rm_Roll_allFollow [.ref a_t, .int x1, .ref a_a2] (cs_Roll_allFollow g a_t a_t_deeds a_t_elders a_t_firstJudgments a_a2 a_a2_sums a_t_years a_t_pardoned a_a2_each t_size t_deeds t_elders t_firstJudgments a2_points a2_sums) (S := Unit) (fun r u => Q r) (fun _ => (cs_Roll_allFollow g a_t a_t_deeds a_t_elders a_t_firstJudgments a_a2 a_a2_sums a_t_years a_t_pardoned a_a2_each t_size t_deeds t_elders t_firstJudgments a2_points a2_sums)) := by
  refine meetI rfl (Nat.le_of_ble_eq_true rfl) ⟨rfl, rfl⟩ ?_
  intro p e s m args below meth c A Qf ls C hret hw hl
  have hx := C.1
  have hb := C.2.1
  have hown := C.2.2.2.1
  have hts := C.2.2.2.2.1
  have hE := C.2.2.2.2.2.1
  have hl : lv_has ls 4 [(0, .ref a_t), (1, .int x1), (2, .ref a_a2)] := hl
  have hB_Roll_allFollow_30 : ∀ (N_2 : Int32 → Prop) (hN_2 : ∀ (x3 : Int32), N_2 x3 → Wat p l e rm_Roll_allFollow s m args below meth c A Qf g 4 (cs_Roll_allFollow g a_t a_t_deeds a_t_elders a_t_firstJudgments a_a2 a_a2_sums a_t_years a_t_pardoned a_a2_each t_size t_deeds t_elders t_firstJudgments a2_points a2_sums) [(0, .ref a_t), (1, .int x1), (2, .ref a_a2), (3, .int x3)] 2 []) (x3 : Int32), B_Roll_allFollow_30 x1 t_size t_deeds t_elders t_firstJudgments a2_sums Q N_2 x3 → Wat p l e rm_Roll_allFollow s m args below meth c A Qf g 4 (cs_Roll_allFollow g a_t a_t_deeds a_t_elders a_t_firstJudgments a_a2 a_a2_sums a_t_years a_t_pardoned a_a2_each t_size t_deeds t_elders t_firstJudgments a2_points a2_sums) [(0, .ref a_t), (1, .int x1), (2, .ref a_a2), (3, .int x3)] 30 [] := by
    intro N_2 hN_2 x3 h H locs ls hw hl
    refine lv_iinc (v := x3 + 1) (lv' := [(3, .int (x3 + 1)), (0, .ref a_t), (1, .int x1), (2, .ref a_a2)]) hx hb dX5_allFollow_30 hl (k := 3) rfl rfl (by decide) rfl (fun ls hl => ?_)
    refine lv_goto (tgt := 2) hx hb dX5_allFollow_33 (by decide) ?_
    exact hN_2 (x3 + 1) h _ _ _ hw (lv_sub hl [1, 2, 3, 0] rfl)
  have hL_Roll_allFollow_2 : ∀ (n : Nat) (x3 : Int32), L_Roll_allFollow_2 x1 t_size t_deeds t_elders t_firstJudgments a2_sums Q n x3 → Wat p l e rm_Roll_allFollow s m args below meth c A Qf g 4 (cs_Roll_allFollow g a_t a_t_deeds a_t_elders a_t_firstJudgments a_a2 a_a2_sums a_t_years a_t_pardoned a_a2_each t_size t_deeds t_elders t_firstJudgments a2_points a2_sums) [(0, .ref a_t), (1, .int x1), (2, .ref a_a2), (3, .int x3)] 2 [] := by
    intro n
    induction n with
    | zero => intro x3 h; exact absurd h id
    | succ n ih =>
      intro x3 h H locs ls hw hl
      rw [L_Roll_allFollow_2] at h
      refine lv_iload_n hx hb dX5_allFollow_2 rfl (lv_at hl 3 rfl) ?_
      refine lv_aload_n hx hb dX5_allFollow_3 rfl (lv_at hl 0 rfl) ?_
      refine G_RX5_28 C hw 0 rfl dX5_allFollow_4 ?_
      refine lv_icmp_ge (tgt := 36) hx hb dX5_allFollow_7 (by decide) (fun c_7 => ?_) (fun c_7 => ?_)
      · have h := h.1 c_7
        refine lv_iconst (v := 1) hx hb dX5_allFollow_36 (by decide) ?_
        exact hret () h hw dX5_allFollow_37 rfl
      · have h := h.2 c_7
        refine lv_iload_n hx hb dX5_allFollow_10 rfl (lv_at hl 1 rfl) ?_
        refine lv_iload_n hx hb dX5_allFollow_11 rfl (lv_at hl 3 rfl) ?_
        refine callNi (As := [.int x1, .int x3]) (rest := []) C hw hl (c_LC_holds l g x1 x3 _ h) (nest_in hE tn_554 rfl) kk_X9_holds rfl ⟨rfl, rfl⟩ ⟨by decide, by decide⟩ (Nat.le_of_ble_eq_true rfl) rfl dX5_allFollow_12 (fun r_1 u H locs h hw => ?_)
        refine lv_if_eq (tgt := 30) hx hb dX5_allFollow_15 (by decide) (fun c_15 => ?_) (fun c_15 => ?_)
        · have h := h.1 c_15
          exact hB_Roll_allFollow_30 (L_Roll_allFollow_2 x1 t_size t_deeds t_elders t_firstJudgments a2_sums Q n) ih x3 h _ _ _ hw (lv_sub hl [0, 1, 2, 3] rfl)
        · have h := h.2 c_15
          refine lv_aload_n hx hb dX5_allFollow_18 rfl (lv_at hl 0 rfl) ?_
          refine lv_iload_n hx hb dX5_allFollow_19 rfl (lv_at hl 3 rfl) ?_
          refine lv_iload_n hx hb dX5_allFollow_20 rfl (lv_at hl 1 rfl) ?_
          refine lv_aload_n hx hb dX5_allFollow_21 rfl (lv_at hl 2 rfl) ?_
          refine callVi (As := [.int x3, .int x1, .ref a_a2]) (rest := []) (W2 := fun _ => (cs_Roll_allFollow g a_t a_t_deeds a_t_elders a_t_firstJudgments a_a2 a_a2_sums a_t_years a_t_pardoned a_a2_each t_size t_deeds t_elders t_firstJudgments a2_points a2_sums)) C hw hl (c_Roll_follows l g a_t a_t_deeds a_t_elders a_t_firstJudgments a_a2 a_a2_sums a_t_years a_t_pardoned a_a2_each t_size t_deeds t_elders t_firstJudgments a2_points a2_sums x3 x1 _ h) tw_805 kk_X5_follows rfl ⟨rfl, rfl⟩ ⟨by decide, by decide⟩ (Nat.le_of_ble_eq_true rfl) 0 rfl rfl rfl [0, 1, 2, 3, 4, 5] [] [0, 1, 2, 3, 4, 5] rfl rfl rfl rfl rfl rfl (fun u => rfl) rfl dX5_allFollow_22 (fun r_2 u H locs h hw => ?_)
          refine lv_if_ne (tgt := 30) hx hb dX5_allFollow_25 (by decide) (fun c_25 => ?_) (fun c_25 => ?_)
          · have h := h.1 c_25
            exact hB_Roll_allFollow_30 (L_Roll_allFollow_2 x1 t_size t_deeds t_elders t_firstJudgments a2_sums Q n) ih x3 h _ _ _ hw (lv_sub hl [0, 1, 2, 3] rfl)
          · have h := h.2 c_25
            refine lv_iconst (v := 0) hx hb dX5_allFollow_28 (by decide) ?_
            exact hret () h hw dX5_allFollow_29 rfl
  refine lv_iconst (v := 0) hx hb dX5_allFollow_0 (by decide) ?_
  refine lv_istore_n (lv' := [(3, .int 0), (0, .ref a_t), (1, .int x1), (2, .ref a_a2)]) hx hb dX5_allFollow_1 rfl hl (by decide) rfl (fun ls hl => ?_)
  obtain ⟨n_2, h⟩ := h
  exact hL_Roll_allFollow_2 n_2 0 h _ _ _ hw (lv_sub hl [1, 2, 3, 0] rfl)
def B_Roll_copyCase_20 (x2 : Int32) (x3 : Int32) (a1_deeds : (Nat → Int32)) (a1_firstJudgments : (Nat → Int32)) (a1_pardoned : (Nat → Int32)) (a1_years : (Nat → Int32)) (Q : (Nat → Int32) → (Nat → Int32) → (Nat → Int32) → (Nat → Int32) → Prop) (t_deeds : (Nat → Int32)) (t_firstJudgments : (Nat → Int32)) (t_pardoned : (Nat → Int32)) (t_years : (Nat → Int32)) : Prop := Q t_deeds t_firstJudgments t_pardoned t_years
def P_Roll_copyCase (x2 : Int32) (x3 : Int32) (t_deeds : (Nat → Int32)) (t_firstJudgments : (Nat → Int32)) (t_pardoned : (Nat → Int32)) (t_years : (Nat → Int32)) (a1_deeds : (Nat → Int32)) (a1_firstJudgments : (Nat → Int32)) (a1_pardoned : (Nat → Int32)) (a1_years : (Nat → Int32)) (Q : (Nat → Int32) → (Nat → Int32) → (Nat → Int32) → (Nat → Int32) → Prop) : Prop := (x2 < 0 → B_Roll_copyCase_20 x2 x3 a1_deeds a1_firstJudgments a1_pardoned a1_years Q t_deeds t_firstJudgments t_pardoned t_years) ∧ (¬ x2 < 0 → (12 ≤ x2 → B_Roll_copyCase_20 x2 x3 a1_deeds a1_firstJudgments a1_pardoned a1_years Q t_deeds t_firstJudgments t_pardoned t_years) ∧ (¬ 12 ≤ x2 → (x3 < 0 → B_Roll_copyCase_20 x2 x3 a1_deeds a1_firstJudgments a1_pardoned a1_years Q t_deeds t_firstJudgments t_pardoned t_years) ∧ (¬ x3 < 0 → (x3 < 12 → vp_in x2 12 ∧ (vp_in x3 12 ∧ (vp_in x2 12 ∧ (vp_in x3 12 ∧ (vp_in x2 12 ∧ (vp_in x3 12 ∧ (vp_in x2 12 ∧ (vp_in x3 12 ∧ (Q (upd t_deeds x3.toNatClampNeg (a1_deeds x2.toNatClampNeg)) (upd t_firstJudgments x3.toNatClampNeg (a1_firstJudgments x2.toNatClampNeg)) (upd t_pardoned x3.toNatClampNeg (vp_nar .boolean (a1_pardoned x2.toNatClampNeg))) (upd t_years x3.toNatClampNeg (a1_years x2.toNatClampNeg))))))))))) ∧ (¬ x3 < 12 → B_Roll_copyCase_20 x2 x3 a1_deeds a1_firstJudgments a1_pardoned a1_years Q t_deeds t_firstJudgments t_pardoned t_years))))
abbrev rm_Roll_copyCase : Room := { frames := 0, cells := 0, slots := 0, locals := 0 }
def cs_Roll_copyCase (g : GE) (a_t a_t_deeds a_t_firstJudgments a_t_pardoned a_t_years a_a1 a_a1_deeds a_a1_firstJudgments a_a1_pardoned a_a1_years a_t_elders a_a1_elders : Nat) (t_size : Int32) (t_deeds : (Nat → Int32)) (t_firstJudgments : (Nat → Int32)) (t_pardoned : (Nat → Int32)) (t_years : (Nat → Int32)) (a1_size : Int32) (a1_deeds : (Nat → Int32)) (a1_firstJudgments : (Nat → Int32)) (a1_pardoned : (Nat → Int32)) (a1_years : (Nat → Int32)) : va_W := [oc a_t 5 [.ref a_t_deeds, .ref a_t_firstJudgments, .ref a_t_years, .ref a_t_pardoned, .ref a_t_elders, .int t_size], ai g a_t_deeds 12 t_deeds, ai g a_t_firstJudgments 12 t_firstJudgments, az g a_t_pardoned 12 t_pardoned, ai g a_t_years 12 t_years, oc a_a1 5 [.ref a_a1_deeds, .ref a_a1_firstJudgments, .ref a_a1_years, .ref a_a1_pardoned, .ref a_a1_elders, .int a1_size], ai g a_a1_deeds 12 a1_deeds, ai g a_a1_firstJudgments 12 a1_firstJudgments, az g a_a1_pardoned 12 a1_pardoned, ai g a_a1_years 12 a1_years]
set_option maxHeartbeats 4000000 in
set_option maxRecDepth 100000 in
theorem c_Roll_copyCase (l : Launch) (g : GE) (a_t a_t_deeds a_t_firstJudgments a_t_pardoned a_t_years a_a1 a_a1_deeds a_a1_firstJudgments a_a1_pardoned a_a1_years a_t_elders a_a1_elders : Nat) (t_size : Int32) (t_deeds : (Nat → Int32)) (t_firstJudgments : (Nat → Int32)) (t_pardoned : (Nat → Int32)) (t_years : (Nat → Int32)) (a1_size : Int32) (a1_deeds : (Nat → Int32)) (a1_firstJudgments : (Nat → Int32)) (a1_pardoned : (Nat → Int32)) (a1_years : (Nat → Int32)) (x2 : Int32) (x3 : Int32) (Q : (Nat → Int32) → (Nat → Int32) → (Nat → Int32) → (Nat → Int32) → Prop) (h : P_Roll_copyCase x2 x3 t_deeds t_firstJudgments t_pardoned t_years a1_deeds a1_firstJudgments a1_pardoned a1_years Q) : Ctv l g yX5_copyCase cX5_copyCase 4 none rm_Roll_copyCase [.ref a_t, .ref a_a1, .int x2, .int x3] (cs_Roll_copyCase g a_t a_t_deeds a_t_firstJudgments a_t_pardoned a_t_years a_a1 a_a1_deeds a_a1_firstJudgments a_a1_pardoned a_a1_years a_t_elders a_a1_elders t_size t_deeds t_firstJudgments t_pardoned t_years a1_size a1_deeds a1_firstJudgments a1_pardoned a1_years) (S := (Nat → Int32) × (Nat → Int32) × (Nat → Int32) × (Nat → Int32)) (fun u => Q u.1 u.2.1 u.2.2.1 u.2.2.2) (fun u => (cs_Roll_copyCase g a_t a_t_deeds a_t_firstJudgments a_t_pardoned a_t_years a_a1 a_a1_deeds a_a1_firstJudgments a_a1_pardoned a_a1_years a_t_elders a_a1_elders t_size (u.1) (u.2.1) (u.2.2.1) (u.2.2.2) a1_size a1_deeds a1_firstJudgments a1_pardoned a1_years)) := by
  refine meetV rfl (Nat.le_of_ble_eq_true rfl) ⟨rfl, rfl⟩ ?_
  intro p e s m args below meth c A Qf ls C hret hw hl
  have hx := C.1
  have hb := C.2.1
  have hown := C.2.2.2.1
  have hts := C.2.2.2.2.1
  have hE := C.2.2.2.2.2.1
  have hl : lv_has ls 4 [(0, .ref a_t), (1, .ref a_a1), (2, .int x2), (3, .int x3)] := hl
  have hB_Roll_copyCase_20 : ∀ (t_deeds : (Nat → Int32)) (t_firstJudgments : (Nat → Int32)) (t_pardoned : (Nat → Int32)) (t_years : (Nat → Int32)), B_Roll_copyCase_20 x2 x3 a1_deeds a1_firstJudgments a1_pardoned a1_years Q t_deeds t_firstJudgments t_pardoned t_years → Wat p l e rm_Roll_copyCase s m args below meth c A Qf g 4 (cs_Roll_copyCase g a_t a_t_deeds a_t_firstJudgments a_t_pardoned a_t_years a_a1 a_a1_deeds a_a1_firstJudgments a_a1_pardoned a_a1_years a_t_elders a_a1_elders t_size t_deeds t_firstJudgments t_pardoned t_years a1_size a1_deeds a1_firstJudgments a1_pardoned a1_years) [] 20 [] := by
    intro t_deeds t_firstJudgments t_pardoned t_years h H locs ls hw hl
    exact hret (t_deeds, t_firstJudgments, t_pardoned, t_years) h hw dX5_copyCase_20
  refine lv_iload_n hx hb dX5_copyCase_0 rfl (lv_at hl 2 rfl) ?_
  refine lv_if_lt (tgt := 20) hx hb dX5_copyCase_1 (by decide) (fun c_1 => ?_) (fun c_1 => ?_)
  · have h := h.1 c_1
    exact hB_Roll_copyCase_20 t_deeds t_firstJudgments t_pardoned t_years h _ _ _ hw (lv_sub hl [] rfl)
  · have h := h.2 c_1
    refine lv_iload_n hx hb dX5_copyCase_4 rfl (lv_at hl 2 rfl) ?_
    refine lv_bipush (v := 12) hx hb dX5_copyCase_5 (by decide) ?_
    refine lv_icmp_ge (tgt := 20) hx hb dX5_copyCase_7 (by decide) (fun c_7 => ?_) (fun c_7 => ?_)
    · have h := h.1 c_7
      exact hB_Roll_copyCase_20 t_deeds t_firstJudgments t_pardoned t_years h _ _ _ hw (lv_sub hl [] rfl)
    · have h := h.2 c_7
      refine lv_iload_n hx hb dX5_copyCase_10 rfl (lv_at hl 3 rfl) ?_
      refine lv_if_lt (tgt := 20) hx hb dX5_copyCase_11 (by decide) (fun c_11 => ?_) (fun c_11 => ?_)
      · have h := h.1 c_11
        exact hB_Roll_copyCase_20 t_deeds t_firstJudgments t_pardoned t_years h _ _ _ hw (lv_sub hl [] rfl)
      · have h := h.2 c_11
        refine lv_iload_n hx hb dX5_copyCase_14 rfl (lv_at hl 3 rfl) ?_
        refine lv_bipush (v := 12) hx hb dX5_copyCase_15 (by decide) ?_
        refine lv_icmp_lt (tgt := 21) hx hb dX5_copyCase_17 (by decide) (fun c_17 => ?_) (fun c_17 => ?_)
        · have h := h.1 c_17
          refine lv_aload_n hx hb dX5_copyCase_21 rfl (lv_at hl 0 rfl) ?_
          refine G_RX5_9 C hw 0 rfl dX5_copyCase_22 ?_
          refine lv_iload_n hx hb dX5_copyCase_25 rfl (lv_at hl 3 rfl) ?_
          refine lv_aload_n hx hb dX5_copyCase_26 rfl (lv_at hl 1 rfl) ?_
          refine G_RX5_9 C hw 5 rfl dX5_copyCase_27 ?_
          refine lv_iload_n hx hb dX5_copyCase_30 rfl (lv_at hl 2 rfl) ?_
          refine aldI C hw 6 rfl h.1 dX5_copyCase_31 ?_
          have h := h.2
          refine astI (ws2 := (cs_Roll_copyCase g a_t a_t_deeds a_t_firstJudgments a_t_pardoned a_t_years a_a1 a_a1_deeds a_a1_firstJudgments a_a1_pardoned a_a1_years a_t_elders a_a1_elders t_size (upd t_deeds x3.toNatClampNeg (a1_deeds x2.toNatClampNeg)) t_firstJudgments t_pardoned t_years a1_size a1_deeds a1_firstJudgments a1_pardoned a1_years)) C hw 1 rfl h.1 rfl dX5_copyCase_32 (fun H locs hw => ?_)
          have h := h.2
          refine lv_aload_n hx hb dX5_copyCase_33 rfl (lv_at hl 0 rfl) ?_
          refine G_RX5_15 C hw 0 rfl dX5_copyCase_34 ?_
          refine lv_iload_n hx hb dX5_copyCase_37 rfl (lv_at hl 3 rfl) ?_
          refine lv_aload_n hx hb dX5_copyCase_38 rfl (lv_at hl 1 rfl) ?_
          refine G_RX5_15 C hw 5 rfl dX5_copyCase_39 ?_
          refine lv_iload_n hx hb dX5_copyCase_42 rfl (lv_at hl 2 rfl) ?_
          refine aldI C hw 7 rfl h.1 dX5_copyCase_43 ?_
          have h := h.2
          refine astI (ws2 := (cs_Roll_copyCase g a_t a_t_deeds a_t_firstJudgments a_t_pardoned a_t_years a_a1 a_a1_deeds a_a1_firstJudgments a_a1_pardoned a_a1_years a_t_elders a_a1_elders t_size (upd t_deeds x3.toNatClampNeg (a1_deeds x2.toNatClampNeg)) (upd t_firstJudgments x3.toNatClampNeg (a1_firstJudgments x2.toNatClampNeg)) t_pardoned t_years a1_size a1_deeds a1_firstJudgments a1_pardoned a1_years)) C hw 2 rfl h.1 rfl dX5_copyCase_44 (fun H locs hw => ?_)
          have h := h.2
          refine lv_aload_n hx hb dX5_copyCase_45 rfl (lv_at hl 0 rfl) ?_
          refine G_RX5_18 C hw 0 rfl dX5_copyCase_46 ?_
          refine lv_iload_n hx hb dX5_copyCase_49 rfl (lv_at hl 3 rfl) ?_
          refine lv_aload_n hx hb dX5_copyCase_50 rfl (lv_at hl 1 rfl) ?_
          refine G_RX5_18 C hw 5 rfl dX5_copyCase_51 ?_
          refine lv_iload_n hx hb dX5_copyCase_54 rfl (lv_at hl 2 rfl) ?_
          refine aldI C hw 9 rfl h.1 dX5_copyCase_55 ?_
          have h := h.2
          refine astI (ws2 := (cs_Roll_copyCase g a_t a_t_deeds a_t_firstJudgments a_t_pardoned a_t_years a_a1 a_a1_deeds a_a1_firstJudgments a_a1_pardoned a_a1_years a_t_elders a_a1_elders t_size (upd t_deeds x3.toNatClampNeg (a1_deeds x2.toNatClampNeg)) (upd t_firstJudgments x3.toNatClampNeg (a1_firstJudgments x2.toNatClampNeg)) t_pardoned (upd t_years x3.toNatClampNeg (a1_years x2.toNatClampNeg)) a1_size a1_deeds a1_firstJudgments a1_pardoned a1_years)) C hw 4 rfl h.1 rfl dX5_copyCase_56 (fun H locs hw => ?_)
          have h := h.2
          refine lv_aload_n hx hb dX5_copyCase_57 rfl (lv_at hl 0 rfl) ?_
          refine G_RX5_21 C hw 0 rfl dX5_copyCase_58 ?_
          refine lv_iload_n hx hb dX5_copyCase_61 rfl (lv_at hl 3 rfl) ?_
          refine lv_aload_n hx hb dX5_copyCase_62 rfl (lv_at hl 1 rfl) ?_
          refine G_RX5_21 C hw 5 rfl dX5_copyCase_63 ?_
          refine lv_iload_n hx hb dX5_copyCase_66 rfl (lv_at hl 2 rfl) ?_
          refine aldZ C hw 8 rfl h.1 dX5_copyCase_67 ?_
          have h := h.2
          refine astZ (ws2 := (cs_Roll_copyCase g a_t a_t_deeds a_t_firstJudgments a_t_pardoned a_t_years a_a1 a_a1_deeds a_a1_firstJudgments a_a1_pardoned a_a1_years a_t_elders a_a1_elders t_size (upd t_deeds x3.toNatClampNeg (a1_deeds x2.toNatClampNeg)) (upd t_firstJudgments x3.toNatClampNeg (a1_firstJudgments x2.toNatClampNeg)) (upd t_pardoned x3.toNatClampNeg (vp_nar .boolean (a1_pardoned x2.toNatClampNeg))) (upd t_years x3.toNatClampNeg (a1_years x2.toNatClampNeg)) a1_size a1_deeds a1_firstJudgments a1_pardoned a1_years)) C hw 3 rfl h.1 rfl dX5_copyCase_68 (fun H locs hw => ?_)
          have h := h.2
          exact hret (upd t_deeds x3.toNatClampNeg (a1_deeds x2.toNatClampNeg), upd t_firstJudgments x3.toNatClampNeg (a1_firstJudgments x2.toNatClampNeg), upd t_pardoned x3.toNatClampNeg (vp_nar .boolean (a1_pardoned x2.toNatClampNeg)), upd t_years x3.toNatClampNeg (a1_years x2.toNatClampNeg)) h hw dX5_copyCase_69
        · have h := h.2 c_17
          exact hB_Roll_copyCase_20 t_deeds t_firstJudgments t_pardoned t_years h _ _ _ hw (lv_sub hl [] rfl)
def L_Roll_copyFrom_15 (a1_size : Int32) (a1_deeds : (Nat → Int32)) (a1_firstJudgments : (Nat → Int32)) (a1_pardoned : (Nat → Int32)) (a1_years : (Nat → Int32)) (Q : Int32 → (Nat → Int32) → (Nat → Int32) → (Nat → Int32) → (Nat → Int32) → (Nat → Int32) → Prop) : Nat → Int32 → Int32 → (Nat → Int32) → (Nat → Int32) → (Nat → Int32) → (Nat → Int32) → (Nat → Int32) → Prop
  | 0 => fun _ _ _ _ _ _ _ => False
  | n + 1 => fun x2 t_size t_deeds t_elders t_firstJudgments t_pardoned t_years => (t_size ≤ x2 → P_Roll_findElders t_size t_elders t_years (fun t_elders_1 => Q t_size t_deeds t_elders_1 t_firstJudgments t_pardoned t_years)) ∧ (¬ t_size ≤ x2 → P_Roll_copyCase x2 x2 t_deeds t_firstJudgments t_pardoned t_years a1_deeds a1_firstJudgments a1_pardoned a1_years (fun t_deeds_2 t_firstJudgments_3 t_pardoned_4 t_years_5 => (L_Roll_copyFrom_15 a1_size a1_deeds a1_firstJudgments a1_pardoned a1_years Q n) (x2 + 1) t_size t_deeds_2 t_elders t_firstJudgments_3 t_pardoned_4 t_years_5))
def P_Roll_copyFrom (t_size : Int32) (t_deeds : (Nat → Int32)) (t_elders : (Nat → Int32)) (t_firstJudgments : (Nat → Int32)) (t_pardoned : (Nat → Int32)) (t_years : (Nat → Int32)) (a1_size : Int32) (a1_deeds : (Nat → Int32)) (a1_firstJudgments : (Nat → Int32)) (a1_pardoned : (Nat → Int32)) (a1_years : (Nat → Int32)) (Q : Int32 → (Nat → Int32) → (Nat → Int32) → (Nat → Int32) → (Nat → Int32) → (Nat → Int32) → Prop) : Prop := ∀ t_size_6 : Int32, t_size_6 = (if 12 < a1_size then 12 else a1_size) → ∃ n_15 : Nat, L_Roll_copyFrom_15 a1_size a1_deeds a1_firstJudgments a1_pardoned a1_years Q n_15 0 t_size_6 t_deeds t_elders t_firstJudgments t_pardoned t_years
abbrev rm_Roll_copyFrom : Room := { frames := 1, cells := 0, slots := 0, locals := 23 }
def cs_Roll_copyFrom (g : GE) (a_t a_t_deeds a_t_elders a_t_firstJudgments a_t_pardoned a_t_years a_a1 a_a1_deeds a_a1_firstJudgments a_a1_pardoned a_a1_years a_a1_elders : Nat) (t_size : Int32) (t_deeds : (Nat → Int32)) (t_elders : (Nat → Int32)) (t_firstJudgments : (Nat → Int32)) (t_pardoned : (Nat → Int32)) (t_years : (Nat → Int32)) (a1_size : Int32) (a1_deeds : (Nat → Int32)) (a1_firstJudgments : (Nat → Int32)) (a1_pardoned : (Nat → Int32)) (a1_years : (Nat → Int32)) : va_W := [oc a_t 5 [.ref a_t_deeds, .ref a_t_firstJudgments, .ref a_t_years, .ref a_t_pardoned, .ref a_t_elders, .int t_size], ai g a_t_deeds 12 t_deeds, ai g a_t_elders 12 t_elders, ai g a_t_firstJudgments 12 t_firstJudgments, az g a_t_pardoned 12 t_pardoned, ai g a_t_years 12 t_years, oc a_a1 5 [.ref a_a1_deeds, .ref a_a1_firstJudgments, .ref a_a1_years, .ref a_a1_pardoned, .ref a_a1_elders, .int a1_size], ai g a_a1_deeds 12 a1_deeds, ai g a_a1_firstJudgments 12 a1_firstJudgments, az g a_a1_pardoned 12 a1_pardoned, ai g a_a1_years 12 a1_years]
set_option maxHeartbeats 4000000 in
set_option maxRecDepth 100000 in
theorem c_Roll_copyFrom (l : Launch) (g : GE) (a_t a_t_deeds a_t_elders a_t_firstJudgments a_t_pardoned a_t_years a_a1 a_a1_deeds a_a1_firstJudgments a_a1_pardoned a_a1_years a_a1_elders : Nat) (t_size : Int32) (t_deeds : (Nat → Int32)) (t_elders : (Nat → Int32)) (t_firstJudgments : (Nat → Int32)) (t_pardoned : (Nat → Int32)) (t_years : (Nat → Int32)) (a1_size : Int32) (a1_deeds : (Nat → Int32)) (a1_firstJudgments : (Nat → Int32)) (a1_pardoned : (Nat → Int32)) (a1_years : (Nat → Int32)) (Q : Int32 → (Nat → Int32) → (Nat → Int32) → (Nat → Int32) → (Nat → Int32) → (Nat → Int32) → Prop) (h : P_Roll_copyFrom t_size t_deeds t_elders t_firstJudgments t_pardoned t_years a1_size a1_deeds a1_firstJudgments a1_pardoned a1_years Q) : Ctv l g yX5_copyFrom cX5_copyFrom 3 none rm_Roll_copyFrom [.ref a_t, .ref a_a1] (cs_Roll_copyFrom g a_t a_t_deeds a_t_elders a_t_firstJudgments a_t_pardoned a_t_years a_a1 a_a1_deeds a_a1_firstJudgments a_a1_pardoned a_a1_years a_a1_elders t_size t_deeds t_elders t_firstJudgments t_pardoned t_years a1_size a1_deeds a1_firstJudgments a1_pardoned a1_years) (S := Int32 × (Nat → Int32) × (Nat → Int32) × (Nat → Int32) × (Nat → Int32) × (Nat → Int32)) (fun u => Q u.1 u.2.1 u.2.2.1 u.2.2.2.1 u.2.2.2.2.1 u.2.2.2.2.2) (fun u => (cs_Roll_copyFrom g a_t a_t_deeds a_t_elders a_t_firstJudgments a_t_pardoned a_t_years a_a1 a_a1_deeds a_a1_firstJudgments a_a1_pardoned a_a1_years a_a1_elders (u.1) (u.2.1) (u.2.2.1) (u.2.2.2.1) (u.2.2.2.2.1) (u.2.2.2.2.2) a1_size a1_deeds a1_firstJudgments a1_pardoned a1_years)) := by
  refine meetV rfl (Nat.le_of_ble_eq_true rfl) ⟨rfl, rfl⟩ ?_
  intro p e s m args below meth c A Qf ls C hret hw hl
  have hx := C.1
  have hb := C.2.1
  have hown := C.2.2.2.1
  have hts := C.2.2.2.2.1
  have hE := C.2.2.2.2.2.1
  have hl : lv_has ls 3 [(0, .ref a_t), (1, .ref a_a1)] := hl
  have hL_Roll_copyFrom_15 : ∀ (n : Nat) (x2 : Int32) (t_size : Int32) (t_deeds : (Nat → Int32)) (t_elders : (Nat → Int32)) (t_firstJudgments : (Nat → Int32)) (t_pardoned : (Nat → Int32)) (t_years : (Nat → Int32)), L_Roll_copyFrom_15 a1_size a1_deeds a1_firstJudgments a1_pardoned a1_years Q n x2 t_size t_deeds t_elders t_firstJudgments t_pardoned t_years → Wat p l e rm_Roll_copyFrom s m args below meth c A Qf g 3 (cs_Roll_copyFrom g a_t a_t_deeds a_t_elders a_t_firstJudgments a_t_pardoned a_t_years a_a1 a_a1_deeds a_a1_firstJudgments a_a1_pardoned a_a1_years a_a1_elders t_size t_deeds t_elders t_firstJudgments t_pardoned t_years a1_size a1_deeds a1_firstJudgments a1_pardoned a1_years) [(0, .ref a_t), (1, .ref a_a1), (2, .int x2)] 15 [] := by
    intro n
    induction n with
    | zero => intro x2 t_size t_deeds t_elders t_firstJudgments t_pardoned t_years h; exact absurd h id
    | succ n ih =>
      intro x2 t_size t_deeds t_elders t_firstJudgments t_pardoned t_years h H locs ls hw hl
      rw [L_Roll_copyFrom_15] at h
      refine lv_iload_n hx hb dX5_copyFrom_15 rfl (lv_at hl 2 rfl) ?_
      refine lv_aload_n hx hb dX5_copyFrom_16 rfl (lv_at hl 0 rfl) ?_
      refine G_RX5_28 C hw 0 rfl dX5_copyFrom_17 ?_
      refine lv_icmp_ge (tgt := 36) hx hb dX5_copyFrom_20 (by decide) (fun c_20 => ?_) (fun c_20 => ?_)
      · have h := h.1 c_20
        refine lv_aload_n hx hb dX5_copyFrom_36 rfl (lv_at hl 0 rfl) ?_
        refine callVv (As := []) (rest := []) (W2 := fun u => (cs_Roll_copyFrom g a_t a_t_deeds a_t_elders a_t_firstJudgments a_t_pardoned a_t_years a_a1 a_a1_deeds a_a1_firstJudgments a_a1_pardoned a_a1_years a_a1_elders t_size t_deeds u t_firstJudgments t_pardoned t_years a1_size a1_deeds a1_firstJudgments a1_pardoned a1_years)) C hw hl (c_Roll_findElders l g a_t a_t_elders a_t_years a_t_deeds a_t_firstJudgments a_t_pardoned t_size t_elders t_years _ h) tw_512 kk_X5_findElders rfl ⟨rfl, rfl⟩ ⟨by decide, by decide⟩ (Nat.le_of_ble_eq_true rfl) 0 rfl rfl rfl [0, 2, 5] [1, 3, 4, 6, 7, 8, 9, 10] [8, 0, 9, 1, 2, 10, 3, 4, 5, 6, 7] rfl rfl rfl rfl rfl rfl (fun u => rfl) rfl dX5_copyFrom_37 (fun u H locs h hw => ?_)
        obtain ⟨t_elders_1, rfl⟩ : ∃ z, z = u := ⟨_, rfl⟩
        have hw : Wd g A s (cs_Roll_copyFrom g a_t a_t_deeds a_t_elders a_t_firstJudgments a_t_pardoned a_t_years a_a1 a_a1_deeds a_a1_firstJudgments a_a1_pardoned a_a1_years a_a1_elders t_size t_deeds t_elders_1 t_firstJudgments t_pardoned t_years a1_size a1_deeds a1_firstJudgments a1_pardoned a1_years) H locs := hw
        exact hret (t_size, t_deeds, t_elders_1, t_firstJudgments, t_pardoned, t_years) h hw dX5_copyFrom_40
      · have h := h.2 c_20
        refine lv_aload_n hx hb dX5_copyFrom_23 rfl (lv_at hl 0 rfl) ?_
        refine lv_aload_n hx hb dX5_copyFrom_24 rfl (lv_at hl 1 rfl) ?_
        refine lv_iload_n hx hb dX5_copyFrom_25 rfl (lv_at hl 2 rfl) ?_
        refine lv_iload_n hx hb dX5_copyFrom_26 rfl (lv_at hl 2 rfl) ?_
        refine callVv (As := [.ref a_a1, .int x2, .int x2]) (rest := []) (W2 := fun u => (cs_Roll_copyFrom g a_t a_t_deeds a_t_elders a_t_firstJudgments a_t_pardoned a_t_years a_a1 a_a1_deeds a_a1_firstJudgments a_a1_pardoned a_a1_years a_a1_elders t_size (u.1) t_elders (u.2.1) (u.2.2.1) (u.2.2.2) a1_size a1_deeds a1_firstJudgments a1_pardoned a1_years)) C hw hl (c_Roll_copyCase l g a_t a_t_deeds a_t_firstJudgments a_t_pardoned a_t_years a_a1 a_a1_deeds a_a1_firstJudgments a_a1_pardoned a_a1_years a_t_elders a_a1_elders t_size t_deeds t_firstJudgments t_pardoned t_years a1_size a1_deeds a1_firstJudgments a1_pardoned a1_years x2 x2 _ h) tw_536 kk_X5_copyCase rfl ⟨rfl, rfl⟩ ⟨by decide, by decide⟩ (Nat.le_of_ble_eq_true rfl) 0 rfl rfl rfl [0, 1, 3, 4, 5, 6, 7, 8, 9, 10] [2] [1, 2, 0, 3, 4, 5, 6, 7, 8, 9, 10] rfl rfl rfl rfl rfl rfl (fun u => rfl) rfl dX5_copyFrom_27 (fun u H locs h hw => ?_)
        obtain ⟨t_deeds_2, t_firstJudgments_3, t_pardoned_4, t_years_5⟩ := u
        have hw : Wd g A s (cs_Roll_copyFrom g a_t a_t_deeds a_t_elders a_t_firstJudgments a_t_pardoned a_t_years a_a1 a_a1_deeds a_a1_firstJudgments a_a1_pardoned a_a1_years a_a1_elders t_size t_deeds_2 t_elders t_firstJudgments_3 t_pardoned_4 t_years_5 a1_size a1_deeds a1_firstJudgments a1_pardoned a1_years) H locs := hw
        refine lv_iinc (v := x2 + 1) (lv' := [(2, .int (x2 + 1)), (0, .ref a_t), (1, .ref a_a1)]) hx hb dX5_copyFrom_30 hl (k := 2) rfl rfl (by decide) rfl (fun ls hl => ?_)
        refine lv_goto (tgt := 15) hx hb dX5_copyFrom_33 (by decide) ?_
        exact ih (x2 + 1) t_size t_deeds_2 t_elders t_firstJudgments_3 t_pardoned_4 t_years_5 h _ _ _ hw (lv_sub hl [1, 2, 0] rfl)
  refine lv_aload_n hx hb dX5_copyFrom_0 rfl (lv_at hl 0 rfl) ?_
  refine lv_aload_n hx hb dX5_copyFrom_1 rfl (lv_at hl 1 rfl) ?_
  refine G_RX5_28 C hw 6 rfl dX5_copyFrom_2 ?_
  refine lv_bipush (v := 12) hx hb dX5_copyFrom_5 (by decide) ?_
  refine mmin C hl tw_886 kmmin ⟨Nat.le_of_ble_eq_true rfl, Nat.le_of_ble_eq_true rfl⟩ dX5_copyFrom_7 ?_
  refine lv_topi (fun t_size_6 et_size_6 => ?_)
  have h := h t_size_6 et_size_6
  refine U_RX5_28 (ws2 := (cs_Roll_copyFrom g a_t a_t_deeds a_t_elders a_t_firstJudgments a_t_pardoned a_t_years a_a1 a_a1_deeds a_a1_firstJudgments a_a1_pardoned a_a1_years a_a1_elders t_size_6 t_deeds t_elders t_firstJudgments t_pardoned t_years a1_size a1_deeds a1_firstJudgments a1_pardoned a1_years)) C hw 0 rfl rfl rfl rfl dX5_copyFrom_10 (fun H locs hw => ?_)
  refine lv_iconst (v := 0) hx hb dX5_copyFrom_13 (by decide) ?_
  refine lv_istore_n (lv' := [(2, .int 0), (0, .ref a_t), (1, .ref a_a1)]) hx hb dX5_copyFrom_14 rfl hl (by decide) rfl (fun ls hl => ?_)
  obtain ⟨n_15, h⟩ := h
  exact hL_Roll_copyFrom_15 n_15 0 t_size_6 t_deeds t_elders t_firstJudgments t_pardoned t_years h _ _ _ hw (lv_sub hl [1, 2, 0] rfl)
