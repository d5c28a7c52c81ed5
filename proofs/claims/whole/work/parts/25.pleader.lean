def B_Pleader_nearest_68 (x1 : Int32) (x2 : Int32) (t_court_points : Int32) (t_court_judgments : (Nat → Int32)) (t_court_costs_sums : (Nat → Int32)) (Q : Int32 → Prop) (N_8 : Int32 → Int32 → Int32 → Prop) (x3 : Int32) (x4 : Int32) (x5 : Int32) : Prop := N_8 x3 x4 (x5 + 1)
def B_Pleader_nearest_48 (x1 : Int32) (x2 : Int32) (t_court_points : Int32) (t_court_judgments : (Nat → Int32)) (t_court_costs_sums : (Nat → Int32)) (Q : Int32 → Prop) (N_8 : Int32 → Int32 → Int32 → Prop) (x3 : Int32) (x4 : Int32) (x5 : Int32) (x6 : Int32) : Prop := P_Court_judgmentOf x5 t_court_judgments (fun r_1 => (¬ r_1 = x2 → B_Pleader_nearest_68 x1 x2 t_court_points t_court_judgments t_court_costs_sums Q N_8 x3 x4 x5) ∧ (r_1 = x2 → B_Pleader_nearest_68 x1 x2 t_court_points t_court_judgments t_court_costs_sums Q N_8 x5 x6 x5))
def L_Pleader_nearest_8 (x1 : Int32) (x2 : Int32) (t_court_points : Int32) (t_court_judgments : (Nat → Int32)) (t_court_costs_sums : (Nat → Int32)) (Q : Int32 → Prop) : Nat → Int32 → Int32 → Int32 → Prop
  | 0 => fun _ _ _ => False
  | n + 1 => fun x3 x4 x5 => P_Court_deedCount t_court_points (fun r_2 => (r_2 ≤ x5 → Q x3) ∧ (¬ r_2 ≤ x5 → P_Scale_together (x1 ^^^ x5) t_court_costs_sums (fun r_3 => (x3 = (-1) → B_Pleader_nearest_48 x1 x2 t_court_points t_court_judgments t_court_costs_sums Q (L_Pleader_nearest_8 x1 x2 t_court_points t_court_judgments t_court_costs_sums Q n) x3 x4 x5 r_3) ∧ (¬ x3 = (-1) → (x4 ≤ r_3 → B_Pleader_nearest_68 x1 x2 t_court_points t_court_judgments t_court_costs_sums Q (L_Pleader_nearest_8 x1 x2 t_court_points t_court_judgments t_court_costs_sums Q n) x3 x4 x5) ∧ (¬ x4 ≤ r_3 → B_Pleader_nearest_48 x1 x2 t_court_points t_court_judgments t_court_costs_sums Q (L_Pleader_nearest_8 x1 x2 t_court_points t_court_judgments t_court_costs_sums Q n) x3 x4 x5 r_3)))))
def P_Pleader_nearest (x1 : Int32) (x2 : Int32) (t_court_points : Int32) (t_court_judgments : (Nat → Int32)) (t_court_costs_sums : (Nat → Int32)) (Q : Int32 → Prop) : Prop := ∃ n_8 : Nat, L_Pleader_nearest_8 x1 x2 t_court_points t_court_judgments t_court_costs_sums Q n_8 (-1) 0 0
abbrev rm_Pleader_nearest : Room := { frames := 1, cells := 0, slots := 0, locals := 21 }
def cs_Pleader_nearest (g : GE) (a_t a_t_court a_t_court_costs a_t_court_judgments a_t_court_costs_sums a_t_row a_t_court_weights a_t_court_roll a_t_court_by a_t_court_costs_each : Nat) (t_court_points : Int32) (t_court_allJudged : Int32) (t_court_costs_points : Int32) (t_court_judgments : (Nat → Int32)) (t_court_costs_sums : (Nat → Int32)) : va_W := [oc a_t 4 [.ref a_t_court, .ref a_t_row], oc a_t_court 0 [.ref a_t_court_weights, .ref a_t_court_costs, .ref a_t_court_roll, .int t_court_points, .ref a_t_court_by, .ref a_t_court_judgments, .int t_court_allJudged], oc a_t_court_costs 6 [.ref a_t_court_costs_each, .ref a_t_court_costs_sums, .int t_court_costs_points], ai g a_t_court_judgments 1024 t_court_judgments, ai g a_t_court_costs_sums 1024 t_court_costs_sums]
set_option maxHeartbeats 4000000 in
set_option maxRecDepth 100000 in
theorem c_Pleader_nearest (l : Launch) (g : GE) (a_t a_t_court a_t_court_costs a_t_court_judgments a_t_court_costs_sums a_t_row a_t_court_weights a_t_court_roll a_t_court_by a_t_court_costs_each : Nat) (t_court_points : Int32) (t_court_allJudged : Int32) (t_court_costs_points : Int32) (t_court_judgments : (Nat → Int32)) (t_court_costs_sums : (Nat → Int32)) (x1 : Int32) (x2 : Int32) (Q : Int32 → Prop) (h : P_Pleader_nearest x1 x2 t_court_points t_court_judgments t_court_costs_sums Q) : Cti l g yX4_nearest cX4_nearest 7 (some .int) rm_Pleader_nearest [.ref a_t, .int x1, .int x2] (cs_Pleader_nearest g a_t a_t_court a_t_court_costs a_t_court_judgments a_t_court_costs_sums a_t_row a_t_court_weights a_t_court_roll a_t_court_by a_t_court_costs_each t_court_points t_court_allJudged t_court_costs_points t_court_judgments t_court_costs_sums) (S := Unit) (fun r u => Q r) (fun _ => (cs_Pleader_nearest g a_t a_t_court a_t_court_costs a_t_court_judgments a_t_court_costs_sums a_t_row a_t_court_weights a_t_court_roll a_t_court_by a_t_court_costs_each t_court_points t_court_allJudged t_court_costs_points t_court_judgments t_court_costs_sums)) := by
  refine meetI rfl (Nat.le_of_ble_eq_true rfl) ⟨rfl, rfl⟩ ?_
  intro p e s m args below meth c A Qf ls C hret hw hl
  have hx := C.1
  have hb := C.2.1
  have hown := C.2.2.2.1
  have hts := C.2.2.2.2.1
  have hE := C.2.2.2.2.2.1
  have hl : lv_has ls 7 [(0, .ref a_t), (1, .int x1), (2, .int x2)] := hl
  have hB_Pleader_nearest_68 : ∀ (N_8 : Int32 → Int32 → Int32 → Prop) (hN_8 : ∀ (x3 : Int32) (x4 : Int32) (x5 : Int32), N_8 x3 x4 x5 → Wat p l e rm_Pleader_nearest s m args below meth c A Qf g 7 (cs_Pleader_nearest g a_t a_t_court a_t_court_costs a_t_court_judgments a_t_court_costs_sums a_t_row a_t_court_weights a_t_court_roll a_t_court_by a_t_court_costs_each t_court_points t_court_allJudged t_court_costs_points t_court_judgments t_court_costs_sums) [(0, .ref a_t), (1, .int x1), (2, .int x2), (3, .int x3), (4, .int x4), (5, .int x5)] 8 []) (x3 : Int32) (x4 : Int32) (x5 : Int32), B_Pleader_nearest_68 x1 x2 t_court_points t_court_judgments t_court_costs_sums Q N_8 x3 x4 x5 → Wat p l e rm_Pleader_nearest s m args below meth c A Qf g 7 (cs_Pleader_nearest g a_t a_t_court a_t_court_costs a_t_court_judgments a_t_court_costs_sums a_t_row a_t_court_weights a_t_court_roll a_t_court_by a_t_court_costs_each t_court_points t_court_allJudged t_court_costs_points t_court_judgments t_court_costs_sums) [(0, .ref a_t), (1, .int x1), (2, .int x2), (3, .int x3), (4, .int x4), (5, .int x5)] 68 [] := by
    intro N_8 hN_8 x3 x4 x5 h H locs ls hw hl
    refine lv_iinc (v := x5 + 1) (lv' := [(5, .int (x5 + 1)), (0, .ref a_t), (1, .int x1), (2, .int x2), (3, .int x3), (4, .int x4)]) hx hb dX4_nearest_68 hl (k := 5) rfl rfl (by decide) rfl (fun ls hl => ?_)
    refine lv_goto (tgt := 8) hx hb dX4_nearest_71 (by decide) ?_
    exact hN_8 x3 x4 (x5 + 1) h _ _ _ hw (lv_sub hl [1, 2, 3, 4, 5, 0] rfl)
  have hB_Pleader_nearest_48 : ∀ (N_8 : Int32 → Int32 → Int32 → Prop) (hN_8 : ∀ (x3 : Int32) (x4 : Int32) (x5 : Int32), N_8 x3 x4 x5 → Wat p l e rm_Pleader_nearest s m args below meth c A Qf g 7 (cs_Pleader_nearest g a_t a_t_court a_t_court_costs a_t_court_judgments a_t_court_costs_sums a_t_row a_t_court_weights a_t_court_roll a_t_court_by a_t_court_costs_each t_court_points t_court_allJudged t_court_costs_points t_court_judgments t_court_costs_sums) [(0, .ref a_t), (1, .int x1), (2, .int x2), (3, .int x3), (4, .int x4), (5, .int x5)] 8 []) (x3 : Int32) (x4 : Int32) (x5 : Int32) (x6 : Int32), B_Pleader_nearest_48 x1 x2 t_court_points t_court_judgments t_court_costs_sums Q N_8 x3 x4 x5 x6 → Wat p l e rm_Pleader_nearest s m args below meth c A Qf g 7 (cs_Pleader_nearest g a_t a_t_court a_t_court_costs a_t_court_judgments a_t_court_costs_sums a_t_row a_t_court_weights a_t_court_roll a_t_court_by a_t_court_costs_each t_court_points t_court_allJudged t_court_costs_points t_court_judgments t_court_costs_sums) [(0, .ref a_t), (1, .int x1), (2, .int x2), (3, .int x3), (4, .int x4), (5, .int x5), (6, .int x6)] 48 [] := by
    intro N_8 hN_8 x3 x4 x5 x6 h H locs ls hw hl
    refine lv_aload_n hx hb dX4_nearest_48 rfl (lv_at hl 0 rfl) ?_
    refine G_RX4_15 C hw 0 rfl dX4_nearest_49 ?_
    refine lv_iload hx hb dX4_nearest_52 (lv_at hl 5 rfl) ?_
    refine callVi (As := [.int x5]) (rest := []) (W2 := fun _ => (cs_Pleader_nearest g a_t a_t_court a_t_court_costs a_t_court_judgments a_t_court_costs_sums a_t_row a_t_court_weights a_t_court_roll a_t_court_by a_t_court_costs_each t_court_points t_court_allJudged t_court_costs_points t_court_judgments t_court_costs_sums)) C hw hl (c_Court_judgmentOf l g a_t_court a_t_court_judgments a_t_court_weights a_t_court_costs a_t_court_roll a_t_court_by t_court_points t_court_allJudged t_court_judgments x5 _ h) tw_666 kk_X0_judgmentOf rfl ⟨rfl, rfl⟩ ⟨by decide, by decide⟩ (Nat.le_of_ble_eq_true rfl) 1 rfl rfl rfl [1, 3] [0, 2, 4] [0, 3, 1, 4, 2] rfl rfl rfl rfl rfl rfl (fun u => rfl) rfl dX4_nearest_54 (fun r_1 u H locs h hw => ?_)
    refine lv_iload_n hx hb dX4_nearest_57 rfl (lv_at hl 2 rfl) ?_
    refine lv_icmp_ne (tgt := 68) hx hb dX4_nearest_58 (by decide) (fun c_58 => ?_) (fun c_58 => ?_)
    · have h := h.1 c_58
      exact hB_Pleader_nearest_68 N_8 hN_8 x3 x4 x5 h _ _ _ hw (lv_sub hl [0, 1, 2, 3, 4, 5] rfl)
    · have h := h.2 c_58
      refine lv_iload hx hb dX4_nearest_61 (lv_at hl 5 rfl) ?_
      refine lv_istore_n (lv' := [(3, .int x5), (0, .ref a_t), (1, .int x1), (2, .int x2), (4, .int x4), (5, .int x5), (6, .int x6)]) hx hb dX4_nearest_63 rfl hl (by decide) rfl (fun ls hl => ?_)
      refine lv_iload hx hb dX4_nearest_64 (lv_at hl 6 rfl) ?_
      refine lv_istore (lv' := [(4, .int x6), (3, .int x5), (0, .ref a_t), (1, .int x1), (2, .int x2), (5, .int x5), (6, .int x6)]) hx hb dX4_nearest_66 hl (by decide) rfl (fun ls hl => ?_)
      exact hB_Pleader_nearest_68 N_8 hN_8 x5 x6 x5 h _ _ _ hw (lv_sub hl [2, 3, 4, 1, 0, 5] rfl)
  have hL_Pleader_nearest_8 : ∀ (n : Nat) (x3 : Int32) (x4 : Int32) (x5 : Int32), L_Pleader_nearest_8 x1 x2 t_court_points t_court_judgments t_court_costs_sums Q n x3 x4 x5 → Wat p l e rm_Pleader_nearest s m args below meth c A Qf g 7 (cs_Pleader_nearest g a_t a_t_court a_t_court_costs a_t_court_judgments a_t_court_costs_sums a_t_row a_t_court_weights a_t_court_roll a_t_court_by a_t_court_costs_each t_court_points t_court_allJudged t_court_costs_points t_court_judgments t_court_costs_sums) [(0, .ref a_t), (1, .int x1), (2, .int x2), (3, .int x3), (4, .int x4), (5, .int x5)] 8 [] := by
    intro n
    induction n with
    | zero => intro x3 x4 x5 h; exact absurd h id
    | succ n ih =>
      intro x3 x4 x5 h H locs ls hw hl
      rw [L_Pleader_nearest_8] at h
      refine lv_iload hx hb dX4_nearest_8 (lv_at hl 5 rfl) ?_
      refine lv_aload_n hx hb dX4_nearest_10 rfl (lv_at hl 0 rfl) ?_
      refine G_RX4_15 C hw 0 rfl dX4_nearest_11 ?_
      refine callVi (As := []) (rest := [.int x5]) (W2 := fun _ => (cs_Pleader_nearest g a_t a_t_court a_t_court_costs a_t_court_judgments a_t_court_costs_sums a_t_row a_t_court_weights a_t_court_roll a_t_court_by a_t_court_costs_each t_court_points t_court_allJudged t_court_costs_points t_court_judgments t_court_costs_sums)) C hw hl (c_Court_deedCount l g a_t_court a_t_court_weights a_t_court_costs a_t_court_roll a_t_court_by a_t_court_judgments t_court_points t_court_allJudged _ h) tw_664 kk_X0_deedCount rfl ⟨rfl, rfl⟩ ⟨by decide, by decide⟩ (Nat.le_of_ble_eq_true rfl) 1 rfl rfl rfl [1] [0, 2, 3, 4] [0, 4, 1, 2, 3] rfl rfl rfl rfl rfl rfl (fun u => rfl) rfl dX4_nearest_14 (fun r_2 u H locs h hw => ?_)
      refine lv_icmp_ge (tgt := 74) hx hb dX4_nearest_17 (by decide) (fun c_17 => ?_) (fun c_17 => ?_)
      · have h := h.1 c_17
        refine lv_iload_n hx hb dX4_nearest_74 rfl (lv_at hl 3 rfl) ?_
        exact hret () h hw dX4_nearest_75 rfl
      · have h := h.2 c_17
        refine lv_aload_n hx hb dX4_nearest_20 rfl (lv_at hl 0 rfl) ?_
        refine G_RX4_15 C hw 0 rfl dX4_nearest_21 ?_
        refine G_RX4_25 C hw 1 rfl dX4_nearest_24 ?_
        refine lv_iload_n hx hb dX4_nearest_27 rfl (lv_at hl 1 rfl) ?_
        refine lv_iload hx hb dX4_nearest_28 (lv_at hl 5 rfl) ?_
        refine lv_ixor hx hb dX4_nearest_30 ?_
        refine callVi (As := [.int (x1 ^^^ x5)]) (rest := []) (W2 := fun _ => (cs_Pleader_nearest g a_t a_t_court a_t_court_costs a_t_court_judgments a_t_court_costs_sums a_t_row a_t_court_weights a_t_court_roll a_t_court_by a_t_court_costs_each t_court_points t_court_allJudged t_court_costs_points t_court_judgments t_court_costs_sums)) C hw hl (c_Scale_together l g a_t_court_costs a_t_court_costs_sums a_t_court_costs_each t_court_costs_points t_court_costs_sums (x1 ^^^ x5) _ h) tw_665 kk_X6_together rfl ⟨rfl, rfl⟩ ⟨by decide, by decide⟩ (Nat.le_of_ble_eq_true rfl) 2 rfl rfl rfl [2, 4] [0, 1, 3] [0, 1, 3, 2, 4] rfl rfl rfl rfl rfl rfl (fun u => rfl) rfl dX4_nearest_31 (fun r_3 u H locs h hw => ?_)
        refine lv_istore (lv' := [(6, .int r_3), (0, .ref a_t), (1, .int x1), (2, .int x2), (3, .int x3), (4, .int x4), (5, .int x5)]) hx hb dX4_nearest_34 hl (by decide) rfl (fun ls hl => ?_)
        refine lv_iload_n hx hb dX4_nearest_36 rfl (lv_at hl 4 rfl) ?_
        refine lv_iconst (v := (-1)) hx hb dX4_nearest_37 (by decide) ?_
        refine lv_icmp_eq (tgt := 48) hx hb dX4_nearest_38 (by decide) (fun c_38 => ?_) (fun c_38 => ?_)
        · have h := h.1 c_38
          exact hB_Pleader_nearest_48 (L_Pleader_nearest_8 x1 x2 t_court_points t_court_judgments t_court_costs_sums Q n) ih x3 x4 x5 r_3 h _ _ _ hw (lv_sub hl [1, 2, 3, 4, 5, 6, 0] rfl)
        · have h := h.2 c_38
          refine lv_iload hx hb dX4_nearest_41 (lv_at hl 0 rfl) ?_
          refine lv_iload hx hb dX4_nearest_43 (lv_at hl 5 rfl) ?_
          refine lv_icmp_ge (tgt := 68) hx hb dX4_nearest_45 (by decide) (fun c_45 => ?_) (fun c_45 => ?_)
          · have h := h.1 c_45
            exact hB_Pleader_nearest_68 (L_Pleader_nearest_8 x1 x2 t_court_points t_court_judgments t_court_costs_sums Q n) ih x3 x4 x5 h _ _ _ hw (lv_sub hl [1, 2, 3, 4, 5, 6] rfl)
          · have h := h.2 c_45
            exact hB_Pleader_nearest_48 (L_Pleader_nearest_8 x1 x2 t_court_points t_court_judgments t_court_costs_sums Q n) ih x3 x4 x5 r_3 h _ _ _ hw (lv_sub hl [1, 2, 3, 4, 5, 6, 0] rfl)
  refine lv_iconst (v := (-1)) hx hb dX4_nearest_0 (by decide) ?_
  refine lv_istore_n (lv' := [(3, .int (-1)), (0, .ref a_t), (1, .int x1), (2, .int x2)]) hx hb dX4_nearest_1 rfl hl (by decide) rfl (fun ls hl => ?_)
  refine lv_iconst (v := 0) hx hb dX4_nearest_2 (by decide) ?_
  refine lv_istore (lv' := [(4, .int 0), (3, .int (-1)), (0, .ref a_t), (1, .int x1), (2, .int x2)]) hx hb dX4_nearest_3 hl (by decide) rfl (fun ls hl => ?_)
  refine lv_iconst (v := 0) hx hb dX4_nearest_5 (by decide) ?_
  refine lv_istore (lv' := [(5, .int 0), (4, .int 0), (3, .int (-1)), (0, .ref a_t), (1, .int x1), (2, .int x2)]) hx hb dX4_nearest_6 hl (by decide) rfl (fun ls hl => ?_)
  obtain ⟨n_8, h⟩ := h
  exact hL_Pleader_nearest_8 n_8 (-1) 0 0 h _ _ _ hw (lv_sub hl [3, 4, 5, 2, 1, 0] rfl)
def B_Pleader_judgedBehind_43 (x1 : Int32) (x2 : Int32) (t_court_by : (Nat → Int32)) (t_court_judgments : (Nat → Int32)) (t_court_roll_size : Int32) (t_court_roll_deeds : (Nat → Int32)) (t_court_weights_sums : (Nat → Int32)) (Q : Int32 → Prop) (k1 : Int32) : Prop := P_Court_judgmentOf k1 t_court_judgments (fun r_1 => Q r_1)
def B_Pleader_judgedBehind_29 (x1 : Int32) (x2 : Int32) (t_court_by : (Nat → Int32)) (t_court_judgments : (Nat → Int32)) (t_court_roll_size : Int32) (t_court_roll_deeds : (Nat → Int32)) (t_court_weights_sums : (Nat → Int32)) (Q : Int32 → Prop) (k0 : Int32) : Prop := (k0 = 0 → B_Pleader_judgedBehind_43 x1 x2 t_court_by t_court_judgments t_court_roll_size t_court_roll_deeds t_court_weights_sums Q x1) ∧ (¬ k0 = 0 → B_Pleader_judgedBehind_43 x1 x2 t_court_by t_court_judgments t_court_roll_size t_court_roll_deeds t_court_weights_sums Q x2)
def P_Pleader_judgedBehind (x1 : Int32) (x2 : Int32) (t_court_by : (Nat → Int32)) (t_court_judgments : (Nat → Int32)) (t_court_roll_size : Int32) (t_court_roll_deeds : (Nat → Int32)) (t_court_weights_sums : (Nat → Int32)) (Q : Int32 → Prop) : Prop := P_Scale_together (x1 ^^^ x2) t_court_weights_sums (fun r_2 => P_Court_unlikeness x1 t_court_by t_court_roll_size t_court_roll_deeds t_court_weights_sums (fun r_3 => (r_3 ≤ r_2 → B_Pleader_judgedBehind_29 x1 x2 t_court_by t_court_judgments t_court_roll_size t_court_roll_deeds t_court_weights_sums Q 0) ∧ (¬ r_3 ≤ r_2 → B_Pleader_judgedBehind_29 x1 x2 t_court_by t_court_judgments t_court_roll_size t_court_roll_deeds t_court_weights_sums Q 1)))
abbrev rm_Pleader_judgedBehind : Room := { frames := 2, cells := 0, slots := 0, locals := 42 }
def cs_Pleader_judgedBehind (g : GE) (a_t a_t_court a_t_court_by a_t_court_judgments a_t_court_roll a_t_court_weights a_t_court_roll_deeds a_t_court_weights_sums a_t_row a_t_court_costs a_t_court_roll_firstJudgments a_t_court_roll_years a_t_court_roll_pardoned a_t_court_roll_elders a_t_court_weights_each : Nat) (t_court_points : Int32) (t_court_allJudged : Int32) (t_court_by : (Nat → Int32)) (t_court_judgments : (Nat → Int32)) (t_court_roll_size : Int32) (t_court_weights_points : Int32) (t_court_roll_deeds : (Nat → Int32)) (t_court_weights_sums : (Nat → Int32)) : va_W := [oc a_t 4 [.ref a_t_court, .ref a_t_row], oc a_t_court 0 [.ref a_t_court_weights, .ref a_t_court_costs, .ref a_t_court_roll, .int t_court_points, .ref a_t_court_by, .ref a_t_court_judgments, .int t_court_allJudged], ai g a_t_court_by 1024 t_court_by, ai g a_t_court_judgments 1024 t_court_judgments, oc a_t_court_roll 5 [.ref a_t_court_roll_deeds, .ref a_t_court_roll_firstJudgments, .ref a_t_court_roll_years, .ref a_t_court_roll_pardoned, .ref a_t_court_roll_elders, .int t_court_roll_size], oc a_t_court_weights 6 [.ref a_t_court_weights_each, .ref a_t_court_weights_sums, .int t_court_weights_points], ai g a_t_court_roll_deeds 12 t_court_roll_deeds, ai g a_t_court_weights_sums 1024 t_court_weights_sums]
set_option maxHeartbeats 4000000 in
set_option maxRecDepth 100000 in
theorem c_Pleader_judgedBehind (l : Launch) (g : GE) (a_t a_t_court a_t_court_by a_t_court_judgments a_t_court_roll a_t_court_weights a_t_court_roll_deeds a_t_court_weights_sums a_t_row a_t_court_costs a_t_court_roll_firstJudgments a_t_court_roll_years a_t_court_roll_pardoned a_t_court_roll_elders a_t_court_weights_each : Nat) (t_court_points : Int32) (t_court_allJudged : Int32) (t_court_by : (Nat → Int32)) (t_court_judgments : (Nat → Int32)) (t_court_roll_size : Int32) (t_court_weights_points : Int32) (t_court_roll_deeds : (Nat → Int32)) (t_court_weights_sums : (Nat → Int32)) (x1 : Int32) (x2 : Int32) (Q : Int32 → Prop) (h : P_Pleader_judgedBehind x1 x2 t_court_by t_court_judgments t_court_roll_size t_court_roll_deeds t_court_weights_sums Q) : Cti l g yX4_judgedBehind cX4_judgedBehind 4 (some .int) rm_Pleader_judgedBehind [.ref a_t, .int x1, .int x2] (cs_Pleader_judgedBehind g a_t a_t_court a_t_court_by a_t_court_judgments a_t_court_roll a_t_court_weights a_t_court_roll_deeds a_t_court_weights_sums a_t_row a_t_court_costs a_t_court_roll_firstJudgments a_t_court_roll_years a_t_court_roll_pardoned a_t_court_roll_elders a_t_court_weights_each t_court_points t_court_allJudged t_court_by t_court_judgments t_court_roll_size t_court_weights_points t_court_roll_deeds t_court_weights_sums) (S := Unit) (fun r u => Q r) (fun _ => (cs_Pleader_judgedBehind g a_t a_t_court a_t_court_by a_t_court_judgments a_t_court_roll a_t_court_weights a_t_court_roll_deeds a_t_court_weights_sums a_t_row a_t_court_costs a_t_court_roll_firstJudgments a_t_court_roll_years a_t_court_roll_pardoned a_t_court_roll_elders a_t_court_weights_each t_court_points t_court_allJudged t_court_by t_court_judgments t_court_roll_size t_court_weights_points t_court_roll_deeds t_court_weights_sums)) := by
  refine meetI rfl (Nat.le_of_ble_eq_true rfl) ⟨rfl, rfl⟩ ?_
  intro p e s m args below meth c A Qf ls C hret hw hl
  have hx := C.1
  have hb := C.2.1
  have hown := C.2.2.2.1
  have hts := C.2.2.2.2.1
  have hE := C.2.2.2.2.2.1
  have hl : lv_has ls 4 [(0, .ref a_t), (1, .int x1), (2, .int x2)] := hl
  have hB_Pleader_judgedBehind_43 : ∀ (k1 : Int32), B_Pleader_judgedBehind_43 x1 x2 t_court_by t_court_judgments t_court_roll_size t_court_roll_deeds t_court_weights_sums Q k1 → Wat p l e rm_Pleader_judgedBehind s m args below meth c A Qf g 4 (cs_Pleader_judgedBehind g a_t a_t_court a_t_court_by a_t_court_judgments a_t_court_roll a_t_court_weights a_t_court_roll_deeds a_t_court_weights_sums a_t_row a_t_court_costs a_t_court_roll_firstJudgments a_t_court_roll_years a_t_court_roll_pardoned a_t_court_roll_elders a_t_court_weights_each t_court_points t_court_allJudged t_court_by t_court_judgments t_court_roll_size t_court_weights_points t_court_roll_deeds t_court_weights_sums) [] 43 [.int k1, .ref a_t_court] := by
    intro k1 h H locs ls hw hl
    refine callVi (As := [.int k1]) (rest := []) (W2 := fun _ => (cs_Pleader_judgedBehind g a_t a_t_court a_t_court_by a_t_court_judgments a_t_court_roll a_t_court_weights a_t_court_roll_deeds a_t_court_weights_sums a_t_row a_t_court_costs a_t_court_roll_firstJudgments a_t_court_roll_years a_t_court_roll_pardoned a_t_court_roll_elders a_t_court_weights_each t_court_points t_court_allJudged t_court_by t_court_judgments t_court_roll_size t_court_weights_points t_court_roll_deeds t_court_weights_sums)) C hw hl (c_Court_judgmentOf l g a_t_court a_t_court_judgments a_t_court_weights a_t_court_costs a_t_court_roll a_t_court_by t_court_points t_court_allJudged t_court_judgments k1 _ h) tw_666 kk_X0_judgmentOf rfl ⟨rfl, rfl⟩ ⟨by decide, by decide⟩ (Nat.le_of_ble_eq_true rfl) 1 rfl rfl rfl [1, 3] [0, 2, 4, 5, 6, 7] [0, 6, 1, 7, 2, 3, 4, 5] rfl rfl rfl rfl rfl rfl (fun u => rfl) rfl dX4_judgedBehind_43 (fun r_1 u H locs h hw => ?_)
    exact hret () h hw dX4_judgedBehind_46 rfl
  have hB_Pleader_judgedBehind_29 : ∀ (k0 : Int32), B_Pleader_judgedBehind_29 x1 x2 t_court_by t_court_judgments t_court_roll_size t_court_roll_deeds t_court_weights_sums Q k0 → Wat p l e rm_Pleader_judgedBehind s m args below meth c A Qf g 4 (cs_Pleader_judgedBehind g a_t a_t_court a_t_court_by a_t_court_judgments a_t_court_roll a_t_court_weights a_t_court_roll_deeds a_t_court_weights_sums a_t_row a_t_court_costs a_t_court_roll_firstJudgments a_t_court_roll_years a_t_court_roll_pardoned a_t_court_roll_elders a_t_court_weights_each t_court_points t_court_allJudged t_court_by t_court_judgments t_court_roll_size t_court_weights_points t_court_roll_deeds t_court_weights_sums) [(0, .ref a_t), (1, .int x1), (2, .int x2)] 29 [.int k0] := by
    intro k0 h H locs ls hw hl
    refine lv_istore_n (lv' := [(3, .int k0), (0, .ref a_t), (1, .int x1), (2, .int x2)]) hx hb dX4_judgedBehind_29 rfl hl (by decide) rfl (fun ls hl => ?_)
    refine lv_aload_n hx hb dX4_judgedBehind_30 rfl (lv_at hl 1 rfl) ?_
    refine G_RX4_15 C hw 0 rfl dX4_judgedBehind_31 ?_
    refine lv_iload_n hx hb dX4_judgedBehind_34 rfl (lv_at hl 0 rfl) ?_
    refine lv_if_eq (tgt := 42) hx hb dX4_judgedBehind_35 (by decide) (fun c_35 => ?_) (fun c_35 => ?_)
    · have h := h.1 c_35
      refine lv_iload_n hx hb dX4_judgedBehind_42 rfl (lv_at hl 2 rfl) ?_
      exact hB_Pleader_judgedBehind_43 x1 h _ _ _ hw (lv_sub hl [] rfl)
    · have h := h.2 c_35
      refine lv_iload_n hx hb dX4_judgedBehind_38 rfl (lv_at hl 3 rfl) ?_
      refine lv_goto (tgt := 43) hx hb dX4_judgedBehind_39 (by decide) ?_
      exact hB_Pleader_judgedBehind_43 x2 h _ _ _ hw (lv_sub hl [] rfl)
  refine lv_aload_n hx hb dX4_judgedBehind_0 rfl (lv_at hl 0 rfl) ?_
  refine G_RX4_15 C hw 0 rfl dX4_judgedBehind_1 ?_
  refine G_RX4_50 C hw 1 rfl dX4_judgedBehind_4 ?_
  refine lv_iload_n hx hb dX4_judgedBehind_7 rfl (lv_at hl 1 rfl) ?_
  refine lv_iload_n hx hb dX4_judgedBehind_8 rfl (lv_at hl 2 rfl) ?_
  refine lv_ixor hx hb dX4_judgedBehind_9 ?_
  refine callVi (As := [.int (x1 ^^^ x2)]) (rest := []) (W2 := fun _ => (cs_Pleader_judgedBehind g a_t a_t_court a_t_court_by a_t_court_judgments a_t_court_roll a_t_court_weights a_t_court_roll_deeds a_t_court_weights_sums a_t_row a_t_court_costs a_t_court_roll_firstJudgments a_t_court_roll_years a_t_court_roll_pardoned a_t_court_roll_elders a_t_court_weights_each t_court_points t_court_allJudged t_court_by t_court_judgments t_court_roll_size t_court_weights_points t_court_roll_deeds t_court_weights_sums)) C hw hl (c_Scale_together l g a_t_court_weights a_t_court_weights_sums a_t_court_weights_each t_court_weights_points t_court_weights_sums (x1 ^^^ x2) _ h) tw_665 kk_X6_together rfl ⟨rfl, rfl⟩ ⟨by decide, by decide⟩ (Nat.le_of_ble_eq_true rfl) 5 rfl rfl rfl [5, 7] [0, 1, 2, 3, 4, 6] [0, 1, 2, 3, 4, 6, 5, 7] rfl rfl rfl rfl rfl rfl (fun u => rfl) rfl dX4_judgedBehind_10 (fun r_2 u H locs h hw => ?_)
  refine lv_aload_n hx hb dX4_judgedBehind_13 rfl (lv_at hl 0 rfl) ?_
  refine G_RX4_15 C hw 0 rfl dX4_judgedBehind_14 ?_
  refine lv_iload_n hx hb dX4_judgedBehind_17 rfl (lv_at hl 1 rfl) ?_
  refine callVi (As := [.int x1]) (rest := [.int r_2]) (W2 := fun _ => (cs_Pleader_judgedBehind g a_t a_t_court a_t_court_by a_t_court_judgments a_t_court_roll a_t_court_weights a_t_court_roll_deeds a_t_court_weights_sums a_t_row a_t_court_costs a_t_court_roll_firstJudgments a_t_court_roll_years a_t_court_roll_pardoned a_t_court_roll_elders a_t_court_weights_each t_court_points t_court_allJudged t_court_by t_court_judgments t_court_roll_size t_court_weights_points t_court_roll_deeds t_court_weights_sums)) C hw hl (c_Court_unlikeness l g a_t_court a_t_court_by a_t_court_roll a_t_court_weights a_t_court_roll_deeds a_t_court_weights_sums a_t_court_costs a_t_court_judgments a_t_court_roll_firstJudgments a_t_court_roll_years a_t_court_roll_pardoned a_t_court_roll_elders a_t_court_weights_each t_court_points t_court_allJudged t_court_by t_court_roll_size t_court_weights_points t_court_roll_deeds t_court_weights_sums x1 _ h) tw_685 kk_X0_unlikeness rfl ⟨rfl, rfl⟩ ⟨by decide, by decide⟩ (Nat.le_of_ble_eq_true rfl) 1 rfl rfl rfl [1, 2, 4, 5, 6, 7] [0, 3] [0, 2, 3, 1, 4, 5, 6, 7] rfl rfl rfl rfl rfl rfl (fun u => rfl) rfl dX4_judgedBehind_18 (fun r_3 u H locs h hw => ?_)
  refine lv_icmp_ge (tgt := 28) hx hb dX4_judgedBehind_21 (by decide) (fun c_21 => ?_) (fun c_21 => ?_)
  · have h := h.1 c_21
    refine lv_iconst (v := 0) hx hb dX4_judgedBehind_28 (by decide) ?_
    exact hB_Pleader_judgedBehind_29 0 h _ _ _ hw (lv_sub hl [0, 1, 2] rfl)
  · have h := h.2 c_21
    refine lv_iconst (v := 1) hx hb dX4_judgedBehind_24 (by decide) ?_
    refine lv_goto (tgt := 29) hx hb dX4_judgedBehind_25 (by decide) ?_
    exact hB_Pleader_judgedBehind_29 1 h _ _ _ hw (lv_sub hl [0, 1, 2] rfl)
def B_Pleader_judgedBehindBoth_62 (x1 : Int32) (x2 : Int32) (x3 : Int32) (t_court_by : (Nat → Int32)) (t_court_judgments : (Nat → Int32)) (t_court_roll_size : Int32) (t_court_roll_deeds : (Nat → Int32)) (t_court_weights_sums : (Nat → Int32)) (Q : Int32 → Prop) (k1 : Int32) : Prop := P_Pleader_judgedBehind k1 x2 t_court_by t_court_judgments t_court_roll_size t_court_roll_deeds t_court_weights_sums (fun r_1 => Q r_1)
def B_Pleader_judgedBehindBoth_49 (x1 : Int32) (x2 : Int32) (x3 : Int32) (t_court_by : (Nat → Int32)) (t_court_judgments : (Nat → Int32)) (t_court_roll_size : Int32) (t_court_roll_deeds : (Nat → Int32)) (t_court_weights_sums : (Nat → Int32)) (Q : Int32 → Prop) (k0 : Int32) : Prop := (k0 = 0 → B_Pleader_judgedBehindBoth_62 x1 x2 x3 t_court_by t_court_judgments t_court_roll_size t_court_roll_deeds t_court_weights_sums Q x1) ∧ (¬ k0 = 0 → B_Pleader_judgedBehindBoth_62 x1 x2 x3 t_court_by t_court_judgments t_court_roll_size t_court_roll_deeds t_court_weights_sums Q x3)
def P_Pleader_judgedBehindBoth (x1 : Int32) (x2 : Int32) (x3 : Int32) (t_court_by : (Nat → Int32)) (t_court_judgments : (Nat → Int32)) (t_court_roll_size : Int32) (t_court_roll_deeds : (Nat → Int32)) (t_court_weights_sums : (Nat → Int32)) (Q : Int32 → Prop) : Prop := P_Court_unlikeness x1 t_court_by t_court_roll_size t_court_roll_deeds t_court_weights_sums (fun r_2 => P_Scale_together (x1 ^^^ x2) t_court_weights_sums (fun r_3 => ∀ x4_4 : Int32, x4_4 = (if r_3 < r_2 then r_3 else r_2) → P_Scale_together (x1 ^^^ x3) t_court_weights_sums (fun r_5 => (x4_4 ≤ r_5 → B_Pleader_judgedBehindBoth_49 x1 x2 x3 t_court_by t_court_judgments t_court_roll_size t_court_roll_deeds t_court_weights_sums Q 0) ∧ (¬ x4_4 ≤ r_5 → B_Pleader_judgedBehindBoth_49 x1 x2 x3 t_court_by t_court_judgments t_court_roll_size t_court_roll_deeds t_court_weights_sums Q 1))))
abbrev rm_Pleader_judgedBehindBoth : Room := { frames := 3, cells := 0, slots := 0, locals := 65 }
def cs_Pleader_judgedBehindBoth (g : GE) (a_t a_t_court a_t_court_by a_t_court_judgments a_t_court_roll a_t_court_weights a_t_court_roll_deeds a_t_court_weights_sums a_t_row a_t_court_costs a_t_court_roll_firstJudgments a_t_court_roll_years a_t_court_roll_pardoned a_t_court_roll_elders a_t_court_weights_each : Nat) (t_court_points : Int32) (t_court_allJudged : Int32) (t_court_by : (Nat → Int32)) (t_court_judgments : (Nat → Int32)) (t_court_roll_size : Int32) (t_court_weights_points : Int32) (t_court_roll_deeds : (Nat → Int32)) (t_court_weights_sums : (Nat → Int32)) : va_W := [oc a_t 4 [.ref a_t_court, .ref a_t_row], oc a_t_court 0 [.ref a_t_court_weights, .ref a_t_court_costs, .ref a_t_court_roll, .int t_court_points, .ref a_t_court_by, .ref a_t_court_judgments, .int t_court_allJudged], ai g a_t_court_by 1024 t_court_by, ai g a_t_court_judgments 1024 t_court_judgments, oc a_t_court_roll 5 [.ref a_t_court_roll_deeds, .ref a_t_court_roll_firstJudgments, .ref a_t_court_roll_years, .ref a_t_court_roll_pardoned, .ref a_t_court_roll_elders, .int t_court_roll_size], oc a_t_court_weights 6 [.ref a_t_court_weights_each, .ref a_t_court_weights_sums, .int t_court_weights_points], ai g a_t_court_roll_deeds 12 t_court_roll_deeds, ai g a_t_court_weights_sums 1024 t_court_weights_sums]
set_option maxHeartbeats 4000000 in
set_option maxRecDepth 100000 in
theorem c_Pleader_judgedBehindBoth (l : Launch) (g : GE) (a_t a_t_court a_t_court_by a_t_court_judgments a_t_court_roll a_t_court_weights a_t_court_roll_deeds a_t_court_weights_sums a_t_row a_t_court_costs a_t_court_roll_firstJudgments a_t_court_roll_years a_t_court_roll_pardoned a_t_court_roll_elders a_t_court_weights_each : Nat) (t_court_points : Int32) (t_court_allJudged : Int32) (t_court_by : (Nat → Int32)) (t_court_judgments : (Nat → Int32)) (t_court_roll_size : Int32) (t_court_weights_points : Int32) (t_court_roll_deeds : (Nat → Int32)) (t_court_weights_sums : (Nat → Int32)) (x1 : Int32) (x2 : Int32) (x3 : Int32) (Q : Int32 → Prop) (h : P_Pleader_judgedBehindBoth x1 x2 x3 t_court_by t_court_judgments t_court_roll_size t_court_roll_deeds t_court_weights_sums Q) : Cti l g yX4_judgedBehindBoth cX4_judgedBehindBoth 6 (some .int) rm_Pleader_judgedBehindBoth [.ref a_t, .int x1, .int x2, .int x3] (cs_Pleader_judgedBehindBoth g a_t a_t_court a_t_court_by a_t_court_judgments a_t_court_roll a_t_court_weights a_t_court_roll_deeds a_t_court_weights_sums a_t_row a_t_court_costs a_t_court_roll_firstJudgments a_t_court_roll_years a_t_court_roll_pardoned a_t_court_roll_elders a_t_court_weights_each t_court_points t_court_allJudged t_court_by t_court_judgments t_court_roll_size t_court_weights_points t_court_roll_deeds t_court_weights_sums) (S := Unit) (fun r u => Q r) (fun _ => (cs_Pleader_judgedBehindBoth g a_t a_t_court a_t_court_by a_t_court_judgments a_t_court_roll a_t_court_weights a_t_court_roll_deeds a_t_court_weights_sums a_t_row a_t_court_costs a_t_court_roll_firstJudgments a_t_court_roll_years a_t_court_roll_pardoned a_t_court_roll_elders a_t_court_weights_each t_court_points t_court_allJudged t_court_by t_court_judgments t_court_roll_size t_court_weights_points t_court_roll_deeds t_court_weights_sums)) := by
  refine meetI rfl (Nat.le_of_ble_eq_true rfl) ⟨rfl, rfl⟩ ?_
  intro p e s m args below meth c A Qf ls C hret hw hl
  have hx := C.1
  have hb := C.2.1
  have hown := C.2.2.2.1
  have hts := C.2.2.2.2.1
  have hE := C.2.2.2.2.2.1
  have hl : lv_has ls 6 [(0, .ref a_t), (1, .int x1), (2, .int x2), (3, .int x3)] := hl
  have hB_Pleader_judgedBehindBoth_62 : ∀ (k1 : Int32), B_Pleader_judgedBehindBoth_62 x1 x2 x3 t_court_by t_court_judgments t_court_roll_size t_court_roll_deeds t_court_weights_sums Q k1 → Wat p l e rm_Pleader_judgedBehindBoth s m args below meth c A Qf g 6 (cs_Pleader_judgedBehindBoth g a_t a_t_court a_t_court_by a_t_court_judgments a_t_court_roll a_t_court_weights a_t_court_roll_deeds a_t_court_weights_sums a_t_row a_t_court_costs a_t_court_roll_firstJudgments a_t_court_roll_years a_t_court_roll_pardoned a_t_court_roll_elders a_t_court_weights_each t_court_points t_court_allJudged t_court_by t_court_judgments t_court_roll_size t_court_weights_points t_court_roll_deeds t_court_weights_sums) [(2, .int x2)] 62 [.int k1, .ref a_t] := by
    intro k1 h H locs ls hw hl
    refine lv_iload_n hx hb dX4_judgedBehindBoth_62 rfl (lv_at hl 0 rfl) ?_
    refine callVi (As := [.int k1, .int x2]) (rest := []) (W2 := fun _ => (cs_Pleader_judgedBehindBoth g a_t a_t_court a_t_court_by a_t_court_judgments a_t_court_roll a_t_court_weights a_t_court_roll_deeds a_t_court_weights_sums a_t_row a_t_court_costs a_t_court_roll_firstJudgments a_t_court_roll_years a_t_court_roll_pardoned a_t_court_roll_elders a_t_court_weights_each t_court_points t_court_allJudged t_court_by t_court_judgments t_court_roll_size t_court_weights_points t_court_roll_deeds t_court_weights_sums)) C hw hl (c_Pleader_judgedBehind l g a_t a_t_court a_t_court_by a_t_court_judgments a_t_court_roll a_t_court_weights a_t_court_roll_deeds a_t_court_weights_sums a_t_row a_t_court_costs a_t_court_roll_firstJudgments a_t_court_roll_years a_t_court_roll_pardoned a_t_court_roll_elders a_t_court_weights_each t_court_points t_court_allJudged t_court_by t_court_judgments t_court_roll_size t_court_weights_points t_court_roll_deeds t_court_weights_sums k1 x2 _ h) tw_681 kk_X4_judgedBehind rfl ⟨rfl, rfl⟩ ⟨by decide, by decide⟩ (Nat.le_of_ble_eq_true rfl) 0 rfl rfl rfl [0, 1, 2, 3, 4, 5, 6, 7] [] [0, 1, 2, 3, 4, 5, 6, 7] rfl rfl rfl rfl rfl rfl (fun u => rfl) rfl dX4_judgedBehindBoth_63 (fun r_1 u H locs h hw => ?_)
    exact hret () h hw dX4_judgedBehindBoth_66 rfl
  have hB_Pleader_judgedBehindBoth_49 : ∀ (k0 : Int32), B_Pleader_judgedBehindBoth_49 x1 x2 x3 t_court_by t_court_judgments t_court_roll_size t_court_roll_deeds t_court_weights_sums Q k0 → Wat p l e rm_Pleader_judgedBehindBoth s m args below meth c A Qf g 6 (cs_Pleader_judgedBehindBoth g a_t a_t_court a_t_court_by a_t_court_judgments a_t_court_roll a_t_court_weights a_t_court_roll_deeds a_t_court_weights_sums a_t_row a_t_court_costs a_t_court_roll_firstJudgments a_t_court_roll_years a_t_court_roll_pardoned a_t_court_roll_elders a_t_court_weights_each t_court_points t_court_allJudged t_court_by t_court_judgments t_court_roll_size t_court_weights_points t_court_roll_deeds t_court_weights_sums) [(0, .ref a_t), (1, .int x1), (2, .int x2), (3, .int x3)] 49 [.int k0] := by
    intro k0 h H locs ls hw hl
    refine lv_istore (lv' := [(5, .int k0), (0, .ref a_t), (1, .int x1), (2, .int x2), (3, .int x3)]) hx hb dX4_judgedBehindBoth_49 hl (by decide) rfl (fun ls hl => ?_)
    refine lv_aload_n hx hb dX4_judgedBehindBoth_51 rfl (lv_at hl 1 rfl) ?_
    refine lv_iload hx hb dX4_judgedBehindBoth_52 (lv_at hl 0 rfl) ?_
    refine lv_if_eq (tgt := 61) hx hb dX4_judgedBehindBoth_54 (by decide) (fun c_54 => ?_) (fun c_54 => ?_)
    · have h := h.1 c_54
      refine lv_iload_n hx hb dX4_judgedBehindBoth_61 rfl (lv_at hl 2 rfl) ?_
      exact hB_Pleader_judgedBehindBoth_62 x1 h _ _ _ hw (lv_sub hl [3] rfl)
    · have h := h.2 c_54
      refine lv_iload_n hx hb dX4_judgedBehindBoth_57 rfl (lv_at hl 4 rfl) ?_
      refine lv_goto (tgt := 62) hx hb dX4_judgedBehindBoth_58 (by decide) ?_
      exact hB_Pleader_judgedBehindBoth_62 x3 h _ _ _ hw (lv_sub hl [3] rfl)
  refine lv_aload_n hx hb dX4_judgedBehindBoth_0 rfl (lv_at hl 0 rfl) ?_
  refine G_RX4_15 C hw 0 rfl dX4_judgedBehindBoth_1 ?_
  refine lv_iload_n hx hb dX4_judgedBehindBoth_4 rfl (lv_at hl 1 rfl) ?_
  refine callVi (As := [.int x1]) (rest := []) (W2 := fun _ => (cs_Pleader_judgedBehindBoth g a_t a_t_court a_t_court_by a_t_court_judgments a_t_court_roll a_t_court_weights a_t_court_roll_deeds a_t_court_weights_sums a_t_row a_t_court_costs a_t_court_roll_firstJudgments a_t_court_roll_years a_t_court_roll_pardoned a_t_court_roll_elders a_t_court_weights_each t_court_points t_court_allJudged t_court_by t_court_judgments t_court_roll_size t_court_weights_points t_court_roll_deeds t_court_weights_sums)) C hw hl (c_Court_unlikeness l g a_t_court a_t_court_by a_t_court_roll a_t_court_weights a_t_court_roll_deeds a_t_court_weights_sums a_t_court_costs a_t_court_judgments a_t_court_roll_firstJudgments a_t_court_roll_years a_t_court_roll_pardoned a_t_court_roll_elders a_t_court_weights_each t_court_points t_court_allJudged t_court_by t_court_roll_size t_court_weights_points t_court_roll_deeds t_court_weights_sums x1 _ h) tw_685 kk_X0_unlikeness rfl ⟨rfl, rfl⟩ ⟨by decide, by decide⟩ (Nat.le_of_ble_eq_true rfl) 1 rfl rfl rfl [1, 2, 4, 5, 6, 7] [0, 3] [0, 2, 3, 1, 4, 5, 6, 7] rfl rfl rfl rfl rfl rfl (fun u => rfl) rfl dX4_judgedBehindBoth_5 (fun r_2 u H locs h hw => ?_)
  refine lv_aload_n hx hb dX4_judgedBehindBoth_8 rfl (lv_at hl 0 rfl) ?_
  refine G_RX4_15 C hw 0 rfl dX4_judgedBehindBoth_9 ?_
  refine G_RX4_50 C hw 1 rfl dX4_judgedBehindBoth_12 ?_
  refine lv_iload_n hx hb dX4_judgedBehindBoth_15 rfl (lv_at hl 1 rfl) ?_
  refine lv_iload_n hx hb dX4_judgedBehindBoth_16 rfl (lv_at hl 2 rfl) ?_
  refine lv_ixor hx hb dX4_judgedBehindBoth_17 ?_
  refine callVi (As := [.int (x1 ^^^ x2)]) (rest := [.int r_2]) (W2 := fun _ => (cs_Pleader_judgedBehindBoth g a_t a_t_court a_t_court_by a_t_court_judgments a_t_court_roll a_t_court_weights a_t_court_roll_deeds a_t_court_weights_sums a_t_row a_t_court_costs a_t_court_roll_firstJudgments a_t_court_roll_years a_t_court_roll_pardoned a_t_court_roll_elders a_t_court_weights_each t_court_points t_court_allJudged t_court_by t_court_judgments t_court_roll_size t_court_weights_points t_court_roll_deeds t_court_weights_sums)) C hw hl (c_Scale_together l g a_t_court_weights a_t_court_weights_sums a_t_court_weights_each t_court_weights_points t_court_weights_sums (x1 ^^^ x2) _ h) tw_665 kk_X6_together rfl ⟨rfl, rfl⟩ ⟨by decide, by decide⟩ (Nat.le_of_ble_eq_true rfl) 5 rfl rfl rfl [5, 7] [0, 1, 2, 3, 4, 6] [0, 1, 2, 3, 4, 6, 5, 7] rfl rfl rfl rfl rfl rfl (fun u => rfl) rfl dX4_judgedBehindBoth_18 (fun r_3 u H locs h hw => ?_)
  refine mmin C hl tw_694 kmmin ⟨Nat.le_of_ble_eq_true rfl, Nat.le_of_ble_eq_true rfl⟩ dX4_judgedBehindBoth_21 ?_
  refine lv_topi (fun x4_4 ex4_4 => ?_)
  have h := h x4_4 ex4_4
  refine lv_istore (lv' := [(4, .int x4_4), (0, .ref a_t), (1, .int x1), (2, .int x2), (3, .int x3)]) hx hb dX4_judgedBehindBoth_24 hl (by decide) rfl (fun ls hl => ?_)
  refine lv_aload_n hx hb dX4_judgedBehindBoth_26 rfl (lv_at hl 1 rfl) ?_
  refine G_RX4_15 C hw 0 rfl dX4_judgedBehindBoth_27 ?_
  refine G_RX4_50 C hw 1 rfl dX4_judgedBehindBoth_30 ?_
  refine lv_iload_n hx hb dX4_judgedBehindBoth_33 rfl (lv_at hl 2 rfl) ?_
  refine lv_iload_n hx hb dX4_judgedBehindBoth_34 rfl (lv_at hl 4 rfl) ?_
  refine lv_ixor hx hb dX4_judgedBehindBoth_35 ?_
  refine callVi (As := [.int (x1 ^^^ x3)]) (rest := []) (W2 := fun _ => (cs_Pleader_judgedBehindBoth g a_t a_t_court a_t_court_by a_t_court_judgments a_t_court_roll a_t_court_weights a_t_court_roll_deeds a_t_court_weights_sums a_t_row a_t_court_costs a_t_court_roll_firstJudgments a_t_court_roll_years a_t_court_roll_pardoned a_t_court_roll_elders a_t_court_weights_each t_court_points t_court_allJudged t_court_by t_court_judgments t_court_roll_size t_court_weights_points t_court_roll_deeds t_court_weights_sums)) C hw hl (c_Scale_together l g a_t_court_weights a_t_court_weights_sums a_t_court_weights_each t_court_weights_points t_court_weights_sums (x1 ^^^ x3) _ h) tw_665 kk_X6_together rfl ⟨rfl, rfl⟩ ⟨by decide, by decide⟩ (Nat.le_of_ble_eq_true rfl) 5 rfl rfl rfl [5, 7] [0, 1, 2, 3, 4, 6] [0, 1, 2, 3, 4, 6, 5, 7] rfl rfl rfl rfl rfl rfl (fun u => rfl) rfl dX4_judgedBehindBoth_36 (fun r_5 u H locs h hw => ?_)
  refine lv_iload hx hb dX4_judgedBehindBoth_39 (lv_at hl 0 rfl) ?_
  refine lv_icmp_ge (tgt := 48) hx hb dX4_judgedBehindBoth_41 (by decide) (fun c_41 => ?_) (fun c_41 => ?_)
  · have h := h.1 c_41
    refine lv_iconst (v := 0) hx hb dX4_judgedBehindBoth_48 (by decide) ?_
    exact hB_Pleader_judgedBehindBoth_49 0 h _ _ _ hw (lv_sub hl [1, 2, 3, 4] rfl)
  · have h := h.2 c_41
    refine lv_iconst (v := 1) hx hb dX4_judgedBehindBoth_44 (by decide) ?_
    refine lv_goto (tgt := 49) hx hb dX4_judgedBehindBoth_45 (by decide) ?_
    exact hB_Pleader_judgedBehindBoth_49 1 h _ _ _ hw (lv_sub hl [1, 2, 3, 4] rfl)
def L_Pleader_fewestSuits_68 (x1 : Int32) (x2 : Int32) (t_court_points : Int32) (t_court_by : (Nat → Int32)) (t_court_judgments : (Nat → Int32)) (t_court_roll_size : Int32) (t_court_roll_deeds : (Nat → Int32)) (t_court_weights_sums : (Nat → Int32)) (Q : Int32 → (Nat → Int32) → Prop) (N_54 : Int32 → (Nat → Int32) → Prop) : Nat → Int32 → Int32 → (Nat → Int32) → Prop
  | 0 => fun _ _ _ => False
  | n + 1 => fun x3 x4 t_row => P_Court_deedCount t_court_points (fun r_1 => (r_1 ≤ x4 → N_54 (x3 + 1) t_row) ∧ (¬ r_1 ≤ x4 → P_Pleader_judgedBehindBoth x1 x3 x4 t_court_by t_court_judgments t_court_roll_size t_court_roll_deeds t_court_weights_sums (fun r_2 => (¬ r_2 = x2 → (L_Pleader_fewestSuits_68 x1 x2 t_court_points t_court_by t_court_judgments t_court_roll_size t_court_roll_deeds t_court_weights_sums Q N_54 n) x3 (x4 + 1) t_row) ∧ (r_2 = x2 → vp_in 0 2 ∧ (vp_in 1 2 ∧ (Q 2 (upd (upd t_row (0 : Int32).toNatClampNeg x3) (1 : Int32).toNatClampNeg x4)))))))
def L_Pleader_fewestSuits_54 (x1 : Int32) (x2 : Int32) (t_court_points : Int32) (t_court_by : (Nat → Int32)) (t_court_judgments : (Nat → Int32)) (t_court_roll_size : Int32) (t_court_roll_deeds : (Nat → Int32)) (t_court_weights_sums : (Nat → Int32)) (Q : Int32 → (Nat → Int32) → Prop) : Nat → Int32 → (Nat → Int32) → Prop
  | 0 => fun _ _ => False
  | n + 1 => fun x3 t_row => P_Court_deedCount t_court_points (fun r_3 => (r_3 ≤ x3 → Q (-1) t_row) ∧ (¬ r_3 ≤ x3 → ∃ n_68 : Nat, L_Pleader_fewestSuits_68 x1 x2 t_court_points t_court_by t_court_judgments t_court_roll_size t_court_roll_deeds t_court_weights_sums Q (L_Pleader_fewestSuits_54 x1 x2 t_court_points t_court_by t_court_judgments t_court_roll_size t_court_roll_deeds t_court_weights_sums Q n) n_68 x3 0 t_row))
def L_Pleader_fewestSuits_16 (x1 : Int32) (x2 : Int32) (t_court_points : Int32) (t_court_by : (Nat → Int32)) (t_court_judgments : (Nat → Int32)) (t_court_roll_size : Int32) (t_court_roll_deeds : (Nat → Int32)) (t_court_weights_sums : (Nat → Int32)) (Q : Int32 → (Nat → Int32) → Prop) : Nat → Int32 → (Nat → Int32) → Prop
  | 0 => fun _ _ => False
  | n + 1 => fun x3 t_row => P_Court_deedCount t_court_points (fun r_4 => (r_4 ≤ x3 → ∃ n_54 : Nat, L_Pleader_fewestSuits_54 x1 x2 t_court_points t_court_by t_court_judgments t_court_roll_size t_court_roll_deeds t_court_weights_sums Q n_54 0 t_row) ∧ (¬ r_4 ≤ x3 → P_Pleader_judgedBehind x1 x3 t_court_by t_court_judgments t_court_roll_size t_court_roll_deeds t_court_weights_sums (fun r_5 => (¬ r_5 = x2 → (L_Pleader_fewestSuits_16 x1 x2 t_court_points t_court_by t_court_judgments t_court_roll_size t_court_roll_deeds t_court_weights_sums Q n) (x3 + 1) t_row) ∧ (r_5 = x2 → vp_in 0 2 ∧ (Q 1 (upd t_row (0 : Int32).toNatClampNeg x3))))))
def P_Pleader_fewestSuits (x1 : Int32) (x2 : Int32) (t_court_points : Int32) (t_row : (Nat → Int32)) (t_court_by : (Nat → Int32)) (t_court_judgments : (Nat → Int32)) (t_court_roll_size : Int32) (t_court_roll_deeds : (Nat → Int32)) (t_court_weights_sums : (Nat → Int32)) (Q : Int32 → (Nat → Int32) → Prop) : Prop := P_Court_judgmentOf x1 t_court_judgments (fun r_6 => (¬ r_6 = x2 → ∃ n_16 : Nat, L_Pleader_fewestSuits_16 x1 x2 t_court_points t_court_by t_court_judgments t_court_roll_size t_court_roll_deeds t_court_weights_sums Q n_16 0 t_row) ∧ (r_6 = x2 → Q 0 t_row))
abbrev rm_Pleader_fewestSuits : Room := { frames := 4, cells := 0, slots := 0, locals := 90 }
def cs_Pleader_fewestSuits (g : GE) (a_t a_t_court a_t_row a_t_court_by a_t_court_judgments a_t_court_roll a_t_court_weights a_t_court_roll_deeds a_t_court_weights_sums a_t_court_costs a_t_court_roll_firstJudgments a_t_court_roll_years a_t_court_roll_pardoned a_t_court_roll_elders a_t_court_weights_each : Nat) (t_court_points : Int32) (t_court_allJudged : Int32) (t_row : (Nat → Int32)) (t_court_by : (Nat → Int32)) (t_court_judgments : (Nat → Int32)) (t_court_roll_size : Int32) (t_court_weights_points : Int32) (t_court_roll_deeds : (Nat → Int32)) (t_court_weights_sums : (Nat → Int32)) : va_W := [oc a_t 4 [.ref a_t_court, .ref a_t_row], oc a_t_court 0 [.ref a_t_court_weights, .ref a_t_court_costs, .ref a_t_court_roll, .int t_court_points, .ref a_t_court_by, .ref a_t_court_judgments, .int t_court_allJudged], ai g a_t_row 2 t_row, ai g a_t_court_by 1024 t_court_by, ai g a_t_court_judgments 1024 t_court_judgments, oc a_t_court_roll 5 [.ref a_t_court_roll_deeds, .ref a_t_court_roll_firstJudgments, .ref a_t_court_roll_years, .ref a_t_court_roll_pardoned, .ref a_t_court_roll_elders, .int t_court_roll_size], oc a_t_court_weights 6 [.ref a_t_court_weights_each, .ref a_t_court_weights_sums, .int t_court_weights_points], ai g a_t_court_roll_deeds 12 t_court_roll_deeds, ai g a_t_court_weights_sums 1024 t_court_weights_sums]
set_option maxHeartbeats 4000000 in
set_option maxRecDepth 100000 in
theorem c_Pleader_fewestSuits (l : Launch) (g : GE) (a_t a_t_court a_t_row a_t_court_by a_t_court_judgments a_t_court_roll a_t_court_weights a_t_court_roll_deeds a_t_court_weights_sums a_t_court_costs a_t_court_roll_firstJudgments a_t_court_roll_years a_t_court_roll_pardoned a_t_court_roll_elders a_t_court_weights_each : Nat) (t_court_points : Int32) (t_court_allJudged : Int32) (t_row : (Nat → Int32)) (t_court_by : (Nat → Int32)) (t_court_judgments : (Nat → Int32)) (t_court_roll_size : Int32) (t_court_weights_points : Int32) (t_court_roll_deeds : (Nat → Int32)) (t_court_weights_sums : (Nat → Int32)) (x1 : Int32) (x2 : Int32) (Q : Int32 → (Nat → Int32) → Prop) (h : P_Pleader_fewestSuits x1 x2 t_court_points t_row t_court_by t_court_judgments t_court_roll_size t_court_roll_deeds t_court_weights_sums Q) : Cti l g yX4_fewestSuits cX4_fewestSuits 5 (some .int) rm_Pleader_fewestSuits [.ref a_t, .int x1, .int x2] (cs_Pleader_fewestSuits g a_t a_t_court a_t_row a_t_court_by a_t_court_judgments a_t_court_roll a_t_court_weights a_t_court_roll_deeds a_t_court_weights_sums a_t_court_costs a_t_court_roll_firstJudgments a_t_court_roll_years a_t_court_roll_pardoned a_t_court_roll_elders a_t_court_weights_each t_court_points t_court_allJudged t_row t_court_by t_court_judgments t_court_roll_size t_court_weights_points t_court_roll_deeds t_court_weights_sums) (S := (Nat → Int32)) (fun r u => Q r u) (fun u => (cs_Pleader_fewestSuits g a_t a_t_court a_t_row a_t_court_by a_t_court_judgments a_t_court_roll a_t_court_weights a_t_court_roll_deeds a_t_court_weights_sums a_t_court_costs a_t_court_roll_firstJudgments a_t_court_roll_years a_t_court_roll_pardoned a_t_court_roll_elders a_t_court_weights_each t_court_points t_court_allJudged u t_court_by t_court_judgments t_court_roll_size t_court_weights_points t_court_roll_deeds t_court_weights_sums)) := by
  refine meetI rfl (Nat.le_of_ble_eq_true rfl) ⟨rfl, rfl⟩ ?_
  intro p e s m args below meth c A Qf ls C hret hw hl
  have hx := C.1
  have hb := C.2.1
  have hown := C.2.2.2.1
  have hts := C.2.2.2.2.1
  have hE := C.2.2.2.2.2.1
  have hl : lv_has ls 5 [(0, .ref a_t), (1, .int x1), (2, .int x2)] := hl
  have hL_Pleader_fewestSuits_68 : ∀ (N_54 : Int32 → (Nat → Int32) → Prop) (hN_54 : ∀ (x3 : Int32) (t_row : (Nat → Int32)), N_54 x3 t_row → Wat p l e rm_Pleader_fewestSuits s m args below meth c A Qf g 5 (cs_Pleader_fewestSuits g a_t a_t_court a_t_row a_t_court_by a_t_court_judgments a_t_court_roll a_t_court_weights a_t_court_roll_deeds a_t_court_weights_sums a_t_court_costs a_t_court_roll_firstJudgments a_t_court_roll_years a_t_court_roll_pardoned a_t_court_roll_elders a_t_court_weights_each t_court_points t_court_allJudged t_row t_court_by t_court_judgments t_court_roll_size t_court_weights_points t_court_roll_deeds t_court_weights_sums) [(0, .ref a_t), (1, .int x1), (2, .int x2), (3, .int x3)] 54 []) (n : Nat) (x3 : Int32) (x4 : Int32) (t_row : (Nat → Int32)), L_Pleader_fewestSuits_68 x1 x2 t_court_points t_court_by t_court_judgments t_court_roll_size t_court_roll_deeds t_court_weights_sums Q N_54 n x3 x4 t_row → Wat p l e rm_Pleader_fewestSuits s m args below meth c A Qf g 5 (cs_Pleader_fewestSuits g a_t a_t_court a_t_row a_t_court_by a_t_court_judgments a_t_court_roll a_t_court_weights a_t_court_roll_deeds a_t_court_weights_sums a_t_court_costs a_t_court_roll_firstJudgments a_t_court_roll_years a_t_court_roll_pardoned a_t_court_roll_elders a_t_court_weights_each t_court_points t_court_allJudged t_row t_court_by t_court_judgments t_court_roll_size t_court_weights_points t_court_roll_deeds t_court_weights_sums) [(0, .ref a_t), (1, .int x1), (2, .int x2), (3, .int x3), (4, .int x4)] 68 [] := by
    intro N_54 hN_54 n
    induction n with
    | zero => intro x3 x4 t_row h; exact absurd h id
    | succ n ih =>
      intro x3 x4 t_row h H locs ls hw hl
      rw [L_Pleader_fewestSuits_68] at h
      refine lv_iload hx hb dX4_fewestSuits_68 (lv_at hl 4 rfl) ?_
      refine lv_aload_n hx hb dX4_fewestSuits_70 rfl (lv_at hl 0 rfl) ?_
      refine G_RX4_15 C hw 0 rfl dX4_fewestSuits_71 ?_
      refine callVi (As := []) (rest := [.int x4]) (W2 := fun _ => (cs_Pleader_fewestSuits g a_t a_t_court a_t_row a_t_court_by a_t_court_judgments a_t_court_roll a_t_court_weights a_t_court_roll_deeds a_t_court_weights_sums a_t_court_costs a_t_court_roll_firstJudgments a_t_court_roll_years a_t_court_roll_pardoned a_t_court_roll_elders a_t_court_weights_each t_court_points t_court_allJudged t_row t_court_by t_court_judgments t_court_roll_size t_court_weights_points t_court_roll_deeds t_court_weights_sums)) C hw hl (c_Court_deedCount l g a_t_court a_t_court_weights a_t_court_costs a_t_court_roll a_t_court_by a_t_court_judgments t_court_points t_court_allJudged _ h) tw_664 kk_X0_deedCount rfl ⟨rfl, rfl⟩ ⟨by decide, by decide⟩ (Nat.le_of_ble_eq_true rfl) 1 rfl rfl rfl [1] [0, 2, 3, 4, 5, 6, 7, 8] [0, 8, 1, 2, 3, 4, 5, 6, 7] rfl rfl rfl rfl rfl rfl (fun u => rfl) rfl dX4_fewestSuits_74 (fun r_1 u H locs h hw => ?_)
      refine lv_icmp_ge (tgt := 115) hx hb dX4_fewestSuits_77 (by decide) (fun c_77 => ?_) (fun c_77 => ?_)
      · have h := h.1 c_77
        refine lv_iinc (v := x3 + 1) (lv' := [(3, .int (x3 + 1)), (0, .ref a_t), (1, .int x1), (2, .int x2), (4, .int x4)]) hx hb dX4_fewestSuits_115 hl (k := 3) rfl rfl (by decide) rfl (fun ls hl => ?_)
        refine lv_goto (tgt := 54) hx hb dX4_fewestSuits_118 (by decide) ?_
        exact hN_54 (x3 + 1) t_row h _ _ _ hw (lv_sub hl [1, 2, 3, 0] rfl)
      · have h := h.2 c_77
        refine lv_aload_n hx hb dX4_fewestSuits_80 rfl (lv_at hl 0 rfl) ?_
        refine lv_iload_n hx hb dX4_fewestSuits_81 rfl (lv_at hl 1 rfl) ?_
        refine lv_iload_n hx hb dX4_fewestSuits_82 rfl (lv_at hl 3 rfl) ?_
        refine lv_iload hx hb dX4_fewestSuits_83 (lv_at hl 4 rfl) ?_
        refine callVi (As := [.int x1, .int x3, .int x4]) (rest := []) (W2 := fun _ => (cs_Pleader_fewestSuits g a_t a_t_court a_t_row a_t_court_by a_t_court_judgments a_t_court_roll a_t_court_weights a_t_court_roll_deeds a_t_court_weights_sums a_t_court_costs a_t_court_roll_firstJudgments a_t_court_roll_years a_t_court_roll_pardoned a_t_court_roll_elders a_t_court_weights_each t_court_points t_court_allJudged t_row t_court_by t_court_judgments t_court_roll_size t_court_weights_points t_court_roll_deeds t_court_weights_sums)) C hw hl (c_Pleader_judgedBehindBoth l g a_t a_t_court a_t_court_by a_t_court_judgments a_t_court_roll a_t_court_weights a_t_court_roll_deeds a_t_court_weights_sums a_t_row a_t_court_costs a_t_court_roll_firstJudgments a_t_court_roll_years a_t_court_roll_pardoned a_t_court_roll_elders a_t_court_weights_each t_court_points t_court_allJudged t_court_by t_court_judgments t_court_roll_size t_court_weights_points t_court_roll_deeds t_court_weights_sums x1 x3 x4 _ h) tw_690 kk_X4_judgedBehindBoth rfl ⟨rfl, rfl⟩ ⟨by decide, by decide⟩ (Nat.le_of_ble_eq_true rfl) 0 rfl rfl rfl [0, 1, 3, 4, 5, 6, 7, 8] [2] [1, 2, 0, 3, 4, 5, 6, 7, 8] rfl rfl rfl rfl rfl rfl (fun u => rfl) rfl dX4_fewestSuits_85 (fun r_2 u H locs h hw => ?_)
        refine lv_iload_n hx hb dX4_fewestSuits_88 rfl (lv_at hl 2 rfl) ?_
        refine lv_icmp_ne (tgt := 109) hx hb dX4_fewestSuits_89 (by decide) (fun c_89 => ?_) (fun c_89 => ?_)
        · have h := h.1 c_89
          refine lv_iinc (v := x4 + 1) (lv' := [(4, .int (x4 + 1)), (0, .ref a_t), (1, .int x1), (2, .int x2), (3, .int x3)]) hx hb dX4_fewestSuits_109 hl (k := 4) rfl rfl (by decide) rfl (fun ls hl => ?_)
          refine lv_goto (tgt := 68) hx hb dX4_fewestSuits_112 (by decide) ?_
          exact ih x3 (x4 + 1) t_row h _ _ _ hw (lv_sub hl [1, 2, 3, 4, 0] rfl)
        · have h := h.2 c_89
          refine lv_aload_n hx hb dX4_fewestSuits_92 rfl (lv_at hl 0 rfl) ?_
          refine G_RX4_9 C hw 0 rfl dX4_fewestSuits_93 ?_
          refine lv_iconst (v := 0) hx hb dX4_fewestSuits_96 (by decide) ?_
          refine lv_iload_n hx hb dX4_fewestSuits_97 rfl (lv_at hl 3 rfl) ?_
          refine astI (ws2 := (cs_Pleader_fewestSuits g a_t a_t_court a_t_row a_t_court_by a_t_court_judgments a_t_court_roll a_t_court_weights a_t_court_roll_deeds a_t_court_weights_sums a_t_court_costs a_t_court_roll_firstJudgments a_t_court_roll_years a_t_court_roll_pardoned a_t_court_roll_elders a_t_court_weights_each t_court_points t_court_allJudged (upd t_row (0 : Int32).toNatClampNeg x3) t_court_by t_court_judgments t_court_roll_size t_court_weights_points t_court_roll_deeds t_court_weights_sums)) C hw 2 rfl h.1 rfl dX4_fewestSuits_98 (fun H locs hw => ?_)
          have h := h.2
          refine lv_aload_n hx hb dX4_fewestSuits_99 rfl (lv_at hl 0 rfl) ?_
          refine G_RX4_9 C hw 0 rfl dX4_fewestSuits_100 ?_
          refine lv_iconst (v := 1) hx hb dX4_fewestSuits_103 (by decide) ?_
          refine lv_iload hx hb dX4_fewestSuits_104 (lv_at hl 4 rfl) ?_
          refine astI (ws2 := (cs_Pleader_fewestSuits g a_t a_t_court a_t_row a_t_court_by a_t_court_judgments a_t_court_roll a_t_court_weights a_t_court_roll_deeds a_t_court_weights_sums a_t_court_costs a_t_court_roll_firstJudgments a_t_court_roll_years a_t_court_roll_pardoned a_t_court_roll_elders a_t_court_weights_each t_court_points t_court_allJudged (upd (upd t_row (0 : Int32).toNatClampNeg x3) (1 : Int32).toNatClampNeg x4) t_court_by t_court_judgments t_court_roll_size t_court_weights_points t_court_roll_deeds t_court_weights_sums)) C hw 2 rfl h.1 rfl dX4_fewestSuits_106 (fun H locs hw => ?_)
          have h := h.2
          refine lv_iconst (v := 2) hx hb dX4_fewestSuits_107 (by decide) ?_
          exact hret (upd (upd t_row (0 : Int32).toNatClampNeg x3) (1 : Int32).toNatClampNeg x4) h hw dX4_fewestSuits_108 rfl
  have hL_Pleader_fewestSuits_54 : ∀ (n : Nat) (x3 : Int32) (t_row : (Nat → Int32)), L_Pleader_fewestSuits_54 x1 x2 t_court_points t_court_by t_court_judgments t_court_roll_size t_court_roll_deeds t_court_weights_sums Q n x3 t_row → Wat p l e rm_Pleader_fewestSuits s m args below meth c A Qf g 5 (cs_Pleader_fewestSuits g a_t a_t_court a_t_row a_t_court_by a_t_court_judgments a_t_court_roll a_t_court_weights a_t_court_roll_deeds a_t_court_weights_sums a_t_court_costs a_t_court_roll_firstJudgments a_t_court_roll_years a_t_court_roll_pardoned a_t_court_roll_elders a_t_court_weights_each t_court_points t_court_allJudged t_row t_court_by t_court_judgments t_court_roll_size t_court_weights_points t_court_roll_deeds t_court_weights_sums) [(0, .ref a_t), (1, .int x1), (2, .int x2), (3, .int x3)] 54 [] := by
    intro n
    induction n with
    | zero => intro x3 t_row h; exact absurd h id
    | succ n ih =>
      intro x3 t_row h H locs ls hw hl
      rw [L_Pleader_fewestSuits_54] at h
      refine lv_iload_n hx hb dX4_fewestSuits_54 rfl (lv_at hl 3 rfl) ?_
      refine lv_aload_n hx hb dX4_fewestSuits_55 rfl (lv_at hl 0 rfl) ?_
      refine G_RX4_15 C hw 0 rfl dX4_fewestSuits_56 ?_
      refine callVi (As := []) (rest := [.int x3]) (W2 := fun _ => (cs_Pleader_fewestSuits g a_t a_t_court a_t_row a_t_court_by a_t_court_judgments a_t_court_roll a_t_court_weights a_t_court_roll_deeds a_t_court_weights_sums a_t_court_costs a_t_court_roll_firstJudgments a_t_court_roll_years a_t_court_roll_pardoned a_t_court_roll_elders a_t_court_weights_each t_court_points t_court_allJudged t_row t_court_by t_court_judgments t_court_roll_size t_court_weights_points t_court_roll_deeds t_court_weights_sums)) C hw hl (c_Court_deedCount l g a_t_court a_t_court_weights a_t_court_costs a_t_court_roll a_t_court_by a_t_court_judgments t_court_points t_court_allJudged _ h) tw_664 kk_X0_deedCount rfl ⟨rfl, rfl⟩ ⟨by decide, by decide⟩ (Nat.le_of_ble_eq_true rfl) 1 rfl rfl rfl [1] [0, 2, 3, 4, 5, 6, 7, 8] [0, 8, 1, 2, 3, 4, 5, 6, 7] rfl rfl rfl rfl rfl rfl (fun u => rfl) rfl dX4_fewestSuits_59 (fun r_3 u H locs h hw => ?_)
      refine lv_icmp_ge (tgt := 121) hx hb dX4_fewestSuits_62 (by decide) (fun c_62 => ?_) (fun c_62 => ?_)
      · have h := h.1 c_62
        refine lv_iconst (v := (-1)) hx hb dX4_fewestSuits_121 (by decide) ?_
        exact hret (t_row) h hw dX4_fewestSuits_122 rfl
      · have h := h.2 c_62
        refine lv_iconst (v := 0) hx hb dX4_fewestSuits_65 (by decide) ?_
        refine lv_istore (lv' := [(4, .int 0), (0, .ref a_t), (1, .int x1), (2, .int x2), (3, .int x3)]) hx hb dX4_fewestSuits_66 hl (by decide) rfl (fun ls hl => ?_)
        obtain ⟨n_68, h⟩ := h
        exact hL_Pleader_fewestSuits_68 (L_Pleader_fewestSuits_54 x1 x2 t_court_points t_court_by t_court_judgments t_court_roll_size t_court_roll_deeds t_court_weights_sums Q n) ih n_68 x3 0 t_row h _ _ _ hw (lv_sub hl [1, 2, 3, 4, 0] rfl)
  have hL_Pleader_fewestSuits_16 : ∀ (n : Nat) (x3 : Int32) (t_row : (Nat → Int32)), L_Pleader_fewestSuits_16 x1 x2 t_court_points t_court_by t_court_judgments t_court_roll_size t_court_roll_deeds t_court_weights_sums Q n x3 t_row → Wat p l e rm_Pleader_fewestSuits s m args below meth c A Qf g 5 (cs_Pleader_fewestSuits g a_t a_t_court a_t_row a_t_court_by a_t_court_judgments a_t_court_roll a_t_court_weights a_t_court_roll_deeds a_t_court_weights_sums a_t_court_costs a_t_court_roll_firstJudgments a_t_court_roll_years a_t_court_roll_pardoned a_t_court_roll_elders a_t_court_weights_each t_court_points t_court_allJudged t_row t_court_by t_court_judgments t_court_roll_size t_court_weights_points t_court_roll_deeds t_court_weights_sums) [(0, .ref a_t), (1, .int x1), (2, .int x2), (3, .int x3)] 16 [] := by
    intro n
    induction n with
    | zero => intro x3 t_row h; exact absurd h id
    | succ n ih =>
      intro x3 t_row h H locs ls hw hl
      rw [L_Pleader_fewestSuits_16] at h
      refine lv_iload_n hx hb dX4_fewestSuits_16 rfl (lv_at hl 3 rfl) ?_
      refine lv_aload_n hx hb dX4_fewestSuits_17 rfl (lv_at hl 0 rfl) ?_
      refine G_RX4_15 C hw 0 rfl dX4_fewestSuits_18 ?_
      refine callVi (As := []) (rest := [.int x3]) (W2 := fun _ => (cs_Pleader_fewestSuits g a_t a_t_court a_t_row a_t_court_by a_t_court_judgments a_t_court_roll a_t_court_weights a_t_court_roll_deeds a_t_court_weights_sums a_t_court_costs a_t_court_roll_firstJudgments a_t_court_roll_years a_t_court_roll_pardoned a_t_court_roll_elders a_t_court_weights_each t_court_points t_court_allJudged t_row t_court_by t_court_judgments t_court_roll_size t_court_weights_points t_court_roll_deeds t_court_weights_sums)) C hw hl (c_Court_deedCount l g a_t_court a_t_court_weights a_t_court_costs a_t_court_roll a_t_court_by a_t_court_judgments t_court_points t_court_allJudged _ h) tw_664 kk_X0_deedCount rfl ⟨rfl, rfl⟩ ⟨by decide, by decide⟩ (Nat.le_of_ble_eq_true rfl) 1 rfl rfl rfl [1] [0, 2, 3, 4, 5, 6, 7, 8] [0, 8, 1, 2, 3, 4, 5, 6, 7] rfl rfl rfl rfl rfl rfl (fun u => rfl) rfl dX4_fewestSuits_21 (fun r_4 u H locs h hw => ?_)
      refine lv_icmp_ge (tgt := 52) hx hb dX4_fewestSuits_24 (by decide) (fun c_24 => ?_) (fun c_24 => ?_)
      · have h := h.1 c_24
        refine lv_iconst (v := 0) hx hb dX4_fewestSuits_52 (by decide) ?_
        refine lv_istore_n (lv' := [(3, .int 0), (0, .ref a_t), (1, .int x1), (2, .int x2)]) hx hb dX4_fewestSuits_53 rfl hl (by decide) rfl (fun ls hl => ?_)
        obtain ⟨n_54, h⟩ := h
        exact hL_Pleader_fewestSuits_54 n_54 0 t_row h _ _ _ hw (lv_sub hl [1, 2, 3, 0] rfl)
      · have h := h.2 c_24
        refine lv_aload_n hx hb dX4_fewestSuits_27 rfl (lv_at hl 0 rfl) ?_
        refine lv_iload_n hx hb dX4_fewestSuits_28 rfl (lv_at hl 1 rfl) ?_
        refine lv_iload_n hx hb dX4_fewestSuits_29 rfl (lv_at hl 3 rfl) ?_
        refine callVi (As := [.int x1, .int x3]) (rest := []) (W2 := fun _ => (cs_Pleader_fewestSuits g a_t a_t_court a_t_row a_t_court_by a_t_court_judgments a_t_court_roll a_t_court_weights a_t_court_roll_deeds a_t_court_weights_sums a_t_court_costs a_t_court_roll_firstJudgments a_t_court_roll_years a_t_court_roll_pardoned a_t_court_roll_elders a_t_court_weights_each t_court_points t_court_allJudged t_row t_court_by t_court_judgments t_court_roll_size t_court_weights_points t_court_roll_deeds t_court_weights_sums)) C hw hl (c_Pleader_judgedBehind l g a_t a_t_court a_t_court_by a_t_court_judgments a_t_court_roll a_t_court_weights a_t_court_roll_deeds a_t_court_weights_sums a_t_row a_t_court_costs a_t_court_roll_firstJudgments a_t_court_roll_years a_t_court_roll_pardoned a_t_court_roll_elders a_t_court_weights_each t_court_points t_court_allJudged t_court_by t_court_judgments t_court_roll_size t_court_weights_points t_court_roll_deeds t_court_weights_sums x1 x3 _ h) tw_681 kk_X4_judgedBehind rfl ⟨rfl, rfl⟩ ⟨by decide, by decide⟩ (Nat.le_of_ble_eq_true rfl) 0 rfl rfl rfl [0, 1, 3, 4, 5, 6, 7, 8] [2] [1, 2, 0, 3, 4, 5, 6, 7, 8] rfl rfl rfl rfl rfl rfl (fun u => rfl) rfl dX4_fewestSuits_30 (fun r_5 u H locs h hw => ?_)
        refine lv_iload_n hx hb dX4_fewestSuits_33 rfl (lv_at hl 2 rfl) ?_
        refine lv_icmp_ne (tgt := 46) hx hb dX4_fewestSuits_34 (by decide) (fun c_34 => ?_) (fun c_34 => ?_)
        · have h := h.1 c_34
          refine lv_iinc (v := x3 + 1) (lv' := [(3, .int (x3 + 1)), (0, .ref a_t), (1, .int x1), (2, .int x2)]) hx hb dX4_fewestSuits_46 hl (k := 3) rfl rfl (by decide) rfl (fun ls hl => ?_)
          refine lv_goto (tgt := 16) hx hb dX4_fewestSuits_49 (by decide) ?_
          exact ih (x3 + 1) t_row h _ _ _ hw (lv_sub hl [1, 2, 3, 0] rfl)
        · have h := h.2 c_34
          refine lv_aload_n hx hb dX4_fewestSuits_37 rfl (lv_at hl 0 rfl) ?_
          refine G_RX4_9 C hw 0 rfl dX4_fewestSuits_38 ?_
          refine lv_iconst (v := 0) hx hb dX4_fewestSuits_41 (by decide) ?_
          refine lv_iload_n hx hb dX4_fewestSuits_42 rfl (lv_at hl 3 rfl) ?_
          refine astI (ws2 := (cs_Pleader_fewestSuits g a_t a_t_court a_t_row a_t_court_by a_t_court_judgments a_t_court_roll a_t_court_weights a_t_court_roll_deeds a_t_court_weights_sums a_t_court_costs a_t_court_roll_firstJudgments a_t_court_roll_years a_t_court_roll_pardoned a_t_court_roll_elders a_t_court_weights_each t_court_points t_court_allJudged (upd t_row (0 : Int32).toNatClampNeg x3) t_court_by t_court_judgments t_court_roll_size t_court_weights_points t_court_roll_deeds t_court_weights_sums)) C hw 2 rfl h.1 rfl dX4_fewestSuits_43 (fun H locs hw => ?_)
          have h := h.2
          refine lv_iconst (v := 1) hx hb dX4_fewestSuits_44 (by decide) ?_
          exact hret (upd t_row (0 : Int32).toNatClampNeg x3) h hw dX4_fewestSuits_45 rfl
  refine lv_aload_n hx hb dX4_fewestSuits_0 rfl (lv_at hl 0 rfl) ?_
  refine G_RX4_15 C hw 0 rfl dX4_fewestSuits_1 ?_
  refine lv_iload_n hx hb dX4_fewestSuits_4 rfl (lv_at hl 1 rfl) ?_
  refine callVi (As := [.int x1]) (rest := []) (W2 := fun _ => (cs_Pleader_fewestSuits g a_t a_t_court a_t_row a_t_court_by a_t_court_judgments a_t_court_roll a_t_court_weights a_t_court_roll_deeds a_t_court_weights_sums a_t_court_costs a_t_court_roll_firstJudgments a_t_court_roll_years a_t_court_roll_pardoned a_t_court_roll_elders a_t_court_weights_each t_court_points t_court_allJudged t_row t_court_by t_court_judgments t_court_roll_size t_court_weights_points t_court_roll_deeds t_court_weights_sums)) C hw hl (c_Court_judgmentOf l g a_t_court a_t_court_judgments a_t_court_weights a_t_court_costs a_t_court_roll a_t_court_by t_court_points t_court_allJudged t_court_judgments x1 _ h) tw_666 kk_X0_judgmentOf rfl ⟨rfl, rfl⟩ ⟨by decide, by decide⟩ (Nat.le_of_ble_eq_true rfl) 1 rfl rfl rfl [1, 4] [0, 2, 3, 5, 6, 7, 8] [0, 7, 1, 2, 8, 3, 4, 5, 6] rfl rfl rfl rfl rfl rfl (fun u => rfl) rfl dX4_fewestSuits_5 (fun r_6 u H locs h hw => ?_)
  refine lv_iload_n hx hb dX4_fewestSuits_8 rfl (lv_at hl 2 rfl) ?_
  refine lv_icmp_ne (tgt := 14) hx hb dX4_fewestSuits_9 (by decide) (fun c_9 => ?_) (fun c_9 => ?_)
  · have h := h.1 c_9
    refine lv_iconst (v := 0) hx hb dX4_fewestSuits_14 (by decide) ?_
    refine lv_istore_n (lv' := [(3, .int 0), (0, .ref a_t), (1, .int x1), (2, .int x2)]) hx hb dX4_fewestSuits_15 rfl hl (by decide) rfl (fun ls hl => ?_)
    obtain ⟨n_16, h⟩ := h
    exact hL_Pleader_fewestSuits_16 n_16 0 t_row h _ _ _ hw (lv_sub hl [1, 2, 3, 0] rfl)
  · have h := h.2 c_9
    refine lv_iconst (v := 0) hx hb dX4_fewestSuits_12 (by decide) ?_
    exact hret (t_row) h hw dX4_fewestSuits_13 rfl
def B_Pleader_suit_23 (x1 : Int32) (t_row : (Nat → Int32)) (Q : Int32 → Prop) (k0 : Int32) : Prop := Q k0
def B_Pleader_suit_22 (x1 : Int32) (t_row : (Nat → Int32)) (Q : Int32 → Prop) : Prop := B_Pleader_suit_23 x1 t_row Q (-1)
def P_Pleader_suit (x1 : Int32) (t_row : (Nat → Int32)) (Q : Int32 → Prop) : Prop := (x1 < 0 → B_Pleader_suit_22 x1 t_row Q) ∧ (¬ x1 < 0 → ((nI 2) ≤ x1 → B_Pleader_suit_22 x1 t_row Q) ∧ (¬ (nI 2) ≤ x1 → vp_in x1 2 ∧ (B_Pleader_suit_23 x1 t_row Q (t_row x1.toNatClampNeg))))
abbrev rm_Pleader_suit : Room := { frames := 0, cells := 0, slots := 0, locals := 0 }
def cs_Pleader_suit (g : GE) (a_t a_t_row a_t_court : Nat) (t_row : (Nat → Int32)) : va_W := [oc a_t 4 [.ref a_t_court, .ref a_t_row], ai g a_t_row 2 t_row]
set_option maxHeartbeats 4000000 in
set_option maxRecDepth 100000 in
theorem c_Pleader_suit (l : Launch) (g : GE) (a_t a_t_row a_t_court : Nat) (t_row : (Nat → Int32)) (x1 : Int32) (Q : Int32 → Prop) (h : P_Pleader_suit x1 t_row Q) : Cti l g yX4_suit cX4_suit 2 (some .int) rm_Pleader_suit [.ref a_t, .int x1] (cs_Pleader_suit g a_t a_t_row a_t_court t_row) (S := Unit) (fun r u => Q r) (fun _ => (cs_Pleader_suit g a_t a_t_row a_t_court t_row)) := by
  refine meetI rfl (Nat.le_of_ble_eq_true rfl) ⟨rfl, rfl⟩ ?_
  intro p e s m args below meth c A Qf ls C hret hw hl
  have hx := C.1
  have hb := C.2.1
  have hown := C.2.2.2.1
  have hts := C.2.2.2.2.1
  have hE := C.2.2.2.2.2.1
  have hl : lv_has ls 2 [(0, .ref a_t), (1, .int x1)] := hl
  have hB_Pleader_suit_23 : ∀ (k0 : Int32), B_Pleader_suit_23 x1 t_row Q k0 → Wat p l e rm_Pleader_suit s m args below meth c A Qf g 2 (cs_Pleader_suit g a_t a_t_row a_t_court t_row) [] 23 [.int k0] := by
    intro k0 h H locs ls hw hl
    exact hret () h hw dX4_suit_23 rfl
  have hB_Pleader_suit_22 : B_Pleader_suit_22 x1 t_row Q → Wat p l e rm_Pleader_suit s m args below meth c A Qf g 2 (cs_Pleader_suit g a_t a_t_row a_t_court t_row) [] 22 [] := by
    intro  h H locs ls hw hl
    refine lv_iconst (v := (-1)) hx hb dX4_suit_22 (by decide) ?_
    exact hB_Pleader_suit_23 (-1) h _ _ _ hw (lv_sub hl [] rfl)
  refine lv_iload_n hx hb dX4_suit_0 rfl (lv_at hl 1 rfl) ?_
  refine lv_if_lt (tgt := 22) hx hb dX4_suit_1 (by decide) (fun c_1 => ?_) (fun c_1 => ?_)
  · have h := h.1 c_1
    exact hB_Pleader_suit_22  h _ _ _ hw (lv_sub hl [] rfl)
  · have h := h.2 c_1
    refine lv_iload_n hx hb dX4_suit_4 rfl (lv_at hl 1 rfl) ?_
    refine lv_aload_n hx hb dX4_suit_5 rfl (lv_at hl 0 rfl) ?_
    refine G_RX4_9 C hw 0 rfl dX4_suit_6 ?_
    refine alnI C hw 1 rfl dX4_suit_9 ?_
    refine lv_icmp_ge (tgt := 22) hx hb dX4_suit_10 (by decide) (fun c_10 => ?_) (fun c_10 => ?_)
    · have h := h.1 c_10
      exact hB_Pleader_suit_22  h _ _ _ hw (lv_sub hl [] rfl)
    · have h := h.2 c_10
      refine lv_aload_n hx hb dX4_suit_13 rfl (lv_at hl 0 rfl) ?_
      refine G_RX4_9 C hw 0 rfl dX4_suit_14 ?_
      refine lv_iload_n hx hb dX4_suit_17 rfl (lv_at hl 1 rfl) ?_
      refine aldI C hw 1 rfl h.1 dX4_suit_18 ?_
      have h := h.2
      refine lv_goto (tgt := 23) hx hb dX4_suit_19 (by decide) ?_
      exact hB_Pleader_suit_23 (t_row x1.toNatClampNeg) h _ _ _ hw (lv_sub hl [] rfl)
def L_Pleader_isSafe_3 (x1 : Int32) (x2 : Int32) (x3 : Int32) (t_court_points : Int32) (t_court_by : (Nat → Int32)) (t_court_judgments : (Nat → Int32)) (t_court_roll_size : Int32) (t_court_roll_deeds : (Nat → Int32)) (t_court_weights_sums : (Nat → Int32)) (Q : Int32 → Prop) : Nat → Int32 → Prop
  | 0 => fun _ => False
  | n + 1 => fun x4 => P_Court_deedCount t_court_points (fun r_1 => (r_1 ≤ x4 → Q 1) ∧ (¬ r_1 ≤ x4 → P_Pleader_judgedBehindBoth x1 x2 x4 t_court_by t_court_judgments t_court_roll_size t_court_roll_deeds t_court_weights_sums (fun r_2 => (r_2 = x3 → (L_Pleader_isSafe_3 x1 x2 x3 t_court_points t_court_by t_court_judgments t_court_roll_size t_court_roll_deeds t_court_weights_sums Q n) (x4 + 1)) ∧ (¬ r_2 = x3 → Q 0))))
def P_Pleader_isSafe (x1 : Int32) (x2 : Int32) (x3 : Int32) (t_court_points : Int32) (t_court_by : (Nat → Int32)) (t_court_judgments : (Nat → Int32)) (t_court_roll_size : Int32) (t_court_roll_deeds : (Nat → Int32)) (t_court_weights_sums : (Nat → Int32)) (Q : Int32 → Prop) : Prop := ∃ n_3 : Nat, L_Pleader_isSafe_3 x1 x2 x3 t_court_points t_court_by t_court_judgments t_court_roll_size t_court_roll_deeds t_court_weights_sums Q n_3 0
abbrev rm_Pleader_isSafe : Room := { frames := 4, cells := 0, slots := 0, locals := 90 }
def cs_Pleader_isSafe (g : GE) (a_t a_t_court a_t_court_by a_t_court_judgments a_t_court_roll a_t_court_weights a_t_court_roll_deeds a_t_court_weights_sums a_t_row a_t_court_costs a_t_court_roll_firstJudgments a_t_court_roll_years a_t_court_roll_pardoned a_t_court_roll_elders a_t_court_weights_each : Nat) (t_court_points : Int32) (t_court_allJudged : Int32) (t_court_by : (Nat → Int32)) (t_court_judgments : (Nat → Int32)) (t_court_roll_size : Int32) (t_court_weights_points : Int32) (t_court_roll_deeds : (Nat → Int32)) (t_court_weights_sums : (Nat → Int32)) : va_W := [oc a_t 4 [.ref a_t_court, .ref a_t_row], oc a_t_court 0 [.ref a_t_court_weights, .ref a_t_court_costs, .ref a_t_court_roll, .int t_court_points, .ref a_t_court_by, .ref a_t_court_judgments, .int t_court_allJudged], ai g a_t_court_by 1024 t_court_by, ai g a_t_court_judgments 1024 t_court_judgments, oc a_t_court_roll 5 [.ref a_t_court_roll_deeds, .ref a_t_court_roll_firstJudgments, .ref a_t_court_roll_years, .ref a_t_court_roll_pardoned, .ref a_t_court_roll_elders, .int t_court_roll_size], oc a_t_court_weights 6 [.ref a_t_court_weights_each, .ref a_t_court_weights_sums, .int t_court_weights_points], ai g a_t_court_roll_deeds 12 t_court_roll_deeds, ai g a_t_court_weights_sums 1024 t_court_weights_sums]
set_option maxHeartbeats 4000000 in
set_option maxRecDepth 100000 in
theorem c_Pleader_isSafe (l : Launch) (g : GE) (a_t a_t_court a_t_court_by a_t_court_judgments a_t_court_roll a_t_court_weights a_t_court_roll_deeds a_t_court_weights_sums a_t_row a_t_court_costs a_t_court_roll_firstJudgments a_t_court_roll_years a_t_court_roll_pardoned a_t_court_roll_elders a_t_court_weights_each : Nat) (t_court_points : Int32) (t_court_allJudged : Int32) (t_court_by : (Nat → Int32)) (t_court_judgments : (Nat → Int32)) (t_court_roll_size : Int32) (t_court_weights_points : Int32) (t_court_roll_deeds : (Nat → Int32)) (t_court_weights_sums : (Nat → Int32)) (x1 : Int32) (x2 : Int32) (x3 : Int32) (Q : Int32 → Prop) (h : P_Pleader_isSafe x1 x2 x3 t_court_points t_court_by t_court_judgments t_court_roll_size t_court_roll_deeds t_court_weights_sums Q) : Cti l g yX4_isSafe cX4_isSafe 5 (some .boolean) rm_Pleader_isSafe [.ref a_t, .int x1, .int x2, .int x3] (cs_Pleader_isSafe g a_t a_t_court a_t_court_by a_t_court_judgments a_t_court_roll a_t_court_weights a_t_court_roll_deeds a_t_court_weights_sums a_t_row a_t_court_costs a_t_court_roll_firstJudgments a_t_court_roll_years a_t_court_roll_pardoned a_t_court_roll_elders a_t_court_weights_each t_court_points t_court_allJudged t_court_by t_court_judgments t_court_roll_size t_court_weights_points t_court_roll_deeds t_court_weights_sums) (S := Unit) (fun r u => Q r) (fun _ => (cs_Pleader_isSafe g a_t a_t_court a_t_court_by a_t_court_judgments a_t_court_roll a_t_court_weights a_t_court_roll_deeds a_t_court_weights_sums a_t_row a_t_court_costs a_t_court_roll_firstJudgments a_t_court_roll_years a_t_court_roll_pardoned a_t_court_roll_elders a_t_court_weights_each t_court_points t_court_allJudged t_court_by t_court_judgments t_court_roll_size t_court_weights_points t_court_roll_deeds t_court_weights_sums)) := by
  refine meetI rfl (Nat.le_of_ble_eq_true rfl) ⟨rfl, rfl⟩ ?_
  intro p e s m args below meth c A Qf ls C hret hw hl
  have hx := C.1
  have hb := C.2.1
  have hown := C.2.2.2.1
  have hts := C.2.2.2.2.1
  have hE := C.2.2.2.2.2.1
  have hl : lv_has ls 5 [(0, .ref a_t), (1, .int x1), (2, .int x2), (3, .int x3)] := hl
  have hL_Pleader_isSafe_3 : ∀ (n : Nat) (x4 : Int32), L_Pleader_isSafe_3 x1 x2 x3 t_court_points t_court_by t_court_judgments t_court_roll_size t_court_roll_deeds t_court_weights_sums Q n x4 → Wat p l e rm_Pleader_isSafe s m args below meth c A Qf g 5 (cs_Pleader_isSafe g a_t a_t_court a_t_court_by a_t_court_judgments a_t_court_roll a_t_court_weights a_t_court_roll_deeds a_t_court_weights_sums a_t_row a_t_court_costs a_t_court_roll_firstJudgments a_t_court_roll_years a_t_court_roll_pardoned a_t_court_roll_elders a_t_court_weights_each t_court_points t_court_allJudged t_court_by t_court_judgments t_court_roll_size t_court_weights_points t_court_roll_deeds t_court_weights_sums) [(0, .ref a_t), (1, .int x1), (2, .int x2), (3, .int x3), (4, .int x4)] 3 [] := by
    intro n
    induction n with
    | zero => intro x4 h; exact absurd h id
    | succ n ih =>
      intro x4 h H locs ls hw hl
      rw [L_Pleader_isSafe_3] at h
      refine lv_iload hx hb dX4_isSafe_3 (lv_at hl 4 rfl) ?_
      refine lv_aload_n hx hb dX4_isSafe_5 rfl (lv_at hl 0 rfl) ?_
      refine G_RX4_15 C hw 0 rfl dX4_isSafe_6 ?_
      refine callVi (As := []) (rest := [.int x4]) (W2 := fun _ => (cs_Pleader_isSafe g a_t a_t_court a_t_court_by a_t_court_judgments a_t_court_roll a_t_court_weights a_t_court_roll_deeds a_t_court_weights_sums a_t_row a_t_court_costs a_t_court_roll_firstJudgments a_t_court_roll_years a_t_court_roll_pardoned a_t_court_roll_elders a_t_court_weights_each t_court_points t_court_allJudged t_court_by t_court_judgments t_court_roll_size t_court_weights_points t_court_roll_deeds t_court_weights_sums)) C hw hl (c_Court_deedCount l g a_t_court a_t_court_weights a_t_court_costs a_t_court_roll a_t_court_by a_t_court_judgments t_court_points t_court_allJudged _ h) tw_664 kk_X0_deedCount rfl ⟨rfl, rfl⟩ ⟨by decide, by decide⟩ (Nat.le_of_ble_eq_true rfl) 1 rfl rfl rfl [1] [0, 2, 3, 4, 5, 6, 7] [0, 7, 1, 2, 3, 4, 5, 6] rfl rfl rfl rfl rfl rfl (fun u => rfl) rfl dX4_isSafe_9 (fun r_1 u H locs h hw => ?_)
      refine lv_icmp_ge (tgt := 35) hx hb dX4_isSafe_12 (by decide) (fun c_12 => ?_) (fun c_12 => ?_)
      · have h := h.1 c_12
        refine lv_iconst (v := 1) hx hb dX4_isSafe_35 (by decide) ?_
        exact hret () h hw dX4_isSafe_36 rfl
      · have h := h.2 c_12
        refine lv_aload_n hx hb dX4_isSafe_15 rfl (lv_at hl 0 rfl) ?_
        refine lv_iload_n hx hb dX4_isSafe_16 rfl (lv_at hl 1 rfl) ?_
        refine lv_iload_n hx hb dX4_isSafe_17 rfl (lv_at hl 2 rfl) ?_
        refine lv_iload hx hb dX4_isSafe_18 (lv_at hl 4 rfl) ?_
        refine callVi (As := [.int x1, .int x2, .int x4]) (rest := []) (W2 := fun _ => (cs_Pleader_isSafe g a_t a_t_court a_t_court_by a_t_court_judgments a_t_court_roll a_t_court_weights a_t_court_roll_deeds a_t_court_weights_sums a_t_row a_t_court_costs a_t_court_roll_firstJudgments a_t_court_roll_years a_t_court_roll_pardoned a_t_court_roll_elders a_t_court_weights_each t_court_points t_court_allJudged t_court_by t_court_judgments t_court_roll_size t_court_weights_points t_court_roll_deeds t_court_weights_sums)) C hw hl (c_Pleader_judgedBehindBoth l g a_t a_t_court a_t_court_by a_t_court_judgments a_t_court_roll a_t_court_weights a_t_court_roll_deeds a_t_court_weights_sums a_t_row a_t_court_costs a_t_court_roll_firstJudgments a_t_court_roll_years a_t_court_roll_pardoned a_t_court_roll_elders a_t_court_weights_each t_court_points t_court_allJudged t_court_by t_court_judgments t_court_roll_size t_court_weights_points t_court_roll_deeds t_court_weights_sums x1 x2 x4 _ h) tw_690 kk_X4_judgedBehindBoth rfl ⟨rfl, rfl⟩ ⟨by decide, by decide⟩ (Nat.le_of_ble_eq_true rfl) 0 rfl rfl rfl [0, 1, 2, 3, 4, 5, 6, 7] [] [0, 1, 2, 3, 4, 5, 6, 7] rfl rfl rfl rfl rfl rfl (fun u => rfl) rfl dX4_isSafe_20 (fun r_2 u H locs h hw => ?_)
        refine lv_iload_n hx hb dX4_isSafe_23 rfl (lv_at hl 3 rfl) ?_
        refine lv_icmp_eq (tgt := 29) hx hb dX4_isSafe_24 (by decide) (fun c_24 => ?_) (fun c_24 => ?_)
        · have h := h.1 c_24
          refine lv_iinc (v := x4 + 1) (lv' := [(4, .int (x4 + 1)), (0, .ref a_t), (1, .int x1), (2, .int x2), (3, .int x3)]) hx hb dX4_isSafe_29 hl (k := 4) rfl rfl (by decide) rfl (fun ls hl => ?_)
          refine lv_goto (tgt := 3) hx hb dX4_isSafe_32 (by decide) ?_
          exact ih (x4 + 1) h _ _ _ hw (lv_sub hl [1, 2, 3, 4, 0] rfl)
        · have h := h.2 c_24
          refine lv_iconst (v := 0) hx hb dX4_isSafe_27 (by decide) ?_
          exact hret () h hw dX4_isSafe_28 rfl
  refine lv_iconst (v := 0) hx hb dX4_isSafe_0 (by decide) ?_
  refine lv_istore (lv' := [(4, .int 0), (0, .ref a_t), (1, .int x1), (2, .int x2), (3, .int x3)]) hx hb dX4_isSafe_1 hl (by decide) rfl (fun ls hl => ?_)
  obtain ⟨n_3, h⟩ := h
  exact hL_Pleader_isSafe_3 n_3 0 h _ _ _ hw (lv_sub hl [1, 2, 3, 4, 0] rfl)
def B_Pleader_safeDeed_35 (x1 : Int32) (x2 : Int32) (t_court_points : Int32) (t_court_by : (Nat → Int32)) (t_court_judgments : (Nat → Int32)) (t_court_roll_size : Int32) (t_court_roll_deeds : (Nat → Int32)) (t_court_weights_sums : (Nat → Int32)) (Q : Int32 → Prop) (N_2 : Int32 → Prop) (x3 : Int32) : Prop := N_2 (x3 + 1)
def L_Pleader_safeDeed_2 (x1 : Int32) (x2 : Int32) (t_court_points : Int32) (t_court_by : (Nat → Int32)) (t_court_judgments : (Nat → Int32)) (t_court_roll_size : Int32) (t_court_roll_deeds : (Nat → Int32)) (t_court_weights_sums : (Nat → Int32)) (Q : Int32 → Prop) : Nat → Int32 → Prop
  | 0 => fun _ => False
  | n + 1 => fun x3 => P_Court_deedCount t_court_points (fun r_1 => (r_1 ≤ x3 → Q (-1)) ∧ (¬ r_1 ≤ x3 → P_Pleader_judgedBehind x1 x3 t_court_by t_court_judgments t_court_roll_size t_court_roll_deeds t_court_weights_sums (fun r_2 => (¬ r_2 = x2 → B_Pleader_safeDeed_35 x1 x2 t_court_points t_court_by t_court_judgments t_court_roll_size t_court_roll_deeds t_court_weights_sums Q (L_Pleader_safeDeed_2 x1 x2 t_court_points t_court_by t_court_judgments t_court_roll_size t_court_roll_deeds t_court_weights_sums Q n) x3) ∧ (r_2 = x2 → P_Pleader_isSafe x1 x3 x2 t_court_points t_court_by t_court_judgments t_court_roll_size t_court_roll_deeds t_court_weights_sums (fun r_3 => (r_3 = 0 → B_Pleader_safeDeed_35 x1 x2 t_court_points t_court_by t_court_judgments t_court_roll_size t_court_roll_deeds t_court_weights_sums Q (L_Pleader_safeDeed_2 x1 x2 t_court_points t_court_by t_court_judgments t_court_roll_size t_court_roll_deeds t_court_weights_sums Q n) x3) ∧ (¬ r_3 = 0 → Q x3))))))
def P_Pleader_safeDeed (x1 : Int32) (x2 : Int32) (t_court_points : Int32) (t_court_by : (Nat → Int32)) (t_court_judgments : (Nat → Int32)) (t_court_roll_size : Int32) (t_court_roll_deeds : (Nat → Int32)) (t_court_weights_sums : (Nat → Int32)) (Q : Int32 → Prop) : Prop := ∃ n_2 : Nat, L_Pleader_safeDeed_2 x1 x2 t_court_points t_court_by t_court_judgments t_court_roll_size t_court_roll_deeds t_court_weights_sums Q n_2 0
abbrev rm_Pleader_safeDeed : Room := { frames := 5, cells := 0, slots := 0, locals := 114 }
def cs_Pleader_safeDeed (g : GE) (a_t a_t_court a_t_court_by a_t_court_judgments a_t_court_roll a_t_court_weights a_t_court_roll_deeds a_t_court_weights_sums a_t_row a_t_court_costs a_t_court_roll_firstJudgments a_t_court_roll_years a_t_court_roll_pardoned a_t_court_roll_elders a_t_court_weights_each : Nat) (t_court_points : Int32) (t_court_allJudged : Int32) (t_court_by : (Nat → Int32)) (t_court_judgments : (Nat → Int32)) (t_court_roll_size : Int32) (t_court_weights_points : Int32) (t_court_roll_deeds : (Nat → Int32)) (t_court_weights_sums : (Nat → Int32)) : va_W := [oc a_t 4 [.ref a_t_court, .ref a_t_row], oc a_t_court 0 [.ref a_t_court_weights, .ref a_t_court_costs, .ref a_t_court_roll, .int t_court_points, .ref a_t_court_by, .ref a_t_court_judgments, .int t_court_allJudged], ai g a_t_court_by 1024 t_court_by, ai g a_t_court_judgments 1024 t_court_judgments, oc a_t_court_roll 5 [.ref a_t_court_roll_deeds, .ref a_t_court_roll_firstJudgments, .ref a_t_court_roll_years, .ref a_t_court_roll_pardoned, .ref a_t_court_roll_elders, .int t_court_roll_size], oc a_t_court_weights 6 [.ref a_t_court_weights_each, .ref a_t_court_weights_sums, .int t_court_weights_points], ai g a_t_court_roll_deeds 12 t_court_roll_deeds, ai g a_t_court_weights_sums 1024 t_court_weights_sums]
set_option maxHeartbeats 4000000 in
set_option maxRecDepth 100000 in
theorem c_Pleader_safeDeed (l : Launch) (g : GE) (a_t a_t_court a_t_court_by a_t_court_judgments a_t_court_roll a_t_court_weights a_t_court_roll_deeds a_t_court_weights_sums a_t_row a_t_court_costs a_t_court_roll_firstJudgments a_t_court_roll_years a_t_court_roll_pardoned a_t_court_roll_elders a_t_court_weights_each : Nat) (t_court_points : Int32) (t_court_allJudged : Int32) (t_court_by : (Nat → Int32)) (t_court_judgments : (Nat → Int32)) (t_court_roll_size : Int32) (t_court_weights_points : Int32) (t_court_roll_deeds : (Nat → Int32)) (t_court_weights_sums : (Nat → Int32)) (x1 : Int32) (x2 : Int32) (Q : Int32 → Prop) (h : P_Pleader_safeDeed x1 x2 t_court_points t_court_by t_court_judgments t_court_roll_size t_court_roll_deeds t_court_weights_sums Q) : Cti l g yX4_safeDeed cX4_safeDeed 4 (some .int) rm_Pleader_safeDeed [.ref a_t, .int x1, .int x2] (cs_Pleader_safeDeed g a_t a_t_court a_t_court_by a_t_court_judgments a_t_court_roll a_t_court_weights a_t_court_roll_deeds a_t_court_weights_sums a_t_row a_t_court_costs a_t_court_roll_firstJudgments a_t_court_roll_years a_t_court_roll_pardoned a_t_court_roll_elders a_t_court_weights_each t_court_points t_court_allJudged t_court_by t_court_judgments t_court_roll_size t_court_weights_points t_court_roll_deeds t_court_weights_sums) (S := Unit) (fun r u => Q r) (fun _ => (cs_Pleader_safeDeed g a_t a_t_court a_t_court_by a_t_court_judgments a_t_court_roll a_t_court_weights a_t_court_roll_deeds a_t_court_weights_sums a_t_row a_t_court_costs a_t_court_roll_firstJudgments a_t_court_roll_years a_t_court_roll_pardoned a_t_court_roll_elders a_t_court_weights_each t_court_points t_court_allJudged t_court_by t_court_judgments t_court_roll_size t_court_weights_points t_court_roll_deeds t_court_weights_sums)) := by
  refine meetI rfl (Nat.le_of_ble_eq_true rfl) ⟨rfl, rfl⟩ ?_
  intro p e s m args below meth c A Qf ls C hret hw hl
  have hx := C.1
  have hb := C.2.1
  have hown := C.2.2.2.1
  have hts := C.2.2.2.2.1
  have hE := C.2.2.2.2.2.1
  have hl : lv_has ls 4 [(0, .ref a_t), (1, .int x1), (2, .int x2)] := hl
  have hB_Pleader_safeDeed_35 : ∀ (N_2 : Int32 → Prop) (hN_2 : ∀ (x3 : Int32), N_2 x3 → Wat p l e rm_Pleader_safeDeed s m args below meth c A Qf g 4 (cs_Pleader_safeDeed g a_t a_t_court a_t_court_by a_t_court_judgments a_t_court_roll a_t_court_weights a_t_court_roll_deeds a_t_court_weights_sums a_t_row a_t_court_costs a_t_court_roll_firstJudgments a_t_court_roll_years a_t_court_roll_pardoned a_t_court_roll_elders a_t_court_weights_each t_court_points t_court_allJudged t_court_by t_court_judgments t_court_roll_size t_court_weights_points t_court_roll_deeds t_court_weights_sums) [(0, .ref a_t), (1, .int x1), (2, .int x2), (3, .int x3)] 2 []) (x3 : Int32), B_Pleader_safeDeed_35 x1 x2 t_court_points t_court_by t_court_judgments t_court_roll_size t_court_roll_deeds t_court_weights_sums Q N_2 x3 → Wat p l e rm_Pleader_safeDeed s m args below meth c A Qf g 4 (cs_Pleader_safeDeed g a_t a_t_court a_t_court_by a_t_court_judgments a_t_court_roll a_t_court_weights a_t_court_roll_deeds a_t_court_weights_sums a_t_row a_t_court_costs a_t_court_roll_firstJudgments a_t_court_roll_years a_t_court_roll_pardoned a_t_court_roll_elders a_t_court_weights_each t_court_points t_court_allJudged t_court_by t_court_judgments t_court_roll_size t_court_weights_points t_court_roll_deeds t_court_weights_sums) [(0, .ref a_t), (1, .int x1), (2, .int x2), (3, .int x3)] 35 [] := by
    intro N_2 hN_2 x3 h H locs ls hw hl
    refine lv_iinc (v := x3 + 1) (lv' := [(3, .int (x3 + 1)), (0, .ref a_t), (1, .int x1), (2, .int x2)]) hx hb dX4_safeDeed_35 hl (k := 3) rfl rfl (by decide) rfl (fun ls hl => ?_)
    refine lv_goto (tgt := 2) hx hb dX4_safeDeed_38 (by decide) ?_
    exact hN_2 (x3 + 1) h _ _ _ hw (lv_sub hl [1, 2, 3, 0] rfl)
  have hL_Pleader_safeDeed_2 : ∀ (n : Nat) (x3 : Int32), L_Pleader_safeDeed_2 x1 x2 t_court_points t_court_by t_court_judgments t_court_roll_size t_court_roll_deeds t_court_weights_sums Q n x3 → Wat p l e rm_Pleader_safeDeed s m args below meth c A Qf g 4 (cs_Pleader_safeDeed g a_t a_t_court a_t_court_by a_t_court_judgments a_t_court_roll a_t_court_weights a_t_court_roll_deeds a_t_court_weights_sums a_t_row a_t_court_costs a_t_court_roll_firstJudgments a_t_court_roll_years a_t_court_roll_pardoned a_t_court_roll_elders a_t_court_weights_each t_court_points t_court_allJudged t_court_by t_court_judgments t_court_roll_size t_court_weights_points t_court_roll_deeds t_court_weights_sums) [(0, .ref a_t), (1, .int x1), (2, .int x2), (3, .int x3)] 2 [] := by
    intro n
    induction n with
    | zero => intro x3 h; exact absurd h id
    | succ n ih =>
      intro x3 h H locs ls hw hl
      rw [L_Pleader_safeDeed_2] at h
      refine lv_iload_n hx hb dX4_safeDeed_2 rfl (lv_at hl 3 rfl) ?_
      refine lv_aload_n hx hb dX4_safeDeed_3 rfl (lv_at hl 0 rfl) ?_
      refine G_RX4_15 C hw 0 rfl dX4_safeDeed_4 ?_
      refine callVi (As := []) (rest := [.int x3]) (W2 := fun _ => (cs_Pleader_safeDeed g a_t a_t_court a_t_court_by a_t_court_judgments a_t_court_roll a_t_court_weights a_t_court_roll_deeds a_t_court_weights_sums a_t_row a_t_court_costs a_t_court_roll_firstJudgments a_t_court_roll_years a_t_court_roll_pardoned a_t_court_roll_elders a_t_court_weights_each t_court_points t_court_allJudged t_court_by t_court_judgments t_court_roll_size t_court_weights_points t_court_roll_deeds t_court_weights_sums)) C hw hl (c_Court_deedCount l g a_t_court a_t_court_weights a_t_court_costs a_t_court_roll a_t_court_by a_t_court_judgments t_court_points t_court_allJudged _ h) tw_664 kk_X0_deedCount rfl ⟨rfl, rfl⟩ ⟨by decide, by decide⟩ (Nat.le_of_ble_eq_true rfl) 1 rfl rfl rfl [1] [0, 2, 3, 4, 5, 6, 7] [0, 7, 1, 2, 3, 4, 5, 6] rfl rfl rfl rfl rfl rfl (fun u => rfl) rfl dX4_safeDeed_7 (fun r_1 u H locs h hw => ?_)
      refine lv_icmp_ge (tgt := 41) hx hb dX4_safeDeed_10 (by decide) (fun c_10 => ?_) (fun c_10 => ?_)
      · have h := h.1 c_10
        refine lv_iconst (v := (-1)) hx hb dX4_safeDeed_41 (by decide) ?_
        exact hret () h hw dX4_safeDeed_42 rfl
      · have h := h.2 c_10
        refine lv_aload_n hx hb dX4_safeDeed_13 rfl (lv_at hl 0 rfl) ?_
        refine lv_iload_n hx hb dX4_safeDeed_14 rfl (lv_at hl 1 rfl) ?_
        refine lv_iload_n hx hb dX4_safeDeed_15 rfl (lv_at hl 3 rfl) ?_
        refine callVi (As := [.int x1, .int x3]) (rest := []) (W2 := fun _ => (cs_Pleader_safeDeed g a_t a_t_court a_t_court_by a_t_court_judgments a_t_court_roll a_t_court_weights a_t_court_roll_deeds a_t_court_weights_sums a_t_row a_t_court_costs a_t_court_roll_firstJudgments a_t_court_roll_years a_t_court_roll_pardoned a_t_court_roll_elders a_t_court_weights_each t_court_points t_court_allJudged t_court_by t_court_judgments t_court_roll_size t_court_weights_points t_court_roll_deeds t_court_weights_sums)) C hw hl (c_Pleader_judgedBehind l g a_t a_t_court a_t_court_by a_t_court_judgments a_t_court_roll a_t_court_weights a_t_court_roll_deeds a_t_court_weights_sums a_t_row a_t_court_costs a_t_court_roll_firstJudgments a_t_court_roll_years a_t_court_roll_pardoned a_t_court_roll_elders a_t_court_weights_each t_court_points t_court_allJudged t_court_by t_court_judgments t_court_roll_size t_court_weights_points t_court_roll_deeds t_court_weights_sums x1 x3 _ h) tw_681 kk_X4_judgedBehind rfl ⟨rfl, rfl⟩ ⟨by decide, by decide⟩ (Nat.le_of_ble_eq_true rfl) 0 rfl rfl rfl [0, 1, 2, 3, 4, 5, 6, 7] [] [0, 1, 2, 3, 4, 5, 6, 7] rfl rfl rfl rfl rfl rfl (fun u => rfl) rfl dX4_safeDeed_16 (fun r_2 u H locs h hw => ?_)
        refine lv_iload_n hx hb dX4_safeDeed_19 rfl (lv_at hl 2 rfl) ?_
        refine lv_icmp_ne (tgt := 35) hx hb dX4_safeDeed_20 (by decide) (fun c_20 => ?_) (fun c_20 => ?_)
        · have h := h.1 c_20
          exact hB_Pleader_safeDeed_35 (L_Pleader_safeDeed_2 x1 x2 t_court_points t_court_by t_court_judgments t_court_roll_size t_court_roll_deeds t_court_weights_sums Q n) ih x3 h _ _ _ hw (lv_sub hl [0, 1, 2, 3] rfl)
        · have h := h.2 c_20
          refine lv_aload_n hx hb dX4_safeDeed_23 rfl (lv_at hl 0 rfl) ?_
          refine lv_iload_n hx hb dX4_safeDeed_24 rfl (lv_at hl 1 rfl) ?_
          refine lv_iload_n hx hb dX4_safeDeed_25 rfl (lv_at hl 3 rfl) ?_
          refine lv_iload_n hx hb dX4_safeDeed_26 rfl (lv_at hl 2 rfl) ?_
          refine callVi (As := [.int x1, .int x3, .int x2]) (rest := []) (W2 := fun _ => (cs_Pleader_safeDeed g a_t a_t_court a_t_court_by a_t_court_judgments a_t_court_roll a_t_court_weights a_t_court_roll_deeds a_t_court_weights_sums a_t_row a_t_court_costs a_t_court_roll_firstJudgments a_t_court_roll_years a_t_court_roll_pardoned a_t_court_roll_elders a_t_court_weights_each t_court_points t_court_allJudged t_court_by t_court_judgments t_court_roll_size t_court_weights_points t_court_roll_deeds t_court_weights_sums)) C hw hl (c_Pleader_isSafe l g a_t a_t_court a_t_court_by a_t_court_judgments a_t_court_roll a_t_court_weights a_t_court_roll_deeds a_t_court_weights_sums a_t_row a_t_court_costs a_t_court_roll_firstJudgments a_t_court_roll_years a_t_court_roll_pardoned a_t_court_roll_elders a_t_court_weights_each t_court_points t_court_allJudged t_court_by t_court_judgments t_court_roll_size t_court_weights_points t_court_roll_deeds t_court_weights_sums x1 x3 x2 _ h) tw_707 kk_X4_isSafe rfl ⟨rfl, rfl⟩ ⟨by decide, by decide⟩ (Nat.le_of_ble_eq_true rfl) 0 rfl rfl rfl [0, 1, 2, 3, 4, 5, 6, 7] [] [0, 1, 2, 3, 4, 5, 6, 7] rfl rfl rfl rfl rfl rfl (fun u => rfl) rfl dX4_safeDeed_27 (fun r_3 u H locs h hw => ?_)
          refine lv_if_eq (tgt := 35) hx hb dX4_safeDeed_30 (by decide) (fun c_30 => ?_) (fun c_30 => ?_)
          · have h := h.1 c_30
            exact hB_Pleader_safeDeed_35 (L_Pleader_safeDeed_2 x1 x2 t_court_points t_court_by t_court_judgments t_court_roll_size t_court_roll_deeds t_court_weights_sums Q n) ih x3 h _ _ _ hw (lv_sub hl [0, 1, 2, 3] rfl)
          · have h := h.2 c_30
            refine lv_iload_n hx hb dX4_safeDeed_33 rfl (lv_at hl 3 rfl) ?_
            exact hret () h hw dX4_safeDeed_34 rfl
  refine lv_iconst (v := 0) hx hb dX4_safeDeed_0 (by decide) ?_
  refine lv_istore_n (lv' := [(3, .int 0), (0, .ref a_t), (1, .int x1), (2, .int x2)]) hx hb dX4_safeDeed_1 rfl hl (by decide) rfl (fun ls hl => ?_)
  obtain ⟨n_2, h⟩ := h
  exact hL_Pleader_safeDeed_2 n_2 0 h _ _ _ hw (lv_sub hl [1, 2, 3, 0] rfl)
