def B_Mo_point_46 (x1 : Int32) (x2 : Int32) (t_points : Int32) (t_cost : (Nat → Int32)) (t_weight : (Nat → Int32)) (Q : Int32 → Prop) (k0 : Int32) : Prop := Q k0
def P_Mo_point (x1 : Int32) (x2 : Int32) (t_points : Int32) (t_cost : (Nat → Int32)) (t_weight : (Nat → Int32)) (Q : Int32 → Prop) : Prop := P_Mo_in x1 0 (t_points - 1) (fun r_1 => (¬ r_1 = 0 → (¬ x2 = 0 → (¬ x2 = 1 → B_Mo_point_46 x1 x2 t_points t_cost t_weight Q (-3)) ∧ (x2 = 1 → vp_in x1 10 ∧ (B_Mo_point_46 x1 x2 t_points t_cost t_weight Q (t_cost x1.toNatClampNeg)))) ∧ (x2 = 0 → vp_in x1 10 ∧ (B_Mo_point_46 x1 x2 t_points t_cost t_weight Q (t_weight x1.toNatClampNeg)))) ∧ (r_1 = 0 → Q (-2)))
abbrev rm_Mo_point : Room := { frames := 1, cells := 0, slots := 0, locals := 22 }
def cs_Mo_point (g : GE) (a_t a_t_cost a_t_weight a_t_one a_t_text a_t_read a_t_likes a_t_judged a_t_met a_t_line a_t_image a_t_isKept a_t_had : Nat) (t_points : Int32) (t_cases : Int32) (t_bytes : Int32) (t_position : Int32) (t_tokenAt : Int32) (t_token : Int64) (t_digits : Int32) (t_number : Int32) (t_row : Int32) (t_isRow : Int32) (t_faultAt : Int32) (t_readMany : Int32) (t_readPoints : Int32) (t_readCases : Int32) (t_suitOne : Int32) (t_suitTwo : Int32) (t_cost : (Nat → Int32)) (t_weight : (Nat → Int32)) : va_W := [oc a_t 10 [.int t_points, .ref a_t_weight, .ref a_t_cost, .int t_cases, .ref a_t_one, .int t_bytes, .ref a_t_text, .int t_position, .int t_tokenAt, .long t_token, .int t_digits, .int t_number, .int t_row, .int t_isRow, .int t_faultAt, .int t_readMany, .int t_readPoints, .int t_readCases, .ref a_t_read, .ref a_t_likes, .ref a_t_judged, .ref a_t_met, .ref a_t_line, .ref a_t_image, .ref a_t_isKept, .int t_suitOne, .int t_suitTwo, .ref a_t_had], ai g a_t_cost 10 t_cost, ai g a_t_weight 10 t_weight]
set_option maxHeartbeats 4000000 in
set_option maxRecDepth 100000 in
theorem c_Mo_point (l : Launch) (g : GE) (a_t a_t_cost a_t_weight a_t_one a_t_text a_t_read a_t_likes a_t_judged a_t_met a_t_line a_t_image a_t_isKept a_t_had : Nat) (t_points : Int32) (t_cases : Int32) (t_bytes : Int32) (t_position : Int32) (t_tokenAt : Int32) (t_token : Int64) (t_digits : Int32) (t_number : Int32) (t_row : Int32) (t_isRow : Int32) (t_faultAt : Int32) (t_readMany : Int32) (t_readPoints : Int32) (t_readCases : Int32) (t_suitOne : Int32) (t_suitTwo : Int32) (t_cost : (Nat → Int32)) (t_weight : (Nat → Int32)) (x1 : Int32) (x2 : Int32) (Q : Int32 → Prop) (h : P_Mo_point x1 x2 t_points t_cost t_weight Q) : Cti l g yX10_point cX10_point 3 (some .int) rm_Mo_point [.ref a_t, .int x1, .int x2] (cs_Mo_point g a_t a_t_cost a_t_weight a_t_one a_t_text a_t_read a_t_likes a_t_judged a_t_met a_t_line a_t_image a_t_isKept a_t_had t_points t_cases t_bytes t_position t_tokenAt t_token t_digits t_number t_row t_isRow t_faultAt t_readMany t_readPoints t_readCases t_suitOne t_suitTwo t_cost t_weight) (S := Unit) (fun r u => Q r) (fun _ => (cs_Mo_point g a_t a_t_cost a_t_weight a_t_one a_t_text a_t_read a_t_likes a_t_judged a_t_met a_t_line a_t_image a_t_isKept a_t_had t_points t_cases t_bytes t_position t_tokenAt t_token t_digits t_number t_row t_isRow t_faultAt t_readMany t_readPoints t_readCases t_suitOne t_suitTwo t_cost t_weight)) := by
  refine meetI rfl (Nat.le_of_ble_eq_true rfl) ⟨rfl, rfl⟩ ?_
  intro p e s m args below meth c A Qf ls C hret hw hl
  have hx := C.1
  have hb := C.2.1
  have hown := C.2.2.2.1
  have hts := C.2.2.2.2.1
  have hE := C.2.2.2.2.2.1
  have hl : lv_has ls 3 [(0, .ref a_t), (1, .int x1), (2, .int x2)] := hl
  have hB_Mo_point_46 : ∀ (k0 : Int32), B_Mo_point_46 x1 x2 t_points t_cost t_weight Q k0 → Wat p l e rm_Mo_point s m args below meth c A Qf g 3 (cs_Mo_point g a_t a_t_cost a_t_weight a_t_one a_t_text a_t_read a_t_likes a_t_judged a_t_met a_t_line a_t_image a_t_isKept a_t_had t_points t_cases t_bytes t_position t_tokenAt t_token t_digits t_number t_row t_isRow t_faultAt t_readMany t_readPoints t_readCases t_suitOne t_suitTwo t_cost t_weight) [] 46 [.int k0] := by
    intro k0 h H locs ls hw hl
    exact hret () h hw dX10_point_46 rfl
  refine lv_iload_n hx hb dX10_point_0 rfl (lv_at hl 1 rfl) ?_
  refine lv_iconst (v := 0) hx hb dX10_point_1 (by decide) ?_
  refine lv_aload_n hx hb dX10_point_2 rfl (lv_at hl 0 rfl) ?_
  refine G_RX10_7 C hw 0 rfl dX10_point_3 ?_
  refine lv_iconst (v := 1) hx hb dX10_point_6 (by decide) ?_
  refine lv_isub hx hb dX10_point_7 ?_
  refine callSi (As := [.int x1, .int 0, .int (t_points - 1)]) (rest := []) C hw hl (c_Mo_in l g x1 0 (t_points - 1) _ h) tw_999 kk_X10_in rfl ⟨rfl, rfl⟩ ⟨by decide, by decide⟩ (Nat.le_of_ble_eq_true rfl) rfl dX10_point_8 (fun r_1 u H locs h hw => ?_)
  refine lv_if_ne (tgt := 17) hx hb dX10_point_11 (by decide) (fun c_11 => ?_) (fun c_11 => ?_)
  · have h := h.1 c_11
    refine lv_iload_n hx hb dX10_point_17 rfl (lv_at hl 2 rfl) ?_
    refine lv_if_ne (tgt := 30) hx hb dX10_point_18 (by decide) (fun c_18 => ?_) (fun c_18 => ?_)
    · have h := h.1 c_18
      refine lv_iload_n hx hb dX10_point_30 rfl (lv_at hl 2 rfl) ?_
      refine lv_iconst (v := 1) hx hb dX10_point_31 (by decide) ?_
      refine lv_icmp_ne (tgt := 44) hx hb dX10_point_32 (by decide) (fun c_32 => ?_) (fun c_32 => ?_)
      · have h := h.1 c_32
        refine lv_bipush (v := (-3)) hx hb dX10_point_44 (by decide) ?_
        exact hB_Mo_point_46 (-3) h _ _ _ hw (lv_sub hl [] rfl)
      · have h := h.2 c_32
        refine lv_aload_n hx hb dX10_point_35 rfl (lv_at hl 0 rfl) ?_
        refine G_RX10_17 C hw 0 rfl dX10_point_36 ?_
        refine lv_iload_n hx hb dX10_point_39 rfl (lv_at hl 1 rfl) ?_
        refine aldI C hw 1 rfl h.1 dX10_point_40 ?_
        have h := h.2
        refine lv_goto (tgt := 46) hx hb dX10_point_41 (by decide) ?_
        exact hB_Mo_point_46 (t_cost x1.toNatClampNeg) h _ _ _ hw (lv_sub hl [] rfl)
    · have h := h.2 c_18
      refine lv_aload_n hx hb dX10_point_21 rfl (lv_at hl 0 rfl) ?_
      refine G_RX10_13 C hw 0 rfl dX10_point_22 ?_
      refine lv_iload_n hx hb dX10_point_25 rfl (lv_at hl 1 rfl) ?_
      refine aldI C hw 2 rfl h.1 dX10_point_26 ?_
      have h := h.2
      refine lv_goto (tgt := 46) hx hb dX10_point_27 (by decide) ?_
      exact hB_Mo_point_46 (t_weight x1.toNatClampNeg) h _ _ _ hw (lv_sub hl [] rfl)
  · have h := h.2 c_11
    refine lv_bipush (v := (-2)) hx hb dX10_point_14 (by decide) ?_
    exact hret () h hw dX10_point_16 rfl
def B_Mo_isElder_56 (x1 : Int32) (x2 : Int32) (t_one : (Nat → Int32)) (Q : Int32 → Prop) (k0 : Int32) : Prop := narrow .boolean (.int k0) = .int k0 ∧ Q k0 
def B_Mo_isElder_51 (x1 : Int32) (x2 : Int32) (t_one : (Nat → Int32)) (Q : Int32 → Prop) : Prop := B_Mo_isElder_56 x1 x2 t_one Q 1
def B_Mo_isElder_55 (x1 : Int32) (x2 : Int32) (t_one : (Nat → Int32)) (Q : Int32 → Prop) : Prop := B_Mo_isElder_56 x1 x2 t_one Q 0
def P_Mo_isElder (x1 : Int32) (x2 : Int32) (t_one : (Nat → Int32)) (Q : Int32 → Prop) : Prop := vp_in ((4 * x1) + 2) 56 ∧ (vp_in ((4 * x2) + 2) 56 ∧ (((t_one ((4 * x1) + 2).toNatClampNeg) < (t_one ((4 * x2) + 2).toNatClampNeg) → B_Mo_isElder_51 x1 x2 t_one Q) ∧ (¬ (t_one ((4 * x1) + 2).toNatClampNeg) < (t_one ((4 * x2) + 2).toNatClampNeg) → vp_in ((4 * x1) + 2) 56 ∧ (vp_in ((4 * x2) + 2) 56 ∧ ((¬ (t_one ((4 * x1) + 2).toNatClampNeg) = (t_one ((4 * x2) + 2).toNatClampNeg) → B_Mo_isElder_55 x1 x2 t_one Q) ∧ ((t_one ((4 * x1) + 2).toNatClampNeg) = (t_one ((4 * x2) + 2).toNatClampNeg) → (x2 ≤ x1 → B_Mo_isElder_55 x1 x2 t_one Q) ∧ (¬ x2 ≤ x1 → B_Mo_isElder_51 x1 x2 t_one Q)))))))
abbrev rm_Mo_isElder : Room := { frames := 0, cells := 0, slots := 0, locals := 0 }
def cs_Mo_isElder (g : GE) (a_t a_t_one a_t_weight a_t_cost a_t_text a_t_read a_t_likes a_t_judged a_t_met a_t_line a_t_image a_t_isKept a_t_had : Nat) (t_points : Int32) (t_cases : Int32) (t_bytes : Int32) (t_position : Int32) (t_tokenAt : Int32) (t_token : Int64) (t_digits : Int32) (t_number : Int32) (t_row : Int32) (t_isRow : Int32) (t_faultAt : Int32) (t_readMany : Int32) (t_readPoints : Int32) (t_readCases : Int32) (t_suitOne : Int32) (t_suitTwo : Int32) (t_one : (Nat → Int32)) : va_W := [oc a_t 10 [.int t_points, .ref a_t_weight, .ref a_t_cost, .int t_cases, .ref a_t_one, .int t_bytes, .ref a_t_text, .int t_position, .int t_tokenAt, .long t_token, .int t_digits, .int t_number, .int t_row, .int t_isRow, .int t_faultAt, .int t_readMany, .int t_readPoints, .int t_readCases, .ref a_t_read, .ref a_t_likes, .ref a_t_judged, .ref a_t_met, .ref a_t_line, .ref a_t_image, .ref a_t_isKept, .int t_suitOne, .int t_suitTwo, .ref a_t_had], ai g a_t_one 56 t_one]
set_option maxHeartbeats 4000000 in
set_option maxRecDepth 100000 in
theorem c_Mo_isElder (l : Launch) (g : GE) (a_t a_t_one a_t_weight a_t_cost a_t_text a_t_read a_t_likes a_t_judged a_t_met a_t_line a_t_image a_t_isKept a_t_had : Nat) (t_points : Int32) (t_cases : Int32) (t_bytes : Int32) (t_position : Int32) (t_tokenAt : Int32) (t_token : Int64) (t_digits : Int32) (t_number : Int32) (t_row : Int32) (t_isRow : Int32) (t_faultAt : Int32) (t_readMany : Int32) (t_readPoints : Int32) (t_readCases : Int32) (t_suitOne : Int32) (t_suitTwo : Int32) (t_one : (Nat → Int32)) (x1 : Int32) (x2 : Int32) (Q : Int32 → Prop) (h : P_Mo_isElder x1 x2 t_one Q) : Cti l g yX10_isElder cX10_isElder 3 (some .boolean) rm_Mo_isElder [.ref a_t, .int x1, .int x2] (cs_Mo_isElder g a_t a_t_one a_t_weight a_t_cost a_t_text a_t_read a_t_likes a_t_judged a_t_met a_t_line a_t_image a_t_isKept a_t_had t_points t_cases t_bytes t_position t_tokenAt t_token t_digits t_number t_row t_isRow t_faultAt t_readMany t_readPoints t_readCases t_suitOne t_suitTwo t_one) (S := Unit) (fun r u => Q r) (fun _ => (cs_Mo_isElder g a_t a_t_one a_t_weight a_t_cost a_t_text a_t_read a_t_likes a_t_judged a_t_met a_t_line a_t_image a_t_isKept a_t_had t_points t_cases t_bytes t_position t_tokenAt t_token t_digits t_number t_row t_isRow t_faultAt t_readMany t_readPoints t_readCases t_suitOne t_suitTwo t_one)) := by
  refine meetI rfl (Nat.le_of_ble_eq_true rfl) ⟨rfl, rfl⟩ ?_
  intro p e s m args below meth c A Qf ls C hret hw hl
  have hx := C.1
  have hb := C.2.1
  have hown := C.2.2.2.1
  have hts := C.2.2.2.2.1
  have hE := C.2.2.2.2.2.1
  have hl : lv_has ls 3 [(0, .ref a_t), (1, .int x1), (2, .int x2)] := hl
  have hB_Mo_isElder_56 : ∀ (k0 : Int32), B_Mo_isElder_56 x1 x2 t_one Q k0 → Wat p l e rm_Mo_isElder s m args below meth c A Qf g 3 (cs_Mo_isElder g a_t a_t_one a_t_weight a_t_cost a_t_text a_t_read a_t_likes a_t_judged a_t_met a_t_line a_t_image a_t_isKept a_t_had t_points t_cases t_bytes t_position t_tokenAt t_token t_digits t_number t_row t_isRow t_faultAt t_readMany t_readPoints t_readCases t_suitOne t_suitTwo t_one) [] 56 [.int k0] := by
    intro k0 h H locs ls hw hl
    exact hret () h.2 hw dX10_isElder_56 h.1
  have hB_Mo_isElder_51 : B_Mo_isElder_51 x1 x2 t_one Q → Wat p l e rm_Mo_isElder s m args below meth c A Qf g 3 (cs_Mo_isElder g a_t a_t_one a_t_weight a_t_cost a_t_text a_t_read a_t_likes a_t_judged a_t_met a_t_line a_t_image a_t_isKept a_t_had t_points t_cases t_bytes t_position t_tokenAt t_token t_digits t_number t_row t_isRow t_faultAt t_readMany t_readPoints t_readCases t_suitOne t_suitTwo t_one) [] 51 [] := by
    intro  h H locs ls hw hl
    refine lv_iconst (v := 1) hx hb dX10_isElder_51 (by decide) ?_
    refine lv_goto (tgt := 56) hx hb dX10_isElder_52 (by decide) ?_
    exact hB_Mo_isElder_56 1 h _ _ _ hw (lv_sub hl [] rfl)
  have hB_Mo_isElder_55 : B_Mo_isElder_55 x1 x2 t_one Q → Wat p l e rm_Mo_isElder s m args below meth c A Qf g 3 (cs_Mo_isElder g a_t a_t_one a_t_weight a_t_cost a_t_text a_t_read a_t_likes a_t_judged a_t_met a_t_line a_t_image a_t_isKept a_t_had t_points t_cases t_bytes t_position t_tokenAt t_token t_digits t_number t_row t_isRow t_faultAt t_readMany t_readPoints t_readCases t_suitOne t_suitTwo t_one) [] 55 [] := by
    intro  h H locs ls hw hl
    refine lv_iconst (v := 0) hx hb dX10_isElder_55 (by decide) ?_
    exact hB_Mo_isElder_56 0 h _ _ _ hw (lv_sub hl [] rfl)
  refine lv_aload_n hx hb dX10_isElder_0 rfl (lv_at hl 0 rfl) ?_
  refine G_RX10_20 C hw 0 rfl dX10_isElder_1 ?_
  refine lv_iconst (v := 4) hx hb dX10_isElder_4 (by decide) ?_
  refine lv_iload_n hx hb dX10_isElder_5 rfl (lv_at hl 1 rfl) ?_
  refine lv_imul hx hb dX10_isElder_6 ?_
  refine lv_iconst (v := 2) hx hb dX10_isElder_7 (by decide) ?_
  refine lv_iadd hx hb dX10_isElder_8 ?_
  refine aldI C hw 1 rfl h.1 dX10_isElder_9 ?_
  have h := h.2
  refine lv_aload_n hx hb dX10_isElder_10 rfl (lv_at hl 0 rfl) ?_
  refine G_RX10_20 C hw 0 rfl dX10_isElder_11 ?_
  refine lv_iconst (v := 4) hx hb dX10_isElder_14 (by decide) ?_
  refine lv_iload_n hx hb dX10_isElder_15 rfl (lv_at hl 2 rfl) ?_
  refine lv_imul hx hb dX10_isElder_16 ?_
  refine lv_iconst (v := 2) hx hb dX10_isElder_17 (by decide) ?_
  refine lv_iadd hx hb dX10_isElder_18 ?_
  refine aldI C hw 1 rfl h.1 dX10_isElder_19 ?_
  have h := h.2
  refine lv_icmp_lt (tgt := 51) hx hb dX10_isElder_20 (by decide) (fun c_20 => ?_) (fun c_20 => ?_)
  · have h := h.1 c_20
    exact hB_Mo_isElder_51  h _ _ _ hw (lv_sub hl [] rfl)
  · have h := h.2 c_20
    refine lv_aload_n hx hb dX10_isElder_23 rfl (lv_at hl 0 rfl) ?_
    refine G_RX10_20 C hw 0 rfl dX10_isElder_24 ?_
    refine lv_iconst (v := 4) hx hb dX10_isElder_27 (by decide) ?_
    refine lv_iload_n hx hb dX10_isElder_28 rfl (lv_at hl 1 rfl) ?_
    refine lv_imul hx hb dX10_isElder_29 ?_
    refine lv_iconst (v := 2) hx hb dX10_isElder_30 (by decide) ?_
    refine lv_iadd hx hb dX10_isElder_31 ?_
    refine aldI C hw 1 rfl h.1 dX10_isElder_32 ?_
    have h := h.2
    refine lv_aload_n hx hb dX10_isElder_33 rfl (lv_at hl 0 rfl) ?_
    refine G_RX10_20 C hw 0 rfl dX10_isElder_34 ?_
    refine lv_iconst (v := 4) hx hb dX10_isElder_37 (by decide) ?_
    refine lv_iload_n hx hb dX10_isElder_38 rfl (lv_at hl 2 rfl) ?_
    refine lv_imul hx hb dX10_isElder_39 ?_
    refine lv_iconst (v := 2) hx hb dX10_isElder_40 (by decide) ?_
    refine lv_iadd hx hb dX10_isElder_41 ?_
    refine aldI C hw 1 rfl h.1 dX10_isElder_42 ?_
    have h := h.2
    refine lv_icmp_ne (tgt := 55) hx hb dX10_isElder_43 (by decide) (fun c_43 => ?_) (fun c_43 => ?_)
    · have h := h.1 c_43
      exact hB_Mo_isElder_55  h _ _ _ hw (lv_sub hl [] rfl)
    · have h := h.2 c_43
      refine lv_iload_n hx hb dX10_isElder_46 rfl (lv_at hl 1 rfl) ?_
      refine lv_iload_n hx hb dX10_isElder_47 rfl (lv_at hl 2 rfl) ?_
      refine lv_icmp_ge (tgt := 55) hx hb dX10_isElder_48 (by decide) (fun c_48 => ?_) (fun c_48 => ?_)
      · have h := h.1 c_48
        exact hB_Mo_isElder_55  h _ _ _ hw (lv_sub hl [] rfl)
      · have h := h.2 c_48
        exact hB_Mo_isElder_51  h _ _ _ hw (lv_sub hl [] rfl)
def B_Mo_judgmentOf_28 (x1 : Int32) (t_one : (Nat → Int32)) (Q : Int32 → Prop) (k0 : Int32) : Prop := Q k0
def P_Mo_judgmentOf (x1 : Int32) (t_one : (Nat → Int32)) (Q : Int32 → Prop) : Prop := vp_in ((4 * x1) + 3) 56 ∧ ((¬ (t_one ((4 * x1) + 3).toNatClampNeg) = 1 → vp_in ((4 * x1) + 1) 56 ∧ (B_Mo_judgmentOf_28 x1 t_one Q (t_one ((4 * x1) + 1).toNatClampNeg))) ∧ ((t_one ((4 * x1) + 3).toNatClampNeg) = 1 → B_Mo_judgmentOf_28 x1 t_one Q 0))
abbrev rm_Mo_judgmentOf : Room := { frames := 0, cells := 0, slots := 0, locals := 0 }
def cs_Mo_judgmentOf (g : GE) (a_t a_t_one a_t_weight a_t_cost a_t_text a_t_read a_t_likes a_t_judged a_t_met a_t_line a_t_image a_t_isKept a_t_had : Nat) (t_points : Int32) (t_cases : Int32) (t_bytes : Int32) (t_position : Int32) (t_tokenAt : Int32) (t_token : Int64) (t_digits : Int32) (t_number : Int32) (t_row : Int32) (t_isRow : Int32) (t_faultAt : Int32) (t_readMany : Int32) (t_readPoints : Int32) (t_readCases : Int32) (t_suitOne : Int32) (t_suitTwo : Int32) (t_one : (Nat → Int32)) : va_W := [oc a_t 10 [.int t_points, .ref a_t_weight, .ref a_t_cost, .int t_cases, .ref a_t_one, .int t_bytes, .ref a_t_text, .int t_position, .int t_tokenAt, .long t_token, .int t_digits, .int t_number, .int t_row, .int t_isRow, .int t_faultAt, .int t_readMany, .int t_readPoints, .int t_readCases, .ref a_t_read, .ref a_t_likes, .ref a_t_judged, .ref a_t_met, .ref a_t_line, .ref a_t_image, .ref a_t_isKept, .int t_suitOne, .int t_suitTwo, .ref a_t_had], ai g a_t_one 56 t_one]
set_option maxHeartbeats 4000000 in
set_option maxRecDepth 100000 in
theorem c_Mo_judgmentOf (l : Launch) (g : GE) (a_t a_t_one a_t_weight a_t_cost a_t_text a_t_read a_t_likes a_t_judged a_t_met a_t_line a_t_image a_t_isKept a_t_had : Nat) (t_points : Int32) (t_cases : Int32) (t_bytes : Int32) (t_position : Int32) (t_tokenAt : Int32) (t_token : Int64) (t_digits : Int32) (t_number : Int32) (t_row : Int32) (t_isRow : Int32) (t_faultAt : Int32) (t_readMany : Int32) (t_readPoints : Int32) (t_readCases : Int32) (t_suitOne : Int32) (t_suitTwo : Int32) (t_one : (Nat → Int32)) (x1 : Int32) (Q : Int32 → Prop) (h : P_Mo_judgmentOf x1 t_one Q) : Cti l g yX10_judgmentOf cX10_judgmentOf 2 (some .int) rm_Mo_judgmentOf [.ref a_t, .int x1] (cs_Mo_judgmentOf g a_t a_t_one a_t_weight a_t_cost a_t_text a_t_read a_t_likes a_t_judged a_t_met a_t_line a_t_image a_t_isKept a_t_had t_points t_cases t_bytes t_position t_tokenAt t_token t_digits t_number t_row t_isRow t_faultAt t_readMany t_readPoints t_readCases t_suitOne t_suitTwo t_one) (S := Unit) (fun r u => Q r) (fun _ => (cs_Mo_judgmentOf g a_t a_t_one a_t_weight a_t_cost a_t_text a_t_read a_t_likes a_t_judged a_t_met a_t_line a_t_image a_t_isKept a_t_had t_points t_cases t_bytes t_position t_tokenAt t_token t_digits t_number t_row t_isRow t_faultAt t_readMany t_readPoints t_readCases t_suitOne t_suitTwo t_one)) := by
  refine meetI rfl (Nat.le_of_ble_eq_true rfl) ⟨rfl, rfl⟩ ?_
  intro p e s m args below meth c A Qf ls C hret hw hl
  have hx := C.1
  have hb := C.2.1
  have hown := C.2.2.2.1
  have hts := C.2.2.2.2.1
  have hE := C.2.2.2.2.2.1
  have hl : lv_has ls 2 [(0, .ref a_t), (1, .int x1)] := hl
  have hB_Mo_judgmentOf_28 : ∀ (k0 : Int32), B_Mo_judgmentOf_28 x1 t_one Q k0 → Wat p l e rm_Mo_judgmentOf s m args below meth c A Qf g 2 (cs_Mo_judgmentOf g a_t a_t_one a_t_weight a_t_cost a_t_text a_t_read a_t_likes a_t_judged a_t_met a_t_line a_t_image a_t_isKept a_t_had t_points t_cases t_bytes t_position t_tokenAt t_token t_digits t_number t_row t_isRow t_faultAt t_readMany t_readPoints t_readCases t_suitOne t_suitTwo t_one) [] 28 [.int k0] := by
    intro k0 h H locs ls hw hl
    exact hret () h hw dX10_judgmentOf_28 rfl
  refine lv_aload_n hx hb dX10_judgmentOf_0 rfl (lv_at hl 0 rfl) ?_
  refine G_RX10_20 C hw 0 rfl dX10_judgmentOf_1 ?_
  refine lv_iconst (v := 4) hx hb dX10_judgmentOf_4 (by decide) ?_
  refine lv_iload_n hx hb dX10_judgmentOf_5 rfl (lv_at hl 1 rfl) ?_
  refine lv_imul hx hb dX10_judgmentOf_6 ?_
  refine lv_iconst (v := 3) hx hb dX10_judgmentOf_7 (by decide) ?_
  refine lv_iadd hx hb dX10_judgmentOf_8 ?_
  refine aldI C hw 1 rfl h.1 dX10_judgmentOf_9 ?_
  have h := h.2
  refine lv_iconst (v := 1) hx hb dX10_judgmentOf_10 (by decide) ?_
  refine lv_icmp_ne (tgt := 18) hx hb dX10_judgmentOf_11 (by decide) (fun c_11 => ?_) (fun c_11 => ?_)
  · have h := h.1 c_11
    refine lv_aload_n hx hb dX10_judgmentOf_18 rfl (lv_at hl 0 rfl) ?_
    refine G_RX10_20 C hw 0 rfl dX10_judgmentOf_19 ?_
    refine lv_iconst (v := 4) hx hb dX10_judgmentOf_22 (by decide) ?_
    refine lv_iload_n hx hb dX10_judgmentOf_23 rfl (lv_at hl 1 rfl) ?_
    refine lv_imul hx hb dX10_judgmentOf_24 ?_
    refine lv_iconst (v := 1) hx hb dX10_judgmentOf_25 (by decide) ?_
    refine lv_iadd hx hb dX10_judgmentOf_26 ?_
    refine aldI C hw 1 rfl h.1 dX10_judgmentOf_27 ?_
    have h := h.2
    exact hB_Mo_judgmentOf_28 (t_one ((4 * x1) + 1).toNatClampNeg) h _ _ _ hw (lv_sub hl [] rfl)
  · have h := h.2 c_11
    refine lv_iconst (v := 0) hx hb dX10_judgmentOf_14 (by decide) ?_
    refine lv_goto (tgt := 28) hx hb dX10_judgmentOf_15 (by decide) ?_
    exact hB_Mo_judgmentOf_28 0 h _ _ _ hw (lv_sub hl [] rfl)
def B_Mo_older_92 (x1 : Int32) (x2 : Int32) (t_cases : Int32) (t_one : (Nat → Int32)) (Q : Int32 → Prop) : Prop := vp_in ((4 * x1) + x2) 56 ∧ (Q (t_one ((4 * x1) + x2).toNatClampNeg))
def B_Mo_older_47 (x1 : Int32) (x2 : Int32) (t_cases : Int32) (t_one : (Nat → Int32)) (Q : Int32 → Prop) (N_16 : Int32 → Int32 → Prop) (x4 : Int32) (k0 : Int32) (k1 : Int32) : Prop := ∀ x3_1 : Int32, x3_1 = (k0 + k1) → N_16 x3_1 (x4 + 1)
def B_Mo_older_46 (x1 : Int32) (x2 : Int32) (t_cases : Int32) (t_one : (Nat → Int32)) (Q : Int32 → Prop) (N_16 : Int32 → Int32 → Prop) (x4 : Int32) (k0 : Int32) : Prop := B_Mo_older_47 x1 x2 t_cases t_one Q N_16 x4 k0 0
def L_Mo_older_16 (x1 : Int32) (x2 : Int32) (t_cases : Int32) (t_one : (Nat → Int32)) (Q : Int32 → Prop) : Nat → Int32 → Int32 → Prop
  | 0 => fun _ _ => False
  | n + 1 => fun x3 x4 => (t_cases ≤ x4 → (x2 = 0 → B_Mo_older_92 x1 x2 t_cases t_one Q) ∧ (¬ x2 = 0 → (x2 = 1 → P_Mo_judgmentOf x1 t_one (fun r_2 => Q r_2)) ∧ (¬ x2 = 1 → (x2 = 2 → B_Mo_older_92 x1 x2 t_cases t_one Q) ∧ (¬ x2 = 2 → (x2 = 3 → B_Mo_older_92 x1 x2 t_cases t_one Q) ∧ (¬ x2 = 3 → (x2 = 4 → Q x3) ∧ (¬ x2 = 4 → Q (-3))))))) ∧ (¬ t_cases ≤ x4 → (x4 = x1 → B_Mo_older_46 x1 x2 t_cases t_one Q (L_Mo_older_16 x1 x2 t_cases t_one Q n) x4 x3) ∧ (¬ x4 = x1 → P_Mo_isElder x4 x1 t_one (fun r_3 => (r_3 = 0 → B_Mo_older_46 x1 x2 t_cases t_one Q (L_Mo_older_16 x1 x2 t_cases t_one Q n) x4 x3) ∧ (¬ r_3 = 0 → B_Mo_older_47 x1 x2 t_cases t_one Q (L_Mo_older_16 x1 x2 t_cases t_one Q n) x4 x3 1))))
def P_Mo_older (x1 : Int32) (x2 : Int32) (t_cases : Int32) (t_one : (Nat → Int32)) (Q : Int32 → Prop) : Prop := P_Mo_isCase x1 t_cases (fun r_4 => (¬ r_4 = 0 → ∃ n_16 : Nat, L_Mo_older_16 x1 x2 t_cases t_one Q n_16 0 0) ∧ (r_4 = 0 → Q (-2)))
abbrev rm_Mo_older : Room := { frames := 2, cells := 0, slots := 0, locals := 43 }
def cs_Mo_older (g : GE) (a_t a_t_one a_t_weight a_t_cost a_t_text a_t_read a_t_likes a_t_judged a_t_met a_t_line a_t_image a_t_isKept a_t_had : Nat) (t_points : Int32) (t_cases : Int32) (t_bytes : Int32) (t_position : Int32) (t_tokenAt : Int32) (t_token : Int64) (t_digits : Int32) (t_number : Int32) (t_row : Int32) (t_isRow : Int32) (t_faultAt : Int32) (t_readMany : Int32) (t_readPoints : Int32) (t_readCases : Int32) (t_suitOne : Int32) (t_suitTwo : Int32) (t_one : (Nat → Int32)) : va_W := [oc a_t 10 [.int t_points, .ref a_t_weight, .ref a_t_cost, .int t_cases, .ref a_t_one, .int t_bytes, .ref a_t_text, .int t_position, .int t_tokenAt, .long t_token, .int t_digits, .int t_number, .int t_row, .int t_isRow, .int t_faultAt, .int t_readMany, .int t_readPoints, .int t_readCases, .ref a_t_read, .ref a_t_likes, .ref a_t_judged, .ref a_t_met, .ref a_t_line, .ref a_t_image, .ref a_t_isKept, .int t_suitOne, .int t_suitTwo, .ref a_t_had], ai g a_t_one 56 t_one]
set_option maxHeartbeats 4000000 in
set_option maxRecDepth 100000 in
theorem c_Mo_older (l : Launch) (g : GE) (a_t a_t_one a_t_weight a_t_cost a_t_text a_t_read a_t_likes a_t_judged a_t_met a_t_line a_t_image a_t_isKept a_t_had : Nat) (t_points : Int32) (t_cases : Int32) (t_bytes : Int32) (t_position : Int32) (t_tokenAt : Int32) (t_token : Int64) (t_digits : Int32) (t_number : Int32) (t_row : Int32) (t_isRow : Int32) (t_faultAt : Int32) (t_readMany : Int32) (t_readPoints : Int32) (t_readCases : Int32) (t_suitOne : Int32) (t_suitTwo : Int32) (t_one : (Nat → Int32)) (x1 : Int32) (x2 : Int32) (Q : Int32 → Prop) (h : P_Mo_older x1 x2 t_cases t_one Q) : Cti l g yX10_older cX10_older 5 (some .int) rm_Mo_older [.ref a_t, .int x1, .int x2] (cs_Mo_older g a_t a_t_one a_t_weight a_t_cost a_t_text a_t_read a_t_likes a_t_judged a_t_met a_t_line a_t_image a_t_isKept a_t_had t_points t_cases t_bytes t_position t_tokenAt t_token t_digits t_number t_row t_isRow t_faultAt t_readMany t_readPoints t_readCases t_suitOne t_suitTwo t_one) (S := Unit) (fun r u => Q r) (fun _ => (cs_Mo_older g a_t a_t_one a_t_weight a_t_cost a_t_text a_t_read a_t_likes a_t_judged a_t_met a_t_line a_t_image a_t_isKept a_t_had t_points t_cases t_bytes t_position t_tokenAt t_token t_digits t_number t_row t_isRow t_faultAt t_readMany t_readPoints t_readCases t_suitOne t_suitTwo t_one)) := by
  refine meetI rfl (Nat.le_of_ble_eq_true rfl) ⟨rfl, rfl⟩ ?_
  intro p e s m args below meth c A Qf ls C hret hw hl
  have hx := C.1
  have hb := C.2.1
  have hown := C.2.2.2.1
  have hts := C.2.2.2.2.1
  have hE := C.2.2.2.2.2.1
  have hl : lv_has ls 5 [(0, .ref a_t), (1, .int x1), (2, .int x2)] := hl
  have hB_Mo_older_92 : B_Mo_older_92 x1 x2 t_cases t_one Q → Wat p l e rm_Mo_older s m args below meth c A Qf g 5 (cs_Mo_older g a_t a_t_one a_t_weight a_t_cost a_t_text a_t_read a_t_likes a_t_judged a_t_met a_t_line a_t_image a_t_isKept a_t_had t_points t_cases t_bytes t_position t_tokenAt t_token t_digits t_number t_row t_isRow t_faultAt t_readMany t_readPoints t_readCases t_suitOne t_suitTwo t_one) [(0, .ref a_t), (1, .int x1), (2, .int x2)] 92 [] := by
    intro  h H locs ls hw hl
    refine lv_aload_n hx hb dX10_older_92 rfl (lv_at hl 0 rfl) ?_
    refine G_RX10_20 C hw 0 rfl dX10_older_93 ?_
    refine lv_iconst (v := 4) hx hb dX10_older_96 (by decide) ?_
    refine lv_iload_n hx hb dX10_older_97 rfl (lv_at hl 1 rfl) ?_
    refine lv_imul hx hb dX10_older_98 ?_
    refine lv_iload_n hx hb dX10_older_99 rfl (lv_at hl 2 rfl) ?_
    refine lv_iadd hx hb dX10_older_100 ?_
    refine aldI C hw 1 rfl h.1 dX10_older_101 ?_
    have h := h.2
    exact hret () h hw dX10_older_102 rfl
  have hB_Mo_older_47 : ∀ (N_16 : Int32 → Int32 → Prop) (hN_16 : ∀ (x3 : Int32) (x4 : Int32), N_16 x3 x4 → Wat p l e rm_Mo_older s m args below meth c A Qf g 5 (cs_Mo_older g a_t a_t_one a_t_weight a_t_cost a_t_text a_t_read a_t_likes a_t_judged a_t_met a_t_line a_t_image a_t_isKept a_t_had t_points t_cases t_bytes t_position t_tokenAt t_token t_digits t_number t_row t_isRow t_faultAt t_readMany t_readPoints t_readCases t_suitOne t_suitTwo t_one) [(0, .ref a_t), (1, .int x1), (2, .int x2), (3, .int x3), (4, .int x4)] 16 []) (x4 : Int32) (k0 : Int32) (k1 : Int32), B_Mo_older_47 x1 x2 t_cases t_one Q N_16 x4 k0 k1 → Wat p l e rm_Mo_older s m args below meth c A Qf g 5 (cs_Mo_older g a_t a_t_one a_t_weight a_t_cost a_t_text a_t_read a_t_likes a_t_judged a_t_met a_t_line a_t_image a_t_isKept a_t_had t_points t_cases t_bytes t_position t_tokenAt t_token t_digits t_number t_row t_isRow t_faultAt t_readMany t_readPoints t_readCases t_suitOne t_suitTwo t_one) [(0, .ref a_t), (1, .int x1), (2, .int x2), (4, .int x4)] 47 [.int k1, .int k0] := by
    intro N_16 hN_16 x4 k0 k1 h H locs ls hw hl
    refine lv_iadd hx hb dX10_older_47 ?_
    refine lv_topi (fun x3_1 ex3_1 => ?_)
    have h := h x3_1 ex3_1
    refine lv_istore_n (lv' := [(3, .int x3_1), (0, .ref a_t), (1, .int x1), (2, .int x2), (4, .int x4)]) hx hb dX10_older_48 rfl hl (by decide) rfl (fun ls hl => ?_)
    refine lv_iinc (v := x4 + 1) (lv' := [(4, .int (x4 + 1)), (3, .int x3_1), (0, .ref a_t), (1, .int x1), (2, .int x2)]) hx hb dX10_older_49 hl (k := 4) rfl rfl (by decide) rfl (fun ls hl => ?_)
    refine lv_goto (tgt := 16) hx hb dX10_older_52 (by decide) ?_
    exact hN_16 x3_1 (x4 + 1) h _ _ _ hw (lv_sub hl [2, 3, 4, 1, 0] rfl)
  have hB_Mo_older_46 : ∀ (N_16 : Int32 → Int32 → Prop) (hN_16 : ∀ (x3 : Int32) (x4 : Int32), N_16 x3 x4 → Wat p l e rm_Mo_older s m args below meth c A Qf g 5 (cs_Mo_older g a_t a_t_one a_t_weight a_t_cost a_t_text a_t_read a_t_likes a_t_judged a_t_met a_t_line a_t_image a_t_isKept a_t_had t_points t_cases t_bytes t_position t_tokenAt t_token t_digits t_number t_row t_isRow t_faultAt t_readMany t_readPoints t_readCases t_suitOne t_suitTwo t_one) [(0, .ref a_t), (1, .int x1), (2, .int x2), (3, .int x3), (4, .int x4)] 16 []) (x4 : Int32) (k0 : Int32), B_Mo_older_46 x1 x2 t_cases t_one Q N_16 x4 k0 → Wat p l e rm_Mo_older s m args below meth c A Qf g 5 (cs_Mo_older g a_t a_t_one a_t_weight a_t_cost a_t_text a_t_read a_t_likes a_t_judged a_t_met a_t_line a_t_image a_t_isKept a_t_had t_points t_cases t_bytes t_position t_tokenAt t_token t_digits t_number t_row t_isRow t_faultAt t_readMany t_readPoints t_readCases t_suitOne t_suitTwo t_one) [(0, .ref a_t), (1, .int x1), (2, .int x2), (4, .int x4)] 46 [.int k0] := by
    intro N_16 hN_16 x4 k0 h H locs ls hw hl
    refine lv_iconst (v := 0) hx hb dX10_older_46 (by decide) ?_
    exact hB_Mo_older_47 N_16 hN_16 x4 k0 0 h _ _ _ hw (lv_sub hl [0, 1, 2, 3] rfl)
  have hL_Mo_older_16 : ∀ (n : Nat) (x3 : Int32) (x4 : Int32), L_Mo_older_16 x1 x2 t_cases t_one Q n x3 x4 → Wat p l e rm_Mo_older s m args below meth c A Qf g 5 (cs_Mo_older g a_t a_t_one a_t_weight a_t_cost a_t_text a_t_read a_t_likes a_t_judged a_t_met a_t_line a_t_image a_t_isKept a_t_had t_points t_cases t_bytes t_position t_tokenAt t_token t_digits t_number t_row t_isRow t_faultAt t_readMany t_readPoints t_readCases t_suitOne t_suitTwo t_one) [(0, .ref a_t), (1, .int x1), (2, .int x2), (3, .int x3), (4, .int x4)] 16 [] := by
    intro n
    induction n with
    | zero => intro x3 x4 h; exact absurd h id
    | succ n ih =>
      intro x3 x4 h H locs ls hw hl
      rw [L_Mo_older_16] at h
      refine lv_iload hx hb dX10_older_16 (lv_at hl 4 rfl) ?_
      refine lv_aload_n hx hb dX10_older_18 rfl (lv_at hl 0 rfl) ?_
      refine G_RX10_54 C hw 0 rfl dX10_older_19 ?_
      refine lv_icmp_ge (tgt := 55) hx hb dX10_older_22 (by decide) (fun c_22 => ?_) (fun c_22 => ?_)
      · have h := h.1 c_22
        refine lv_iload_n hx hb dX10_older_55 rfl (lv_at hl 2 rfl) ?_
        by_cases c_56_0 : x2 = 0
        · have h := h.1 c_56_0
          refine lv_tableIn (off := 36) (tgt := 92) hx hb dX10_older_56 (by rw [c_56_0]; decide) (by rw [c_56_0]; decide) (by rw [c_56_0]; rfl) (by decide) ?_
          exact hB_Mo_older_92  h _ _ _ hw (lv_sub hl [0, 1, 2] rfl)
        · have h := h.2 c_56_0
          by_cases c_56_1 : x2 = 1
          · have h := h.1 c_56_1
            refine lv_tableIn (off := 47) (tgt := 103) hx hb dX10_older_56 (by rw [c_56_1]; decide) (by rw [c_56_1]; decide) (by rw [c_56_1]; rfl) (by decide) ?_
            refine lv_aload_n hx hb dX10_older_103 rfl (lv_at hl 0 rfl) ?_
            refine lv_iload_n hx hb dX10_older_104 rfl (lv_at hl 1 rfl) ?_
            refine callVi (As := [.int x1]) (rest := []) (W2 := fun _ => (cs_Mo_older g a_t a_t_one a_t_weight a_t_cost a_t_text a_t_read a_t_likes a_t_judged a_t_met a_t_line a_t_image a_t_isKept a_t_had t_points t_cases t_bytes t_position t_tokenAt t_token t_digits t_number t_row t_isRow t_faultAt t_readMany t_readPoints t_readCases t_suitOne t_suitTwo t_one)) C hw hl (c_Mo_judgmentOf l g a_t a_t_one a_t_weight a_t_cost a_t_text a_t_read a_t_likes a_t_judged a_t_met a_t_line a_t_image a_t_isKept a_t_had t_points t_cases t_bytes t_position t_tokenAt t_token t_digits t_number t_row t_isRow t_faultAt t_readMany t_readPoints t_readCases t_suitOne t_suitTwo t_one x1 _ h) tw_1087 kk_X10_judgmentOf rfl ⟨rfl, rfl⟩ ⟨by decide, by decide⟩ (Nat.le_of_ble_eq_true rfl) 0 rfl rfl rfl [0, 1] [] [0, 1] rfl rfl rfl rfl rfl rfl (fun u => rfl) rfl dX10_older_105 (fun r_2 u H locs h hw => ?_)
            exact hret () h hw dX10_older_108 rfl
          · have h := h.2 c_56_1
            by_cases c_56_2 : x2 = 2
            · have h := h.1 c_56_2
              refine lv_tableIn (off := 36) (tgt := 92) hx hb dX10_older_56 (by rw [c_56_2]; decide) (by rw [c_56_2]; decide) (by rw [c_56_2]; rfl) (by decide) ?_
              exact hB_Mo_older_92  h _ _ _ hw (lv_sub hl [0, 1, 2] rfl)
            · have h := h.2 c_56_2
              by_cases c_56_3 : x2 = 3
              · have h := h.1 c_56_3
                refine lv_tableIn (off := 36) (tgt := 92) hx hb dX10_older_56 (by rw [c_56_3]; decide) (by rw [c_56_3]; decide) (by rw [c_56_3]; rfl) (by decide) ?_
                exact hB_Mo_older_92  h _ _ _ hw (lv_sub hl [0, 1, 2] rfl)
              · have h := h.2 c_56_3
                by_cases c_56_4 : x2 = 4
                · have h := h.1 c_56_4
                  refine lv_tableIn (off := 53) (tgt := 109) hx hb dX10_older_56 (by rw [c_56_4]; decide) (by rw [c_56_4]; decide) (by rw [c_56_4]; rfl) (by decide) ?_
                  refine lv_iload_n hx hb dX10_older_109 rfl (lv_at hl 3 rfl) ?_
                  exact hret () h hw dX10_older_110 rfl
                · have h := h.2 c_56_4
                  refine lv_tableOut (tgt := 111) hx hb dX10_older_56 (sw_out (fun z z1 z2 => ?_)) (by decide) ?_
                  · rcases (show z = 0 ∨ z = 1 ∨ z = 2 ∨ z = 3 ∨ z = 4 by omega) with rfl | rfl | rfl | rfl | rfl
                    · exact sw_ne c_56_0 (by decide)
                    · exact sw_ne c_56_1 (by decide)
                    · exact sw_ne c_56_2 (by decide)
                    · exact sw_ne c_56_3 (by decide)
                    · exact sw_ne c_56_4 (by decide)
                  · refine lv_bipush (v := (-3)) hx hb dX10_older_111 (by decide) ?_
                    exact hret () h hw dX10_older_113 rfl
      · have h := h.2 c_22
        refine lv_iload_n hx hb dX10_older_25 rfl (lv_at hl 3 rfl) ?_
        refine lv_iload hx hb dX10_older_26 (lv_at hl 4 rfl) ?_
        refine lv_iload_n hx hb dX10_older_28 rfl (lv_at hl 1 rfl) ?_
        refine lv_icmp_eq (tgt := 46) hx hb dX10_older_29 (by decide) (fun c_29 => ?_) (fun c_29 => ?_)
        · have h := h.1 c_29
          exact hB_Mo_older_46 (L_Mo_older_16 x1 x2 t_cases t_one Q n) ih x4 x3 h _ _ _ hw (lv_sub hl [0, 1, 2, 4] rfl)
        · have h := h.2 c_29
          refine lv_aload_n hx hb dX10_older_32 rfl (lv_at hl 0 rfl) ?_
          refine lv_iload hx hb dX10_older_33 (lv_at hl 4 rfl) ?_
          refine lv_iload_n hx hb dX10_older_35 rfl (lv_at hl 1 rfl) ?_
          refine callVi (As := [.int x4, .int x1]) (rest := [.int x3]) (W2 := fun _ => (cs_Mo_older g a_t a_t_one a_t_weight a_t_cost a_t_text a_t_read a_t_likes a_t_judged a_t_met a_t_line a_t_image a_t_isKept a_t_had t_points t_cases t_bytes t_position t_tokenAt t_token t_digits t_number t_row t_isRow t_faultAt t_readMany t_readPoints t_readCases t_suitOne t_suitTwo t_one)) C hw hl (c_Mo_isElder l g a_t a_t_one a_t_weight a_t_cost a_t_text a_t_read a_t_likes a_t_judged a_t_met a_t_line a_t_image a_t_isKept a_t_had t_points t_cases t_bytes t_position t_tokenAt t_token t_digits t_number t_row t_isRow t_faultAt t_readMany t_readPoints t_readCases t_suitOne t_suitTwo t_one x4 x1 _ h) tw_1083 kk_X10_isElder rfl ⟨rfl, rfl⟩ ⟨by decide, by decide⟩ (Nat.le_of_ble_eq_true rfl) 0 rfl rfl rfl [0, 1] [] [0, 1] rfl rfl rfl rfl rfl rfl (fun u => rfl) rfl dX10_older_36 (fun r_3 u H locs h hw => ?_)
          refine lv_if_eq (tgt := 46) hx hb dX10_older_39 (by decide) (fun c_39 => ?_) (fun c_39 => ?_)
          · have h := h.1 c_39
            exact hB_Mo_older_46 (L_Mo_older_16 x1 x2 t_cases t_one Q n) ih x4 x3 h _ _ _ hw (lv_sub hl [0, 1, 2, 4] rfl)
          · have h := h.2 c_39
            refine lv_iconst (v := 1) hx hb dX10_older_42 (by decide) ?_
            refine lv_goto (tgt := 47) hx hb dX10_older_43 (by decide) ?_
            exact hB_Mo_older_47 (L_Mo_older_16 x1 x2 t_cases t_one Q n) ih x4 x3 1 h _ _ _ hw (lv_sub hl [0, 1, 2, 4] rfl)
  refine lv_aload_n hx hb dX10_older_0 rfl (lv_at hl 0 rfl) ?_
  refine lv_iload_n hx hb dX10_older_1 rfl (lv_at hl 1 rfl) ?_
  refine callVi (As := [.int x1]) (rest := []) (W2 := fun _ => (cs_Mo_older g a_t a_t_one a_t_weight a_t_cost a_t_text a_t_read a_t_likes a_t_judged a_t_met a_t_line a_t_image a_t_isKept a_t_had t_points t_cases t_bytes t_position t_tokenAt t_token t_digits t_number t_row t_isRow t_faultAt t_readMany t_readPoints t_readCases t_suitOne t_suitTwo t_one)) C hw hl (c_Mo_isCase l g a_t a_t_weight a_t_cost a_t_one a_t_text a_t_read a_t_likes a_t_judged a_t_met a_t_line a_t_image a_t_isKept a_t_had t_points t_cases t_bytes t_position t_tokenAt t_token t_digits t_number t_row t_isRow t_faultAt t_readMany t_readPoints t_readCases t_suitOne t_suitTwo x1 _ h) tw_1079 kk_X10_isCase rfl ⟨rfl, rfl⟩ ⟨by decide, by decide⟩ (Nat.le_of_ble_eq_true rfl) 0 rfl rfl rfl [0] [1] [1, 0] rfl rfl rfl rfl rfl rfl (fun u => rfl) rfl dX10_older_2 (fun r_4 u H locs h hw => ?_)
  refine lv_if_ne (tgt := 11) hx hb dX10_older_5 (by decide) (fun c_5 => ?_) (fun c_5 => ?_)
  · have h := h.1 c_5
    refine lv_iconst (v := 0) hx hb dX10_older_11 (by decide) ?_
    refine lv_istore_n (lv' := [(3, .int 0), (0, .ref a_t), (1, .int x1), (2, .int x2)]) hx hb dX10_older_12 rfl hl (by decide) rfl (fun ls hl => ?_)
    refine lv_iconst (v := 0) hx hb dX10_older_13 (by decide) ?_
    refine lv_istore (lv' := [(4, .int 0), (3, .int 0), (0, .ref a_t), (1, .int x1), (2, .int x2)]) hx hb dX10_older_14 hl (by decide) rfl (fun ls hl => ?_)
    obtain ⟨n_16, h⟩ := h
    exact hL_Mo_older_16 n_16 0 0 h _ _ _ hw (lv_sub hl [2, 3, 4, 1, 0] rfl)
  · have h := h.2 c_5
    refine lv_bipush (v := (-2)) hx hb dX10_older_8 (by decide) ?_
    exact hret () h hw dX10_older_10 rfl
def P_Mo_all (t_cases : Int32) (Q : Int32 → Prop) : Prop := Q ((1 <<< (t_cases &&& 31)) - 1)
abbrev rm_Mo_all : Room := { frames := 0, cells := 0, slots := 0, locals := 0 }
def cs_Mo_all (g : GE) (a_t a_t_weight a_t_cost a_t_one a_t_text a_t_read a_t_likes a_t_judged a_t_met a_t_line a_t_image a_t_isKept a_t_had : Nat) (t_points : Int32) (t_cases : Int32) (t_bytes : Int32) (t_position : Int32) (t_tokenAt : Int32) (t_token : Int64) (t_digits : Int32) (t_number : Int32) (t_row : Int32) (t_isRow : Int32) (t_faultAt : Int32) (t_readMany : Int32) (t_readPoints : Int32) (t_readCases : Int32) (t_suitOne : Int32) (t_suitTwo : Int32) : va_W := [oc a_t 10 [.int t_points, .ref a_t_weight, .ref a_t_cost, .int t_cases, .ref a_t_one, .int t_bytes, .ref a_t_text, .int t_position, .int t_tokenAt, .long t_token, .int t_digits, .int t_number, .int t_row, .int t_isRow, .int t_faultAt, .int t_readMany, .int t_readPoints, .int t_readCases, .ref a_t_read, .ref a_t_likes, .ref a_t_judged, .ref a_t_met, .ref a_t_line, .ref a_t_image, .ref a_t_isKept, .int t_suitOne, .int t_suitTwo, .ref a_t_had]]
set_option maxHeartbeats 4000000 in
set_option maxRecDepth 100000 in
theorem c_Mo_all (l : Launch) (g : GE) (a_t a_t_weight a_t_cost a_t_one a_t_text a_t_read a_t_likes a_t_judged a_t_met a_t_line a_t_image a_t_isKept a_t_had : Nat) (t_points : Int32) (t_cases : Int32) (t_bytes : Int32) (t_position : Int32) (t_tokenAt : Int32) (t_token : Int64) (t_digits : Int32) (t_number : Int32) (t_row : Int32) (t_isRow : Int32) (t_faultAt : Int32) (t_readMany : Int32) (t_readPoints : Int32) (t_readCases : Int32) (t_suitOne : Int32) (t_suitTwo : Int32) (Q : Int32 → Prop) (h : P_Mo_all t_cases Q) : Cti l g yX10_all cX10_all 1 (some .int) rm_Mo_all [.ref a_t] (cs_Mo_all g a_t a_t_weight a_t_cost a_t_one a_t_text a_t_read a_t_likes a_t_judged a_t_met a_t_line a_t_image a_t_isKept a_t_had t_points t_cases t_bytes t_position t_tokenAt t_token t_digits t_number t_row t_isRow t_faultAt t_readMany t_readPoints t_readCases t_suitOne t_suitTwo) (S := Unit) (fun r u => Q r) (fun _ => (cs_Mo_all g a_t a_t_weight a_t_cost a_t_one a_t_text a_t_read a_t_likes a_t_judged a_t_met a_t_line a_t_image a_t_isKept a_t_had t_points t_cases t_bytes t_position t_tokenAt t_token t_digits t_number t_row t_isRow t_faultAt t_readMany t_readPoints t_readCases t_suitOne t_suitTwo)) := by
  refine meetI rfl (Nat.le_of_ble_eq_true rfl) ⟨rfl, rfl⟩ ?_
  intro p e s m args below meth c A Qf ls C hret hw hl
  have hx := C.1
  have hb := C.2.1
  have hown := C.2.2.2.1
  have hts := C.2.2.2.2.1
  have hE := C.2.2.2.2.2.1
  have hl : lv_has ls 1 [(0, .ref a_t)] := hl
  refine lv_iconst (v := 1) hx hb dX10_all_0 (by decide) ?_
  refine lv_aload_n hx hb dX10_all_1 rfl (lv_at hl 0 rfl) ?_
  refine G_RX10_54 C hw 0 rfl dX10_all_2 ?_
  refine lv_ishl hx hb dX10_all_5 ?_
  refine lv_iconst (v := 1) hx hb dX10_all_6 (by decide) ?_
  refine lv_isub hx hb dX10_all_7 ?_
  exact hret () h hw dX10_all_8 rfl
def B_Mo_likeness_37 (x1 : Int32) (x2 : Int32) (t_points : Int32) (t_weight : (Nat → Int32)) (Q : Int32 → Prop) (N_5 : Int32 → Int32 → Prop) (x4 : Int32) (k0 : Int32) (k1 : Int32) : Prop := ∀ x3_1 : Int32, x3_1 = (k0 + k1) → N_5 x3_1 (x4 + 1)
def L_Mo_likeness_5 (x1 : Int32) (x2 : Int32) (t_points : Int32) (t_weight : (Nat → Int32)) (Q : Int32 → Prop) : Nat → Int32 → Int32 → Prop
  | 0 => fun _ _ => False
  | n + 1 => fun x3 x4 => (t_points ≤ x4 → Q x3) ∧ (¬ t_points ≤ x4 → P_Mo_has (x1 ^^^ x2) x4 (fun r_2 => (r_2 = 0 → vp_in x4 10 ∧ (B_Mo_likeness_37 x1 x2 t_points t_weight Q (L_Mo_likeness_5 x1 x2 t_points t_weight Q n) x4 x3 (t_weight x4.toNatClampNeg))) ∧ (¬ r_2 = 0 → B_Mo_likeness_37 x1 x2 t_points t_weight Q (L_Mo_likeness_5 x1 x2 t_points t_weight Q n) x4 x3 0)))
def P_Mo_likeness (x1 : Int32) (x2 : Int32) (t_points : Int32) (t_weight : (Nat → Int32)) (Q : Int32 → Prop) : Prop := ∃ n_5 : Nat, L_Mo_likeness_5 x1 x2 t_points t_weight Q n_5 0 0
abbrev rm_Mo_likeness : Room := { frames := 1, cells := 0, slots := 0, locals := 21 }
def cs_Mo_likeness (g : GE) (a_t a_t_weight a_t_cost a_t_one a_t_text a_t_read a_t_likes a_t_judged a_t_met a_t_line a_t_image a_t_isKept a_t_had : Nat) (t_points : Int32) (t_cases : Int32) (t_bytes : Int32) (t_position : Int32) (t_tokenAt : Int32) (t_token : Int64) (t_digits : Int32) (t_number : Int32) (t_row : Int32) (t_isRow : Int32) (t_faultAt : Int32) (t_readMany : Int32) (t_readPoints : Int32) (t_readCases : Int32) (t_suitOne : Int32) (t_suitTwo : Int32) (t_weight : (Nat → Int32)) : va_W := [oc a_t 10 [.int t_points, .ref a_t_weight, .ref a_t_cost, .int t_cases, .ref a_t_one, .int t_bytes, .ref a_t_text, .int t_position, .int t_tokenAt, .long t_token, .int t_digits, .int t_number, .int t_row, .int t_isRow, .int t_faultAt, .int t_readMany, .int t_readPoints, .int t_readCases, .ref a_t_read, .ref a_t_likes, .ref a_t_judged, .ref a_t_met, .ref a_t_line, .ref a_t_image, .ref a_t_isKept, .int t_suitOne, .int t_suitTwo, .ref a_t_had], ai g a_t_weight 10 t_weight]
set_option maxHeartbeats 4000000 in
set_option maxRecDepth 100000 in
theorem c_Mo_likeness (l : Launch) (g : GE) (a_t a_t_weight a_t_cost a_t_one a_t_text a_t_read a_t_likes a_t_judged a_t_met a_t_line a_t_image a_t_isKept a_t_had : Nat) (t_points : Int32) (t_cases : Int32) (t_bytes : Int32) (t_position : Int32) (t_tokenAt : Int32) (t_token : Int64) (t_digits : Int32) (t_number : Int32) (t_row : Int32) (t_isRow : Int32) (t_faultAt : Int32) (t_readMany : Int32) (t_readPoints : Int32) (t_readCases : Int32) (t_suitOne : Int32) (t_suitTwo : Int32) (t_weight : (Nat → Int32)) (x1 : Int32) (x2 : Int32) (Q : Int32 → Prop) (h : P_Mo_likeness x1 x2 t_points t_weight Q) : Cti l g yX10_likeness cX10_likeness 5 (some .int) rm_Mo_likeness [.ref a_t, .int x1, .int x2] (cs_Mo_likeness g a_t a_t_weight a_t_cost a_t_one a_t_text a_t_read a_t_likes a_t_judged a_t_met a_t_line a_t_image a_t_isKept a_t_had t_points t_cases t_bytes t_position t_tokenAt t_token t_digits t_number t_row t_isRow t_faultAt t_readMany t_readPoints t_readCases t_suitOne t_suitTwo t_weight) (S := Unit) (fun r u => Q r) (fun _ => (cs_Mo_likeness g a_t a_t_weight a_t_cost a_t_one a_t_text a_t_read a_t_likes a_t_judged a_t_met a_t_line a_t_image a_t_isKept a_t_had t_points t_cases t_bytes t_position t_tokenAt t_token t_digits t_number t_row t_isRow t_faultAt t_readMany t_readPoints t_readCases t_suitOne t_suitTwo t_weight)) := by
  refine meetI rfl (Nat.le_of_ble_eq_true rfl) ⟨rfl, rfl⟩ ?_
  intro p e s m args below meth c A Qf ls C hret hw hl
  have hx := C.1
  have hb := C.2.1
  have hown := C.2.2.2.1
  have hts := C.2.2.2.2.1
  have hE := C.2.2.2.2.2.1
  have hl : lv_has ls 5 [(0, .ref a_t), (1, .int x1), (2, .int x2)] := hl
  have hB_Mo_likeness_37 : ∀ (N_5 : Int32 → Int32 → Prop) (hN_5 : ∀ (x3 : Int32) (x4 : Int32), N_5 x3 x4 → Wat p l e rm_Mo_likeness s m args below meth c A Qf g 5 (cs_Mo_likeness g a_t a_t_weight a_t_cost a_t_one a_t_text a_t_read a_t_likes a_t_judged a_t_met a_t_line a_t_image a_t_isKept a_t_had t_points t_cases t_bytes t_position t_tokenAt t_token t_digits t_number t_row t_isRow t_faultAt t_readMany t_readPoints t_readCases t_suitOne t_suitTwo t_weight) [(0, .ref a_t), (1, .int x1), (2, .int x2), (3, .int x3), (4, .int x4)] 5 []) (x4 : Int32) (k0 : Int32) (k1 : Int32), B_Mo_likeness_37 x1 x2 t_points t_weight Q N_5 x4 k0 k1 → Wat p l e rm_Mo_likeness s m args below meth c A Qf g 5 (cs_Mo_likeness g a_t a_t_weight a_t_cost a_t_one a_t_text a_t_read a_t_likes a_t_judged a_t_met a_t_line a_t_image a_t_isKept a_t_had t_points t_cases t_bytes t_position t_tokenAt t_token t_digits t_number t_row t_isRow t_faultAt t_readMany t_readPoints t_readCases t_suitOne t_suitTwo t_weight) [(0, .ref a_t), (1, .int x1), (2, .int x2), (4, .int x4)] 37 [.int k1, .int k0] := by
    intro N_5 hN_5 x4 k0 k1 h H locs ls hw hl
    refine lv_iadd hx hb dX10_likeness_37 ?_
    refine lv_topi (fun x3_1 ex3_1 => ?_)
    have h := h x3_1 ex3_1
    refine lv_istore_n (lv' := [(3, .int x3_1), (0, .ref a_t), (1, .int x1), (2, .int x2), (4, .int x4)]) hx hb dX10_likeness_38 rfl hl (by decide) rfl (fun ls hl => ?_)
    refine lv_iinc (v := x4 + 1) (lv' := [(4, .int (x4 + 1)), (3, .int x3_1), (0, .ref a_t), (1, .int x1), (2, .int x2)]) hx hb dX10_likeness_39 hl (k := 4) rfl rfl (by decide) rfl (fun ls hl => ?_)
    refine lv_goto (tgt := 5) hx hb dX10_likeness_42 (by decide) ?_
    exact hN_5 x3_1 (x4 + 1) h _ _ _ hw (lv_sub hl [2, 3, 4, 1, 0] rfl)
  have hL_Mo_likeness_5 : ∀ (n : Nat) (x3 : Int32) (x4 : Int32), L_Mo_likeness_5 x1 x2 t_points t_weight Q n x3 x4 → Wat p l e rm_Mo_likeness s m args below meth c A Qf g 5 (cs_Mo_likeness g a_t a_t_weight a_t_cost a_t_one a_t_text a_t_read a_t_likes a_t_judged a_t_met a_t_line a_t_image a_t_isKept a_t_had t_points t_cases t_bytes t_position t_tokenAt t_token t_digits t_number t_row t_isRow t_faultAt t_readMany t_readPoints t_readCases t_suitOne t_suitTwo t_weight) [(0, .ref a_t), (1, .int x1), (2, .int x2), (3, .int x3), (4, .int x4)] 5 [] := by
    intro n
    induction n with
    | zero => intro x3 x4 h; exact absurd h id
    | succ n ih =>
      intro x3 x4 h H locs ls hw hl
      rw [L_Mo_likeness_5] at h
      refine lv_iload hx hb dX10_likeness_5 (lv_at hl 4 rfl) ?_
      refine lv_aload_n hx hb dX10_likeness_7 rfl (lv_at hl 0 rfl) ?_
      refine G_RX10_7 C hw 0 rfl dX10_likeness_8 ?_
      refine lv_icmp_ge (tgt := 45) hx hb dX10_likeness_11 (by decide) (fun c_11 => ?_) (fun c_11 => ?_)
      · have h := h.1 c_11
        refine lv_iload_n hx hb dX10_likeness_45 rfl (lv_at hl 3 rfl) ?_
        exact hret () h hw dX10_likeness_46 rfl
      · have h := h.2 c_11
        refine lv_iload_n hx hb dX10_likeness_14 rfl (lv_at hl 3 rfl) ?_
        refine lv_iload_n hx hb dX10_likeness_15 rfl (lv_at hl 1 rfl) ?_
        refine lv_iload_n hx hb dX10_likeness_16 rfl (lv_at hl 2 rfl) ?_
        refine lv_ixor hx hb dX10_likeness_17 ?_
        refine lv_iload hx hb dX10_likeness_18 (lv_at hl 4 rfl) ?_
        refine callSi (As := [.int (x1 ^^^ x2), .int x4]) (rest := [.int x3]) C hw hl (c_Mo_has l g (x1 ^^^ x2) x4 _ h) tw_1111 kk_X10_has rfl ⟨rfl, rfl⟩ ⟨by decide, by decide⟩ (Nat.le_of_ble_eq_true rfl) rfl dX10_likeness_20 (fun r_2 u H locs h hw => ?_)
        refine lv_if_eq (tgt := 30) hx hb dX10_likeness_23 (by decide) (fun c_23 => ?_) (fun c_23 => ?_)
        · have h := h.1 c_23
          refine lv_aload_n hx hb dX10_likeness_30 rfl (lv_at hl 0 rfl) ?_
          refine G_RX10_13 C hw 0 rfl dX10_likeness_31 ?_
          refine lv_iload hx hb dX10_likeness_34 (lv_at hl 4 rfl) ?_
          refine aldI C hw 1 rfl h.1 dX10_likeness_36 ?_
          have h := h.2
          exact hB_Mo_likeness_37 (L_Mo_likeness_5 x1 x2 t_points t_weight Q n) ih x4 x3 (t_weight x4.toNatClampNeg) h _ _ _ hw (lv_sub hl [0, 1, 2, 4] rfl)
        · have h := h.2 c_23
          refine lv_iconst (v := 0) hx hb dX10_likeness_26 (by decide) ?_
          refine lv_goto (tgt := 37) hx hb dX10_likeness_27 (by decide) ?_
          exact hB_Mo_likeness_37 (L_Mo_likeness_5 x1 x2 t_points t_weight Q n) ih x4 x3 0 h _ _ _ hw (lv_sub hl [0, 1, 2, 4] rfl)
  refine lv_iconst (v := 0) hx hb dX10_likeness_0 (by decide) ?_
  refine lv_istore_n (lv' := [(3, .int 0), (0, .ref a_t), (1, .int x1), (2, .int x2)]) hx hb dX10_likeness_1 rfl hl (by decide) rfl (fun ls hl => ?_)
  refine lv_iconst (v := 0) hx hb dX10_likeness_2 (by decide) ?_
  refine lv_istore (lv' := [(4, .int 0), (3, .int 0), (0, .ref a_t), (1, .int x1), (2, .int x2)]) hx hb dX10_likeness_3 hl (by decide) rfl (fun ls hl => ?_)
  obtain ⟨n_5, h⟩ := h
  exact hL_Mo_likeness_5 n_5 0 0 h _ _ _ hw (lv_sub hl [2, 3, 4, 1, 0] rfl)
def B_Mo_caseOf_104 (x1 : Int32) (x2 : Int32) (t_points : Int32) (t_cases : Int32) (t_one : (Nat → Int32)) (t_weight : (Nat → Int32)) (Q : Int32 → Prop) (N_8 : Int32 → Int32 → Int32 → Prop) (x3 : Int32) (x4 : Int32) (x5 : Int32) : Prop := N_8 x3 x4 (x5 + 1)
def B_Mo_caseOf_102 (x1 : Int32) (x2 : Int32) (t_points : Int32) (t_cases : Int32) (t_one : (Nat → Int32)) (t_weight : (Nat → Int32)) (Q : Int32 → Prop) (N_8 : Int32 → Int32 → Int32 → Prop) (x3 : Int32) (x5 : Int32) (k0 : Int32) : Prop := B_Mo_caseOf_104 x1 x2 t_points t_cases t_one t_weight Q N_8 x3 k0 x5
def B_Mo_caseOf_89 (x1 : Int32) (x2 : Int32) (t_points : Int32) (t_cases : Int32) (t_one : (Nat → Int32)) (t_weight : (Nat → Int32)) (Q : Int32 → Prop) (N_8 : Int32 → Int32 → Int32 → Prop) (x4 : Int32) (x5 : Int32) (x6 : Int32) (x7 : Int32) (k0 : Int32) : Prop := (x7 = 0 → B_Mo_caseOf_102 x1 x2 t_points t_cases t_one t_weight Q N_8 k0 x5 x4) ∧ (¬ x7 = 0 → B_Mo_caseOf_102 x1 x2 t_points t_cases t_one t_weight Q N_8 k0 x5 x6)
def B_Mo_caseOf_76 (x1 : Int32) (x2 : Int32) (t_points : Int32) (t_cases : Int32) (t_one : (Nat → Int32)) (t_weight : (Nat → Int32)) (Q : Int32 → Prop) (N_8 : Int32 → Int32 → Int32 → Prop) (x3 : Int32) (x4 : Int32) (x5 : Int32) (x6 : Int32) (k0 : Int32) : Prop := (k0 = 0 → B_Mo_caseOf_89 x1 x2 t_points t_cases t_one t_weight Q N_8 x4 x5 x6 k0 x3) ∧ (¬ k0 = 0 → B_Mo_caseOf_89 x1 x2 t_points t_cases t_one t_weight Q N_8 x4 x5 x6 k0 x5)
def B_Mo_caseOf_71 (x1 : Int32) (x2 : Int32) (t_points : Int32) (t_cases : Int32) (t_one : (Nat → Int32)) (t_weight : (Nat → Int32)) (Q : Int32 → Prop) (N_8 : Int32 → Int32 → Int32 → Prop) (x3 : Int32) (x4 : Int32) (x5 : Int32) (x6 : Int32) : Prop := B_Mo_caseOf_76 x1 x2 t_points t_cases t_one t_weight Q N_8 x3 x4 x5 x6 1
def B_Mo_caseOf_75 (x1 : Int32) (x2 : Int32) (t_points : Int32) (t_cases : Int32) (t_one : (Nat → Int32)) (t_weight : (Nat → Int32)) (Q : Int32 → Prop) (N_8 : Int32 → Int32 → Int32 → Prop) (x3 : Int32) (x4 : Int32) (x5 : Int32) (x6 : Int32) : Prop := B_Mo_caseOf_76 x1 x2 t_points t_cases t_one t_weight Q N_8 x3 x4 x5 x6 0
def L_Mo_caseOf_8 (x1 : Int32) (x2 : Int32) (t_points : Int32) (t_cases : Int32) (t_one : (Nat → Int32)) (t_weight : (Nat → Int32)) (Q : Int32 → Prop) : Nat → Int32 → Int32 → Int32 → Prop
  | 0 => fun _ _ _ => False
  | n + 1 => fun x3 x4 x5 => (t_cases ≤ x5 → Q x3) ∧ (¬ t_cases ≤ x5 → P_Mo_has x2 x5 (fun r_1 => (r_1 = 0 → B_Mo_caseOf_104 x1 x2 t_points t_cases t_one t_weight Q (L_Mo_caseOf_8 x1 x2 t_points t_cases t_one t_weight Q n) x3 x4 x5) ∧ (¬ r_1 = 0 → vp_in (4 * x5) 56 ∧ (P_Mo_likeness x1 (t_one (4 * x5).toNatClampNeg) t_points t_weight (fun r_2 => (x3 = (-1) → B_Mo_caseOf_71 x1 x2 t_points t_cases t_one t_weight Q (L_Mo_caseOf_8 x1 x2 t_points t_cases t_one t_weight Q n) x3 x4 x5 r_2) ∧ (¬ x3 = (-1) → (x4 < r_2 → B_Mo_caseOf_71 x1 x2 t_points t_cases t_one t_weight Q (L_Mo_caseOf_8 x1 x2 t_points t_cases t_one t_weight Q n) x3 x4 x5 r_2) ∧ (¬ x4 < r_2 → (¬ r_2 = x4 → B_Mo_caseOf_75 x1 x2 t_points t_cases t_one t_weight Q (L_Mo_caseOf_8 x1 x2 t_points t_cases t_one t_weight Q n) x3 x4 x5 r_2) ∧ (r_2 = x4 → P_Mo_isElder x5 x3 t_one (fun r_3 => (r_3 = 0 → B_Mo_caseOf_75 x1 x2 t_points t_cases t_one t_weight Q (L_Mo_caseOf_8 x1 x2 t_points t_cases t_one t_weight Q n) x3 x4 x5 r_2) ∧ (¬ r_3 = 0 → B_Mo_caseOf_71 x1 x2 t_points t_cases t_one t_weight Q (L_Mo_caseOf_8 x1 x2 t_points t_cases t_one t_weight Q n) x3 x4 x5 r_2))))))))))
def P_Mo_caseOf (x1 : Int32) (x2 : Int32) (t_points : Int32) (t_cases : Int32) (t_one : (Nat → Int32)) (t_weight : (Nat → Int32)) (Q : Int32 → Prop) : Prop := ∃ n_8 : Nat, L_Mo_caseOf_8 x1 x2 t_points t_cases t_one t_weight Q n_8 (-1) 0 0
abbrev rm_Mo_caseOf : Room := { frames := 2, cells := 0, slots := 0, locals := 45 }
def cs_Mo_caseOf (g : GE) (a_t a_t_one a_t_weight a_t_cost a_t_text a_t_read a_t_likes a_t_judged a_t_met a_t_line a_t_image a_t_isKept a_t_had : Nat) (t_points : Int32) (t_cases : Int32) (t_bytes : Int32) (t_position : Int32) (t_tokenAt : Int32) (t_token : Int64) (t_digits : Int32) (t_number : Int32) (t_row : Int32) (t_isRow : Int32) (t_faultAt : Int32) (t_readMany : Int32) (t_readPoints : Int32) (t_readCases : Int32) (t_suitOne : Int32) (t_suitTwo : Int32) (t_one : (Nat → Int32)) (t_weight : (Nat → Int32)) : va_W := [oc a_t 10 [.int t_points, .ref a_t_weight, .ref a_t_cost, .int t_cases, .ref a_t_one, .int t_bytes, .ref a_t_text, .int t_position, .int t_tokenAt, .long t_token, .int t_digits, .int t_number, .int t_row, .int t_isRow, .int t_faultAt, .int t_readMany, .int t_readPoints, .int t_readCases, .ref a_t_read, .ref a_t_likes, .ref a_t_judged, .ref a_t_met, .ref a_t_line, .ref a_t_image, .ref a_t_isKept, .int t_suitOne, .int t_suitTwo, .ref a_t_had], ai g a_t_one 56 t_one, ai g a_t_weight 10 t_weight]
set_option maxHeartbeats 4000000 in
set_option maxRecDepth 100000 in
theorem c_Mo_caseOf (l : Launch) (g : GE) (a_t a_t_one a_t_weight a_t_cost a_t_text a_t_read a_t_likes a_t_judged a_t_met a_t_line a_t_image a_t_isKept a_t_had : Nat) (t_points : Int32) (t_cases : Int32) (t_bytes : Int32) (t_position : Int32) (t_tokenAt : Int32) (t_token : Int64) (t_digits : Int32) (t_number : Int32) (t_row : Int32) (t_isRow : Int32) (t_faultAt : Int32) (t_readMany : Int32) (t_readPoints : Int32) (t_readCases : Int32) (t_suitOne : Int32) (t_suitTwo : Int32) (t_one : (Nat → Int32)) (t_weight : (Nat → Int32)) (x1 : Int32) (x2 : Int32) (Q : Int32 → Prop) (h : P_Mo_caseOf x1 x2 t_points t_cases t_one t_weight Q) : Cti l g yX10_caseOf cX10_caseOf 8 (some .int) rm_Mo_caseOf [.ref a_t, .int x1, .int x2] (cs_Mo_caseOf g a_t a_t_one a_t_weight a_t_cost a_t_text a_t_read a_t_likes a_t_judged a_t_met a_t_line a_t_image a_t_isKept a_t_had t_points t_cases t_bytes t_position t_tokenAt t_token t_digits t_number t_row t_isRow t_faultAt t_readMany t_readPoints t_readCases t_suitOne t_suitTwo t_one t_weight) (S := Unit) (fun r u => Q r) (fun _ => (cs_Mo_caseOf g a_t a_t_one a_t_weight a_t_cost a_t_text a_t_read a_t_likes a_t_judged a_t_met a_t_line a_t_image a_t_isKept a_t_had t_points t_cases t_bytes t_position t_tokenAt t_token t_digits t_number t_row t_isRow t_faultAt t_readMany t_readPoints t_readCases t_suitOne t_suitTwo t_one t_weight)) := by
  refine meetI rfl (Nat.le_of_ble_eq_true rfl) ⟨rfl, rfl⟩ ?_
  intro p e s m args below meth c A Qf ls C hret hw hl
  have hx := C.1
  have hb := C.2.1
  have hown := C.2.2.2.1
  have hts := C.2.2.2.2.1
  have hE := C.2.2.2.2.2.1
  have hl : lv_has ls 8 [(0, .ref a_t), (1, .int x1), (2, .int x2)] := hl
  have hB_Mo_caseOf_104 : ∀ (N_8 : Int32 → Int32 → Int32 → Prop) (hN_8 : ∀ (x3 : Int32) (x4 : Int32) (x5 : Int32), N_8 x3 x4 x5 → Wat p l e rm_Mo_caseOf s m args below meth c A Qf g 8 (cs_Mo_caseOf g a_t a_t_one a_t_weight a_t_cost a_t_text a_t_read a_t_likes a_t_judged a_t_met a_t_line a_t_image a_t_isKept a_t_had t_points t_cases t_bytes t_position t_tokenAt t_token t_digits t_number t_row t_isRow t_faultAt t_readMany t_readPoints t_readCases t_suitOne t_suitTwo t_one t_weight) [(0, .ref a_t), (1, .int x1), (2, .int x2), (3, .int x3), (4, .int x4), (5, .int x5)] 8 []) (x3 : Int32) (x4 : Int32) (x5 : Int32), B_Mo_caseOf_104 x1 x2 t_points t_cases t_one t_weight Q N_8 x3 x4 x5 → Wat p l e rm_Mo_caseOf s m args below meth c A Qf g 8 (cs_Mo_caseOf g a_t a_t_one a_t_weight a_t_cost a_t_text a_t_read a_t_likes a_t_judged a_t_met a_t_line a_t_image a_t_isKept a_t_had t_points t_cases t_bytes t_position t_tokenAt t_token t_digits t_number t_row t_isRow t_faultAt t_readMany t_readPoints t_readCases t_suitOne t_suitTwo t_one t_weight) [(0, .ref a_t), (1, .int x1), (2, .int x2), (3, .int x3), (4, .int x4), (5, .int x5)] 104 [] := by
    intro N_8 hN_8 x3 x4 x5 h H locs ls hw hl
    refine lv_iinc (v := x5 + 1) (lv' := [(5, .int (x5 + 1)), (0, .ref a_t), (1, .int x1), (2, .int x2), (3, .int x3), (4, .int x4)]) hx hb dX10_caseOf_104 hl (k := 5) rfl rfl (by decide) rfl (fun ls hl => ?_)
    refine lv_goto (tgt := 8) hx hb dX10_caseOf_107 (by decide) ?_
    exact hN_8 x3 x4 (x5 + 1) h _ _ _ hw (lv_sub hl [1, 2, 3, 4, 5, 0] rfl)
  have hB_Mo_caseOf_102 : ∀ (N_8 : Int32 → Int32 → Int32 → Prop) (hN_8 : ∀ (x3 : Int32) (x4 : Int32) (x5 : Int32), N_8 x3 x4 x5 → Wat p l e rm_Mo_caseOf s m args below meth c A Qf g 8 (cs_Mo_caseOf g a_t a_t_one a_t_weight a_t_cost a_t_text a_t_read a_t_likes a_t_judged a_t_met a_t_line a_t_image a_t_isKept a_t_had t_points t_cases t_bytes t_position t_tokenAt t_token t_digits t_number t_row t_isRow t_faultAt t_readMany t_readPoints t_readCases t_suitOne t_suitTwo t_one t_weight) [(0, .ref a_t), (1, .int x1), (2, .int x2), (3, .int x3), (4, .int x4), (5, .int x5)] 8 []) (x3 : Int32) (x5 : Int32) (k0 : Int32), B_Mo_caseOf_102 x1 x2 t_points t_cases t_one t_weight Q N_8 x3 x5 k0 → Wat p l e rm_Mo_caseOf s m args below meth c A Qf g 8 (cs_Mo_caseOf g a_t a_t_one a_t_weight a_t_cost a_t_text a_t_read a_t_likes a_t_judged a_t_met a_t_line a_t_image a_t_isKept a_t_had t_points t_cases t_bytes t_position t_tokenAt t_token t_digits t_number t_row t_isRow t_faultAt t_readMany t_readPoints t_readCases t_suitOne t_suitTwo t_one t_weight) [(0, .ref a_t), (1, .int x1), (2, .int x2), (3, .int x3), (5, .int x5)] 102 [.int k0] := by
    intro N_8 hN_8 x3 x5 k0 h H locs ls hw hl
    refine lv_istore (lv' := [(4, .int k0), (0, .ref a_t), (1, .int x1), (2, .int x2), (3, .int x3), (5, .int x5)]) hx hb dX10_caseOf_102 hl (by decide) rfl (fun ls hl => ?_)
    exact hB_Mo_caseOf_104 N_8 hN_8 x3 k0 x5 h _ _ _ hw (lv_sub hl [1, 2, 3, 4, 0, 5] rfl)
  have hB_Mo_caseOf_89 : ∀ (N_8 : Int32 → Int32 → Int32 → Prop) (hN_8 : ∀ (x3 : Int32) (x4 : Int32) (x5 : Int32), N_8 x3 x4 x5 → Wat p l e rm_Mo_caseOf s m args below meth c A Qf g 8 (cs_Mo_caseOf g a_t a_t_one a_t_weight a_t_cost a_t_text a_t_read a_t_likes a_t_judged a_t_met a_t_line a_t_image a_t_isKept a_t_had t_points t_cases t_bytes t_position t_tokenAt t_token t_digits t_number t_row t_isRow t_faultAt t_readMany t_readPoints t_readCases t_suitOne t_suitTwo t_one t_weight) [(0, .ref a_t), (1, .int x1), (2, .int x2), (3, .int x3), (4, .int x4), (5, .int x5)] 8 []) (x4 : Int32) (x5 : Int32) (x6 : Int32) (x7 : Int32) (k0 : Int32), B_Mo_caseOf_89 x1 x2 t_points t_cases t_one t_weight Q N_8 x4 x5 x6 x7 k0 → Wat p l e rm_Mo_caseOf s m args below meth c A Qf g 8 (cs_Mo_caseOf g a_t a_t_one a_t_weight a_t_cost a_t_text a_t_read a_t_likes a_t_judged a_t_met a_t_line a_t_image a_t_isKept a_t_had t_points t_cases t_bytes t_position t_tokenAt t_token t_digits t_number t_row t_isRow t_faultAt t_readMany t_readPoints t_readCases t_suitOne t_suitTwo t_one t_weight) [(0, .ref a_t), (1, .int x1), (2, .int x2), (4, .int x4), (5, .int x5), (6, .int x6), (7, .int x7)] 89 [.int k0] := by
    intro N_8 hN_8 x4 x5 x6 x7 k0 h H locs ls hw hl
    refine lv_istore_n (lv' := [(3, .int k0), (0, .ref a_t), (1, .int x1), (2, .int x2), (4, .int x4), (5, .int x5), (6, .int x6), (7, .int x7)]) hx hb dX10_caseOf_89 rfl hl (by decide) rfl (fun ls hl => ?_)
    refine lv_iload hx hb dX10_caseOf_90 (lv_at hl 7 rfl) ?_
    refine lv_if_eq (tgt := 100) hx hb dX10_caseOf_92 (by decide) (fun c_92 => ?_) (fun c_92 => ?_)
    · have h := h.1 c_92
      refine lv_iload hx hb dX10_caseOf_100 (lv_at hl 4 rfl) ?_
      exact hB_Mo_caseOf_102 N_8 hN_8 k0 x5 x4 h _ _ _ hw (lv_sub hl [1, 2, 3, 0, 5] rfl)
    · have h := h.2 c_92
      refine lv_iload hx hb dX10_caseOf_95 (lv_at hl 6 rfl) ?_
      refine lv_goto (tgt := 102) hx hb dX10_caseOf_97 (by decide) ?_
      exact hB_Mo_caseOf_102 N_8 hN_8 k0 x5 x6 h _ _ _ hw (lv_sub hl [1, 2, 3, 0, 5] rfl)
  have hB_Mo_caseOf_76 : ∀ (N_8 : Int32 → Int32 → Int32 → Prop) (hN_8 : ∀ (x3 : Int32) (x4 : Int32) (x5 : Int32), N_8 x3 x4 x5 → Wat p l e rm_Mo_caseOf s m args below meth c A Qf g 8 (cs_Mo_caseOf g a_t a_t_one a_t_weight a_t_cost a_t_text a_t_read a_t_likes a_t_judged a_t_met a_t_line a_t_image a_t_isKept a_t_had t_points t_cases t_bytes t_position t_tokenAt t_token t_digits t_number t_row t_isRow t_faultAt t_readMany t_readPoints t_readCases t_suitOne t_suitTwo t_one t_weight) [(0, .ref a_t), (1, .int x1), (2, .int x2), (3, .int x3), (4, .int x4), (5, .int x5)] 8 []) (x3 : Int32) (x4 : Int32) (x5 : Int32) (x6 : Int32) (k0 : Int32), B_Mo_caseOf_76 x1 x2 t_points t_cases t_one t_weight Q N_8 x3 x4 x5 x6 k0 → Wat p l e rm_Mo_caseOf s m args below meth c A Qf g 8 (cs_Mo_caseOf g a_t a_t_one a_t_weight a_t_cost a_t_text a_t_read a_t_likes a_t_judged a_t_met a_t_line a_t_image a_t_isKept a_t_had t_points t_cases t_bytes t_position t_tokenAt t_token t_digits t_number t_row t_isRow t_faultAt t_readMany t_readPoints t_readCases t_suitOne t_suitTwo t_one t_weight) [(0, .ref a_t), (1, .int x1), (2, .int x2), (3, .int x3), (4, .int x4), (5, .int x5), (6, .int x6)] 76 [.int k0] := by
    intro N_8 hN_8 x3 x4 x5 x6 k0 h H locs ls hw hl
    refine lv_istore (lv' := [(7, .int k0), (0, .ref a_t), (1, .int x1), (2, .int x2), (3, .int x3), (4, .int x4), (5, .int x5), (6, .int x6)]) hx hb dX10_caseOf_76 hl (by decide) rfl (fun ls hl => ?_)
    refine lv_iload hx hb dX10_caseOf_78 (lv_at hl 0 rfl) ?_
    refine lv_if_eq (tgt := 88) hx hb dX10_caseOf_80 (by decide) (fun c_80 => ?_) (fun c_80 => ?_)
    · have h := h.1 c_80
      refine lv_iload_n hx hb dX10_caseOf_88 rfl (lv_at hl 4 rfl) ?_
      exact hB_Mo_caseOf_89 N_8 hN_8 x4 x5 x6 k0 x3 h _ _ _ hw (lv_sub hl [1, 2, 3, 5, 6, 7, 0] rfl)
    · have h := h.2 c_80
      refine lv_iload hx hb dX10_caseOf_83 (lv_at hl 6 rfl) ?_
      refine lv_goto (tgt := 89) hx hb dX10_caseOf_85 (by decide) ?_
      exact hB_Mo_caseOf_89 N_8 hN_8 x4 x5 x6 k0 x5 h _ _ _ hw (lv_sub hl [1, 2, 3, 5, 6, 7, 0] rfl)
  have hB_Mo_caseOf_71 : ∀ (N_8 : Int32 → Int32 → Int32 → Prop) (hN_8 : ∀ (x3 : Int32) (x4 : Int32) (x5 : Int32), N_8 x3 x4 x5 → Wat p l e rm_Mo_caseOf s m args below meth c A Qf g 8 (cs_Mo_caseOf g a_t a_t_one a_t_weight a_t_cost a_t_text a_t_read a_t_likes a_t_judged a_t_met a_t_line a_t_image a_t_isKept a_t_had t_points t_cases t_bytes t_position t_tokenAt t_token t_digits t_number t_row t_isRow t_faultAt t_readMany t_readPoints t_readCases t_suitOne t_suitTwo t_one t_weight) [(0, .ref a_t), (1, .int x1), (2, .int x2), (3, .int x3), (4, .int x4), (5, .int x5)] 8 []) (x3 : Int32) (x4 : Int32) (x5 : Int32) (x6 : Int32), B_Mo_caseOf_71 x1 x2 t_points t_cases t_one t_weight Q N_8 x3 x4 x5 x6 → Wat p l e rm_Mo_caseOf s m args below meth c A Qf g 8 (cs_Mo_caseOf g a_t a_t_one a_t_weight a_t_cost a_t_text a_t_read a_t_likes a_t_judged a_t_met a_t_line a_t_image a_t_isKept a_t_had t_points t_cases t_bytes t_position t_tokenAt t_token t_digits t_number t_row t_isRow t_faultAt t_readMany t_readPoints t_readCases t_suitOne t_suitTwo t_one t_weight) [(0, .ref a_t), (1, .int x1), (2, .int x2), (3, .int x3), (4, .int x4), (5, .int x5), (6, .int x6)] 71 [] := by
    intro N_8 hN_8 x3 x4 x5 x6 h H locs ls hw hl
    refine lv_iconst (v := 1) hx hb dX10_caseOf_71 (by decide) ?_
    refine lv_goto (tgt := 76) hx hb dX10_caseOf_72 (by decide) ?_
    exact hB_Mo_caseOf_76 N_8 hN_8 x3 x4 x5 x6 1 h _ _ _ hw (lv_sub hl [0, 1, 2, 3, 4, 5, 6] rfl)
  have hB_Mo_caseOf_75 : ∀ (N_8 : Int32 → Int32 → Int32 → Prop) (hN_8 : ∀ (x3 : Int32) (x4 : Int32) (x5 : Int32), N_8 x3 x4 x5 → Wat p l e rm_Mo_caseOf s m args below meth c A Qf g 8 (cs_Mo_caseOf g a_t a_t_one a_t_weight a_t_cost a_t_text a_t_read a_t_likes a_t_judged a_t_met a_t_line a_t_image a_t_isKept a_t_had t_points t_cases t_bytes t_position t_tokenAt t_token t_digits t_number t_row t_isRow t_faultAt t_readMany t_readPoints t_readCases t_suitOne t_suitTwo t_one t_weight) [(0, .ref a_t), (1, .int x1), (2, .int x2), (3, .int x3), (4, .int x4), (5, .int x5)] 8 []) (x3 : Int32) (x4 : Int32) (x5 : Int32) (x6 : Int32), B_Mo_caseOf_75 x1 x2 t_points t_cases t_one t_weight Q N_8 x3 x4 x5 x6 → Wat p l e rm_Mo_caseOf s m args below meth c A Qf g 8 (cs_Mo_caseOf g a_t a_t_one a_t_weight a_t_cost a_t_text a_t_read a_t_likes a_t_judged a_t_met a_t_line a_t_image a_t_isKept a_t_had t_points t_cases t_bytes t_position t_tokenAt t_token t_digits t_number t_row t_isRow t_faultAt t_readMany t_readPoints t_readCases t_suitOne t_suitTwo t_one t_weight) [(0, .ref a_t), (1, .int x1), (2, .int x2), (3, .int x3), (4, .int x4), (5, .int x5), (6, .int x6)] 75 [] := by
    intro N_8 hN_8 x3 x4 x5 x6 h H locs ls hw hl
    refine lv_iconst (v := 0) hx hb dX10_caseOf_75 (by decide) ?_
    exact hB_Mo_caseOf_76 N_8 hN_8 x3 x4 x5 x6 0 h _ _ _ hw (lv_sub hl [0, 1, 2, 3, 4, 5, 6] rfl)
  have hL_Mo_caseOf_8 : ∀ (n : Nat) (x3 : Int32) (x4 : Int32) (x5 : Int32), L_Mo_caseOf_8 x1 x2 t_points t_cases t_one t_weight Q n x3 x4 x5 → Wat p l e rm_Mo_caseOf s m args below meth c A Qf g 8 (cs_Mo_caseOf g a_t a_t_one a_t_weight a_t_cost a_t_text a_t_read a_t_likes a_t_judged a_t_met a_t_line a_t_image a_t_isKept a_t_had t_points t_cases t_bytes t_position t_tokenAt t_token t_digits t_number t_row t_isRow t_faultAt t_readMany t_readPoints t_readCases t_suitOne t_suitTwo t_one t_weight) [(0, .ref a_t), (1, .int x1), (2, .int x2), (3, .int x3), (4, .int x4), (5, .int x5)] 8 [] := by
    intro n
    induction n with
    | zero => intro x3 x4 x5 h; exact absurd h id
    | succ n ih =>
      intro x3 x4 x5 h H locs ls hw hl
      rw [L_Mo_caseOf_8] at h
      refine lv_iload hx hb dX10_caseOf_8 (lv_at hl 5 rfl) ?_
      refine lv_aload_n hx hb dX10_caseOf_10 rfl (lv_at hl 0 rfl) ?_
      refine G_RX10_54 C hw 0 rfl dX10_caseOf_11 ?_
      refine lv_icmp_ge (tgt := 110) hx hb dX10_caseOf_14 (by decide) (fun c_14 => ?_) (fun c_14 => ?_)
      · have h := h.1 c_14
        refine lv_iload_n hx hb dX10_caseOf_110 rfl (lv_at hl 3 rfl) ?_
        exact hret () h hw dX10_caseOf_111 rfl
      · have h := h.2 c_14
        refine lv_iload_n hx hb dX10_caseOf_17 rfl (lv_at hl 2 rfl) ?_
        refine lv_iload hx hb dX10_caseOf_18 (lv_at hl 5 rfl) ?_
        refine callSi (As := [.int x2, .int x5]) (rest := []) C hw hl (c_Mo_has l g x2 x5 _ h) tw_1111 kk_X10_has rfl ⟨rfl, rfl⟩ ⟨by decide, by decide⟩ (Nat.le_of_ble_eq_true rfl) rfl dX10_caseOf_20 (fun r_1 u H locs h hw => ?_)
        refine lv_if_eq (tgt := 104) hx hb dX10_caseOf_23 (by decide) (fun c_23 => ?_) (fun c_23 => ?_)
        · have h := h.1 c_23
          exact hB_Mo_caseOf_104 (L_Mo_caseOf_8 x1 x2 t_points t_cases t_one t_weight Q n) ih x3 x4 x5 h _ _ _ hw (lv_sub hl [0, 1, 2, 3, 4, 5] rfl)
        · have h := h.2 c_23
          refine lv_aload_n hx hb dX10_caseOf_26 rfl (lv_at hl 0 rfl) ?_
          refine lv_iload_n hx hb dX10_caseOf_27 rfl (lv_at hl 1 rfl) ?_
          refine lv_aload_n hx hb dX10_caseOf_28 rfl (lv_at hl 0 rfl) ?_
          refine G_RX10_20 C hw 0 rfl dX10_caseOf_29 ?_
          refine lv_iconst (v := 4) hx hb dX10_caseOf_32 (by decide) ?_
          refine lv_iload hx hb dX10_caseOf_33 (lv_at hl 5 rfl) ?_
          refine lv_imul hx hb dX10_caseOf_35 ?_
          refine aldI C hw 1 rfl h.1 dX10_caseOf_36 ?_
          have h := h.2
          refine callVi (As := [.int x1, .int (t_one (4 * x5).toNatClampNeg)]) (rest := []) (W2 := fun _ => (cs_Mo_caseOf g a_t a_t_one a_t_weight a_t_cost a_t_text a_t_read a_t_likes a_t_judged a_t_met a_t_line a_t_image a_t_isKept a_t_had t_points t_cases t_bytes t_position t_tokenAt t_token t_digits t_number t_row t_isRow t_faultAt t_readMany t_readPoints t_readCases t_suitOne t_suitTwo t_one t_weight)) C hw hl (c_Mo_likeness l g a_t a_t_weight a_t_cost a_t_one a_t_text a_t_read a_t_likes a_t_judged a_t_met a_t_line a_t_image a_t_isKept a_t_had t_points t_cases t_bytes t_position t_tokenAt t_token t_digits t_number t_row t_isRow t_faultAt t_readMany t_readPoints t_readCases t_suitOne t_suitTwo t_weight x1 (t_one (4 * x5).toNatClampNeg) _ h) tw_1114 kk_X10_likeness rfl ⟨rfl, rfl⟩ ⟨by decide, by decide⟩ (Nat.le_of_ble_eq_true rfl) 0 rfl rfl rfl [0, 2] [1] [1, 0, 2] rfl rfl rfl rfl rfl rfl (fun u => rfl) rfl dX10_caseOf_37 (fun r_2 u H locs h hw => ?_)
          refine lv_istore (lv' := [(6, .int r_2), (0, .ref a_t), (1, .int x1), (2, .int x2), (3, .int x3), (4, .int x4), (5, .int x5)]) hx hb dX10_caseOf_40 hl (by decide) rfl (fun ls hl => ?_)
          refine lv_iload_n hx hb dX10_caseOf_42 rfl (lv_at hl 4 rfl) ?_
          refine lv_iconst (v := (-1)) hx hb dX10_caseOf_43 (by decide) ?_
          refine lv_icmp_eq (tgt := 71) hx hb dX10_caseOf_44 (by decide) (fun c_44 => ?_) (fun c_44 => ?_)
          · have h := h.1 c_44
            exact hB_Mo_caseOf_71 (L_Mo_caseOf_8 x1 x2 t_points t_cases t_one t_weight Q n) ih x3 x4 x5 r_2 h _ _ _ hw (lv_sub hl [1, 2, 3, 4, 5, 6, 0] rfl)
          · have h := h.2 c_44
            refine lv_iload hx hb dX10_caseOf_47 (lv_at hl 0 rfl) ?_
            refine lv_iload hx hb dX10_caseOf_49 (lv_at hl 5 rfl) ?_
            refine lv_icmp_gt (tgt := 71) hx hb dX10_caseOf_51 (by decide) (fun c_51 => ?_) (fun c_51 => ?_)
            · have h := h.1 c_51
              exact hB_Mo_caseOf_71 (L_Mo_caseOf_8 x1 x2 t_points t_cases t_one t_weight Q n) ih x3 x4 x5 r_2 h _ _ _ hw (lv_sub hl [1, 2, 3, 4, 5, 6, 0] rfl)
            · have h := h.2 c_51
              refine lv_iload hx hb dX10_caseOf_54 (lv_at hl 0 rfl) ?_
              refine lv_iload hx hb dX10_caseOf_56 (lv_at hl 5 rfl) ?_
              refine lv_icmp_ne (tgt := 75) hx hb dX10_caseOf_58 (by decide) (fun c_58 => ?_) (fun c_58 => ?_)
              · have h := h.1 c_58
                exact hB_Mo_caseOf_75 (L_Mo_caseOf_8 x1 x2 t_points t_cases t_one t_weight Q n) ih x3 x4 x5 r_2 h _ _ _ hw (lv_sub hl [1, 2, 3, 4, 5, 6, 0] rfl)
              · have h := h.2 c_58
                refine lv_aload_n hx hb dX10_caseOf_61 rfl (lv_at hl 1 rfl) ?_
                refine lv_iload hx hb dX10_caseOf_62 (lv_at hl 6 rfl) ?_
                refine lv_iload_n hx hb dX10_caseOf_64 rfl (lv_at hl 4 rfl) ?_
                refine callVi (As := [.int x5, .int x3]) (rest := []) (W2 := fun _ => (cs_Mo_caseOf g a_t a_t_one a_t_weight a_t_cost a_t_text a_t_read a_t_likes a_t_judged a_t_met a_t_line a_t_image a_t_isKept a_t_had t_points t_cases t_bytes t_position t_tokenAt t_token t_digits t_number t_row t_isRow t_faultAt t_readMany t_readPoints t_readCases t_suitOne t_suitTwo t_one t_weight)) C hw hl (c_Mo_isElder l g a_t a_t_one a_t_weight a_t_cost a_t_text a_t_read a_t_likes a_t_judged a_t_met a_t_line a_t_image a_t_isKept a_t_had t_points t_cases t_bytes t_position t_tokenAt t_token t_digits t_number t_row t_isRow t_faultAt t_readMany t_readPoints t_readCases t_suitOne t_suitTwo t_one x5 x3 _ h) tw_1083 kk_X10_isElder rfl ⟨rfl, rfl⟩ ⟨by decide, by decide⟩ (Nat.le_of_ble_eq_true rfl) 0 rfl rfl rfl [0, 1] [2] [1, 2, 0] rfl rfl rfl rfl rfl rfl (fun u => rfl) rfl dX10_caseOf_65 (fun r_3 u H locs h hw => ?_)
                refine lv_if_eq (tgt := 75) hx hb dX10_caseOf_68 (by decide) (fun c_68 => ?_) (fun c_68 => ?_)
                · have h := h.1 c_68
                  exact hB_Mo_caseOf_75 (L_Mo_caseOf_8 x1 x2 t_points t_cases t_one t_weight Q n) ih x3 x4 x5 r_2 h _ _ _ hw (lv_sub hl [1, 2, 3, 4, 5, 6, 0] rfl)
                · have h := h.2 c_68
                  exact hB_Mo_caseOf_71 (L_Mo_caseOf_8 x1 x2 t_points t_cases t_one t_weight Q n) ih x3 x4 x5 r_2 h _ _ _ hw (lv_sub hl [1, 2, 3, 4, 5, 6, 0] rfl)
  refine lv_iconst (v := (-1)) hx hb dX10_caseOf_0 (by decide) ?_
  refine lv_istore_n (lv' := [(3, .int (-1)), (0, .ref a_t), (1, .int x1), (2, .int x2)]) hx hb dX10_caseOf_1 rfl hl (by decide) rfl (fun ls hl => ?_)
  refine lv_iconst (v := 0) hx hb dX10_caseOf_2 (by decide) ?_
  refine lv_istore (lv' := [(4, .int 0), (3, .int (-1)), (0, .ref a_t), (1, .int x1), (2, .int x2)]) hx hb dX10_caseOf_3 hl (by decide) rfl (fun ls hl => ?_)
  refine lv_iconst (v := 0) hx hb dX10_caseOf_5 (by decide) ?_
  refine lv_istore (lv' := [(5, .int 0), (4, .int 0), (3, .int (-1)), (0, .ref a_t), (1, .int x1), (2, .int x2)]) hx hb dX10_caseOf_6 hl (by decide) rfl (fun ls hl => ?_)
  obtain ⟨n_8, h⟩ := h
  exact hL_Mo_caseOf_8 n_8 (-1) 0 0 h _ _ _ hw (lv_sub hl [3, 4, 5, 2, 1, 0] rfl)
def B_Mo_judge_17 (x1 : Int32) (x2 : Int32) (t_points : Int32) (t_cases : Int32) (t_one : (Nat → Int32)) (t_weight : (Nat → Int32)) (Q : Int32 → Prop) : Prop := Q (-3)
def B_Mo_judge_73 (x1 : Int32) (x2 : Int32) (t_points : Int32) (t_cases : Int32) (t_one : (Nat → Int32)) (t_weight : (Nat → Int32)) (Q : Int32 → Prop) (k0 : Int32) : Prop := Q k0
def P_Mo_judge (x1 : Int32) (x2 : Int32) (t_points : Int32) (t_cases : Int32) (t_one : (Nat → Int32)) (t_weight : (Nat → Int32)) (Q : Int32 → Prop) : Prop := P_Mo_isDeed x1 t_points (fun r_1 => (r_1 = 0 → B_Mo_judge_17 x1 x2 t_points t_cases t_one t_weight Q) ∧ (¬ r_1 = 0 → P_Mo_in x2 0 2 (fun r_2 => (¬ r_2 = 0 → P_Mo_all t_cases (fun r_3 => P_Mo_caseOf x1 r_3 t_points t_cases t_one t_weight (fun r_4 => (¬ r_4 = (-1) → (¬ x2 = 0 → (¬ x2 = 1 → vp_in (4 * r_4) 56 ∧ (P_Mo_likeness x1 (t_one (4 * r_4).toNatClampNeg) t_points t_weight (fun r_5 => B_Mo_judge_73 x1 x2 t_points t_cases t_one t_weight Q r_5))) ∧ (x2 = 1 → B_Mo_judge_73 x1 x2 t_points t_cases t_one t_weight Q r_4)) ∧ (x2 = 0 → P_Mo_judgmentOf r_4 t_one (fun r_6 => B_Mo_judge_73 x1 x2 t_points t_cases t_one t_weight Q r_6))) ∧ (r_4 = (-1) → B_Mo_judge_73 x1 x2 t_points t_cases t_one t_weight Q (-1))))) ∧ (r_2 = 0 → B_Mo_judge_17 x1 x2 t_points t_cases t_one t_weight Q))))
abbrev rm_Mo_judge : Room := { frames := 3, cells := 0, slots := 0, locals := 72 }
def cs_Mo_judge (g : GE) (a_t a_t_one a_t_weight a_t_cost a_t_text a_t_read a_t_likes a_t_judged a_t_met a_t_line a_t_image a_t_isKept a_t_had : Nat) (t_points : Int32) (t_cases : Int32) (t_bytes : Int32) (t_position : Int32) (t_tokenAt : Int32) (t_token : Int64) (t_digits : Int32) (t_number : Int32) (t_row : Int32) (t_isRow : Int32) (t_faultAt : Int32) (t_readMany : Int32) (t_readPoints : Int32) (t_readCases : Int32) (t_suitOne : Int32) (t_suitTwo : Int32) (t_one : (Nat → Int32)) (t_weight : (Nat → Int32)) : va_W := [oc a_t 10 [.int t_points, .ref a_t_weight, .ref a_t_cost, .int t_cases, .ref a_t_one, .int t_bytes, .ref a_t_text, .int t_position, .int t_tokenAt, .long t_token, .int t_digits, .int t_number, .int t_row, .int t_isRow, .int t_faultAt, .int t_readMany, .int t_readPoints, .int t_readCases, .ref a_t_read, .ref a_t_likes, .ref a_t_judged, .ref a_t_met, .ref a_t_line, .ref a_t_image, .ref a_t_isKept, .int t_suitOne, .int t_suitTwo, .ref a_t_had], ai g a_t_one 56 t_one, ai g a_t_weight 10 t_weight]
set_option maxHeartbeats 4000000 in
set_option maxRecDepth 100000 in
theorem c_Mo_judge (l : Launch) (g : GE) (a_t a_t_one a_t_weight a_t_cost a_t_text a_t_read a_t_likes a_t_judged a_t_met a_t_line a_t_image a_t_isKept a_t_had : Nat) (t_points : Int32) (t_cases : Int32) (t_bytes : Int32) (t_position : Int32) (t_tokenAt : Int32) (t_token : Int64) (t_digits : Int32) (t_number : Int32) (t_row : Int32) (t_isRow : Int32) (t_faultAt : Int32) (t_readMany : Int32) (t_readPoints : Int32) (t_readCases : Int32) (t_suitOne : Int32) (t_suitTwo : Int32) (t_one : (Nat → Int32)) (t_weight : (Nat → Int32)) (x1 : Int32) (x2 : Int32) (Q : Int32 → Prop) (h : P_Mo_judge x1 x2 t_points t_cases t_one t_weight Q) : Cti l g yX10_judge cX10_judge 4 (some .int) rm_Mo_judge [.ref a_t, .int x1, .int x2] (cs_Mo_judge g a_t a_t_one a_t_weight a_t_cost a_t_text a_t_read a_t_likes a_t_judged a_t_met a_t_line a_t_image a_t_isKept a_t_had t_points t_cases t_bytes t_position t_tokenAt t_token t_digits t_number t_row t_isRow t_faultAt t_readMany t_readPoints t_readCases t_suitOne t_suitTwo t_one t_weight) (S := Unit) (fun r u => Q r) (fun _ => (cs_Mo_judge g a_t a_t_one a_t_weight a_t_cost a_t_text a_t_read a_t_likes a_t_judged a_t_met a_t_line a_t_image a_t_isKept a_t_had t_points t_cases t_bytes t_position t_tokenAt t_token t_digits t_number t_row t_isRow t_faultAt t_readMany t_readPoints t_readCases t_suitOne t_suitTwo t_one t_weight)) := by
  refine meetI rfl (Nat.le_of_ble_eq_true rfl) ⟨rfl, rfl⟩ ?_
  intro p e s m args below meth c A Qf ls C hret hw hl
  have hx := C.1
  have hb := C.2.1
  have hown := C.2.2.2.1
  have hts := C.2.2.2.2.1
  have hE := C.2.2.2.2.2.1
  have hl : lv_has ls 4 [(0, .ref a_t), (1, .int x1), (2, .int x2)] := hl
  have hB_Mo_judge_17 : B_Mo_judge_17 x1 x2 t_points t_cases t_one t_weight Q → Wat p l e rm_Mo_judge s m args below meth c A Qf g 4 (cs_Mo_judge g a_t a_t_one a_t_weight a_t_cost a_t_text a_t_read a_t_likes a_t_judged a_t_met a_t_line a_t_image a_t_isKept a_t_had t_points t_cases t_bytes t_position t_tokenAt t_token t_digits t_number t_row t_isRow t_faultAt t_readMany t_readPoints t_readCases t_suitOne t_suitTwo t_one t_weight) [] 17 [] := by
    intro  h H locs ls hw hl
    refine lv_bipush (v := (-3)) hx hb dX10_judge_17 (by decide) ?_
    exact hret () h hw dX10_judge_19 rfl
  have hB_Mo_judge_73 : ∀ (k0 : Int32), B_Mo_judge_73 x1 x2 t_points t_cases t_one t_weight Q k0 → Wat p l e rm_Mo_judge s m args below meth c A Qf g 4 (cs_Mo_judge g a_t a_t_one a_t_weight a_t_cost a_t_text a_t_read a_t_likes a_t_judged a_t_met a_t_line a_t_image a_t_isKept a_t_had t_points t_cases t_bytes t_position t_tokenAt t_token t_digits t_number t_row t_isRow t_faultAt t_readMany t_readPoints t_readCases t_suitOne t_suitTwo t_one t_weight) [] 73 [.int k0] := by
    intro k0 h H locs ls hw hl
    exact hret () h hw dX10_judge_73 rfl
  refine lv_aload_n hx hb dX10_judge_0 rfl (lv_at hl 0 rfl) ?_
  refine lv_iload_n hx hb dX10_judge_1 rfl (lv_at hl 1 rfl) ?_
  refine callVi (As := [.int x1]) (rest := []) (W2 := fun _ => (cs_Mo_judge g a_t a_t_one a_t_weight a_t_cost a_t_text a_t_read a_t_likes a_t_judged a_t_met a_t_line a_t_image a_t_isKept a_t_had t_points t_cases t_bytes t_position t_tokenAt t_token t_digits t_number t_row t_isRow t_faultAt t_readMany t_readPoints t_readCases t_suitOne t_suitTwo t_one t_weight)) C hw hl (c_Mo_isDeed l g a_t a_t_weight a_t_cost a_t_one a_t_text a_t_read a_t_likes a_t_judged a_t_met a_t_line a_t_image a_t_isKept a_t_had t_points t_cases t_bytes t_position t_tokenAt t_token t_digits t_number t_row t_isRow t_faultAt t_readMany t_readPoints t_readCases t_suitOne t_suitTwo x1 _ h) tw_1095 kk_X10_isDeed rfl ⟨rfl, rfl⟩ ⟨by decide, by decide⟩ (Nat.le_of_ble_eq_true rfl) 0 rfl rfl rfl [0] [1, 2] [2, 0, 1] rfl rfl rfl rfl rfl rfl (fun u => rfl) rfl dX10_judge_2 (fun r_1 u H locs h hw => ?_)
  refine lv_if_eq (tgt := 17) hx hb dX10_judge_5 (by decide) (fun c_5 => ?_) (fun c_5 => ?_)
  · have h := h.1 c_5
    exact hB_Mo_judge_17  h _ _ _ hw (lv_sub hl [] rfl)
  · have h := h.2 c_5
    refine lv_iload_n hx hb dX10_judge_8 rfl (lv_at hl 2 rfl) ?_
    refine lv_iconst (v := 0) hx hb dX10_judge_9 (by decide) ?_
    refine lv_iconst (v := 2) hx hb dX10_judge_10 (by decide) ?_
    refine callSi (As := [.int x2, .int 0, .int 2]) (rest := []) C hw hl (c_Mo_in l g x2 0 2 _ h) tw_999 kk_X10_in rfl ⟨rfl, rfl⟩ ⟨by decide, by decide⟩ (Nat.le_of_ble_eq_true rfl) rfl dX10_judge_11 (fun r_2 u H locs h hw => ?_)
    refine lv_if_ne (tgt := 20) hx hb dX10_judge_14 (by decide) (fun c_14 => ?_) (fun c_14 => ?_)
    · have h := h.1 c_14
      refine lv_aload_n hx hb dX10_judge_20 rfl (lv_at hl 0 rfl) ?_
      refine lv_iload_n hx hb dX10_judge_21 rfl (lv_at hl 1 rfl) ?_
      refine lv_aload_n hx hb dX10_judge_22 rfl (lv_at hl 0 rfl) ?_
      refine callVi (As := []) (rest := [.int x1, .ref a_t]) (W2 := fun _ => (cs_Mo_judge g a_t a_t_one a_t_weight a_t_cost a_t_text a_t_read a_t_likes a_t_judged a_t_met a_t_line a_t_image a_t_isKept a_t_had t_points t_cases t_bytes t_position t_tokenAt t_token t_digits t_number t_row t_isRow t_faultAt t_readMany t_readPoints t_readCases t_suitOne t_suitTwo t_one t_weight)) C hw hl (c_Mo_all l g a_t a_t_weight a_t_cost a_t_one a_t_text a_t_read a_t_likes a_t_judged a_t_met a_t_line a_t_image a_t_isKept a_t_had t_points t_cases t_bytes t_position t_tokenAt t_token t_digits t_number t_row t_isRow t_faultAt t_readMany t_readPoints t_readCases t_suitOne t_suitTwo _ h) tw_1103 kk_X10_all rfl ⟨rfl, rfl⟩ ⟨by decide, by decide⟩ (Nat.le_of_ble_eq_true rfl) 0 rfl rfl rfl [0] [1, 2] [2, 0, 1] rfl rfl rfl rfl rfl rfl (fun u => rfl) rfl dX10_judge_23 (fun r_3 u H locs h hw => ?_)
      refine callVi (As := [.int x1, .int r_3]) (rest := []) (W2 := fun _ => (cs_Mo_judge g a_t a_t_one a_t_weight a_t_cost a_t_text a_t_read a_t_likes a_t_judged a_t_met a_t_line a_t_image a_t_isKept a_t_had t_points t_cases t_bytes t_position t_tokenAt t_token t_digits t_number t_row t_isRow t_faultAt t_readMany t_readPoints t_readCases t_suitOne t_suitTwo t_one t_weight)) C hw hl (c_Mo_caseOf l g a_t a_t_one a_t_weight a_t_cost a_t_text a_t_read a_t_likes a_t_judged a_t_met a_t_line a_t_image a_t_isKept a_t_had t_points t_cases t_bytes t_position t_tokenAt t_token t_digits t_number t_row t_isRow t_faultAt t_readMany t_readPoints t_readCases t_suitOne t_suitTwo t_one t_weight x1 r_3 _ h) tw_1107 kk_X10_caseOf rfl ⟨rfl, rfl⟩ ⟨by decide, by decide⟩ (Nat.le_of_ble_eq_true rfl) 0 rfl rfl rfl [0, 1, 2] [] [0, 1, 2] rfl rfl rfl rfl rfl rfl (fun u => rfl) rfl dX10_judge_26 (fun r_4 u H locs h hw => ?_)
      refine lv_istore_n (lv' := [(3, .int r_4), (0, .ref a_t), (1, .int x1), (2, .int x2)]) hx hb dX10_judge_29 rfl hl (by decide) rfl (fun ls hl => ?_)
      refine lv_iload_n hx hb dX10_judge_30 rfl (lv_at hl 0 rfl) ?_
      refine lv_iconst (v := (-1)) hx hb dX10_judge_31 (by decide) ?_
      refine lv_icmp_ne (tgt := 39) hx hb dX10_judge_32 (by decide) (fun c_32 => ?_) (fun c_32 => ?_)
      · have h := h.1 c_32
        refine lv_iload_n hx hb dX10_judge_39 rfl (lv_at hl 3 rfl) ?_
        refine lv_if_ne (tgt := 51) hx hb dX10_judge_40 (by decide) (fun c_40 => ?_) (fun c_40 => ?_)
        · have h := h.1 c_40
          refine lv_iload_n hx hb dX10_judge_51 rfl (lv_at hl 3 rfl) ?_
          refine lv_iconst (v := 1) hx hb dX10_judge_52 (by decide) ?_
          refine lv_icmp_ne (tgt := 60) hx hb dX10_judge_53 (by decide) (fun c_53 => ?_) (fun c_53 => ?_)
          · have h := h.1 c_53
            refine lv_aload_n hx hb dX10_judge_60 rfl (lv_at hl 1 rfl) ?_
            refine lv_iload_n hx hb dX10_judge_61 rfl (lv_at hl 2 rfl) ?_
            refine lv_aload_n hx hb dX10_judge_62 rfl (lv_at hl 1 rfl) ?_
            refine G_RX10_20 C hw 0 rfl dX10_judge_63 ?_
            refine lv_iconst (v := 4) hx hb dX10_judge_66 (by decide) ?_
            refine lv_iload_n hx hb dX10_judge_67 rfl (lv_at hl 0 rfl) ?_
            refine lv_imul hx hb dX10_judge_68 ?_
            refine aldI C hw 1 rfl h.1 dX10_judge_69 ?_
            have h := h.2
            refine callVi (As := [.int x1, .int (t_one (4 * r_4).toNatClampNeg)]) (rest := []) (W2 := fun _ => (cs_Mo_judge g a_t a_t_one a_t_weight a_t_cost a_t_text a_t_read a_t_likes a_t_judged a_t_met a_t_line a_t_image a_t_isKept a_t_had t_points t_cases t_bytes t_position t_tokenAt t_token t_digits t_number t_row t_isRow t_faultAt t_readMany t_readPoints t_readCases t_suitOne t_suitTwo t_one t_weight)) C hw hl (c_Mo_likeness l g a_t a_t_weight a_t_cost a_t_one a_t_text a_t_read a_t_likes a_t_judged a_t_met a_t_line a_t_image a_t_isKept a_t_had t_points t_cases t_bytes t_position t_tokenAt t_token t_digits t_number t_row t_isRow t_faultAt t_readMany t_readPoints t_readCases t_suitOne t_suitTwo t_weight x1 (t_one (4 * r_4).toNatClampNeg) _ h) tw_1114 kk_X10_likeness rfl ⟨rfl, rfl⟩ ⟨by decide, by decide⟩ (Nat.le_of_ble_eq_true rfl) 0 rfl rfl rfl [0, 2] [1] [1, 0, 2] rfl rfl rfl rfl rfl rfl (fun u => rfl) rfl dX10_judge_70 (fun r_5 u H locs h hw => ?_)
            exact hB_Mo_judge_73 r_5 h _ _ _ hw (lv_sub hl [] rfl)
          · have h := h.2 c_53
            refine lv_iload_n hx hb dX10_judge_56 rfl (lv_at hl 0 rfl) ?_
            refine lv_goto (tgt := 73) hx hb dX10_judge_57 (by decide) ?_
            exact hB_Mo_judge_73 r_4 h _ _ _ hw (lv_sub hl [] rfl)
        · have h := h.2 c_40
          refine lv_aload_n hx hb dX10_judge_43 rfl (lv_at hl 1 rfl) ?_
          refine lv_iload_n hx hb dX10_judge_44 rfl (lv_at hl 0 rfl) ?_
          refine callVi (As := [.int r_4]) (rest := []) (W2 := fun _ => (cs_Mo_judge g a_t a_t_one a_t_weight a_t_cost a_t_text a_t_read a_t_likes a_t_judged a_t_met a_t_line a_t_image a_t_isKept a_t_had t_points t_cases t_bytes t_position t_tokenAt t_token t_digits t_number t_row t_isRow t_faultAt t_readMany t_readPoints t_readCases t_suitOne t_suitTwo t_one t_weight)) C hw hl (c_Mo_judgmentOf l g a_t a_t_one a_t_weight a_t_cost a_t_text a_t_read a_t_likes a_t_judged a_t_met a_t_line a_t_image a_t_isKept a_t_had t_points t_cases t_bytes t_position t_tokenAt t_token t_digits t_number t_row t_isRow t_faultAt t_readMany t_readPoints t_readCases t_suitOne t_suitTwo t_one r_4 _ h) tw_1087 kk_X10_judgmentOf rfl ⟨rfl, rfl⟩ ⟨by decide, by decide⟩ (Nat.le_of_ble_eq_true rfl) 0 rfl rfl rfl [0, 1] [2] [1, 2, 0] rfl rfl rfl rfl rfl rfl (fun u => rfl) rfl dX10_judge_45 (fun r_6 u H locs h hw => ?_)
          refine lv_goto (tgt := 73) hx hb dX10_judge_48 (by decide) ?_
          exact hB_Mo_judge_73 r_6 h _ _ _ hw (lv_sub hl [] rfl)
      · have h := h.2 c_32
        refine lv_iconst (v := (-1)) hx hb dX10_judge_35 (by decide) ?_
        refine lv_goto (tgt := 73) hx hb dX10_judge_36 (by decide) ?_
        exact hB_Mo_judge_73 (-1) h _ _ _ hw (lv_sub hl [] rfl)
    · have h := h.2 c_14
      exact hB_Mo_judge_17  h _ _ _ hw (lv_sub hl [] rfl)
def B_Mo_like_37 (x1 : Int32) (x2 : Int32) (t_points : Int32) (t_cases : Int32) (t_one : (Nat → Int32)) (t_weight : (Nat → Int32)) (Q : Int32 → Prop) (k0 : Int32) : Prop := Q k0
def P_Mo_like (x1 : Int32) (x2 : Int32) (t_points : Int32) (t_cases : Int32) (t_one : (Nat → Int32)) (t_weight : (Nat → Int32)) (Q : Int32 → Prop) : Prop := P_Mo_isCase x2 t_cases (fun r_1 => (¬ r_1 = 0 → P_Mo_isDeed x1 t_points (fun r_2 => (r_2 = 0 → B_Mo_like_37 x1 x2 t_points t_cases t_one t_weight Q (-3)) ∧ (¬ r_2 = 0 → vp_in (4 * x2) 56 ∧ (P_Mo_likeness x1 (t_one (4 * x2).toNatClampNeg) t_points t_weight (fun r_3 => B_Mo_like_37 x1 x2 t_points t_cases t_one t_weight Q r_3))))) ∧ (r_1 = 0 → Q (-2)))
abbrev rm_Mo_like : Room := { frames := 2, cells := 0, slots := 0, locals := 45 }
def cs_Mo_like (g : GE) (a_t a_t_one a_t_weight a_t_cost a_t_text a_t_read a_t_likes a_t_judged a_t_met a_t_line a_t_image a_t_isKept a_t_had : Nat) (t_points : Int32) (t_cases : Int32) (t_bytes : Int32) (t_position : Int32) (t_tokenAt : Int32) (t_token : Int64) (t_digits : Int32) (t_number : Int32) (t_row : Int32) (t_isRow : Int32) (t_faultAt : Int32) (t_readMany : Int32) (t_readPoints : Int32) (t_readCases : Int32) (t_suitOne : Int32) (t_suitTwo : Int32) (t_one : (Nat → Int32)) (t_weight : (Nat → Int32)) : va_W := [oc a_t 10 [.int t_points, .ref a_t_weight, .ref a_t_cost, .int t_cases, .ref a_t_one, .int t_bytes, .ref a_t_text, .int t_position, .int t_tokenAt, .long t_token, .int t_digits, .int t_number, .int t_row, .int t_isRow, .int t_faultAt, .int t_readMany, .int t_readPoints, .int t_readCases, .ref a_t_read, .ref a_t_likes, .ref a_t_judged, .ref a_t_met, .ref a_t_line, .ref a_t_image, .ref a_t_isKept, .int t_suitOne, .int t_suitTwo, .ref a_t_had], ai g a_t_one 56 t_one, ai g a_t_weight 10 t_weight]
set_option maxHeartbeats 4000000 in
set_option maxRecDepth 100000 in
theorem c_Mo_like (l : Launch) (g : GE) (a_t a_t_one a_t_weight a_t_cost a_t_text a_t_read a_t_likes a_t_judged a_t_met a_t_line a_t_image a_t_isKept a_t_had : Nat) (t_points : Int32) (t_cases : Int32) (t_bytes : Int32) (t_position : Int32) (t_tokenAt : Int32) (t_token : Int64) (t_digits : Int32) (t_number : Int32) (t_row : Int32) (t_isRow : Int32) (t_faultAt : Int32) (t_readMany : Int32) (t_readPoints : Int32) (t_readCases : Int32) (t_suitOne : Int32) (t_suitTwo : Int32) (t_one : (Nat → Int32)) (t_weight : (Nat → Int32)) (x1 : Int32) (x2 : Int32) (Q : Int32 → Prop) (h : P_Mo_like x1 x2 t_points t_cases t_one t_weight Q) : Cti l g yX10_like cX10_like 3 (some .int) rm_Mo_like [.ref a_t, .int x1, .int x2] (cs_Mo_like g a_t a_t_one a_t_weight a_t_cost a_t_text a_t_read a_t_likes a_t_judged a_t_met a_t_line a_t_image a_t_isKept a_t_had t_points t_cases t_bytes t_position t_tokenAt t_token t_digits t_number t_row t_isRow t_faultAt t_readMany t_readPoints t_readCases t_suitOne t_suitTwo t_one t_weight) (S := Unit) (fun r u => Q r) (fun _ => (cs_Mo_like g a_t a_t_one a_t_weight a_t_cost a_t_text a_t_read a_t_likes a_t_judged a_t_met a_t_line a_t_image a_t_isKept a_t_had t_points t_cases t_bytes t_position t_tokenAt t_token t_digits t_number t_row t_isRow t_faultAt t_readMany t_readPoints t_readCases t_suitOne t_suitTwo t_one t_weight)) := by
  refine meetI rfl (Nat.le_of_ble_eq_true rfl) ⟨rfl, rfl⟩ ?_
  intro p e s m args below meth c A Qf ls C hret hw hl
  have hx := C.1
  have hb := C.2.1
  have hown := C.2.2.2.1
  have hts := C.2.2.2.2.1
  have hE := C.2.2.2.2.2.1
  have hl : lv_has ls 3 [(0, .ref a_t), (1, .int x1), (2, .int x2)] := hl
  have hB_Mo_like_37 : ∀ (k0 : Int32), B_Mo_like_37 x1 x2 t_points t_cases t_one t_weight Q k0 → Wat p l e rm_Mo_like s m args below meth c A Qf g 3 (cs_Mo_like g a_t a_t_one a_t_weight a_t_cost a_t_text a_t_read a_t_likes a_t_judged a_t_met a_t_line a_t_image a_t_isKept a_t_had t_points t_cases t_bytes t_position t_tokenAt t_token t_digits t_number t_row t_isRow t_faultAt t_readMany t_readPoints t_readCases t_suitOne t_suitTwo t_one t_weight) [] 37 [.int k0] := by
    intro k0 h H locs ls hw hl
    exact hret () h hw dX10_like_37 rfl
  refine lv_aload_n hx hb dX10_like_0 rfl (lv_at hl 0 rfl) ?_
  refine lv_iload_n hx hb dX10_like_1 rfl (lv_at hl 2 rfl) ?_
  refine callVi (As := [.int x2]) (rest := []) (W2 := fun _ => (cs_Mo_like g a_t a_t_one a_t_weight a_t_cost a_t_text a_t_read a_t_likes a_t_judged a_t_met a_t_line a_t_image a_t_isKept a_t_had t_points t_cases t_bytes t_position t_tokenAt t_token t_digits t_number t_row t_isRow t_faultAt t_readMany t_readPoints t_readCases t_suitOne t_suitTwo t_one t_weight)) C hw hl (c_Mo_isCase l g a_t a_t_weight a_t_cost a_t_one a_t_text a_t_read a_t_likes a_t_judged a_t_met a_t_line a_t_image a_t_isKept a_t_had t_points t_cases t_bytes t_position t_tokenAt t_token t_digits t_number t_row t_isRow t_faultAt t_readMany t_readPoints t_readCases t_suitOne t_suitTwo x2 _ h) tw_1079 kk_X10_isCase rfl ⟨rfl, rfl⟩ ⟨by decide, by decide⟩ (Nat.le_of_ble_eq_true rfl) 0 rfl rfl rfl [0] [1, 2] [2, 0, 1] rfl rfl rfl rfl rfl rfl (fun u => rfl) rfl dX10_like_2 (fun r_1 u H locs h hw => ?_)
  refine lv_if_ne (tgt := 11) hx hb dX10_like_5 (by decide) (fun c_5 => ?_) (fun c_5 => ?_)
  · have h := h.1 c_5
    refine lv_aload_n hx hb dX10_like_11 rfl (lv_at hl 0 rfl) ?_
    refine lv_iload_n hx hb dX10_like_12 rfl (lv_at hl 1 rfl) ?_
    refine callVi (As := [.int x1]) (rest := []) (W2 := fun _ => (cs_Mo_like g a_t a_t_one a_t_weight a_t_cost a_t_text a_t_read a_t_likes a_t_judged a_t_met a_t_line a_t_image a_t_isKept a_t_had t_points t_cases t_bytes t_position t_tokenAt t_token t_digits t_number t_row t_isRow t_faultAt t_readMany t_readPoints t_readCases t_suitOne t_suitTwo t_one t_weight)) C hw hl (c_Mo_isDeed l g a_t a_t_weight a_t_cost a_t_one a_t_text a_t_read a_t_likes a_t_judged a_t_met a_t_line a_t_image a_t_isKept a_t_had t_points t_cases t_bytes t_position t_tokenAt t_token t_digits t_number t_row t_isRow t_faultAt t_readMany t_readPoints t_readCases t_suitOne t_suitTwo x1 _ h) tw_1095 kk_X10_isDeed rfl ⟨rfl, rfl⟩ ⟨by decide, by decide⟩ (Nat.le_of_ble_eq_true rfl) 0 rfl rfl rfl [0] [1, 2] [2, 0, 1] rfl rfl rfl rfl rfl rfl (fun u => rfl) rfl dX10_like_13 (fun r_2 u H locs h hw => ?_)
    refine lv_if_eq (tgt := 35) hx hb dX10_like_16 (by decide) (fun c_16 => ?_) (fun c_16 => ?_)
    · have h := h.1 c_16
      refine lv_bipush (v := (-3)) hx hb dX10_like_35 (by decide) ?_
      exact hB_Mo_like_37 (-3) h _ _ _ hw (lv_sub hl [] rfl)
    · have h := h.2 c_16
      refine lv_aload_n hx hb dX10_like_19 rfl (lv_at hl 0 rfl) ?_
      refine lv_iload_n hx hb dX10_like_20 rfl (lv_at hl 1 rfl) ?_
      refine lv_aload_n hx hb dX10_like_21 rfl (lv_at hl 0 rfl) ?_
      refine G_RX10_20 C hw 0 rfl dX10_like_22 ?_
      refine lv_iconst (v := 4) hx hb dX10_like_25 (by decide) ?_
      refine lv_iload_n hx hb dX10_like_26 rfl (lv_at hl 2 rfl) ?_
      refine lv_imul hx hb dX10_like_27 ?_
      refine aldI C hw 1 rfl h.1 dX10_like_28 ?_
      have h := h.2
      refine callVi (As := [.int x1, .int (t_one (4 * x2).toNatClampNeg)]) (rest := []) (W2 := fun _ => (cs_Mo_like g a_t a_t_one a_t_weight a_t_cost a_t_text a_t_read a_t_likes a_t_judged a_t_met a_t_line a_t_image a_t_isKept a_t_had t_points t_cases t_bytes t_position t_tokenAt t_token t_digits t_number t_row t_isRow t_faultAt t_readMany t_readPoints t_readCases t_suitOne t_suitTwo t_one t_weight)) C hw hl (c_Mo_likeness l g a_t a_t_weight a_t_cost a_t_one a_t_text a_t_read a_t_likes a_t_judged a_t_met a_t_line a_t_image a_t_isKept a_t_had t_points t_cases t_bytes t_position t_tokenAt t_token t_digits t_number t_row t_isRow t_faultAt t_readMany t_readPoints t_readCases t_suitOne t_suitTwo t_weight x1 (t_one (4 * x2).toNatClampNeg) _ h) tw_1114 kk_X10_likeness rfl ⟨rfl, rfl⟩ ⟨by decide, by decide⟩ (Nat.le_of_ble_eq_true rfl) 0 rfl rfl rfl [0, 2] [1] [1, 0, 2] rfl rfl rfl rfl rfl rfl (fun u => rfl) rfl dX10_like_29 (fun r_3 u H locs h hw => ?_)
      refine lv_goto (tgt := 37) hx hb dX10_like_32 (by decide) ?_
      exact hB_Mo_like_37 r_3 h _ _ _ hw (lv_sub hl [] rfl)
  · have h := h.2 c_5
    refine lv_bipush (v := (-2)) hx hb dX10_like_8 (by decide) ?_
    exact hret () h hw dX10_like_10 rfl
def B_Mo_judgmentAt_24 (x1 : Int32) (t_points : Int32) (t_cases : Int32) (t_one : (Nat → Int32)) (t_weight : (Nat → Int32)) (Q : Int32 → Prop) (k0 : Int32) : Prop := Q k0
def P_Mo_judgmentAt (x1 : Int32) (t_points : Int32) (t_cases : Int32) (t_one : (Nat → Int32)) (t_weight : (Nat → Int32)) (Q : Int32 → Prop) : Prop := P_Mo_all t_cases (fun r_1 => P_Mo_caseOf x1 r_1 t_points t_cases t_one t_weight (fun r_2 => (¬ r_2 = (-1) → P_Mo_judgmentOf r_2 t_one (fun r_3 => B_Mo_judgmentAt_24 x1 t_points t_cases t_one t_weight Q r_3)) ∧ (r_2 = (-1) → B_Mo_judgmentAt_24 x1 t_points t_cases t_one t_weight Q (-1))))
abbrev rm_Mo_judgmentAt : Room := { frames := 3, cells := 0, slots := 0, locals := 72 }
def cs_Mo_judgmentAt (g : GE) (a_t a_t_one a_t_weight a_t_cost a_t_text a_t_read a_t_likes a_t_judged a_t_met a_t_line a_t_image a_t_isKept a_t_had : Nat) (t_points : Int32) (t_cases : Int32) (t_bytes : Int32) (t_position : Int32) (t_tokenAt : Int32) (t_token : Int64) (t_digits : Int32) (t_number : Int32) (t_row : Int32) (t_isRow : Int32) (t_faultAt : Int32) (t_readMany : Int32) (t_readPoints : Int32) (t_readCases : Int32) (t_suitOne : Int32) (t_suitTwo : Int32) (t_one : (Nat → Int32)) (t_weight : (Nat → Int32)) : va_W := [oc a_t 10 [.int t_points, .ref a_t_weight, .ref a_t_cost, .int t_cases, .ref a_t_one, .int t_bytes, .ref a_t_text, .int t_position, .int t_tokenAt, .long t_token, .int t_digits, .int t_number, .int t_row, .int t_isRow, .int t_faultAt, .int t_readMany, .int t_readPoints, .int t_readCases, .ref a_t_read, .ref a_t_likes, .ref a_t_judged, .ref a_t_met, .ref a_t_line, .ref a_t_image, .ref a_t_isKept, .int t_suitOne, .int t_suitTwo, .ref a_t_had], ai g a_t_one 56 t_one, ai g a_t_weight 10 t_weight]
set_option maxHeartbeats 4000000 in
set_option maxRecDepth 100000 in
theorem c_Mo_judgmentAt (l : Launch) (g : GE) (a_t a_t_one a_t_weight a_t_cost a_t_text a_t_read a_t_likes a_t_judged a_t_met a_t_line a_t_image a_t_isKept a_t_had : Nat) (t_points : Int32) (t_cases : Int32) (t_bytes : Int32) (t_position : Int32) (t_tokenAt : Int32) (t_token : Int64) (t_digits : Int32) (t_number : Int32) (t_row : Int32) (t_isRow : Int32) (t_faultAt : Int32) (t_readMany : Int32) (t_readPoints : Int32) (t_readCases : Int32) (t_suitOne : Int32) (t_suitTwo : Int32) (t_one : (Nat → Int32)) (t_weight : (Nat → Int32)) (x1 : Int32) (Q : Int32 → Prop) (h : P_Mo_judgmentAt x1 t_points t_cases t_one t_weight Q) : Cti l g yX10_judgmentAt cX10_judgmentAt 3 (some .int) rm_Mo_judgmentAt [.ref a_t, .int x1] (cs_Mo_judgmentAt g a_t a_t_one a_t_weight a_t_cost a_t_text a_t_read a_t_likes a_t_judged a_t_met a_t_line a_t_image a_t_isKept a_t_had t_points t_cases t_bytes t_position t_tokenAt t_token t_digits t_number t_row t_isRow t_faultAt t_readMany t_readPoints t_readCases t_suitOne t_suitTwo t_one t_weight) (S := Unit) (fun r u => Q r) (fun _ => (cs_Mo_judgmentAt g a_t a_t_one a_t_weight a_t_cost a_t_text a_t_read a_t_likes a_t_judged a_t_met a_t_line a_t_image a_t_isKept a_t_had t_points t_cases t_bytes t_position t_tokenAt t_token t_digits t_number t_row t_isRow t_faultAt t_readMany t_readPoints t_readCases t_suitOne t_suitTwo t_one t_weight)) := by
  refine meetI rfl (Nat.le_of_ble_eq_true rfl) ⟨rfl, rfl⟩ ?_
  intro p e s m args below meth c A Qf ls C hret hw hl
  have hx := C.1
  have hb := C.2.1
  have hown := C.2.2.2.1
  have hts := C.2.2.2.2.1
  have hE := C.2.2.2.2.2.1
  have hl : lv_has ls 3 [(0, .ref a_t), (1, .int x1)] := hl
  have hB_Mo_judgmentAt_24 : ∀ (k0 : Int32), B_Mo_judgmentAt_24 x1 t_points t_cases t_one t_weight Q k0 → Wat p l e rm_Mo_judgmentAt s m args below meth c A Qf g 3 (cs_Mo_judgmentAt g a_t a_t_one a_t_weight a_t_cost a_t_text a_t_read a_t_likes a_t_judged a_t_met a_t_line a_t_image a_t_isKept a_t_had t_points t_cases t_bytes t_position t_tokenAt t_token t_digits t_number t_row t_isRow t_faultAt t_readMany t_readPoints t_readCases t_suitOne t_suitTwo t_one t_weight) [] 24 [.int k0] := by
    intro k0 h H locs ls hw hl
    exact hret () h hw dX10_judgmentAt_24 rfl
  refine lv_aload_n hx hb dX10_judgmentAt_0 rfl (lv_at hl 0 rfl) ?_
  refine lv_iload_n hx hb dX10_judgmentAt_1 rfl (lv_at hl 1 rfl) ?_
  refine lv_aload_n hx hb dX10_judgmentAt_2 rfl (lv_at hl 0 rfl) ?_
  refine callVi (As := []) (rest := [.int x1, .ref a_t]) (W2 := fun _ => (cs_Mo_judgmentAt g a_t a_t_one a_t_weight a_t_cost a_t_text a_t_read a_t_likes a_t_judged a_t_met a_t_line a_t_image a_t_isKept a_t_had t_points t_cases t_bytes t_position t_tokenAt t_token t_digits t_number t_row t_isRow t_faultAt t_readMany t_readPoints t_readCases t_suitOne t_suitTwo t_one t_weight)) C hw hl (c_Mo_all l g a_t a_t_weight a_t_cost a_t_one a_t_text a_t_read a_t_likes a_t_judged a_t_met a_t_line a_t_image a_t_isKept a_t_had t_points t_cases t_bytes t_position t_tokenAt t_token t_digits t_number t_row t_isRow t_faultAt t_readMany t_readPoints t_readCases t_suitOne t_suitTwo _ h) tw_1103 kk_X10_all rfl ⟨rfl, rfl⟩ ⟨by decide, by decide⟩ (Nat.le_of_ble_eq_true rfl) 0 rfl rfl rfl [0] [1, 2] [2, 0, 1] rfl rfl rfl rfl rfl rfl (fun u => rfl) rfl dX10_judgmentAt_3 (fun r_1 u H locs h hw => ?_)
  refine callVi (As := [.int x1, .int r_1]) (rest := []) (W2 := fun _ => (cs_Mo_judgmentAt g a_t a_t_one a_t_weight a_t_cost a_t_text a_t_read a_t_likes a_t_judged a_t_met a_t_line a_t_image a_t_isKept a_t_had t_points t_cases t_bytes t_position t_tokenAt t_token t_digits t_number t_row t_isRow t_faultAt t_readMany t_readPoints t_readCases t_suitOne t_suitTwo t_one t_weight)) C hw hl (c_Mo_caseOf l g a_t a_t_one a_t_weight a_t_cost a_t_text a_t_read a_t_likes a_t_judged a_t_met a_t_line a_t_image a_t_isKept a_t_had t_points t_cases t_bytes t_position t_tokenAt t_token t_digits t_number t_row t_isRow t_faultAt t_readMany t_readPoints t_readCases t_suitOne t_suitTwo t_one t_weight x1 r_1 _ h) tw_1107 kk_X10_caseOf rfl ⟨rfl, rfl⟩ ⟨by decide, by decide⟩ (Nat.le_of_ble_eq_true rfl) 0 rfl rfl rfl [0, 1, 2] [] [0, 1, 2] rfl rfl rfl rfl rfl rfl (fun u => rfl) rfl dX10_judgmentAt_6 (fun r_2 u H locs h hw => ?_)
  refine lv_istore_n (lv' := [(2, .int r_2), (0, .ref a_t), (1, .int x1)]) hx hb dX10_judgmentAt_9 rfl hl (by decide) rfl (fun ls hl => ?_)
  refine lv_iload_n hx hb dX10_judgmentAt_10 rfl (lv_at hl 0 rfl) ?_
  refine lv_iconst (v := (-1)) hx hb dX10_judgmentAt_11 (by decide) ?_
  refine lv_icmp_ne (tgt := 19) hx hb dX10_judgmentAt_12 (by decide) (fun c_12 => ?_) (fun c_12 => ?_)
  · have h := h.1 c_12
    refine lv_aload_n hx hb dX10_judgmentAt_19 rfl (lv_at hl 1 rfl) ?_
    refine lv_iload_n hx hb dX10_judgmentAt_20 rfl (lv_at hl 0 rfl) ?_
    refine callVi (As := [.int r_2]) (rest := []) (W2 := fun _ => (cs_Mo_judgmentAt g a_t a_t_one a_t_weight a_t_cost a_t_text a_t_read a_t_likes a_t_judged a_t_met a_t_line a_t_image a_t_isKept a_t_had t_points t_cases t_bytes t_position t_tokenAt t_token t_digits t_number t_row t_isRow t_faultAt t_readMany t_readPoints t_readCases t_suitOne t_suitTwo t_one t_weight)) C hw hl (c_Mo_judgmentOf l g a_t a_t_one a_t_weight a_t_cost a_t_text a_t_read a_t_likes a_t_judged a_t_met a_t_line a_t_image a_t_isKept a_t_had t_points t_cases t_bytes t_position t_tokenAt t_token t_digits t_number t_row t_isRow t_faultAt t_readMany t_readPoints t_readCases t_suitOne t_suitTwo t_one r_2 _ h) tw_1087 kk_X10_judgmentOf rfl ⟨rfl, rfl⟩ ⟨by decide, by decide⟩ (Nat.le_of_ble_eq_true rfl) 0 rfl rfl rfl [0, 1] [2] [1, 2, 0] rfl rfl rfl rfl rfl rfl (fun u => rfl) rfl dX10_judgmentAt_21 (fun r_3 u H locs h hw => ?_)
    exact hB_Mo_judgmentAt_24 r_3 h _ _ _ hw (lv_sub hl [] rfl)
  · have h := h.2 c_12
    refine lv_iconst (v := (-1)) hx hb dX10_judgmentAt_15 (by decide) ?_
    refine lv_goto (tgt := 24) hx hb dX10_judgmentAt_16 (by decide) ?_
    exact hB_Mo_judgmentAt_24 (-1) h _ _ _ hw (lv_sub hl [] rfl)
def B_Mo_bring_19 (x1 : Int32) (x2 : Int32) (t_points : Int32) (t_weight : (Nat → Int32)) (Q : Int32 → Int32 → (Nat → Int32) → Prop) (t_cases : Int32) (t_one : (Nat → Int32)) : Prop := Q (-3) t_cases t_one
def P_Mo_bring (x1 : Int32) (x2 : Int32) (t_points : Int32) (t_cases : Int32) (t_one : (Nat → Int32)) (t_weight : (Nat → Int32)) (Q : Int32 → Int32 → (Nat → Int32) → Prop) : Prop := P_Mo_isDeed x1 t_points (fun r_1 => (r_1 = 0 → B_Mo_bring_19 x1 x2 t_points t_weight Q t_cases t_one) ∧ (¬ r_1 = 0 → P_Mo_in x2 0 9999 (fun r_2 => (¬ r_2 = 0 → (¬ t_cases = 0 → (¬ t_cases = 12 → P_Mo_judgmentAt x1 t_points t_cases t_one t_weight (fun r_3 => P_Mo_add x1 r_3 x2 t_cases t_one (fun t_cases_4 t_one_5 => Q r_3 t_cases_4 t_one_5))) ∧ (t_cases = 12 → Q (-5) t_cases t_one)) ∧ (t_cases = 0 → Q (-4) t_cases t_one)) ∧ (r_2 = 0 → B_Mo_bring_19 x1 x2 t_points t_weight Q t_cases t_one))))
abbrev rm_Mo_bring : Room := { frames := 4, cells := 0, slots := 0, locals := 94 }
def cs_Mo_bring (g : GE) (a_t a_t_one a_t_weight a_t_cost a_t_text a_t_read a_t_likes a_t_judged a_t_met a_t_line a_t_image a_t_isKept a_t_had : Nat) (t_points : Int32) (t_cases : Int32) (t_bytes : Int32) (t_position : Int32) (t_tokenAt : Int32) (t_token : Int64) (t_digits : Int32) (t_number : Int32) (t_row : Int32) (t_isRow : Int32) (t_faultAt : Int32) (t_readMany : Int32) (t_readPoints : Int32) (t_readCases : Int32) (t_suitOne : Int32) (t_suitTwo : Int32) (t_one : (Nat → Int32)) (t_weight : (Nat → Int32)) : va_W := [oc a_t 10 [.int t_points, .ref a_t_weight, .ref a_t_cost, .int t_cases, .ref a_t_one, .int t_bytes, .ref a_t_text, .int t_position, .int t_tokenAt, .long t_token, .int t_digits, .int t_number, .int t_row, .int t_isRow, .int t_faultAt, .int t_readMany, .int t_readPoints, .int t_readCases, .ref a_t_read, .ref a_t_likes, .ref a_t_judged, .ref a_t_met, .ref a_t_line, .ref a_t_image, .ref a_t_isKept, .int t_suitOne, .int t_suitTwo, .ref a_t_had], ai g a_t_one 56 t_one, ai g a_t_weight 10 t_weight]
set_option maxHeartbeats 4000000 in
set_option maxRecDepth 100000 in
theorem c_Mo_bring (l : Launch) (g : GE) (a_t a_t_one a_t_weight a_t_cost a_t_text a_t_read a_t_likes a_t_judged a_t_met a_t_line a_t_image a_t_isKept a_t_had : Nat) (t_points : Int32) (t_cases : Int32) (t_bytes : Int32) (t_position : Int32) (t_tokenAt : Int32) (t_token : Int64) (t_digits : Int32) (t_number : Int32) (t_row : Int32) (t_isRow : Int32) (t_faultAt : Int32) (t_readMany : Int32) (t_readPoints : Int32) (t_readCases : Int32) (t_suitOne : Int32) (t_suitTwo : Int32) (t_one : (Nat → Int32)) (t_weight : (Nat → Int32)) (x1 : Int32) (x2 : Int32) (Q : Int32 → Int32 → (Nat → Int32) → Prop) (h : P_Mo_bring x1 x2 t_points t_cases t_one t_weight Q) : Cti l g yX10_bring cX10_bring 4 (some .int) rm_Mo_bring [.ref a_t, .int x1, .int x2] (cs_Mo_bring g a_t a_t_one a_t_weight a_t_cost a_t_text a_t_read a_t_likes a_t_judged a_t_met a_t_line a_t_image a_t_isKept a_t_had t_points t_cases t_bytes t_position t_tokenAt t_token t_digits t_number t_row t_isRow t_faultAt t_readMany t_readPoints t_readCases t_suitOne t_suitTwo t_one t_weight) (S := Int32 × (Nat → Int32)) (fun r u => Q r u.1 u.2) (fun u => (cs_Mo_bring g a_t a_t_one a_t_weight a_t_cost a_t_text a_t_read a_t_likes a_t_judged a_t_met a_t_line a_t_image a_t_isKept a_t_had t_points (u.1) t_bytes t_position t_tokenAt t_token t_digits t_number t_row t_isRow t_faultAt t_readMany t_readPoints t_readCases t_suitOne t_suitTwo (u.2) t_weight)) := by
  refine meetI rfl (Nat.le_of_ble_eq_true rfl) ⟨rfl, rfl⟩ ?_
  intro p e s m args below meth c A Qf ls C hret hw hl
  have hx := C.1
  have hb := C.2.1
  have hown := C.2.2.2.1
  have hts := C.2.2.2.2.1
  have hE := C.2.2.2.2.2.1
  have hl : lv_has ls 4 [(0, .ref a_t), (1, .int x1), (2, .int x2)] := hl
  have hB_Mo_bring_19 : ∀ (t_cases : Int32) (t_one : (Nat → Int32)), B_Mo_bring_19 x1 x2 t_points t_weight Q t_cases t_one → Wat p l e rm_Mo_bring s m args below meth c A Qf g 4 (cs_Mo_bring g a_t a_t_one a_t_weight a_t_cost a_t_text a_t_read a_t_likes a_t_judged a_t_met a_t_line a_t_image a_t_isKept a_t_had t_points t_cases t_bytes t_position t_tokenAt t_token t_digits t_number t_row t_isRow t_faultAt t_readMany t_readPoints t_readCases t_suitOne t_suitTwo t_one t_weight) [] 19 [] := by
    intro t_cases t_one h H locs ls hw hl
    refine lv_bipush (v := (-3)) hx hb dX10_bring_19 (by decide) ?_
    exact hret (t_cases, t_one) h hw dX10_bring_21 rfl
  refine lv_aload_n hx hb dX10_bring_0 rfl (lv_at hl 0 rfl) ?_
  refine lv_iload_n hx hb dX10_bring_1 rfl (lv_at hl 1 rfl) ?_
  refine callVi (As := [.int x1]) (rest := []) (W2 := fun _ => (cs_Mo_bring g a_t a_t_one a_t_weight a_t_cost a_t_text a_t_read a_t_likes a_t_judged a_t_met a_t_line a_t_image a_t_isKept a_t_had t_points t_cases t_bytes t_position t_tokenAt t_token t_digits t_number t_row t_isRow t_faultAt t_readMany t_readPoints t_readCases t_suitOne t_suitTwo t_one t_weight)) C hw hl (c_Mo_isDeed l g a_t a_t_weight a_t_cost a_t_one a_t_text a_t_read a_t_likes a_t_judged a_t_met a_t_line a_t_image a_t_isKept a_t_had t_points t_cases t_bytes t_position t_tokenAt t_token t_digits t_number t_row t_isRow t_faultAt t_readMany t_readPoints t_readCases t_suitOne t_suitTwo x1 _ h) tw_1095 kk_X10_isDeed rfl ⟨rfl, rfl⟩ ⟨by decide, by decide⟩ (Nat.le_of_ble_eq_true rfl) 0 rfl rfl rfl [0] [1, 2] [2, 0, 1] rfl rfl rfl rfl rfl rfl (fun u => rfl) rfl dX10_bring_2 (fun r_1 u H locs h hw => ?_)
  refine lv_if_eq (tgt := 19) hx hb dX10_bring_5 (by decide) (fun c_5 => ?_) (fun c_5 => ?_)
  · have h := h.1 c_5
    exact hB_Mo_bring_19 t_cases t_one h _ _ _ hw (lv_sub hl [] rfl)
  · have h := h.2 c_5
    refine lv_iload_n hx hb dX10_bring_8 rfl (lv_at hl 2 rfl) ?_
    refine lv_iconst (v := 0) hx hb dX10_bring_9 (by decide) ?_
    refine lv_sipush (v := 9999) hx hb dX10_bring_10 (by decide) ?_
    refine callSi (As := [.int x2, .int 0, .int 9999]) (rest := []) C hw hl (c_Mo_in l g x2 0 9999 _ h) tw_999 kk_X10_in rfl ⟨rfl, rfl⟩ ⟨by decide, by decide⟩ (Nat.le_of_ble_eq_true rfl) rfl dX10_bring_13 (fun r_2 u H locs h hw => ?_)
    refine lv_if_ne (tgt := 22) hx hb dX10_bring_16 (by decide) (fun c_16 => ?_) (fun c_16 => ?_)
    · have h := h.1 c_16
      refine lv_aload_n hx hb dX10_bring_22 rfl (lv_at hl 0 rfl) ?_
      refine G_RX10_54 C hw 0 rfl dX10_bring_23 ?_
      refine lv_if_ne (tgt := 32) hx hb dX10_bring_26 (by decide) (fun c_26 => ?_) (fun c_26 => ?_)
      · have h := h.1 c_26
        refine lv_aload_n hx hb dX10_bring_32 rfl (lv_at hl 0 rfl) ?_
        refine G_RX10_54 C hw 0 rfl dX10_bring_33 ?_
        refine lv_bipush (v := 12) hx hb dX10_bring_36 (by decide) ?_
        refine lv_icmp_ne (tgt := 44) hx hb dX10_bring_38 (by decide) (fun c_38 => ?_) (fun c_38 => ?_)
        · have h := h.1 c_38
          refine lv_aload_n hx hb dX10_bring_44 rfl (lv_at hl 0 rfl) ?_
          refine lv_iload_n hx hb dX10_bring_45 rfl (lv_at hl 1 rfl) ?_
          refine callVi (As := [.int x1]) (rest := []) (W2 := fun _ => (cs_Mo_bring g a_t a_t_one a_t_weight a_t_cost a_t_text a_t_read a_t_likes a_t_judged a_t_met a_t_line a_t_image a_t_isKept a_t_had t_points t_cases t_bytes t_position t_tokenAt t_token t_digits t_number t_row t_isRow t_faultAt t_readMany t_readPoints t_readCases t_suitOne t_suitTwo t_one t_weight)) C hw hl (c_Mo_judgmentAt l g a_t a_t_one a_t_weight a_t_cost a_t_text a_t_read a_t_likes a_t_judged a_t_met a_t_line a_t_image a_t_isKept a_t_had t_points t_cases t_bytes t_position t_tokenAt t_token t_digits t_number t_row t_isRow t_faultAt t_readMany t_readPoints t_readCases t_suitOne t_suitTwo t_one t_weight x1 _ h) tw_1126 kk_X10_judgmentAt rfl ⟨rfl, rfl⟩ ⟨by decide, by decide⟩ (Nat.le_of_ble_eq_true rfl) 0 rfl rfl rfl [0, 1, 2] [] [0, 1, 2] rfl rfl rfl rfl rfl rfl (fun u => rfl) rfl dX10_bring_46 (fun r_3 u H locs h hw => ?_)
          refine lv_istore_n (lv' := [(3, .int r_3), (0, .ref a_t), (1, .int x1), (2, .int x2)]) hx hb dX10_bring_49 rfl hl (by decide) rfl (fun ls hl => ?_)
          refine lv_aload_n hx hb dX10_bring_50 rfl (lv_at hl 1 rfl) ?_
          refine lv_iload_n hx hb dX10_bring_51 rfl (lv_at hl 2 rfl) ?_
          refine lv_iload_n hx hb dX10_bring_52 rfl (lv_at hl 0 rfl) ?_
          refine lv_iload_n hx hb dX10_bring_53 rfl (lv_at hl 3 rfl) ?_
          refine callVv (As := [.int x1, .int r_3, .int x2]) (rest := []) (W2 := fun u => (cs_Mo_bring g a_t a_t_one a_t_weight a_t_cost a_t_text a_t_read a_t_likes a_t_judged a_t_met a_t_line a_t_image a_t_isKept a_t_had t_points (u.1) t_bytes t_position t_tokenAt t_token t_digits t_number t_row t_isRow t_faultAt t_readMany t_readPoints t_readCases t_suitOne t_suitTwo (u.2) t_weight)) C hw hl (c_Mo_add l g a_t a_t_one a_t_weight a_t_cost a_t_text a_t_read a_t_likes a_t_judged a_t_met a_t_line a_t_image a_t_isKept a_t_had t_points t_cases t_bytes t_position t_tokenAt t_token t_digits t_number t_row t_isRow t_faultAt t_readMany t_readPoints t_readCases t_suitOne t_suitTwo t_one x1 r_3 x2 _ h) tw_1067 kk_X10_add rfl ⟨rfl, rfl⟩ ⟨by decide, by decide⟩ (Nat.le_of_ble_eq_true rfl) 0 rfl rfl rfl [0, 1] [2] [1, 2, 0] rfl rfl rfl rfl rfl rfl (fun u => rfl) rfl dX10_bring_54 (fun u H locs h hw => ?_)
          obtain ⟨t_cases_4, t_one_5⟩ := u
          have hw : Wd g A s (cs_Mo_bring g a_t a_t_one a_t_weight a_t_cost a_t_text a_t_read a_t_likes a_t_judged a_t_met a_t_line a_t_image a_t_isKept a_t_had t_points t_cases_4 t_bytes t_position t_tokenAt t_token t_digits t_number t_row t_isRow t_faultAt t_readMany t_readPoints t_readCases t_suitOne t_suitTwo t_one_5 t_weight) H locs := hw
          refine lv_iload_n hx hb dX10_bring_57 rfl (lv_at hl 0 rfl) ?_
          exact hret (t_cases_4, t_one_5) h hw dX10_bring_58 rfl
        · have h := h.2 c_38
          refine lv_bipush (v := (-5)) hx hb dX10_bring_41 (by decide) ?_
          exact hret (t_cases, t_one) h hw dX10_bring_43 rfl
      · have h := h.2 c_26
        refine lv_bipush (v := (-4)) hx hb dX10_bring_29 (by decide) ?_
        exact hret (t_cases, t_one) h hw dX10_bring_31 rfl
    · have h := h.2 c_16
      exact hB_Mo_bring_19 t_cases t_one h _ _ _ hw (lv_sub hl [] rfl)
def P_Mo_isJudgment (x0 : Int32) (Q : Int32 → Prop) : Prop := P_Mo_in x0 0 3 (fun r_1 => narrow .boolean (.int r_1) = .int r_1 ∧ Q r_1 )
abbrev rm_Mo_isJudgment : Room := { frames := 1, cells := 0, slots := 0, locals := 22 }
set_option maxHeartbeats 4000000 in
set_option maxRecDepth 100000 in
theorem c_Mo_isJudgment (l : Launch) (g : GE) (x0 : Int32) (Q : Int32 → Prop) (h : P_Mo_isJudgment x0 Q) : Cti l g yX10_isJudgment cX10_isJudgment 1 (some .boolean) rm_Mo_isJudgment [.int x0] [] (S := Unit) (fun r u => Q r) (fun _ => []) := by
  refine meetI rfl (Nat.le_of_ble_eq_true rfl) ⟨rfl, rfl⟩ ?_
  intro p e s m args below meth c A Qf ls C hret hw hl
  have hx := C.1
  have hb := C.2.1
  have hown := C.2.2.2.1
  have hts := C.2.2.2.2.1
  have hE := C.2.2.2.2.2.1
  have hl : lv_has ls 1 [(0, .int x0)] := hl
  refine lv_iload_n hx hb dX10_isJudgment_0 rfl (lv_at hl 0 rfl) ?_
  refine lv_iconst (v := 0) hx hb dX10_isJudgment_1 (by decide) ?_
  refine lv_iconst (v := 3) hx hb dX10_isJudgment_2 (by decide) ?_
  refine callSi (As := [.int x0, .int 0, .int 3]) (rest := []) C hw hl (c_Mo_in l g x0 0 3 _ h) tw_999 kk_X10_in rfl ⟨rfl, rfl⟩ ⟨by decide, by decide⟩ (Nat.le_of_ble_eq_true rfl) rfl dX10_isJudgment_3 (fun r_1 u H locs h hw => ?_)
  exact hret () h.2 hw dX10_isJudgment_6 h.1
def B_Mo_deeds_85 (x1 : Int32) (x2 : Int32) (t_points : Int32) (t_cases : Int32) (t_one : (Nat → Int32)) (t_weight : (Nat → Int32)) (Q : Int32 → Prop) (N_31 : Int32 → Int32 → Prop) (x4 : Int32) (k0 : Int32) (k1 : Int32) : Prop := ∀ x3_1 : Int32, x3_1 = (k0 + k1) → N_31 x3_1 (x4 + 1)
def B_Mo_deeds_84 (x1 : Int32) (x2 : Int32) (t_points : Int32) (t_cases : Int32) (t_one : (Nat → Int32)) (t_weight : (Nat → Int32)) (Q : Int32 → Prop) (N_31 : Int32 → Int32 → Prop) (x4 : Int32) (k0 : Int32) : Prop := B_Mo_deeds_85 x1 x2 t_points t_cases t_one t_weight Q N_31 x4 k0 0
def B_Mo_deeds_80 (x1 : Int32) (x2 : Int32) (t_points : Int32) (t_cases : Int32) (t_one : (Nat → Int32)) (t_weight : (Nat → Int32)) (Q : Int32 → Prop) (N_31 : Int32 → Int32 → Prop) (x4 : Int32) (k0 : Int32) : Prop := B_Mo_deeds_85 x1 x2 t_points t_cases t_one t_weight Q N_31 x4 k0 1
def L_Mo_deeds_31 (x1 : Int32) (x2 : Int32) (t_points : Int32) (t_cases : Int32) (t_one : (Nat → Int32)) (t_weight : (Nat → Int32)) (Q : Int32 → Prop) : Nat → Int32 → Int32 → Prop
  | 0 => fun _ _ => False
  | n + 1 => fun x3 x4 => P_Mo_deedMany t_points (fun r_2 => (r_2 ≤ x4 → Q x3) ∧ (¬ r_2 ≤ x4 → P_Mo_all t_cases (fun r_3 => P_Mo_caseOf x4 r_3 t_points t_cases t_one t_weight (fun r_4 => (r_4 = (-1) → B_Mo_deeds_84 x1 x2 t_points t_cases t_one t_weight Q (L_Mo_deeds_31 x1 x2 t_points t_cases t_one t_weight Q n) x4 x3) ∧ (¬ r_4 = (-1) → P_Mo_judgmentOf r_4 t_one (fun r_5 => (¬ r_5 = x1 → B_Mo_deeds_84 x1 x2 t_points t_cases t_one t_weight Q (L_Mo_deeds_31 x1 x2 t_points t_cases t_one t_weight Q n) x4 x3) ∧ (r_5 = x1 → (x2 = (-1) → B_Mo_deeds_80 x1 x2 t_points t_cases t_one t_weight Q (L_Mo_deeds_31 x1 x2 t_points t_cases t_one t_weight Q n) x4 x3) ∧ (¬ x2 = (-1) → (¬ x2 = r_4 → B_Mo_deeds_84 x1 x2 t_points t_cases t_one t_weight Q (L_Mo_deeds_31 x1 x2 t_points t_cases t_one t_weight Q n) x4 x3) ∧ (x2 = r_4 → B_Mo_deeds_80 x1 x2 t_points t_cases t_one t_weight Q (L_Mo_deeds_31 x1 x2 t_points t_cases t_one t_weight Q n) x4 x3)))))))))
def B_Mo_deeds_16 (x1 : Int32) (x2 : Int32) (t_points : Int32) (t_cases : Int32) (t_one : (Nat → Int32)) (t_weight : (Nat → Int32)) (Q : Int32 → Prop) : Prop := P_Mo_isJudgment x1 (fun r_6 => (¬ r_6 = 0 → ∃ n_31 : Nat, L_Mo_deeds_31 x1 x2 t_points t_cases t_one t_weight Q n_31 0 0) ∧ (r_6 = 0 → Q (-3)))
def P_Mo_deeds (x1 : Int32) (x2 : Int32) (t_points : Int32) (t_cases : Int32) (t_one : (Nat → Int32)) (t_weight : (Nat → Int32)) (Q : Int32 → Prop) : Prop := (x2 = (-1) → B_Mo_deeds_16 x1 x2 t_points t_cases t_one t_weight Q) ∧ (¬ x2 = (-1) → P_Mo_isCase x2 t_cases (fun r_7 => (¬ r_7 = 0 → B_Mo_deeds_16 x1 x2 t_points t_cases t_one t_weight Q) ∧ (r_7 = 0 → Q (-2))))
abbrev rm_Mo_deeds : Room := { frames := 3, cells := 0, slots := 0, locals := 72 }
def cs_Mo_deeds (g : GE) (a_t a_t_one a_t_weight a_t_cost a_t_text a_t_read a_t_likes a_t_judged a_t_met a_t_line a_t_image a_t_isKept a_t_had : Nat) (t_points : Int32) (t_cases : Int32) (t_bytes : Int32) (t_position : Int32) (t_tokenAt : Int32) (t_token : Int64) (t_digits : Int32) (t_number : Int32) (t_row : Int32) (t_isRow : Int32) (t_faultAt : Int32) (t_readMany : Int32) (t_readPoints : Int32) (t_readCases : Int32) (t_suitOne : Int32) (t_suitTwo : Int32) (t_one : (Nat → Int32)) (t_weight : (Nat → Int32)) : va_W := [oc a_t 10 [.int t_points, .ref a_t_weight, .ref a_t_cost, .int t_cases, .ref a_t_one, .int t_bytes, .ref a_t_text, .int t_position, .int t_tokenAt, .long t_token, .int t_digits, .int t_number, .int t_row, .int t_isRow, .int t_faultAt, .int t_readMany, .int t_readPoints, .int t_readCases, .ref a_t_read, .ref a_t_likes, .ref a_t_judged, .ref a_t_met, .ref a_t_line, .ref a_t_image, .ref a_t_isKept, .int t_suitOne, .int t_suitTwo, .ref a_t_had], ai g a_t_one 56 t_one, ai g a_t_weight 10 t_weight]
set_option maxHeartbeats 4000000 in
set_option maxRecDepth 100000 in
theorem c_Mo_deeds (l : Launch) (g : GE) (a_t a_t_one a_t_weight a_t_cost a_t_text a_t_read a_t_likes a_t_judged a_t_met a_t_line a_t_image a_t_isKept a_t_had : Nat) (t_points : Int32) (t_cases : Int32) (t_bytes : Int32) (t_position : Int32) (t_tokenAt : Int32) (t_token : Int64) (t_digits : Int32) (t_number : Int32) (t_row : Int32) (t_isRow : Int32) (t_faultAt : Int32) (t_readMany : Int32) (t_readPoints : Int32) (t_readCases : Int32) (t_suitOne : Int32) (t_suitTwo : Int32) (t_one : (Nat → Int32)) (t_weight : (Nat → Int32)) (x1 : Int32) (x2 : Int32) (Q : Int32 → Prop) (h : P_Mo_deeds x1 x2 t_points t_cases t_one t_weight Q) : Cti l g yX10_deeds cX10_deeds 6 (some .int) rm_Mo_deeds [.ref a_t, .int x1, .int x2] (cs_Mo_deeds g a_t a_t_one a_t_weight a_t_cost a_t_text a_t_read a_t_likes a_t_judged a_t_met a_t_line a_t_image a_t_isKept a_t_had t_points t_cases t_bytes t_position t_tokenAt t_token t_digits t_number t_row t_isRow t_faultAt t_readMany t_readPoints t_readCases t_suitOne t_suitTwo t_one t_weight) (S := Unit) (fun r u => Q r) (fun _ => (cs_Mo_deeds g a_t a_t_one a_t_weight a_t_cost a_t_text a_t_read a_t_likes a_t_judged a_t_met a_t_line a_t_image a_t_isKept a_t_had t_points t_cases t_bytes t_position t_tokenAt t_token t_digits t_number t_row t_isRow t_faultAt t_readMany t_readPoints t_readCases t_suitOne t_suitTwo t_one t_weight)) := by
  refine meetI rfl (Nat.le_of_ble_eq_true rfl) ⟨rfl, rfl⟩ ?_
  intro p e s m args below meth c A Qf ls C hret hw hl
  have hx := C.1
  have hb := C.2.1
  have hown := C.2.2.2.1
  have hts := C.2.2.2.2.1
  have hE := C.2.2.2.2.2.1
  have hl : lv_has ls 6 [(0, .ref a_t), (1, .int x1), (2, .int x2)] := hl
  have hB_Mo_deeds_85 : ∀ (N_31 : Int32 → Int32 → Prop) (hN_31 : ∀ (x3 : Int32) (x4 : Int32), N_31 x3 x4 → Wat p l e rm_Mo_deeds s m args below meth c A Qf g 6 (cs_Mo_deeds g a_t a_t_one a_t_weight a_t_cost a_t_text a_t_read a_t_likes a_t_judged a_t_met a_t_line a_t_image a_t_isKept a_t_had t_points t_cases t_bytes t_position t_tokenAt t_token t_digits t_number t_row t_isRow t_faultAt t_readMany t_readPoints t_readCases t_suitOne t_suitTwo t_one t_weight) [(0, .ref a_t), (1, .int x1), (2, .int x2), (3, .int x3), (4, .int x4)] 31 []) (x4 : Int32) (k0 : Int32) (k1 : Int32), B_Mo_deeds_85 x1 x2 t_points t_cases t_one t_weight Q N_31 x4 k0 k1 → Wat p l e rm_Mo_deeds s m args below meth c A Qf g 6 (cs_Mo_deeds g a_t a_t_one a_t_weight a_t_cost a_t_text a_t_read a_t_likes a_t_judged a_t_met a_t_line a_t_image a_t_isKept a_t_had t_points t_cases t_bytes t_position t_tokenAt t_token t_digits t_number t_row t_isRow t_faultAt t_readMany t_readPoints t_readCases t_suitOne t_suitTwo t_one t_weight) [(0, .ref a_t), (1, .int x1), (2, .int x2), (4, .int x4)] 85 [.int k1, .int k0] := by
    intro N_31 hN_31 x4 k0 k1 h H locs ls hw hl
    refine lv_iadd hx hb dX10_deeds_85 ?_
    refine lv_topi (fun x3_1 ex3_1 => ?_)
    have h := h x3_1 ex3_1
    refine lv_istore_n (lv' := [(3, .int x3_1), (0, .ref a_t), (1, .int x1), (2, .int x2), (4, .int x4)]) hx hb dX10_deeds_86 rfl hl (by decide) rfl (fun ls hl => ?_)
    refine lv_iinc (v := x4 + 1) (lv' := [(4, .int (x4 + 1)), (3, .int x3_1), (0, .ref a_t), (1, .int x1), (2, .int x2)]) hx hb dX10_deeds_87 hl (k := 4) rfl rfl (by decide) rfl (fun ls hl => ?_)
    refine lv_goto (tgt := 31) hx hb dX10_deeds_90 (by decide) ?_
    exact hN_31 x3_1 (x4 + 1) h _ _ _ hw (lv_sub hl [2, 3, 4, 1, 0] rfl)
  have hB_Mo_deeds_84 : ∀ (N_31 : Int32 → Int32 → Prop) (hN_31 : ∀ (x3 : Int32) (x4 : Int32), N_31 x3 x4 → Wat p l e rm_Mo_deeds s m args below meth c A Qf g 6 (cs_Mo_deeds g a_t a_t_one a_t_weight a_t_cost a_t_text a_t_read a_t_likes a_t_judged a_t_met a_t_line a_t_image a_t_isKept a_t_had t_points t_cases t_bytes t_position t_tokenAt t_token t_digits t_number t_row t_isRow t_faultAt t_readMany t_readPoints t_readCases t_suitOne t_suitTwo t_one t_weight) [(0, .ref a_t), (1, .int x1), (2, .int x2), (3, .int x3), (4, .int x4)] 31 []) (x4 : Int32) (k0 : Int32), B_Mo_deeds_84 x1 x2 t_points t_cases t_one t_weight Q N_31 x4 k0 → Wat p l e rm_Mo_deeds s m args below meth c A Qf g 6 (cs_Mo_deeds g a_t a_t_one a_t_weight a_t_cost a_t_text a_t_read a_t_likes a_t_judged a_t_met a_t_line a_t_image a_t_isKept a_t_had t_points t_cases t_bytes t_position t_tokenAt t_token t_digits t_number t_row t_isRow t_faultAt t_readMany t_readPoints t_readCases t_suitOne t_suitTwo t_one t_weight) [(0, .ref a_t), (1, .int x1), (2, .int x2), (4, .int x4)] 84 [.int k0] := by
    intro N_31 hN_31 x4 k0 h H locs ls hw hl
    refine lv_iconst (v := 0) hx hb dX10_deeds_84 (by decide) ?_
    exact hB_Mo_deeds_85 N_31 hN_31 x4 k0 0 h _ _ _ hw (lv_sub hl [0, 1, 2, 3] rfl)
  have hB_Mo_deeds_80 : ∀ (N_31 : Int32 → Int32 → Prop) (hN_31 : ∀ (x3 : Int32) (x4 : Int32), N_31 x3 x4 → Wat p l e rm_Mo_deeds s m args below meth c A Qf g 6 (cs_Mo_deeds g a_t a_t_one a_t_weight a_t_cost a_t_text a_t_read a_t_likes a_t_judged a_t_met a_t_line a_t_image a_t_isKept a_t_had t_points t_cases t_bytes t_position t_tokenAt t_token t_digits t_number t_row t_isRow t_faultAt t_readMany t_readPoints t_readCases t_suitOne t_suitTwo t_one t_weight) [(0, .ref a_t), (1, .int x1), (2, .int x2), (3, .int x3), (4, .int x4)] 31 []) (x4 : Int32) (k0 : Int32), B_Mo_deeds_80 x1 x2 t_points t_cases t_one t_weight Q N_31 x4 k0 → Wat p l e rm_Mo_deeds s m args below meth c A Qf g 6 (cs_Mo_deeds g a_t a_t_one a_t_weight a_t_cost a_t_text a_t_read a_t_likes a_t_judged a_t_met a_t_line a_t_image a_t_isKept a_t_had t_points t_cases t_bytes t_position t_tokenAt t_token t_digits t_number t_row t_isRow t_faultAt t_readMany t_readPoints t_readCases t_suitOne t_suitTwo t_one t_weight) [(0, .ref a_t), (1, .int x1), (2, .int x2), (4, .int x4)] 80 [.int k0] := by
    intro N_31 hN_31 x4 k0 h H locs ls hw hl
    refine lv_iconst (v := 1) hx hb dX10_deeds_80 (by decide) ?_
    refine lv_goto (tgt := 85) hx hb dX10_deeds_81 (by decide) ?_
    exact hB_Mo_deeds_85 N_31 hN_31 x4 k0 1 h _ _ _ hw (lv_sub hl [0, 1, 2, 3] rfl)
  have hL_Mo_deeds_31 : ∀ (n : Nat) (x3 : Int32) (x4 : Int32), L_Mo_deeds_31 x1 x2 t_points t_cases t_one t_weight Q n x3 x4 → Wat p l e rm_Mo_deeds s m args below meth c A Qf g 6 (cs_Mo_deeds g a_t a_t_one a_t_weight a_t_cost a_t_text a_t_read a_t_likes a_t_judged a_t_met a_t_line a_t_image a_t_isKept a_t_had t_points t_cases t_bytes t_position t_tokenAt t_token t_digits t_number t_row t_isRow t_faultAt t_readMany t_readPoints t_readCases t_suitOne t_suitTwo t_one t_weight) [(0, .ref a_t), (1, .int x1), (2, .int x2), (3, .int x3), (4, .int x4)] 31 [] := by
    intro n
    induction n with
    | zero => intro x3 x4 h; exact absurd h id
    | succ n ih =>
      intro x3 x4 h H locs ls hw hl
      rw [L_Mo_deeds_31] at h
      refine lv_iload hx hb dX10_deeds_31 (lv_at hl 4 rfl) ?_
      refine lv_aload_n hx hb dX10_deeds_33 rfl (lv_at hl 0 rfl) ?_
      refine callVi (As := []) (rest := [.int x4]) (W2 := fun _ => (cs_Mo_deeds g a_t a_t_one a_t_weight a_t_cost a_t_text a_t_read a_t_likes a_t_judged a_t_met a_t_line a_t_image a_t_isKept a_t_had t_points t_cases t_bytes t_position t_tokenAt t_token t_digits t_number t_row t_isRow t_faultAt t_readMany t_readPoints t_readCases t_suitOne t_suitTwo t_one t_weight)) C hw hl (c_Mo_deedMany l g a_t a_t_weight a_t_cost a_t_one a_t_text a_t_read a_t_likes a_t_judged a_t_met a_t_line a_t_image a_t_isKept a_t_had t_points t_cases t_bytes t_position t_tokenAt t_token t_digits t_number t_row t_isRow t_faultAt t_readMany t_readPoints t_readCases t_suitOne t_suitTwo _ h) tw_1099 kk_X10_deedMany rfl ⟨rfl, rfl⟩ ⟨by decide, by decide⟩ (Nat.le_of_ble_eq_true rfl) 0 rfl rfl rfl [0] [1, 2] [2, 0, 1] rfl rfl rfl rfl rfl rfl (fun u => rfl) rfl dX10_deeds_34 (fun r_2 u H locs h hw => ?_)
      refine lv_icmp_ge (tgt := 93) hx hb dX10_deeds_37 (by decide) (fun c_37 => ?_) (fun c_37 => ?_)
      · have h := h.1 c_37
        refine lv_iload_n hx hb dX10_deeds_93 rfl (lv_at hl 3 rfl) ?_
        exact hret () h hw dX10_deeds_94 rfl
      · have h := h.2 c_37
        refine lv_aload_n hx hb dX10_deeds_40 rfl (lv_at hl 0 rfl) ?_
        refine lv_iload hx hb dX10_deeds_41 (lv_at hl 4 rfl) ?_
        refine lv_aload_n hx hb dX10_deeds_43 rfl (lv_at hl 0 rfl) ?_
        refine callVi (As := []) (rest := [.int x4, .ref a_t]) (W2 := fun _ => (cs_Mo_deeds g a_t a_t_one a_t_weight a_t_cost a_t_text a_t_read a_t_likes a_t_judged a_t_met a_t_line a_t_image a_t_isKept a_t_had t_points t_cases t_bytes t_position t_tokenAt t_token t_digits t_number t_row t_isRow t_faultAt t_readMany t_readPoints t_readCases t_suitOne t_suitTwo t_one t_weight)) C hw hl (c_Mo_all l g a_t a_t_weight a_t_cost a_t_one a_t_text a_t_read a_t_likes a_t_judged a_t_met a_t_line a_t_image a_t_isKept a_t_had t_points t_cases t_bytes t_position t_tokenAt t_token t_digits t_number t_row t_isRow t_faultAt t_readMany t_readPoints t_readCases t_suitOne t_suitTwo _ h) tw_1103 kk_X10_all rfl ⟨rfl, rfl⟩ ⟨by decide, by decide⟩ (Nat.le_of_ble_eq_true rfl) 0 rfl rfl rfl [0] [1, 2] [2, 0, 1] rfl rfl rfl rfl rfl rfl (fun u => rfl) rfl dX10_deeds_44 (fun r_3 u H locs h hw => ?_)
        refine callVi (As := [.int x4, .int r_3]) (rest := []) (W2 := fun _ => (cs_Mo_deeds g a_t a_t_one a_t_weight a_t_cost a_t_text a_t_read a_t_likes a_t_judged a_t_met a_t_line a_t_image a_t_isKept a_t_had t_points t_cases t_bytes t_position t_tokenAt t_token t_digits t_number t_row t_isRow t_faultAt t_readMany t_readPoints t_readCases t_suitOne t_suitTwo t_one t_weight)) C hw hl (c_Mo_caseOf l g a_t a_t_one a_t_weight a_t_cost a_t_text a_t_read a_t_likes a_t_judged a_t_met a_t_line a_t_image a_t_isKept a_t_had t_points t_cases t_bytes t_position t_tokenAt t_token t_digits t_number t_row t_isRow t_faultAt t_readMany t_readPoints t_readCases t_suitOne t_suitTwo t_one t_weight x4 r_3 _ h) tw_1107 kk_X10_caseOf rfl ⟨rfl, rfl⟩ ⟨by decide, by decide⟩ (Nat.le_of_ble_eq_true rfl) 0 rfl rfl rfl [0, 1, 2] [] [0, 1, 2] rfl rfl rfl rfl rfl rfl (fun u => rfl) rfl dX10_deeds_47 (fun r_4 u H locs h hw => ?_)
        refine lv_istore (lv' := [(5, .int r_4), (0, .ref a_t), (1, .int x1), (2, .int x2), (3, .int x3), (4, .int x4)]) hx hb dX10_deeds_50 hl (by decide) rfl (fun ls hl => ?_)
        refine lv_iload_n hx hb dX10_deeds_52 rfl (lv_at hl 4 rfl) ?_
        refine lv_iload hx hb dX10_deeds_53 (lv_at hl 0 rfl) ?_
        refine lv_iconst (v := (-1)) hx hb dX10_deeds_55 (by decide) ?_
        refine lv_icmp_eq (tgt := 84) hx hb dX10_deeds_56 (by decide) (fun c_56 => ?_) (fun c_56 => ?_)
        · have h := h.1 c_56
          exact hB_Mo_deeds_84 (L_Mo_deeds_31 x1 x2 t_points t_cases t_one t_weight Q n) ih x4 x3 h _ _ _ hw (lv_sub hl [1, 2, 3, 5] rfl)
        · have h := h.2 c_56
          refine lv_aload_n hx hb dX10_deeds_59 rfl (lv_at hl 1 rfl) ?_
          refine lv_iload hx hb dX10_deeds_60 (lv_at hl 0 rfl) ?_
          refine callVi (As := [.int r_4]) (rest := [.int x3]) (W2 := fun _ => (cs_Mo_deeds g a_t a_t_one a_t_weight a_t_cost a_t_text a_t_read a_t_likes a_t_judged a_t_met a_t_line a_t_image a_t_isKept a_t_had t_points t_cases t_bytes t_position t_tokenAt t_token t_digits t_number t_row t_isRow t_faultAt t_readMany t_readPoints t_readCases t_suitOne t_suitTwo t_one t_weight)) C hw hl (c_Mo_judgmentOf l g a_t a_t_one a_t_weight a_t_cost a_t_text a_t_read a_t_likes a_t_judged a_t_met a_t_line a_t_image a_t_isKept a_t_had t_points t_cases t_bytes t_position t_tokenAt t_token t_digits t_number t_row t_isRow t_faultAt t_readMany t_readPoints t_readCases t_suitOne t_suitTwo t_one r_4 _ h) tw_1087 kk_X10_judgmentOf rfl ⟨rfl, rfl⟩ ⟨by decide, by decide⟩ (Nat.le_of_ble_eq_true rfl) 0 rfl rfl rfl [0, 1] [2] [1, 2, 0] rfl rfl rfl rfl rfl rfl (fun u => rfl) rfl dX10_deeds_62 (fun r_5 u H locs h hw => ?_)
          refine lv_iload_n hx hb dX10_deeds_65 rfl (lv_at hl 2 rfl) ?_
          refine lv_icmp_ne (tgt := 84) hx hb dX10_deeds_66 (by decide) (fun c_66 => ?_) (fun c_66 => ?_)
          · have h := h.1 c_66
            exact hB_Mo_deeds_84 (L_Mo_deeds_31 x1 x2 t_points t_cases t_one t_weight Q n) ih x4 x3 h _ _ _ hw (lv_sub hl [1, 2, 3, 5] rfl)
          · have h := h.2 c_66
            refine lv_iload_n hx hb dX10_deeds_69 rfl (lv_at hl 3 rfl) ?_
            refine lv_iconst (v := (-1)) hx hb dX10_deeds_70 (by decide) ?_
            refine lv_icmp_eq (tgt := 80) hx hb dX10_deeds_71 (by decide) (fun c_71 => ?_) (fun c_71 => ?_)
            · have h := h.1 c_71
              exact hB_Mo_deeds_80 (L_Mo_deeds_31 x1 x2 t_points t_cases t_one t_weight Q n) ih x4 x3 h _ _ _ hw (lv_sub hl [1, 2, 3, 5] rfl)
            · have h := h.2 c_71
              refine lv_iload_n hx hb dX10_deeds_74 rfl (lv_at hl 3 rfl) ?_
              refine lv_iload hx hb dX10_deeds_75 (lv_at hl 0 rfl) ?_
              refine lv_icmp_ne (tgt := 84) hx hb dX10_deeds_77 (by decide) (fun c_77 => ?_) (fun c_77 => ?_)
              · have h := h.1 c_77
                exact hB_Mo_deeds_84 (L_Mo_deeds_31 x1 x2 t_points t_cases t_one t_weight Q n) ih x4 x3 h _ _ _ hw (lv_sub hl [1, 2, 3, 5] rfl)
              · have h := h.2 c_77
                exact hB_Mo_deeds_80 (L_Mo_deeds_31 x1 x2 t_points t_cases t_one t_weight Q n) ih x4 x3 h _ _ _ hw (lv_sub hl [1, 2, 3, 5] rfl)
  have hB_Mo_deeds_16 : B_Mo_deeds_16 x1 x2 t_points t_cases t_one t_weight Q → Wat p l e rm_Mo_deeds s m args below meth c A Qf g 6 (cs_Mo_deeds g a_t a_t_one a_t_weight a_t_cost a_t_text a_t_read a_t_likes a_t_judged a_t_met a_t_line a_t_image a_t_isKept a_t_had t_points t_cases t_bytes t_position t_tokenAt t_token t_digits t_number t_row t_isRow t_faultAt t_readMany t_readPoints t_readCases t_suitOne t_suitTwo t_one t_weight) [(0, .ref a_t), (1, .int x1), (2, .int x2)] 16 [] := by
    intro  h H locs ls hw hl
    refine lv_iload_n hx hb dX10_deeds_16 rfl (lv_at hl 1 rfl) ?_
    refine callSi (As := [.int x1]) (rest := []) C hw hl (c_Mo_isJudgment l g x1 _ h) tw_1138 kk_X10_isJudgment rfl ⟨rfl, rfl⟩ ⟨by decide, by decide⟩ (Nat.le_of_ble_eq_true rfl) rfl dX10_deeds_17 (fun r_6 u H locs h hw => ?_)
    refine lv_if_ne (tgt := 26) hx hb dX10_deeds_20 (by decide) (fun c_20 => ?_) (fun c_20 => ?_)
    · have h := h.1 c_20
      refine lv_iconst (v := 0) hx hb dX10_deeds_26 (by decide) ?_
      refine lv_istore_n (lv' := [(3, .int 0), (0, .ref a_t), (1, .int x1), (2, .int x2)]) hx hb dX10_deeds_27 rfl hl (by decide) rfl (fun ls hl => ?_)
      refine lv_iconst (v := 0) hx hb dX10_deeds_28 (by decide) ?_
      refine lv_istore (lv' := [(4, .int 0), (3, .int 0), (0, .ref a_t), (1, .int x1), (2, .int x2)]) hx hb dX10_deeds_29 hl (by decide) rfl (fun ls hl => ?_)
      obtain ⟨n_31, h⟩ := h
      exact hL_Mo_deeds_31 n_31 0 0 h _ _ _ hw (lv_sub hl [2, 3, 4, 1, 0] rfl)
    · have h := h.2 c_20
      refine lv_bipush (v := (-3)) hx hb dX10_deeds_23 (by decide) ?_
      exact hret () h hw dX10_deeds_25 rfl
  refine lv_iload_n hx hb dX10_deeds_0 rfl (lv_at hl 2 rfl) ?_
  refine lv_iconst (v := (-1)) hx hb dX10_deeds_1 (by decide) ?_
  refine lv_icmp_eq (tgt := 16) hx hb dX10_deeds_2 (by decide) (fun c_2 => ?_) (fun c_2 => ?_)
  · have h := h.1 c_2
    exact hB_Mo_deeds_16  h _ _ _ hw (lv_sub hl [0, 1, 2] rfl)
  · have h := h.2 c_2
    refine lv_aload_n hx hb dX10_deeds_5 rfl (lv_at hl 0 rfl) ?_
    refine lv_iload_n hx hb dX10_deeds_6 rfl (lv_at hl 2 rfl) ?_
    refine callVi (As := [.int x2]) (rest := []) (W2 := fun _ => (cs_Mo_deeds g a_t a_t_one a_t_weight a_t_cost a_t_text a_t_read a_t_likes a_t_judged a_t_met a_t_line a_t_image a_t_isKept a_t_had t_points t_cases t_bytes t_position t_tokenAt t_token t_digits t_number t_row t_isRow t_faultAt t_readMany t_readPoints t_readCases t_suitOne t_suitTwo t_one t_weight)) C hw hl (c_Mo_isCase l g a_t a_t_weight a_t_cost a_t_one a_t_text a_t_read a_t_likes a_t_judged a_t_met a_t_line a_t_image a_t_isKept a_t_had t_points t_cases t_bytes t_position t_tokenAt t_token t_digits t_number t_row t_isRow t_faultAt t_readMany t_readPoints t_readCases t_suitOne t_suitTwo x2 _ h) tw_1079 kk_X10_isCase rfl ⟨rfl, rfl⟩ ⟨by decide, by decide⟩ (Nat.le_of_ble_eq_true rfl) 0 rfl rfl rfl [0] [1, 2] [2, 0, 1] rfl rfl rfl rfl rfl rfl (fun u => rfl) rfl dX10_deeds_7 (fun r_7 u H locs h hw => ?_)
    refine lv_if_ne (tgt := 16) hx hb dX10_deeds_10 (by decide) (fun c_10 => ?_) (fun c_10 => ?_)
    · have h := h.1 c_10
      exact hB_Mo_deeds_16  h _ _ _ hw (lv_sub hl [0, 1, 2] rfl)
    · have h := h.2 c_10
      refine lv_bipush (v := (-2)) hx hb dX10_deeds_13 (by decide) ?_
      exact hret () h hw dX10_deeds_15 rfl
def B_Mo_least_24 (x1 : Int32) (x2 : Int32) (x3 : Int32) (t_points : Int32) (t_cases : Int32) (t_cost : (Nat → Int32)) (t_one : (Nat → Int32)) (t_weight : (Nat → Int32)) (Q : Int32 → Prop) : Prop := Q (-3)
def B_Mo_least_176 (x1 : Int32) (x2 : Int32) (x3 : Int32) (t_points : Int32) (t_cases : Int32) (t_cost : (Nat → Int32)) (t_one : (Nat → Int32)) (t_weight : (Nat → Int32)) (Q : Int32 → Prop) (k0 : Int32) : Prop := Q k0
def B_Mo_least_169 (x1 : Int32) (x2 : Int32) (x3 : Int32) (t_points : Int32) (t_cases : Int32) (t_cost : (Nat → Int32)) (t_one : (Nat → Int32)) (t_weight : (Nat → Int32)) (Q : Int32 → Prop) (x4 : Int32) : Prop := B_Mo_least_176 x1 x2 x3 t_points t_cases t_cost t_one t_weight Q x4
def B_Mo_least_150 (x1 : Int32) (x2 : Int32) (x3 : Int32) (t_points : Int32) (t_cases : Int32) (t_cost : (Nat → Int32)) (t_one : (Nat → Int32)) (t_weight : (Nat → Int32)) (Q : Int32 → Prop) (N_36 : Int32 → Int32 → Int32 → Prop) (x4 : Int32) (x6 : Int32) (k0 : Int32) : Prop := N_36 x4 k0 (x6 + 1)
def B_Mo_least_136 (x1 : Int32) (x2 : Int32) (x3 : Int32) (t_points : Int32) (t_cases : Int32) (t_cost : (Nat → Int32)) (t_one : (Nat → Int32)) (t_weight : (Nat → Int32)) (Q : Int32 → Prop) (N_36 : Int32 → Int32 → Int32 → Prop) (x5 : Int32) (x6 : Int32) (x7 : Int32) (x8 : Int32) (k0 : Int32) : Prop := (x8 = 0 → B_Mo_least_150 x1 x2 x3 t_points t_cases t_cost t_one t_weight Q N_36 k0 x6 x5) ∧ (¬ x8 = 0 → B_Mo_least_150 x1 x2 x3 t_points t_cases t_cost t_one t_weight Q N_36 k0 x6 x7)
def B_Mo_least_122 (x1 : Int32) (x2 : Int32) (x3 : Int32) (t_points : Int32) (t_cases : Int32) (t_cost : (Nat → Int32)) (t_one : (Nat → Int32)) (t_weight : (Nat → Int32)) (Q : Int32 → Prop) (N_36 : Int32 → Int32 → Int32 → Prop) (x4 : Int32) (x5 : Int32) (x6 : Int32) (x7 : Int32) (k0 : Int32) : Prop := (k0 = 0 → B_Mo_least_136 x1 x2 x3 t_points t_cases t_cost t_one t_weight Q N_36 x5 x6 x7 k0 x4) ∧ (¬ k0 = 0 → B_Mo_least_136 x1 x2 x3 t_points t_cases t_cost t_one t_weight Q N_36 x5 x6 x7 k0 x6)
def B_Mo_least_121 (x1 : Int32) (x2 : Int32) (x3 : Int32) (t_points : Int32) (t_cases : Int32) (t_cost : (Nat → Int32)) (t_one : (Nat → Int32)) (t_weight : (Nat → Int32)) (Q : Int32 → Prop) (N_36 : Int32 → Int32 → Int32 → Prop) (x4 : Int32) (x5 : Int32) (x6 : Int32) (x7 : Int32) : Prop := B_Mo_least_122 x1 x2 x3 t_points t_cases t_cost t_one t_weight Q N_36 x4 x5 x6 x7 0
def B_Mo_least_117 (x1 : Int32) (x2 : Int32) (x3 : Int32) (t_points : Int32) (t_cases : Int32) (t_cost : (Nat → Int32)) (t_one : (Nat → Int32)) (t_weight : (Nat → Int32)) (Q : Int32 → Prop) (N_36 : Int32 → Int32 → Int32 → Prop) (x4 : Int32) (x5 : Int32) (x6 : Int32) (x7 : Int32) : Prop := B_Mo_least_122 x1 x2 x3 t_points t_cases t_cost t_one t_weight Q N_36 x4 x5 x6 x7 1
def B_Mo_least_85 (x1 : Int32) (x2 : Int32) (x3 : Int32) (t_points : Int32) (t_cases : Int32) (t_cost : (Nat → Int32)) (t_one : (Nat → Int32)) (t_weight : (Nat → Int32)) (Q : Int32 → Prop) (N_36 : Int32 → Int32 → Int32 → Prop) (N_51 : Int32 → Int32 → Int32 → Int32 → Int32 → Prop) (x4 : Int32) (x5 : Int32) (x6 : Int32) (x8 : Int32) (k0 : Int32) (k1 : Int32) : Prop := ∀ x7_1 : Int32, x7_1 = (k0 + k1) → N_51 x4 x5 x6 x7_1 (x8 + 1)
def L_Mo_least_51 (x1 : Int32) (x2 : Int32) (x3 : Int32) (t_points : Int32) (t_cases : Int32) (t_cost : (Nat → Int32)) (t_one : (Nat → Int32)) (t_weight : (Nat → Int32)) (Q : Int32 → Prop) (N_36 : Int32 → Int32 → Int32 → Prop) : Nat → Int32 → Int32 → Int32 → Int32 → Int32 → Prop
  | 0 => fun _ _ _ _ _ => False
  | n + 1 => fun x4 x5 x6 x7 x8 => (t_points ≤ x8 → P_Mo_judgmentAt x6 t_points t_cases t_one t_weight (fun r_2 => (¬ r_2 = x2 → B_Mo_least_121 x1 x2 x3 t_points t_cases t_cost t_one t_weight Q N_36 x4 x5 x6 x7) ∧ (r_2 = x2 → (x4 = (-1) → B_Mo_least_117 x1 x2 x3 t_points t_cases t_cost t_one t_weight Q N_36 x4 x5 x6 x7) ∧ (¬ x4 = (-1) → (x5 ≤ x7 → B_Mo_least_121 x1 x2 x3 t_points t_cases t_cost t_one t_weight Q N_36 x4 x5 x6 x7) ∧ (¬ x5 ≤ x7 → B_Mo_least_117 x1 x2 x3 t_points t_cases t_cost t_one t_weight Q N_36 x4 x5 x6 x7))))) ∧ (¬ t_points ≤ x8 → P_Mo_has (x6 ^^^ x1) x8 (fun r_3 => (r_3 = 0 → B_Mo_least_85 x1 x2 x3 t_points t_cases t_cost t_one t_weight Q N_36 (L_Mo_least_51 x1 x2 x3 t_points t_cases t_cost t_one t_weight Q N_36 n) x4 x5 x6 x8 x7 0) ∧ (¬ r_3 = 0 → vp_in x8 10 ∧ (B_Mo_least_85 x1 x2 x3 t_points t_cases t_cost t_one t_weight Q N_36 (L_Mo_least_51 x1 x2 x3 t_points t_cases t_cost t_one t_weight Q N_36 n) x4 x5 x6 x8 x7 (t_cost x8.toNatClampNeg)))))
def L_Mo_least_36 (x1 : Int32) (x2 : Int32) (x3 : Int32) (t_points : Int32) (t_cases : Int32) (t_cost : (Nat → Int32)) (t_one : (Nat → Int32)) (t_weight : (Nat → Int32)) (Q : Int32 → Prop) : Nat → Int32 → Int32 → Int32 → Prop
  | 0 => fun _ _ _ => False
  | n + 1 => fun x4 x5 x6 => P_Mo_deedMany t_points (fun r_4 => (r_4 ≤ x6 → (x4 = (-1) → B_Mo_least_169 x1 x2 x3 t_points t_cases t_cost t_one t_weight Q x4) ∧ (¬ x4 = (-1) → (¬ x3 = 1 → B_Mo_least_176 x1 x2 x3 t_points t_cases t_cost t_one t_weight Q x5) ∧ (x3 = 1 → B_Mo_least_169 x1 x2 x3 t_points t_cases t_cost t_one t_weight Q x4))) ∧ (¬ r_4 ≤ x6 → ∃ n_51 : Nat, L_Mo_least_51 x1 x2 x3 t_points t_cases t_cost t_one t_weight Q (L_Mo_least_36 x1 x2 x3 t_points t_cases t_cost t_one t_weight Q n) n_51 x4 x5 x6 0 0))
def P_Mo_least (x1 : Int32) (x2 : Int32) (x3 : Int32) (t_points : Int32) (t_cases : Int32) (t_cost : (Nat → Int32)) (t_one : (Nat → Int32)) (t_weight : (Nat → Int32)) (Q : Int32 → Prop) : Prop := P_Mo_isDeed x1 t_points (fun r_5 => (r_5 = 0 → B_Mo_least_24 x1 x2 x3 t_points t_cases t_cost t_one t_weight Q) ∧ (¬ r_5 = 0 → P_Mo_isJudgment x2 (fun r_6 => (r_6 = 0 → B_Mo_least_24 x1 x2 x3 t_points t_cases t_cost t_one t_weight Q) ∧ (¬ r_6 = 0 → P_Mo_in x3 0 1 (fun r_7 => (¬ r_7 = 0 → ∃ n_36 : Nat, L_Mo_least_36 x1 x2 x3 t_points t_cases t_cost t_one t_weight Q n_36 (-1) 0 0) ∧ (r_7 = 0 → B_Mo_least_24 x1 x2 x3 t_points t_cases t_cost t_one t_weight Q))))))
abbrev rm_Mo_least : Room := { frames := 4, cells := 0, slots := 0, locals := 94 }
def cs_Mo_least (g : GE) (a_t a_t_cost a_t_one a_t_weight a_t_text a_t_read a_t_likes a_t_judged a_t_met a_t_line a_t_image a_t_isKept a_t_had : Nat) (t_points : Int32) (t_cases : Int32) (t_bytes : Int32) (t_position : Int32) (t_tokenAt : Int32) (t_token : Int64) (t_digits : Int32) (t_number : Int32) (t_row : Int32) (t_isRow : Int32) (t_faultAt : Int32) (t_readMany : Int32) (t_readPoints : Int32) (t_readCases : Int32) (t_suitOne : Int32) (t_suitTwo : Int32) (t_cost : (Nat → Int32)) (t_one : (Nat → Int32)) (t_weight : (Nat → Int32)) : va_W := [oc a_t 10 [.int t_points, .ref a_t_weight, .ref a_t_cost, .int t_cases, .ref a_t_one, .int t_bytes, .ref a_t_text, .int t_position, .int t_tokenAt, .long t_token, .int t_digits, .int t_number, .int t_row, .int t_isRow, .int t_faultAt, .int t_readMany, .int t_readPoints, .int t_readCases, .ref a_t_read, .ref a_t_likes, .ref a_t_judged, .ref a_t_met, .ref a_t_line, .ref a_t_image, .ref a_t_isKept, .int t_suitOne, .int t_suitTwo, .ref a_t_had], ai g a_t_cost 10 t_cost, ai g a_t_one 56 t_one, ai g a_t_weight 10 t_weight]
set_option maxHeartbeats 4000000 in
set_option maxRecDepth 100000 in
theorem c_Mo_least (l : Launch) (g : GE) (a_t a_t_cost a_t_one a_t_weight a_t_text a_t_read a_t_likes a_t_judged a_t_met a_t_line a_t_image a_t_isKept a_t_had : Nat) (t_points : Int32) (t_cases : Int32) (t_bytes : Int32) (t_position : Int32) (t_tokenAt : Int32) (t_token : Int64) (t_digits : Int32) (t_number : Int32) (t_row : Int32) (t_isRow : Int32) (t_faultAt : Int32) (t_readMany : Int32) (t_readPoints : Int32) (t_readCases : Int32) (t_suitOne : Int32) (t_suitTwo : Int32) (t_cost : (Nat → Int32)) (t_one : (Nat → Int32)) (t_weight : (Nat → Int32)) (x1 : Int32) (x2 : Int32) (x3 : Int32) (Q : Int32 → Prop) (h : P_Mo_least x1 x2 x3 t_points t_cases t_cost t_one t_weight Q) : Cti l g yX10_least cX10_least 9 (some .int) rm_Mo_least [.ref a_t, .int x1, .int x2, .int x3] (cs_Mo_least g a_t a_t_cost a_t_one a_t_weight a_t_text a_t_read a_t_likes a_t_judged a_t_met a_t_line a_t_image a_t_isKept a_t_had t_points t_cases t_bytes t_position t_tokenAt t_token t_digits t_number t_row t_isRow t_faultAt t_readMany t_readPoints t_readCases t_suitOne t_suitTwo t_cost t_one t_weight) (S := Unit) (fun r u => Q r) (fun _ => (cs_Mo_least g a_t a_t_cost a_t_one a_t_weight a_t_text a_t_read a_t_likes a_t_judged a_t_met a_t_line a_t_image a_t_isKept a_t_had t_points t_cases t_bytes t_position t_tokenAt t_token t_digits t_number t_row t_isRow t_faultAt t_readMany t_readPoints t_readCases t_suitOne t_suitTwo t_cost t_one t_weight)) := by
  refine meetI rfl (Nat.le_of_ble_eq_true rfl) ⟨rfl, rfl⟩ ?_
  intro p e s m args below meth c A Qf ls C hret hw hl
  have hx := C.1
  have hb := C.2.1
  have hown := C.2.2.2.1
  have hts := C.2.2.2.2.1
  have hE := C.2.2.2.2.2.1
  have hl : lv_has ls 9 [(0, .ref a_t), (1, .int x1), (2, .int x2), (3, .int x3)] := hl
  have hB_Mo_least_24 : B_Mo_least_24 x1 x2 x3 t_points t_cases t_cost t_one t_weight Q → Wat p l e rm_Mo_least s m args below meth c A Qf g 9 (cs_Mo_least g a_t a_t_cost a_t_one a_t_weight a_t_text a_t_read a_t_likes a_t_judged a_t_met a_t_line a_t_image a_t_isKept a_t_had t_points t_cases t_bytes t_position t_tokenAt t_token t_digits t_number t_row t_isRow t_faultAt t_readMany t_readPoints t_readCases t_suitOne t_suitTwo t_cost t_one t_weight) [] 24 [] := by
    intro  h H locs ls hw hl
    refine lv_bipush (v := (-3)) hx hb dX10_least_24 (by decide) ?_
    exact hret () h hw dX10_least_26 rfl
  have hB_Mo_least_176 : ∀ (k0 : Int32), B_Mo_least_176 x1 x2 x3 t_points t_cases t_cost t_one t_weight Q k0 → Wat p l e rm_Mo_least s m args below meth c A Qf g 9 (cs_Mo_least g a_t a_t_cost a_t_one a_t_weight a_t_text a_t_read a_t_likes a_t_judged a_t_met a_t_line a_t_image a_t_isKept a_t_had t_points t_cases t_bytes t_position t_tokenAt t_token t_digits t_number t_row t_isRow t_faultAt t_readMany t_readPoints t_readCases t_suitOne t_suitTwo t_cost t_one t_weight) [] 176 [.int k0] := by
    intro k0 h H locs ls hw hl
    exact hret () h hw dX10_least_176 rfl
  have hB_Mo_least_169 : ∀ (x4 : Int32), B_Mo_least_169 x1 x2 x3 t_points t_cases t_cost t_one t_weight Q x4 → Wat p l e rm_Mo_least s m args below meth c A Qf g 9 (cs_Mo_least g a_t a_t_cost a_t_one a_t_weight a_t_text a_t_read a_t_likes a_t_judged a_t_met a_t_line a_t_image a_t_isKept a_t_had t_points t_cases t_bytes t_position t_tokenAt t_token t_digits t_number t_row t_isRow t_faultAt t_readMany t_readPoints t_readCases t_suitOne t_suitTwo t_cost t_one t_weight) [(4, .int x4)] 169 [] := by
    intro x4 h H locs ls hw hl
    refine lv_iload hx hb dX10_least_169 (lv_at hl 0 rfl) ?_
    refine lv_goto (tgt := 176) hx hb dX10_least_171 (by decide) ?_
    exact hB_Mo_least_176 x4 h _ _ _ hw (lv_sub hl [] rfl)
  have hB_Mo_least_150 : ∀ (N_36 : Int32 → Int32 → Int32 → Prop) (hN_36 : ∀ (x4 : Int32) (x5 : Int32) (x6 : Int32), N_36 x4 x5 x6 → Wat p l e rm_Mo_least s m args below meth c A Qf g 9 (cs_Mo_least g a_t a_t_cost a_t_one a_t_weight a_t_text a_t_read a_t_likes a_t_judged a_t_met a_t_line a_t_image a_t_isKept a_t_had t_points t_cases t_bytes t_position t_tokenAt t_token t_digits t_number t_row t_isRow t_faultAt t_readMany t_readPoints t_readCases t_suitOne t_suitTwo t_cost t_one t_weight) [(0, .ref a_t), (1, .int x1), (2, .int x2), (3, .int x3), (4, .int x4), (5, .int x5), (6, .int x6)] 36 []) (x4 : Int32) (x6 : Int32) (k0 : Int32), B_Mo_least_150 x1 x2 x3 t_points t_cases t_cost t_one t_weight Q N_36 x4 x6 k0 → Wat p l e rm_Mo_least s m args below meth c A Qf g 9 (cs_Mo_least g a_t a_t_cost a_t_one a_t_weight a_t_text a_t_read a_t_likes a_t_judged a_t_met a_t_line a_t_image a_t_isKept a_t_had t_points t_cases t_bytes t_position t_tokenAt t_token t_digits t_number t_row t_isRow t_faultAt t_readMany t_readPoints t_readCases t_suitOne t_suitTwo t_cost t_one t_weight) [(0, .ref a_t), (1, .int x1), (2, .int x2), (3, .int x3), (4, .int x4), (6, .int x6)] 150 [.int k0] := by
    intro N_36 hN_36 x4 x6 k0 h H locs ls hw hl
    refine lv_istore (lv' := [(5, .int k0), (0, .ref a_t), (1, .int x1), (2, .int x2), (3, .int x3), (4, .int x4), (6, .int x6)]) hx hb dX10_least_150 hl (by decide) rfl (fun ls hl => ?_)
    refine lv_iinc (v := x6 + 1) (lv' := [(6, .int (x6 + 1)), (5, .int k0), (0, .ref a_t), (1, .int x1), (2, .int x2), (3, .int x3), (4, .int x4)]) hx hb dX10_least_152 hl (k := 6) rfl rfl (by decide) rfl (fun ls hl => ?_)
    refine lv_goto (tgt := 36) hx hb dX10_least_155 (by decide) ?_
    exact hN_36 x4 k0 (x6 + 1) h _ _ _ hw (lv_sub hl [2, 3, 4, 5, 6, 1, 0] rfl)
  have hB_Mo_least_136 : ∀ (N_36 : Int32 → Int32 → Int32 → Prop) (hN_36 : ∀ (x4 : Int32) (x5 : Int32) (x6 : Int32), N_36 x4 x5 x6 → Wat p l e rm_Mo_least s m args below meth c A Qf g 9 (cs_Mo_least g a_t a_t_cost a_t_one a_t_weight a_t_text a_t_read a_t_likes a_t_judged a_t_met a_t_line a_t_image a_t_isKept a_t_had t_points t_cases t_bytes t_position t_tokenAt t_token t_digits t_number t_row t_isRow t_faultAt t_readMany t_readPoints t_readCases t_suitOne t_suitTwo t_cost t_one t_weight) [(0, .ref a_t), (1, .int x1), (2, .int x2), (3, .int x3), (4, .int x4), (5, .int x5), (6, .int x6)] 36 []) (x5 : Int32) (x6 : Int32) (x7 : Int32) (x8 : Int32) (k0 : Int32), B_Mo_least_136 x1 x2 x3 t_points t_cases t_cost t_one t_weight Q N_36 x5 x6 x7 x8 k0 → Wat p l e rm_Mo_least s m args below meth c A Qf g 9 (cs_Mo_least g a_t a_t_cost a_t_one a_t_weight a_t_text a_t_read a_t_likes a_t_judged a_t_met a_t_line a_t_image a_t_isKept a_t_had t_points t_cases t_bytes t_position t_tokenAt t_token t_digits t_number t_row t_isRow t_faultAt t_readMany t_readPoints t_readCases t_suitOne t_suitTwo t_cost t_one t_weight) [(0, .ref a_t), (1, .int x1), (2, .int x2), (3, .int x3), (5, .int x5), (6, .int x6), (7, .int x7), (8, .int x8)] 136 [.int k0] := by
    intro N_36 hN_36 x5 x6 x7 x8 k0 h H locs ls hw hl
    refine lv_istore (lv' := [(4, .int k0), (0, .ref a_t), (1, .int x1), (2, .int x2), (3, .int x3), (5, .int x5), (6, .int x6), (7, .int x7), (8, .int x8)]) hx hb dX10_least_136 hl (by decide) rfl (fun ls hl => ?_)
    refine lv_iload hx hb dX10_least_138 (lv_at hl 8 rfl) ?_
    refine lv_if_eq (tgt := 148) hx hb dX10_least_140 (by decide) (fun c_140 => ?_) (fun c_140 => ?_)
    · have h := h.1 c_140
      refine lv_iload hx hb dX10_least_148 (lv_at hl 5 rfl) ?_
      exact hB_Mo_least_150 N_36 hN_36 k0 x6 x5 h _ _ _ hw (lv_sub hl [1, 2, 3, 4, 0, 6] rfl)
    · have h := h.2 c_140
      refine lv_iload hx hb dX10_least_143 (lv_at hl 7 rfl) ?_
      refine lv_goto (tgt := 150) hx hb dX10_least_145 (by decide) ?_
      exact hB_Mo_least_150 N_36 hN_36 k0 x6 x7 h _ _ _ hw (lv_sub hl [1, 2, 3, 4, 0, 6] rfl)
  have hB_Mo_least_122 : ∀ (N_36 : Int32 → Int32 → Int32 → Prop) (hN_36 : ∀ (x4 : Int32) (x5 : Int32) (x6 : Int32), N_36 x4 x5 x6 → Wat p l e rm_Mo_least s m args below meth c A Qf g 9 (cs_Mo_least g a_t a_t_cost a_t_one a_t_weight a_t_text a_t_read a_t_likes a_t_judged a_t_met a_t_line a_t_image a_t_isKept a_t_had t_points t_cases t_bytes t_position t_tokenAt t_token t_digits t_number t_row t_isRow t_faultAt t_readMany t_readPoints t_readCases t_suitOne t_suitTwo t_cost t_one t_weight) [(0, .ref a_t), (1, .int x1), (2, .int x2), (3, .int x3), (4, .int x4), (5, .int x5), (6, .int x6)] 36 []) (x4 : Int32) (x5 : Int32) (x6 : Int32) (x7 : Int32) (k0 : Int32), B_Mo_least_122 x1 x2 x3 t_points t_cases t_cost t_one t_weight Q N_36 x4 x5 x6 x7 k0 → Wat p l e rm_Mo_least s m args below meth c A Qf g 9 (cs_Mo_least g a_t a_t_cost a_t_one a_t_weight a_t_text a_t_read a_t_likes a_t_judged a_t_met a_t_line a_t_image a_t_isKept a_t_had t_points t_cases t_bytes t_position t_tokenAt t_token t_digits t_number t_row t_isRow t_faultAt t_readMany t_readPoints t_readCases t_suitOne t_suitTwo t_cost t_one t_weight) [(0, .ref a_t), (1, .int x1), (2, .int x2), (3, .int x3), (4, .int x4), (5, .int x5), (6, .int x6), (7, .int x7)] 122 [.int k0] := by
    intro N_36 hN_36 x4 x5 x6 x7 k0 h H locs ls hw hl
    refine lv_istore (lv' := [(8, .int k0), (0, .ref a_t), (1, .int x1), (2, .int x2), (3, .int x3), (4, .int x4), (5, .int x5), (6, .int x6), (7, .int x7)]) hx hb dX10_least_122 hl (by decide) rfl (fun ls hl => ?_)
    refine lv_iload hx hb dX10_least_124 (lv_at hl 0 rfl) ?_
    refine lv_if_eq (tgt := 134) hx hb dX10_least_126 (by decide) (fun c_126 => ?_) (fun c_126 => ?_)
    · have h := h.1 c_126
      refine lv_iload hx hb dX10_least_134 (lv_at hl 5 rfl) ?_
      exact hB_Mo_least_136 N_36 hN_36 x5 x6 x7 k0 x4 h _ _ _ hw (lv_sub hl [1, 2, 3, 4, 6, 7, 8, 0] rfl)
    · have h := h.2 c_126
      refine lv_iload hx hb dX10_least_129 (lv_at hl 7 rfl) ?_
      refine lv_goto (tgt := 136) hx hb dX10_least_131 (by decide) ?_
      exact hB_Mo_least_136 N_36 hN_36 x5 x6 x7 k0 x6 h _ _ _ hw (lv_sub hl [1, 2, 3, 4, 6, 7, 8, 0] rfl)
  have hB_Mo_least_121 : ∀ (N_36 : Int32 → Int32 → Int32 → Prop) (hN_36 : ∀ (x4 : Int32) (x5 : Int32) (x6 : Int32), N_36 x4 x5 x6 → Wat p l e rm_Mo_least s m args below meth c A Qf g 9 (cs_Mo_least g a_t a_t_cost a_t_one a_t_weight a_t_text a_t_read a_t_likes a_t_judged a_t_met a_t_line a_t_image a_t_isKept a_t_had t_points t_cases t_bytes t_position t_tokenAt t_token t_digits t_number t_row t_isRow t_faultAt t_readMany t_readPoints t_readCases t_suitOne t_suitTwo t_cost t_one t_weight) [(0, .ref a_t), (1, .int x1), (2, .int x2), (3, .int x3), (4, .int x4), (5, .int x5), (6, .int x6)] 36 []) (x4 : Int32) (x5 : Int32) (x6 : Int32) (x7 : Int32), B_Mo_least_121 x1 x2 x3 t_points t_cases t_cost t_one t_weight Q N_36 x4 x5 x6 x7 → Wat p l e rm_Mo_least s m args below meth c A Qf g 9 (cs_Mo_least g a_t a_t_cost a_t_one a_t_weight a_t_text a_t_read a_t_likes a_t_judged a_t_met a_t_line a_t_image a_t_isKept a_t_had t_points t_cases t_bytes t_position t_tokenAt t_token t_digits t_number t_row t_isRow t_faultAt t_readMany t_readPoints t_readCases t_suitOne t_suitTwo t_cost t_one t_weight) [(0, .ref a_t), (1, .int x1), (2, .int x2), (3, .int x3), (4, .int x4), (5, .int x5), (6, .int x6), (7, .int x7)] 121 [] := by
    intro N_36 hN_36 x4 x5 x6 x7 h H locs ls hw hl
    refine lv_iconst (v := 0) hx hb dX10_least_121 (by decide) ?_
    exact hB_Mo_least_122 N_36 hN_36 x4 x5 x6 x7 0 h _ _ _ hw (lv_sub hl [0, 1, 2, 3, 4, 5, 6, 7] rfl)
  have hB_Mo_least_117 : ∀ (N_36 : Int32 → Int32 → Int32 → Prop) (hN_36 : ∀ (x4 : Int32) (x5 : Int32) (x6 : Int32), N_36 x4 x5 x6 → Wat p l e rm_Mo_least s m args below meth c A Qf g 9 (cs_Mo_least g a_t a_t_cost a_t_one a_t_weight a_t_text a_t_read a_t_likes a_t_judged a_t_met a_t_line a_t_image a_t_isKept a_t_had t_points t_cases t_bytes t_position t_tokenAt t_token t_digits t_number t_row t_isRow t_faultAt t_readMany t_readPoints t_readCases t_suitOne t_suitTwo t_cost t_one t_weight) [(0, .ref a_t), (1, .int x1), (2, .int x2), (3, .int x3), (4, .int x4), (5, .int x5), (6, .int x6)] 36 []) (x4 : Int32) (x5 : Int32) (x6 : Int32) (x7 : Int32), B_Mo_least_117 x1 x2 x3 t_points t_cases t_cost t_one t_weight Q N_36 x4 x5 x6 x7 → Wat p l e rm_Mo_least s m args below meth c A Qf g 9 (cs_Mo_least g a_t a_t_cost a_t_one a_t_weight a_t_text a_t_read a_t_likes a_t_judged a_t_met a_t_line a_t_image a_t_isKept a_t_had t_points t_cases t_bytes t_position t_tokenAt t_token t_digits t_number t_row t_isRow t_faultAt t_readMany t_readPoints t_readCases t_suitOne t_suitTwo t_cost t_one t_weight) [(0, .ref a_t), (1, .int x1), (2, .int x2), (3, .int x3), (4, .int x4), (5, .int x5), (6, .int x6), (7, .int x7)] 117 [] := by
    intro N_36 hN_36 x4 x5 x6 x7 h H locs ls hw hl
    refine lv_iconst (v := 1) hx hb dX10_least_117 (by decide) ?_
    refine lv_goto (tgt := 122) hx hb dX10_least_118 (by decide) ?_
    exact hB_Mo_least_122 N_36 hN_36 x4 x5 x6 x7 1 h _ _ _ hw (lv_sub hl [0, 1, 2, 3, 4, 5, 6, 7] rfl)
  have hB_Mo_least_85 : ∀ (N_36 : Int32 → Int32 → Int32 → Prop) (hN_36 : ∀ (x4 : Int32) (x5 : Int32) (x6 : Int32), N_36 x4 x5 x6 → Wat p l e rm_Mo_least s m args below meth c A Qf g 9 (cs_Mo_least g a_t a_t_cost a_t_one a_t_weight a_t_text a_t_read a_t_likes a_t_judged a_t_met a_t_line a_t_image a_t_isKept a_t_had t_points t_cases t_bytes t_position t_tokenAt t_token t_digits t_number t_row t_isRow t_faultAt t_readMany t_readPoints t_readCases t_suitOne t_suitTwo t_cost t_one t_weight) [(0, .ref a_t), (1, .int x1), (2, .int x2), (3, .int x3), (4, .int x4), (5, .int x5), (6, .int x6)] 36 []) (N_51 : Int32 → Int32 → Int32 → Int32 → Int32 → Prop) (hN_51 : ∀ (x4 : Int32) (x5 : Int32) (x6 : Int32) (x7 : Int32) (x8 : Int32), N_51 x4 x5 x6 x7 x8 → Wat p l e rm_Mo_least s m args below meth c A Qf g 9 (cs_Mo_least g a_t a_t_cost a_t_one a_t_weight a_t_text a_t_read a_t_likes a_t_judged a_t_met a_t_line a_t_image a_t_isKept a_t_had t_points t_cases t_bytes t_position t_tokenAt t_token t_digits t_number t_row t_isRow t_faultAt t_readMany t_readPoints t_readCases t_suitOne t_suitTwo t_cost t_one t_weight) [(0, .ref a_t), (1, .int x1), (2, .int x2), (3, .int x3), (4, .int x4), (5, .int x5), (6, .int x6), (7, .int x7), (8, .int x8)] 51 []) (x4 : Int32) (x5 : Int32) (x6 : Int32) (x8 : Int32) (k0 : Int32) (k1 : Int32), B_Mo_least_85 x1 x2 x3 t_points t_cases t_cost t_one t_weight Q N_36 N_51 x4 x5 x6 x8 k0 k1 → Wat p l e rm_Mo_least s m args below meth c A Qf g 9 (cs_Mo_least g a_t a_t_cost a_t_one a_t_weight a_t_text a_t_read a_t_likes a_t_judged a_t_met a_t_line a_t_image a_t_isKept a_t_had t_points t_cases t_bytes t_position t_tokenAt t_token t_digits t_number t_row t_isRow t_faultAt t_readMany t_readPoints t_readCases t_suitOne t_suitTwo t_cost t_one t_weight) [(0, .ref a_t), (1, .int x1), (2, .int x2), (3, .int x3), (4, .int x4), (5, .int x5), (6, .int x6), (8, .int x8)] 85 [.int k1, .int k0] := by
    intro N_36 hN_36 N_51 hN_51 x4 x5 x6 x8 k0 k1 h H locs ls hw hl
    refine lv_iadd hx hb dX10_least_85 ?_
    refine lv_topi (fun x7_1 ex7_1 => ?_)
    have h := h x7_1 ex7_1
    refine lv_istore (lv' := [(7, .int x7_1), (0, .ref a_t), (1, .int x1), (2, .int x2), (3, .int x3), (4, .int x4), (5, .int x5), (6, .int x6), (8, .int x8)]) hx hb dX10_least_86 hl (by decide) rfl (fun ls hl => ?_)
    refine lv_iinc (v := x8 + 1) (lv' := [(8, .int (x8 + 1)), (7, .int x7_1), (0, .ref a_t), (1, .int x1), (2, .int x2), (3, .int x3), (4, .int x4), (5, .int x5), (6, .int x6)]) hx hb dX10_least_88 hl (k := 8) rfl rfl (by decide) rfl (fun ls hl => ?_)
    refine lv_goto (tgt := 51) hx hb dX10_least_91 (by decide) ?_
    exact hN_51 x4 x5 x6 x7_1 (x8 + 1) h _ _ _ hw (lv_sub hl [2, 3, 4, 5, 6, 7, 8, 1, 0] rfl)
  have hL_Mo_least_51 : ∀ (N_36 : Int32 → Int32 → Int32 → Prop) (hN_36 : ∀ (x4 : Int32) (x5 : Int32) (x6 : Int32), N_36 x4 x5 x6 → Wat p l e rm_Mo_least s m args below meth c A Qf g 9 (cs_Mo_least g a_t a_t_cost a_t_one a_t_weight a_t_text a_t_read a_t_likes a_t_judged a_t_met a_t_line a_t_image a_t_isKept a_t_had t_points t_cases t_bytes t_position t_tokenAt t_token t_digits t_number t_row t_isRow t_faultAt t_readMany t_readPoints t_readCases t_suitOne t_suitTwo t_cost t_one t_weight) [(0, .ref a_t), (1, .int x1), (2, .int x2), (3, .int x3), (4, .int x4), (5, .int x5), (6, .int x6)] 36 []) (n : Nat) (x4 : Int32) (x5 : Int32) (x6 : Int32) (x7 : Int32) (x8 : Int32), L_Mo_least_51 x1 x2 x3 t_points t_cases t_cost t_one t_weight Q N_36 n x4 x5 x6 x7 x8 → Wat p l e rm_Mo_least s m args below meth c A Qf g 9 (cs_Mo_least g a_t a_t_cost a_t_one a_t_weight a_t_text a_t_read a_t_likes a_t_judged a_t_met a_t_line a_t_image a_t_isKept a_t_had t_points t_cases t_bytes t_position t_tokenAt t_token t_digits t_number t_row t_isRow t_faultAt t_readMany t_readPoints t_readCases t_suitOne t_suitTwo t_cost t_one t_weight) [(0, .ref a_t), (1, .int x1), (2, .int x2), (3, .int x3), (4, .int x4), (5, .int x5), (6, .int x6), (7, .int x7), (8, .int x8)] 51 [] := by
    intro N_36 hN_36 n
    induction n with
    | zero => intro x4 x5 x6 x7 x8 h; exact absurd h id
    | succ n ih =>
      intro x4 x5 x6 x7 x8 h H locs ls hw hl
      rw [L_Mo_least_51] at h
      refine lv_iload hx hb dX10_least_51 (lv_at hl 8 rfl) ?_
      refine lv_aload_n hx hb dX10_least_53 rfl (lv_at hl 0 rfl) ?_
      refine G_RX10_7 C hw 0 rfl dX10_least_54 ?_
      refine lv_icmp_ge (tgt := 94) hx hb dX10_least_57 (by decide) (fun c_57 => ?_) (fun c_57 => ?_)
      · have h := h.1 c_57
        refine lv_aload_n hx hb dX10_least_94 rfl (lv_at hl 0 rfl) ?_
        refine lv_iload hx hb dX10_least_95 (lv_at hl 6 rfl) ?_
        refine callVi (As := [.int x6]) (rest := []) (W2 := fun _ => (cs_Mo_least g a_t a_t_cost a_t_one a_t_weight a_t_text a_t_read a_t_likes a_t_judged a_t_met a_t_line a_t_image a_t_isKept a_t_had t_points t_cases t_bytes t_position t_tokenAt t_token t_digits t_number t_row t_isRow t_faultAt t_readMany t_readPoints t_readCases t_suitOne t_suitTwo t_cost t_one t_weight)) C hw hl (c_Mo_judgmentAt l g a_t a_t_one a_t_weight a_t_cost a_t_text a_t_read a_t_likes a_t_judged a_t_met a_t_line a_t_image a_t_isKept a_t_had t_points t_cases t_bytes t_position t_tokenAt t_token t_digits t_number t_row t_isRow t_faultAt t_readMany t_readPoints t_readCases t_suitOne t_suitTwo t_one t_weight x6 _ h) tw_1126 kk_X10_judgmentAt rfl ⟨rfl, rfl⟩ ⟨by decide, by decide⟩ (Nat.le_of_ble_eq_true rfl) 0 rfl rfl rfl [0, 2, 3] [1] [1, 0, 2, 3] rfl rfl rfl rfl rfl rfl (fun u => rfl) rfl dX10_least_97 (fun r_2 u H locs h hw => ?_)
        refine lv_iload_n hx hb dX10_least_100 rfl (lv_at hl 2 rfl) ?_
        refine lv_icmp_ne (tgt := 121) hx hb dX10_least_101 (by decide) (fun c_101 => ?_) (fun c_101 => ?_)
        · have h := h.1 c_101
          exact hB_Mo_least_121 N_36 hN_36 x4 x5 x6 x7 h _ _ _ hw (lv_sub hl [0, 1, 2, 3, 4, 5, 6, 7] rfl)
        · have h := h.2 c_101
          refine lv_iload hx hb dX10_least_104 (lv_at hl 4 rfl) ?_
          refine lv_iconst (v := (-1)) hx hb dX10_least_106 (by decide) ?_
          refine lv_icmp_eq (tgt := 117) hx hb dX10_least_107 (by decide) (fun c_107 => ?_) (fun c_107 => ?_)
          · have h := h.1 c_107
            exact hB_Mo_least_117 N_36 hN_36 x4 x5 x6 x7 h _ _ _ hw (lv_sub hl [0, 1, 2, 3, 4, 5, 6, 7] rfl)
          · have h := h.2 c_107
            refine lv_iload hx hb dX10_least_110 (lv_at hl 7 rfl) ?_
            refine lv_iload hx hb dX10_least_112 (lv_at hl 5 rfl) ?_
            refine lv_icmp_ge (tgt := 121) hx hb dX10_least_114 (by decide) (fun c_114 => ?_) (fun c_114 => ?_)
            · have h := h.1 c_114
              exact hB_Mo_least_121 N_36 hN_36 x4 x5 x6 x7 h _ _ _ hw (lv_sub hl [0, 1, 2, 3, 4, 5, 6, 7] rfl)
            · have h := h.2 c_114
              exact hB_Mo_least_117 N_36 hN_36 x4 x5 x6 x7 h _ _ _ hw (lv_sub hl [0, 1, 2, 3, 4, 5, 6, 7] rfl)
      · have h := h.2 c_57
        refine lv_iload hx hb dX10_least_60 (lv_at hl 7 rfl) ?_
        refine lv_iload hx hb dX10_least_62 (lv_at hl 6 rfl) ?_
        refine lv_iload_n hx hb dX10_least_64 rfl (lv_at hl 1 rfl) ?_
        refine lv_ixor hx hb dX10_least_65 ?_
        refine lv_iload hx hb dX10_least_66 (lv_at hl 8 rfl) ?_
        refine callSi (As := [.int (x6 ^^^ x1), .int x8]) (rest := [.int x7]) C hw hl (c_Mo_has l g (x6 ^^^ x1) x8 _ h) tw_1111 kk_X10_has rfl ⟨rfl, rfl⟩ ⟨by decide, by decide⟩ (Nat.le_of_ble_eq_true rfl) rfl dX10_least_68 (fun r_3 u H locs h hw => ?_)
        refine lv_if_eq (tgt := 84) hx hb dX10_least_71 (by decide) (fun c_71 => ?_) (fun c_71 => ?_)
        · have h := h.1 c_71
          refine lv_iconst (v := 0) hx hb dX10_least_84 (by decide) ?_
          exact hB_Mo_least_85 N_36 hN_36 (L_Mo_least_51 x1 x2 x3 t_points t_cases t_cost t_one t_weight Q N_36 n) ih x4 x5 x6 x8 x7 0 h _ _ _ hw (lv_sub hl [0, 1, 2, 3, 4, 5, 6, 8] rfl)
        · have h := h.2 c_71
          refine lv_aload_n hx hb dX10_least_74 rfl (lv_at hl 0 rfl) ?_
          refine G_RX10_17 C hw 0 rfl dX10_least_75 ?_
          refine lv_iload hx hb dX10_least_78 (lv_at hl 8 rfl) ?_
          refine aldI C hw 1 rfl h.1 dX10_least_80 ?_
          have h := h.2
          refine lv_goto (tgt := 85) hx hb dX10_least_81 (by decide) ?_
          exact hB_Mo_least_85 N_36 hN_36 (L_Mo_least_51 x1 x2 x3 t_points t_cases t_cost t_one t_weight Q N_36 n) ih x4 x5 x6 x8 x7 (t_cost x8.toNatClampNeg) h _ _ _ hw (lv_sub hl [0, 1, 2, 3, 4, 5, 6, 8] rfl)
  have hL_Mo_least_36 : ∀ (n : Nat) (x4 : Int32) (x5 : Int32) (x6 : Int32), L_Mo_least_36 x1 x2 x3 t_points t_cases t_cost t_one t_weight Q n x4 x5 x6 → Wat p l e rm_Mo_least s m args below meth c A Qf g 9 (cs_Mo_least g a_t a_t_cost a_t_one a_t_weight a_t_text a_t_read a_t_likes a_t_judged a_t_met a_t_line a_t_image a_t_isKept a_t_had t_points t_cases t_bytes t_position t_tokenAt t_token t_digits t_number t_row t_isRow t_faultAt t_readMany t_readPoints t_readCases t_suitOne t_suitTwo t_cost t_one t_weight) [(0, .ref a_t), (1, .int x1), (2, .int x2), (3, .int x3), (4, .int x4), (5, .int x5), (6, .int x6)] 36 [] := by
    intro n
    induction n with
    | zero => intro x4 x5 x6 h; exact absurd h id
    | succ n ih =>
      intro x4 x5 x6 h H locs ls hw hl
      rw [L_Mo_least_36] at h
      refine lv_iload hx hb dX10_least_36 (lv_at hl 6 rfl) ?_
      refine lv_aload_n hx hb dX10_least_38 rfl (lv_at hl 0 rfl) ?_
      refine callVi (As := []) (rest := [.int x6]) (W2 := fun _ => (cs_Mo_least g a_t a_t_cost a_t_one a_t_weight a_t_text a_t_read a_t_likes a_t_judged a_t_met a_t_line a_t_image a_t_isKept a_t_had t_points t_cases t_bytes t_position t_tokenAt t_token t_digits t_number t_row t_isRow t_faultAt t_readMany t_readPoints t_readCases t_suitOne t_suitTwo t_cost t_one t_weight)) C hw hl (c_Mo_deedMany l g a_t a_t_weight a_t_cost a_t_one a_t_text a_t_read a_t_likes a_t_judged a_t_met a_t_line a_t_image a_t_isKept a_t_had t_points t_cases t_bytes t_position t_tokenAt t_token t_digits t_number t_row t_isRow t_faultAt t_readMany t_readPoints t_readCases t_suitOne t_suitTwo _ h) tw_1099 kk_X10_deedMany rfl ⟨rfl, rfl⟩ ⟨by decide, by decide⟩ (Nat.le_of_ble_eq_true rfl) 0 rfl rfl rfl [0] [1, 2, 3] [3, 0, 1, 2] rfl rfl rfl rfl rfl rfl (fun u => rfl) rfl dX10_least_39 (fun r_4 u H locs h hw => ?_)
      refine lv_icmp_ge (tgt := 158) hx hb dX10_least_42 (by decide) (fun c_42 => ?_) (fun c_42 => ?_)
      · have h := h.1 c_42
        refine lv_iload hx hb dX10_least_158 (lv_at hl 4 rfl) ?_
        refine lv_iconst (v := (-1)) hx hb dX10_least_160 (by decide) ?_
        refine lv_icmp_eq (tgt := 169) hx hb dX10_least_161 (by decide) (fun c_161 => ?_) (fun c_161 => ?_)
        · have h := h.1 c_161
          exact hB_Mo_least_169 x4 h _ _ _ hw (lv_sub hl [4] rfl)
        · have h := h.2 c_161
          refine lv_iload_n hx hb dX10_least_164 rfl (lv_at hl 3 rfl) ?_
          refine lv_iconst (v := 1) hx hb dX10_least_165 (by decide) ?_
          refine lv_icmp_ne (tgt := 174) hx hb dX10_least_166 (by decide) (fun c_166 => ?_) (fun c_166 => ?_)
          · have h := h.1 c_166
            refine lv_iload hx hb dX10_least_174 (lv_at hl 5 rfl) ?_
            exact hB_Mo_least_176 x5 h _ _ _ hw (lv_sub hl [] rfl)
          · have h := h.2 c_166
            exact hB_Mo_least_169 x4 h _ _ _ hw (lv_sub hl [4] rfl)
      · have h := h.2 c_42
        refine lv_iconst (v := 0) hx hb dX10_least_45 (by decide) ?_
        refine lv_istore (lv' := [(7, .int 0), (0, .ref a_t), (1, .int x1), (2, .int x2), (3, .int x3), (4, .int x4), (5, .int x5), (6, .int x6)]) hx hb dX10_least_46 hl (by decide) rfl (fun ls hl => ?_)
        refine lv_iconst (v := 0) hx hb dX10_least_48 (by decide) ?_
        refine lv_istore (lv' := [(8, .int 0), (7, .int 0), (0, .ref a_t), (1, .int x1), (2, .int x2), (3, .int x3), (4, .int x4), (5, .int x5), (6, .int x6)]) hx hb dX10_least_49 hl (by decide) rfl (fun ls hl => ?_)
        obtain ⟨n_51, h⟩ := h
        exact hL_Mo_least_51 (L_Mo_least_36 x1 x2 x3 t_points t_cases t_cost t_one t_weight Q n) ih n_51 x4 x5 x6 0 0 h _ _ _ hw (lv_sub hl [2, 3, 4, 5, 6, 7, 8, 1, 0] rfl)
  refine lv_aload_n hx hb dX10_least_0 rfl (lv_at hl 0 rfl) ?_
  refine lv_iload_n hx hb dX10_least_1 rfl (lv_at hl 1 rfl) ?_
  refine callVi (As := [.int x1]) (rest := []) (W2 := fun _ => (cs_Mo_least g a_t a_t_cost a_t_one a_t_weight a_t_text a_t_read a_t_likes a_t_judged a_t_met a_t_line a_t_image a_t_isKept a_t_had t_points t_cases t_bytes t_position t_tokenAt t_token t_digits t_number t_row t_isRow t_faultAt t_readMany t_readPoints t_readCases t_suitOne t_suitTwo t_cost t_one t_weight)) C hw hl (c_Mo_isDeed l g a_t a_t_weight a_t_cost a_t_one a_t_text a_t_read a_t_likes a_t_judged a_t_met a_t_line a_t_image a_t_isKept a_t_had t_points t_cases t_bytes t_position t_tokenAt t_token t_digits t_number t_row t_isRow t_faultAt t_readMany t_readPoints t_readCases t_suitOne t_suitTwo x1 _ h) tw_1095 kk_X10_isDeed rfl ⟨rfl, rfl⟩ ⟨by decide, by decide⟩ (Nat.le_of_ble_eq_true rfl) 0 rfl rfl rfl [0] [1, 2, 3] [3, 0, 1, 2] rfl rfl rfl rfl rfl rfl (fun u => rfl) rfl dX10_least_2 (fun r_5 u H locs h hw => ?_)
  refine lv_if_eq (tgt := 24) hx hb dX10_least_5 (by decide) (fun c_5 => ?_) (fun c_5 => ?_)
  · have h := h.1 c_5
    exact hB_Mo_least_24  h _ _ _ hw (lv_sub hl [] rfl)
  · have h := h.2 c_5
    refine lv_iload_n hx hb dX10_least_8 rfl (lv_at hl 2 rfl) ?_
    refine callSi (As := [.int x2]) (rest := []) C hw hl (c_Mo_isJudgment l g x2 _ h) tw_1138 kk_X10_isJudgment rfl ⟨rfl, rfl⟩ ⟨by decide, by decide⟩ (Nat.le_of_ble_eq_true rfl) rfl dX10_least_9 (fun r_6 u H locs h hw => ?_)
    refine lv_if_eq (tgt := 24) hx hb dX10_least_12 (by decide) (fun c_12 => ?_) (fun c_12 => ?_)
    · have h := h.1 c_12
      exact hB_Mo_least_24  h _ _ _ hw (lv_sub hl [] rfl)
    · have h := h.2 c_12
      refine lv_iload_n hx hb dX10_least_15 rfl (lv_at hl 3 rfl) ?_
      refine lv_iconst (v := 0) hx hb dX10_least_16 (by decide) ?_
      refine lv_iconst (v := 1) hx hb dX10_least_17 (by decide) ?_
      refine callSi (As := [.int x3, .int 0, .int 1]) (rest := []) C hw hl (c_Mo_in l g x3 0 1 _ h) tw_999 kk_X10_in rfl ⟨rfl, rfl⟩ ⟨by decide, by decide⟩ (Nat.le_of_ble_eq_true rfl) rfl dX10_least_18 (fun r_7 u H locs h hw => ?_)
      refine lv_if_ne (tgt := 27) hx hb dX10_least_21 (by decide) (fun c_21 => ?_) (fun c_21 => ?_)
      · have h := h.1 c_21
        refine lv_iconst (v := (-1)) hx hb dX10_least_27 (by decide) ?_
        refine lv_istore (lv' := [(4, .int (-1)), (0, .ref a_t), (1, .int x1), (2, .int x2), (3, .int x3)]) hx hb dX10_least_28 hl (by decide) rfl (fun ls hl => ?_)
        refine lv_iconst (v := 0) hx hb dX10_least_30 (by decide) ?_
        refine lv_istore (lv' := [(5, .int 0), (4, .int (-1)), (0, .ref a_t), (1, .int x1), (2, .int x2), (3, .int x3)]) hx hb dX10_least_31 hl (by decide) rfl (fun ls hl => ?_)
        refine lv_iconst (v := 0) hx hb dX10_least_33 (by decide) ?_
        refine lv_istore (lv' := [(6, .int 0), (5, .int 0), (4, .int (-1)), (0, .ref a_t), (1, .int x1), (2, .int x2), (3, .int x3)]) hx hb dX10_least_34 hl (by decide) rfl (fun ls hl => ?_)
        obtain ⟨n_36, h⟩ := h
        exact hL_Mo_least_36 n_36 (-1) 0 0 h _ _ _ hw (lv_sub hl [3, 4, 5, 6, 2, 1, 0] rfl)
      · have h := h.2 c_21
        exact hB_Mo_least_24  h _ _ _ hw (lv_sub hl [] rfl)
def P_Mo_tryDeed (x1 : Int32) (t_points : Int32) (t_cases : Int32) (t_one : (Nat → Int32)) (t_weight : (Nat → Int32)) (Q : Int32 → (Nat → Int32) → Prop) : Prop := P_Mo_judgmentAt x1 t_points t_cases t_one t_weight (fun r_1 => P_Mo_add x1 r_1 9999 t_cases t_one (fun t_cases_2 t_one_3 => Q t_cases_2 t_one_3))
abbrev rm_Mo_tryDeed : Room := { frames := 4, cells := 0, slots := 0, locals := 94 }
def cs_Mo_tryDeed (g : GE) (a_t a_t_one a_t_weight a_t_cost a_t_text a_t_read a_t_likes a_t_judged a_t_met a_t_line a_t_image a_t_isKept a_t_had : Nat) (t_points : Int32) (t_cases : Int32) (t_bytes : Int32) (t_position : Int32) (t_tokenAt : Int32) (t_token : Int64) (t_digits : Int32) (t_number : Int32) (t_row : Int32) (t_isRow : Int32) (t_faultAt : Int32) (t_readMany : Int32) (t_readPoints : Int32) (t_readCases : Int32) (t_suitOne : Int32) (t_suitTwo : Int32) (t_one : (Nat → Int32)) (t_weight : (Nat → Int32)) : va_W := [oc a_t 10 [.int t_points, .ref a_t_weight, .ref a_t_cost, .int t_cases, .ref a_t_one, .int t_bytes, .ref a_t_text, .int t_position, .int t_tokenAt, .long t_token, .int t_digits, .int t_number, .int t_row, .int t_isRow, .int t_faultAt, .int t_readMany, .int t_readPoints, .int t_readCases, .ref a_t_read, .ref a_t_likes, .ref a_t_judged, .ref a_t_met, .ref a_t_line, .ref a_t_image, .ref a_t_isKept, .int t_suitOne, .int t_suitTwo, .ref a_t_had], ai g a_t_one 56 t_one, ai g a_t_weight 10 t_weight]
set_option maxHeartbeats 4000000 in
set_option maxRecDepth 100000 in
theorem c_Mo_tryDeed (l : Launch) (g : GE) (a_t a_t_one a_t_weight a_t_cost a_t_text a_t_read a_t_likes a_t_judged a_t_met a_t_line a_t_image a_t_isKept a_t_had : Nat) (t_points : Int32) (t_cases : Int32) (t_bytes : Int32) (t_position : Int32) (t_tokenAt : Int32) (t_token : Int64) (t_digits : Int32) (t_number : Int32) (t_row : Int32) (t_isRow : Int32) (t_faultAt : Int32) (t_readMany : Int32) (t_readPoints : Int32) (t_readCases : Int32) (t_suitOne : Int32) (t_suitTwo : Int32) (t_one : (Nat → Int32)) (t_weight : (Nat → Int32)) (x1 : Int32) (Q : Int32 → (Nat → Int32) → Prop) (h : P_Mo_tryDeed x1 t_points t_cases t_one t_weight Q) : Ctv l g yX10_tryDeed cX10_tryDeed 2 none rm_Mo_tryDeed [.ref a_t, .int x1] (cs_Mo_tryDeed g a_t a_t_one a_t_weight a_t_cost a_t_text a_t_read a_t_likes a_t_judged a_t_met a_t_line a_t_image a_t_isKept a_t_had t_points t_cases t_bytes t_position t_tokenAt t_token t_digits t_number t_row t_isRow t_faultAt t_readMany t_readPoints t_readCases t_suitOne t_suitTwo t_one t_weight) (S := Int32 × (Nat → Int32)) (fun u => Q u.1 u.2) (fun u => (cs_Mo_tryDeed g a_t a_t_one a_t_weight a_t_cost a_t_text a_t_read a_t_likes a_t_judged a_t_met a_t_line a_t_image a_t_isKept a_t_had t_points (u.1) t_bytes t_position t_tokenAt t_token t_digits t_number t_row t_isRow t_faultAt t_readMany t_readPoints t_readCases t_suitOne t_suitTwo (u.2) t_weight)) := by
  refine meetV rfl (Nat.le_of_ble_eq_true rfl) ⟨rfl, rfl⟩ ?_
  intro p e s m args below meth c A Qf ls C hret hw hl
  have hx := C.1
  have hb := C.2.1
  have hown := C.2.2.2.1
  have hts := C.2.2.2.2.1
  have hE := C.2.2.2.2.2.1
  have hl : lv_has ls 2 [(0, .ref a_t), (1, .int x1)] := hl
  refine lv_aload_n hx hb dX10_tryDeed_0 rfl (lv_at hl 0 rfl) ?_
  refine lv_iload_n hx hb dX10_tryDeed_1 rfl (lv_at hl 1 rfl) ?_
  refine lv_aload_n hx hb dX10_tryDeed_2 rfl (lv_at hl 0 rfl) ?_
  refine lv_iload_n hx hb dX10_tryDeed_3 rfl (lv_at hl 1 rfl) ?_
  refine callVi (As := [.int x1]) (rest := [.int x1, .ref a_t]) (W2 := fun _ => (cs_Mo_tryDeed g a_t a_t_one a_t_weight a_t_cost a_t_text a_t_read a_t_likes a_t_judged a_t_met a_t_line a_t_image a_t_isKept a_t_had t_points t_cases t_bytes t_position t_tokenAt t_token t_digits t_number t_row t_isRow t_faultAt t_readMany t_readPoints t_readCases t_suitOne t_suitTwo t_one t_weight)) C hw hl (c_Mo_judgmentAt l g a_t a_t_one a_t_weight a_t_cost a_t_text a_t_read a_t_likes a_t_judged a_t_met a_t_line a_t_image a_t_isKept a_t_had t_points t_cases t_bytes t_position t_tokenAt t_token t_digits t_number t_row t_isRow t_faultAt t_readMany t_readPoints t_readCases t_suitOne t_suitTwo t_one t_weight x1 _ h) tw_1126 kk_X10_judgmentAt rfl ⟨rfl, rfl⟩ ⟨by decide, by decide⟩ (Nat.le_of_ble_eq_true rfl) 0 rfl rfl rfl [0, 1, 2] [] [0, 1, 2] rfl rfl rfl rfl rfl rfl (fun u => rfl) rfl dX10_tryDeed_4 (fun r_1 u H locs h hw => ?_)
  refine lv_sipush (v := 9999) hx hb dX10_tryDeed_7 (by decide) ?_
  refine callVv (As := [.int x1, .int r_1, .int 9999]) (rest := []) (W2 := fun u => (cs_Mo_tryDeed g a_t a_t_one a_t_weight a_t_cost a_t_text a_t_read a_t_likes a_t_judged a_t_met a_t_line a_t_image a_t_isKept a_t_had t_points (u.1) t_bytes t_position t_tokenAt t_token t_digits t_number t_row t_isRow t_faultAt t_readMany t_readPoints t_readCases t_suitOne t_suitTwo (u.2) t_weight)) C hw hl (c_Mo_add l g a_t a_t_one a_t_weight a_t_cost a_t_text a_t_read a_t_likes a_t_judged a_t_met a_t_line a_t_image a_t_isKept a_t_had t_points t_cases t_bytes t_position t_tokenAt t_token t_digits t_number t_row t_isRow t_faultAt t_readMany t_readPoints t_readCases t_suitOne t_suitTwo t_one x1 r_1 9999 _ h) tw_1067 kk_X10_add rfl ⟨rfl, rfl⟩ ⟨by decide, by decide⟩ (Nat.le_of_ble_eq_true rfl) 0 rfl rfl rfl [0, 1] [2] [1, 2, 0] rfl rfl rfl rfl rfl rfl (fun u => rfl) rfl dX10_tryDeed_10 (fun u H locs h hw => ?_)
  obtain ⟨t_cases_2, t_one_3⟩ := u
  have hw : Wd g A s (cs_Mo_tryDeed g a_t a_t_one a_t_weight a_t_cost a_t_text a_t_read a_t_likes a_t_judged a_t_met a_t_line a_t_image a_t_isKept a_t_had t_points t_cases_2 t_bytes t_position t_tokenAt t_token t_digits t_number t_row t_isRow t_faultAt t_readMany t_readPoints t_readCases t_suitOne t_suitTwo t_one_3 t_weight) H locs := hw
  exact hret (t_cases_2, t_one_3) h hw dX10_tryDeed_13
def B_Mo_suit_91 (x1 : Int32) (x2 : Int32) (t_points : Int32) (t_weight : (Nat → Int32)) (Q : Int32 → Int32 → Int32 → Int32 → (Nat → Int32) → Prop) (N_19 : Int32 → Int32 → Int32 → Int32 → Int32 → (Nat → Int32) → Prop) (N_28 : Int32 → Int32 → Int32 → Int32 → Int32 → Int32 → (Nat → Int32) → Prop) (N_40 : Int32 → Int32 → Int32 → Int32 → Int32 → Int32 → Int32 → (Nat → Int32) → Prop) (x3 : Int32) (x4 : Int32) (x5 : Int32) (x6 : Int32) (k0 : Int32) (t_cases : Int32) (t_suitOne : Int32) (t_suitTwo : Int32) (t_one : (Nat → Int32)) : Prop := (k0 = 0 → N_40 x3 x4 x5 (x6 + 1) x3 t_suitOne t_suitTwo t_one) ∧ (¬ k0 = 0 → Q x4 x3 x5 x6 t_one)
def B_Mo_suit_77 (x1 : Int32) (x2 : Int32) (t_points : Int32) (t_weight : (Nat → Int32)) (Q : Int32 → Int32 → Int32 → Int32 → (Nat → Int32) → Prop) (N_19 : Int32 → Int32 → Int32 → Int32 → Int32 → (Nat → Int32) → Prop) (N_28 : Int32 → Int32 → Int32 → Int32 → Int32 → Int32 → (Nat → Int32) → Prop) (N_40 : Int32 → Int32 → Int32 → Int32 → Int32 → Int32 → Int32 → (Nat → Int32) → Prop) (x3 : Int32) (x4 : Int32) (x5 : Int32) (x6 : Int32) (t_cases : Int32) (t_suitOne : Int32) (t_suitTwo : Int32) (t_one : (Nat → Int32)) : Prop := P_Mo_judgmentAt x1 t_points t_cases t_one t_weight (fun r_1 => (¬ r_1 = x2 → B_Mo_suit_91 x1 x2 t_points t_weight Q N_19 N_28 N_40 x3 x4 x5 x6 0 t_cases t_suitOne t_suitTwo t_one) ∧ (r_1 = x2 → B_Mo_suit_91 x1 x2 t_points t_weight Q N_19 N_28 N_40 x3 x4 x5 x6 1 t_cases t_suitOne t_suitTwo t_one))
def B_Mo_suit_56 (x1 : Int32) (x2 : Int32) (t_points : Int32) (t_weight : (Nat → Int32)) (Q : Int32 → Int32 → Int32 → Int32 → (Nat → Int32) → Prop) (N_19 : Int32 → Int32 → Int32 → Int32 → Int32 → (Nat → Int32) → Prop) (N_28 : Int32 → Int32 → Int32 → Int32 → Int32 → Int32 → (Nat → Int32) → Prop) (N_40 : Int32 → Int32 → Int32 → Int32 → Int32 → Int32 → Int32 → (Nat → Int32) → Prop) (x3 : Int32) (x4 : Int32) (x5 : Int32) (x6 : Int32) (k0 : Int32) (k1 : Int32) (t_cases : Int32) (t_suitOne : Int32) (t_suitTwo : Int32) (t_one : (Nat → Int32)) : Prop := (k1 ≤ k0 → N_28 x3 x4 (x5 + 1) t_cases t_suitOne t_suitTwo t_one) ∧ (¬ k1 ≤ k0 → P_Mo_tryDeed x5 t_points t_cases t_one t_weight (fun t_cases_2 t_one_3 => (¬ x4 = 2 → B_Mo_suit_77 x1 x2 t_points t_weight Q N_19 N_28 N_40 x3 x4 x5 x6 t_cases_2 t_suitOne t_suitTwo t_one_3) ∧ (x4 = 2 → P_Mo_tryDeed x6 t_points t_cases_2 t_one_3 t_weight (fun t_cases_4 t_one_5 => B_Mo_suit_77 x1 x2 t_points t_weight Q N_19 N_28 N_40 x3 x4 x5 x6 t_cases_4 t_suitOne t_suitTwo t_one_5))))
def L_Mo_suit_40 (x1 : Int32) (x2 : Int32) (t_points : Int32) (t_weight : (Nat → Int32)) (Q : Int32 → Int32 → Int32 → Int32 → (Nat → Int32) → Prop) (N_19 : Int32 → Int32 → Int32 → Int32 → Int32 → (Nat → Int32) → Prop) (N_28 : Int32 → Int32 → Int32 → Int32 → Int32 → Int32 → (Nat → Int32) → Prop) : Nat → Int32 → Int32 → Int32 → Int32 → Int32 → Int32 → Int32 → (Nat → Int32) → Prop
  | 0 => fun _ _ _ _ _ _ _ _ => False
  | n + 1 => fun x3 x4 x5 x6 t_cases t_suitOne t_suitTwo t_one => (¬ x4 = 1 → P_Mo_deedMany t_points (fun r_6 => B_Mo_suit_56 x1 x2 t_points t_weight Q N_19 N_28 (L_Mo_suit_40 x1 x2 t_points t_weight Q N_19 N_28 n) x3 x4 x5 x6 x6 r_6 t_cases t_suitOne t_suitTwo t_one)) ∧ (x4 = 1 → B_Mo_suit_56 x1 x2 t_points t_weight Q N_19 N_28 (L_Mo_suit_40 x1 x2 t_points t_weight Q N_19 N_28 n) x3 x4 x5 x6 x6 1 t_cases t_suitOne t_suitTwo t_one)
def L_Mo_suit_28 (x1 : Int32) (x2 : Int32) (t_points : Int32) (t_weight : (Nat → Int32)) (Q : Int32 → Int32 → Int32 → Int32 → (Nat → Int32) → Prop) (N_19 : Int32 → Int32 → Int32 → Int32 → Int32 → (Nat → Int32) → Prop) : Nat → Int32 → Int32 → Int32 → Int32 → Int32 → Int32 → (Nat → Int32) → Prop
  | 0 => fun _ _ _ _ _ _ _ => False
  | n + 1 => fun x3 x4 x5 t_cases t_suitOne t_suitTwo t_one => P_Mo_deedMany t_points (fun r_7 => (r_7 ≤ x5 → N_19 x3 (x4 + 1) t_cases t_suitOne t_suitTwo t_one) ∧ (¬ r_7 ≤ x5 → ∃ n_40 : Nat, L_Mo_suit_40 x1 x2 t_points t_weight Q N_19 (L_Mo_suit_28 x1 x2 t_points t_weight Q N_19 n) n_40 x3 x4 x5 0 t_cases t_suitOne t_suitTwo t_one))
def L_Mo_suit_19 (x1 : Int32) (x2 : Int32) (t_points : Int32) (t_weight : (Nat → Int32)) (Q : Int32 → Int32 → Int32 → Int32 → (Nat → Int32) → Prop) : Nat → Int32 → Int32 → Int32 → Int32 → Int32 → (Nat → Int32) → Prop
  | 0 => fun _ _ _ _ _ _ => False
  | n + 1 => fun x3 x4 t_cases t_suitOne t_suitTwo t_one => (3 ≤ x4 → Q (-1) t_cases t_suitOne t_suitTwo t_one) ∧ (¬ 3 ≤ x4 → ∃ n_28 : Nat, L_Mo_suit_28 x1 x2 t_points t_weight Q (L_Mo_suit_19 x1 x2 t_points t_weight Q n) n_28 x3 x4 0 t_cases t_suitOne t_suitTwo t_one)
def P_Mo_suit (x1 : Int32) (x2 : Int32) (t_points : Int32) (t_cases : Int32) (t_suitOne : Int32) (t_suitTwo : Int32) (t_one : (Nat → Int32)) (t_weight : (Nat → Int32)) (Q : Int32 → Int32 → Int32 → Int32 → (Nat → Int32) → Prop) : Prop := P_Mo_judgmentAt x1 t_points t_cases t_one t_weight (fun r_8 => (¬ r_8 = x2 → ∃ n_19 : Nat, L_Mo_suit_19 x1 x2 t_points t_weight Q n_19 t_cases 1 t_cases t_suitOne t_suitTwo t_one) ∧ (r_8 = x2 → Q 0 t_cases t_suitOne t_suitTwo t_one))
abbrev rm_Mo_suit : Room := { frames := 5, cells := 0, slots := 0, locals := 115 }
def cs_Mo_suit (g : GE) (a_t a_t_one a_t_weight a_t_cost a_t_text a_t_read a_t_likes a_t_judged a_t_met a_t_line a_t_image a_t_isKept a_t_had : Nat) (t_points : Int32) (t_cases : Int32) (t_bytes : Int32) (t_position : Int32) (t_tokenAt : Int32) (t_token : Int64) (t_digits : Int32) (t_number : Int32) (t_row : Int32) (t_isRow : Int32) (t_faultAt : Int32) (t_readMany : Int32) (t_readPoints : Int32) (t_readCases : Int32) (t_suitOne : Int32) (t_suitTwo : Int32) (t_one : (Nat → Int32)) (t_weight : (Nat → Int32)) : va_W := [oc a_t 10 [.int t_points, .ref a_t_weight, .ref a_t_cost, .int t_cases, .ref a_t_one, .int t_bytes, .ref a_t_text, .int t_position, .int t_tokenAt, .long t_token, .int t_digits, .int t_number, .int t_row, .int t_isRow, .int t_faultAt, .int t_readMany, .int t_readPoints, .int t_readCases, .ref a_t_read, .ref a_t_likes, .ref a_t_judged, .ref a_t_met, .ref a_t_line, .ref a_t_image, .ref a_t_isKept, .int t_suitOne, .int t_suitTwo, .ref a_t_had], ai g a_t_one 56 t_one, ai g a_t_weight 10 t_weight]
set_option maxHeartbeats 4000000 in
set_option maxRecDepth 100000 in
theorem c_Mo_suit (l : Launch) (g : GE) (a_t a_t_one a_t_weight a_t_cost a_t_text a_t_read a_t_likes a_t_judged a_t_met a_t_line a_t_image a_t_isKept a_t_had : Nat) (t_points : Int32) (t_cases : Int32) (t_bytes : Int32) (t_position : Int32) (t_tokenAt : Int32) (t_token : Int64) (t_digits : Int32) (t_number : Int32) (t_row : Int32) (t_isRow : Int32) (t_faultAt : Int32) (t_readMany : Int32) (t_readPoints : Int32) (t_readCases : Int32) (t_suitOne : Int32) (t_suitTwo : Int32) (t_one : (Nat → Int32)) (t_weight : (Nat → Int32)) (x1 : Int32) (x2 : Int32) (Q : Int32 → Int32 → Int32 → Int32 → (Nat → Int32) → Prop) (h : P_Mo_suit x1 x2 t_points t_cases t_suitOne t_suitTwo t_one t_weight Q) : Cti l g yX10_suit cX10_suit 8 (some .int) rm_Mo_suit [.ref a_t, .int x1, .int x2] (cs_Mo_suit g a_t a_t_one a_t_weight a_t_cost a_t_text a_t_read a_t_likes a_t_judged a_t_met a_t_line a_t_image a_t_isKept a_t_had t_points t_cases t_bytes t_position t_tokenAt t_token t_digits t_number t_row t_isRow t_faultAt t_readMany t_readPoints t_readCases t_suitOne t_suitTwo t_one t_weight) (S := Int32 × Int32 × Int32 × (Nat → Int32)) (fun r u => Q r u.1 u.2.1 u.2.2.1 u.2.2.2) (fun u => (cs_Mo_suit g a_t a_t_one a_t_weight a_t_cost a_t_text a_t_read a_t_likes a_t_judged a_t_met a_t_line a_t_image a_t_isKept a_t_had t_points (u.1) t_bytes t_position t_tokenAt t_token t_digits t_number t_row t_isRow t_faultAt t_readMany t_readPoints t_readCases (u.2.1) (u.2.2.1) (u.2.2.2) t_weight)) := by
  refine meetI rfl (Nat.le_of_ble_eq_true rfl) ⟨rfl, rfl⟩ ?_
  intro p e s m args below meth c A Qf ls C hret hw hl
  have hx := C.1
  have hb := C.2.1
  have hown := C.2.2.2.1
  have hts := C.2.2.2.2.1
  have hE := C.2.2.2.2.2.1
  have hl : lv_has ls 8 [(0, .ref a_t), (1, .int x1), (2, .int x2)] := hl
  have hB_Mo_suit_91 : ∀ (N_19 : Int32 → Int32 → Int32 → Int32 → Int32 → (Nat → Int32) → Prop) (hN_19 : ∀ (x3 : Int32) (x4 : Int32) (t_cases : Int32) (t_suitOne : Int32) (t_suitTwo : Int32) (t_one : (Nat → Int32)), N_19 x3 x4 t_cases t_suitOne t_suitTwo t_one → Wat p l e rm_Mo_suit s m args below meth c A Qf g 8 (cs_Mo_suit g a_t a_t_one a_t_weight a_t_cost a_t_text a_t_read a_t_likes a_t_judged a_t_met a_t_line a_t_image a_t_isKept a_t_had t_points t_cases t_bytes t_position t_tokenAt t_token t_digits t_number t_row t_isRow t_faultAt t_readMany t_readPoints t_readCases t_suitOne t_suitTwo t_one t_weight) [(0, .ref a_t), (1, .int x1), (2, .int x2), (3, .int x3), (4, .int x4)] 19 []) (N_28 : Int32 → Int32 → Int32 → Int32 → Int32 → Int32 → (Nat → Int32) → Prop) (hN_28 : ∀ (x3 : Int32) (x4 : Int32) (x5 : Int32) (t_cases : Int32) (t_suitOne : Int32) (t_suitTwo : Int32) (t_one : (Nat → Int32)), N_28 x3 x4 x5 t_cases t_suitOne t_suitTwo t_one → Wat p l e rm_Mo_suit s m args below meth c A Qf g 8 (cs_Mo_suit g a_t a_t_one a_t_weight a_t_cost a_t_text a_t_read a_t_likes a_t_judged a_t_met a_t_line a_t_image a_t_isKept a_t_had t_points t_cases t_bytes t_position t_tokenAt t_token t_digits t_number t_row t_isRow t_faultAt t_readMany t_readPoints t_readCases t_suitOne t_suitTwo t_one t_weight) [(0, .ref a_t), (1, .int x1), (2, .int x2), (3, .int x3), (4, .int x4), (5, .int x5)] 28 []) (N_40 : Int32 → Int32 → Int32 → Int32 → Int32 → Int32 → Int32 → (Nat → Int32) → Prop) (hN_40 : ∀ (x3 : Int32) (x4 : Int32) (x5 : Int32) (x6 : Int32) (t_cases : Int32) (t_suitOne : Int32) (t_suitTwo : Int32) (t_one : (Nat → Int32)), N_40 x3 x4 x5 x6 t_cases t_suitOne t_suitTwo t_one → Wat p l e rm_Mo_suit s m args below meth c A Qf g 8 (cs_Mo_suit g a_t a_t_one a_t_weight a_t_cost a_t_text a_t_read a_t_likes a_t_judged a_t_met a_t_line a_t_image a_t_isKept a_t_had t_points t_cases t_bytes t_position t_tokenAt t_token t_digits t_number t_row t_isRow t_faultAt t_readMany t_readPoints t_readCases t_suitOne t_suitTwo t_one t_weight) [(0, .ref a_t), (1, .int x1), (2, .int x2), (3, .int x3), (4, .int x4), (5, .int x5), (6, .int x6)] 40 []) (x3 : Int32) (x4 : Int32) (x5 : Int32) (x6 : Int32) (k0 : Int32) (t_cases : Int32) (t_suitOne : Int32) (t_suitTwo : Int32) (t_one : (Nat → Int32)), B_Mo_suit_91 x1 x2 t_points t_weight Q N_19 N_28 N_40 x3 x4 x5 x6 k0 t_cases t_suitOne t_suitTwo t_one → Wat p l e rm_Mo_suit s m args below meth c A Qf g 8 (cs_Mo_suit g a_t a_t_one a_t_weight a_t_cost a_t_text a_t_read a_t_likes a_t_judged a_t_met a_t_line a_t_image a_t_isKept a_t_had t_points t_cases t_bytes t_position t_tokenAt t_token t_digits t_number t_row t_isRow t_faultAt t_readMany t_readPoints t_readCases t_suitOne t_suitTwo t_one t_weight) [(0, .ref a_t), (1, .int x1), (2, .int x2), (3, .int x3), (4, .int x4), (5, .int x5), (6, .int x6)] 91 [.int k0] := by
    intro N_19 hN_19 N_28 hN_28 N_40 hN_40 x3 x4 x5 x6 k0 t_cases t_suitOne t_suitTwo t_one h H locs ls hw hl
    refine lv_istore (lv' := [(7, .int k0), (0, .ref a_t), (1, .int x1), (2, .int x2), (3, .int x3), (4, .int x4), (5, .int x5), (6, .int x6)]) hx hb dX10_suit_91 hl (by decide) rfl (fun ls hl => ?_)
    refine lv_aload_n hx hb dX10_suit_93 rfl (lv_at hl 1 rfl) ?_
    refine lv_iload_n hx hb dX10_suit_94 rfl (lv_at hl 4 rfl) ?_
    refine U_RX10_54 (ws2 := (cs_Mo_suit g a_t a_t_one a_t_weight a_t_cost a_t_text a_t_read a_t_likes a_t_judged a_t_met a_t_line a_t_image a_t_isKept a_t_had t_points x3 t_bytes t_position t_tokenAt t_token t_digits t_number t_row t_isRow t_faultAt t_readMany t_readPoints t_readCases t_suitOne t_suitTwo t_one t_weight)) C hw 0 rfl rfl rfl rfl dX10_suit_95 (fun H locs hw => ?_)
    refine lv_iload hx hb dX10_suit_98 (lv_at hl 0 rfl) ?_
    refine lv_if_eq (tgt := 118) hx hb dX10_suit_100 (by decide) (fun c_100 => ?_) (fun c_100 => ?_)
    · have h := h.1 c_100
      refine lv_iinc (v := x6 + 1) (lv' := [(6, .int (x6 + 1)), (7, .int k0), (0, .ref a_t), (1, .int x1), (2, .int x2), (3, .int x3), (4, .int x4), (5, .int x5)]) hx hb dX10_suit_118 hl (k := 7) rfl rfl (by decide) rfl (fun ls hl => ?_)
      refine lv_goto (tgt := 40) hx hb dX10_suit_121 (by decide) ?_
      exact hN_40 x3 x4 x5 (x6 + 1) x3 t_suitOne t_suitTwo t_one h _ _ _ hw (lv_sub hl [2, 3, 4, 5, 6, 7, 0] rfl)
    · have h := h.2 c_100
      refine lv_aload_n hx hb dX10_suit_103 rfl (lv_at hl 1 rfl) ?_
      refine lv_iload hx hb dX10_suit_104 (lv_at hl 6 rfl) ?_
      refine U_RX10_202 (ws2 := (cs_Mo_suit g a_t a_t_one a_t_weight a_t_cost a_t_text a_t_read a_t_likes a_t_judged a_t_met a_t_line a_t_image a_t_isKept a_t_had t_points x3 t_bytes t_position t_tokenAt t_token t_digits t_number t_row t_isRow t_faultAt t_readMany t_readPoints t_readCases x5 t_suitTwo t_one t_weight)) C hw 0 rfl rfl rfl rfl dX10_suit_106 (fun H locs hw => ?_)
      refine lv_aload_n hx hb dX10_suit_109 rfl (lv_at hl 1 rfl) ?_
      refine lv_iload hx hb dX10_suit_110 (lv_at hl 7 rfl) ?_
      refine U_RX10_205 (ws2 := (cs_Mo_suit g a_t a_t_one a_t_weight a_t_cost a_t_text a_t_read a_t_likes a_t_judged a_t_met a_t_line a_t_image a_t_isKept a_t_had t_points x3 t_bytes t_position t_tokenAt t_token t_digits t_number t_row t_isRow t_faultAt t_readMany t_readPoints t_readCases x5 x6 t_one t_weight)) C hw 0 rfl rfl rfl rfl dX10_suit_112 (fun H locs hw => ?_)
      refine lv_iload hx hb dX10_suit_115 (lv_at hl 5 rfl) ?_
      exact hret (x3, x5, x6, t_one) h hw dX10_suit_117 rfl
  have hB_Mo_suit_77 : ∀ (N_19 : Int32 → Int32 → Int32 → Int32 → Int32 → (Nat → Int32) → Prop) (hN_19 : ∀ (x3 : Int32) (x4 : Int32) (t_cases : Int32) (t_suitOne : Int32) (t_suitTwo : Int32) (t_one : (Nat → Int32)), N_19 x3 x4 t_cases t_suitOne t_suitTwo t_one → Wat p l e rm_Mo_suit s m args below meth c A Qf g 8 (cs_Mo_suit g a_t a_t_one a_t_weight a_t_cost a_t_text a_t_read a_t_likes a_t_judged a_t_met a_t_line a_t_image a_t_isKept a_t_had t_points t_cases t_bytes t_position t_tokenAt t_token t_digits t_number t_row t_isRow t_faultAt t_readMany t_readPoints t_readCases t_suitOne t_suitTwo t_one t_weight) [(0, .ref a_t), (1, .int x1), (2, .int x2), (3, .int x3), (4, .int x4)] 19 []) (N_28 : Int32 → Int32 → Int32 → Int32 → Int32 → Int32 → (Nat → Int32) → Prop) (hN_28 : ∀ (x3 : Int32) (x4 : Int32) (x5 : Int32) (t_cases : Int32) (t_suitOne : Int32) (t_suitTwo : Int32) (t_one : (Nat → Int32)), N_28 x3 x4 x5 t_cases t_suitOne t_suitTwo t_one → Wat p l e rm_Mo_suit s m args below meth c A Qf g 8 (cs_Mo_suit g a_t a_t_one a_t_weight a_t_cost a_t_text a_t_read a_t_likes a_t_judged a_t_met a_t_line a_t_image a_t_isKept a_t_had t_points t_cases t_bytes t_position t_tokenAt t_token t_digits t_number t_row t_isRow t_faultAt t_readMany t_readPoints t_readCases t_suitOne t_suitTwo t_one t_weight) [(0, .ref a_t), (1, .int x1), (2, .int x2), (3, .int x3), (4, .int x4), (5, .int x5)] 28 []) (N_40 : Int32 → Int32 → Int32 → Int32 → Int32 → Int32 → Int32 → (Nat → Int32) → Prop) (hN_40 : ∀ (x3 : Int32) (x4 : Int32) (x5 : Int32) (x6 : Int32) (t_cases : Int32) (t_suitOne : Int32) (t_suitTwo : Int32) (t_one : (Nat → Int32)), N_40 x3 x4 x5 x6 t_cases t_suitOne t_suitTwo t_one → Wat p l e rm_Mo_suit s m args below meth c A Qf g 8 (cs_Mo_suit g a_t a_t_one a_t_weight a_t_cost a_t_text a_t_read a_t_likes a_t_judged a_t_met a_t_line a_t_image a_t_isKept a_t_had t_points t_cases t_bytes t_position t_tokenAt t_token t_digits t_number t_row t_isRow t_faultAt t_readMany t_readPoints t_readCases t_suitOne t_suitTwo t_one t_weight) [(0, .ref a_t), (1, .int x1), (2, .int x2), (3, .int x3), (4, .int x4), (5, .int x5), (6, .int x6)] 40 []) (x3 : Int32) (x4 : Int32) (x5 : Int32) (x6 : Int32) (t_cases : Int32) (t_suitOne : Int32) (t_suitTwo : Int32) (t_one : (Nat → Int32)), B_Mo_suit_77 x1 x2 t_points t_weight Q N_19 N_28 N_40 x3 x4 x5 x6 t_cases t_suitOne t_suitTwo t_one → Wat p l e rm_Mo_suit s m args below meth c A Qf g 8 (cs_Mo_suit g a_t a_t_one a_t_weight a_t_cost a_t_text a_t_read a_t_likes a_t_judged a_t_met a_t_line a_t_image a_t_isKept a_t_had t_points t_cases t_bytes t_position t_tokenAt t_token t_digits t_number t_row t_isRow t_faultAt t_readMany t_readPoints t_readCases t_suitOne t_suitTwo t_one t_weight) [(0, .ref a_t), (1, .int x1), (2, .int x2), (3, .int x3), (4, .int x4), (5, .int x5), (6, .int x6)] 77 [] := by
    intro N_19 hN_19 N_28 hN_28 N_40 hN_40 x3 x4 x5 x6 t_cases t_suitOne t_suitTwo t_one h H locs ls hw hl
    refine lv_aload_n hx hb dX10_suit_77 rfl (lv_at hl 0 rfl) ?_
    refine lv_iload_n hx hb dX10_suit_78 rfl (lv_at hl 1 rfl) ?_
    refine callVi (As := [.int x1]) (rest := []) (W2 := fun _ => (cs_Mo_suit g a_t a_t_one a_t_weight a_t_cost a_t_text a_t_read a_t_likes a_t_judged a_t_met a_t_line a_t_image a_t_isKept a_t_had t_points t_cases t_bytes t_position t_tokenAt t_token t_digits t_number t_row t_isRow t_faultAt t_readMany t_readPoints t_readCases t_suitOne t_suitTwo t_one t_weight)) C hw hl (c_Mo_judgmentAt l g a_t a_t_one a_t_weight a_t_cost a_t_text a_t_read a_t_likes a_t_judged a_t_met a_t_line a_t_image a_t_isKept a_t_had t_points t_cases t_bytes t_position t_tokenAt t_token t_digits t_number t_row t_isRow t_faultAt t_readMany t_readPoints t_readCases t_suitOne t_suitTwo t_one t_weight x1 _ h) tw_1126 kk_X10_judgmentAt rfl ⟨rfl, rfl⟩ ⟨by decide, by decide⟩ (Nat.le_of_ble_eq_true rfl) 0 rfl rfl rfl [0, 1, 2] [] [0, 1, 2] rfl rfl rfl rfl rfl rfl (fun u => rfl) rfl dX10_suit_79 (fun r_1 u H locs h hw => ?_)
    refine lv_iload_n hx hb dX10_suit_82 rfl (lv_at hl 2 rfl) ?_
    refine lv_icmp_ne (tgt := 90) hx hb dX10_suit_83 (by decide) (fun c_83 => ?_) (fun c_83 => ?_)
    · have h := h.1 c_83
      refine lv_iconst (v := 0) hx hb dX10_suit_90 (by decide) ?_
      exact hB_Mo_suit_91 N_19 hN_19 N_28 hN_28 N_40 hN_40 x3 x4 x5 x6 0 t_cases t_suitOne t_suitTwo t_one h _ _ _ hw (lv_sub hl [0, 1, 2, 3, 4, 5, 6] rfl)
    · have h := h.2 c_83
      refine lv_iconst (v := 1) hx hb dX10_suit_86 (by decide) ?_
      refine lv_goto (tgt := 91) hx hb dX10_suit_87 (by decide) ?_
      exact hB_Mo_suit_91 N_19 hN_19 N_28 hN_28 N_40 hN_40 x3 x4 x5 x6 1 t_cases t_suitOne t_suitTwo t_one h _ _ _ hw (lv_sub hl [0, 1, 2, 3, 4, 5, 6] rfl)
  have hB_Mo_suit_56 : ∀ (N_19 : Int32 → Int32 → Int32 → Int32 → Int32 → (Nat → Int32) → Prop) (hN_19 : ∀ (x3 : Int32) (x4 : Int32) (t_cases : Int32) (t_suitOne : Int32) (t_suitTwo : Int32) (t_one : (Nat → Int32)), N_19 x3 x4 t_cases t_suitOne t_suitTwo t_one → Wat p l e rm_Mo_suit s m args below meth c A Qf g 8 (cs_Mo_suit g a_t a_t_one a_t_weight a_t_cost a_t_text a_t_read a_t_likes a_t_judged a_t_met a_t_line a_t_image a_t_isKept a_t_had t_points t_cases t_bytes t_position t_tokenAt t_token t_digits t_number t_row t_isRow t_faultAt t_readMany t_readPoints t_readCases t_suitOne t_suitTwo t_one t_weight) [(0, .ref a_t), (1, .int x1), (2, .int x2), (3, .int x3), (4, .int x4)] 19 []) (N_28 : Int32 → Int32 → Int32 → Int32 → Int32 → Int32 → (Nat → Int32) → Prop) (hN_28 : ∀ (x3 : Int32) (x4 : Int32) (x5 : Int32) (t_cases : Int32) (t_suitOne : Int32) (t_suitTwo : Int32) (t_one : (Nat → Int32)), N_28 x3 x4 x5 t_cases t_suitOne t_suitTwo t_one → Wat p l e rm_Mo_suit s m args below meth c A Qf g 8 (cs_Mo_suit g a_t a_t_one a_t_weight a_t_cost a_t_text a_t_read a_t_likes a_t_judged a_t_met a_t_line a_t_image a_t_isKept a_t_had t_points t_cases t_bytes t_position t_tokenAt t_token t_digits t_number t_row t_isRow t_faultAt t_readMany t_readPoints t_readCases t_suitOne t_suitTwo t_one t_weight) [(0, .ref a_t), (1, .int x1), (2, .int x2), (3, .int x3), (4, .int x4), (5, .int x5)] 28 []) (N_40 : Int32 → Int32 → Int32 → Int32 → Int32 → Int32 → Int32 → (Nat → Int32) → Prop) (hN_40 : ∀ (x3 : Int32) (x4 : Int32) (x5 : Int32) (x6 : Int32) (t_cases : Int32) (t_suitOne : Int32) (t_suitTwo : Int32) (t_one : (Nat → Int32)), N_40 x3 x4 x5 x6 t_cases t_suitOne t_suitTwo t_one → Wat p l e rm_Mo_suit s m args below meth c A Qf g 8 (cs_Mo_suit g a_t a_t_one a_t_weight a_t_cost a_t_text a_t_read a_t_likes a_t_judged a_t_met a_t_line a_t_image a_t_isKept a_t_had t_points t_cases t_bytes t_position t_tokenAt t_token t_digits t_number t_row t_isRow t_faultAt t_readMany t_readPoints t_readCases t_suitOne t_suitTwo t_one t_weight) [(0, .ref a_t), (1, .int x1), (2, .int x2), (3, .int x3), (4, .int x4), (5, .int x5), (6, .int x6)] 40 []) (x3 : Int32) (x4 : Int32) (x5 : Int32) (x6 : Int32) (k0 : Int32) (k1 : Int32) (t_cases : Int32) (t_suitOne : Int32) (t_suitTwo : Int32) (t_one : (Nat → Int32)), B_Mo_suit_56 x1 x2 t_points t_weight Q N_19 N_28 N_40 x3 x4 x5 x6 k0 k1 t_cases t_suitOne t_suitTwo t_one → Wat p l e rm_Mo_suit s m args below meth c A Qf g 8 (cs_Mo_suit g a_t a_t_one a_t_weight a_t_cost a_t_text a_t_read a_t_likes a_t_judged a_t_met a_t_line a_t_image a_t_isKept a_t_had t_points t_cases t_bytes t_position t_tokenAt t_token t_digits t_number t_row t_isRow t_faultAt t_readMany t_readPoints t_readCases t_suitOne t_suitTwo t_one t_weight) [(0, .ref a_t), (1, .int x1), (2, .int x2), (3, .int x3), (4, .int x4), (5, .int x5), (6, .int x6)] 56 [.int k1, .int k0] := by
    intro N_19 hN_19 N_28 hN_28 N_40 hN_40 x3 x4 x5 x6 k0 k1 t_cases t_suitOne t_suitTwo t_one h H locs ls hw hl
    refine lv_icmp_ge (tgt := 124) hx hb dX10_suit_56 (by decide) (fun c_56 => ?_) (fun c_56 => ?_)
    · have h := h.1 c_56
      refine lv_iinc (v := x5 + 1) (lv' := [(5, .int (x5 + 1)), (0, .ref a_t), (1, .int x1), (2, .int x2), (3, .int x3), (4, .int x4), (6, .int x6)]) hx hb dX10_suit_124 hl (k := 5) rfl rfl (by decide) rfl (fun ls hl => ?_)
      refine lv_goto (tgt := 28) hx hb dX10_suit_127 (by decide) ?_
      exact hN_28 x3 x4 (x5 + 1) t_cases t_suitOne t_suitTwo t_one h _ _ _ hw (lv_sub hl [1, 2, 3, 4, 5, 0] rfl)
    · have h := h.2 c_56
      refine lv_aload_n hx hb dX10_suit_59 rfl (lv_at hl 0 rfl) ?_
      refine lv_iload hx hb dX10_suit_60 (lv_at hl 5 rfl) ?_
      refine callVv (As := [.int x5]) (rest := []) (W2 := fun u => (cs_Mo_suit g a_t a_t_one a_t_weight a_t_cost a_t_text a_t_read a_t_likes a_t_judged a_t_met a_t_line a_t_image a_t_isKept a_t_had t_points (u.1) t_bytes t_position t_tokenAt t_token t_digits t_number t_row t_isRow t_faultAt t_readMany t_readPoints t_readCases t_suitOne t_suitTwo (u.2) t_weight)) C hw hl (c_Mo_tryDeed l g a_t a_t_one a_t_weight a_t_cost a_t_text a_t_read a_t_likes a_t_judged a_t_met a_t_line a_t_image a_t_isKept a_t_had t_points t_cases t_bytes t_position t_tokenAt t_token t_digits t_number t_row t_isRow t_faultAt t_readMany t_readPoints t_readCases t_suitOne t_suitTwo t_one t_weight x5 _ h) tw_1153 kk_X10_tryDeed rfl ⟨rfl, rfl⟩ ⟨by decide, by decide⟩ (Nat.le_of_ble_eq_true rfl) 0 rfl rfl rfl [0, 1, 2] [] [0, 1, 2] rfl rfl rfl rfl rfl rfl (fun u => rfl) rfl dX10_suit_62 (fun u H locs h hw => ?_)
      obtain ⟨t_cases_2, t_one_3⟩ := u
      have hw : Wd g A s (cs_Mo_suit g a_t a_t_one a_t_weight a_t_cost a_t_text a_t_read a_t_likes a_t_judged a_t_met a_t_line a_t_image a_t_isKept a_t_had t_points t_cases_2 t_bytes t_position t_tokenAt t_token t_digits t_number t_row t_isRow t_faultAt t_readMany t_readPoints t_readCases t_suitOne t_suitTwo t_one_3 t_weight) H locs := hw
      refine lv_iload hx hb dX10_suit_65 (lv_at hl 4 rfl) ?_
      refine lv_iconst (v := 2) hx hb dX10_suit_67 (by decide) ?_
      refine lv_icmp_ne (tgt := 77) hx hb dX10_suit_68 (by decide) (fun c_68 => ?_) (fun c_68 => ?_)
      · have h := h.1 c_68
        exact hB_Mo_suit_77 N_19 hN_19 N_28 hN_28 N_40 hN_40 x3 x4 x5 x6 t_cases_2 t_suitOne t_suitTwo t_one_3 h _ _ _ hw (lv_sub hl [0, 1, 2, 3, 4, 5, 6] rfl)
      · have h := h.2 c_68
        refine lv_aload_n hx hb dX10_suit_71 rfl (lv_at hl 0 rfl) ?_
        refine lv_iload hx hb dX10_suit_72 (lv_at hl 6 rfl) ?_
        refine callVv (As := [.int x6]) (rest := []) (W2 := fun u => (cs_Mo_suit g a_t a_t_one a_t_weight a_t_cost a_t_text a_t_read a_t_likes a_t_judged a_t_met a_t_line a_t_image a_t_isKept a_t_had t_points (u.1) t_bytes t_position t_tokenAt t_token t_digits t_number t_row t_isRow t_faultAt t_readMany t_readPoints t_readCases t_suitOne t_suitTwo (u.2) t_weight)) C hw hl (c_Mo_tryDeed l g a_t a_t_one a_t_weight a_t_cost a_t_text a_t_read a_t_likes a_t_judged a_t_met a_t_line a_t_image a_t_isKept a_t_had t_points t_cases_2 t_bytes t_position t_tokenAt t_token t_digits t_number t_row t_isRow t_faultAt t_readMany t_readPoints t_readCases t_suitOne t_suitTwo t_one_3 t_weight x6 _ h) tw_1153 kk_X10_tryDeed rfl ⟨rfl, rfl⟩ ⟨by decide, by decide⟩ (Nat.le_of_ble_eq_true rfl) 0 rfl rfl rfl [0, 1, 2] [] [0, 1, 2] rfl rfl rfl rfl rfl rfl (fun u => rfl) rfl dX10_suit_74 (fun u H locs h hw => ?_)
        obtain ⟨t_cases_4, t_one_5⟩ := u
        have hw : Wd g A s (cs_Mo_suit g a_t a_t_one a_t_weight a_t_cost a_t_text a_t_read a_t_likes a_t_judged a_t_met a_t_line a_t_image a_t_isKept a_t_had t_points t_cases_4 t_bytes t_position t_tokenAt t_token t_digits t_number t_row t_isRow t_faultAt t_readMany t_readPoints t_readCases t_suitOne t_suitTwo t_one_5 t_weight) H locs := hw
        exact hB_Mo_suit_77 N_19 hN_19 N_28 hN_28 N_40 hN_40 x3 x4 x5 x6 t_cases_4 t_suitOne t_suitTwo t_one_5 h _ _ _ hw (lv_sub hl [0, 1, 2, 3, 4, 5, 6] rfl)
  have hL_Mo_suit_40 : ∀ (N_19 : Int32 → Int32 → Int32 → Int32 → Int32 → (Nat → Int32) → Prop) (hN_19 : ∀ (x3 : Int32) (x4 : Int32) (t_cases : Int32) (t_suitOne : Int32) (t_suitTwo : Int32) (t_one : (Nat → Int32)), N_19 x3 x4 t_cases t_suitOne t_suitTwo t_one → Wat p l e rm_Mo_suit s m args below meth c A Qf g 8 (cs_Mo_suit g a_t a_t_one a_t_weight a_t_cost a_t_text a_t_read a_t_likes a_t_judged a_t_met a_t_line a_t_image a_t_isKept a_t_had t_points t_cases t_bytes t_position t_tokenAt t_token t_digits t_number t_row t_isRow t_faultAt t_readMany t_readPoints t_readCases t_suitOne t_suitTwo t_one t_weight) [(0, .ref a_t), (1, .int x1), (2, .int x2), (3, .int x3), (4, .int x4)] 19 []) (N_28 : Int32 → Int32 → Int32 → Int32 → Int32 → Int32 → (Nat → Int32) → Prop) (hN_28 : ∀ (x3 : Int32) (x4 : Int32) (x5 : Int32) (t_cases : Int32) (t_suitOne : Int32) (t_suitTwo : Int32) (t_one : (Nat → Int32)), N_28 x3 x4 x5 t_cases t_suitOne t_suitTwo t_one → Wat p l e rm_Mo_suit s m args below meth c A Qf g 8 (cs_Mo_suit g a_t a_t_one a_t_weight a_t_cost a_t_text a_t_read a_t_likes a_t_judged a_t_met a_t_line a_t_image a_t_isKept a_t_had t_points t_cases t_bytes t_position t_tokenAt t_token t_digits t_number t_row t_isRow t_faultAt t_readMany t_readPoints t_readCases t_suitOne t_suitTwo t_one t_weight) [(0, .ref a_t), (1, .int x1), (2, .int x2), (3, .int x3), (4, .int x4), (5, .int x5)] 28 []) (n : Nat) (x3 : Int32) (x4 : Int32) (x5 : Int32) (x6 : Int32) (t_cases : Int32) (t_suitOne : Int32) (t_suitTwo : Int32) (t_one : (Nat → Int32)), L_Mo_suit_40 x1 x2 t_points t_weight Q N_19 N_28 n x3 x4 x5 x6 t_cases t_suitOne t_suitTwo t_one → Wat p l e rm_Mo_suit s m args below meth c A Qf g 8 (cs_Mo_suit g a_t a_t_one a_t_weight a_t_cost a_t_text a_t_read a_t_likes a_t_judged a_t_met a_t_line a_t_image a_t_isKept a_t_had t_points t_cases t_bytes t_position t_tokenAt t_token t_digits t_number t_row t_isRow t_faultAt t_readMany t_readPoints t_readCases t_suitOne t_suitTwo t_one t_weight) [(0, .ref a_t), (1, .int x1), (2, .int x2), (3, .int x3), (4, .int x4), (5, .int x5), (6, .int x6)] 40 [] := by
    intro N_19 hN_19 N_28 hN_28 n
    induction n with
    | zero => intro x3 x4 x5 x6 t_cases t_suitOne t_suitTwo t_one h; exact absurd h id
    | succ n ih =>
      intro x3 x4 x5 x6 t_cases t_suitOne t_suitTwo t_one h H locs ls hw hl
      rw [L_Mo_suit_40] at h
      refine lv_iload hx hb dX10_suit_40 (lv_at hl 6 rfl) ?_
      refine lv_iload hx hb dX10_suit_42 (lv_at hl 4 rfl) ?_
      refine lv_iconst (v := 1) hx hb dX10_suit_44 (by decide) ?_
      refine lv_icmp_ne (tgt := 52) hx hb dX10_suit_45 (by decide) (fun c_45 => ?_) (fun c_45 => ?_)
      · have h := h.1 c_45
        refine lv_aload_n hx hb dX10_suit_52 rfl (lv_at hl 0 rfl) ?_
        refine callVi (As := []) (rest := [.int x6]) (W2 := fun _ => (cs_Mo_suit g a_t a_t_one a_t_weight a_t_cost a_t_text a_t_read a_t_likes a_t_judged a_t_met a_t_line a_t_image a_t_isKept a_t_had t_points t_cases t_bytes t_position t_tokenAt t_token t_digits t_number t_row t_isRow t_faultAt t_readMany t_readPoints t_readCases t_suitOne t_suitTwo t_one t_weight)) C hw hl (c_Mo_deedMany l g a_t a_t_weight a_t_cost a_t_one a_t_text a_t_read a_t_likes a_t_judged a_t_met a_t_line a_t_image a_t_isKept a_t_had t_points t_cases t_bytes t_position t_tokenAt t_token t_digits t_number t_row t_isRow t_faultAt t_readMany t_readPoints t_readCases t_suitOne t_suitTwo _ h) tw_1099 kk_X10_deedMany rfl ⟨rfl, rfl⟩ ⟨by decide, by decide⟩ (Nat.le_of_ble_eq_true rfl) 0 rfl rfl rfl [0] [1, 2] [2, 0, 1] rfl rfl rfl rfl rfl rfl (fun u => rfl) rfl dX10_suit_53 (fun r_6 u H locs h hw => ?_)
        exact hB_Mo_suit_56 N_19 hN_19 N_28 hN_28 (L_Mo_suit_40 x1 x2 t_points t_weight Q N_19 N_28 n) ih x3 x4 x5 x6 x6 r_6 t_cases t_suitOne t_suitTwo t_one h _ _ _ hw (lv_sub hl [0, 1, 2, 3, 4, 5, 6] rfl)
      · have h := h.2 c_45
        refine lv_iconst (v := 1) hx hb dX10_suit_48 (by decide) ?_
        refine lv_goto (tgt := 56) hx hb dX10_suit_49 (by decide) ?_
        exact hB_Mo_suit_56 N_19 hN_19 N_28 hN_28 (L_Mo_suit_40 x1 x2 t_points t_weight Q N_19 N_28 n) ih x3 x4 x5 x6 x6 1 t_cases t_suitOne t_suitTwo t_one h _ _ _ hw (lv_sub hl [0, 1, 2, 3, 4, 5, 6] rfl)
  have hL_Mo_suit_28 : ∀ (N_19 : Int32 → Int32 → Int32 → Int32 → Int32 → (Nat → Int32) → Prop) (hN_19 : ∀ (x3 : Int32) (x4 : Int32) (t_cases : Int32) (t_suitOne : Int32) (t_suitTwo : Int32) (t_one : (Nat → Int32)), N_19 x3 x4 t_cases t_suitOne t_suitTwo t_one → Wat p l e rm_Mo_suit s m args below meth c A Qf g 8 (cs_Mo_suit g a_t a_t_one a_t_weight a_t_cost a_t_text a_t_read a_t_likes a_t_judged a_t_met a_t_line a_t_image a_t_isKept a_t_had t_points t_cases t_bytes t_position t_tokenAt t_token t_digits t_number t_row t_isRow t_faultAt t_readMany t_readPoints t_readCases t_suitOne t_suitTwo t_one t_weight) [(0, .ref a_t), (1, .int x1), (2, .int x2), (3, .int x3), (4, .int x4)] 19 []) (n : Nat) (x3 : Int32) (x4 : Int32) (x5 : Int32) (t_cases : Int32) (t_suitOne : Int32) (t_suitTwo : Int32) (t_one : (Nat → Int32)), L_Mo_suit_28 x1 x2 t_points t_weight Q N_19 n x3 x4 x5 t_cases t_suitOne t_suitTwo t_one → Wat p l e rm_Mo_suit s m args below meth c A Qf g 8 (cs_Mo_suit g a_t a_t_one a_t_weight a_t_cost a_t_text a_t_read a_t_likes a_t_judged a_t_met a_t_line a_t_image a_t_isKept a_t_had t_points t_cases t_bytes t_position t_tokenAt t_token t_digits t_number t_row t_isRow t_faultAt t_readMany t_readPoints t_readCases t_suitOne t_suitTwo t_one t_weight) [(0, .ref a_t), (1, .int x1), (2, .int x2), (3, .int x3), (4, .int x4), (5, .int x5)] 28 [] := by
    intro N_19 hN_19 n
    induction n with
    | zero => intro x3 x4 x5 t_cases t_suitOne t_suitTwo t_one h; exact absurd h id
    | succ n ih =>
      intro x3 x4 x5 t_cases t_suitOne t_suitTwo t_one h H locs ls hw hl
      rw [L_Mo_suit_28] at h
      refine lv_iload hx hb dX10_suit_28 (lv_at hl 5 rfl) ?_
      refine lv_aload_n hx hb dX10_suit_30 rfl (lv_at hl 0 rfl) ?_
      refine callVi (As := []) (rest := [.int x5]) (W2 := fun _ => (cs_Mo_suit g a_t a_t_one a_t_weight a_t_cost a_t_text a_t_read a_t_likes a_t_judged a_t_met a_t_line a_t_image a_t_isKept a_t_had t_points t_cases t_bytes t_position t_tokenAt t_token t_digits t_number t_row t_isRow t_faultAt t_readMany t_readPoints t_readCases t_suitOne t_suitTwo t_one t_weight)) C hw hl (c_Mo_deedMany l g a_t a_t_weight a_t_cost a_t_one a_t_text a_t_read a_t_likes a_t_judged a_t_met a_t_line a_t_image a_t_isKept a_t_had t_points t_cases t_bytes t_position t_tokenAt t_token t_digits t_number t_row t_isRow t_faultAt t_readMany t_readPoints t_readCases t_suitOne t_suitTwo _ h) tw_1099 kk_X10_deedMany rfl ⟨rfl, rfl⟩ ⟨by decide, by decide⟩ (Nat.le_of_ble_eq_true rfl) 0 rfl rfl rfl [0] [1, 2] [2, 0, 1] rfl rfl rfl rfl rfl rfl (fun u => rfl) rfl dX10_suit_31 (fun r_7 u H locs h hw => ?_)
      refine lv_icmp_ge (tgt := 130) hx hb dX10_suit_34 (by decide) (fun c_34 => ?_) (fun c_34 => ?_)
      · have h := h.1 c_34
        refine lv_iinc (v := x4 + 1) (lv' := [(4, .int (x4 + 1)), (0, .ref a_t), (1, .int x1), (2, .int x2), (3, .int x3), (5, .int x5)]) hx hb dX10_suit_130 hl (k := 4) rfl rfl (by decide) rfl (fun ls hl => ?_)
        refine lv_goto (tgt := 19) hx hb dX10_suit_133 (by decide) ?_
        exact hN_19 x3 (x4 + 1) t_cases t_suitOne t_suitTwo t_one h _ _ _ hw (lv_sub hl [1, 2, 3, 4, 0] rfl)
      · have h := h.2 c_34
        refine lv_iconst (v := 0) hx hb dX10_suit_37 (by decide) ?_
        refine lv_istore (lv' := [(6, .int 0), (0, .ref a_t), (1, .int x1), (2, .int x2), (3, .int x3), (4, .int x4), (5, .int x5)]) hx hb dX10_suit_38 hl (by decide) rfl (fun ls hl => ?_)
        obtain ⟨n_40, h⟩ := h
        exact hL_Mo_suit_40 N_19 hN_19 (L_Mo_suit_28 x1 x2 t_points t_weight Q N_19 n) ih n_40 x3 x4 x5 0 t_cases t_suitOne t_suitTwo t_one h _ _ _ hw (lv_sub hl [1, 2, 3, 4, 5, 6, 0] rfl)
  have hL_Mo_suit_19 : ∀ (n : Nat) (x3 : Int32) (x4 : Int32) (t_cases : Int32) (t_suitOne : Int32) (t_suitTwo : Int32) (t_one : (Nat → Int32)), L_Mo_suit_19 x1 x2 t_points t_weight Q n x3 x4 t_cases t_suitOne t_suitTwo t_one → Wat p l e rm_Mo_suit s m args below meth c A Qf g 8 (cs_Mo_suit g a_t a_t_one a_t_weight a_t_cost a_t_text a_t_read a_t_likes a_t_judged a_t_met a_t_line a_t_image a_t_isKept a_t_had t_points t_cases t_bytes t_position t_tokenAt t_token t_digits t_number t_row t_isRow t_faultAt t_readMany t_readPoints t_readCases t_suitOne t_suitTwo t_one t_weight) [(0, .ref a_t), (1, .int x1), (2, .int x2), (3, .int x3), (4, .int x4)] 19 [] := by
    intro n
    induction n with
    | zero => intro x3 x4 t_cases t_suitOne t_suitTwo t_one h; exact absurd h id
    | succ n ih =>
      intro x3 x4 t_cases t_suitOne t_suitTwo t_one h H locs ls hw hl
      rw [L_Mo_suit_19] at h
      refine lv_iload hx hb dX10_suit_19 (lv_at hl 4 rfl) ?_
      refine lv_iconst (v := 3) hx hb dX10_suit_21 (by decide) ?_
      refine lv_icmp_ge (tgt := 136) hx hb dX10_suit_22 (by decide) (fun c_22 => ?_) (fun c_22 => ?_)
      · have h := h.1 c_22
        refine lv_iconst (v := (-1)) hx hb dX10_suit_136 (by decide) ?_
        exact hret (t_cases, t_suitOne, t_suitTwo, t_one) h hw dX10_suit_137 rfl
      · have h := h.2 c_22
        refine lv_iconst (v := 0) hx hb dX10_suit_25 (by decide) ?_
        refine lv_istore (lv' := [(5, .int 0), (0, .ref a_t), (1, .int x1), (2, .int x2), (3, .int x3), (4, .int x4)]) hx hb dX10_suit_26 hl (by decide) rfl (fun ls hl => ?_)
        obtain ⟨n_28, h⟩ := h
        exact hL_Mo_suit_28 (L_Mo_suit_19 x1 x2 t_points t_weight Q n) ih n_28 x3 x4 0 t_cases t_suitOne t_suitTwo t_one h _ _ _ hw (lv_sub hl [1, 2, 3, 4, 5, 0] rfl)
  refine lv_aload_n hx hb dX10_suit_0 rfl (lv_at hl 0 rfl) ?_
  refine lv_iload_n hx hb dX10_suit_1 rfl (lv_at hl 1 rfl) ?_
  refine callVi (As := [.int x1]) (rest := []) (W2 := fun _ => (cs_Mo_suit g a_t a_t_one a_t_weight a_t_cost a_t_text a_t_read a_t_likes a_t_judged a_t_met a_t_line a_t_image a_t_isKept a_t_had t_points t_cases t_bytes t_position t_tokenAt t_token t_digits t_number t_row t_isRow t_faultAt t_readMany t_readPoints t_readCases t_suitOne t_suitTwo t_one t_weight)) C hw hl (c_Mo_judgmentAt l g a_t a_t_one a_t_weight a_t_cost a_t_text a_t_read a_t_likes a_t_judged a_t_met a_t_line a_t_image a_t_isKept a_t_had t_points t_cases t_bytes t_position t_tokenAt t_token t_digits t_number t_row t_isRow t_faultAt t_readMany t_readPoints t_readCases t_suitOne t_suitTwo t_one t_weight x1 _ h) tw_1126 kk_X10_judgmentAt rfl ⟨rfl, rfl⟩ ⟨by decide, by decide⟩ (Nat.le_of_ble_eq_true rfl) 0 rfl rfl rfl [0, 1, 2] [] [0, 1, 2] rfl rfl rfl rfl rfl rfl (fun u => rfl) rfl dX10_suit_2 (fun r_8 u H locs h hw => ?_)
  refine lv_iload_n hx hb dX10_suit_5 rfl (lv_at hl 2 rfl) ?_
  refine lv_icmp_ne (tgt := 11) hx hb dX10_suit_6 (by decide) (fun c_6 => ?_) (fun c_6 => ?_)
  · have h := h.1 c_6
    refine lv_aload_n hx hb dX10_suit_11 rfl (lv_at hl 0 rfl) ?_
    refine G_RX10_54 C hw 0 rfl dX10_suit_12 ?_
    refine lv_istore_n (lv' := [(3, .int t_cases), (0, .ref a_t), (1, .int x1), (2, .int x2)]) hx hb dX10_suit_15 rfl hl (by decide) rfl (fun ls hl => ?_)
    refine lv_iconst (v := 1) hx hb dX10_suit_16 (by decide) ?_
    refine lv_istore (lv' := [(4, .int 1), (3, .int t_cases), (0, .ref a_t), (1, .int x1), (2, .int x2)]) hx hb dX10_suit_17 hl (by decide) rfl (fun ls hl => ?_)
    obtain ⟨n_19, h⟩ := h
    exact hL_Mo_suit_19 n_19 t_cases 1 t_cases t_suitOne t_suitTwo t_one h _ _ _ hw (lv_sub hl [2, 3, 4, 1, 0] rfl)
  · have h := h.2 c_6
    refine lv_iconst (v := 0) hx hb dX10_suit_9 (by decide) ?_
    exact hret (t_cases, t_suitOne, t_suitTwo, t_one) h hw dX10_suit_10 rfl
def B_Mo_suits_20 (x1 : Int32) (x2 : Int32) (x3 : Int32) (t_points : Int32) (t_weight : (Nat → Int32)) (Q : Int32 → Int32 → Int32 → Int32 → (Nat → Int32) → Prop) (t_cases : Int32) (t_suitOne : Int32) (t_suitTwo : Int32) (t_one : (Nat → Int32)) : Prop := Q (-3) t_cases t_suitOne t_suitTwo t_one
def B_Mo_suits_39 (x1 : Int32) (x2 : Int32) (x3 : Int32) (t_points : Int32) (t_weight : (Nat → Int32)) (Q : Int32 → Int32 → Int32 → Int32 → (Nat → Int32) → Prop) (t_cases : Int32) (t_suitOne : Int32) (t_suitTwo : Int32) (t_one : (Nat → Int32)) : Prop := Q (-4) t_cases t_suitOne t_suitTwo t_one
def B_Mo_suits_85 (x1 : Int32) (x2 : Int32) (x3 : Int32) (t_points : Int32) (t_weight : (Nat → Int32)) (Q : Int32 → Int32 → Int32 → Int32 → (Nat → Int32) → Prop) (k0 : Int32) (t_cases : Int32) (t_suitOne : Int32) (t_suitTwo : Int32) (t_one : (Nat → Int32)) : Prop := Q k0 t_cases t_suitOne t_suitTwo t_one
def P_Mo_suits (x1 : Int32) (x2 : Int32) (x3 : Int32) (t_points : Int32) (t_cases : Int32) (t_suitOne : Int32) (t_suitTwo : Int32) (t_one : (Nat → Int32)) (t_weight : (Nat → Int32)) (Q : Int32 → Int32 → Int32 → Int32 → (Nat → Int32) → Prop) : Prop := P_Mo_isDeed x1 t_points (fun r_1 => (r_1 = 0 → B_Mo_suits_20 x1 x2 x3 t_points t_weight Q t_cases t_suitOne t_suitTwo t_one) ∧ (¬ r_1 = 0 → P_Mo_isJudgment x2 (fun r_2 => (r_2 = 0 → B_Mo_suits_20 x1 x2 x3 t_points t_weight Q t_cases t_suitOne t_suitTwo t_one) ∧ (¬ r_2 = 0 → ((-1) ≤ x3 → (6 < t_points → B_Mo_suits_39 x1 x2 x3 t_points t_weight Q t_cases t_suitOne t_suitTwo t_one) ∧ (¬ 6 < t_points → (¬ t_cases = 0 → P_Mo_suit x1 x2 t_points t_cases t_suitOne t_suitTwo t_one t_weight (fun r_3 t_cases_4 t_suitOne_5 t_suitTwo_6 t_one_7 => (¬ x3 = (-1) → (x3 < r_3 → (¬ x3 = 0 → B_Mo_suits_85 x1 x2 x3 t_points t_weight Q t_suitTwo_6 t_cases_4 t_suitOne_5 t_suitTwo_6 t_one_7) ∧ (x3 = 0 → B_Mo_suits_85 x1 x2 x3 t_points t_weight Q t_suitOne_5 t_cases_4 t_suitOne_5 t_suitTwo_6 t_one_7)) ∧ (¬ x3 < r_3 → B_Mo_suits_85 x1 x2 x3 t_points t_weight Q (-1) t_cases_4 t_suitOne_5 t_suitTwo_6 t_one_7)) ∧ (x3 = (-1) → B_Mo_suits_85 x1 x2 x3 t_points t_weight Q r_3 t_cases_4 t_suitOne_5 t_suitTwo_6 t_one_7))) ∧ (t_cases = 0 → B_Mo_suits_39 x1 x2 x3 t_points t_weight Q t_cases t_suitOne t_suitTwo t_one))) ∧ (¬ (-1) ≤ x3 → B_Mo_suits_20 x1 x2 x3 t_points t_weight Q t_cases t_suitOne t_suitTwo t_one)))))
abbrev rm_Mo_suits : Room := { frames := 6, cells := 0, slots := 0, locals := 142 }
def cs_Mo_suits (g : GE) (a_t a_t_one a_t_weight a_t_cost a_t_text a_t_read a_t_likes a_t_judged a_t_met a_t_line a_t_image a_t_isKept a_t_had : Nat) (t_points : Int32) (t_cases : Int32) (t_bytes : Int32) (t_position : Int32) (t_tokenAt : Int32) (t_token : Int64) (t_digits : Int32) (t_number : Int32) (t_row : Int32) (t_isRow : Int32) (t_faultAt : Int32) (t_readMany : Int32) (t_readPoints : Int32) (t_readCases : Int32) (t_suitOne : Int32) (t_suitTwo : Int32) (t_one : (Nat → Int32)) (t_weight : (Nat → Int32)) : va_W := [oc a_t 10 [.int t_points, .ref a_t_weight, .ref a_t_cost, .int t_cases, .ref a_t_one, .int t_bytes, .ref a_t_text, .int t_position, .int t_tokenAt, .long t_token, .int t_digits, .int t_number, .int t_row, .int t_isRow, .int t_faultAt, .int t_readMany, .int t_readPoints, .int t_readCases, .ref a_t_read, .ref a_t_likes, .ref a_t_judged, .ref a_t_met, .ref a_t_line, .ref a_t_image, .ref a_t_isKept, .int t_suitOne, .int t_suitTwo, .ref a_t_had], ai g a_t_one 56 t_one, ai g a_t_weight 10 t_weight]
set_option maxHeartbeats 4000000 in
set_option maxRecDepth 100000 in
theorem c_Mo_suits (l : Launch) (g : GE) (a_t a_t_one a_t_weight a_t_cost a_t_text a_t_read a_t_likes a_t_judged a_t_met a_t_line a_t_image a_t_isKept a_t_had : Nat) (t_points : Int32) (t_cases : Int32) (t_bytes : Int32) (t_position : Int32) (t_tokenAt : Int32) (t_token : Int64) (t_digits : Int32) (t_number : Int32) (t_row : Int32) (t_isRow : Int32) (t_faultAt : Int32) (t_readMany : Int32) (t_readPoints : Int32) (t_readCases : Int32) (t_suitOne : Int32) (t_suitTwo : Int32) (t_one : (Nat → Int32)) (t_weight : (Nat → Int32)) (x1 : Int32) (x2 : Int32) (x3 : Int32) (Q : Int32 → Int32 → Int32 → Int32 → (Nat → Int32) → Prop) (h : P_Mo_suits x1 x2 x3 t_points t_cases t_suitOne t_suitTwo t_one t_weight Q) : Cti l g yX10_suits cX10_suits 5 (some .int) rm_Mo_suits [.ref a_t, .int x1, .int x2, .int x3] (cs_Mo_suits g a_t a_t_one a_t_weight a_t_cost a_t_text a_t_read a_t_likes a_t_judged a_t_met a_t_line a_t_image a_t_isKept a_t_had t_points t_cases t_bytes t_position t_tokenAt t_token t_digits t_number t_row t_isRow t_faultAt t_readMany t_readPoints t_readCases t_suitOne t_suitTwo t_one t_weight) (S := Int32 × Int32 × Int32 × (Nat → Int32)) (fun r u => Q r u.1 u.2.1 u.2.2.1 u.2.2.2) (fun u => (cs_Mo_suits g a_t a_t_one a_t_weight a_t_cost a_t_text a_t_read a_t_likes a_t_judged a_t_met a_t_line a_t_image a_t_isKept a_t_had t_points (u.1) t_bytes t_position t_tokenAt t_token t_digits t_number t_row t_isRow t_faultAt t_readMany t_readPoints t_readCases (u.2.1) (u.2.2.1) (u.2.2.2) t_weight)) := by
  refine meetI rfl (Nat.le_of_ble_eq_true rfl) ⟨rfl, rfl⟩ ?_
  intro p e s m args below meth c A Qf ls C hret hw hl
  have hx := C.1
  have hb := C.2.1
  have hown := C.2.2.2.1
  have hts := C.2.2.2.2.1
  have hE := C.2.2.2.2.2.1
  have hl : lv_has ls 5 [(0, .ref a_t), (1, .int x1), (2, .int x2), (3, .int x3)] := hl
  have hB_Mo_suits_20 : ∀ (t_cases : Int32) (t_suitOne : Int32) (t_suitTwo : Int32) (t_one : (Nat → Int32)), B_Mo_suits_20 x1 x2 x3 t_points t_weight Q t_cases t_suitOne t_suitTwo t_one → Wat p l e rm_Mo_suits s m args below meth c A Qf g 5 (cs_Mo_suits g a_t a_t_one a_t_weight a_t_cost a_t_text a_t_read a_t_likes a_t_judged a_t_met a_t_line a_t_image a_t_isKept a_t_had t_points t_cases t_bytes t_position t_tokenAt t_token t_digits t_number t_row t_isRow t_faultAt t_readMany t_readPoints t_readCases t_suitOne t_suitTwo t_one t_weight) [] 20 [] := by
    intro t_cases t_suitOne t_suitTwo t_one h H locs ls hw hl
    refine lv_bipush (v := (-3)) hx hb dX10_suits_20 (by decide) ?_
    exact hret (t_cases, t_suitOne, t_suitTwo, t_one) h hw dX10_suits_22 rfl
  have hB_Mo_suits_39 : ∀ (t_cases : Int32) (t_suitOne : Int32) (t_suitTwo : Int32) (t_one : (Nat → Int32)), B_Mo_suits_39 x1 x2 x3 t_points t_weight Q t_cases t_suitOne t_suitTwo t_one → Wat p l e rm_Mo_suits s m args below meth c A Qf g 5 (cs_Mo_suits g a_t a_t_one a_t_weight a_t_cost a_t_text a_t_read a_t_likes a_t_judged a_t_met a_t_line a_t_image a_t_isKept a_t_had t_points t_cases t_bytes t_position t_tokenAt t_token t_digits t_number t_row t_isRow t_faultAt t_readMany t_readPoints t_readCases t_suitOne t_suitTwo t_one t_weight) [] 39 [] := by
    intro t_cases t_suitOne t_suitTwo t_one h H locs ls hw hl
    refine lv_bipush (v := (-4)) hx hb dX10_suits_39 (by decide) ?_
    exact hret (t_cases, t_suitOne, t_suitTwo, t_one) h hw dX10_suits_41 rfl
  have hB_Mo_suits_85 : ∀ (k0 : Int32) (t_cases : Int32) (t_suitOne : Int32) (t_suitTwo : Int32) (t_one : (Nat → Int32)), B_Mo_suits_85 x1 x2 x3 t_points t_weight Q k0 t_cases t_suitOne t_suitTwo t_one → Wat p l e rm_Mo_suits s m args below meth c A Qf g 5 (cs_Mo_suits g a_t a_t_one a_t_weight a_t_cost a_t_text a_t_read a_t_likes a_t_judged a_t_met a_t_line a_t_image a_t_isKept a_t_had t_points t_cases t_bytes t_position t_tokenAt t_token t_digits t_number t_row t_isRow t_faultAt t_readMany t_readPoints t_readCases t_suitOne t_suitTwo t_one t_weight) [] 85 [.int k0] := by
    intro k0 t_cases t_suitOne t_suitTwo t_one h H locs ls hw hl
    exact hret (t_cases, t_suitOne, t_suitTwo, t_one) h hw dX10_suits_85 rfl
  refine lv_aload_n hx hb dX10_suits_0 rfl (lv_at hl 0 rfl) ?_
  refine lv_iload_n hx hb dX10_suits_1 rfl (lv_at hl 1 rfl) ?_
  refine callVi (As := [.int x1]) (rest := []) (W2 := fun _ => (cs_Mo_suits g a_t a_t_one a_t_weight a_t_cost a_t_text a_t_read a_t_likes a_t_judged a_t_met a_t_line a_t_image a_t_isKept a_t_had t_points t_cases t_bytes t_position t_tokenAt t_token t_digits t_number t_row t_isRow t_faultAt t_readMany t_readPoints t_readCases t_suitOne t_suitTwo t_one t_weight)) C hw hl (c_Mo_isDeed l g a_t a_t_weight a_t_cost a_t_one a_t_text a_t_read a_t_likes a_t_judged a_t_met a_t_line a_t_image a_t_isKept a_t_had t_points t_cases t_bytes t_position t_tokenAt t_token t_digits t_number t_row t_isRow t_faultAt t_readMany t_readPoints t_readCases t_suitOne t_suitTwo x1 _ h) tw_1095 kk_X10_isDeed rfl ⟨rfl, rfl⟩ ⟨by decide, by decide⟩ (Nat.le_of_ble_eq_true rfl) 0 rfl rfl rfl [0] [1, 2] [2, 0, 1] rfl rfl rfl rfl rfl rfl (fun u => rfl) rfl dX10_suits_2 (fun r_1 u H locs h hw => ?_)
  refine lv_if_eq (tgt := 20) hx hb dX10_suits_5 (by decide) (fun c_5 => ?_) (fun c_5 => ?_)
  · have h := h.1 c_5
    exact hB_Mo_suits_20 t_cases t_suitOne t_suitTwo t_one h _ _ _ hw (lv_sub hl [] rfl)
  · have h := h.2 c_5
    refine lv_iload_n hx hb dX10_suits_8 rfl (lv_at hl 2 rfl) ?_
    refine callSi (As := [.int x2]) (rest := []) C hw hl (c_Mo_isJudgment l g x2 _ h) tw_1138 kk_X10_isJudgment rfl ⟨rfl, rfl⟩ ⟨by decide, by decide⟩ (Nat.le_of_ble_eq_true rfl) rfl dX10_suits_9 (fun r_2 u H locs h hw => ?_)
    refine lv_if_eq (tgt := 20) hx hb dX10_suits_12 (by decide) (fun c_12 => ?_) (fun c_12 => ?_)
    · have h := h.1 c_12
      exact hB_Mo_suits_20 t_cases t_suitOne t_suitTwo t_one h _ _ _ hw (lv_sub hl [] rfl)
    · have h := h.2 c_12
      refine lv_iload_n hx hb dX10_suits_15 rfl (lv_at hl 3 rfl) ?_
      refine lv_iconst (v := (-1)) hx hb dX10_suits_16 (by decide) ?_
      refine lv_icmp_ge (tgt := 23) hx hb dX10_suits_17 (by decide) (fun c_17 => ?_) (fun c_17 => ?_)
      · have h := h.1 c_17
        refine lv_aload_n hx hb dX10_suits_23 rfl (lv_at hl 0 rfl) ?_
        refine G_RX10_7 C hw 0 rfl dX10_suits_24 ?_
        refine lv_bipush (v := 6) hx hb dX10_suits_27 (by decide) ?_
        refine lv_icmp_gt (tgt := 39) hx hb dX10_suits_29 (by decide) (fun c_29 => ?_) (fun c_29 => ?_)
        · have h := h.1 c_29
          exact hB_Mo_suits_39 t_cases t_suitOne t_suitTwo t_one h _ _ _ hw (lv_sub hl [] rfl)
        · have h := h.2 c_29
          refine lv_aload_n hx hb dX10_suits_32 rfl (lv_at hl 0 rfl) ?_
          refine G_RX10_54 C hw 0 rfl dX10_suits_33 ?_
          refine lv_if_ne (tgt := 42) hx hb dX10_suits_36 (by decide) (fun c_36 => ?_) (fun c_36 => ?_)
          · have h := h.1 c_36
            refine lv_aload_n hx hb dX10_suits_42 rfl (lv_at hl 0 rfl) ?_
            refine lv_iload_n hx hb dX10_suits_43 rfl (lv_at hl 1 rfl) ?_
            refine lv_iload_n hx hb dX10_suits_44 rfl (lv_at hl 2 rfl) ?_
            refine callVi (As := [.int x1, .int x2]) (rest := []) (W2 := fun u => (cs_Mo_suits g a_t a_t_one a_t_weight a_t_cost a_t_text a_t_read a_t_likes a_t_judged a_t_met a_t_line a_t_image a_t_isKept a_t_had t_points (u.1) t_bytes t_position t_tokenAt t_token t_digits t_number t_row t_isRow t_faultAt t_readMany t_readPoints t_readCases (u.2.1) (u.2.2.1) (u.2.2.2) t_weight)) C hw hl (c_Mo_suit l g a_t a_t_one a_t_weight a_t_cost a_t_text a_t_read a_t_likes a_t_judged a_t_met a_t_line a_t_image a_t_isKept a_t_had t_points t_cases t_bytes t_position t_tokenAt t_token t_digits t_number t_row t_isRow t_faultAt t_readMany t_readPoints t_readCases t_suitOne t_suitTwo t_one t_weight x1 x2 _ h) tw_1149 kk_X10_suit rfl ⟨rfl, rfl⟩ ⟨by decide, by decide⟩ (Nat.le_of_ble_eq_true rfl) 0 rfl rfl rfl [0, 1, 2] [] [0, 1, 2] rfl rfl rfl rfl rfl rfl (fun u => rfl) rfl dX10_suits_45 (fun r_3 u H locs h hw => ?_)
            obtain ⟨t_cases_4, t_suitOne_5, t_suitTwo_6, t_one_7⟩ := u
            have hw : Wd g A s (cs_Mo_suits g a_t a_t_one a_t_weight a_t_cost a_t_text a_t_read a_t_likes a_t_judged a_t_met a_t_line a_t_image a_t_isKept a_t_had t_points t_cases_4 t_bytes t_position t_tokenAt t_token t_digits t_number t_row t_isRow t_faultAt t_readMany t_readPoints t_readCases t_suitOne_5 t_suitTwo_6 t_one_7 t_weight) H locs := hw
            refine lv_istore (lv' := [(4, .int r_3), (0, .ref a_t), (1, .int x1), (2, .int x2), (3, .int x3)]) hx hb dX10_suits_48 hl (by decide) rfl (fun ls hl => ?_)
            refine lv_iload_n hx hb dX10_suits_50 rfl (lv_at hl 4 rfl) ?_
            refine lv_iconst (v := (-1)) hx hb dX10_suits_51 (by decide) ?_
            refine lv_icmp_ne (tgt := 60) hx hb dX10_suits_52 (by decide) (fun c_52 => ?_) (fun c_52 => ?_)
            · have h := h.1 c_52
              refine lv_iload_n hx hb dX10_suits_60 rfl (lv_at hl 4 rfl) ?_
              refine lv_iload hx hb dX10_suits_61 (lv_at hl 0 rfl) ?_
              refine lv_icmp_lt (tgt := 70) hx hb dX10_suits_63 (by decide) (fun c_63 => ?_) (fun c_63 => ?_)
              · have h := h.1 c_63
                refine lv_iload_n hx hb dX10_suits_70 rfl (lv_at hl 4 rfl) ?_
                refine lv_if_ne (tgt := 81) hx hb dX10_suits_71 (by decide) (fun c_71 => ?_) (fun c_71 => ?_)
                · have h := h.1 c_71
                  refine lv_aload_n hx hb dX10_suits_81 rfl (lv_at hl 1 rfl) ?_
                  refine G_RX10_205 C hw 0 rfl dX10_suits_82 ?_
                  exact hB_Mo_suits_85 t_suitTwo_6 t_cases_4 t_suitOne_5 t_suitTwo_6 t_one_7 h _ _ _ hw (lv_sub hl [] rfl)
                · have h := h.2 c_71
                  refine lv_aload_n hx hb dX10_suits_74 rfl (lv_at hl 1 rfl) ?_
                  refine G_RX10_202 C hw 0 rfl dX10_suits_75 ?_
                  refine lv_goto (tgt := 85) hx hb dX10_suits_78 (by decide) ?_
                  exact hB_Mo_suits_85 t_suitOne_5 t_cases_4 t_suitOne_5 t_suitTwo_6 t_one_7 h _ _ _ hw (lv_sub hl [] rfl)
              · have h := h.2 c_63
                refine lv_iconst (v := (-1)) hx hb dX10_suits_66 (by decide) ?_
                refine lv_goto (tgt := 85) hx hb dX10_suits_67 (by decide) ?_
                exact hB_Mo_suits_85 (-1) t_cases_4 t_suitOne_5 t_suitTwo_6 t_one_7 h _ _ _ hw (lv_sub hl [] rfl)
            · have h := h.2 c_52
              refine lv_iload hx hb dX10_suits_55 (lv_at hl 0 rfl) ?_
              refine lv_goto (tgt := 85) hx hb dX10_suits_57 (by decide) ?_
              exact hB_Mo_suits_85 r_3 t_cases_4 t_suitOne_5 t_suitTwo_6 t_one_7 h _ _ _ hw (lv_sub hl [] rfl)
          · have h := h.2 c_36
            exact hB_Mo_suits_39 t_cases t_suitOne t_suitTwo t_one h _ _ _ hw (lv_sub hl [] rfl)
      · have h := h.2 c_17
        exact hB_Mo_suits_20 t_cases t_suitOne t_suitTwo t_one h _ _ _ hw (lv_sub hl [] rfl)
def B_Mo_doesTurn_82 (x1 : Int32) (x2 : Int32) (x3 : Int32) (t_points : Int32) (t_weight : (Nat → Int32)) (Q : Int32 → Int32 → (Nat → Int32) → Prop) (x4 : Int32) (x5 : Int32) (t_cases : Int32) (t_one : (Nat → Int32)) : Prop := narrow .boolean (.int x5) = .int x5 ∧ Q x5 x4 t_one
def B_Mo_doesTurn_64 (x1 : Int32) (x2 : Int32) (x3 : Int32) (t_points : Int32) (t_weight : (Nat → Int32)) (Q : Int32 → Int32 → (Nat → Int32) → Prop) (N_30 : Int32 → Int32 → Int32 → Int32 → (Nat → Int32) → Prop) (x4 : Int32) (x6 : Int32) (k0 : Int32) (t_cases : Int32) (t_one : (Nat → Int32)) : Prop := ∀ t_cases_1 : Int32, t_cases_1 = (t_cases - 1) → N_30 x4 k0 (x6 + 1) t_cases_1 t_one
def L_Mo_doesTurn_30 (x1 : Int32) (x2 : Int32) (x3 : Int32) (t_points : Int32) (t_weight : (Nat → Int32)) (Q : Int32 → Int32 → (Nat → Int32) → Prop) : Nat → Int32 → Int32 → Int32 → Int32 → (Nat → Int32) → Prop
  | 0 => fun _ _ _ _ _ => False
  | n + 1 => fun x4 x5 x6 t_cases t_one => P_Mo_deedMany t_points (fun r_2 => (r_2 ≤ x6 → B_Mo_doesTurn_82 x1 x2 x3 t_points t_weight Q x4 x5 t_cases t_one) ∧ (¬ r_2 ≤ x6 → (x5 = 0 → B_Mo_doesTurn_82 x1 x2 x3 t_points t_weight Q x4 x5 t_cases t_one) ∧ (¬ x5 = 0 → P_Mo_tryDeed x6 t_points t_cases t_one t_weight (fun t_cases_3 t_one_4 => P_Mo_judgmentAt x1 t_points t_cases_3 t_one_4 t_weight (fun r_5 => (¬ r_5 = x2 → B_Mo_doesTurn_64 x1 x2 x3 t_points t_weight Q (L_Mo_doesTurn_30 x1 x2 x3 t_points t_weight Q n) x4 x6 0 t_cases_3 t_one_4) ∧ (r_5 = x2 → B_Mo_doesTurn_64 x1 x2 x3 t_points t_weight Q (L_Mo_doesTurn_30 x1 x2 x3 t_points t_weight Q n) x4 x6 1 t_cases_3 t_one_4))))))
def B_Mo_doesTurn_25 (x1 : Int32) (x2 : Int32) (x3 : Int32) (t_points : Int32) (t_weight : (Nat → Int32)) (Q : Int32 → Int32 → (Nat → Int32) → Prop) (x4 : Int32) (k0 : Int32) (t_cases : Int32) (t_one : (Nat → Int32)) : Prop := ∃ n_30 : Nat, L_Mo_doesTurn_30 x1 x2 x3 t_points t_weight Q n_30 x4 k0 0 t_cases t_one
def P_Mo_doesTurn (x1 : Int32) (x2 : Int32) (x3 : Int32) (t_points : Int32) (t_cases : Int32) (t_one : (Nat → Int32)) (t_weight : (Nat → Int32)) (Q : Int32 → Int32 → (Nat → Int32) → Prop) : Prop := P_Mo_tryDeed x3 t_points t_cases t_one t_weight (fun t_cases_6 t_one_7 => P_Mo_judgmentAt x1 t_points t_cases_6 t_one_7 t_weight (fun r_8 => (¬ r_8 = x2 → B_Mo_doesTurn_25 x1 x2 x3 t_points t_weight Q t_cases 0 t_cases_6 t_one_7) ∧ (r_8 = x2 → B_Mo_doesTurn_25 x1 x2 x3 t_points t_weight Q t_cases 1 t_cases_6 t_one_7)))
abbrev rm_Mo_doesTurn : Room := { frames := 5, cells := 0, slots := 0, locals := 115 }
def cs_Mo_doesTurn (g : GE) (a_t a_t_one a_t_weight a_t_cost a_t_text a_t_read a_t_likes a_t_judged a_t_met a_t_line a_t_image a_t_isKept a_t_had : Nat) (t_points : Int32) (t_cases : Int32) (t_bytes : Int32) (t_position : Int32) (t_tokenAt : Int32) (t_token : Int64) (t_digits : Int32) (t_number : Int32) (t_row : Int32) (t_isRow : Int32) (t_faultAt : Int32) (t_readMany : Int32) (t_readPoints : Int32) (t_readCases : Int32) (t_suitOne : Int32) (t_suitTwo : Int32) (t_one : (Nat → Int32)) (t_weight : (Nat → Int32)) : va_W := [oc a_t 10 [.int t_points, .ref a_t_weight, .ref a_t_cost, .int t_cases, .ref a_t_one, .int t_bytes, .ref a_t_text, .int t_position, .int t_tokenAt, .long t_token, .int t_digits, .int t_number, .int t_row, .int t_isRow, .int t_faultAt, .int t_readMany, .int t_readPoints, .int t_readCases, .ref a_t_read, .ref a_t_likes, .ref a_t_judged, .ref a_t_met, .ref a_t_line, .ref a_t_image, .ref a_t_isKept, .int t_suitOne, .int t_suitTwo, .ref a_t_had], ai g a_t_one 56 t_one, ai g a_t_weight 10 t_weight]
set_option maxHeartbeats 4000000 in
set_option maxRecDepth 100000 in
theorem c_Mo_doesTurn (l : Launch) (g : GE) (a_t a_t_one a_t_weight a_t_cost a_t_text a_t_read a_t_likes a_t_judged a_t_met a_t_line a_t_image a_t_isKept a_t_had : Nat) (t_points : Int32) (t_cases : Int32) (t_bytes : Int32) (t_position : Int32) (t_tokenAt : Int32) (t_token : Int64) (t_digits : Int32) (t_number : Int32) (t_row : Int32) (t_isRow : Int32) (t_faultAt : Int32) (t_readMany : Int32) (t_readPoints : Int32) (t_readCases : Int32) (t_suitOne : Int32) (t_suitTwo : Int32) (t_one : (Nat → Int32)) (t_weight : (Nat → Int32)) (x1 : Int32) (x2 : Int32) (x3 : Int32) (Q : Int32 → Int32 → (Nat → Int32) → Prop) (h : P_Mo_doesTurn x1 x2 x3 t_points t_cases t_one t_weight Q) : Cti l g yX10_doesTurn cX10_doesTurn 7 (some .boolean) rm_Mo_doesTurn [.ref a_t, .int x1, .int x2, .int x3] (cs_Mo_doesTurn g a_t a_t_one a_t_weight a_t_cost a_t_text a_t_read a_t_likes a_t_judged a_t_met a_t_line a_t_image a_t_isKept a_t_had t_points t_cases t_bytes t_position t_tokenAt t_token t_digits t_number t_row t_isRow t_faultAt t_readMany t_readPoints t_readCases t_suitOne t_suitTwo t_one t_weight) (S := Int32 × (Nat → Int32)) (fun r u => Q r u.1 u.2) (fun u => (cs_Mo_doesTurn g a_t a_t_one a_t_weight a_t_cost a_t_text a_t_read a_t_likes a_t_judged a_t_met a_t_line a_t_image a_t_isKept a_t_had t_points (u.1) t_bytes t_position t_tokenAt t_token t_digits t_number t_row t_isRow t_faultAt t_readMany t_readPoints t_readCases t_suitOne t_suitTwo (u.2) t_weight)) := by
  refine meetI rfl (Nat.le_of_ble_eq_true rfl) ⟨rfl, rfl⟩ ?_
  intro p e s m args below meth c A Qf ls C hret hw hl
  have hx := C.1
  have hb := C.2.1
  have hown := C.2.2.2.1
  have hts := C.2.2.2.2.1
  have hE := C.2.2.2.2.2.1
  have hl : lv_has ls 7 [(0, .ref a_t), (1, .int x1), (2, .int x2), (3, .int x3)] := hl
  have hB_Mo_doesTurn_82 : ∀ (x4 : Int32) (x5 : Int32) (t_cases : Int32) (t_one : (Nat → Int32)), B_Mo_doesTurn_82 x1 x2 x3 t_points t_weight Q x4 x5 t_cases t_one → Wat p l e rm_Mo_doesTurn s m args below meth c A Qf g 7 (cs_Mo_doesTurn g a_t a_t_one a_t_weight a_t_cost a_t_text a_t_read a_t_likes a_t_judged a_t_met a_t_line a_t_image a_t_isKept a_t_had t_points t_cases t_bytes t_position t_tokenAt t_token t_digits t_number t_row t_isRow t_faultAt t_readMany t_readPoints t_readCases t_suitOne t_suitTwo t_one t_weight) [(0, .ref a_t), (4, .int x4), (5, .int x5)] 82 [] := by
    intro x4 x5 t_cases t_one h H locs ls hw hl
    refine lv_aload_n hx hb dX10_doesTurn_82 rfl (lv_at hl 0 rfl) ?_
    refine lv_iload hx hb dX10_doesTurn_83 (lv_at hl 1 rfl) ?_
    refine U_RX10_54 (ws2 := (cs_Mo_doesTurn g a_t a_t_one a_t_weight a_t_cost a_t_text a_t_read a_t_likes a_t_judged a_t_met a_t_line a_t_image a_t_isKept a_t_had t_points x4 t_bytes t_position t_tokenAt t_token t_digits t_number t_row t_isRow t_faultAt t_readMany t_readPoints t_readCases t_suitOne t_suitTwo t_one t_weight)) C hw 0 rfl rfl rfl rfl dX10_doesTurn_85 (fun H locs hw => ?_)
    refine lv_iload hx hb dX10_doesTurn_88 (lv_at hl 2 rfl) ?_
    exact hret (x4, t_one) h.2 hw dX10_doesTurn_90 h.1
  have hB_Mo_doesTurn_64 : ∀ (N_30 : Int32 → Int32 → Int32 → Int32 → (Nat → Int32) → Prop) (hN_30 : ∀ (x4 : Int32) (x5 : Int32) (x6 : Int32) (t_cases : Int32) (t_one : (Nat → Int32)), N_30 x4 x5 x6 t_cases t_one → Wat p l e rm_Mo_doesTurn s m args below meth c A Qf g 7 (cs_Mo_doesTurn g a_t a_t_one a_t_weight a_t_cost a_t_text a_t_read a_t_likes a_t_judged a_t_met a_t_line a_t_image a_t_isKept a_t_had t_points t_cases t_bytes t_position t_tokenAt t_token t_digits t_number t_row t_isRow t_faultAt t_readMany t_readPoints t_readCases t_suitOne t_suitTwo t_one t_weight) [(0, .ref a_t), (1, .int x1), (2, .int x2), (4, .int x4), (5, .int x5), (6, .int x6)] 30 []) (x4 : Int32) (x6 : Int32) (k0 : Int32) (t_cases : Int32) (t_one : (Nat → Int32)), B_Mo_doesTurn_64 x1 x2 x3 t_points t_weight Q N_30 x4 x6 k0 t_cases t_one → Wat p l e rm_Mo_doesTurn s m args below meth c A Qf g 7 (cs_Mo_doesTurn g a_t a_t_one a_t_weight a_t_cost a_t_text a_t_read a_t_likes a_t_judged a_t_met a_t_line a_t_image a_t_isKept a_t_had t_points t_cases t_bytes t_position t_tokenAt t_token t_digits t_number t_row t_isRow t_faultAt t_readMany t_readPoints t_readCases t_suitOne t_suitTwo t_one t_weight) [(0, .ref a_t), (1, .int x1), (2, .int x2), (4, .int x4), (6, .int x6)] 64 [.int k0] := by
    intro N_30 hN_30 x4 x6 k0 t_cases t_one h H locs ls hw hl
    refine lv_istore (lv' := [(5, .int k0), (0, .ref a_t), (1, .int x1), (2, .int x2), (4, .int x4), (6, .int x6)]) hx hb dX10_doesTurn_64 hl (by decide) rfl (fun ls hl => ?_)
    refine lv_aload_n hx hb dX10_doesTurn_66 rfl (lv_at hl 1 rfl) ?_
    refine lv_dup hx hb dX10_doesTurn_67 rfl ?_
    refine G_RX10_54 C hw 0 rfl dX10_doesTurn_68 ?_
    refine lv_iconst (v := 1) hx hb dX10_doesTurn_71 (by decide) ?_
    refine lv_isub hx hb dX10_doesTurn_72 ?_
    refine lv_topi (fun t_cases_1 et_cases_1 => ?_)
    have h := h t_cases_1 et_cases_1
    refine U_RX10_54 (ws2 := (cs_Mo_doesTurn g a_t a_t_one a_t_weight a_t_cost a_t_text a_t_read a_t_likes a_t_judged a_t_met a_t_line a_t_image a_t_isKept a_t_had t_points t_cases_1 t_bytes t_position t_tokenAt t_token t_digits t_number t_row t_isRow t_faultAt t_readMany t_readPoints t_readCases t_suitOne t_suitTwo t_one t_weight)) C hw 0 rfl rfl rfl rfl dX10_doesTurn_73 (fun H locs hw => ?_)
    refine lv_iinc (v := x6 + 1) (lv' := [(6, .int (x6 + 1)), (5, .int k0), (0, .ref a_t), (1, .int x1), (2, .int x2), (4, .int x4)]) hx hb dX10_doesTurn_76 hl (k := 5) rfl rfl (by decide) rfl (fun ls hl => ?_)
    refine lv_goto (tgt := 30) hx hb dX10_doesTurn_79 (by decide) ?_
    exact hN_30 x4 k0 (x6 + 1) t_cases_1 t_one h _ _ _ hw (lv_sub hl [2, 3, 4, 5, 1, 0] rfl)
  have hL_Mo_doesTurn_30 : ∀ (n : Nat) (x4 : Int32) (x5 : Int32) (x6 : Int32) (t_cases : Int32) (t_one : (Nat → Int32)), L_Mo_doesTurn_30 x1 x2 x3 t_points t_weight Q n x4 x5 x6 t_cases t_one → Wat p l e rm_Mo_doesTurn s m args below meth c A Qf g 7 (cs_Mo_doesTurn g a_t a_t_one a_t_weight a_t_cost a_t_text a_t_read a_t_likes a_t_judged a_t_met a_t_line a_t_image a_t_isKept a_t_had t_points t_cases t_bytes t_position t_tokenAt t_token t_digits t_number t_row t_isRow t_faultAt t_readMany t_readPoints t_readCases t_suitOne t_suitTwo t_one t_weight) [(0, .ref a_t), (1, .int x1), (2, .int x2), (4, .int x4), (5, .int x5), (6, .int x6)] 30 [] := by
    intro n
    induction n with
    | zero => intro x4 x5 x6 t_cases t_one h; exact absurd h id
    | succ n ih =>
      intro x4 x5 x6 t_cases t_one h H locs ls hw hl
      rw [L_Mo_doesTurn_30] at h
      refine lv_iload hx hb dX10_doesTurn_30 (lv_at hl 5 rfl) ?_
      refine lv_aload_n hx hb dX10_doesTurn_32 rfl (lv_at hl 0 rfl) ?_
      refine callVi (As := []) (rest := [.int x6]) (W2 := fun _ => (cs_Mo_doesTurn g a_t a_t_one a_t_weight a_t_cost a_t_text a_t_read a_t_likes a_t_judged a_t_met a_t_line a_t_image a_t_isKept a_t_had t_points t_cases t_bytes t_position t_tokenAt t_token t_digits t_number t_row t_isRow t_faultAt t_readMany t_readPoints t_readCases t_suitOne t_suitTwo t_one t_weight)) C hw hl (c_Mo_deedMany l g a_t a_t_weight a_t_cost a_t_one a_t_text a_t_read a_t_likes a_t_judged a_t_met a_t_line a_t_image a_t_isKept a_t_had t_points t_cases t_bytes t_position t_tokenAt t_token t_digits t_number t_row t_isRow t_faultAt t_readMany t_readPoints t_readCases t_suitOne t_suitTwo _ h) tw_1099 kk_X10_deedMany rfl ⟨rfl, rfl⟩ ⟨by decide, by decide⟩ (Nat.le_of_ble_eq_true rfl) 0 rfl rfl rfl [0] [1, 2] [2, 0, 1] rfl rfl rfl rfl rfl rfl (fun u => rfl) rfl dX10_doesTurn_33 (fun r_2 u H locs h hw => ?_)
      refine lv_icmp_ge (tgt := 82) hx hb dX10_doesTurn_36 (by decide) (fun c_36 => ?_) (fun c_36 => ?_)
      · have h := h.1 c_36
        exact hB_Mo_doesTurn_82 x4 x5 t_cases t_one h _ _ _ hw (lv_sub hl [0, 3, 4] rfl)
      · have h := h.2 c_36
        refine lv_iload hx hb dX10_doesTurn_39 (lv_at hl 4 rfl) ?_
        refine lv_if_eq (tgt := 82) hx hb dX10_doesTurn_41 (by decide) (fun c_41 => ?_) (fun c_41 => ?_)
        · have h := h.1 c_41
          exact hB_Mo_doesTurn_82 x4 x5 t_cases t_one h _ _ _ hw (lv_sub hl [0, 3, 4] rfl)
        · have h := h.2 c_41
          refine lv_aload_n hx hb dX10_doesTurn_44 rfl (lv_at hl 0 rfl) ?_
          refine lv_iload hx hb dX10_doesTurn_45 (lv_at hl 5 rfl) ?_
          refine callVv (As := [.int x6]) (rest := []) (W2 := fun u => (cs_Mo_doesTurn g a_t a_t_one a_t_weight a_t_cost a_t_text a_t_read a_t_likes a_t_judged a_t_met a_t_line a_t_image a_t_isKept a_t_had t_points (u.1) t_bytes t_position t_tokenAt t_token t_digits t_number t_row t_isRow t_faultAt t_readMany t_readPoints t_readCases t_suitOne t_suitTwo (u.2) t_weight)) C hw hl (c_Mo_tryDeed l g a_t a_t_one a_t_weight a_t_cost a_t_text a_t_read a_t_likes a_t_judged a_t_met a_t_line a_t_image a_t_isKept a_t_had t_points t_cases t_bytes t_position t_tokenAt t_token t_digits t_number t_row t_isRow t_faultAt t_readMany t_readPoints t_readCases t_suitOne t_suitTwo t_one t_weight x6 _ h) tw_1153 kk_X10_tryDeed rfl ⟨rfl, rfl⟩ ⟨by decide, by decide⟩ (Nat.le_of_ble_eq_true rfl) 0 rfl rfl rfl [0, 1, 2] [] [0, 1, 2] rfl rfl rfl rfl rfl rfl (fun u => rfl) rfl dX10_doesTurn_47 (fun u H locs h hw => ?_)
          obtain ⟨t_cases_3, t_one_4⟩ := u
          have hw : Wd g A s (cs_Mo_doesTurn g a_t a_t_one a_t_weight a_t_cost a_t_text a_t_read a_t_likes a_t_judged a_t_met a_t_line a_t_image a_t_isKept a_t_had t_points t_cases_3 t_bytes t_position t_tokenAt t_token t_digits t_number t_row t_isRow t_faultAt t_readMany t_readPoints t_readCases t_suitOne t_suitTwo t_one_4 t_weight) H locs := hw
          refine lv_aload_n hx hb dX10_doesTurn_50 rfl (lv_at hl 0 rfl) ?_
          refine lv_iload_n hx hb dX10_doesTurn_51 rfl (lv_at hl 1 rfl) ?_
          refine callVi (As := [.int x1]) (rest := []) (W2 := fun _ => (cs_Mo_doesTurn g a_t a_t_one a_t_weight a_t_cost a_t_text a_t_read a_t_likes a_t_judged a_t_met a_t_line a_t_image a_t_isKept a_t_had t_points t_cases_3 t_bytes t_position t_tokenAt t_token t_digits t_number t_row t_isRow t_faultAt t_readMany t_readPoints t_readCases t_suitOne t_suitTwo t_one_4 t_weight)) C hw hl (c_Mo_judgmentAt l g a_t a_t_one a_t_weight a_t_cost a_t_text a_t_read a_t_likes a_t_judged a_t_met a_t_line a_t_image a_t_isKept a_t_had t_points t_cases_3 t_bytes t_position t_tokenAt t_token t_digits t_number t_row t_isRow t_faultAt t_readMany t_readPoints t_readCases t_suitOne t_suitTwo t_one_4 t_weight x1 _ h) tw_1126 kk_X10_judgmentAt rfl ⟨rfl, rfl⟩ ⟨by decide, by decide⟩ (Nat.le_of_ble_eq_true rfl) 0 rfl rfl rfl [0, 1, 2] [] [0, 1, 2] rfl rfl rfl rfl rfl rfl (fun u => rfl) rfl dX10_doesTurn_52 (fun r_5 u H locs h hw => ?_)
          refine lv_iload_n hx hb dX10_doesTurn_55 rfl (lv_at hl 2 rfl) ?_
          refine lv_icmp_ne (tgt := 63) hx hb dX10_doesTurn_56 (by decide) (fun c_56 => ?_) (fun c_56 => ?_)
          · have h := h.1 c_56
            refine lv_iconst (v := 0) hx hb dX10_doesTurn_63 (by decide) ?_
            exact hB_Mo_doesTurn_64 (L_Mo_doesTurn_30 x1 x2 x3 t_points t_weight Q n) ih x4 x6 0 t_cases_3 t_one_4 h _ _ _ hw (lv_sub hl [0, 1, 2, 3, 5] rfl)
          · have h := h.2 c_56
            refine lv_iconst (v := 1) hx hb dX10_doesTurn_59 (by decide) ?_
            refine lv_goto (tgt := 64) hx hb dX10_doesTurn_60 (by decide) ?_
            exact hB_Mo_doesTurn_64 (L_Mo_doesTurn_30 x1 x2 x3 t_points t_weight Q n) ih x4 x6 1 t_cases_3 t_one_4 h _ _ _ hw (lv_sub hl [0, 1, 2, 3, 5] rfl)
  have hB_Mo_doesTurn_25 : ∀ (x4 : Int32) (k0 : Int32) (t_cases : Int32) (t_one : (Nat → Int32)), B_Mo_doesTurn_25 x1 x2 x3 t_points t_weight Q x4 k0 t_cases t_one → Wat p l e rm_Mo_doesTurn s m args below meth c A Qf g 7 (cs_Mo_doesTurn g a_t a_t_one a_t_weight a_t_cost a_t_text a_t_read a_t_likes a_t_judged a_t_met a_t_line a_t_image a_t_isKept a_t_had t_points t_cases t_bytes t_position t_tokenAt t_token t_digits t_number t_row t_isRow t_faultAt t_readMany t_readPoints t_readCases t_suitOne t_suitTwo t_one t_weight) [(0, .ref a_t), (1, .int x1), (2, .int x2), (4, .int x4)] 25 [.int k0] := by
    intro x4 k0 t_cases t_one h H locs ls hw hl
    refine lv_istore (lv' := [(5, .int k0), (0, .ref a_t), (1, .int x1), (2, .int x2), (4, .int x4)]) hx hb dX10_doesTurn_25 hl (by decide) rfl (fun ls hl => ?_)
    refine lv_iconst (v := 0) hx hb dX10_doesTurn_27 (by decide) ?_
    refine lv_istore (lv' := [(6, .int 0), (5, .int k0), (0, .ref a_t), (1, .int x1), (2, .int x2), (4, .int x4)]) hx hb dX10_doesTurn_28 hl (by decide) rfl (fun ls hl => ?_)
    obtain ⟨n_30, h⟩ := h
    exact hL_Mo_doesTurn_30 n_30 x4 k0 0 t_cases t_one h _ _ _ hw (lv_sub hl [2, 3, 4, 5, 1, 0] rfl)
  refine lv_aload_n hx hb dX10_doesTurn_0 rfl (lv_at hl 0 rfl) ?_
  refine G_RX10_54 C hw 0 rfl dX10_doesTurn_1 ?_
  refine lv_istore (lv' := [(4, .int t_cases), (0, .ref a_t), (1, .int x1), (2, .int x2), (3, .int x3)]) hx hb dX10_doesTurn_4 hl (by decide) rfl (fun ls hl => ?_)
  refine lv_aload_n hx hb dX10_doesTurn_6 rfl (lv_at hl 1 rfl) ?_
  refine lv_iload_n hx hb dX10_doesTurn_7 rfl (lv_at hl 4 rfl) ?_
  refine callVv (As := [.int x3]) (rest := []) (W2 := fun u => (cs_Mo_doesTurn g a_t a_t_one a_t_weight a_t_cost a_t_text a_t_read a_t_likes a_t_judged a_t_met a_t_line a_t_image a_t_isKept a_t_had t_points (u.1) t_bytes t_position t_tokenAt t_token t_digits t_number t_row t_isRow t_faultAt t_readMany t_readPoints t_readCases t_suitOne t_suitTwo (u.2) t_weight)) C hw hl (c_Mo_tryDeed l g a_t a_t_one a_t_weight a_t_cost a_t_text a_t_read a_t_likes a_t_judged a_t_met a_t_line a_t_image a_t_isKept a_t_had t_points t_cases t_bytes t_position t_tokenAt t_token t_digits t_number t_row t_isRow t_faultAt t_readMany t_readPoints t_readCases t_suitOne t_suitTwo t_one t_weight x3 _ h) tw_1153 kk_X10_tryDeed rfl ⟨rfl, rfl⟩ ⟨by decide, by decide⟩ (Nat.le_of_ble_eq_true rfl) 0 rfl rfl rfl [0, 1, 2] [] [0, 1, 2] rfl rfl rfl rfl rfl rfl (fun u => rfl) rfl dX10_doesTurn_8 (fun u H locs h hw => ?_)
  obtain ⟨t_cases_6, t_one_7⟩ := u
  have hw : Wd g A s (cs_Mo_doesTurn g a_t a_t_one a_t_weight a_t_cost a_t_text a_t_read a_t_likes a_t_judged a_t_met a_t_line a_t_image a_t_isKept a_t_had t_points t_cases_6 t_bytes t_position t_tokenAt t_token t_digits t_number t_row t_isRow t_faultAt t_readMany t_readPoints t_readCases t_suitOne t_suitTwo t_one_7 t_weight) H locs := hw
  refine lv_aload_n hx hb dX10_doesTurn_11 rfl (lv_at hl 1 rfl) ?_
  refine lv_iload_n hx hb dX10_doesTurn_12 rfl (lv_at hl 2 rfl) ?_
  refine callVi (As := [.int x1]) (rest := []) (W2 := fun _ => (cs_Mo_doesTurn g a_t a_t_one a_t_weight a_t_cost a_t_text a_t_read a_t_likes a_t_judged a_t_met a_t_line a_t_image a_t_isKept a_t_had t_points t_cases_6 t_bytes t_position t_tokenAt t_token t_digits t_number t_row t_isRow t_faultAt t_readMany t_readPoints t_readCases t_suitOne t_suitTwo t_one_7 t_weight)) C hw hl (c_Mo_judgmentAt l g a_t a_t_one a_t_weight a_t_cost a_t_text a_t_read a_t_likes a_t_judged a_t_met a_t_line a_t_image a_t_isKept a_t_had t_points t_cases_6 t_bytes t_position t_tokenAt t_token t_digits t_number t_row t_isRow t_faultAt t_readMany t_readPoints t_readCases t_suitOne t_suitTwo t_one_7 t_weight x1 _ h) tw_1126 kk_X10_judgmentAt rfl ⟨rfl, rfl⟩ ⟨by decide, by decide⟩ (Nat.le_of_ble_eq_true rfl) 0 rfl rfl rfl [0, 1, 2] [] [0, 1, 2] rfl rfl rfl rfl rfl rfl (fun u => rfl) rfl dX10_doesTurn_13 (fun r_8 u H locs h hw => ?_)
  refine lv_iload_n hx hb dX10_doesTurn_16 rfl (lv_at hl 3 rfl) ?_
  refine lv_icmp_ne (tgt := 24) hx hb dX10_doesTurn_17 (by decide) (fun c_17 => ?_) (fun c_17 => ?_)
  · have h := h.1 c_17
    refine lv_iconst (v := 0) hx hb dX10_doesTurn_24 (by decide) ?_
    exact hB_Mo_doesTurn_25 t_cases 0 t_cases_6 t_one_7 h _ _ _ hw (lv_sub hl [1, 2, 3, 0] rfl)
  · have h := h.2 c_17
    refine lv_iconst (v := 1) hx hb dX10_doesTurn_20 (by decide) ?_
    refine lv_goto (tgt := 25) hx hb dX10_doesTurn_21 (by decide) ?_
    exact hB_Mo_doesTurn_25 t_cases 1 t_cases_6 t_one_7 h _ _ _ hw (lv_sub hl [1, 2, 3, 0] rfl)
def B_Mo_turns_15 (x1 : Int32) (x2 : Int32) (t_points : Int32) (t_weight : (Nat → Int32)) (Q : Int32 → Int32 → (Nat → Int32) → Prop) (t_cases : Int32) (t_one : (Nat → Int32)) : Prop := Q (-3) t_cases t_one
def B_Mo_turns_34 (x1 : Int32) (x2 : Int32) (t_points : Int32) (t_weight : (Nat → Int32)) (Q : Int32 → Int32 → (Nat → Int32) → Prop) (t_cases : Int32) (t_one : (Nat → Int32)) : Prop := Q (-4) t_cases t_one
def L_Mo_turns_39 (x1 : Int32) (x2 : Int32) (t_points : Int32) (t_weight : (Nat → Int32)) (Q : Int32 → Int32 → (Nat → Int32) → Prop) : Nat → Int32 → Int32 → (Nat → Int32) → Prop
  | 0 => fun _ _ _ => False
  | n + 1 => fun x3 t_cases t_one => P_Mo_deedMany t_points (fun r_1 => (r_1 ≤ x3 → Q (-1) t_cases t_one) ∧ (¬ r_1 ≤ x3 → P_Mo_doesTurn x1 x2 x3 t_points t_cases t_one t_weight (fun r_2 t_cases_3 t_one_4 => (r_2 = 0 → (L_Mo_turns_39 x1 x2 t_points t_weight Q n) (x3 + 1) t_cases_3 t_one_4) ∧ (¬ r_2 = 0 → Q x3 t_cases_3 t_one_4))))
def P_Mo_turns (x1 : Int32) (x2 : Int32) (t_points : Int32) (t_cases : Int32) (t_one : (Nat → Int32)) (t_weight : (Nat → Int32)) (Q : Int32 → Int32 → (Nat → Int32) → Prop) : Prop := P_Mo_isDeed x1 t_points (fun r_5 => (r_5 = 0 → B_Mo_turns_15 x1 x2 t_points t_weight Q t_cases t_one) ∧ (¬ r_5 = 0 → P_Mo_isJudgment x2 (fun r_6 => (¬ r_6 = 0 → (6 < t_points → B_Mo_turns_34 x1 x2 t_points t_weight Q t_cases t_one) ∧ (¬ 6 < t_points → (¬ t_cases = 0 → ∃ n_39 : Nat, L_Mo_turns_39 x1 x2 t_points t_weight Q n_39 0 t_cases t_one) ∧ (t_cases = 0 → B_Mo_turns_34 x1 x2 t_points t_weight Q t_cases t_one))) ∧ (r_6 = 0 → B_Mo_turns_15 x1 x2 t_points t_weight Q t_cases t_one))))
abbrev rm_Mo_turns : Room := { frames := 6, cells := 0, slots := 0, locals := 141 }
def cs_Mo_turns (g : GE) (a_t a_t_one a_t_weight a_t_cost a_t_text a_t_read a_t_likes a_t_judged a_t_met a_t_line a_t_image a_t_isKept a_t_had : Nat) (t_points : Int32) (t_cases : Int32) (t_bytes : Int32) (t_position : Int32) (t_tokenAt : Int32) (t_token : Int64) (t_digits : Int32) (t_number : Int32) (t_row : Int32) (t_isRow : Int32) (t_faultAt : Int32) (t_readMany : Int32) (t_readPoints : Int32) (t_readCases : Int32) (t_suitOne : Int32) (t_suitTwo : Int32) (t_one : (Nat → Int32)) (t_weight : (Nat → Int32)) : va_W := [oc a_t 10 [.int t_points, .ref a_t_weight, .ref a_t_cost, .int t_cases, .ref a_t_one, .int t_bytes, .ref a_t_text, .int t_position, .int t_tokenAt, .long t_token, .int t_digits, .int t_number, .int t_row, .int t_isRow, .int t_faultAt, .int t_readMany, .int t_readPoints, .int t_readCases, .ref a_t_read, .ref a_t_likes, .ref a_t_judged, .ref a_t_met, .ref a_t_line, .ref a_t_image, .ref a_t_isKept, .int t_suitOne, .int t_suitTwo, .ref a_t_had], ai g a_t_one 56 t_one, ai g a_t_weight 10 t_weight]
set_option maxHeartbeats 4000000 in
set_option maxRecDepth 100000 in
theorem c_Mo_turns (l : Launch) (g : GE) (a_t a_t_one a_t_weight a_t_cost a_t_text a_t_read a_t_likes a_t_judged a_t_met a_t_line a_t_image a_t_isKept a_t_had : Nat) (t_points : Int32) (t_cases : Int32) (t_bytes : Int32) (t_position : Int32) (t_tokenAt : Int32) (t_token : Int64) (t_digits : Int32) (t_number : Int32) (t_row : Int32) (t_isRow : Int32) (t_faultAt : Int32) (t_readMany : Int32) (t_readPoints : Int32) (t_readCases : Int32) (t_suitOne : Int32) (t_suitTwo : Int32) (t_one : (Nat → Int32)) (t_weight : (Nat → Int32)) (x1 : Int32) (x2 : Int32) (Q : Int32 → Int32 → (Nat → Int32) → Prop) (h : P_Mo_turns x1 x2 t_points t_cases t_one t_weight Q) : Cti l g yX10_turns cX10_turns 4 (some .int) rm_Mo_turns [.ref a_t, .int x1, .int x2] (cs_Mo_turns g a_t a_t_one a_t_weight a_t_cost a_t_text a_t_read a_t_likes a_t_judged a_t_met a_t_line a_t_image a_t_isKept a_t_had t_points t_cases t_bytes t_position t_tokenAt t_token t_digits t_number t_row t_isRow t_faultAt t_readMany t_readPoints t_readCases t_suitOne t_suitTwo t_one t_weight) (S := Int32 × (Nat → Int32)) (fun r u => Q r u.1 u.2) (fun u => (cs_Mo_turns g a_t a_t_one a_t_weight a_t_cost a_t_text a_t_read a_t_likes a_t_judged a_t_met a_t_line a_t_image a_t_isKept a_t_had t_points (u.1) t_bytes t_position t_tokenAt t_token t_digits t_number t_row t_isRow t_faultAt t_readMany t_readPoints t_readCases t_suitOne t_suitTwo (u.2) t_weight)) := by
  refine meetI rfl (Nat.le_of_ble_eq_true rfl) ⟨rfl, rfl⟩ ?_
  intro p e s m args below meth c A Qf ls C hret hw hl
  have hx := C.1
  have hb := C.2.1
  have hown := C.2.2.2.1
  have hts := C.2.2.2.2.1
  have hE := C.2.2.2.2.2.1
  have hl : lv_has ls 4 [(0, .ref a_t), (1, .int x1), (2, .int x2)] := hl
  have hB_Mo_turns_15 : ∀ (t_cases : Int32) (t_one : (Nat → Int32)), B_Mo_turns_15 x1 x2 t_points t_weight Q t_cases t_one → Wat p l e rm_Mo_turns s m args below meth c A Qf g 4 (cs_Mo_turns g a_t a_t_one a_t_weight a_t_cost a_t_text a_t_read a_t_likes a_t_judged a_t_met a_t_line a_t_image a_t_isKept a_t_had t_points t_cases t_bytes t_position t_tokenAt t_token t_digits t_number t_row t_isRow t_faultAt t_readMany t_readPoints t_readCases t_suitOne t_suitTwo t_one t_weight) [] 15 [] := by
    intro t_cases t_one h H locs ls hw hl
    refine lv_bipush (v := (-3)) hx hb dX10_turns_15 (by decide) ?_
    exact hret (t_cases, t_one) h hw dX10_turns_17 rfl
  have hB_Mo_turns_34 : ∀ (t_cases : Int32) (t_one : (Nat → Int32)), B_Mo_turns_34 x1 x2 t_points t_weight Q t_cases t_one → Wat p l e rm_Mo_turns s m args below meth c A Qf g 4 (cs_Mo_turns g a_t a_t_one a_t_weight a_t_cost a_t_text a_t_read a_t_likes a_t_judged a_t_met a_t_line a_t_image a_t_isKept a_t_had t_points t_cases t_bytes t_position t_tokenAt t_token t_digits t_number t_row t_isRow t_faultAt t_readMany t_readPoints t_readCases t_suitOne t_suitTwo t_one t_weight) [] 34 [] := by
    intro t_cases t_one h H locs ls hw hl
    refine lv_bipush (v := (-4)) hx hb dX10_turns_34 (by decide) ?_
    exact hret (t_cases, t_one) h hw dX10_turns_36 rfl
  have hL_Mo_turns_39 : ∀ (n : Nat) (x3 : Int32) (t_cases : Int32) (t_one : (Nat → Int32)), L_Mo_turns_39 x1 x2 t_points t_weight Q n x3 t_cases t_one → Wat p l e rm_Mo_turns s m args below meth c A Qf g 4 (cs_Mo_turns g a_t a_t_one a_t_weight a_t_cost a_t_text a_t_read a_t_likes a_t_judged a_t_met a_t_line a_t_image a_t_isKept a_t_had t_points t_cases t_bytes t_position t_tokenAt t_token t_digits t_number t_row t_isRow t_faultAt t_readMany t_readPoints t_readCases t_suitOne t_suitTwo t_one t_weight) [(0, .ref a_t), (1, .int x1), (2, .int x2), (3, .int x3)] 39 [] := by
    intro n
    induction n with
    | zero => intro x3 t_cases t_one h; exact absurd h id
    | succ n ih =>
      intro x3 t_cases t_one h H locs ls hw hl
      rw [L_Mo_turns_39] at h
      refine lv_iload_n hx hb dX10_turns_39 rfl (lv_at hl 3 rfl) ?_
      refine lv_aload_n hx hb dX10_turns_40 rfl (lv_at hl 0 rfl) ?_
      refine callVi (As := []) (rest := [.int x3]) (W2 := fun _ => (cs_Mo_turns g a_t a_t_one a_t_weight a_t_cost a_t_text a_t_read a_t_likes a_t_judged a_t_met a_t_line a_t_image a_t_isKept a_t_had t_points t_cases t_bytes t_position t_tokenAt t_token t_digits t_number t_row t_isRow t_faultAt t_readMany t_readPoints t_readCases t_suitOne t_suitTwo t_one t_weight)) C hw hl (c_Mo_deedMany l g a_t a_t_weight a_t_cost a_t_one a_t_text a_t_read a_t_likes a_t_judged a_t_met a_t_line a_t_image a_t_isKept a_t_had t_points t_cases t_bytes t_position t_tokenAt t_token t_digits t_number t_row t_isRow t_faultAt t_readMany t_readPoints t_readCases t_suitOne t_suitTwo _ h) tw_1099 kk_X10_deedMany rfl ⟨rfl, rfl⟩ ⟨by decide, by decide⟩ (Nat.le_of_ble_eq_true rfl) 0 rfl rfl rfl [0] [1, 2] [2, 0, 1] rfl rfl rfl rfl rfl rfl (fun u => rfl) rfl dX10_turns_41 (fun r_1 u H locs h hw => ?_)
      refine lv_icmp_ge (tgt := 65) hx hb dX10_turns_44 (by decide) (fun c_44 => ?_) (fun c_44 => ?_)
      · have h := h.1 c_44
        refine lv_iconst (v := (-1)) hx hb dX10_turns_65 (by decide) ?_
        exact hret (t_cases, t_one) h hw dX10_turns_66 rfl
      · have h := h.2 c_44
        refine lv_aload_n hx hb dX10_turns_47 rfl (lv_at hl 0 rfl) ?_
        refine lv_iload_n hx hb dX10_turns_48 rfl (lv_at hl 1 rfl) ?_
        refine lv_iload_n hx hb dX10_turns_49 rfl (lv_at hl 2 rfl) ?_
        refine lv_iload_n hx hb dX10_turns_50 rfl (lv_at hl 3 rfl) ?_
        refine callVi (As := [.int x1, .int x2, .int x3]) (rest := []) (W2 := fun u => (cs_Mo_turns g a_t a_t_one a_t_weight a_t_cost a_t_text a_t_read a_t_likes a_t_judged a_t_met a_t_line a_t_image a_t_isKept a_t_had t_points (u.1) t_bytes t_position t_tokenAt t_token t_digits t_number t_row t_isRow t_faultAt t_readMany t_readPoints t_readCases t_suitOne t_suitTwo (u.2) t_weight)) C hw hl (c_Mo_doesTurn l g a_t a_t_one a_t_weight a_t_cost a_t_text a_t_read a_t_likes a_t_judged a_t_met a_t_line a_t_image a_t_isKept a_t_had t_points t_cases t_bytes t_position t_tokenAt t_token t_digits t_number t_row t_isRow t_faultAt t_readMany t_readPoints t_readCases t_suitOne t_suitTwo t_one t_weight x1 x2 x3 _ h) tw_1161 kk_X10_doesTurn rfl ⟨rfl, rfl⟩ ⟨by decide, by decide⟩ (Nat.le_of_ble_eq_true rfl) 0 rfl rfl rfl [0, 1, 2] [] [0, 1, 2] rfl rfl rfl rfl rfl rfl (fun u => rfl) rfl dX10_turns_51 (fun r_2 u H locs h hw => ?_)
        obtain ⟨t_cases_3, t_one_4⟩ := u
        have hw : Wd g A s (cs_Mo_turns g a_t a_t_one a_t_weight a_t_cost a_t_text a_t_read a_t_likes a_t_judged a_t_met a_t_line a_t_image a_t_isKept a_t_had t_points t_cases_3 t_bytes t_position t_tokenAt t_token t_digits t_number t_row t_isRow t_faultAt t_readMany t_readPoints t_readCases t_suitOne t_suitTwo t_one_4 t_weight) H locs := hw
        refine lv_if_eq (tgt := 59) hx hb dX10_turns_54 (by decide) (fun c_54 => ?_) (fun c_54 => ?_)
        · have h := h.1 c_54
          refine lv_iinc (v := x3 + 1) (lv' := [(3, .int (x3 + 1)), (0, .ref a_t), (1, .int x1), (2, .int x2)]) hx hb dX10_turns_59 hl (k := 3) rfl rfl (by decide) rfl (fun ls hl => ?_)
          refine lv_goto (tgt := 39) hx hb dX10_turns_62 (by decide) ?_
          exact ih (x3 + 1) t_cases_3 t_one_4 h _ _ _ hw (lv_sub hl [1, 2, 3, 0] rfl)
        · have h := h.2 c_54
          refine lv_iload_n hx hb dX10_turns_57 rfl (lv_at hl 3 rfl) ?_
          exact hret (t_cases_3, t_one_4) h hw dX10_turns_58 rfl
  refine lv_aload_n hx hb dX10_turns_0 rfl (lv_at hl 0 rfl) ?_
  refine lv_iload_n hx hb dX10_turns_1 rfl (lv_at hl 1 rfl) ?_
  refine callVi (As := [.int x1]) (rest := []) (W2 := fun _ => (cs_Mo_turns g a_t a_t_one a_t_weight a_t_cost a_t_text a_t_read a_t_likes a_t_judged a_t_met a_t_line a_t_image a_t_isKept a_t_had t_points t_cases t_bytes t_position t_tokenAt t_token t_digits t_number t_row t_isRow t_faultAt t_readMany t_readPoints t_readCases t_suitOne t_suitTwo t_one t_weight)) C hw hl (c_Mo_isDeed l g a_t a_t_weight a_t_cost a_t_one a_t_text a_t_read a_t_likes a_t_judged a_t_met a_t_line a_t_image a_t_isKept a_t_had t_points t_cases t_bytes t_position t_tokenAt t_token t_digits t_number t_row t_isRow t_faultAt t_readMany t_readPoints t_readCases t_suitOne t_suitTwo x1 _ h) tw_1095 kk_X10_isDeed rfl ⟨rfl, rfl⟩ ⟨by decide, by decide⟩ (Nat.le_of_ble_eq_true rfl) 0 rfl rfl rfl [0] [1, 2] [2, 0, 1] rfl rfl rfl rfl rfl rfl (fun u => rfl) rfl dX10_turns_2 (fun r_5 u H locs h hw => ?_)
  refine lv_if_eq (tgt := 15) hx hb dX10_turns_5 (by decide) (fun c_5 => ?_) (fun c_5 => ?_)
  · have h := h.1 c_5
    exact hB_Mo_turns_15 t_cases t_one h _ _ _ hw (lv_sub hl [] rfl)
  · have h := h.2 c_5
    refine lv_iload_n hx hb dX10_turns_8 rfl (lv_at hl 2 rfl) ?_
    refine callSi (As := [.int x2]) (rest := []) C hw hl (c_Mo_isJudgment l g x2 _ h) tw_1138 kk_X10_isJudgment rfl ⟨rfl, rfl⟩ ⟨by decide, by decide⟩ (Nat.le_of_ble_eq_true rfl) rfl dX10_turns_9 (fun r_6 u H locs h hw => ?_)
    refine lv_if_ne (tgt := 18) hx hb dX10_turns_12 (by decide) (fun c_12 => ?_) (fun c_12 => ?_)
    · have h := h.1 c_12
      refine lv_aload_n hx hb dX10_turns_18 rfl (lv_at hl 0 rfl) ?_
      refine G_RX10_7 C hw 0 rfl dX10_turns_19 ?_
      refine lv_bipush (v := 6) hx hb dX10_turns_22 (by decide) ?_
      refine lv_icmp_gt (tgt := 34) hx hb dX10_turns_24 (by decide) (fun c_24 => ?_) (fun c_24 => ?_)
      · have h := h.1 c_24
        exact hB_Mo_turns_34 t_cases t_one h _ _ _ hw (lv_sub hl [] rfl)
      · have h := h.2 c_24
        refine lv_aload_n hx hb dX10_turns_27 rfl (lv_at hl 0 rfl) ?_
        refine G_RX10_54 C hw 0 rfl dX10_turns_28 ?_
        refine lv_if_ne (tgt := 37) hx hb dX10_turns_31 (by decide) (fun c_31 => ?_) (fun c_31 => ?_)
        · have h := h.1 c_31
          refine lv_iconst (v := 0) hx hb dX10_turns_37 (by decide) ?_
          refine lv_istore_n (lv' := [(3, .int 0), (0, .ref a_t), (1, .int x1), (2, .int x2)]) hx hb dX10_turns_38 rfl hl (by decide) rfl (fun ls hl => ?_)
          obtain ⟨n_39, h⟩ := h
          exact hL_Mo_turns_39 n_39 0 t_cases t_one h _ _ _ hw (lv_sub hl [1, 2, 3, 0] rfl)
        · have h := h.2 c_31
          exact hB_Mo_turns_34 t_cases t_one h _ _ _ hw (lv_sub hl [] rfl)
    · have h := h.2 c_12
      exact hB_Mo_turns_15 t_cases t_one h _ _ _ hw (lv_sub hl [] rfl)
def B_Mo_pardon_29 (x1 : Int32) (x2 : Int32) (t_cases : Int32) (Q : Int32 → (Nat → Int32) → Prop) (k1 : Int32) (k2 : Int32) (t_one : (Nat → Int32)) : Prop := vp_in k1 56 ∧ (P_Mo_judgmentOf x1 (upd t_one k1.toNatClampNeg k2) (fun r_1 => Q r_1 (upd t_one k1.toNatClampNeg k2)))
def P_Mo_pardon (x1 : Int32) (x2 : Int32) (t_cases : Int32) (t_one : (Nat → Int32)) (Q : Int32 → (Nat → Int32) → Prop) : Prop := P_Mo_isCase x1 t_cases (fun r_2 => (¬ r_2 = 0 → (x2 = 0 → B_Mo_pardon_29 x1 x2 t_cases Q ((4 * x1) + 3) 0 t_one) ∧ (¬ x2 = 0 → B_Mo_pardon_29 x1 x2 t_cases Q ((4 * x1) + 3) 1 t_one)) ∧ (r_2 = 0 → Q (-2) t_one))
abbrev rm_Mo_pardon : Room := { frames := 2, cells := 0, slots := 0, locals := 43 }
def cs_Mo_pardon (g : GE) (a_t a_t_one a_t_weight a_t_cost a_t_text a_t_read a_t_likes a_t_judged a_t_met a_t_line a_t_image a_t_isKept a_t_had : Nat) (t_points : Int32) (t_cases : Int32) (t_bytes : Int32) (t_position : Int32) (t_tokenAt : Int32) (t_token : Int64) (t_digits : Int32) (t_number : Int32) (t_row : Int32) (t_isRow : Int32) (t_faultAt : Int32) (t_readMany : Int32) (t_readPoints : Int32) (t_readCases : Int32) (t_suitOne : Int32) (t_suitTwo : Int32) (t_one : (Nat → Int32)) : va_W := [oc a_t 10 [.int t_points, .ref a_t_weight, .ref a_t_cost, .int t_cases, .ref a_t_one, .int t_bytes, .ref a_t_text, .int t_position, .int t_tokenAt, .long t_token, .int t_digits, .int t_number, .int t_row, .int t_isRow, .int t_faultAt, .int t_readMany, .int t_readPoints, .int t_readCases, .ref a_t_read, .ref a_t_likes, .ref a_t_judged, .ref a_t_met, .ref a_t_line, .ref a_t_image, .ref a_t_isKept, .int t_suitOne, .int t_suitTwo, .ref a_t_had], ai g a_t_one 56 t_one]
set_option maxHeartbeats 4000000 in
set_option maxRecDepth 100000 in
theorem c_Mo_pardon (l : Launch) (g : GE) (a_t a_t_one a_t_weight a_t_cost a_t_text a_t_read a_t_likes a_t_judged a_t_met a_t_line a_t_image a_t_isKept a_t_had : Nat) (t_points : Int32) (t_cases : Int32) (t_bytes : Int32) (t_position : Int32) (t_tokenAt : Int32) (t_token : Int64) (t_digits : Int32) (t_number : Int32) (t_row : Int32) (t_isRow : Int32) (t_faultAt : Int32) (t_readMany : Int32) (t_readPoints : Int32) (t_readCases : Int32) (t_suitOne : Int32) (t_suitTwo : Int32) (t_one : (Nat → Int32)) (x1 : Int32) (x2 : Int32) (Q : Int32 → (Nat → Int32) → Prop) (h : P_Mo_pardon x1 x2 t_cases t_one Q) : Cti l g yX10_pardon cX10_pardon 3 (some .int) rm_Mo_pardon [.ref a_t, .int x1, .int x2] (cs_Mo_pardon g a_t a_t_one a_t_weight a_t_cost a_t_text a_t_read a_t_likes a_t_judged a_t_met a_t_line a_t_image a_t_isKept a_t_had t_points t_cases t_bytes t_position t_tokenAt t_token t_digits t_number t_row t_isRow t_faultAt t_readMany t_readPoints t_readCases t_suitOne t_suitTwo t_one) (S := (Nat → Int32)) (fun r u => Q r u) (fun u => (cs_Mo_pardon g a_t a_t_one a_t_weight a_t_cost a_t_text a_t_read a_t_likes a_t_judged a_t_met a_t_line a_t_image a_t_isKept a_t_had t_points t_cases t_bytes t_position t_tokenAt t_token t_digits t_number t_row t_isRow t_faultAt t_readMany t_readPoints t_readCases t_suitOne t_suitTwo u)) := by
  refine meetI rfl (Nat.le_of_ble_eq_true rfl) ⟨rfl, rfl⟩ ?_
  intro p e s m args below meth c A Qf ls C hret hw hl
  have hx := C.1
  have hb := C.2.1
  have hown := C.2.2.2.1
  have hts := C.2.2.2.2.1
  have hE := C.2.2.2.2.2.1
  have hl : lv_has ls 3 [(0, .ref a_t), (1, .int x1), (2, .int x2)] := hl
  have hB_Mo_pardon_29 : ∀ (k1 : Int32) (k2 : Int32) (t_one : (Nat → Int32)), B_Mo_pardon_29 x1 x2 t_cases Q k1 k2 t_one → Wat p l e rm_Mo_pardon s m args below meth c A Qf g 3 (cs_Mo_pardon g a_t a_t_one a_t_weight a_t_cost a_t_text a_t_read a_t_likes a_t_judged a_t_met a_t_line a_t_image a_t_isKept a_t_had t_points t_cases t_bytes t_position t_tokenAt t_token t_digits t_number t_row t_isRow t_faultAt t_readMany t_readPoints t_readCases t_suitOne t_suitTwo t_one) [(0, .ref a_t), (1, .int x1)] 29 [.int k2, .int k1, .ref a_t_one] := by
    intro k1 k2 t_one h H locs ls hw hl
    refine astI (ws2 := (cs_Mo_pardon g a_t a_t_one a_t_weight a_t_cost a_t_text a_t_read a_t_likes a_t_judged a_t_met a_t_line a_t_image a_t_isKept a_t_had t_points t_cases t_bytes t_position t_tokenAt t_token t_digits t_number t_row t_isRow t_faultAt t_readMany t_readPoints t_readCases t_suitOne t_suitTwo (upd t_one k1.toNatClampNeg k2))) C hw 1 rfl h.1 rfl dX10_pardon_29 (fun H locs hw => ?_)
    have h := h.2
    refine lv_aload_n hx hb dX10_pardon_30 rfl (lv_at hl 0 rfl) ?_
    refine lv_iload_n hx hb dX10_pardon_31 rfl (lv_at hl 1 rfl) ?_
    refine callVi (As := [.int x1]) (rest := []) (W2 := fun _ => (cs_Mo_pardon g a_t a_t_one a_t_weight a_t_cost a_t_text a_t_read a_t_likes a_t_judged a_t_met a_t_line a_t_image a_t_isKept a_t_had t_points t_cases t_bytes t_position t_tokenAt t_token t_digits t_number t_row t_isRow t_faultAt t_readMany t_readPoints t_readCases t_suitOne t_suitTwo (upd t_one k1.toNatClampNeg k2))) C hw hl (c_Mo_judgmentOf l g a_t a_t_one a_t_weight a_t_cost a_t_text a_t_read a_t_likes a_t_judged a_t_met a_t_line a_t_image a_t_isKept a_t_had t_points t_cases t_bytes t_position t_tokenAt t_token t_digits t_number t_row t_isRow t_faultAt t_readMany t_readPoints t_readCases t_suitOne t_suitTwo (upd t_one k1.toNatClampNeg k2) x1 _ h) tw_1087 kk_X10_judgmentOf rfl ⟨rfl, rfl⟩ ⟨by decide, by decide⟩ (Nat.le_of_ble_eq_true rfl) 0 rfl rfl rfl [0, 1] [] [0, 1] rfl rfl rfl rfl rfl rfl (fun u => rfl) rfl dX10_pardon_32 (fun r_1 u H locs h hw => ?_)
    exact hret (upd t_one k1.toNatClampNeg k2) h hw dX10_pardon_35 rfl
  refine lv_aload_n hx hb dX10_pardon_0 rfl (lv_at hl 0 rfl) ?_
  refine lv_iload_n hx hb dX10_pardon_1 rfl (lv_at hl 1 rfl) ?_
  refine callVi (As := [.int x1]) (rest := []) (W2 := fun _ => (cs_Mo_pardon g a_t a_t_one a_t_weight a_t_cost a_t_text a_t_read a_t_likes a_t_judged a_t_met a_t_line a_t_image a_t_isKept a_t_had t_points t_cases t_bytes t_position t_tokenAt t_token t_digits t_number t_row t_isRow t_faultAt t_readMany t_readPoints t_readCases t_suitOne t_suitTwo t_one)) C hw hl (c_Mo_isCase l g a_t a_t_weight a_t_cost a_t_one a_t_text a_t_read a_t_likes a_t_judged a_t_met a_t_line a_t_image a_t_isKept a_t_had t_points t_cases t_bytes t_position t_tokenAt t_token t_digits t_number t_row t_isRow t_faultAt t_readMany t_readPoints t_readCases t_suitOne t_suitTwo x1 _ h) tw_1079 kk_X10_isCase rfl ⟨rfl, rfl⟩ ⟨by decide, by decide⟩ (Nat.le_of_ble_eq_true rfl) 0 rfl rfl rfl [0] [1] [1, 0] rfl rfl rfl rfl rfl rfl (fun u => rfl) rfl dX10_pardon_2 (fun r_2 u H locs h hw => ?_)
  refine lv_if_ne (tgt := 11) hx hb dX10_pardon_5 (by decide) (fun c_5 => ?_) (fun c_5 => ?_)
  · have h := h.1 c_5
    refine lv_aload_n hx hb dX10_pardon_11 rfl (lv_at hl 0 rfl) ?_
    refine G_RX10_20 C hw 0 rfl dX10_pardon_12 ?_
    refine lv_iconst (v := 4) hx hb dX10_pardon_15 (by decide) ?_
    refine lv_iload_n hx hb dX10_pardon_16 rfl (lv_at hl 1 rfl) ?_
    refine lv_imul hx hb dX10_pardon_17 ?_
    refine lv_iconst (v := 3) hx hb dX10_pardon_18 (by decide) ?_
    refine lv_iadd hx hb dX10_pardon_19 ?_
    refine lv_iload_n hx hb dX10_pardon_20 rfl (lv_at hl 2 rfl) ?_
    refine lv_if_eq (tgt := 28) hx hb dX10_pardon_21 (by decide) (fun c_21 => ?_) (fun c_21 => ?_)
    · have h := h.1 c_21
      refine lv_iconst (v := 0) hx hb dX10_pardon_28 (by decide) ?_
      exact hB_Mo_pardon_29 ((4 * x1) + 3) 0 t_one h _ _ _ hw (lv_sub hl [0, 1] rfl)
    · have h := h.2 c_21
      refine lv_iconst (v := 1) hx hb dX10_pardon_24 (by decide) ?_
      refine lv_goto (tgt := 29) hx hb dX10_pardon_25 (by decide) ?_
      exact hB_Mo_pardon_29 ((4 * x1) + 3) 1 t_one h _ _ _ hw (lv_sub hl [0, 1] rfl)
  · have h := h.2 c_5
    refine lv_bipush (v := (-2)) hx hb dX10_pardon_8 (by decide) ?_
    exact hret (t_one) h hw dX10_pardon_10 rfl
