def L_Mo_layJudged_2 (t_points : Int32) (t_cases : Int32) (t_one : (Nat → Int32)) (t_weight : (Nat → Int32)) (Q : (Nat → Int32) → Prop) : Nat → Int32 → (Nat → Int32) → Prop
  | 0 => fun _ _ => False
  | n + 1 => fun x1 t_judged => P_Mo_deedMany t_points (fun r_1 => (r_1 ≤ x1 → Q t_judged) ∧ (¬ r_1 ≤ x1 → P_Mo_judgmentAt x1 t_points t_cases t_one t_weight (fun r_2 => vp_in x1 1024 ∧ ((L_Mo_layJudged_2 t_points t_cases t_one t_weight Q n) (x1 + 1) (upd t_judged x1.toNatClampNeg r_2)))))
def P_Mo_layJudged (t_points : Int32) (t_cases : Int32) (t_judged : (Nat → Int32)) (t_one : (Nat → Int32)) (t_weight : (Nat → Int32)) (Q : (Nat → Int32) → Prop) : Prop := ∃ n_2 : Nat, L_Mo_layJudged_2 t_points t_cases t_one t_weight Q n_2 0 t_judged
abbrev rm_Mo_layJudged : Room := { frames := 4, cells := 0, slots := 0, locals := 94 }
def cs_Mo_layJudged (g : GE) (a_t a_t_judged a_t_one a_t_weight a_t_cost a_t_text a_t_read a_t_likes a_t_met a_t_line a_t_image a_t_isKept a_t_had : Nat) (t_points : Int32) (t_cases : Int32) (t_bytes : Int32) (t_position : Int32) (t_tokenAt : Int32) (t_token : Int64) (t_digits : Int32) (t_number : Int32) (t_row : Int32) (t_isRow : Int32) (t_faultAt : Int32) (t_readMany : Int32) (t_readPoints : Int32) (t_readCases : Int32) (t_suitOne : Int32) (t_suitTwo : Int32) (t_judged : (Nat → Int32)) (t_one : (Nat → Int32)) (t_weight : (Nat → Int32)) : va_W := [oc a_t 10 [.int t_points, .ref a_t_weight, .ref a_t_cost, .int t_cases, .ref a_t_one, .int t_bytes, .ref a_t_text, .int t_position, .int t_tokenAt, .long t_token, .int t_digits, .int t_number, .int t_row, .int t_isRow, .int t_faultAt, .int t_readMany, .int t_readPoints, .int t_readCases, .ref a_t_read, .ref a_t_likes, .ref a_t_judged, .ref a_t_met, .ref a_t_line, .ref a_t_image, .ref a_t_isKept, .int t_suitOne, .int t_suitTwo, .ref a_t_had], ai g a_t_judged 1024 t_judged, ai g a_t_one 56 t_one, ai g a_t_weight 10 t_weight]
set_option maxHeartbeats 4000000 in
set_option maxRecDepth 100000 in
theorem c_Mo_layJudged (l : Launch) (g : GE) (a_t a_t_judged a_t_one a_t_weight a_t_cost a_t_text a_t_read a_t_likes a_t_met a_t_line a_t_image a_t_isKept a_t_had : Nat) (t_points : Int32) (t_cases : Int32) (t_bytes : Int32) (t_position : Int32) (t_tokenAt : Int32) (t_token : Int64) (t_digits : Int32) (t_number : Int32) (t_row : Int32) (t_isRow : Int32) (t_faultAt : Int32) (t_readMany : Int32) (t_readPoints : Int32) (t_readCases : Int32) (t_suitOne : Int32) (t_suitTwo : Int32) (t_judged : (Nat → Int32)) (t_one : (Nat → Int32)) (t_weight : (Nat → Int32)) (Q : (Nat → Int32) → Prop) (h : P_Mo_layJudged t_points t_cases t_judged t_one t_weight Q) : Ctv l g yX10_layJudged cX10_layJudged 2 none rm_Mo_layJudged [.ref a_t] (cs_Mo_layJudged g a_t a_t_judged a_t_one a_t_weight a_t_cost a_t_text a_t_read a_t_likes a_t_met a_t_line a_t_image a_t_isKept a_t_had t_points t_cases t_bytes t_position t_tokenAt t_token t_digits t_number t_row t_isRow t_faultAt t_readMany t_readPoints t_readCases t_suitOne t_suitTwo t_judged t_one t_weight) (S := (Nat → Int32)) (fun u => Q u) (fun u => (cs_Mo_layJudged g a_t a_t_judged a_t_one a_t_weight a_t_cost a_t_text a_t_read a_t_likes a_t_met a_t_line a_t_image a_t_isKept a_t_had t_points t_cases t_bytes t_position t_tokenAt t_token t_digits t_number t_row t_isRow t_faultAt t_readMany t_readPoints t_readCases t_suitOne t_suitTwo u t_one t_weight)) := by
  refine meetV rfl (Nat.le_of_ble_eq_true rfl) ⟨rfl, rfl⟩ ?_
  intro p e s m args below meth c A Qf ls C hret hw hl
  have hx := C.1
  have hb := C.2.1
  have hown := C.2.2.2.1
  have hts := C.2.2.2.2.1
  have hE := C.2.2.2.2.2.1
  have hl : lv_has ls 2 [(0, .ref a_t)] := hl
  have hL_Mo_layJudged_2 : ∀ (n : Nat) (x1 : Int32) (t_judged : (Nat → Int32)), L_Mo_layJudged_2 t_points t_cases t_one t_weight Q n x1 t_judged → Wat p l e rm_Mo_layJudged s m args below meth c A Qf g 2 (cs_Mo_layJudged g a_t a_t_judged a_t_one a_t_weight a_t_cost a_t_text a_t_read a_t_likes a_t_met a_t_line a_t_image a_t_isKept a_t_had t_points t_cases t_bytes t_position t_tokenAt t_token t_digits t_number t_row t_isRow t_faultAt t_readMany t_readPoints t_readCases t_suitOne t_suitTwo t_judged t_one t_weight) [(0, .ref a_t), (1, .int x1)] 2 [] := by
    intro n
    induction n with
    | zero => intro x1 t_judged h; exact absurd h id
    | succ n ih =>
      intro x1 t_judged h H locs ls hw hl
      rw [L_Mo_layJudged_2] at h
      refine lv_iload_n hx hb dX10_layJudged_2 rfl (lv_at hl 1 rfl) ?_
      refine lv_aload_n hx hb dX10_layJudged_3 rfl (lv_at hl 0 rfl) ?_
      refine callVi (As := []) (rest := [.int x1]) (W2 := fun _ => (cs_Mo_layJudged g a_t a_t_judged a_t_one a_t_weight a_t_cost a_t_text a_t_read a_t_likes a_t_met a_t_line a_t_image a_t_isKept a_t_had t_points t_cases t_bytes t_position t_tokenAt t_token t_digits t_number t_row t_isRow t_faultAt t_readMany t_readPoints t_readCases t_suitOne t_suitTwo t_judged t_one t_weight)) C hw hl (c_Mo_deedMany l g a_t a_t_weight a_t_cost a_t_one a_t_text a_t_read a_t_likes a_t_judged a_t_met a_t_line a_t_image a_t_isKept a_t_had t_points t_cases t_bytes t_position t_tokenAt t_token t_digits t_number t_row t_isRow t_faultAt t_readMany t_readPoints t_readCases t_suitOne t_suitTwo _ h) tw_1099 kk_X10_deedMany rfl ⟨rfl, rfl⟩ ⟨by decide, by decide⟩ (Nat.le_of_ble_eq_true rfl) 0 rfl rfl rfl [0] [1, 2, 3] [3, 0, 1, 2] rfl rfl rfl rfl rfl rfl (fun u => rfl) rfl dX10_layJudged_4 (fun r_1 u H locs h hw => ?_)
      refine lv_icmp_ge (tgt := 27) hx hb dX10_layJudged_7 (by decide) (fun c_7 => ?_) (fun c_7 => ?_)
      · have h := h.1 c_7
        exact hret (t_judged) h hw dX10_layJudged_27
      · have h := h.2 c_7
        refine lv_aload_n hx hb dX10_layJudged_10 rfl (lv_at hl 0 rfl) ?_
        refine G_RX10_32 C hw 0 rfl dX10_layJudged_11 ?_
        refine lv_iload_n hx hb dX10_layJudged_14 rfl (lv_at hl 1 rfl) ?_
        refine lv_aload_n hx hb dX10_layJudged_15 rfl (lv_at hl 0 rfl) ?_
        refine lv_iload_n hx hb dX10_layJudged_16 rfl (lv_at hl 1 rfl) ?_
        refine callVi (As := [.int x1]) (rest := [.int x1, .ref a_t_judged]) (W2 := fun _ => (cs_Mo_layJudged g a_t a_t_judged a_t_one a_t_weight a_t_cost a_t_text a_t_read a_t_likes a_t_met a_t_line a_t_image a_t_isKept a_t_had t_points t_cases t_bytes t_position t_tokenAt t_token t_digits t_number t_row t_isRow t_faultAt t_readMany t_readPoints t_readCases t_suitOne t_suitTwo t_judged t_one t_weight)) C hw hl (c_Mo_judgmentAt l g a_t a_t_one a_t_weight a_t_cost a_t_text a_t_read a_t_likes a_t_judged a_t_met a_t_line a_t_image a_t_isKept a_t_had t_points t_cases t_bytes t_position t_tokenAt t_token t_digits t_number t_row t_isRow t_faultAt t_readMany t_readPoints t_readCases t_suitOne t_suitTwo t_one t_weight x1 _ h) tw_1126 kk_X10_judgmentAt rfl ⟨rfl, rfl⟩ ⟨by decide, by decide⟩ (Nat.le_of_ble_eq_true rfl) 0 rfl rfl rfl [0, 2, 3] [1] [1, 0, 2, 3] rfl rfl rfl rfl rfl rfl (fun u => rfl) rfl dX10_layJudged_17 (fun r_2 u H locs h hw => ?_)
        refine astI (ws2 := (cs_Mo_layJudged g a_t a_t_judged a_t_one a_t_weight a_t_cost a_t_text a_t_read a_t_likes a_t_met a_t_line a_t_image a_t_isKept a_t_had t_points t_cases t_bytes t_position t_tokenAt t_token t_digits t_number t_row t_isRow t_faultAt t_readMany t_readPoints t_readCases t_suitOne t_suitTwo (upd t_judged x1.toNatClampNeg r_2) t_one t_weight)) C hw 1 rfl h.1 rfl dX10_layJudged_20 (fun H locs hw => ?_)
        have h := h.2
        refine lv_iinc (v := x1 + 1) (lv' := [(1, .int (x1 + 1)), (0, .ref a_t)]) hx hb dX10_layJudged_21 hl (k := 1) rfl rfl (by decide) rfl (fun ls hl => ?_)
        refine lv_goto (tgt := 2) hx hb dX10_layJudged_24 (by decide) ?_
        exact ih (x1 + 1) (upd t_judged x1.toNatClampNeg r_2) h _ _ _ hw (lv_sub hl [1, 0] rfl)
  refine lv_iconst (v := 0) hx hb dX10_layJudged_0 (by decide) ?_
  refine lv_istore_n (lv' := [(1, .int 0), (0, .ref a_t)]) hx hb dX10_layJudged_1 rfl hl (by decide) rfl (fun ls hl => ?_)
  obtain ⟨n_2, h⟩ := h
  exact hL_Mo_layJudged_2 n_2 0 t_judged h _ _ _ hw (lv_sub hl [1, 0] rfl)
def B_Mo_border_69 (t_points : Int32) (t_cases : Int32) (t_one : (Nat → Int32)) (t_weight : (Nat → Int32)) (Q : Int32 → (Nat → Int32) → Prop) (N_18 : Int32 → Int32 → (Nat → Int32) → Prop) (N_28 : Int32 → Int32 → Int32 → (Nat → Int32) → Prop) (x2 : Int32) (x3 : Int32) (k0 : Int32) (k1 : Int32) (t_judged : (Nat → Int32)) : Prop := ∀ x1_1 : Int32, x1_1 = (k0 + k1) → N_28 x1_1 x2 (x3 + 1) t_judged
def B_Mo_border_68 (t_points : Int32) (t_cases : Int32) (t_one : (Nat → Int32)) (t_weight : (Nat → Int32)) (Q : Int32 → (Nat → Int32) → Prop) (N_18 : Int32 → Int32 → (Nat → Int32) → Prop) (N_28 : Int32 → Int32 → Int32 → (Nat → Int32) → Prop) (x2 : Int32) (x3 : Int32) (k0 : Int32) (t_judged : (Nat → Int32)) : Prop := B_Mo_border_69 t_points t_cases t_one t_weight Q N_18 N_28 x2 x3 k0 0 t_judged
def L_Mo_border_28 (t_points : Int32) (t_cases : Int32) (t_one : (Nat → Int32)) (t_weight : (Nat → Int32)) (Q : Int32 → (Nat → Int32) → Prop) (N_18 : Int32 → Int32 → (Nat → Int32) → Prop) : Nat → Int32 → Int32 → Int32 → (Nat → Int32) → Prop
  | 0 => fun _ _ _ _ => False
  | n + 1 => fun x1 x2 x3 t_judged => (t_points ≤ x3 → N_18 x1 (x2 + 1) t_judged) ∧ (¬ t_points ≤ x3 → P_Mo_has x2 x3 (fun r_2 => (¬ r_2 = 0 → B_Mo_border_68 t_points t_cases t_one t_weight Q N_18 (L_Mo_border_28 t_points t_cases t_one t_weight Q N_18 n) x2 x3 x1 t_judged) ∧ (r_2 = 0 → vp_in x2 1024 ∧ (vp_in (x2 ||| (1 <<< (x3 &&& 31))) 1024 ∧ (((t_judged x2.toNatClampNeg) = (t_judged (x2 ||| (1 <<< (x3 &&& 31))).toNatClampNeg) → B_Mo_border_68 t_points t_cases t_one t_weight Q N_18 (L_Mo_border_28 t_points t_cases t_one t_weight Q N_18 n) x2 x3 x1 t_judged) ∧ (¬ (t_judged x2.toNatClampNeg) = (t_judged (x2 ||| (1 <<< (x3 &&& 31))).toNatClampNeg) → B_Mo_border_69 t_points t_cases t_one t_weight Q N_18 (L_Mo_border_28 t_points t_cases t_one t_weight Q N_18 n) x2 x3 x1 1 t_judged))))))
def L_Mo_border_18 (t_points : Int32) (t_cases : Int32) (t_one : (Nat → Int32)) (t_weight : (Nat → Int32)) (Q : Int32 → (Nat → Int32) → Prop) : Nat → Int32 → Int32 → (Nat → Int32) → Prop
  | 0 => fun _ _ _ => False
  | n + 1 => fun x1 x2 t_judged => P_Mo_deedMany t_points (fun r_3 => (r_3 ≤ x2 → Q x1 t_judged) ∧ (¬ r_3 ≤ x2 → ∃ n_28 : Nat, L_Mo_border_28 t_points t_cases t_one t_weight Q (L_Mo_border_18 t_points t_cases t_one t_weight Q n) n_28 x1 x2 0 t_judged))
def P_Mo_border (t_points : Int32) (t_cases : Int32) (t_judged : (Nat → Int32)) (t_one : (Nat → Int32)) (t_weight : (Nat → Int32)) (Q : Int32 → (Nat → Int32) → Prop) : Prop := (¬ t_cases = 0 → P_Mo_layJudged t_points t_cases t_judged t_one t_weight (fun t_judged_4 => ∃ n_18 : Nat, L_Mo_border_18 t_points t_cases t_one t_weight Q n_18 0 0 t_judged_4)) ∧ (t_cases = 0 → Q (-4) t_judged)
abbrev rm_Mo_border : Room := { frames := 5, cells := 0, slots := 0, locals := 115 }
def cs_Mo_border (g : GE) (a_t a_t_judged a_t_one a_t_weight a_t_cost a_t_text a_t_read a_t_likes a_t_met a_t_line a_t_image a_t_isKept a_t_had : Nat) (t_points : Int32) (t_cases : Int32) (t_bytes : Int32) (t_position : Int32) (t_tokenAt : Int32) (t_token : Int64) (t_digits : Int32) (t_number : Int32) (t_row : Int32) (t_isRow : Int32) (t_faultAt : Int32) (t_readMany : Int32) (t_readPoints : Int32) (t_readCases : Int32) (t_suitOne : Int32) (t_suitTwo : Int32) (t_judged : (Nat → Int32)) (t_one : (Nat → Int32)) (t_weight : (Nat → Int32)) : va_W := [oc a_t 10 [.int t_points, .ref a_t_weight, .ref a_t_cost, .int t_cases, .ref a_t_one, .int t_bytes, .ref a_t_text, .int t_position, .int t_tokenAt, .long t_token, .int t_digits, .int t_number, .int t_row, .int t_isRow, .int t_faultAt, .int t_readMany, .int t_readPoints, .int t_readCases, .ref a_t_read, .ref a_t_likes, .ref a_t_judged, .ref a_t_met, .ref a_t_line, .ref a_t_image, .ref a_t_isKept, .int t_suitOne, .int t_suitTwo, .ref a_t_had], ai g a_t_judged 1024 t_judged, ai g a_t_one 56 t_one, ai g a_t_weight 10 t_weight]
set_option maxHeartbeats 4000000 in
set_option maxRecDepth 100000 in
theorem c_Mo_border (l : Launch) (g : GE) (a_t a_t_judged a_t_one a_t_weight a_t_cost a_t_text a_t_read a_t_likes a_t_met a_t_line a_t_image a_t_isKept a_t_had : Nat) (t_points : Int32) (t_cases : Int32) (t_bytes : Int32) (t_position : Int32) (t_tokenAt : Int32) (t_token : Int64) (t_digits : Int32) (t_number : Int32) (t_row : Int32) (t_isRow : Int32) (t_faultAt : Int32) (t_readMany : Int32) (t_readPoints : Int32) (t_readCases : Int32) (t_suitOne : Int32) (t_suitTwo : Int32) (t_judged : (Nat → Int32)) (t_one : (Nat → Int32)) (t_weight : (Nat → Int32)) (Q : Int32 → (Nat → Int32) → Prop) (h : P_Mo_border t_points t_cases t_judged t_one t_weight Q) : Cti l g yX10_border cX10_border 4 (some .int) rm_Mo_border [.ref a_t] (cs_Mo_border g a_t a_t_judged a_t_one a_t_weight a_t_cost a_t_text a_t_read a_t_likes a_t_met a_t_line a_t_image a_t_isKept a_t_had t_points t_cases t_bytes t_position t_tokenAt t_token t_digits t_number t_row t_isRow t_faultAt t_readMany t_readPoints t_readCases t_suitOne t_suitTwo t_judged t_one t_weight) (S := (Nat → Int32)) (fun r u => Q r u) (fun u => (cs_Mo_border g a_t a_t_judged a_t_one a_t_weight a_t_cost a_t_text a_t_read a_t_likes a_t_met a_t_line a_t_image a_t_isKept a_t_had t_points t_cases t_bytes t_position t_tokenAt t_token t_digits t_number t_row t_isRow t_faultAt t_readMany t_readPoints t_readCases t_suitOne t_suitTwo u t_one t_weight)) := by
  refine meetI rfl (Nat.le_of_ble_eq_true rfl) ⟨rfl, rfl⟩ ?_
  intro p e s m args below meth c A Qf ls C hret hw hl
  have hx := C.1
  have hb := C.2.1
  have hown := C.2.2.2.1
  have hts := C.2.2.2.2.1
  have hE := C.2.2.2.2.2.1
  have hl : lv_has ls 4 [(0, .ref a_t)] := hl
  have hB_Mo_border_69 : ∀ (N_18 : Int32 → Int32 → (Nat → Int32) → Prop) (hN_18 : ∀ (x1 : Int32) (x2 : Int32) (t_judged : (Nat → Int32)), N_18 x1 x2 t_judged → Wat p l e rm_Mo_border s m args below meth c A Qf g 4 (cs_Mo_border g a_t a_t_judged a_t_one a_t_weight a_t_cost a_t_text a_t_read a_t_likes a_t_met a_t_line a_t_image a_t_isKept a_t_had t_points t_cases t_bytes t_position t_tokenAt t_token t_digits t_number t_row t_isRow t_faultAt t_readMany t_readPoints t_readCases t_suitOne t_suitTwo t_judged t_one t_weight) [(0, .ref a_t), (1, .int x1), (2, .int x2)] 18 []) (N_28 : Int32 → Int32 → Int32 → (Nat → Int32) → Prop) (hN_28 : ∀ (x1 : Int32) (x2 : Int32) (x3 : Int32) (t_judged : (Nat → Int32)), N_28 x1 x2 x3 t_judged → Wat p l e rm_Mo_border s m args below meth c A Qf g 4 (cs_Mo_border g a_t a_t_judged a_t_one a_t_weight a_t_cost a_t_text a_t_read a_t_likes a_t_met a_t_line a_t_image a_t_isKept a_t_had t_points t_cases t_bytes t_position t_tokenAt t_token t_digits t_number t_row t_isRow t_faultAt t_readMany t_readPoints t_readCases t_suitOne t_suitTwo t_judged t_one t_weight) [(0, .ref a_t), (1, .int x1), (2, .int x2), (3, .int x3)] 28 []) (x2 : Int32) (x3 : Int32) (k0 : Int32) (k1 : Int32) (t_judged : (Nat → Int32)), B_Mo_border_69 t_points t_cases t_one t_weight Q N_18 N_28 x2 x3 k0 k1 t_judged → Wat p l e rm_Mo_border s m args below meth c A Qf g 4 (cs_Mo_border g a_t a_t_judged a_t_one a_t_weight a_t_cost a_t_text a_t_read a_t_likes a_t_met a_t_line a_t_image a_t_isKept a_t_had t_points t_cases t_bytes t_position t_tokenAt t_token t_digits t_number t_row t_isRow t_faultAt t_readMany t_readPoints t_readCases t_suitOne t_suitTwo t_judged t_one t_weight) [(0, .ref a_t), (2, .int x2), (3, .int x3)] 69 [.int k1, .int k0] := by
    intro N_18 hN_18 N_28 hN_28 x2 x3 k0 k1 t_judged h H locs ls hw hl
    refine lv_iadd hx hb dX10_border_69 ?_
    refine lv_topi (fun x1_1 ex1_1 => ?_)
    have h := h x1_1 ex1_1
    refine lv_istore_n (lv' := [(1, .int x1_1), (0, .ref a_t), (2, .int x2), (3, .int x3)]) hx hb dX10_border_70 rfl hl (by decide) rfl (fun ls hl => ?_)
    refine lv_iinc (v := x3 + 1) (lv' := [(3, .int (x3 + 1)), (1, .int x1_1), (0, .ref a_t), (2, .int x2)]) hx hb dX10_border_71 hl (k := 3) rfl rfl (by decide) rfl (fun ls hl => ?_)
    refine lv_goto (tgt := 28) hx hb dX10_border_74 (by decide) ?_
    exact hN_28 x1_1 x2 (x3 + 1) t_judged h _ _ _ hw (lv_sub hl [2, 1, 3, 0] rfl)
  have hB_Mo_border_68 : ∀ (N_18 : Int32 → Int32 → (Nat → Int32) → Prop) (hN_18 : ∀ (x1 : Int32) (x2 : Int32) (t_judged : (Nat → Int32)), N_18 x1 x2 t_judged → Wat p l e rm_Mo_border s m args below meth c A Qf g 4 (cs_Mo_border g a_t a_t_judged a_t_one a_t_weight a_t_cost a_t_text a_t_read a_t_likes a_t_met a_t_line a_t_image a_t_isKept a_t_had t_points t_cases t_bytes t_position t_tokenAt t_token t_digits t_number t_row t_isRow t_faultAt t_readMany t_readPoints t_readCases t_suitOne t_suitTwo t_judged t_one t_weight) [(0, .ref a_t), (1, .int x1), (2, .int x2)] 18 []) (N_28 : Int32 → Int32 → Int32 → (Nat → Int32) → Prop) (hN_28 : ∀ (x1 : Int32) (x2 : Int32) (x3 : Int32) (t_judged : (Nat → Int32)), N_28 x1 x2 x3 t_judged → Wat p l e rm_Mo_border s m args below meth c A Qf g 4 (cs_Mo_border g a_t a_t_judged a_t_one a_t_weight a_t_cost a_t_text a_t_read a_t_likes a_t_met a_t_line a_t_image a_t_isKept a_t_had t_points t_cases t_bytes t_position t_tokenAt t_token t_digits t_number t_row t_isRow t_faultAt t_readMany t_readPoints t_readCases t_suitOne t_suitTwo t_judged t_one t_weight) [(0, .ref a_t), (1, .int x1), (2, .int x2), (3, .int x3)] 28 []) (x2 : Int32) (x3 : Int32) (k0 : Int32) (t_judged : (Nat → Int32)), B_Mo_border_68 t_points t_cases t_one t_weight Q N_18 N_28 x2 x3 k0 t_judged → Wat p l e rm_Mo_border s m args below meth c A Qf g 4 (cs_Mo_border g a_t a_t_judged a_t_one a_t_weight a_t_cost a_t_text a_t_read a_t_likes a_t_met a_t_line a_t_image a_t_isKept a_t_had t_points t_cases t_bytes t_position t_tokenAt t_token t_digits t_number t_row t_isRow t_faultAt t_readMany t_readPoints t_readCases t_suitOne t_suitTwo t_judged t_one t_weight) [(0, .ref a_t), (2, .int x2), (3, .int x3)] 68 [.int k0] := by
    intro N_18 hN_18 N_28 hN_28 x2 x3 k0 t_judged h H locs ls hw hl
    refine lv_iconst (v := 0) hx hb dX10_border_68 (by decide) ?_
    exact hB_Mo_border_69 N_18 hN_18 N_28 hN_28 x2 x3 k0 0 t_judged h _ _ _ hw (lv_sub hl [0, 1, 2] rfl)
  have hL_Mo_border_28 : ∀ (N_18 : Int32 → Int32 → (Nat → Int32) → Prop) (hN_18 : ∀ (x1 : Int32) (x2 : Int32) (t_judged : (Nat → Int32)), N_18 x1 x2 t_judged → Wat p l e rm_Mo_border s m args below meth c A Qf g 4 (cs_Mo_border g a_t a_t_judged a_t_one a_t_weight a_t_cost a_t_text a_t_read a_t_likes a_t_met a_t_line a_t_image a_t_isKept a_t_had t_points t_cases t_bytes t_position t_tokenAt t_token t_digits t_number t_row t_isRow t_faultAt t_readMany t_readPoints t_readCases t_suitOne t_suitTwo t_judged t_one t_weight) [(0, .ref a_t), (1, .int x1), (2, .int x2)] 18 []) (n : Nat) (x1 : Int32) (x2 : Int32) (x3 : Int32) (t_judged : (Nat → Int32)), L_Mo_border_28 t_points t_cases t_one t_weight Q N_18 n x1 x2 x3 t_judged → Wat p l e rm_Mo_border s m args below meth c A Qf g 4 (cs_Mo_border g a_t a_t_judged a_t_one a_t_weight a_t_cost a_t_text a_t_read a_t_likes a_t_met a_t_line a_t_image a_t_isKept a_t_had t_points t_cases t_bytes t_position t_tokenAt t_token t_digits t_number t_row t_isRow t_faultAt t_readMany t_readPoints t_readCases t_suitOne t_suitTwo t_judged t_one t_weight) [(0, .ref a_t), (1, .int x1), (2, .int x2), (3, .int x3)] 28 [] := by
    intro N_18 hN_18 n
    induction n with
    | zero => intro x1 x2 x3 t_judged h; exact absurd h id
    | succ n ih =>
      intro x1 x2 x3 t_judged h H locs ls hw hl
      rw [L_Mo_border_28] at h
      refine lv_iload_n hx hb dX10_border_28 rfl (lv_at hl 3 rfl) ?_
      refine lv_aload_n hx hb dX10_border_29 rfl (lv_at hl 0 rfl) ?_
      refine G_RX10_7 C hw 0 rfl dX10_border_30 ?_
      refine lv_icmp_ge (tgt := 77) hx hb dX10_border_33 (by decide) (fun c_33 => ?_) (fun c_33 => ?_)
      · have h := h.1 c_33
        refine lv_iinc (v := x2 + 1) (lv' := [(2, .int (x2 + 1)), (0, .ref a_t), (1, .int x1), (3, .int x3)]) hx hb dX10_border_77 hl (k := 2) rfl rfl (by decide) rfl (fun ls hl => ?_)
        refine lv_goto (tgt := 18) hx hb dX10_border_80 (by decide) ?_
        exact hN_18 x1 (x2 + 1) t_judged h _ _ _ hw (lv_sub hl [1, 2, 0] rfl)
      · have h := h.2 c_33
        refine lv_iload_n hx hb dX10_border_36 rfl (lv_at hl 1 rfl) ?_
        refine lv_iload_n hx hb dX10_border_37 rfl (lv_at hl 2 rfl) ?_
        refine lv_iload_n hx hb dX10_border_38 rfl (lv_at hl 3 rfl) ?_
        refine callSi (As := [.int x2, .int x3]) (rest := [.int x1]) C hw hl (c_Mo_has l g x2 x3 _ h) tw_1111 kk_X10_has rfl ⟨rfl, rfl⟩ ⟨by decide, by decide⟩ (Nat.le_of_ble_eq_true rfl) rfl dX10_border_39 (fun r_2 u H locs h hw => ?_)
        refine lv_if_ne (tgt := 68) hx hb dX10_border_42 (by decide) (fun c_42 => ?_) (fun c_42 => ?_)
        · have h := h.1 c_42
          exact hB_Mo_border_68 N_18 hN_18 (L_Mo_border_28 t_points t_cases t_one t_weight Q N_18 n) ih x2 x3 x1 t_judged h _ _ _ hw (lv_sub hl [0, 2, 3] rfl)
        · have h := h.2 c_42
          refine lv_aload_n hx hb dX10_border_45 rfl (lv_at hl 0 rfl) ?_
          refine G_RX10_32 C hw 0 rfl dX10_border_46 ?_
          refine lv_iload_n hx hb dX10_border_49 rfl (lv_at hl 2 rfl) ?_
          refine aldI C hw 1 rfl h.1 dX10_border_50 ?_
          have h := h.2
          refine lv_aload_n hx hb dX10_border_51 rfl (lv_at hl 0 rfl) ?_
          refine G_RX10_32 C hw 0 rfl dX10_border_52 ?_
          refine lv_iload_n hx hb dX10_border_55 rfl (lv_at hl 2 rfl) ?_
          refine lv_iconst (v := 1) hx hb dX10_border_56 (by decide) ?_
          refine lv_iload_n hx hb dX10_border_57 rfl (lv_at hl 3 rfl) ?_
          refine lv_ishl hx hb dX10_border_58 ?_
          refine lv_ior hx hb dX10_border_59 ?_
          refine aldI C hw 1 rfl h.1 dX10_border_60 ?_
          have h := h.2
          refine lv_icmp_eq (tgt := 68) hx hb dX10_border_61 (by decide) (fun c_61 => ?_) (fun c_61 => ?_)
          · have h := h.1 c_61
            exact hB_Mo_border_68 N_18 hN_18 (L_Mo_border_28 t_points t_cases t_one t_weight Q N_18 n) ih x2 x3 x1 t_judged h _ _ _ hw (lv_sub hl [0, 2, 3] rfl)
          · have h := h.2 c_61
            refine lv_iconst (v := 1) hx hb dX10_border_64 (by decide) ?_
            refine lv_goto (tgt := 69) hx hb dX10_border_65 (by decide) ?_
            exact hB_Mo_border_69 N_18 hN_18 (L_Mo_border_28 t_points t_cases t_one t_weight Q N_18 n) ih x2 x3 x1 1 t_judged h _ _ _ hw (lv_sub hl [0, 2, 3] rfl)
  have hL_Mo_border_18 : ∀ (n : Nat) (x1 : Int32) (x2 : Int32) (t_judged : (Nat → Int32)), L_Mo_border_18 t_points t_cases t_one t_weight Q n x1 x2 t_judged → Wat p l e rm_Mo_border s m args below meth c A Qf g 4 (cs_Mo_border g a_t a_t_judged a_t_one a_t_weight a_t_cost a_t_text a_t_read a_t_likes a_t_met a_t_line a_t_image a_t_isKept a_t_had t_points t_cases t_bytes t_position t_tokenAt t_token t_digits t_number t_row t_isRow t_faultAt t_readMany t_readPoints t_readCases t_suitOne t_suitTwo t_judged t_one t_weight) [(0, .ref a_t), (1, .int x1), (2, .int x2)] 18 [] := by
    intro n
    induction n with
    | zero => intro x1 x2 t_judged h; exact absurd h id
    | succ n ih =>
      intro x1 x2 t_judged h H locs ls hw hl
      rw [L_Mo_border_18] at h
      refine lv_iload_n hx hb dX10_border_18 rfl (lv_at hl 2 rfl) ?_
      refine lv_aload_n hx hb dX10_border_19 rfl (lv_at hl 0 rfl) ?_
      refine callVi (As := []) (rest := [.int x2]) (W2 := fun _ => (cs_Mo_border g a_t a_t_judged a_t_one a_t_weight a_t_cost a_t_text a_t_read a_t_likes a_t_met a_t_line a_t_image a_t_isKept a_t_had t_points t_cases t_bytes t_position t_tokenAt t_token t_digits t_number t_row t_isRow t_faultAt t_readMany t_readPoints t_readCases t_suitOne t_suitTwo t_judged t_one t_weight)) C hw hl (c_Mo_deedMany l g a_t a_t_weight a_t_cost a_t_one a_t_text a_t_read a_t_likes a_t_judged a_t_met a_t_line a_t_image a_t_isKept a_t_had t_points t_cases t_bytes t_position t_tokenAt t_token t_digits t_number t_row t_isRow t_faultAt t_readMany t_readPoints t_readCases t_suitOne t_suitTwo _ h) tw_1099 kk_X10_deedMany rfl ⟨rfl, rfl⟩ ⟨by decide, by decide⟩ (Nat.le_of_ble_eq_true rfl) 0 rfl rfl rfl [0] [1, 2, 3] [3, 0, 1, 2] rfl rfl rfl rfl rfl rfl (fun u => rfl) rfl dX10_border_20 (fun r_3 u H locs h hw => ?_)
      refine lv_icmp_ge (tgt := 83) hx hb dX10_border_23 (by decide) (fun c_23 => ?_) (fun c_23 => ?_)
      · have h := h.1 c_23
        refine lv_iload_n hx hb dX10_border_83 rfl (lv_at hl 1 rfl) ?_
        exact hret (t_judged) h hw dX10_border_84 rfl
      · have h := h.2 c_23
        refine lv_iconst (v := 0) hx hb dX10_border_26 (by decide) ?_
        refine lv_istore_n (lv' := [(3, .int 0), (0, .ref a_t), (1, .int x1), (2, .int x2)]) hx hb dX10_border_27 rfl hl (by decide) rfl (fun ls hl => ?_)
        obtain ⟨n_28, h⟩ := h
        exact hL_Mo_border_28 (L_Mo_border_18 t_points t_cases t_one t_weight Q n) ih n_28 x1 x2 0 t_judged h _ _ _ hw (lv_sub hl [1, 2, 3, 0] rfl)
  refine lv_aload_n hx hb dX10_border_0 rfl (lv_at hl 0 rfl) ?_
  refine G_RX10_54 C hw 0 rfl dX10_border_1 ?_
  refine lv_if_ne (tgt := 10) hx hb dX10_border_4 (by decide) (fun c_4 => ?_) (fun c_4 => ?_)
  · have h := h.1 c_4
    refine lv_aload_n hx hb dX10_border_10 rfl (lv_at hl 0 rfl) ?_
    refine callVv (As := []) (rest := []) (W2 := fun u => (cs_Mo_border g a_t a_t_judged a_t_one a_t_weight a_t_cost a_t_text a_t_read a_t_likes a_t_met a_t_line a_t_image a_t_isKept a_t_had t_points t_cases t_bytes t_position t_tokenAt t_token t_digits t_number t_row t_isRow t_faultAt t_readMany t_readPoints t_readCases t_suitOne t_suitTwo u t_one t_weight)) C hw hl (c_Mo_layJudged l g a_t a_t_judged a_t_one a_t_weight a_t_cost a_t_text a_t_read a_t_likes a_t_met a_t_line a_t_image a_t_isKept a_t_had t_points t_cases t_bytes t_position t_tokenAt t_token t_digits t_number t_row t_isRow t_faultAt t_readMany t_readPoints t_readCases t_suitOne t_suitTwo t_judged t_one t_weight _ h) tw_1217 kk_X10_layJudged rfl ⟨rfl, rfl⟩ ⟨by decide, by decide⟩ (Nat.le_of_ble_eq_true rfl) 0 rfl rfl rfl [0, 1, 2, 3] [] [0, 1, 2, 3] rfl rfl rfl rfl rfl rfl (fun u => rfl) rfl dX10_border_11 (fun u H locs h hw => ?_)
    obtain ⟨t_judged_4, rfl⟩ : ∃ z, z = u := ⟨_, rfl⟩
    have hw : Wd g A s (cs_Mo_border g a_t a_t_judged a_t_one a_t_weight a_t_cost a_t_text a_t_read a_t_likes a_t_met a_t_line a_t_image a_t_isKept a_t_had t_points t_cases t_bytes t_position t_tokenAt t_token t_digits t_number t_row t_isRow t_faultAt t_readMany t_readPoints t_readCases t_suitOne t_suitTwo t_judged_4 t_one t_weight) H locs := hw
    refine lv_iconst (v := 0) hx hb dX10_border_14 (by decide) ?_
    refine lv_istore_n (lv' := [(1, .int 0), (0, .ref a_t)]) hx hb dX10_border_15 rfl hl (by decide) rfl (fun ls hl => ?_)
    refine lv_iconst (v := 0) hx hb dX10_border_16 (by decide) ?_
    refine lv_istore_n (lv' := [(2, .int 0), (1, .int 0), (0, .ref a_t)]) hx hb dX10_border_17 rfl hl (by decide) rfl (fun ls hl => ?_)
    obtain ⟨n_18, h⟩ := h
    exact hL_Mo_border_18 n_18 0 0 t_judged_4 h _ _ _ hw (lv_sub hl [2, 1, 0] rfl)
  · have h := h.2 c_4
    refine lv_bipush (v := (-4)) hx hb dX10_border_7 (by decide) ?_
    exact hret (t_judged) h hw dX10_border_9 rfl
def B_Mo_spread_77 (x1 : Int32) (t_points : Int32) (Q : Int32 → (Nat → Int32) → (Nat → Int32) → Prop) (N_18 : Int32 → Int32 → (Nat → Int32) → (Nat → Int32) → Prop) (N_26 : Int32 → Int32 → Int32 → (Nat → Int32) → (Nat → Int32) → Prop) (x2 : Int32) (x3 : Int32) (x4 : Int32) (t_line : (Nat → Int32)) (t_met : (Nat → Int32)) : Prop := N_26 x2 x3 (x4 + 1) t_line t_met
def L_Mo_spread_26 (x1 : Int32) (t_points : Int32) (Q : Int32 → (Nat → Int32) → (Nat → Int32) → Prop) (N_18 : Int32 → Int32 → (Nat → Int32) → (Nat → Int32) → Prop) : Nat → Int32 → Int32 → Int32 → (Nat → Int32) → (Nat → Int32) → Prop
  | 0 => fun _ _ _ _ _ => False
  | n + 1 => fun x2 x3 x4 t_line t_met => (t_points ≤ x4 → N_18 x2 (x3 + 1) t_line t_met) ∧ (¬ t_points ≤ x4 → vp_in x3 1024 ∧ (∀ x5_1 : Int32, x5_1 = ((t_line x3.toNatClampNeg) ^^^ (1 <<< (x4 &&& 31))) → vp_in x5_1 1024 ∧ ((¬ (t_met x5_1.toNatClampNeg) = 0 → B_Mo_spread_77 x1 t_points Q N_18 (L_Mo_spread_26 x1 t_points Q N_18 n) x2 x3 x4 t_line t_met) ∧ ((t_met x5_1.toNatClampNeg) = 0 → vp_in x5_1 1024 ∧ (vp_in x2 1024 ∧ (B_Mo_spread_77 x1 t_points Q N_18 (L_Mo_spread_26 x1 t_points Q N_18 n) (x2 + 1) x3 x4 (upd t_line x2.toNatClampNeg x5_1) (upd t_met x5_1.toNatClampNeg 1)))))))
def L_Mo_spread_18 (x1 : Int32) (t_points : Int32) (Q : Int32 → (Nat → Int32) → (Nat → Int32) → Prop) : Nat → Int32 → Int32 → (Nat → Int32) → (Nat → Int32) → Prop
  | 0 => fun _ _ _ _ => False
  | n + 1 => fun x2 x3 t_line t_met => (x2 ≤ x3 → Q x2 t_line t_met) ∧ (¬ x2 ≤ x3 → ∃ n_26 : Nat, L_Mo_spread_26 x1 t_points Q (L_Mo_spread_18 x1 t_points Q n) n_26 x2 x3 0 t_line t_met)
def P_Mo_spread (x1 : Int32) (t_points : Int32) (t_line : (Nat → Int32)) (t_met : (Nat → Int32)) (Q : Int32 → (Nat → Int32) → (Nat → Int32) → Prop) : Prop := vp_in 0 1024 ∧ (vp_in x1 1024 ∧ (∃ n_18 : Nat, L_Mo_spread_18 x1 t_points Q n_18 1 0 (upd t_line (0 : Int32).toNatClampNeg x1) (upd t_met x1.toNatClampNeg 1)))
abbrev rm_Mo_spread : Room := { frames := 0, cells := 0, slots := 0, locals := 0 }
def cs_Mo_spread (g : GE) (a_t a_t_line a_t_met a_t_weight a_t_cost a_t_one a_t_text a_t_read a_t_likes a_t_judged a_t_image a_t_isKept a_t_had : Nat) (t_points : Int32) (t_cases : Int32) (t_bytes : Int32) (t_position : Int32) (t_tokenAt : Int32) (t_token : Int64) (t_digits : Int32) (t_number : Int32) (t_row : Int32) (t_isRow : Int32) (t_faultAt : Int32) (t_readMany : Int32) (t_readPoints : Int32) (t_readCases : Int32) (t_suitOne : Int32) (t_suitTwo : Int32) (t_line : (Nat → Int32)) (t_met : (Nat → Int32)) : va_W := [oc a_t 10 [.int t_points, .ref a_t_weight, .ref a_t_cost, .int t_cases, .ref a_t_one, .int t_bytes, .ref a_t_text, .int t_position, .int t_tokenAt, .long t_token, .int t_digits, .int t_number, .int t_row, .int t_isRow, .int t_faultAt, .int t_readMany, .int t_readPoints, .int t_readCases, .ref a_t_read, .ref a_t_likes, .ref a_t_judged, .ref a_t_met, .ref a_t_line, .ref a_t_image, .ref a_t_isKept, .int t_suitOne, .int t_suitTwo, .ref a_t_had], ai g a_t_line 1024 t_line, ai g a_t_met 1024 t_met]
set_option maxHeartbeats 4000000 in
set_option maxRecDepth 100000 in
theorem c_Mo_spread (l : Launch) (g : GE) (a_t a_t_line a_t_met a_t_weight a_t_cost a_t_one a_t_text a_t_read a_t_likes a_t_judged a_t_image a_t_isKept a_t_had : Nat) (t_points : Int32) (t_cases : Int32) (t_bytes : Int32) (t_position : Int32) (t_tokenAt : Int32) (t_token : Int64) (t_digits : Int32) (t_number : Int32) (t_row : Int32) (t_isRow : Int32) (t_faultAt : Int32) (t_readMany : Int32) (t_readPoints : Int32) (t_readCases : Int32) (t_suitOne : Int32) (t_suitTwo : Int32) (t_line : (Nat → Int32)) (t_met : (Nat → Int32)) (x1 : Int32) (Q : Int32 → (Nat → Int32) → (Nat → Int32) → Prop) (h : P_Mo_spread x1 t_points t_line t_met Q) : Cti l g yX10_spread cX10_spread 6 (some .int) rm_Mo_spread [.ref a_t, .int x1] (cs_Mo_spread g a_t a_t_line a_t_met a_t_weight a_t_cost a_t_one a_t_text a_t_read a_t_likes a_t_judged a_t_image a_t_isKept a_t_had t_points t_cases t_bytes t_position t_tokenAt t_token t_digits t_number t_row t_isRow t_faultAt t_readMany t_readPoints t_readCases t_suitOne t_suitTwo t_line t_met) (S := (Nat → Int32) × (Nat → Int32)) (fun r u => Q r u.1 u.2) (fun u => (cs_Mo_spread g a_t a_t_line a_t_met a_t_weight a_t_cost a_t_one a_t_text a_t_read a_t_likes a_t_judged a_t_image a_t_isKept a_t_had t_points t_cases t_bytes t_position t_tokenAt t_token t_digits t_number t_row t_isRow t_faultAt t_readMany t_readPoints t_readCases t_suitOne t_suitTwo (u.1) (u.2))) := by
  refine meetI rfl (Nat.le_of_ble_eq_true rfl) ⟨rfl, rfl⟩ ?_
  intro p e s m args below meth c A Qf ls C hret hw hl
  have hx := C.1
  have hb := C.2.1
  have hown := C.2.2.2.1
  have hts := C.2.2.2.2.1
  have hE := C.2.2.2.2.2.1
  have hl : lv_has ls 6 [(0, .ref a_t), (1, .int x1)] := hl
  have hB_Mo_spread_77 : ∀ (N_18 : Int32 → Int32 → (Nat → Int32) → (Nat → Int32) → Prop) (hN_18 : ∀ (x2 : Int32) (x3 : Int32) (t_line : (Nat → Int32)) (t_met : (Nat → Int32)), N_18 x2 x3 t_line t_met → Wat p l e rm_Mo_spread s m args below meth c A Qf g 6 (cs_Mo_spread g a_t a_t_line a_t_met a_t_weight a_t_cost a_t_one a_t_text a_t_read a_t_likes a_t_judged a_t_image a_t_isKept a_t_had t_points t_cases t_bytes t_position t_tokenAt t_token t_digits t_number t_row t_isRow t_faultAt t_readMany t_readPoints t_readCases t_suitOne t_suitTwo t_line t_met) [(0, .ref a_t), (2, .int x2), (3, .int x3)] 18 []) (N_26 : Int32 → Int32 → Int32 → (Nat → Int32) → (Nat → Int32) → Prop) (hN_26 : ∀ (x2 : Int32) (x3 : Int32) (x4 : Int32) (t_line : (Nat → Int32)) (t_met : (Nat → Int32)), N_26 x2 x3 x4 t_line t_met → Wat p l e rm_Mo_spread s m args below meth c A Qf g 6 (cs_Mo_spread g a_t a_t_line a_t_met a_t_weight a_t_cost a_t_one a_t_text a_t_read a_t_likes a_t_judged a_t_image a_t_isKept a_t_had t_points t_cases t_bytes t_position t_tokenAt t_token t_digits t_number t_row t_isRow t_faultAt t_readMany t_readPoints t_readCases t_suitOne t_suitTwo t_line t_met) [(0, .ref a_t), (2, .int x2), (3, .int x3), (4, .int x4)] 26 []) (x2 : Int32) (x3 : Int32) (x4 : Int32) (t_line : (Nat → Int32)) (t_met : (Nat → Int32)), B_Mo_spread_77 x1 t_points Q N_18 N_26 x2 x3 x4 t_line t_met → Wat p l e rm_Mo_spread s m args below meth c A Qf g 6 (cs_Mo_spread g a_t a_t_line a_t_met a_t_weight a_t_cost a_t_one a_t_text a_t_read a_t_likes a_t_judged a_t_image a_t_isKept a_t_had t_points t_cases t_bytes t_position t_tokenAt t_token t_digits t_number t_row t_isRow t_faultAt t_readMany t_readPoints t_readCases t_suitOne t_suitTwo t_line t_met) [(0, .ref a_t), (2, .int x2), (3, .int x3), (4, .int x4)] 77 [] := by
    intro N_18 hN_18 N_26 hN_26 x2 x3 x4 t_line t_met h H locs ls hw hl
    refine lv_iinc (v := x4 + 1) (lv' := [(4, .int (x4 + 1)), (0, .ref a_t), (2, .int x2), (3, .int x3)]) hx hb dX10_spread_77 hl (k := 3) rfl rfl (by decide) rfl (fun ls hl => ?_)
    refine lv_goto (tgt := 26) hx hb dX10_spread_80 (by decide) ?_
    exact hN_26 x2 x3 (x4 + 1) t_line t_met h _ _ _ hw (lv_sub hl [1, 2, 3, 0] rfl)
  have hL_Mo_spread_26 : ∀ (N_18 : Int32 → Int32 → (Nat → Int32) → (Nat → Int32) → Prop) (hN_18 : ∀ (x2 : Int32) (x3 : Int32) (t_line : (Nat → Int32)) (t_met : (Nat → Int32)), N_18 x2 x3 t_line t_met → Wat p l e rm_Mo_spread s m args below meth c A Qf g 6 (cs_Mo_spread g a_t a_t_line a_t_met a_t_weight a_t_cost a_t_one a_t_text a_t_read a_t_likes a_t_judged a_t_image a_t_isKept a_t_had t_points t_cases t_bytes t_position t_tokenAt t_token t_digits t_number t_row t_isRow t_faultAt t_readMany t_readPoints t_readCases t_suitOne t_suitTwo t_line t_met) [(0, .ref a_t), (2, .int x2), (3, .int x3)] 18 []) (n : Nat) (x2 : Int32) (x3 : Int32) (x4 : Int32) (t_line : (Nat → Int32)) (t_met : (Nat → Int32)), L_Mo_spread_26 x1 t_points Q N_18 n x2 x3 x4 t_line t_met → Wat p l e rm_Mo_spread s m args below meth c A Qf g 6 (cs_Mo_spread g a_t a_t_line a_t_met a_t_weight a_t_cost a_t_one a_t_text a_t_read a_t_likes a_t_judged a_t_image a_t_isKept a_t_had t_points t_cases t_bytes t_position t_tokenAt t_token t_digits t_number t_row t_isRow t_faultAt t_readMany t_readPoints t_readCases t_suitOne t_suitTwo t_line t_met) [(0, .ref a_t), (2, .int x2), (3, .int x3), (4, .int x4)] 26 [] := by
    intro N_18 hN_18 n
    induction n with
    | zero => intro x2 x3 x4 t_line t_met h; exact absurd h id
    | succ n ih =>
      intro x2 x3 x4 t_line t_met h H locs ls hw hl
      rw [L_Mo_spread_26] at h
      refine lv_iload hx hb dX10_spread_26 (lv_at hl 3 rfl) ?_
      refine lv_aload_n hx hb dX10_spread_28 rfl (lv_at hl 0 rfl) ?_
      refine G_RX10_7 C hw 0 rfl dX10_spread_29 ?_
      refine lv_icmp_ge (tgt := 83) hx hb dX10_spread_32 (by decide) (fun c_32 => ?_) (fun c_32 => ?_)
      · have h := h.1 c_32
        refine lv_iinc (v := x3 + 1) (lv' := [(3, .int (x3 + 1)), (0, .ref a_t), (2, .int x2), (4, .int x4)]) hx hb dX10_spread_83 hl (k := 2) rfl rfl (by decide) rfl (fun ls hl => ?_)
        refine lv_goto (tgt := 18) hx hb dX10_spread_86 (by decide) ?_
        exact hN_18 x2 (x3 + 1) t_line t_met h _ _ _ hw (lv_sub hl [1, 2, 0] rfl)
      · have h := h.2 c_32
        refine lv_aload_n hx hb dX10_spread_35 rfl (lv_at hl 0 rfl) ?_
        refine G_RX10_38 C hw 0 rfl dX10_spread_36 ?_
        refine lv_iload_n hx hb dX10_spread_39 rfl (lv_at hl 2 rfl) ?_
        refine aldI C hw 1 rfl h.1 dX10_spread_40 ?_
        have h := h.2
        refine lv_iconst (v := 1) hx hb dX10_spread_41 (by decide) ?_
        refine lv_iload hx hb dX10_spread_42 (lv_at hl 3 rfl) ?_
        refine lv_ishl hx hb dX10_spread_44 ?_
        refine lv_ixor hx hb dX10_spread_45 ?_
        refine lv_topi (fun x5_1 ex5_1 => ?_)
        have h := h x5_1 ex5_1
        refine lv_istore (lv' := [(5, .int x5_1), (0, .ref a_t), (2, .int x2), (3, .int x3), (4, .int x4)]) hx hb dX10_spread_46 hl (by decide) rfl (fun ls hl => ?_)
        refine lv_aload_n hx hb dX10_spread_48 rfl (lv_at hl 1 rfl) ?_
        refine G_RX10_35 C hw 0 rfl dX10_spread_49 ?_
        refine lv_iload hx hb dX10_spread_52 (lv_at hl 0 rfl) ?_
        refine aldI C hw 2 rfl h.1 dX10_spread_54 ?_
        have h := h.2
        refine lv_if_ne (tgt := 77) hx hb dX10_spread_55 (by decide) (fun c_55 => ?_) (fun c_55 => ?_)
        · have h := h.1 c_55
          exact hB_Mo_spread_77 N_18 hN_18 (L_Mo_spread_26 x1 t_points Q N_18 n) ih x2 x3 x4 t_line t_met h _ _ _ hw (lv_sub hl [1, 2, 3, 4] rfl)
        · have h := h.2 c_55
          refine lv_aload_n hx hb dX10_spread_58 rfl (lv_at hl 1 rfl) ?_
          refine G_RX10_35 C hw 0 rfl dX10_spread_59 ?_
          refine lv_iload hx hb dX10_spread_62 (lv_at hl 0 rfl) ?_
          refine lv_iconst (v := 1) hx hb dX10_spread_64 (by decide) ?_
          refine astI (ws2 := (cs_Mo_spread g a_t a_t_line a_t_met a_t_weight a_t_cost a_t_one a_t_text a_t_read a_t_likes a_t_judged a_t_image a_t_isKept a_t_had t_points t_cases t_bytes t_position t_tokenAt t_token t_digits t_number t_row t_isRow t_faultAt t_readMany t_readPoints t_readCases t_suitOne t_suitTwo t_line (upd t_met x5_1.toNatClampNeg 1))) C hw 2 rfl h.1 rfl dX10_spread_65 (fun H locs hw => ?_)
          have h := h.2
          refine lv_aload_n hx hb dX10_spread_66 rfl (lv_at hl 1 rfl) ?_
          refine G_RX10_38 C hw 0 rfl dX10_spread_67 ?_
          refine lv_iload_n hx hb dX10_spread_70 rfl (lv_at hl 2 rfl) ?_
          refine lv_iload hx hb dX10_spread_71 (lv_at hl 0 rfl) ?_
          refine astI (ws2 := (cs_Mo_spread g a_t a_t_line a_t_met a_t_weight a_t_cost a_t_one a_t_text a_t_read a_t_likes a_t_judged a_t_image a_t_isKept a_t_had t_points t_cases t_bytes t_position t_tokenAt t_token t_digits t_number t_row t_isRow t_faultAt t_readMany t_readPoints t_readCases t_suitOne t_suitTwo (upd t_line x2.toNatClampNeg x5_1) (upd t_met x5_1.toNatClampNeg 1))) C hw 1 rfl h.1 rfl dX10_spread_73 (fun H locs hw => ?_)
          have h := h.2
          refine lv_iinc (v := x2 + 1) (lv' := [(2, .int (x2 + 1)), (5, .int x5_1), (0, .ref a_t), (3, .int x3), (4, .int x4)]) hx hb dX10_spread_74 hl (k := 2) rfl rfl (by decide) rfl (fun ls hl => ?_)
          exact hB_Mo_spread_77 N_18 hN_18 (L_Mo_spread_26 x1 t_points Q N_18 n) ih (x2 + 1) x3 x4 (upd t_line x2.toNatClampNeg x5_1) (upd t_met x5_1.toNatClampNeg 1) h _ _ _ hw (lv_sub hl [2, 0, 3, 4] rfl)
  have hL_Mo_spread_18 : ∀ (n : Nat) (x2 : Int32) (x3 : Int32) (t_line : (Nat → Int32)) (t_met : (Nat → Int32)), L_Mo_spread_18 x1 t_points Q n x2 x3 t_line t_met → Wat p l e rm_Mo_spread s m args below meth c A Qf g 6 (cs_Mo_spread g a_t a_t_line a_t_met a_t_weight a_t_cost a_t_one a_t_text a_t_read a_t_likes a_t_judged a_t_image a_t_isKept a_t_had t_points t_cases t_bytes t_position t_tokenAt t_token t_digits t_number t_row t_isRow t_faultAt t_readMany t_readPoints t_readCases t_suitOne t_suitTwo t_line t_met) [(0, .ref a_t), (2, .int x2), (3, .int x3)] 18 [] := by
    intro n
    induction n with
    | zero => intro x2 x3 t_line t_met h; exact absurd h id
    | succ n ih =>
      intro x2 x3 t_line t_met h H locs ls hw hl
      rw [L_Mo_spread_18] at h
      refine lv_iload_n hx hb dX10_spread_18 rfl (lv_at hl 2 rfl) ?_
      refine lv_iload_n hx hb dX10_spread_19 rfl (lv_at hl 1 rfl) ?_
      refine lv_icmp_ge (tgt := 89) hx hb dX10_spread_20 (by decide) (fun c_20 => ?_) (fun c_20 => ?_)
      · have h := h.1 c_20
        refine lv_iload_n hx hb dX10_spread_89 rfl (lv_at hl 1 rfl) ?_
        exact hret (t_line, t_met) h hw dX10_spread_90 rfl
      · have h := h.2 c_20
        refine lv_iconst (v := 0) hx hb dX10_spread_23 (by decide) ?_
        refine lv_istore (lv' := [(4, .int 0), (0, .ref a_t), (2, .int x2), (3, .int x3)]) hx hb dX10_spread_24 hl (by decide) rfl (fun ls hl => ?_)
        obtain ⟨n_26, h⟩ := h
        exact hL_Mo_spread_26 (L_Mo_spread_18 x1 t_points Q n) ih n_26 x2 x3 0 t_line t_met h _ _ _ hw (lv_sub hl [1, 2, 3, 0] rfl)
  refine lv_iconst (v := 1) hx hb dX10_spread_0 (by decide) ?_
  refine lv_istore_n (lv' := [(2, .int 1), (0, .ref a_t), (1, .int x1)]) hx hb dX10_spread_1 rfl hl (by decide) rfl (fun ls hl => ?_)
  refine lv_aload_n hx hb dX10_spread_2 rfl (lv_at hl 1 rfl) ?_
  refine G_RX10_38 C hw 0 rfl dX10_spread_3 ?_
  refine lv_iconst (v := 0) hx hb dX10_spread_6 (by decide) ?_
  refine lv_iload_n hx hb dX10_spread_7 rfl (lv_at hl 2 rfl) ?_
  refine astI (ws2 := (cs_Mo_spread g a_t a_t_line a_t_met a_t_weight a_t_cost a_t_one a_t_text a_t_read a_t_likes a_t_judged a_t_image a_t_isKept a_t_had t_points t_cases t_bytes t_position t_tokenAt t_token t_digits t_number t_row t_isRow t_faultAt t_readMany t_readPoints t_readCases t_suitOne t_suitTwo (upd t_line (0 : Int32).toNatClampNeg x1) t_met)) C hw 1 rfl h.1 rfl dX10_spread_8 (fun H locs hw => ?_)
  have h := h.2
  refine lv_aload_n hx hb dX10_spread_9 rfl (lv_at hl 1 rfl) ?_
  refine G_RX10_35 C hw 0 rfl dX10_spread_10 ?_
  refine lv_iload_n hx hb dX10_spread_13 rfl (lv_at hl 2 rfl) ?_
  refine lv_iconst (v := 1) hx hb dX10_spread_14 (by decide) ?_
  refine astI (ws2 := (cs_Mo_spread g a_t a_t_line a_t_met a_t_weight a_t_cost a_t_one a_t_text a_t_read a_t_likes a_t_judged a_t_image a_t_isKept a_t_had t_points t_cases t_bytes t_position t_tokenAt t_token t_digits t_number t_row t_isRow t_faultAt t_readMany t_readPoints t_readCases t_suitOne t_suitTwo (upd t_line (0 : Int32).toNatClampNeg x1) (upd t_met x1.toNatClampNeg 1))) C hw 2 rfl h.1 rfl dX10_spread_15 (fun H locs hw => ?_)
  have h := h.2
  refine lv_iconst (v := 0) hx hb dX10_spread_16 (by decide) ?_
  refine lv_istore_n (lv' := [(3, .int 0), (2, .int 1), (0, .ref a_t), (1, .int x1)]) hx hb dX10_spread_17 rfl hl (by decide) rfl (fun ls hl => ?_)
  obtain ⟨n_18, h⟩ := h
  exact hL_Mo_spread_18 n_18 1 0 (upd t_line (0 : Int32).toNatClampNeg x1) (upd t_met x1.toNatClampNeg 1) h _ _ _ hw (lv_sub hl [2, 1, 0] rfl)
def B_Mo_parts_16 (x1 : Int32) (x2 : Int32) (t_points : Int32) (t_cases : Int32) (t_one : (Nat → Int32)) (t_weight : (Nat → Int32)) (Q : Int32 → (Nat → Int32) → (Nat → Int32) → (Nat → Int32) → Prop) (t_judged : (Nat → Int32)) (t_line : (Nat → Int32)) (t_met : (Nat → Int32)) : Prop := Q (-3) t_judged t_line t_met
def B_Mo_parts_130 (x1 : Int32) (x2 : Int32) (t_points : Int32) (t_cases : Int32) (t_one : (Nat → Int32)) (t_weight : (Nat → Int32)) (Q : Int32 → (Nat → Int32) → (Nat → Int32) → (Nat → Int32) → Prop) (k0 : Int32) (t_judged : (Nat → Int32)) (t_line : (Nat → Int32)) (t_met : (Nat → Int32)) : Prop := Q k0 t_judged t_line t_met
def B_Mo_parts_114 (x1 : Int32) (x2 : Int32) (t_points : Int32) (t_cases : Int32) (t_one : (Nat → Int32)) (t_weight : (Nat → Int32)) (Q : Int32 → (Nat → Int32) → (Nat → Int32) → (Nat → Int32) → Prop) (N_68 : Int32 → Int32 → Int32 → (Nat → Int32) → (Nat → Int32) → (Nat → Int32) → Prop) (x3 : Int32) (x4 : Int32) (x5 : Int32) (t_judged : (Nat → Int32)) (t_line : (Nat → Int32)) (t_met : (Nat → Int32)) : Prop := N_68 x3 x4 (x5 + 1) t_judged t_line t_met
def B_Mo_parts_112 (x1 : Int32) (x2 : Int32) (t_points : Int32) (t_cases : Int32) (t_one : (Nat → Int32)) (t_weight : (Nat → Int32)) (Q : Int32 → (Nat → Int32) → (Nat → Int32) → (Nat → Int32) → Prop) (N_68 : Int32 → Int32 → Int32 → (Nat → Int32) → (Nat → Int32) → (Nat → Int32) → Prop) (x3 : Int32) (x5 : Int32) (k0 : Int32) (t_judged : (Nat → Int32)) (t_line : (Nat → Int32)) (t_met : (Nat → Int32)) : Prop := B_Mo_parts_114 x1 x2 t_points t_cases t_one t_weight Q N_68 x3 k0 x5 t_judged t_line t_met
def L_Mo_parts_68 (x1 : Int32) (x2 : Int32) (t_points : Int32) (t_cases : Int32) (t_one : (Nat → Int32)) (t_weight : (Nat → Int32)) (Q : Int32 → (Nat → Int32) → (Nat → Int32) → (Nat → Int32) → Prop) : Nat → Int32 → Int32 → Int32 → (Nat → Int32) → (Nat → Int32) → (Nat → Int32) → Prop
  | 0 => fun _ _ _ _ _ _ => False
  | n + 1 => fun x3 x4 x5 t_judged t_line t_met => P_Mo_deedMany t_points (fun r_1 => (r_1 ≤ x5 → (¬ x2 = 0 → B_Mo_parts_130 x1 x2 t_points t_cases t_one t_weight Q x4 t_judged t_line t_met) ∧ (x2 = 0 → B_Mo_parts_130 x1 x2 t_points t_cases t_one t_weight Q x3 t_judged t_line t_met)) ∧ (¬ r_1 ≤ x5 → vp_in x5 1024 ∧ ((¬ (t_met x5.toNatClampNeg) = 0 → B_Mo_parts_114 x1 x2 t_points t_cases t_one t_weight Q (L_Mo_parts_68 x1 x2 t_points t_cases t_one t_weight Q n) x3 x4 x5 t_judged t_line t_met) ∧ ((t_met x5.toNatClampNeg) = 0 → P_Mo_spread x5 t_points t_line t_met (fun r_2 t_line_3 t_met_4 => (r_2 ≤ x4 → B_Mo_parts_112 x1 x2 t_points t_cases t_one t_weight Q (L_Mo_parts_68 x1 x2 t_points t_cases t_one t_weight Q n) (x3 + 1) x5 x4 t_judged t_line_3 t_met_4) ∧ (¬ r_2 ≤ x4 → B_Mo_parts_112 x1 x2 t_points t_cases t_one t_weight Q (L_Mo_parts_68 x1 x2 t_points t_cases t_one t_weight Q n) (x3 + 1) x5 r_2 t_judged t_line_3 t_met_4))))))
def B_Mo_parts_53 (x1 : Int32) (x2 : Int32) (t_points : Int32) (t_cases : Int32) (t_one : (Nat → Int32)) (t_weight : (Nat → Int32)) (Q : Int32 → (Nat → Int32) → (Nat → Int32) → (Nat → Int32) → Prop) (N_25 : Int32 → (Nat → Int32) → (Nat → Int32) → (Nat → Int32) → Prop) (x3 : Int32) (k1 : Int32) (k2 : Int32) (t_judged : (Nat → Int32)) (t_line : (Nat → Int32)) (t_met : (Nat → Int32)) : Prop := vp_in k1 1024 ∧ (N_25 (x3 + 1) t_judged t_line (upd t_met k1.toNatClampNeg k2))
def L_Mo_parts_25 (x1 : Int32) (x2 : Int32) (t_points : Int32) (t_cases : Int32) (t_one : (Nat → Int32)) (t_weight : (Nat → Int32)) (Q : Int32 → (Nat → Int32) → (Nat → Int32) → (Nat → Int32) → Prop) : Nat → Int32 → (Nat → Int32) → (Nat → Int32) → (Nat → Int32) → Prop
  | 0 => fun _ _ _ _ => False
  | n + 1 => fun x3 t_judged t_line t_met => P_Mo_deedMany t_points (fun r_5 => (r_5 ≤ x3 → ∃ n_68 : Nat, L_Mo_parts_68 x1 x2 t_points t_cases t_one t_weight Q n_68 0 0 0 t_judged t_line t_met) ∧ (¬ r_5 ≤ x3 → vp_in x3 1024 ∧ ((¬ (t_judged x3.toNatClampNeg) = x1 → B_Mo_parts_53 x1 x2 t_points t_cases t_one t_weight Q (L_Mo_parts_25 x1 x2 t_points t_cases t_one t_weight Q n) x3 x3 1 t_judged t_line t_met) ∧ ((t_judged x3.toNatClampNeg) = x1 → B_Mo_parts_53 x1 x2 t_points t_cases t_one t_weight Q (L_Mo_parts_25 x1 x2 t_points t_cases t_one t_weight Q n) x3 x3 0 t_judged t_line t_met))))
def P_Mo_parts (x1 : Int32) (x2 : Int32) (t_points : Int32) (t_cases : Int32) (t_judged : (Nat → Int32)) (t_line : (Nat → Int32)) (t_met : (Nat → Int32)) (t_one : (Nat → Int32)) (t_weight : (Nat → Int32)) (Q : Int32 → (Nat → Int32) → (Nat → Int32) → (Nat → Int32) → Prop) : Prop := P_Mo_isJudgment x1 (fun r_6 => (r_6 = 0 → B_Mo_parts_16 x1 x2 t_points t_cases t_one t_weight Q t_judged t_line t_met) ∧ (¬ r_6 = 0 → P_Mo_in x2 0 1 (fun r_7 => (¬ r_7 = 0 → P_Mo_layJudged t_points t_cases t_judged t_one t_weight (fun t_judged_8 => ∃ n_25 : Nat, L_Mo_parts_25 x1 x2 t_points t_cases t_one t_weight Q n_25 0 t_judged_8 t_line t_met)) ∧ (r_7 = 0 → B_Mo_parts_16 x1 x2 t_points t_cases t_one t_weight Q t_judged t_line t_met))))
abbrev rm_Mo_parts : Room := { frames := 5, cells := 0, slots := 0, locals := 115 }
def cs_Mo_parts (g : GE) (a_t a_t_judged a_t_line a_t_met a_t_one a_t_weight a_t_cost a_t_text a_t_read a_t_likes a_t_image a_t_isKept a_t_had : Nat) (t_points : Int32) (t_cases : Int32) (t_bytes : Int32) (t_position : Int32) (t_tokenAt : Int32) (t_token : Int64) (t_digits : Int32) (t_number : Int32) (t_row : Int32) (t_isRow : Int32) (t_faultAt : Int32) (t_readMany : Int32) (t_readPoints : Int32) (t_readCases : Int32) (t_suitOne : Int32) (t_suitTwo : Int32) (t_judged : (Nat → Int32)) (t_line : (Nat → Int32)) (t_met : (Nat → Int32)) (t_one : (Nat → Int32)) (t_weight : (Nat → Int32)) : va_W := [oc a_t 10 [.int t_points, .ref a_t_weight, .ref a_t_cost, .int t_cases, .ref a_t_one, .int t_bytes, .ref a_t_text, .int t_position, .int t_tokenAt, .long t_token, .int t_digits, .int t_number, .int t_row, .int t_isRow, .int t_faultAt, .int t_readMany, .int t_readPoints, .int t_readCases, .ref a_t_read, .ref a_t_likes, .ref a_t_judged, .ref a_t_met, .ref a_t_line, .ref a_t_image, .ref a_t_isKept, .int t_suitOne, .int t_suitTwo, .ref a_t_had], ai g a_t_judged 1024 t_judged, ai g a_t_line 1024 t_line, ai g a_t_met 1024 t_met, ai g a_t_one 56 t_one, ai g a_t_weight 10 t_weight]
set_option maxHeartbeats 4000000 in
set_option maxRecDepth 100000 in
theorem c_Mo_parts (l : Launch) (g : GE) (a_t a_t_judged a_t_line a_t_met a_t_one a_t_weight a_t_cost a_t_text a_t_read a_t_likes a_t_image a_t_isKept a_t_had : Nat) (t_points : Int32) (t_cases : Int32) (t_bytes : Int32) (t_position : Int32) (t_tokenAt : Int32) (t_token : Int64) (t_digits : Int32) (t_number : Int32) (t_row : Int32) (t_isRow : Int32) (t_faultAt : Int32) (t_readMany : Int32) (t_readPoints : Int32) (t_readCases : Int32) (t_suitOne : Int32) (t_suitTwo : Int32) (t_judged : (Nat → Int32)) (t_line : (Nat → Int32)) (t_met : (Nat → Int32)) (t_one : (Nat → Int32)) (t_weight : (Nat → Int32)) (x1 : Int32) (x2 : Int32) (Q : Int32 → (Nat → Int32) → (Nat → Int32) → (Nat → Int32) → Prop) (h : P_Mo_parts x1 x2 t_points t_cases t_judged t_line t_met t_one t_weight Q) : Cti l g yX10_parts cX10_parts 7 (some .int) rm_Mo_parts [.ref a_t, .int x1, .int x2] (cs_Mo_parts g a_t a_t_judged a_t_line a_t_met a_t_one a_t_weight a_t_cost a_t_text a_t_read a_t_likes a_t_image a_t_isKept a_t_had t_points t_cases t_bytes t_position t_tokenAt t_token t_digits t_number t_row t_isRow t_faultAt t_readMany t_readPoints t_readCases t_suitOne t_suitTwo t_judged t_line t_met t_one t_weight) (S := (Nat → Int32) × (Nat → Int32) × (Nat → Int32)) (fun r u => Q r u.1 u.2.1 u.2.2) (fun u => (cs_Mo_parts g a_t a_t_judged a_t_line a_t_met a_t_one a_t_weight a_t_cost a_t_text a_t_read a_t_likes a_t_image a_t_isKept a_t_had t_points t_cases t_bytes t_position t_tokenAt t_token t_digits t_number t_row t_isRow t_faultAt t_readMany t_readPoints t_readCases t_suitOne t_suitTwo (u.1) (u.2.1) (u.2.2) t_one t_weight)) := by
  refine meetI rfl (Nat.le_of_ble_eq_true rfl) ⟨rfl, rfl⟩ ?_
  intro p e s m args below meth c A Qf ls C hret hw hl
  have hx := C.1
  have hb := C.2.1
  have hown := C.2.2.2.1
  have hts := C.2.2.2.2.1
  have hE := C.2.2.2.2.2.1
  have hl : lv_has ls 7 [(0, .ref a_t), (1, .int x1), (2, .int x2)] := hl
  have hB_Mo_parts_16 : ∀ (t_judged : (Nat → Int32)) (t_line : (Nat → Int32)) (t_met : (Nat → Int32)), B_Mo_parts_16 x1 x2 t_points t_cases t_one t_weight Q t_judged t_line t_met → Wat p l e rm_Mo_parts s m args below meth c A Qf g 7 (cs_Mo_parts g a_t a_t_judged a_t_line a_t_met a_t_one a_t_weight a_t_cost a_t_text a_t_read a_t_likes a_t_image a_t_isKept a_t_had t_points t_cases t_bytes t_position t_tokenAt t_token t_digits t_number t_row t_isRow t_faultAt t_readMany t_readPoints t_readCases t_suitOne t_suitTwo t_judged t_line t_met t_one t_weight) [] 16 [] := by
    intro t_judged t_line t_met h H locs ls hw hl
    refine lv_bipush (v := (-3)) hx hb dX10_parts_16 (by decide) ?_
    exact hret (t_judged, t_line, t_met) h hw dX10_parts_18 rfl
  have hB_Mo_parts_130 : ∀ (k0 : Int32) (t_judged : (Nat → Int32)) (t_line : (Nat → Int32)) (t_met : (Nat → Int32)), B_Mo_parts_130 x1 x2 t_points t_cases t_one t_weight Q k0 t_judged t_line t_met → Wat p l e rm_Mo_parts s m args below meth c A Qf g 7 (cs_Mo_parts g a_t a_t_judged a_t_line a_t_met a_t_one a_t_weight a_t_cost a_t_text a_t_read a_t_likes a_t_image a_t_isKept a_t_had t_points t_cases t_bytes t_position t_tokenAt t_token t_digits t_number t_row t_isRow t_faultAt t_readMany t_readPoints t_readCases t_suitOne t_suitTwo t_judged t_line t_met t_one t_weight) [] 130 [.int k0] := by
    intro k0 t_judged t_line t_met h H locs ls hw hl
    exact hret (t_judged, t_line, t_met) h hw dX10_parts_130 rfl
  have hB_Mo_parts_114 : ∀ (N_68 : Int32 → Int32 → Int32 → (Nat → Int32) → (Nat → Int32) → (Nat → Int32) → Prop) (hN_68 : ∀ (x3 : Int32) (x4 : Int32) (x5 : Int32) (t_judged : (Nat → Int32)) (t_line : (Nat → Int32)) (t_met : (Nat → Int32)), N_68 x3 x4 x5 t_judged t_line t_met → Wat p l e rm_Mo_parts s m args below meth c A Qf g 7 (cs_Mo_parts g a_t a_t_judged a_t_line a_t_met a_t_one a_t_weight a_t_cost a_t_text a_t_read a_t_likes a_t_image a_t_isKept a_t_had t_points t_cases t_bytes t_position t_tokenAt t_token t_digits t_number t_row t_isRow t_faultAt t_readMany t_readPoints t_readCases t_suitOne t_suitTwo t_judged t_line t_met t_one t_weight) [(0, .ref a_t), (2, .int x2), (3, .int x3), (4, .int x4), (5, .int x5)] 68 []) (x3 : Int32) (x4 : Int32) (x5 : Int32) (t_judged : (Nat → Int32)) (t_line : (Nat → Int32)) (t_met : (Nat → Int32)), B_Mo_parts_114 x1 x2 t_points t_cases t_one t_weight Q N_68 x3 x4 x5 t_judged t_line t_met → Wat p l e rm_Mo_parts s m args below meth c A Qf g 7 (cs_Mo_parts g a_t a_t_judged a_t_line a_t_met a_t_one a_t_weight a_t_cost a_t_text a_t_read a_t_likes a_t_image a_t_isKept a_t_had t_points t_cases t_bytes t_position t_tokenAt t_token t_digits t_number t_row t_isRow t_faultAt t_readMany t_readPoints t_readCases t_suitOne t_suitTwo t_judged t_line t_met t_one t_weight) [(0, .ref a_t), (2, .int x2), (3, .int x3), (4, .int x4), (5, .int x5)] 114 [] := by
    intro N_68 hN_68 x3 x4 x5 t_judged t_line t_met h H locs ls hw hl
    refine lv_iinc (v := x5 + 1) (lv' := [(5, .int (x5 + 1)), (0, .ref a_t), (2, .int x2), (3, .int x3), (4, .int x4)]) hx hb dX10_parts_114 hl (k := 4) rfl rfl (by decide) rfl (fun ls hl => ?_)
    refine lv_goto (tgt := 68) hx hb dX10_parts_117 (by decide) ?_
    exact hN_68 x3 x4 (x5 + 1) t_judged t_line t_met h _ _ _ hw (lv_sub hl [1, 2, 3, 4, 0] rfl)
  have hB_Mo_parts_112 : ∀ (N_68 : Int32 → Int32 → Int32 → (Nat → Int32) → (Nat → Int32) → (Nat → Int32) → Prop) (hN_68 : ∀ (x3 : Int32) (x4 : Int32) (x5 : Int32) (t_judged : (Nat → Int32)) (t_line : (Nat → Int32)) (t_met : (Nat → Int32)), N_68 x3 x4 x5 t_judged t_line t_met → Wat p l e rm_Mo_parts s m args below meth c A Qf g 7 (cs_Mo_parts g a_t a_t_judged a_t_line a_t_met a_t_one a_t_weight a_t_cost a_t_text a_t_read a_t_likes a_t_image a_t_isKept a_t_had t_points t_cases t_bytes t_position t_tokenAt t_token t_digits t_number t_row t_isRow t_faultAt t_readMany t_readPoints t_readCases t_suitOne t_suitTwo t_judged t_line t_met t_one t_weight) [(0, .ref a_t), (2, .int x2), (3, .int x3), (4, .int x4), (5, .int x5)] 68 []) (x3 : Int32) (x5 : Int32) (k0 : Int32) (t_judged : (Nat → Int32)) (t_line : (Nat → Int32)) (t_met : (Nat → Int32)), B_Mo_parts_112 x1 x2 t_points t_cases t_one t_weight Q N_68 x3 x5 k0 t_judged t_line t_met → Wat p l e rm_Mo_parts s m args below meth c A Qf g 7 (cs_Mo_parts g a_t a_t_judged a_t_line a_t_met a_t_one a_t_weight a_t_cost a_t_text a_t_read a_t_likes a_t_image a_t_isKept a_t_had t_points t_cases t_bytes t_position t_tokenAt t_token t_digits t_number t_row t_isRow t_faultAt t_readMany t_readPoints t_readCases t_suitOne t_suitTwo t_judged t_line t_met t_one t_weight) [(0, .ref a_t), (2, .int x2), (3, .int x3), (5, .int x5)] 112 [.int k0] := by
    intro N_68 hN_68 x3 x5 k0 t_judged t_line t_met h H locs ls hw hl
    refine lv_istore (lv' := [(4, .int k0), (0, .ref a_t), (2, .int x2), (3, .int x3), (5, .int x5)]) hx hb dX10_parts_112 hl (by decide) rfl (fun ls hl => ?_)
    exact hB_Mo_parts_114 N_68 hN_68 x3 k0 x5 t_judged t_line t_met h _ _ _ hw (lv_sub hl [1, 2, 3, 0, 4] rfl)
  have hL_Mo_parts_68 : ∀ (n : Nat) (x3 : Int32) (x4 : Int32) (x5 : Int32) (t_judged : (Nat → Int32)) (t_line : (Nat → Int32)) (t_met : (Nat → Int32)), L_Mo_parts_68 x1 x2 t_points t_cases t_one t_weight Q n x3 x4 x5 t_judged t_line t_met → Wat p l e rm_Mo_parts s m args below meth c A Qf g 7 (cs_Mo_parts g a_t a_t_judged a_t_line a_t_met a_t_one a_t_weight a_t_cost a_t_text a_t_read a_t_likes a_t_image a_t_isKept a_t_had t_points t_cases t_bytes t_position t_tokenAt t_token t_digits t_number t_row t_isRow t_faultAt t_readMany t_readPoints t_readCases t_suitOne t_suitTwo t_judged t_line t_met t_one t_weight) [(0, .ref a_t), (2, .int x2), (3, .int x3), (4, .int x4), (5, .int x5)] 68 [] := by
    intro n
    induction n with
    | zero => intro x3 x4 x5 t_judged t_line t_met h; exact absurd h id
    | succ n ih =>
      intro x3 x4 x5 t_judged t_line t_met h H locs ls hw hl
      rw [L_Mo_parts_68] at h
      refine lv_iload hx hb dX10_parts_68 (lv_at hl 4 rfl) ?_
      refine lv_aload_n hx hb dX10_parts_70 rfl (lv_at hl 0 rfl) ?_
      refine callVi (As := []) (rest := [.int x5]) (W2 := fun _ => (cs_Mo_parts g a_t a_t_judged a_t_line a_t_met a_t_one a_t_weight a_t_cost a_t_text a_t_read a_t_likes a_t_image a_t_isKept a_t_had t_points t_cases t_bytes t_position t_tokenAt t_token t_digits t_number t_row t_isRow t_faultAt t_readMany t_readPoints t_readCases t_suitOne t_suitTwo t_judged t_line t_met t_one t_weight)) C hw hl (c_Mo_deedMany l g a_t a_t_weight a_t_cost a_t_one a_t_text a_t_read a_t_likes a_t_judged a_t_met a_t_line a_t_image a_t_isKept a_t_had t_points t_cases t_bytes t_position t_tokenAt t_token t_digits t_number t_row t_isRow t_faultAt t_readMany t_readPoints t_readCases t_suitOne t_suitTwo _ h) tw_1099 kk_X10_deedMany rfl ⟨rfl, rfl⟩ ⟨by decide, by decide⟩ (Nat.le_of_ble_eq_true rfl) 0 rfl rfl rfl [0] [1, 2, 3, 4, 5] [5, 0, 1, 2, 3, 4] rfl rfl rfl rfl rfl rfl (fun u => rfl) rfl dX10_parts_71 (fun r_1 u H locs h hw => ?_)
      refine lv_icmp_ge (tgt := 120) hx hb dX10_parts_74 (by decide) (fun c_74 => ?_) (fun c_74 => ?_)
      · have h := h.1 c_74
        refine lv_iload_n hx hb dX10_parts_120 rfl (lv_at hl 1 rfl) ?_
        refine lv_if_ne (tgt := 128) hx hb dX10_parts_121 (by decide) (fun c_121 => ?_) (fun c_121 => ?_)
        · have h := h.1 c_121
          refine lv_iload hx hb dX10_parts_128 (lv_at hl 3 rfl) ?_
          exact hB_Mo_parts_130 x4 t_judged t_line t_met h _ _ _ hw (lv_sub hl [] rfl)
        · have h := h.2 c_121
          refine lv_iload_n hx hb dX10_parts_124 rfl (lv_at hl 2 rfl) ?_
          refine lv_goto (tgt := 130) hx hb dX10_parts_125 (by decide) ?_
          exact hB_Mo_parts_130 x3 t_judged t_line t_met h _ _ _ hw (lv_sub hl [] rfl)
      · have h := h.2 c_74
        refine lv_aload_n hx hb dX10_parts_77 rfl (lv_at hl 0 rfl) ?_
        refine G_RX10_35 C hw 0 rfl dX10_parts_78 ?_
        refine lv_iload hx hb dX10_parts_81 (lv_at hl 4 rfl) ?_
        refine aldI C hw 3 rfl h.1 dX10_parts_83 ?_
        have h := h.2
        refine lv_if_ne (tgt := 114) hx hb dX10_parts_84 (by decide) (fun c_84 => ?_) (fun c_84 => ?_)
        · have h := h.1 c_84
          exact hB_Mo_parts_114 (L_Mo_parts_68 x1 x2 t_points t_cases t_one t_weight Q n) ih x3 x4 x5 t_judged t_line t_met h _ _ _ hw (lv_sub hl [0, 1, 2, 3, 4] rfl)
        · have h := h.2 c_84
          refine lv_aload_n hx hb dX10_parts_87 rfl (lv_at hl 0 rfl) ?_
          refine lv_iload hx hb dX10_parts_88 (lv_at hl 4 rfl) ?_
          refine callVi (As := [.int x5]) (rest := []) (W2 := fun u => (cs_Mo_parts g a_t a_t_judged a_t_line a_t_met a_t_one a_t_weight a_t_cost a_t_text a_t_read a_t_likes a_t_image a_t_isKept a_t_had t_points t_cases t_bytes t_position t_tokenAt t_token t_digits t_number t_row t_isRow t_faultAt t_readMany t_readPoints t_readCases t_suitOne t_suitTwo t_judged (u.1) (u.2) t_one t_weight)) C hw hl (c_Mo_spread l g a_t a_t_line a_t_met a_t_weight a_t_cost a_t_one a_t_text a_t_read a_t_likes a_t_judged a_t_image a_t_isKept a_t_had t_points t_cases t_bytes t_position t_tokenAt t_token t_digits t_number t_row t_isRow t_faultAt t_readMany t_readPoints t_readCases t_suitOne t_suitTwo t_line t_met x5 _ h) tw_1225 kk_X10_spread rfl ⟨rfl, rfl⟩ ⟨by decide, by decide⟩ (Nat.le_of_ble_eq_true rfl) 0 rfl rfl rfl [0, 2, 3] [1, 4, 5] [3, 0, 4, 5, 1, 2] rfl rfl rfl rfl rfl rfl (fun u => rfl) rfl dX10_parts_90 (fun r_2 u H locs h hw => ?_)
          obtain ⟨t_line_3, t_met_4⟩ := u
          have hw : Wd g A s (cs_Mo_parts g a_t a_t_judged a_t_line a_t_met a_t_one a_t_weight a_t_cost a_t_text a_t_read a_t_likes a_t_image a_t_isKept a_t_had t_points t_cases t_bytes t_position t_tokenAt t_token t_digits t_number t_row t_isRow t_faultAt t_readMany t_readPoints t_readCases t_suitOne t_suitTwo t_judged t_line_3 t_met_4 t_one t_weight) H locs := hw
          refine lv_istore (lv' := [(6, .int r_2), (0, .ref a_t), (2, .int x2), (3, .int x3), (4, .int x4), (5, .int x5)]) hx hb dX10_parts_93 hl (by decide) rfl (fun ls hl => ?_)
          refine lv_iinc (v := x3 + 1) (lv' := [(3, .int (x3 + 1)), (6, .int r_2), (0, .ref a_t), (2, .int x2), (4, .int x4), (5, .int x5)]) hx hb dX10_parts_95 hl (k := 3) rfl rfl (by decide) rfl (fun ls hl => ?_)
          refine lv_iload hx hb dX10_parts_98 (lv_at hl 1 rfl) ?_
          refine lv_iload hx hb dX10_parts_100 (lv_at hl 4 rfl) ?_
          refine lv_icmp_le (tgt := 110) hx hb dX10_parts_102 (by decide) (fun c_102 => ?_) (fun c_102 => ?_)
          · have h := h.1 c_102
            refine lv_iload hx hb dX10_parts_110 (lv_at hl 4 rfl) ?_
            exact hB_Mo_parts_112 (L_Mo_parts_68 x1 x2 t_points t_cases t_one t_weight Q n) ih (x3 + 1) x5 x4 t_judged t_line_3 t_met_4 h _ _ _ hw (lv_sub hl [2, 3, 0, 5] rfl)
          · have h := h.2 c_102
            refine lv_iload hx hb dX10_parts_105 (lv_at hl 1 rfl) ?_
            refine lv_goto (tgt := 112) hx hb dX10_parts_107 (by decide) ?_
            exact hB_Mo_parts_112 (L_Mo_parts_68 x1 x2 t_points t_cases t_one t_weight Q n) ih (x3 + 1) x5 r_2 t_judged t_line_3 t_met_4 h _ _ _ hw (lv_sub hl [2, 3, 0, 5] rfl)
  have hB_Mo_parts_53 : ∀ (N_25 : Int32 → (Nat → Int32) → (Nat → Int32) → (Nat → Int32) → Prop) (hN_25 : ∀ (x3 : Int32) (t_judged : (Nat → Int32)) (t_line : (Nat → Int32)) (t_met : (Nat → Int32)), N_25 x3 t_judged t_line t_met → Wat p l e rm_Mo_parts s m args below meth c A Qf g 7 (cs_Mo_parts g a_t a_t_judged a_t_line a_t_met a_t_one a_t_weight a_t_cost a_t_text a_t_read a_t_likes a_t_image a_t_isKept a_t_had t_points t_cases t_bytes t_position t_tokenAt t_token t_digits t_number t_row t_isRow t_faultAt t_readMany t_readPoints t_readCases t_suitOne t_suitTwo t_judged t_line t_met t_one t_weight) [(0, .ref a_t), (1, .int x1), (2, .int x2), (3, .int x3)] 25 []) (x3 : Int32) (k1 : Int32) (k2 : Int32) (t_judged : (Nat → Int32)) (t_line : (Nat → Int32)) (t_met : (Nat → Int32)), B_Mo_parts_53 x1 x2 t_points t_cases t_one t_weight Q N_25 x3 k1 k2 t_judged t_line t_met → Wat p l e rm_Mo_parts s m args below meth c A Qf g 7 (cs_Mo_parts g a_t a_t_judged a_t_line a_t_met a_t_one a_t_weight a_t_cost a_t_text a_t_read a_t_likes a_t_image a_t_isKept a_t_had t_points t_cases t_bytes t_position t_tokenAt t_token t_digits t_number t_row t_isRow t_faultAt t_readMany t_readPoints t_readCases t_suitOne t_suitTwo t_judged t_line t_met t_one t_weight) [(0, .ref a_t), (1, .int x1), (2, .int x2), (3, .int x3)] 53 [.int k2, .int k1, .ref a_t_met] := by
    intro N_25 hN_25 x3 k1 k2 t_judged t_line t_met h H locs ls hw hl
    refine astI (ws2 := (cs_Mo_parts g a_t a_t_judged a_t_line a_t_met a_t_one a_t_weight a_t_cost a_t_text a_t_read a_t_likes a_t_image a_t_isKept a_t_had t_points t_cases t_bytes t_position t_tokenAt t_token t_digits t_number t_row t_isRow t_faultAt t_readMany t_readPoints t_readCases t_suitOne t_suitTwo t_judged t_line (upd t_met k1.toNatClampNeg k2) t_one t_weight)) C hw 3 rfl h.1 rfl dX10_parts_53 (fun H locs hw => ?_)
    have h := h.2
    refine lv_iinc (v := x3 + 1) (lv' := [(3, .int (x3 + 1)), (0, .ref a_t), (1, .int x1), (2, .int x2)]) hx hb dX10_parts_54 hl (k := 3) rfl rfl (by decide) rfl (fun ls hl => ?_)
    refine lv_goto (tgt := 25) hx hb dX10_parts_57 (by decide) ?_
    exact hN_25 (x3 + 1) t_judged t_line (upd t_met k1.toNatClampNeg k2) h _ _ _ hw (lv_sub hl [1, 2, 3, 0] rfl)
  have hL_Mo_parts_25 : ∀ (n : Nat) (x3 : Int32) (t_judged : (Nat → Int32)) (t_line : (Nat → Int32)) (t_met : (Nat → Int32)), L_Mo_parts_25 x1 x2 t_points t_cases t_one t_weight Q n x3 t_judged t_line t_met → Wat p l e rm_Mo_parts s m args below meth c A Qf g 7 (cs_Mo_parts g a_t a_t_judged a_t_line a_t_met a_t_one a_t_weight a_t_cost a_t_text a_t_read a_t_likes a_t_image a_t_isKept a_t_had t_points t_cases t_bytes t_position t_tokenAt t_token t_digits t_number t_row t_isRow t_faultAt t_readMany t_readPoints t_readCases t_suitOne t_suitTwo t_judged t_line t_met t_one t_weight) [(0, .ref a_t), (1, .int x1), (2, .int x2), (3, .int x3)] 25 [] := by
    intro n
    induction n with
    | zero => intro x3 t_judged t_line t_met h; exact absurd h id
    | succ n ih =>
      intro x3 t_judged t_line t_met h H locs ls hw hl
      rw [L_Mo_parts_25] at h
      refine lv_iload_n hx hb dX10_parts_25 rfl (lv_at hl 3 rfl) ?_
      refine lv_aload_n hx hb dX10_parts_26 rfl (lv_at hl 0 rfl) ?_
      refine callVi (As := []) (rest := [.int x3]) (W2 := fun _ => (cs_Mo_parts g a_t a_t_judged a_t_line a_t_met a_t_one a_t_weight a_t_cost a_t_text a_t_read a_t_likes a_t_image a_t_isKept a_t_had t_points t_cases t_bytes t_position t_tokenAt t_token t_digits t_number t_row t_isRow t_faultAt t_readMany t_readPoints t_readCases t_suitOne t_suitTwo t_judged t_line t_met t_one t_weight)) C hw hl (c_Mo_deedMany l g a_t a_t_weight a_t_cost a_t_one a_t_text a_t_read a_t_likes a_t_judged a_t_met a_t_line a_t_image a_t_isKept a_t_had t_points t_cases t_bytes t_position t_tokenAt t_token t_digits t_number t_row t_isRow t_faultAt t_readMany t_readPoints t_readCases t_suitOne t_suitTwo _ h) tw_1099 kk_X10_deedMany rfl ⟨rfl, rfl⟩ ⟨by decide, by decide⟩ (Nat.le_of_ble_eq_true rfl) 0 rfl rfl rfl [0] [1, 2, 3, 4, 5] [5, 0, 1, 2, 3, 4] rfl rfl rfl rfl rfl rfl (fun u => rfl) rfl dX10_parts_27 (fun r_5 u H locs h hw => ?_)
      refine lv_icmp_ge (tgt := 60) hx hb dX10_parts_30 (by decide) (fun c_30 => ?_) (fun c_30 => ?_)
      · have h := h.1 c_30
        refine lv_iconst (v := 0) hx hb dX10_parts_60 (by decide) ?_
        refine lv_istore_n (lv' := [(3, .int 0), (0, .ref a_t), (1, .int x1), (2, .int x2)]) hx hb dX10_parts_61 rfl hl (by decide) rfl (fun ls hl => ?_)
        refine lv_iconst (v := 0) hx hb dX10_parts_62 (by decide) ?_
        refine lv_istore (lv' := [(4, .int 0), (3, .int 0), (0, .ref a_t), (1, .int x1), (2, .int x2)]) hx hb dX10_parts_63 hl (by decide) rfl (fun ls hl => ?_)
        refine lv_iconst (v := 0) hx hb dX10_parts_65 (by decide) ?_
        refine lv_istore (lv' := [(5, .int 0), (4, .int 0), (3, .int 0), (0, .ref a_t), (1, .int x1), (2, .int x2)]) hx hb dX10_parts_66 hl (by decide) rfl (fun ls hl => ?_)
        obtain ⟨n_68, h⟩ := h
        exact hL_Mo_parts_68 n_68 0 0 0 t_judged t_line t_met h _ _ _ hw (lv_sub hl [3, 5, 2, 1, 0] rfl)
      · have h := h.2 c_30
        refine lv_aload_n hx hb dX10_parts_33 rfl (lv_at hl 0 rfl) ?_
        refine G_RX10_35 C hw 0 rfl dX10_parts_34 ?_
        refine lv_iload_n hx hb dX10_parts_37 rfl (lv_at hl 3 rfl) ?_
        refine lv_aload_n hx hb dX10_parts_38 rfl (lv_at hl 0 rfl) ?_
        refine G_RX10_32 C hw 0 rfl dX10_parts_39 ?_
        refine lv_iload_n hx hb dX10_parts_42 rfl (lv_at hl 3 rfl) ?_
        refine aldI C hw 1 rfl h.1 dX10_parts_43 ?_
        have h := h.2
        refine lv_iload_n hx hb dX10_parts_44 rfl (lv_at hl 1 rfl) ?_
        refine lv_icmp_ne (tgt := 52) hx hb dX10_parts_45 (by decide) (fun c_45 => ?_) (fun c_45 => ?_)
        · have h := h.1 c_45
          refine lv_iconst (v := 1) hx hb dX10_parts_52 (by decide) ?_
          exact hB_Mo_parts_53 (L_Mo_parts_25 x1 x2 t_points t_cases t_one t_weight Q n) ih x3 x3 1 t_judged t_line t_met h _ _ _ hw (lv_sub hl [0, 1, 2, 3] rfl)
        · have h := h.2 c_45
          refine lv_iconst (v := 0) hx hb dX10_parts_48 (by decide) ?_
          refine lv_goto (tgt := 53) hx hb dX10_parts_49 (by decide) ?_
          exact hB_Mo_parts_53 (L_Mo_parts_25 x1 x2 t_points t_cases t_one t_weight Q n) ih x3 x3 0 t_judged t_line t_met h _ _ _ hw (lv_sub hl [0, 1, 2, 3] rfl)
  refine lv_iload_n hx hb dX10_parts_0 rfl (lv_at hl 1 rfl) ?_
  refine callSi (As := [.int x1]) (rest := []) C hw hl (c_Mo_isJudgment l g x1 _ h) tw_1138 kk_X10_isJudgment rfl ⟨rfl, rfl⟩ ⟨by decide, by decide⟩ (Nat.le_of_ble_eq_true rfl) rfl dX10_parts_1 (fun r_6 u H locs h hw => ?_)
  refine lv_if_eq (tgt := 16) hx hb dX10_parts_4 (by decide) (fun c_4 => ?_) (fun c_4 => ?_)
  · have h := h.1 c_4
    exact hB_Mo_parts_16 t_judged t_line t_met h _ _ _ hw (lv_sub hl [] rfl)
  · have h := h.2 c_4
    refine lv_iload_n hx hb dX10_parts_7 rfl (lv_at hl 2 rfl) ?_
    refine lv_iconst (v := 0) hx hb dX10_parts_8 (by decide) ?_
    refine lv_iconst (v := 1) hx hb dX10_parts_9 (by decide) ?_
    refine callSi (As := [.int x2, .int 0, .int 1]) (rest := []) C hw hl (c_Mo_in l g x2 0 1 _ h) tw_999 kk_X10_in rfl ⟨rfl, rfl⟩ ⟨by decide, by decide⟩ (Nat.le_of_ble_eq_true rfl) rfl dX10_parts_10 (fun r_7 u H locs h hw => ?_)
    refine lv_if_ne (tgt := 19) hx hb dX10_parts_13 (by decide) (fun c_13 => ?_) (fun c_13 => ?_)
    · have h := h.1 c_13
      refine lv_aload_n hx hb dX10_parts_19 rfl (lv_at hl 0 rfl) ?_
      refine callVv (As := []) (rest := []) (W2 := fun u => (cs_Mo_parts g a_t a_t_judged a_t_line a_t_met a_t_one a_t_weight a_t_cost a_t_text a_t_read a_t_likes a_t_image a_t_isKept a_t_had t_points t_cases t_bytes t_position t_tokenAt t_token t_digits t_number t_row t_isRow t_faultAt t_readMany t_readPoints t_readCases t_suitOne t_suitTwo u t_line t_met t_one t_weight)) C hw hl (c_Mo_layJudged l g a_t a_t_judged a_t_one a_t_weight a_t_cost a_t_text a_t_read a_t_likes a_t_met a_t_line a_t_image a_t_isKept a_t_had t_points t_cases t_bytes t_position t_tokenAt t_token t_digits t_number t_row t_isRow t_faultAt t_readMany t_readPoints t_readCases t_suitOne t_suitTwo t_judged t_one t_weight _ h) tw_1217 kk_X10_layJudged rfl ⟨rfl, rfl⟩ ⟨by decide, by decide⟩ (Nat.le_of_ble_eq_true rfl) 0 rfl rfl rfl [0, 1, 4, 5] [2, 3] [2, 3, 0, 1, 4, 5] rfl rfl rfl rfl rfl rfl (fun u => rfl) rfl dX10_parts_20 (fun u H locs h hw => ?_)
      obtain ⟨t_judged_8, rfl⟩ : ∃ z, z = u := ⟨_, rfl⟩
      have hw : Wd g A s (cs_Mo_parts g a_t a_t_judged a_t_line a_t_met a_t_one a_t_weight a_t_cost a_t_text a_t_read a_t_likes a_t_image a_t_isKept a_t_had t_points t_cases t_bytes t_position t_tokenAt t_token t_digits t_number t_row t_isRow t_faultAt t_readMany t_readPoints t_readCases t_suitOne t_suitTwo t_judged_8 t_line t_met t_one t_weight) H locs := hw
      refine lv_iconst (v := 0) hx hb dX10_parts_23 (by decide) ?_
      refine lv_istore_n (lv' := [(3, .int 0), (0, .ref a_t), (1, .int x1), (2, .int x2)]) hx hb dX10_parts_24 rfl hl (by decide) rfl (fun ls hl => ?_)
      obtain ⟨n_25, h⟩ := h
      exact hL_Mo_parts_25 n_25 0 t_judged_8 t_line t_met h _ _ _ hw (lv_sub hl [1, 2, 3, 0] rfl)
    · have h := h.2 c_13
      exact hB_Mo_parts_16 t_judged t_line t_met h _ _ _ hw (lv_sub hl [] rfl)
def B_Mo_frees_50 (x1 : Int32) (t_points : Int32) (t_cases : Int32) (t_one : (Nat → Int32)) (t_weight : (Nat → Int32)) (Q : Int32 → Prop) (N_15 : Int32 → Int32 → Prop) (x3 : Int32) (k0 : Int32) (k1 : Int32) : Prop := ∀ x2_1 : Int32, x2_1 = (k0 + k1) → N_15 x2_1 (x3 + 1)
def B_Mo_frees_49 (x1 : Int32) (t_points : Int32) (t_cases : Int32) (t_one : (Nat → Int32)) (t_weight : (Nat → Int32)) (Q : Int32 → Prop) (N_15 : Int32 → Int32 → Prop) (x3 : Int32) (k0 : Int32) : Prop := B_Mo_frees_50 x1 t_points t_cases t_one t_weight Q N_15 x3 k0 0
def L_Mo_frees_15 (x1 : Int32) (t_points : Int32) (t_cases : Int32) (t_one : (Nat → Int32)) (t_weight : (Nat → Int32)) (Q : Int32 → Prop) : Nat → Int32 → Int32 → Prop
  | 0 => fun _ _ => False
  | n + 1 => fun x2 x3 => P_Mo_deedMany t_points (fun r_2 => (r_2 ≤ x3 → Q x2) ∧ (¬ r_2 ≤ x3 → P_Mo_judgmentAt x3 t_points t_cases t_one t_weight (fun r_3 => (r_3 ≤ 0 → B_Mo_frees_49 x1 t_points t_cases t_one t_weight Q (L_Mo_frees_15 x1 t_points t_cases t_one t_weight Q n) x3 x2) ∧ (¬ r_3 ≤ 0 → P_Mo_all t_cases (fun r_4 => P_Mo_caseOf x3 r_4 t_points t_cases t_one t_weight (fun r_5 => (¬ r_5 = x1 → B_Mo_frees_49 x1 t_points t_cases t_one t_weight Q (L_Mo_frees_15 x1 t_points t_cases t_one t_weight Q n) x3 x2) ∧ (r_5 = x1 → B_Mo_frees_50 x1 t_points t_cases t_one t_weight Q (L_Mo_frees_15 x1 t_points t_cases t_one t_weight Q n) x3 x2 1)))))))
def P_Mo_frees (x1 : Int32) (t_points : Int32) (t_cases : Int32) (t_one : (Nat → Int32)) (t_weight : (Nat → Int32)) (Q : Int32 → Prop) : Prop := P_Mo_isCase x1 t_cases (fun r_6 => (¬ r_6 = 0 → ∃ n_15 : Nat, L_Mo_frees_15 x1 t_points t_cases t_one t_weight Q n_15 0 0) ∧ (r_6 = 0 → Q (-2)))
abbrev rm_Mo_frees : Room := { frames := 4, cells := 0, slots := 0, locals := 94 }
def cs_Mo_frees (g : GE) (a_t a_t_one a_t_weight a_t_cost a_t_text a_t_read a_t_likes a_t_judged a_t_met a_t_line a_t_image a_t_isKept a_t_had : Nat) (t_points : Int32) (t_cases : Int32) (t_bytes : Int32) (t_position : Int32) (t_tokenAt : Int32) (t_token : Int64) (t_digits : Int32) (t_number : Int32) (t_row : Int32) (t_isRow : Int32) (t_faultAt : Int32) (t_readMany : Int32) (t_readPoints : Int32) (t_readCases : Int32) (t_suitOne : Int32) (t_suitTwo : Int32) (t_one : (Nat → Int32)) (t_weight : (Nat → Int32)) : va_W := [oc a_t 10 [.int t_points, .ref a_t_weight, .ref a_t_cost, .int t_cases, .ref a_t_one, .int t_bytes, .ref a_t_text, .int t_position, .int t_tokenAt, .long t_token, .int t_digits, .int t_number, .int t_row, .int t_isRow, .int t_faultAt, .int t_readMany, .int t_readPoints, .int t_readCases, .ref a_t_read, .ref a_t_likes, .ref a_t_judged, .ref a_t_met, .ref a_t_line, .ref a_t_image, .ref a_t_isKept, .int t_suitOne, .int t_suitTwo, .ref a_t_had], ai g a_t_one 56 t_one, ai g a_t_weight 10 t_weight]
set_option maxHeartbeats 4000000 in
set_option maxRecDepth 100000 in
theorem c_Mo_frees (l : Launch) (g : GE) (a_t a_t_one a_t_weight a_t_cost a_t_text a_t_read a_t_likes a_t_judged a_t_met a_t_line a_t_image a_t_isKept a_t_had : Nat) (t_points : Int32) (t_cases : Int32) (t_bytes : Int32) (t_position : Int32) (t_tokenAt : Int32) (t_token : Int64) (t_digits : Int32) (t_number : Int32) (t_row : Int32) (t_isRow : Int32) (t_faultAt : Int32) (t_readMany : Int32) (t_readPoints : Int32) (t_readCases : Int32) (t_suitOne : Int32) (t_suitTwo : Int32) (t_one : (Nat → Int32)) (t_weight : (Nat → Int32)) (x1 : Int32) (Q : Int32 → Prop) (h : P_Mo_frees x1 t_points t_cases t_one t_weight Q) : Cti l g yX10_frees cX10_frees 4 (some .int) rm_Mo_frees [.ref a_t, .int x1] (cs_Mo_frees g a_t a_t_one a_t_weight a_t_cost a_t_text a_t_read a_t_likes a_t_judged a_t_met a_t_line a_t_image a_t_isKept a_t_had t_points t_cases t_bytes t_position t_tokenAt t_token t_digits t_number t_row t_isRow t_faultAt t_readMany t_readPoints t_readCases t_suitOne t_suitTwo t_one t_weight) (S := Unit) (fun r u => Q r) (fun _ => (cs_Mo_frees g a_t a_t_one a_t_weight a_t_cost a_t_text a_t_read a_t_likes a_t_judged a_t_met a_t_line a_t_image a_t_isKept a_t_had t_points t_cases t_bytes t_position t_tokenAt t_token t_digits t_number t_row t_isRow t_faultAt t_readMany t_readPoints t_readCases t_suitOne t_suitTwo t_one t_weight)) := by
  refine meetI rfl (Nat.le_of_ble_eq_true rfl) ⟨rfl, rfl⟩ ?_
  intro p e s m args below meth c A Qf ls C hret hw hl
  have hx := C.1
  have hb := C.2.1
  have hown := C.2.2.2.1
  have hts := C.2.2.2.2.1
  have hE := C.2.2.2.2.2.1
  have hl : lv_has ls 4 [(0, .ref a_t), (1, .int x1)] := hl
  have hB_Mo_frees_50 : ∀ (N_15 : Int32 → Int32 → Prop) (hN_15 : ∀ (x2 : Int32) (x3 : Int32), N_15 x2 x3 → Wat p l e rm_Mo_frees s m args below meth c A Qf g 4 (cs_Mo_frees g a_t a_t_one a_t_weight a_t_cost a_t_text a_t_read a_t_likes a_t_judged a_t_met a_t_line a_t_image a_t_isKept a_t_had t_points t_cases t_bytes t_position t_tokenAt t_token t_digits t_number t_row t_isRow t_faultAt t_readMany t_readPoints t_readCases t_suitOne t_suitTwo t_one t_weight) [(0, .ref a_t), (1, .int x1), (2, .int x2), (3, .int x3)] 15 []) (x3 : Int32) (k0 : Int32) (k1 : Int32), B_Mo_frees_50 x1 t_points t_cases t_one t_weight Q N_15 x3 k0 k1 → Wat p l e rm_Mo_frees s m args below meth c A Qf g 4 (cs_Mo_frees g a_t a_t_one a_t_weight a_t_cost a_t_text a_t_read a_t_likes a_t_judged a_t_met a_t_line a_t_image a_t_isKept a_t_had t_points t_cases t_bytes t_position t_tokenAt t_token t_digits t_number t_row t_isRow t_faultAt t_readMany t_readPoints t_readCases t_suitOne t_suitTwo t_one t_weight) [(0, .ref a_t), (1, .int x1), (3, .int x3)] 50 [.int k1, .int k0] := by
    intro N_15 hN_15 x3 k0 k1 h H locs ls hw hl
    refine lv_iadd hx hb dX10_frees_50 ?_
    refine lv_topi (fun x2_1 ex2_1 => ?_)
    have h := h x2_1 ex2_1
    refine lv_istore_n (lv' := [(2, .int x2_1), (0, .ref a_t), (1, .int x1), (3, .int x3)]) hx hb dX10_frees_51 rfl hl (by decide) rfl (fun ls hl => ?_)
    refine lv_iinc (v := x3 + 1) (lv' := [(3, .int (x3 + 1)), (2, .int x2_1), (0, .ref a_t), (1, .int x1)]) hx hb dX10_frees_52 hl (k := 3) rfl rfl (by decide) rfl (fun ls hl => ?_)
    refine lv_goto (tgt := 15) hx hb dX10_frees_55 (by decide) ?_
    exact hN_15 x2_1 (x3 + 1) h _ _ _ hw (lv_sub hl [2, 3, 1, 0] rfl)
  have hB_Mo_frees_49 : ∀ (N_15 : Int32 → Int32 → Prop) (hN_15 : ∀ (x2 : Int32) (x3 : Int32), N_15 x2 x3 → Wat p l e rm_Mo_frees s m args below meth c A Qf g 4 (cs_Mo_frees g a_t a_t_one a_t_weight a_t_cost a_t_text a_t_read a_t_likes a_t_judged a_t_met a_t_line a_t_image a_t_isKept a_t_had t_points t_cases t_bytes t_position t_tokenAt t_token t_digits t_number t_row t_isRow t_faultAt t_readMany t_readPoints t_readCases t_suitOne t_suitTwo t_one t_weight) [(0, .ref a_t), (1, .int x1), (2, .int x2), (3, .int x3)] 15 []) (x3 : Int32) (k0 : Int32), B_Mo_frees_49 x1 t_points t_cases t_one t_weight Q N_15 x3 k0 → Wat p l e rm_Mo_frees s m args below meth c A Qf g 4 (cs_Mo_frees g a_t a_t_one a_t_weight a_t_cost a_t_text a_t_read a_t_likes a_t_judged a_t_met a_t_line a_t_image a_t_isKept a_t_had t_points t_cases t_bytes t_position t_tokenAt t_token t_digits t_number t_row t_isRow t_faultAt t_readMany t_readPoints t_readCases t_suitOne t_suitTwo t_one t_weight) [(0, .ref a_t), (1, .int x1), (3, .int x3)] 49 [.int k0] := by
    intro N_15 hN_15 x3 k0 h H locs ls hw hl
    refine lv_iconst (v := 0) hx hb dX10_frees_49 (by decide) ?_
    exact hB_Mo_frees_50 N_15 hN_15 x3 k0 0 h _ _ _ hw (lv_sub hl [0, 1, 2] rfl)
  have hL_Mo_frees_15 : ∀ (n : Nat) (x2 : Int32) (x3 : Int32), L_Mo_frees_15 x1 t_points t_cases t_one t_weight Q n x2 x3 → Wat p l e rm_Mo_frees s m args below meth c A Qf g 4 (cs_Mo_frees g a_t a_t_one a_t_weight a_t_cost a_t_text a_t_read a_t_likes a_t_judged a_t_met a_t_line a_t_image a_t_isKept a_t_had t_points t_cases t_bytes t_position t_tokenAt t_token t_digits t_number t_row t_isRow t_faultAt t_readMany t_readPoints t_readCases t_suitOne t_suitTwo t_one t_weight) [(0, .ref a_t), (1, .int x1), (2, .int x2), (3, .int x3)] 15 [] := by
    intro n
    induction n with
    | zero => intro x2 x3 h; exact absurd h id
    | succ n ih =>
      intro x2 x3 h H locs ls hw hl
      rw [L_Mo_frees_15] at h
      refine lv_iload_n hx hb dX10_frees_15 rfl (lv_at hl 3 rfl) ?_
      refine lv_aload_n hx hb dX10_frees_16 rfl (lv_at hl 0 rfl) ?_
      refine callVi (As := []) (rest := [.int x3]) (W2 := fun _ => (cs_Mo_frees g a_t a_t_one a_t_weight a_t_cost a_t_text a_t_read a_t_likes a_t_judged a_t_met a_t_line a_t_image a_t_isKept a_t_had t_points t_cases t_bytes t_position t_tokenAt t_token t_digits t_number t_row t_isRow t_faultAt t_readMany t_readPoints t_readCases t_suitOne t_suitTwo t_one t_weight)) C hw hl (c_Mo_deedMany l g a_t a_t_weight a_t_cost a_t_one a_t_text a_t_read a_t_likes a_t_judged a_t_met a_t_line a_t_image a_t_isKept a_t_had t_points t_cases t_bytes t_position t_tokenAt t_token t_digits t_number t_row t_isRow t_faultAt t_readMany t_readPoints t_readCases t_suitOne t_suitTwo _ h) tw_1099 kk_X10_deedMany rfl ⟨rfl, rfl⟩ ⟨by decide, by decide⟩ (Nat.le_of_ble_eq_true rfl) 0 rfl rfl rfl [0] [1, 2] [2, 0, 1] rfl rfl rfl rfl rfl rfl (fun u => rfl) rfl dX10_frees_17 (fun r_2 u H locs h hw => ?_)
      refine lv_icmp_ge (tgt := 58) hx hb dX10_frees_20 (by decide) (fun c_20 => ?_) (fun c_20 => ?_)
      · have h := h.1 c_20
        refine lv_iload_n hx hb dX10_frees_58 rfl (lv_at hl 2 rfl) ?_
        exact hret () h hw dX10_frees_59 rfl
      · have h := h.2 c_20
        refine lv_iload_n hx hb dX10_frees_23 rfl (lv_at hl 2 rfl) ?_
        refine lv_aload_n hx hb dX10_frees_24 rfl (lv_at hl 0 rfl) ?_
        refine lv_iload_n hx hb dX10_frees_25 rfl (lv_at hl 3 rfl) ?_
        refine callVi (As := [.int x3]) (rest := [.int x2]) (W2 := fun _ => (cs_Mo_frees g a_t a_t_one a_t_weight a_t_cost a_t_text a_t_read a_t_likes a_t_judged a_t_met a_t_line a_t_image a_t_isKept a_t_had t_points t_cases t_bytes t_position t_tokenAt t_token t_digits t_number t_row t_isRow t_faultAt t_readMany t_readPoints t_readCases t_suitOne t_suitTwo t_one t_weight)) C hw hl (c_Mo_judgmentAt l g a_t a_t_one a_t_weight a_t_cost a_t_text a_t_read a_t_likes a_t_judged a_t_met a_t_line a_t_image a_t_isKept a_t_had t_points t_cases t_bytes t_position t_tokenAt t_token t_digits t_number t_row t_isRow t_faultAt t_readMany t_readPoints t_readCases t_suitOne t_suitTwo t_one t_weight x3 _ h) tw_1126 kk_X10_judgmentAt rfl ⟨rfl, rfl⟩ ⟨by decide, by decide⟩ (Nat.le_of_ble_eq_true rfl) 0 rfl rfl rfl [0, 1, 2] [] [0, 1, 2] rfl rfl rfl rfl rfl rfl (fun u => rfl) rfl dX10_frees_26 (fun r_3 u H locs h hw => ?_)
        refine lv_if_le (tgt := 49) hx hb dX10_frees_29 (by decide) (fun c_29 => ?_) (fun c_29 => ?_)
        · have h := h.1 c_29
          exact hB_Mo_frees_49 (L_Mo_frees_15 x1 t_points t_cases t_one t_weight Q n) ih x3 x2 h _ _ _ hw (lv_sub hl [0, 1, 3] rfl)
        · have h := h.2 c_29
          refine lv_aload_n hx hb dX10_frees_32 rfl (lv_at hl 0 rfl) ?_
          refine lv_iload_n hx hb dX10_frees_33 rfl (lv_at hl 3 rfl) ?_
          refine lv_aload_n hx hb dX10_frees_34 rfl (lv_at hl 0 rfl) ?_
          refine callVi (As := []) (rest := [.int x3, .ref a_t, .int x2]) (W2 := fun _ => (cs_Mo_frees g a_t a_t_one a_t_weight a_t_cost a_t_text a_t_read a_t_likes a_t_judged a_t_met a_t_line a_t_image a_t_isKept a_t_had t_points t_cases t_bytes t_position t_tokenAt t_token t_digits t_number t_row t_isRow t_faultAt t_readMany t_readPoints t_readCases t_suitOne t_suitTwo t_one t_weight)) C hw hl (c_Mo_all l g a_t a_t_weight a_t_cost a_t_one a_t_text a_t_read a_t_likes a_t_judged a_t_met a_t_line a_t_image a_t_isKept a_t_had t_points t_cases t_bytes t_position t_tokenAt t_token t_digits t_number t_row t_isRow t_faultAt t_readMany t_readPoints t_readCases t_suitOne t_suitTwo _ h) tw_1103 kk_X10_all rfl ⟨rfl, rfl⟩ ⟨by decide, by decide⟩ (Nat.le_of_ble_eq_true rfl) 0 rfl rfl rfl [0] [1, 2] [2, 0, 1] rfl rfl rfl rfl rfl rfl (fun u => rfl) rfl dX10_frees_35 (fun r_4 u H locs h hw => ?_)
          refine callVi (As := [.int x3, .int r_4]) (rest := [.int x2]) (W2 := fun _ => (cs_Mo_frees g a_t a_t_one a_t_weight a_t_cost a_t_text a_t_read a_t_likes a_t_judged a_t_met a_t_line a_t_image a_t_isKept a_t_had t_points t_cases t_bytes t_position t_tokenAt t_token t_digits t_number t_row t_isRow t_faultAt t_readMany t_readPoints t_readCases t_suitOne t_suitTwo t_one t_weight)) C hw hl (c_Mo_caseOf l g a_t a_t_one a_t_weight a_t_cost a_t_text a_t_read a_t_likes a_t_judged a_t_met a_t_line a_t_image a_t_isKept a_t_had t_points t_cases t_bytes t_position t_tokenAt t_token t_digits t_number t_row t_isRow t_faultAt t_readMany t_readPoints t_readCases t_suitOne t_suitTwo t_one t_weight x3 r_4 _ h) tw_1107 kk_X10_caseOf rfl ⟨rfl, rfl⟩ ⟨by decide, by decide⟩ (Nat.le_of_ble_eq_true rfl) 0 rfl rfl rfl [0, 1, 2] [] [0, 1, 2] rfl rfl rfl rfl rfl rfl (fun u => rfl) rfl dX10_frees_38 (fun r_5 u H locs h hw => ?_)
          refine lv_iload_n hx hb dX10_frees_41 rfl (lv_at hl 1 rfl) ?_
          refine lv_icmp_ne (tgt := 49) hx hb dX10_frees_42 (by decide) (fun c_42 => ?_) (fun c_42 => ?_)
          · have h := h.1 c_42
            exact hB_Mo_frees_49 (L_Mo_frees_15 x1 t_points t_cases t_one t_weight Q n) ih x3 x2 h _ _ _ hw (lv_sub hl [0, 1, 3] rfl)
          · have h := h.2 c_42
            refine lv_iconst (v := 1) hx hb dX10_frees_45 (by decide) ?_
            refine lv_goto (tgt := 50) hx hb dX10_frees_46 (by decide) ?_
            exact hB_Mo_frees_50 (L_Mo_frees_15 x1 t_points t_cases t_one t_weight Q n) ih x3 x2 1 h _ _ _ hw (lv_sub hl [0, 1, 3] rfl)
  refine lv_aload_n hx hb dX10_frees_0 rfl (lv_at hl 0 rfl) ?_
  refine lv_iload_n hx hb dX10_frees_1 rfl (lv_at hl 1 rfl) ?_
  refine callVi (As := [.int x1]) (rest := []) (W2 := fun _ => (cs_Mo_frees g a_t a_t_one a_t_weight a_t_cost a_t_text a_t_read a_t_likes a_t_judged a_t_met a_t_line a_t_image a_t_isKept a_t_had t_points t_cases t_bytes t_position t_tokenAt t_token t_digits t_number t_row t_isRow t_faultAt t_readMany t_readPoints t_readCases t_suitOne t_suitTwo t_one t_weight)) C hw hl (c_Mo_isCase l g a_t a_t_weight a_t_cost a_t_one a_t_text a_t_read a_t_likes a_t_judged a_t_met a_t_line a_t_image a_t_isKept a_t_had t_points t_cases t_bytes t_position t_tokenAt t_token t_digits t_number t_row t_isRow t_faultAt t_readMany t_readPoints t_readCases t_suitOne t_suitTwo x1 _ h) tw_1079 kk_X10_isCase rfl ⟨rfl, rfl⟩ ⟨by decide, by decide⟩ (Nat.le_of_ble_eq_true rfl) 0 rfl rfl rfl [0] [1, 2] [2, 0, 1] rfl rfl rfl rfl rfl rfl (fun u => rfl) rfl dX10_frees_2 (fun r_6 u H locs h hw => ?_)
  refine lv_if_ne (tgt := 11) hx hb dX10_frees_5 (by decide) (fun c_5 => ?_) (fun c_5 => ?_)
  · have h := h.1 c_5
    refine lv_iconst (v := 0) hx hb dX10_frees_11 (by decide) ?_
    refine lv_istore_n (lv' := [(2, .int 0), (0, .ref a_t), (1, .int x1)]) hx hb dX10_frees_12 rfl hl (by decide) rfl (fun ls hl => ?_)
    refine lv_iconst (v := 0) hx hb dX10_frees_13 (by decide) ?_
    refine lv_istore_n (lv' := [(3, .int 0), (2, .int 0), (0, .ref a_t), (1, .int x1)]) hx hb dX10_frees_14 rfl hl (by decide) rfl (fun ls hl => ?_)
    obtain ⟨n_15, h⟩ := h
    exact hL_Mo_frees_15 n_15 0 0 h _ _ _ hw (lv_sub hl [2, 3, 1, 0] rfl)
  · have h := h.2 c_5
    refine lv_bipush (v := (-2)) hx hb dX10_frees_8 (by decide) ?_
    exact hret () h hw dX10_frees_10 rfl
def L_Mo_save_27 (x1 : Int32) (t_cases : Int32) (t_one : (Nat → Int32)) (Q : Int32 → (Nat → Int32) → (Nat → Int32) → Prop) : Nat → Int32 → (Nat → Int32) → (Nat → Int32) → Prop
  | 0 => fun _ _ _ => False
  | n + 1 => fun x2 t_image t_isKept => (48 ≤ x2 → vp_in x1 2 ∧ (Q t_cases t_image (upd t_isKept x1.toNatClampNeg (vp_nar .boolean 1)))) ∧ (¬ 48 ≤ x2 → vp_in x2 56 ∧ (vp_in (((49 * x1) + 1) + x2) 98 ∧ ((L_Mo_save_27 x1 t_cases t_one Q n) (x2 + 1) (upd t_image (((49 * x1) + 1) + x2).toNatClampNeg (t_one x2.toNatClampNeg)) t_isKept)))
def P_Mo_save (x1 : Int32) (t_cases : Int32) (t_image : (Nat → Int32)) (t_isKept : (Nat → Int32)) (t_one : (Nat → Int32)) (Q : Int32 → (Nat → Int32) → (Nat → Int32) → Prop) : Prop := P_Mo_in x1 0 1 (fun r_1 => (¬ r_1 = 0 → vp_in (49 * x1) 98 ∧ (∃ n_27 : Nat, L_Mo_save_27 x1 t_cases t_one Q n_27 0 (upd t_image (49 * x1).toNatClampNeg t_cases) t_isKept)) ∧ (r_1 = 0 → Q (-2) t_image t_isKept))
abbrev rm_Mo_save : Room := { frames := 1, cells := 0, slots := 0, locals := 22 }
def cs_Mo_save (g : GE) (a_t a_t_image a_t_isKept a_t_one a_t_weight a_t_cost a_t_text a_t_read a_t_likes a_t_judged a_t_met a_t_line a_t_had : Nat) (t_points : Int32) (t_cases : Int32) (t_bytes : Int32) (t_position : Int32) (t_tokenAt : Int32) (t_token : Int64) (t_digits : Int32) (t_number : Int32) (t_row : Int32) (t_isRow : Int32) (t_faultAt : Int32) (t_readMany : Int32) (t_readPoints : Int32) (t_readCases : Int32) (t_suitOne : Int32) (t_suitTwo : Int32) (t_image : (Nat → Int32)) (t_isKept : (Nat → Int32)) (t_one : (Nat → Int32)) : va_W := [oc a_t 10 [.int t_points, .ref a_t_weight, .ref a_t_cost, .int t_cases, .ref a_t_one, .int t_bytes, .ref a_t_text, .int t_position, .int t_tokenAt, .long t_token, .int t_digits, .int t_number, .int t_row, .int t_isRow, .int t_faultAt, .int t_readMany, .int t_readPoints, .int t_readCases, .ref a_t_read, .ref a_t_likes, .ref a_t_judged, .ref a_t_met, .ref a_t_line, .ref a_t_image, .ref a_t_isKept, .int t_suitOne, .int t_suitTwo, .ref a_t_had], ai g a_t_image 98 t_image, az g a_t_isKept 2 t_isKept, ai g a_t_one 56 t_one]
set_option maxHeartbeats 4000000 in
set_option maxRecDepth 100000 in
theorem c_Mo_save (l : Launch) (g : GE) (a_t a_t_image a_t_isKept a_t_one a_t_weight a_t_cost a_t_text a_t_read a_t_likes a_t_judged a_t_met a_t_line a_t_had : Nat) (t_points : Int32) (t_cases : Int32) (t_bytes : Int32) (t_position : Int32) (t_tokenAt : Int32) (t_token : Int64) (t_digits : Int32) (t_number : Int32) (t_row : Int32) (t_isRow : Int32) (t_faultAt : Int32) (t_readMany : Int32) (t_readPoints : Int32) (t_readCases : Int32) (t_suitOne : Int32) (t_suitTwo : Int32) (t_image : (Nat → Int32)) (t_isKept : (Nat → Int32)) (t_one : (Nat → Int32)) (x1 : Int32) (Q : Int32 → (Nat → Int32) → (Nat → Int32) → Prop) (h : P_Mo_save x1 t_cases t_image t_isKept t_one Q) : Cti l g yX10_save cX10_save 3 (some .int) rm_Mo_save [.ref a_t, .int x1] (cs_Mo_save g a_t a_t_image a_t_isKept a_t_one a_t_weight a_t_cost a_t_text a_t_read a_t_likes a_t_judged a_t_met a_t_line a_t_had t_points t_cases t_bytes t_position t_tokenAt t_token t_digits t_number t_row t_isRow t_faultAt t_readMany t_readPoints t_readCases t_suitOne t_suitTwo t_image t_isKept t_one) (S := (Nat → Int32) × (Nat → Int32)) (fun r u => Q r u.1 u.2) (fun u => (cs_Mo_save g a_t a_t_image a_t_isKept a_t_one a_t_weight a_t_cost a_t_text a_t_read a_t_likes a_t_judged a_t_met a_t_line a_t_had t_points t_cases t_bytes t_position t_tokenAt t_token t_digits t_number t_row t_isRow t_faultAt t_readMany t_readPoints t_readCases t_suitOne t_suitTwo (u.1) (u.2) t_one)) := by
  refine meetI rfl (Nat.le_of_ble_eq_true rfl) ⟨rfl, rfl⟩ ?_
  intro p e s m args below meth c A Qf ls C hret hw hl
  have hx := C.1
  have hb := C.2.1
  have hown := C.2.2.2.1
  have hts := C.2.2.2.2.1
  have hE := C.2.2.2.2.2.1
  have hl : lv_has ls 3 [(0, .ref a_t), (1, .int x1)] := hl
  have hL_Mo_save_27 : ∀ (n : Nat) (x2 : Int32) (t_image : (Nat → Int32)) (t_isKept : (Nat → Int32)), L_Mo_save_27 x1 t_cases t_one Q n x2 t_image t_isKept → Wat p l e rm_Mo_save s m args below meth c A Qf g 3 (cs_Mo_save g a_t a_t_image a_t_isKept a_t_one a_t_weight a_t_cost a_t_text a_t_read a_t_likes a_t_judged a_t_met a_t_line a_t_had t_points t_cases t_bytes t_position t_tokenAt t_token t_digits t_number t_row t_isRow t_faultAt t_readMany t_readPoints t_readCases t_suitOne t_suitTwo t_image t_isKept t_one) [(0, .ref a_t), (1, .int x1), (2, .int x2)] 27 [] := by
    intro n
    induction n with
    | zero => intro x2 t_image t_isKept h; exact absurd h id
    | succ n ih =>
      intro x2 t_image t_isKept h H locs ls hw hl
      rw [L_Mo_save_27] at h
      refine lv_iload_n hx hb dX10_save_27 rfl (lv_at hl 2 rfl) ?_
      refine lv_bipush (v := 48) hx hb dX10_save_28 (by decide) ?_
      refine lv_icmp_ge (tgt := 58) hx hb dX10_save_30 (by decide) (fun c_30 => ?_) (fun c_30 => ?_)
      · have h := h.1 c_30
        refine lv_aload_n hx hb dX10_save_58 rfl (lv_at hl 0 rfl) ?_
        refine G_RX10_44 C hw 0 rfl dX10_save_59 ?_
        refine lv_iload_n hx hb dX10_save_62 rfl (lv_at hl 1 rfl) ?_
        refine lv_iconst (v := 1) hx hb dX10_save_63 (by decide) ?_
        refine astZ (ws2 := (cs_Mo_save g a_t a_t_image a_t_isKept a_t_one a_t_weight a_t_cost a_t_text a_t_read a_t_likes a_t_judged a_t_met a_t_line a_t_had t_points t_cases t_bytes t_position t_tokenAt t_token t_digits t_number t_row t_isRow t_faultAt t_readMany t_readPoints t_readCases t_suitOne t_suitTwo t_image (upd t_isKept x1.toNatClampNeg (vp_nar .boolean 1)) t_one)) C hw 2 rfl h.1 rfl dX10_save_64 (fun H locs hw => ?_)
        have h := h.2
        refine lv_aload_n hx hb dX10_save_65 rfl (lv_at hl 0 rfl) ?_
        refine G_RX10_54 C hw 0 rfl dX10_save_66 ?_
        exact hret (t_image, upd t_isKept x1.toNatClampNeg (vp_nar .boolean 1)) h hw dX10_save_69 rfl
      · have h := h.2 c_30
        refine lv_aload_n hx hb dX10_save_33 rfl (lv_at hl 0 rfl) ?_
        refine G_RX10_41 C hw 0 rfl dX10_save_34 ?_
        refine lv_bipush (v := 49) hx hb dX10_save_37 (by decide) ?_
        refine lv_iload_n hx hb dX10_save_39 rfl (lv_at hl 1 rfl) ?_
        refine lv_imul hx hb dX10_save_40 ?_
        refine lv_iconst (v := 1) hx hb dX10_save_41 (by decide) ?_
        refine lv_iadd hx hb dX10_save_42 ?_
        refine lv_iload_n hx hb dX10_save_43 rfl (lv_at hl 2 rfl) ?_
        refine lv_iadd hx hb dX10_save_44 ?_
        refine lv_aload_n hx hb dX10_save_45 rfl (lv_at hl 0 rfl) ?_
        refine G_RX10_20 C hw 0 rfl dX10_save_46 ?_
        refine lv_iload_n hx hb dX10_save_49 rfl (lv_at hl 2 rfl) ?_
        refine aldI C hw 3 rfl h.1 dX10_save_50 ?_
        have h := h.2
        refine astI (ws2 := (cs_Mo_save g a_t a_t_image a_t_isKept a_t_one a_t_weight a_t_cost a_t_text a_t_read a_t_likes a_t_judged a_t_met a_t_line a_t_had t_points t_cases t_bytes t_position t_tokenAt t_token t_digits t_number t_row t_isRow t_faultAt t_readMany t_readPoints t_readCases t_suitOne t_suitTwo (upd t_image (((49 * x1) + 1) + x2).toNatClampNeg (t_one x2.toNatClampNeg)) t_isKept t_one)) C hw 1 rfl h.1 rfl dX10_save_51 (fun H locs hw => ?_)
        have h := h.2
        refine lv_iinc (v := x2 + 1) (lv' := [(2, .int (x2 + 1)), (0, .ref a_t), (1, .int x1)]) hx hb dX10_save_52 hl (k := 2) rfl rfl (by decide) rfl (fun ls hl => ?_)
        refine lv_goto (tgt := 27) hx hb dX10_save_55 (by decide) ?_
        exact ih (x2 + 1) (upd t_image (((49 * x1) + 1) + x2).toNatClampNeg (t_one x2.toNatClampNeg)) t_isKept h _ _ _ hw (lv_sub hl [1, 2, 0] rfl)
  refine lv_iload_n hx hb dX10_save_0 rfl (lv_at hl 1 rfl) ?_
  refine lv_iconst (v := 0) hx hb dX10_save_1 (by decide) ?_
  refine lv_iconst (v := 1) hx hb dX10_save_2 (by decide) ?_
  refine callSi (As := [.int x1, .int 0, .int 1]) (rest := []) C hw hl (c_Mo_in l g x1 0 1 _ h) tw_999 kk_X10_in rfl ⟨rfl, rfl⟩ ⟨by decide, by decide⟩ (Nat.le_of_ble_eq_true rfl) rfl dX10_save_3 (fun r_1 u H locs h hw => ?_)
  refine lv_if_ne (tgt := 12) hx hb dX10_save_6 (by decide) (fun c_6 => ?_) (fun c_6 => ?_)
  · have h := h.1 c_6
    refine lv_aload_n hx hb dX10_save_12 rfl (lv_at hl 0 rfl) ?_
    refine G_RX10_41 C hw 0 rfl dX10_save_13 ?_
    refine lv_bipush (v := 49) hx hb dX10_save_16 (by decide) ?_
    refine lv_iload_n hx hb dX10_save_18 rfl (lv_at hl 1 rfl) ?_
    refine lv_imul hx hb dX10_save_19 ?_
    refine lv_aload_n hx hb dX10_save_20 rfl (lv_at hl 0 rfl) ?_
    refine G_RX10_54 C hw 0 rfl dX10_save_21 ?_
    refine astI (ws2 := (cs_Mo_save g a_t a_t_image a_t_isKept a_t_one a_t_weight a_t_cost a_t_text a_t_read a_t_likes a_t_judged a_t_met a_t_line a_t_had t_points t_cases t_bytes t_position t_tokenAt t_token t_digits t_number t_row t_isRow t_faultAt t_readMany t_readPoints t_readCases t_suitOne t_suitTwo (upd t_image (49 * x1).toNatClampNeg t_cases) t_isKept t_one)) C hw 1 rfl h.1 rfl dX10_save_24 (fun H locs hw => ?_)
    have h := h.2
    refine lv_iconst (v := 0) hx hb dX10_save_25 (by decide) ?_
    refine lv_istore_n (lv' := [(2, .int 0), (0, .ref a_t), (1, .int x1)]) hx hb dX10_save_26 rfl hl (by decide) rfl (fun ls hl => ?_)
    obtain ⟨n_27, h⟩ := h
    exact hL_Mo_save_27 n_27 0 (upd t_image (49 * x1).toNatClampNeg t_cases) t_isKept h _ _ _ hw (lv_sub hl [1, 2, 0] rfl)
  · have h := h.2 c_6
    refine lv_bipush (v := (-2)) hx hb dX10_save_9 (by decide) ?_
    exact hret (t_image, t_isKept) h hw dX10_save_11 rfl
def L_Mo_back_39 (x1 : Int32) (t_image : (Nat → Int32)) (t_isKept : (Nat → Int32)) (Q : Int32 → Int32 → (Nat → Int32) → Prop) : Nat → Int32 → Int32 → (Nat → Int32) → Prop
  | 0 => fun _ _ _ => False
  | n + 1 => fun x2 t_cases t_one => (48 ≤ x2 → Q t_cases t_cases t_one) ∧ (¬ 48 ≤ x2 → vp_in (((49 * x1) + 1) + x2) 98 ∧ (vp_in x2 56 ∧ ((L_Mo_back_39 x1 t_image t_isKept Q n) (x2 + 1) t_cases (upd t_one x2.toNatClampNeg (t_image (((49 * x1) + 1) + x2).toNatClampNeg)))))
def P_Mo_back (x1 : Int32) (t_cases : Int32) (t_image : (Nat → Int32)) (t_isKept : (Nat → Int32)) (t_one : (Nat → Int32)) (Q : Int32 → Int32 → (Nat → Int32) → Prop) : Prop := P_Mo_in x1 0 1 (fun r_1 => (¬ r_1 = 0 → vp_in x1 2 ∧ ((¬ (t_isKept x1.toNatClampNeg) = 0 → vp_in (49 * x1) 98 ∧ (∀ t_cases_2 : Int32, t_cases_2 = (t_image (49 * x1).toNatClampNeg) → ∃ n_39 : Nat, L_Mo_back_39 x1 t_image t_isKept Q n_39 0 t_cases_2 t_one)) ∧ ((t_isKept x1.toNatClampNeg) = 0 → Q (-4) t_cases t_one))) ∧ (r_1 = 0 → Q (-2) t_cases t_one))
abbrev rm_Mo_back : Room := { frames := 1, cells := 0, slots := 0, locals := 22 }
def cs_Mo_back (g : GE) (a_t a_t_image a_t_isKept a_t_one a_t_weight a_t_cost a_t_text a_t_read a_t_likes a_t_judged a_t_met a_t_line a_t_had : Nat) (t_points : Int32) (t_cases : Int32) (t_bytes : Int32) (t_position : Int32) (t_tokenAt : Int32) (t_token : Int64) (t_digits : Int32) (t_number : Int32) (t_row : Int32) (t_isRow : Int32) (t_faultAt : Int32) (t_readMany : Int32) (t_readPoints : Int32) (t_readCases : Int32) (t_suitOne : Int32) (t_suitTwo : Int32) (t_image : (Nat → Int32)) (t_isKept : (Nat → Int32)) (t_one : (Nat → Int32)) : va_W := [oc a_t 10 [.int t_points, .ref a_t_weight, .ref a_t_cost, .int t_cases, .ref a_t_one, .int t_bytes, .ref a_t_text, .int t_position, .int t_tokenAt, .long t_token, .int t_digits, .int t_number, .int t_row, .int t_isRow, .int t_faultAt, .int t_readMany, .int t_readPoints, .int t_readCases, .ref a_t_read, .ref a_t_likes, .ref a_t_judged, .ref a_t_met, .ref a_t_line, .ref a_t_image, .ref a_t_isKept, .int t_suitOne, .int t_suitTwo, .ref a_t_had], ai g a_t_image 98 t_image, az g a_t_isKept 2 t_isKept, ai g a_t_one 56 t_one]
set_option maxHeartbeats 4000000 in
set_option maxRecDepth 100000 in
theorem c_Mo_back (l : Launch) (g : GE) (a_t a_t_image a_t_isKept a_t_one a_t_weight a_t_cost a_t_text a_t_read a_t_likes a_t_judged a_t_met a_t_line a_t_had : Nat) (t_points : Int32) (t_cases : Int32) (t_bytes : Int32) (t_position : Int32) (t_tokenAt : Int32) (t_token : Int64) (t_digits : Int32) (t_number : Int32) (t_row : Int32) (t_isRow : Int32) (t_faultAt : Int32) (t_readMany : Int32) (t_readPoints : Int32) (t_readCases : Int32) (t_suitOne : Int32) (t_suitTwo : Int32) (t_image : (Nat → Int32)) (t_isKept : (Nat → Int32)) (t_one : (Nat → Int32)) (x1 : Int32) (Q : Int32 → Int32 → (Nat → Int32) → Prop) (h : P_Mo_back x1 t_cases t_image t_isKept t_one Q) : Cti l g yX10_back cX10_back 3 (some .int) rm_Mo_back [.ref a_t, .int x1] (cs_Mo_back g a_t a_t_image a_t_isKept a_t_one a_t_weight a_t_cost a_t_text a_t_read a_t_likes a_t_judged a_t_met a_t_line a_t_had t_points t_cases t_bytes t_position t_tokenAt t_token t_digits t_number t_row t_isRow t_faultAt t_readMany t_readPoints t_readCases t_suitOne t_suitTwo t_image t_isKept t_one) (S := Int32 × (Nat → Int32)) (fun r u => Q r u.1 u.2) (fun u => (cs_Mo_back g a_t a_t_image a_t_isKept a_t_one a_t_weight a_t_cost a_t_text a_t_read a_t_likes a_t_judged a_t_met a_t_line a_t_had t_points (u.1) t_bytes t_position t_tokenAt t_token t_digits t_number t_row t_isRow t_faultAt t_readMany t_readPoints t_readCases t_suitOne t_suitTwo t_image t_isKept (u.2))) := by
  refine meetI rfl (Nat.le_of_ble_eq_true rfl) ⟨rfl, rfl⟩ ?_
  intro p e s m args below meth c A Qf ls C hret hw hl
  have hx := C.1
  have hb := C.2.1
  have hown := C.2.2.2.1
  have hts := C.2.2.2.2.1
  have hE := C.2.2.2.2.2.1
  have hl : lv_has ls 3 [(0, .ref a_t), (1, .int x1)] := hl
  have hL_Mo_back_39 : ∀ (n : Nat) (x2 : Int32) (t_cases : Int32) (t_one : (Nat → Int32)), L_Mo_back_39 x1 t_image t_isKept Q n x2 t_cases t_one → Wat p l e rm_Mo_back s m args below meth c A Qf g 3 (cs_Mo_back g a_t a_t_image a_t_isKept a_t_one a_t_weight a_t_cost a_t_text a_t_read a_t_likes a_t_judged a_t_met a_t_line a_t_had t_points t_cases t_bytes t_position t_tokenAt t_token t_digits t_number t_row t_isRow t_faultAt t_readMany t_readPoints t_readCases t_suitOne t_suitTwo t_image t_isKept t_one) [(0, .ref a_t), (1, .int x1), (2, .int x2)] 39 [] := by
    intro n
    induction n with
    | zero => intro x2 t_cases t_one h; exact absurd h id
    | succ n ih =>
      intro x2 t_cases t_one h H locs ls hw hl
      rw [L_Mo_back_39] at h
      refine lv_iload_n hx hb dX10_back_39 rfl (lv_at hl 2 rfl) ?_
      refine lv_bipush (v := 48) hx hb dX10_back_40 (by decide) ?_
      refine lv_icmp_ge (tgt := 70) hx hb dX10_back_42 (by decide) (fun c_42 => ?_) (fun c_42 => ?_)
      · have h := h.1 c_42
        refine lv_aload_n hx hb dX10_back_70 rfl (lv_at hl 0 rfl) ?_
        refine G_RX10_54 C hw 0 rfl dX10_back_71 ?_
        exact hret (t_cases, t_one) h hw dX10_back_74 rfl
      · have h := h.2 c_42
        refine lv_aload_n hx hb dX10_back_45 rfl (lv_at hl 0 rfl) ?_
        refine G_RX10_20 C hw 0 rfl dX10_back_46 ?_
        refine lv_iload_n hx hb dX10_back_49 rfl (lv_at hl 2 rfl) ?_
        refine lv_aload_n hx hb dX10_back_50 rfl (lv_at hl 0 rfl) ?_
        refine G_RX10_41 C hw 0 rfl dX10_back_51 ?_
        refine lv_bipush (v := 49) hx hb dX10_back_54 (by decide) ?_
        refine lv_iload_n hx hb dX10_back_56 rfl (lv_at hl 1 rfl) ?_
        refine lv_imul hx hb dX10_back_57 ?_
        refine lv_iconst (v := 1) hx hb dX10_back_58 (by decide) ?_
        refine lv_iadd hx hb dX10_back_59 ?_
        refine lv_iload_n hx hb dX10_back_60 rfl (lv_at hl 2 rfl) ?_
        refine lv_iadd hx hb dX10_back_61 ?_
        refine aldI C hw 1 rfl h.1 dX10_back_62 ?_
        have h := h.2
        refine astI (ws2 := (cs_Mo_back g a_t a_t_image a_t_isKept a_t_one a_t_weight a_t_cost a_t_text a_t_read a_t_likes a_t_judged a_t_met a_t_line a_t_had t_points t_cases t_bytes t_position t_tokenAt t_token t_digits t_number t_row t_isRow t_faultAt t_readMany t_readPoints t_readCases t_suitOne t_suitTwo t_image t_isKept (upd t_one x2.toNatClampNeg (t_image (((49 * x1) + 1) + x2).toNatClampNeg)))) C hw 3 rfl h.1 rfl dX10_back_63 (fun H locs hw => ?_)
        have h := h.2
        refine lv_iinc (v := x2 + 1) (lv' := [(2, .int (x2 + 1)), (0, .ref a_t), (1, .int x1)]) hx hb dX10_back_64 hl (k := 2) rfl rfl (by decide) rfl (fun ls hl => ?_)
        refine lv_goto (tgt := 39) hx hb dX10_back_67 (by decide) ?_
        exact ih (x2 + 1) t_cases (upd t_one x2.toNatClampNeg (t_image (((49 * x1) + 1) + x2).toNatClampNeg)) h _ _ _ hw (lv_sub hl [1, 2, 0] rfl)
  refine lv_iload_n hx hb dX10_back_0 rfl (lv_at hl 1 rfl) ?_
  refine lv_iconst (v := 0) hx hb dX10_back_1 (by decide) ?_
  refine lv_iconst (v := 1) hx hb dX10_back_2 (by decide) ?_
  refine callSi (As := [.int x1, .int 0, .int 1]) (rest := []) C hw hl (c_Mo_in l g x1 0 1 _ h) tw_999 kk_X10_in rfl ⟨rfl, rfl⟩ ⟨by decide, by decide⟩ (Nat.le_of_ble_eq_true rfl) rfl dX10_back_3 (fun r_1 u H locs h hw => ?_)
  refine lv_if_ne (tgt := 12) hx hb dX10_back_6 (by decide) (fun c_6 => ?_) (fun c_6 => ?_)
  · have h := h.1 c_6
    refine lv_aload_n hx hb dX10_back_12 rfl (lv_at hl 0 rfl) ?_
    refine G_RX10_44 C hw 0 rfl dX10_back_13 ?_
    refine lv_iload_n hx hb dX10_back_16 rfl (lv_at hl 1 rfl) ?_
    refine aldZ C hw 2 rfl h.1 dX10_back_17 ?_
    have h := h.2
    refine lv_if_ne (tgt := 24) hx hb dX10_back_18 (by decide) (fun c_18 => ?_) (fun c_18 => ?_)
    · have h := h.1 c_18
      refine lv_aload_n hx hb dX10_back_24 rfl (lv_at hl 0 rfl) ?_
      refine lv_aload_n hx hb dX10_back_25 rfl (lv_at hl 0 rfl) ?_
      refine G_RX10_41 C hw 0 rfl dX10_back_26 ?_
      refine lv_bipush (v := 49) hx hb dX10_back_29 (by decide) ?_
      refine lv_iload_n hx hb dX10_back_31 rfl (lv_at hl 1 rfl) ?_
      refine lv_imul hx hb dX10_back_32 ?_
      refine aldI C hw 1 rfl h.1 dX10_back_33 ?_
      have h := h.2
      refine lv_topi (fun t_cases_2 et_cases_2 => ?_)
      have h := h t_cases_2 et_cases_2
      refine U_RX10_54 (ws2 := (cs_Mo_back g a_t a_t_image a_t_isKept a_t_one a_t_weight a_t_cost a_t_text a_t_read a_t_likes a_t_judged a_t_met a_t_line a_t_had t_points t_cases_2 t_bytes t_position t_tokenAt t_token t_digits t_number t_row t_isRow t_faultAt t_readMany t_readPoints t_readCases t_suitOne t_suitTwo t_image t_isKept t_one)) C hw 0 rfl rfl rfl rfl dX10_back_34 (fun H locs hw => ?_)
      refine lv_iconst (v := 0) hx hb dX10_back_37 (by decide) ?_
      refine lv_istore_n (lv' := [(2, .int 0), (0, .ref a_t), (1, .int x1)]) hx hb dX10_back_38 rfl hl (by decide) rfl (fun ls hl => ?_)
      obtain ⟨n_39, h⟩ := h
      exact hL_Mo_back_39 n_39 0 t_cases_2 t_one h _ _ _ hw (lv_sub hl [1, 2, 0] rfl)
    · have h := h.2 c_18
      refine lv_bipush (v := (-4)) hx hb dX10_back_21 (by decide) ?_
      exact hret (t_cases, t_one) h hw dX10_back_23 rfl
  · have h := h.2 c_6
    refine lv_bipush (v := (-2)) hx hb dX10_back_9 (by decide) ?_
    exact hret (t_cases, t_one) h hw dX10_back_11 rfl
def L_Mo_count_4 (x1 : Int32) (t_points : Int32) (t_cases : Int32) (t_bytes : Int32) (t_weight : (Nat → Int32)) (Q : Int32 → Prop) : Nat → Int32 → Int32 → Prop
  | 0 => fun _ _ => False
  | n + 1 => fun x2 x3 => (t_points ≤ x3 → (x1 = 0 → Q t_points) ∧ (¬ x1 = 0 → (x1 = 1 → Q t_cases) ∧ (¬ x1 = 1 → (x1 = 2 → Q t_bytes) ∧ (¬ x1 = 2 → (x1 = 3 → Q x2) ∧ (¬ x1 = 3 → Q (-3)))))) ∧ (¬ t_points ≤ x3 → vp_in x3 10 ∧ (∀ x2_1 : Int32, x2_1 = (x2 + (t_weight x3.toNatClampNeg)) → (L_Mo_count_4 x1 t_points t_cases t_bytes t_weight Q n) x2_1 (x3 + 1)))
def P_Mo_count (x1 : Int32) (t_points : Int32) (t_cases : Int32) (t_bytes : Int32) (t_weight : (Nat → Int32)) (Q : Int32 → Prop) : Prop := ∃ n_4 : Nat, L_Mo_count_4 x1 t_points t_cases t_bytes t_weight Q n_4 0 0
abbrev rm_Mo_count : Room := { frames := 0, cells := 0, slots := 0, locals := 0 }
def cs_Mo_count (g : GE) (a_t a_t_weight a_t_cost a_t_one a_t_text a_t_read a_t_likes a_t_judged a_t_met a_t_line a_t_image a_t_isKept a_t_had : Nat) (t_points : Int32) (t_cases : Int32) (t_bytes : Int32) (t_position : Int32) (t_tokenAt : Int32) (t_token : Int64) (t_digits : Int32) (t_number : Int32) (t_row : Int32) (t_isRow : Int32) (t_faultAt : Int32) (t_readMany : Int32) (t_readPoints : Int32) (t_readCases : Int32) (t_suitOne : Int32) (t_suitTwo : Int32) (t_weight : (Nat → Int32)) : va_W := [oc a_t 10 [.int t_points, .ref a_t_weight, .ref a_t_cost, .int t_cases, .ref a_t_one, .int t_bytes, .ref a_t_text, .int t_position, .int t_tokenAt, .long t_token, .int t_digits, .int t_number, .int t_row, .int t_isRow, .int t_faultAt, .int t_readMany, .int t_readPoints, .int t_readCases, .ref a_t_read, .ref a_t_likes, .ref a_t_judged, .ref a_t_met, .ref a_t_line, .ref a_t_image, .ref a_t_isKept, .int t_suitOne, .int t_suitTwo, .ref a_t_had], ai g a_t_weight 10 t_weight]
set_option maxHeartbeats 4000000 in
set_option maxRecDepth 100000 in
theorem c_Mo_count (l : Launch) (g : GE) (a_t a_t_weight a_t_cost a_t_one a_t_text a_t_read a_t_likes a_t_judged a_t_met a_t_line a_t_image a_t_isKept a_t_had : Nat) (t_points : Int32) (t_cases : Int32) (t_bytes : Int32) (t_position : Int32) (t_tokenAt : Int32) (t_token : Int64) (t_digits : Int32) (t_number : Int32) (t_row : Int32) (t_isRow : Int32) (t_faultAt : Int32) (t_readMany : Int32) (t_readPoints : Int32) (t_readCases : Int32) (t_suitOne : Int32) (t_suitTwo : Int32) (t_weight : (Nat → Int32)) (x1 : Int32) (Q : Int32 → Prop) (h : P_Mo_count x1 t_points t_cases t_bytes t_weight Q) : Cti l g yX10_count cX10_count 4 (some .int) rm_Mo_count [.ref a_t, .int x1] (cs_Mo_count g a_t a_t_weight a_t_cost a_t_one a_t_text a_t_read a_t_likes a_t_judged a_t_met a_t_line a_t_image a_t_isKept a_t_had t_points t_cases t_bytes t_position t_tokenAt t_token t_digits t_number t_row t_isRow t_faultAt t_readMany t_readPoints t_readCases t_suitOne t_suitTwo t_weight) (S := Unit) (fun r u => Q r) (fun _ => (cs_Mo_count g a_t a_t_weight a_t_cost a_t_one a_t_text a_t_read a_t_likes a_t_judged a_t_met a_t_line a_t_image a_t_isKept a_t_had t_points t_cases t_bytes t_position t_tokenAt t_token t_digits t_number t_row t_isRow t_faultAt t_readMany t_readPoints t_readCases t_suitOne t_suitTwo t_weight)) := by
  refine meetI rfl (Nat.le_of_ble_eq_true rfl) ⟨rfl, rfl⟩ ?_
  intro p e s m args below meth c A Qf ls C hret hw hl
  have hx := C.1
  have hb := C.2.1
  have hown := C.2.2.2.1
  have hts := C.2.2.2.2.1
  have hE := C.2.2.2.2.2.1
  have hl : lv_has ls 4 [(0, .ref a_t), (1, .int x1)] := hl
  have hL_Mo_count_4 : ∀ (n : Nat) (x2 : Int32) (x3 : Int32), L_Mo_count_4 x1 t_points t_cases t_bytes t_weight Q n x2 x3 → Wat p l e rm_Mo_count s m args below meth c A Qf g 4 (cs_Mo_count g a_t a_t_weight a_t_cost a_t_one a_t_text a_t_read a_t_likes a_t_judged a_t_met a_t_line a_t_image a_t_isKept a_t_had t_points t_cases t_bytes t_position t_tokenAt t_token t_digits t_number t_row t_isRow t_faultAt t_readMany t_readPoints t_readCases t_suitOne t_suitTwo t_weight) [(0, .ref a_t), (1, .int x1), (2, .int x2), (3, .int x3)] 4 [] := by
    intro n
    induction n with
    | zero => intro x2 x3 h; exact absurd h id
    | succ n ih =>
      intro x2 x3 h H locs ls hw hl
      rw [L_Mo_count_4] at h
      refine lv_iload_n hx hb dX10_count_4 rfl (lv_at hl 3 rfl) ?_
      refine lv_aload_n hx hb dX10_count_5 rfl (lv_at hl 0 rfl) ?_
      refine G_RX10_7 C hw 0 rfl dX10_count_6 ?_
      refine lv_icmp_ge (tgt := 27) hx hb dX10_count_9 (by decide) (fun c_9 => ?_) (fun c_9 => ?_)
      · have h := h.1 c_9
        refine lv_iload_n hx hb dX10_count_27 rfl (lv_at hl 1 rfl) ?_
        by_cases c_28_0 : x1 = 0
        · have h := h.1 c_28_0
          refine lv_tableIn (off := 32) (tgt := 60) hx hb dX10_count_28 (by rw [c_28_0]; decide) (by rw [c_28_0]; decide) (by rw [c_28_0]; rfl) (by decide) ?_
          refine lv_aload_n hx hb dX10_count_60 rfl (lv_at hl 0 rfl) ?_
          refine G_RX10_7 C hw 0 rfl dX10_count_61 ?_
          exact hret () h hw dX10_count_64 rfl
        · have h := h.2 c_28_0
          by_cases c_28_1 : x1 = 1
          · have h := h.1 c_28_1
            refine lv_tableIn (off := 37) (tgt := 65) hx hb dX10_count_28 (by rw [c_28_1]; decide) (by rw [c_28_1]; decide) (by rw [c_28_1]; rfl) (by decide) ?_
            refine lv_aload_n hx hb dX10_count_65 rfl (lv_at hl 0 rfl) ?_
            refine G_RX10_54 C hw 0 rfl dX10_count_66 ?_
            exact hret () h hw dX10_count_69 rfl
          · have h := h.2 c_28_1
            by_cases c_28_2 : x1 = 2
            · have h := h.1 c_28_2
              refine lv_tableIn (off := 42) (tgt := 70) hx hb dX10_count_28 (by rw [c_28_2]; decide) (by rw [c_28_2]; decide) (by rw [c_28_2]; rfl) (by decide) ?_
              refine lv_aload_n hx hb dX10_count_70 rfl (lv_at hl 0 rfl) ?_
              refine G_RX10_65 C hw 0 rfl dX10_count_71 ?_
              exact hret () h hw dX10_count_74 rfl
            · have h := h.2 c_28_2
              by_cases c_28_3 : x1 = 3
              · have h := h.1 c_28_3
                refine lv_tableIn (off := 47) (tgt := 75) hx hb dX10_count_28 (by rw [c_28_3]; decide) (by rw [c_28_3]; decide) (by rw [c_28_3]; rfl) (by decide) ?_
                refine lv_iload_n hx hb dX10_count_75 rfl (lv_at hl 2 rfl) ?_
                exact hret () h hw dX10_count_76 rfl
              · have h := h.2 c_28_3
                refine lv_tableOut (tgt := 77) hx hb dX10_count_28 (sw_out (fun z z1 z2 => ?_)) (by decide) ?_
                · rcases (show z = 0 ∨ z = 1 ∨ z = 2 ∨ z = 3 by omega) with rfl | rfl | rfl | rfl
                  · exact sw_ne c_28_0 (by decide)
                  · exact sw_ne c_28_1 (by decide)
                  · exact sw_ne c_28_2 (by decide)
                  · exact sw_ne c_28_3 (by decide)
                · refine lv_bipush (v := (-3)) hx hb dX10_count_77 (by decide) ?_
                  exact hret () h hw dX10_count_79 rfl
      · have h := h.2 c_9
        refine lv_iload_n hx hb dX10_count_12 rfl (lv_at hl 2 rfl) ?_
        refine lv_aload_n hx hb dX10_count_13 rfl (lv_at hl 0 rfl) ?_
        refine G_RX10_13 C hw 0 rfl dX10_count_14 ?_
        refine lv_iload_n hx hb dX10_count_17 rfl (lv_at hl 3 rfl) ?_
        refine aldI C hw 1 rfl h.1 dX10_count_18 ?_
        have h := h.2
        refine lv_iadd hx hb dX10_count_19 ?_
        refine lv_topi (fun x2_1 ex2_1 => ?_)
        have h := h x2_1 ex2_1
        refine lv_istore_n (lv' := [(2, .int x2_1), (0, .ref a_t), (1, .int x1), (3, .int x3)]) hx hb dX10_count_20 rfl hl (by decide) rfl (fun ls hl => ?_)
        refine lv_iinc (v := x3 + 1) (lv' := [(3, .int (x3 + 1)), (2, .int x2_1), (0, .ref a_t), (1, .int x1)]) hx hb dX10_count_21 hl (k := 3) rfl rfl (by decide) rfl (fun ls hl => ?_)
        refine lv_goto (tgt := 4) hx hb dX10_count_24 (by decide) ?_
        exact ih x2_1 (x3 + 1) h _ _ _ hw (lv_sub hl [2, 3, 1, 0] rfl)
  refine lv_iconst (v := 0) hx hb dX10_count_0 (by decide) ?_
  refine lv_istore_n (lv' := [(2, .int 0), (0, .ref a_t), (1, .int x1)]) hx hb dX10_count_1 rfl hl (by decide) rfl (fun ls hl => ?_)
  refine lv_iconst (v := 0) hx hb dX10_count_2 (by decide) ?_
  refine lv_istore_n (lv' := [(3, .int 0), (2, .int 0), (0, .ref a_t), (1, .int x1)]) hx hb dX10_count_3 rfl hl (by decide) rfl (fun ls hl => ?_)
  obtain ⟨n_4, h⟩ := h
  exact hL_Mo_count_4 n_4 0 0 h _ _ _ hw (lv_sub hl [2, 3, 1, 0] rfl)
