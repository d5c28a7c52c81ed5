def B_Mo_dead_44 (t_points : Int32) (t_cases : Int32) (t_one : (Nat → Int32)) (t_weight : (Nat → Int32)) (Q : Int32 → Prop) (x1 : Int32) : Prop := Q x1
def L_Mo_dead_7 (t_points : Int32) (t_cases : Int32) (t_one : (Nat → Int32)) (t_weight : (Nat → Int32)) (Q : Int32 → Prop) : Nat → Int32 → Int32 → Prop
  | 0 => fun _ _ => False
  | n + 1 => fun x1 x2 => P_Mo_deedMany t_points (fun r_1 => (r_1 ≤ x2 → B_Mo_dead_44 t_points t_cases t_one t_weight Q x1) ∧ (¬ r_1 ≤ x2 → (t_cases ≤ 0 → B_Mo_dead_44 t_points t_cases t_one t_weight Q x1) ∧ (¬ t_cases ≤ 0 → P_Mo_all t_cases (fun r_2 => P_Mo_caseOf x2 r_2 t_points t_cases t_one t_weight (fun r_3 => ∀ x1_4 : Int32, x1_4 = (x1 &&& ((1 <<< (r_3 &&& 31)) ^^^ (-1))) → (L_Mo_dead_7 t_points t_cases t_one t_weight Q n) x1_4 (x2 + 1))))))
def P_Mo_dead (t_points : Int32) (t_cases : Int32) (t_one : (Nat → Int32)) (t_weight : (Nat → Int32)) (Q : Int32 → Prop) : Prop := P_Mo_all t_cases (fun r_5 => ∃ n_7 : Nat, L_Mo_dead_7 t_points t_cases t_one t_weight Q n_7 r_5 0)
abbrev rm_Mo_dead : Room := { frames := 3, cells := 0, slots := 0, locals := 72 }
def cs_Mo_dead (g : GE) (a_t a_t_one a_t_weight a_t_cost a_t_text a_t_read a_t_likes a_t_judged a_t_met a_t_line a_t_image a_t_isKept a_t_had : Nat) (t_points : Int32) (t_cases : Int32) (t_bytes : Int32) (t_position : Int32) (t_tokenAt : Int32) (t_token : Int64) (t_digits : Int32) (t_number : Int32) (t_row : Int32) (t_isRow : Int32) (t_faultAt : Int32) (t_readMany : Int32) (t_readPoints : Int32) (t_readCases : Int32) (t_suitOne : Int32) (t_suitTwo : Int32) (t_one : (Nat → Int32)) (t_weight : (Nat → Int32)) : va_W := [oc a_t 10 [.int t_points, .ref a_t_weight, .ref a_t_cost, .int t_cases, .ref a_t_one, .int t_bytes, .ref a_t_text, .int t_position, .int t_tokenAt, .long t_token, .int t_digits, .int t_number, .int t_row, .int t_isRow, .int t_faultAt, .int t_readMany, .int t_readPoints, .int t_readCases, .ref a_t_read, .ref a_t_likes, .ref a_t_judged, .ref a_t_met, .ref a_t_line, .ref a_t_image, .ref a_t_isKept, .int t_suitOne, .int t_suitTwo, .ref a_t_had], ai g a_t_one 56 t_one, ai g a_t_weight 10 t_weight]
set_option maxHeartbeats 4000000 in
set_option maxRecDepth 100000 in
theorem c_Mo_dead (l : Launch) (g : GE) (a_t a_t_one a_t_weight a_t_cost a_t_text a_t_read a_t_likes a_t_judged a_t_met a_t_line a_t_image a_t_isKept a_t_had : Nat) (t_points : Int32) (t_cases : Int32) (t_bytes : Int32) (t_position : Int32) (t_tokenAt : Int32) (t_token : Int64) (t_digits : Int32) (t_number : Int32) (t_row : Int32) (t_isRow : Int32) (t_faultAt : Int32) (t_readMany : Int32) (t_readPoints : Int32) (t_readCases : Int32) (t_suitOne : Int32) (t_suitTwo : Int32) (t_one : (Nat → Int32)) (t_weight : (Nat → Int32)) (Q : Int32 → Prop) (h : P_Mo_dead t_points t_cases t_one t_weight Q) : Cti l g yX10_dead cX10_dead 3 (some .int) rm_Mo_dead [.ref a_t] (cs_Mo_dead g a_t a_t_one a_t_weight a_t_cost a_t_text a_t_read a_t_likes a_t_judged a_t_met a_t_line a_t_image a_t_isKept a_t_had t_points t_cases t_bytes t_position t_tokenAt t_token t_digits t_number t_row t_isRow t_faultAt t_readMany t_readPoints t_readCases t_suitOne t_suitTwo t_one t_weight) (S := Unit) (fun r u => Q r) (fun _ => (cs_Mo_dead g a_t a_t_one a_t_weight a_t_cost a_t_text a_t_read a_t_likes a_t_judged a_t_met a_t_line a_t_image a_t_isKept a_t_had t_points t_cases t_bytes t_position t_tokenAt t_token t_digits t_number t_row t_isRow t_faultAt t_readMany t_readPoints t_readCases t_suitOne t_suitTwo t_one t_weight)) := by
  refine meetI rfl (Nat.le_of_ble_eq_true rfl) ⟨rfl, rfl⟩ ?_
  intro p e s m args below meth c A Qf ls C hret hw hl
  have hx := C.1
  have hb := C.2.1
  have hown := C.2.2.2.1
  have hts := C.2.2.2.2.1
  have hE := C.2.2.2.2.2.1
  have hl : lv_has ls 3 [(0, .ref a_t)] := hl
  have hB_Mo_dead_44 : ∀ (x1 : Int32), B_Mo_dead_44 t_points t_cases t_one t_weight Q x1 → Wat p l e rm_Mo_dead s m args below meth c A Qf g 3 (cs_Mo_dead g a_t a_t_one a_t_weight a_t_cost a_t_text a_t_read a_t_likes a_t_judged a_t_met a_t_line a_t_image a_t_isKept a_t_had t_points t_cases t_bytes t_position t_tokenAt t_token t_digits t_number t_row t_isRow t_faultAt t_readMany t_readPoints t_readCases t_suitOne t_suitTwo t_one t_weight) [(1, .int x1)] 44 [] := by
    intro x1 h H locs ls hw hl
    refine lv_iload_n hx hb dX10_dead_44 rfl (lv_at hl 0 rfl) ?_
    exact hret () h hw dX10_dead_45 rfl
  have hL_Mo_dead_7 : ∀ (n : Nat) (x1 : Int32) (x2 : Int32), L_Mo_dead_7 t_points t_cases t_one t_weight Q n x1 x2 → Wat p l e rm_Mo_dead s m args below meth c A Qf g 3 (cs_Mo_dead g a_t a_t_one a_t_weight a_t_cost a_t_text a_t_read a_t_likes a_t_judged a_t_met a_t_line a_t_image a_t_isKept a_t_had t_points t_cases t_bytes t_position t_tokenAt t_token t_digits t_number t_row t_isRow t_faultAt t_readMany t_readPoints t_readCases t_suitOne t_suitTwo t_one t_weight) [(0, .ref a_t), (1, .int x1), (2, .int x2)] 7 [] := by
    intro n
    induction n with
    | zero => intro x1 x2 h; exact absurd h id
    | succ n ih =>
      intro x1 x2 h H locs ls hw hl
      rw [L_Mo_dead_7] at h
      refine lv_iload_n hx hb dX10_dead_7 rfl (lv_at hl 2 rfl) ?_
      refine lv_aload_n hx hb dX10_dead_8 rfl (lv_at hl 0 rfl) ?_
      refine callVi (As := []) (rest := [.int x2]) (W2 := fun _ => (cs_Mo_dead g a_t a_t_one a_t_weight a_t_cost a_t_text a_t_read a_t_likes a_t_judged a_t_met a_t_line a_t_image a_t_isKept a_t_had t_points t_cases t_bytes t_position t_tokenAt t_token t_digits t_number t_row t_isRow t_faultAt t_readMany t_readPoints t_readCases t_suitOne t_suitTwo t_one t_weight)) C hw hl (c_Mo_deedMany l g a_t a_t_weight a_t_cost a_t_one a_t_text a_t_read a_t_likes a_t_judged a_t_met a_t_line a_t_image a_t_isKept a_t_had t_points t_cases t_bytes t_position t_tokenAt t_token t_digits t_number t_row t_isRow t_faultAt t_readMany t_readPoints t_readCases t_suitOne t_suitTwo _ h) tw_1099 kk_X10_deedMany rfl ⟨rfl, rfl⟩ ⟨by decide, by decide⟩ (Nat.le_of_ble_eq_true rfl) 0 rfl rfl rfl [0] [1, 2] [2, 0, 1] rfl rfl rfl rfl rfl rfl (fun u => rfl) rfl dX10_dead_9 (fun r_1 u H locs h hw => ?_)
      refine lv_icmp_ge (tgt := 44) hx hb dX10_dead_12 (by decide) (fun c_12 => ?_) (fun c_12 => ?_)
      · have h := h.1 c_12
        exact hB_Mo_dead_44 x1 h _ _ _ hw (lv_sub hl [1] rfl)
      · have h := h.2 c_12
        refine lv_aload_n hx hb dX10_dead_15 rfl (lv_at hl 0 rfl) ?_
        refine G_RX10_54 C hw 0 rfl dX10_dead_16 ?_
        refine lv_if_le (tgt := 44) hx hb dX10_dead_19 (by decide) (fun c_19 => ?_) (fun c_19 => ?_)
        · have h := h.1 c_19
          exact hB_Mo_dead_44 x1 h _ _ _ hw (lv_sub hl [1] rfl)
        · have h := h.2 c_19
          refine lv_iload_n hx hb dX10_dead_22 rfl (lv_at hl 1 rfl) ?_
          refine lv_iconst (v := 1) hx hb dX10_dead_23 (by decide) ?_
          refine lv_aload_n hx hb dX10_dead_24 rfl (lv_at hl 0 rfl) ?_
          refine lv_iload_n hx hb dX10_dead_25 rfl (lv_at hl 2 rfl) ?_
          refine lv_aload_n hx hb dX10_dead_26 rfl (lv_at hl 0 rfl) ?_
          refine callVi (As := []) (rest := [.int x2, .ref a_t, .int 1, .int x1]) (W2 := fun _ => (cs_Mo_dead g a_t a_t_one a_t_weight a_t_cost a_t_text a_t_read a_t_likes a_t_judged a_t_met a_t_line a_t_image a_t_isKept a_t_had t_points t_cases t_bytes t_position t_tokenAt t_token t_digits t_number t_row t_isRow t_faultAt t_readMany t_readPoints t_readCases t_suitOne t_suitTwo t_one t_weight)) C hw hl (c_Mo_all l g a_t a_t_weight a_t_cost a_t_one a_t_text a_t_read a_t_likes a_t_judged a_t_met a_t_line a_t_image a_t_isKept a_t_had t_points t_cases t_bytes t_position t_tokenAt t_token t_digits t_number t_row t_isRow t_faultAt t_readMany t_readPoints t_readCases t_suitOne t_suitTwo _ h) tw_1103 kk_X10_all rfl ⟨rfl, rfl⟩ ⟨by decide, by decide⟩ (Nat.le_of_ble_eq_true rfl) 0 rfl rfl rfl [0] [1, 2] [2, 0, 1] rfl rfl rfl rfl rfl rfl (fun u => rfl) rfl dX10_dead_27 (fun r_2 u H locs h hw => ?_)
          refine callVi (As := [.int x2, .int r_2]) (rest := [.int 1, .int x1]) (W2 := fun _ => (cs_Mo_dead g a_t a_t_one a_t_weight a_t_cost a_t_text a_t_read a_t_likes a_t_judged a_t_met a_t_line a_t_image a_t_isKept a_t_had t_points t_cases t_bytes t_position t_tokenAt t_token t_digits t_number t_row t_isRow t_faultAt t_readMany t_readPoints t_readCases t_suitOne t_suitTwo t_one t_weight)) C hw hl (c_Mo_caseOf l g a_t a_t_one a_t_weight a_t_cost a_t_text a_t_read a_t_likes a_t_judged a_t_met a_t_line a_t_image a_t_isKept a_t_had t_points t_cases t_bytes t_position t_tokenAt t_token t_digits t_number t_row t_isRow t_faultAt t_readMany t_readPoints t_readCases t_suitOne t_suitTwo t_one t_weight x2 r_2 _ h) tw_1107 kk_X10_caseOf rfl ⟨rfl, rfl⟩ ⟨by decide, by decide⟩ (Nat.le_of_ble_eq_true rfl) 0 rfl rfl rfl [0, 1, 2] [] [0, 1, 2] rfl rfl rfl rfl rfl rfl (fun u => rfl) rfl dX10_dead_30 (fun r_3 u H locs h hw => ?_)
          refine lv_ishl hx hb dX10_dead_33 ?_
          refine lv_iconst (v := (-1)) hx hb dX10_dead_34 (by decide) ?_
          refine lv_ixor hx hb dX10_dead_35 ?_
          refine lv_iand hx hb dX10_dead_36 ?_
          refine lv_topi (fun x1_4 ex1_4 => ?_)
          have h := h x1_4 ex1_4
          refine lv_istore_n (lv' := [(1, .int x1_4), (0, .ref a_t), (2, .int x2)]) hx hb dX10_dead_37 rfl hl (by decide) rfl (fun ls hl => ?_)
          refine lv_iinc (v := x2 + 1) (lv' := [(2, .int (x2 + 1)), (1, .int x1_4), (0, .ref a_t)]) hx hb dX10_dead_38 hl (k := 2) rfl rfl (by decide) rfl (fun ls hl => ?_)
          refine lv_goto (tgt := 7) hx hb dX10_dead_41 (by decide) ?_
          exact ih x1_4 (x2 + 1) h _ _ _ hw (lv_sub hl [2, 1, 0] rfl)
  refine lv_aload_n hx hb dX10_dead_0 rfl (lv_at hl 0 rfl) ?_
  refine callVi (As := []) (rest := []) (W2 := fun _ => (cs_Mo_dead g a_t a_t_one a_t_weight a_t_cost a_t_text a_t_read a_t_likes a_t_judged a_t_met a_t_line a_t_image a_t_isKept a_t_had t_points t_cases t_bytes t_position t_tokenAt t_token t_digits t_number t_row t_isRow t_faultAt t_readMany t_readPoints t_readCases t_suitOne t_suitTwo t_one t_weight)) C hw hl (c_Mo_all l g a_t a_t_weight a_t_cost a_t_one a_t_text a_t_read a_t_likes a_t_judged a_t_met a_t_line a_t_image a_t_isKept a_t_had t_points t_cases t_bytes t_position t_tokenAt t_token t_digits t_number t_row t_isRow t_faultAt t_readMany t_readPoints t_readCases t_suitOne t_suitTwo _ h) tw_1103 kk_X10_all rfl ⟨rfl, rfl⟩ ⟨by decide, by decide⟩ (Nat.le_of_ble_eq_true rfl) 0 rfl rfl rfl [0] [1, 2] [2, 0, 1] rfl rfl rfl rfl rfl rfl (fun u => rfl) rfl dX10_dead_1 (fun r_5 u H locs h hw => ?_)
  refine lv_istore_n (lv' := [(1, .int r_5), (0, .ref a_t)]) hx hb dX10_dead_4 rfl hl (by decide) rfl (fun ls hl => ?_)
  refine lv_iconst (v := 0) hx hb dX10_dead_5 (by decide) ?_
  refine lv_istore_n (lv' := [(2, .int 0), (1, .int r_5), (0, .ref a_t)]) hx hb dX10_dead_6 rfl hl (by decide) rfl (fun ls hl => ?_)
  obtain ⟨n_7, h⟩ := h
  exact hL_Mo_dead_7 n_7 r_5 0 h _ _ _ hw (lv_sub hl [2, 1, 0] rfl)
def L_Mo_layLikes_12 (t_points : Int32) (t_cases : Int32) (t_one : (Nat → Int32)) (t_weight : (Nat → Int32)) (Q : (Nat → Int32) → (Nat → Int32) → Prop) (N_2 : Int32 → (Nat → Int32) → (Nat → Int32) → Prop) : Nat → Int32 → Int32 → (Nat → Int32) → (Nat → Int32) → Prop
  | 0 => fun _ _ _ _ => False
  | n + 1 => fun x1 x2 t_judged t_likes => (t_cases ≤ x2 → P_Mo_judgmentAt x1 t_points t_cases t_one t_weight (fun r_1 => vp_in x1 1024 ∧ (N_2 (x1 + 1) (upd t_judged x1.toNatClampNeg r_1) t_likes))) ∧ (¬ t_cases ≤ x2 → vp_in (4 * x2) 56 ∧ (P_Mo_likeness x1 (t_one (4 * x2).toNatClampNeg) t_points t_weight (fun r_2 => vp_in ((14 * x1) + x2) 14336 ∧ ((L_Mo_layLikes_12 t_points t_cases t_one t_weight Q N_2 n) x1 (x2 + 1) t_judged (upd t_likes ((14 * x1) + x2).toNatClampNeg r_2)))))
def L_Mo_layLikes_2 (t_points : Int32) (t_cases : Int32) (t_one : (Nat → Int32)) (t_weight : (Nat → Int32)) (Q : (Nat → Int32) → (Nat → Int32) → Prop) : Nat → Int32 → (Nat → Int32) → (Nat → Int32) → Prop
  | 0 => fun _ _ _ => False
  | n + 1 => fun x1 t_judged t_likes => P_Mo_deedMany t_points (fun r_3 => (r_3 ≤ x1 → Q t_judged t_likes) ∧ (¬ r_3 ≤ x1 → ∃ n_12 : Nat, L_Mo_layLikes_12 t_points t_cases t_one t_weight Q (L_Mo_layLikes_2 t_points t_cases t_one t_weight Q n) n_12 x1 0 t_judged t_likes))
def P_Mo_layLikes (t_points : Int32) (t_cases : Int32) (t_judged : (Nat → Int32)) (t_likes : (Nat → Int32)) (t_one : (Nat → Int32)) (t_weight : (Nat → Int32)) (Q : (Nat → Int32) → (Nat → Int32) → Prop) : Prop := ∃ n_2 : Nat, L_Mo_layLikes_2 t_points t_cases t_one t_weight Q n_2 0 t_judged t_likes
abbrev rm_Mo_layLikes : Room := { frames := 4, cells := 0, slots := 0, locals := 94 }
def cs_Mo_layLikes (g : GE) (a_t a_t_judged a_t_likes a_t_one a_t_weight a_t_cost a_t_text a_t_read a_t_met a_t_line a_t_image a_t_isKept a_t_had : Nat) (t_points : Int32) (t_cases : Int32) (t_bytes : Int32) (t_position : Int32) (t_tokenAt : Int32) (t_token : Int64) (t_digits : Int32) (t_number : Int32) (t_row : Int32) (t_isRow : Int32) (t_faultAt : Int32) (t_readMany : Int32) (t_readPoints : Int32) (t_readCases : Int32) (t_suitOne : Int32) (t_suitTwo : Int32) (t_judged : (Nat → Int32)) (t_likes : (Nat → Int32)) (t_one : (Nat → Int32)) (t_weight : (Nat → Int32)) : va_W := [oc a_t 10 [.int t_points, .ref a_t_weight, .ref a_t_cost, .int t_cases, .ref a_t_one, .int t_bytes, .ref a_t_text, .int t_position, .int t_tokenAt, .long t_token, .int t_digits, .int t_number, .int t_row, .int t_isRow, .int t_faultAt, .int t_readMany, .int t_readPoints, .int t_readCases, .ref a_t_read, .ref a_t_likes, .ref a_t_judged, .ref a_t_met, .ref a_t_line, .ref a_t_image, .ref a_t_isKept, .int t_suitOne, .int t_suitTwo, .ref a_t_had], ai g a_t_judged 1024 t_judged, ai g a_t_likes 14336 t_likes, ai g a_t_one 56 t_one, ai g a_t_weight 10 t_weight]
set_option maxHeartbeats 4000000 in
set_option maxRecDepth 100000 in
theorem c_Mo_layLikes (l : Launch) (g : GE) (a_t a_t_judged a_t_likes a_t_one a_t_weight a_t_cost a_t_text a_t_read a_t_met a_t_line a_t_image a_t_isKept a_t_had : Nat) (t_points : Int32) (t_cases : Int32) (t_bytes : Int32) (t_position : Int32) (t_tokenAt : Int32) (t_token : Int64) (t_digits : Int32) (t_number : Int32) (t_row : Int32) (t_isRow : Int32) (t_faultAt : Int32) (t_readMany : Int32) (t_readPoints : Int32) (t_readCases : Int32) (t_suitOne : Int32) (t_suitTwo : Int32) (t_judged : (Nat → Int32)) (t_likes : (Nat → Int32)) (t_one : (Nat → Int32)) (t_weight : (Nat → Int32)) (Q : (Nat → Int32) → (Nat → Int32) → Prop) (h : P_Mo_layLikes t_points t_cases t_judged t_likes t_one t_weight Q) : Ctv l g yX10_layLikes cX10_layLikes 3 none rm_Mo_layLikes [.ref a_t] (cs_Mo_layLikes g a_t a_t_judged a_t_likes a_t_one a_t_weight a_t_cost a_t_text a_t_read a_t_met a_t_line a_t_image a_t_isKept a_t_had t_points t_cases t_bytes t_position t_tokenAt t_token t_digits t_number t_row t_isRow t_faultAt t_readMany t_readPoints t_readCases t_suitOne t_suitTwo t_judged t_likes t_one t_weight) (S := (Nat → Int32) × (Nat → Int32)) (fun u => Q u.1 u.2) (fun u => (cs_Mo_layLikes g a_t a_t_judged a_t_likes a_t_one a_t_weight a_t_cost a_t_text a_t_read a_t_met a_t_line a_t_image a_t_isKept a_t_had t_points t_cases t_bytes t_position t_tokenAt t_token t_digits t_number t_row t_isRow t_faultAt t_readMany t_readPoints t_readCases t_suitOne t_suitTwo (u.1) (u.2) t_one t_weight)) := by
  refine meetV rfl (Nat.le_of_ble_eq_true rfl) ⟨rfl, rfl⟩ ?_
  intro p e s m args below meth c A Qf ls C hret hw hl
  have hx := C.1
  have hb := C.2.1
  have hown := C.2.2.2.1
  have hts := C.2.2.2.2.1
  have hE := C.2.2.2.2.2.1
  have hl : lv_has ls 3 [(0, .ref a_t)] := hl
  have hL_Mo_layLikes_12 : ∀ (N_2 : Int32 → (Nat → Int32) → (Nat → Int32) → Prop) (hN_2 : ∀ (x1 : Int32) (t_judged : (Nat → Int32)) (t_likes : (Nat → Int32)), N_2 x1 t_judged t_likes → Wat p l e rm_Mo_layLikes s m args below meth c A Qf g 3 (cs_Mo_layLikes g a_t a_t_judged a_t_likes a_t_one a_t_weight a_t_cost a_t_text a_t_read a_t_met a_t_line a_t_image a_t_isKept a_t_had t_points t_cases t_bytes t_position t_tokenAt t_token t_digits t_number t_row t_isRow t_faultAt t_readMany t_readPoints t_readCases t_suitOne t_suitTwo t_judged t_likes t_one t_weight) [(0, .ref a_t), (1, .int x1)] 2 []) (n : Nat) (x1 : Int32) (x2 : Int32) (t_judged : (Nat → Int32)) (t_likes : (Nat → Int32)), L_Mo_layLikes_12 t_points t_cases t_one t_weight Q N_2 n x1 x2 t_judged t_likes → Wat p l e rm_Mo_layLikes s m args below meth c A Qf g 3 (cs_Mo_layLikes g a_t a_t_judged a_t_likes a_t_one a_t_weight a_t_cost a_t_text a_t_read a_t_met a_t_line a_t_image a_t_isKept a_t_had t_points t_cases t_bytes t_position t_tokenAt t_token t_digits t_number t_row t_isRow t_faultAt t_readMany t_readPoints t_readCases t_suitOne t_suitTwo t_judged t_likes t_one t_weight) [(0, .ref a_t), (1, .int x1), (2, .int x2)] 12 [] := by
    intro N_2 hN_2 n
    induction n with
    | zero => intro x1 x2 t_judged t_likes h; exact absurd h id
    | succ n ih =>
      intro x1 x2 t_judged t_likes h H locs ls hw hl
      rw [L_Mo_layLikes_12] at h
      refine lv_iload_n hx hb dX10_layLikes_12 rfl (lv_at hl 2 rfl) ?_
      refine lv_aload_n hx hb dX10_layLikes_13 rfl (lv_at hl 0 rfl) ?_
      refine G_RX10_54 C hw 0 rfl dX10_layLikes_14 ?_
      refine lv_icmp_ge (tgt := 50) hx hb dX10_layLikes_17 (by decide) (fun c_17 => ?_) (fun c_17 => ?_)
      · have h := h.1 c_17
        refine lv_aload_n hx hb dX10_layLikes_50 rfl (lv_at hl 0 rfl) ?_
        refine G_RX10_32 C hw 0 rfl dX10_layLikes_51 ?_
        refine lv_iload_n hx hb dX10_layLikes_54 rfl (lv_at hl 1 rfl) ?_
        refine lv_aload_n hx hb dX10_layLikes_55 rfl (lv_at hl 0 rfl) ?_
        refine lv_iload_n hx hb dX10_layLikes_56 rfl (lv_at hl 1 rfl) ?_
        refine callVi (As := [.int x1]) (rest := [.int x1, .ref a_t_judged]) (W2 := fun _ => (cs_Mo_layLikes g a_t a_t_judged a_t_likes a_t_one a_t_weight a_t_cost a_t_text a_t_read a_t_met a_t_line a_t_image a_t_isKept a_t_had t_points t_cases t_bytes t_position t_tokenAt t_token t_digits t_number t_row t_isRow t_faultAt t_readMany t_readPoints t_readCases t_suitOne t_suitTwo t_judged t_likes t_one t_weight)) C hw hl (c_Mo_judgmentAt l g a_t a_t_one a_t_weight a_t_cost a_t_text a_t_read a_t_likes a_t_judged a_t_met a_t_line a_t_image a_t_isKept a_t_had t_points t_cases t_bytes t_position t_tokenAt t_token t_digits t_number t_row t_isRow t_faultAt t_readMany t_readPoints t_readCases t_suitOne t_suitTwo t_one t_weight x1 _ h) tw_1126 kk_X10_judgmentAt rfl ⟨rfl, rfl⟩ ⟨by decide, by decide⟩ (Nat.le_of_ble_eq_true rfl) 0 rfl rfl rfl [0, 3, 4] [1, 2] [2, 0, 1, 3, 4] rfl rfl rfl rfl rfl rfl (fun u => rfl) rfl dX10_layLikes_57 (fun r_1 u H locs h hw => ?_)
        refine astI (ws2 := (cs_Mo_layLikes g a_t a_t_judged a_t_likes a_t_one a_t_weight a_t_cost a_t_text a_t_read a_t_met a_t_line a_t_image a_t_isKept a_t_had t_points t_cases t_bytes t_position t_tokenAt t_token t_digits t_number t_row t_isRow t_faultAt t_readMany t_readPoints t_readCases t_suitOne t_suitTwo (upd t_judged x1.toNatClampNeg r_1) t_likes t_one t_weight)) C hw 1 rfl h.1 rfl dX10_layLikes_60 (fun H locs hw => ?_)
        have h := h.2
        refine lv_iinc (v := x1 + 1) (lv' := [(1, .int (x1 + 1)), (0, .ref a_t), (2, .int x2)]) hx hb dX10_layLikes_61 hl (k := 1) rfl rfl (by decide) rfl (fun ls hl => ?_)
        refine lv_goto (tgt := 2) hx hb dX10_layLikes_64 (by decide) ?_
        exact hN_2 (x1 + 1) (upd t_judged x1.toNatClampNeg r_1) t_likes h _ _ _ hw (lv_sub hl [1, 0] rfl)
      · have h := h.2 c_17
        refine lv_aload_n hx hb dX10_layLikes_20 rfl (lv_at hl 0 rfl) ?_
        refine G_RX10_29 C hw 0 rfl dX10_layLikes_21 ?_
        refine lv_bipush (v := 14) hx hb dX10_layLikes_24 (by decide) ?_
        refine lv_iload_n hx hb dX10_layLikes_26 rfl (lv_at hl 1 rfl) ?_
        refine lv_imul hx hb dX10_layLikes_27 ?_
        refine lv_iload_n hx hb dX10_layLikes_28 rfl (lv_at hl 2 rfl) ?_
        refine lv_iadd hx hb dX10_layLikes_29 ?_
        refine lv_aload_n hx hb dX10_layLikes_30 rfl (lv_at hl 0 rfl) ?_
        refine lv_iload_n hx hb dX10_layLikes_31 rfl (lv_at hl 1 rfl) ?_
        refine lv_aload_n hx hb dX10_layLikes_32 rfl (lv_at hl 0 rfl) ?_
        refine G_RX10_20 C hw 0 rfl dX10_layLikes_33 ?_
        refine lv_iconst (v := 4) hx hb dX10_layLikes_36 (by decide) ?_
        refine lv_iload_n hx hb dX10_layLikes_37 rfl (lv_at hl 2 rfl) ?_
        refine lv_imul hx hb dX10_layLikes_38 ?_
        refine aldI C hw 3 rfl h.1 dX10_layLikes_39 ?_
        have h := h.2
        refine callVi (As := [.int x1, .int (t_one (4 * x2).toNatClampNeg)]) (rest := [.int ((14 * x1) + x2), .ref a_t_likes]) (W2 := fun _ => (cs_Mo_layLikes g a_t a_t_judged a_t_likes a_t_one a_t_weight a_t_cost a_t_text a_t_read a_t_met a_t_line a_t_image a_t_isKept a_t_had t_points t_cases t_bytes t_position t_tokenAt t_token t_digits t_number t_row t_isRow t_faultAt t_readMany t_readPoints t_readCases t_suitOne t_suitTwo t_judged t_likes t_one t_weight)) C hw hl (c_Mo_likeness l g a_t a_t_weight a_t_cost a_t_one a_t_text a_t_read a_t_likes a_t_judged a_t_met a_t_line a_t_image a_t_isKept a_t_had t_points t_cases t_bytes t_position t_tokenAt t_token t_digits t_number t_row t_isRow t_faultAt t_readMany t_readPoints t_readCases t_suitOne t_suitTwo t_weight x1 (t_one (4 * x2).toNatClampNeg) _ h) tw_1114 kk_X10_likeness rfl ⟨rfl, rfl⟩ ⟨by decide, by decide⟩ (Nat.le_of_ble_eq_true rfl) 0 rfl rfl rfl [0, 4] [1, 2, 3] [3, 0, 1, 2, 4] rfl rfl rfl rfl rfl rfl (fun u => rfl) rfl dX10_layLikes_40 (fun r_2 u H locs h hw => ?_)
        refine astI (ws2 := (cs_Mo_layLikes g a_t a_t_judged a_t_likes a_t_one a_t_weight a_t_cost a_t_text a_t_read a_t_met a_t_line a_t_image a_t_isKept a_t_had t_points t_cases t_bytes t_position t_tokenAt t_token t_digits t_number t_row t_isRow t_faultAt t_readMany t_readPoints t_readCases t_suitOne t_suitTwo t_judged (upd t_likes ((14 * x1) + x2).toNatClampNeg r_2) t_one t_weight)) C hw 2 rfl h.1 rfl dX10_layLikes_43 (fun H locs hw => ?_)
        have h := h.2
        refine lv_iinc (v := x2 + 1) (lv' := [(2, .int (x2 + 1)), (0, .ref a_t), (1, .int x1)]) hx hb dX10_layLikes_44 hl (k := 2) rfl rfl (by decide) rfl (fun ls hl => ?_)
        refine lv_goto (tgt := 12) hx hb dX10_layLikes_47 (by decide) ?_
        exact ih x1 (x2 + 1) t_judged (upd t_likes ((14 * x1) + x2).toNatClampNeg r_2) h _ _ _ hw (lv_sub hl [1, 2, 0] rfl)
  have hL_Mo_layLikes_2 : ∀ (n : Nat) (x1 : Int32) (t_judged : (Nat → Int32)) (t_likes : (Nat → Int32)), L_Mo_layLikes_2 t_points t_cases t_one t_weight Q n x1 t_judged t_likes → Wat p l e rm_Mo_layLikes s m args below meth c A Qf g 3 (cs_Mo_layLikes g a_t a_t_judged a_t_likes a_t_one a_t_weight a_t_cost a_t_text a_t_read a_t_met a_t_line a_t_image a_t_isKept a_t_had t_points t_cases t_bytes t_position t_tokenAt t_token t_digits t_number t_row t_isRow t_faultAt t_readMany t_readPoints t_readCases t_suitOne t_suitTwo t_judged t_likes t_one t_weight) [(0, .ref a_t), (1, .int x1)] 2 [] := by
    intro n
    induction n with
    | zero => intro x1 t_judged t_likes h; exact absurd h id
    | succ n ih =>
      intro x1 t_judged t_likes h H locs ls hw hl
      rw [L_Mo_layLikes_2] at h
      refine lv_iload_n hx hb dX10_layLikes_2 rfl (lv_at hl 1 rfl) ?_
      refine lv_aload_n hx hb dX10_layLikes_3 rfl (lv_at hl 0 rfl) ?_
      refine callVi (As := []) (rest := [.int x1]) (W2 := fun _ => (cs_Mo_layLikes g a_t a_t_judged a_t_likes a_t_one a_t_weight a_t_cost a_t_text a_t_read a_t_met a_t_line a_t_image a_t_isKept a_t_had t_points t_cases t_bytes t_position t_tokenAt t_token t_digits t_number t_row t_isRow t_faultAt t_readMany t_readPoints t_readCases t_suitOne t_suitTwo t_judged t_likes t_one t_weight)) C hw hl (c_Mo_deedMany l g a_t a_t_weight a_t_cost a_t_one a_t_text a_t_read a_t_likes a_t_judged a_t_met a_t_line a_t_image a_t_isKept a_t_had t_points t_cases t_bytes t_position t_tokenAt t_token t_digits t_number t_row t_isRow t_faultAt t_readMany t_readPoints t_readCases t_suitOne t_suitTwo _ h) tw_1099 kk_X10_deedMany rfl ⟨rfl, rfl⟩ ⟨by decide, by decide⟩ (Nat.le_of_ble_eq_true rfl) 0 rfl rfl rfl [0] [1, 2, 3, 4] [4, 0, 1, 2, 3] rfl rfl rfl rfl rfl rfl (fun u => rfl) rfl dX10_layLikes_4 (fun r_3 u H locs h hw => ?_)
      refine lv_icmp_ge (tgt := 67) hx hb dX10_layLikes_7 (by decide) (fun c_7 => ?_) (fun c_7 => ?_)
      · have h := h.1 c_7
        exact hret (t_judged, t_likes) h hw dX10_layLikes_67
      · have h := h.2 c_7
        refine lv_iconst (v := 0) hx hb dX10_layLikes_10 (by decide) ?_
        refine lv_istore_n (lv' := [(2, .int 0), (0, .ref a_t), (1, .int x1)]) hx hb dX10_layLikes_11 rfl hl (by decide) rfl (fun ls hl => ?_)
        obtain ⟨n_12, h⟩ := h
        exact hL_Mo_layLikes_12 (L_Mo_layLikes_2 t_points t_cases t_one t_weight Q n) ih n_12 x1 0 t_judged t_likes h _ _ _ hw (lv_sub hl [1, 2, 0] rfl)
  refine lv_iconst (v := 0) hx hb dX10_layLikes_0 (by decide) ?_
  refine lv_istore_n (lv' := [(1, .int 0), (0, .ref a_t)]) hx hb dX10_layLikes_1 rfl hl (by decide) rfl (fun ls hl => ?_)
  obtain ⟨n_2, h⟩ := h
  exact hL_Mo_layLikes_2 n_2 0 t_judged t_likes h _ _ _ hw (lv_sub hl [1, 0] rfl)
def B_Mo_judgesAlike_146 (x1 : Int32) (t_points : Int32) (t_cases : Int32) (t_judged : (Nat → Int32)) (t_likes : (Nat → Int32)) (t_one : (Nat → Int32)) (Q : Int32 → Prop) (x2 : Int32) : Prop := narrow .boolean (.int x2) = .int x2 ∧ Q x2 
def B_Mo_judgesAlike_139 (x1 : Int32) (t_points : Int32) (t_cases : Int32) (t_judged : (Nat → Int32)) (t_likes : (Nat → Int32)) (t_one : (Nat → Int32)) (Q : Int32 → Prop) (N_4 : Int32 → Int32 → Prop) (x3 : Int32) (k0 : Int32) : Prop := N_4 k0 (x3 + 1)
def B_Mo_judgesAlike_138 (x1 : Int32) (t_points : Int32) (t_cases : Int32) (t_judged : (Nat → Int32)) (t_likes : (Nat → Int32)) (t_one : (Nat → Int32)) (Q : Int32 → Prop) (N_4 : Int32 → Int32 → Prop) (x3 : Int32) : Prop := B_Mo_judgesAlike_139 x1 t_points t_cases t_judged t_likes t_one Q N_4 x3 0
def B_Mo_judgesAlike_107 (x1 : Int32) (t_points : Int32) (t_cases : Int32) (t_judged : (Nat → Int32)) (t_likes : (Nat → Int32)) (t_one : (Nat → Int32)) (Q : Int32 → Prop) (N_4 : Int32 → Int32 → Prop) (N_22 : Int32 → Int32 → Int32 → Prop) (x3 : Int32) (x4 : Int32) (x5 : Int32) : Prop := N_22 x3 x4 (x5 + 1)
def B_Mo_judgesAlike_105 (x1 : Int32) (t_points : Int32) (t_cases : Int32) (t_judged : (Nat → Int32)) (t_likes : (Nat → Int32)) (t_one : (Nat → Int32)) (Q : Int32 → Prop) (N_4 : Int32 → Int32 → Prop) (N_22 : Int32 → Int32 → Int32 → Prop) (x3 : Int32) (x5 : Int32) (k0 : Int32) : Prop := B_Mo_judgesAlike_107 x1 t_points t_cases t_judged t_likes t_one Q N_4 N_22 x3 k0 x5
def B_Mo_judgesAlike_98 (x1 : Int32) (t_points : Int32) (t_cases : Int32) (t_judged : (Nat → Int32)) (t_likes : (Nat → Int32)) (t_one : (Nat → Int32)) (Q : Int32 → Prop) (N_4 : Int32 → Int32 → Prop) (N_22 : Int32 → Int32 → Int32 → Prop) (x3 : Int32) (x5 : Int32) : Prop := B_Mo_judgesAlike_105 x1 t_points t_cases t_judged t_likes t_one Q N_4 N_22 x3 x5 x5
def B_Mo_judgesAlike_103 (x1 : Int32) (t_points : Int32) (t_cases : Int32) (t_judged : (Nat → Int32)) (t_likes : (Nat → Int32)) (t_one : (Nat → Int32)) (Q : Int32 → Prop) (N_4 : Int32 → Int32 → Prop) (N_22 : Int32 → Int32 → Int32 → Prop) (x3 : Int32) (x4 : Int32) (x5 : Int32) : Prop := B_Mo_judgesAlike_105 x1 t_points t_cases t_judged t_likes t_one Q N_4 N_22 x3 x5 x4
def B_Mo_judgesAlike_75 (x1 : Int32) (t_points : Int32) (t_cases : Int32) (t_judged : (Nat → Int32)) (t_likes : (Nat → Int32)) (t_one : (Nat → Int32)) (Q : Int32 → Prop) (N_4 : Int32 → Int32 → Prop) (N_22 : Int32 → Int32 → Int32 → Prop) (x3 : Int32) (x4 : Int32) (x5 : Int32) (k0 : Int32) : Prop := (0 < k0 → B_Mo_judgesAlike_98 x1 t_points t_cases t_judged t_likes t_one Q N_4 N_22 x3 x5) ∧ (¬ 0 < k0 → (¬ k0 = 0 → B_Mo_judgesAlike_103 x1 t_points t_cases t_judged t_likes t_one Q N_4 N_22 x3 x4 x5) ∧ (k0 = 0 → P_Mo_isElder x5 x4 t_one (fun r_1 => (r_1 = 0 → B_Mo_judgesAlike_103 x1 t_points t_cases t_judged t_likes t_one Q N_4 N_22 x3 x4 x5) ∧ (¬ r_1 = 0 → B_Mo_judgesAlike_98 x1 t_points t_cases t_judged t_likes t_one Q N_4 N_22 x3 x5))))
def L_Mo_judgesAlike_22 (x1 : Int32) (t_points : Int32) (t_cases : Int32) (t_judged : (Nat → Int32)) (t_likes : (Nat → Int32)) (t_one : (Nat → Int32)) (Q : Int32 → Prop) (N_4 : Int32 → Int32 → Prop) : Nat → Int32 → Int32 → Int32 → Prop
  | 0 => fun _ _ _ => False
  | n + 1 => fun x3 x4 x5 => (t_cases ≤ x5 → (x4 = (-1) → B_Mo_judgesAlike_138 x1 t_points t_cases t_judged t_likes t_one Q N_4 x3) ∧ (¬ x4 = (-1) → P_Mo_judgmentOf x4 t_one (fun r_2 => vp_in x3 1024 ∧ ((¬ r_2 = (t_judged x3.toNatClampNeg) → B_Mo_judgesAlike_138 x1 t_points t_cases t_judged t_likes t_one Q N_4 x3) ∧ (r_2 = (t_judged x3.toNatClampNeg) → B_Mo_judgesAlike_139 x1 t_points t_cases t_judged t_likes t_one Q N_4 x3 1))))) ∧ (¬ t_cases ≤ x5 → P_Mo_has x1 x5 (fun r_3 => (r_3 = 0 → B_Mo_judgesAlike_107 x1 t_points t_cases t_judged t_likes t_one Q N_4 (L_Mo_judgesAlike_22 x1 t_points t_cases t_judged t_likes t_one Q N_4 n) x3 x4 x5) ∧ (¬ r_3 = 0 → (¬ x4 = (-1) → vp_in ((14 * x3) + x5) 14336 ∧ (vp_in ((14 * x3) + x4) 14336 ∧ (B_Mo_judgesAlike_75 x1 t_points t_cases t_judged t_likes t_one Q N_4 (L_Mo_judgesAlike_22 x1 t_points t_cases t_judged t_likes t_one Q N_4 n) x3 x4 x5 ((t_likes ((14 * x3) + x5).toNatClampNeg) - (t_likes ((14 * x3) + x4).toNatClampNeg))))) ∧ (x4 = (-1) → B_Mo_judgesAlike_75 x1 t_points t_cases t_judged t_likes t_one Q N_4 (L_Mo_judgesAlike_22 x1 t_points t_cases t_judged t_likes t_one Q N_4 n) x3 x4 x5 1))))
def L_Mo_judgesAlike_4 (x1 : Int32) (t_points : Int32) (t_cases : Int32) (t_judged : (Nat → Int32)) (t_likes : (Nat → Int32)) (t_one : (Nat → Int32)) (Q : Int32 → Prop) : Nat → Int32 → Int32 → Prop
  | 0 => fun _ _ => False
  | n + 1 => fun x2 x3 => P_Mo_deedMany t_points (fun r_4 => (r_4 ≤ x3 → B_Mo_judgesAlike_146 x1 t_points t_cases t_judged t_likes t_one Q x2) ∧ (¬ r_4 ≤ x3 → (x2 = 0 → B_Mo_judgesAlike_146 x1 t_points t_cases t_judged t_likes t_one Q x2) ∧ (¬ x2 = 0 → ∃ n_22 : Nat, L_Mo_judgesAlike_22 x1 t_points t_cases t_judged t_likes t_one Q (L_Mo_judgesAlike_4 x1 t_points t_cases t_judged t_likes t_one Q n) n_22 x3 (-1) 0)))
def P_Mo_judgesAlike (x1 : Int32) (t_points : Int32) (t_cases : Int32) (t_judged : (Nat → Int32)) (t_likes : (Nat → Int32)) (t_one : (Nat → Int32)) (Q : Int32 → Prop) : Prop := ∃ n_4 : Nat, L_Mo_judgesAlike_4 x1 t_points t_cases t_judged t_likes t_one Q n_4 1 0
abbrev rm_Mo_judgesAlike : Room := { frames := 1, cells := 0, slots := 0, locals := 22 }
def cs_Mo_judgesAlike (g : GE) (a_t a_t_judged a_t_likes a_t_one a_t_weight a_t_cost a_t_text a_t_read a_t_met a_t_line a_t_image a_t_isKept a_t_had : Nat) (t_points : Int32) (t_cases : Int32) (t_bytes : Int32) (t_position : Int32) (t_tokenAt : Int32) (t_token : Int64) (t_digits : Int32) (t_number : Int32) (t_row : Int32) (t_isRow : Int32) (t_faultAt : Int32) (t_readMany : Int32) (t_readPoints : Int32) (t_readCases : Int32) (t_suitOne : Int32) (t_suitTwo : Int32) (t_judged : (Nat → Int32)) (t_likes : (Nat → Int32)) (t_one : (Nat → Int32)) : va_W := [oc a_t 10 [.int t_points, .ref a_t_weight, .ref a_t_cost, .int t_cases, .ref a_t_one, .int t_bytes, .ref a_t_text, .int t_position, .int t_tokenAt, .long t_token, .int t_digits, .int t_number, .int t_row, .int t_isRow, .int t_faultAt, .int t_readMany, .int t_readPoints, .int t_readCases, .ref a_t_read, .ref a_t_likes, .ref a_t_judged, .ref a_t_met, .ref a_t_line, .ref a_t_image, .ref a_t_isKept, .int t_suitOne, .int t_suitTwo, .ref a_t_had], ai g a_t_judged 1024 t_judged, ai g a_t_likes 14336 t_likes, ai g a_t_one 56 t_one]
set_option maxHeartbeats 4000000 in
set_option maxRecDepth 100000 in
theorem c_Mo_judgesAlike (l : Launch) (g : GE) (a_t a_t_judged a_t_likes a_t_one a_t_weight a_t_cost a_t_text a_t_read a_t_met a_t_line a_t_image a_t_isKept a_t_had : Nat) (t_points : Int32) (t_cases : Int32) (t_bytes : Int32) (t_position : Int32) (t_tokenAt : Int32) (t_token : Int64) (t_digits : Int32) (t_number : Int32) (t_row : Int32) (t_isRow : Int32) (t_faultAt : Int32) (t_readMany : Int32) (t_readPoints : Int32) (t_readCases : Int32) (t_suitOne : Int32) (t_suitTwo : Int32) (t_judged : (Nat → Int32)) (t_likes : (Nat → Int32)) (t_one : (Nat → Int32)) (x1 : Int32) (Q : Int32 → Prop) (h : P_Mo_judgesAlike x1 t_points t_cases t_judged t_likes t_one Q) : Cti l g yX10_judgesAlike cX10_judgesAlike 7 (some .boolean) rm_Mo_judgesAlike [.ref a_t, .int x1] (cs_Mo_judgesAlike g a_t a_t_judged a_t_likes a_t_one a_t_weight a_t_cost a_t_text a_t_read a_t_met a_t_line a_t_image a_t_isKept a_t_had t_points t_cases t_bytes t_position t_tokenAt t_token t_digits t_number t_row t_isRow t_faultAt t_readMany t_readPoints t_readCases t_suitOne t_suitTwo t_judged t_likes t_one) (S := Unit) (fun r u => Q r) (fun _ => (cs_Mo_judgesAlike g a_t a_t_judged a_t_likes a_t_one a_t_weight a_t_cost a_t_text a_t_read a_t_met a_t_line a_t_image a_t_isKept a_t_had t_points t_cases t_bytes t_position t_tokenAt t_token t_digits t_number t_row t_isRow t_faultAt t_readMany t_readPoints t_readCases t_suitOne t_suitTwo t_judged t_likes t_one)) := by
  refine meetI rfl (Nat.le_of_ble_eq_true rfl) ⟨rfl, rfl⟩ ?_
  intro p e s m args below meth c A Qf ls C hret hw hl
  have hx := C.1
  have hb := C.2.1
  have hown := C.2.2.2.1
  have hts := C.2.2.2.2.1
  have hE := C.2.2.2.2.2.1
  have hl : lv_has ls 7 [(0, .ref a_t), (1, .int x1)] := hl
  have hB_Mo_judgesAlike_146 : ∀ (x2 : Int32), B_Mo_judgesAlike_146 x1 t_points t_cases t_judged t_likes t_one Q x2 → Wat p l e rm_Mo_judgesAlike s m args below meth c A Qf g 7 (cs_Mo_judgesAlike g a_t a_t_judged a_t_likes a_t_one a_t_weight a_t_cost a_t_text a_t_read a_t_met a_t_line a_t_image a_t_isKept a_t_had t_points t_cases t_bytes t_position t_tokenAt t_token t_digits t_number t_row t_isRow t_faultAt t_readMany t_readPoints t_readCases t_suitOne t_suitTwo t_judged t_likes t_one) [(2, .int x2)] 146 [] := by
    intro x2 h H locs ls hw hl
    refine lv_iload_n hx hb dX10_judgesAlike_146 rfl (lv_at hl 0 rfl) ?_
    exact hret () h.2 hw dX10_judgesAlike_147 h.1
  have hB_Mo_judgesAlike_139 : ∀ (N_4 : Int32 → Int32 → Prop) (hN_4 : ∀ (x2 : Int32) (x3 : Int32), N_4 x2 x3 → Wat p l e rm_Mo_judgesAlike s m args below meth c A Qf g 7 (cs_Mo_judgesAlike g a_t a_t_judged a_t_likes a_t_one a_t_weight a_t_cost a_t_text a_t_read a_t_met a_t_line a_t_image a_t_isKept a_t_had t_points t_cases t_bytes t_position t_tokenAt t_token t_digits t_number t_row t_isRow t_faultAt t_readMany t_readPoints t_readCases t_suitOne t_suitTwo t_judged t_likes t_one) [(0, .ref a_t), (1, .int x1), (2, .int x2), (3, .int x3)] 4 []) (x3 : Int32) (k0 : Int32), B_Mo_judgesAlike_139 x1 t_points t_cases t_judged t_likes t_one Q N_4 x3 k0 → Wat p l e rm_Mo_judgesAlike s m args below meth c A Qf g 7 (cs_Mo_judgesAlike g a_t a_t_judged a_t_likes a_t_one a_t_weight a_t_cost a_t_text a_t_read a_t_met a_t_line a_t_image a_t_isKept a_t_had t_points t_cases t_bytes t_position t_tokenAt t_token t_digits t_number t_row t_isRow t_faultAt t_readMany t_readPoints t_readCases t_suitOne t_suitTwo t_judged t_likes t_one) [(0, .ref a_t), (1, .int x1), (3, .int x3)] 139 [.int k0] := by
    intro N_4 hN_4 x3 k0 h H locs ls hw hl
    refine lv_istore_n (lv' := [(2, .int k0), (0, .ref a_t), (1, .int x1), (3, .int x3)]) hx hb dX10_judgesAlike_139 rfl hl (by decide) rfl (fun ls hl => ?_)
    refine lv_iinc (v := x3 + 1) (lv' := [(3, .int (x3 + 1)), (2, .int k0), (0, .ref a_t), (1, .int x1)]) hx hb dX10_judgesAlike_140 hl (k := 3) rfl rfl (by decide) rfl (fun ls hl => ?_)
    refine lv_goto (tgt := 4) hx hb dX10_judgesAlike_143 (by decide) ?_
    exact hN_4 k0 (x3 + 1) h _ _ _ hw (lv_sub hl [2, 3, 1, 0] rfl)
  have hB_Mo_judgesAlike_138 : ∀ (N_4 : Int32 → Int32 → Prop) (hN_4 : ∀ (x2 : Int32) (x3 : Int32), N_4 x2 x3 → Wat p l e rm_Mo_judgesAlike s m args below meth c A Qf g 7 (cs_Mo_judgesAlike g a_t a_t_judged a_t_likes a_t_one a_t_weight a_t_cost a_t_text a_t_read a_t_met a_t_line a_t_image a_t_isKept a_t_had t_points t_cases t_bytes t_position t_tokenAt t_token t_digits t_number t_row t_isRow t_faultAt t_readMany t_readPoints t_readCases t_suitOne t_suitTwo t_judged t_likes t_one) [(0, .ref a_t), (1, .int x1), (2, .int x2), (3, .int x3)] 4 []) (x3 : Int32), B_Mo_judgesAlike_138 x1 t_points t_cases t_judged t_likes t_one Q N_4 x3 → Wat p l e rm_Mo_judgesAlike s m args below meth c A Qf g 7 (cs_Mo_judgesAlike g a_t a_t_judged a_t_likes a_t_one a_t_weight a_t_cost a_t_text a_t_read a_t_met a_t_line a_t_image a_t_isKept a_t_had t_points t_cases t_bytes t_position t_tokenAt t_token t_digits t_number t_row t_isRow t_faultAt t_readMany t_readPoints t_readCases t_suitOne t_suitTwo t_judged t_likes t_one) [(0, .ref a_t), (1, .int x1), (3, .int x3)] 138 [] := by
    intro N_4 hN_4 x3 h H locs ls hw hl
    refine lv_iconst (v := 0) hx hb dX10_judgesAlike_138 (by decide) ?_
    exact hB_Mo_judgesAlike_139 N_4 hN_4 x3 0 h _ _ _ hw (lv_sub hl [0, 1, 2] rfl)
  have hB_Mo_judgesAlike_107 : ∀ (N_4 : Int32 → Int32 → Prop) (hN_4 : ∀ (x2 : Int32) (x3 : Int32), N_4 x2 x3 → Wat p l e rm_Mo_judgesAlike s m args below meth c A Qf g 7 (cs_Mo_judgesAlike g a_t a_t_judged a_t_likes a_t_one a_t_weight a_t_cost a_t_text a_t_read a_t_met a_t_line a_t_image a_t_isKept a_t_had t_points t_cases t_bytes t_position t_tokenAt t_token t_digits t_number t_row t_isRow t_faultAt t_readMany t_readPoints t_readCases t_suitOne t_suitTwo t_judged t_likes t_one) [(0, .ref a_t), (1, .int x1), (2, .int x2), (3, .int x3)] 4 []) (N_22 : Int32 → Int32 → Int32 → Prop) (hN_22 : ∀ (x3 : Int32) (x4 : Int32) (x5 : Int32), N_22 x3 x4 x5 → Wat p l e rm_Mo_judgesAlike s m args below meth c A Qf g 7 (cs_Mo_judgesAlike g a_t a_t_judged a_t_likes a_t_one a_t_weight a_t_cost a_t_text a_t_read a_t_met a_t_line a_t_image a_t_isKept a_t_had t_points t_cases t_bytes t_position t_tokenAt t_token t_digits t_number t_row t_isRow t_faultAt t_readMany t_readPoints t_readCases t_suitOne t_suitTwo t_judged t_likes t_one) [(0, .ref a_t), (1, .int x1), (3, .int x3), (4, .int x4), (5, .int x5)] 22 []) (x3 : Int32) (x4 : Int32) (x5 : Int32), B_Mo_judgesAlike_107 x1 t_points t_cases t_judged t_likes t_one Q N_4 N_22 x3 x4 x5 → Wat p l e rm_Mo_judgesAlike s m args below meth c A Qf g 7 (cs_Mo_judgesAlike g a_t a_t_judged a_t_likes a_t_one a_t_weight a_t_cost a_t_text a_t_read a_t_met a_t_line a_t_image a_t_isKept a_t_had t_points t_cases t_bytes t_position t_tokenAt t_token t_digits t_number t_row t_isRow t_faultAt t_readMany t_readPoints t_readCases t_suitOne t_suitTwo t_judged t_likes t_one) [(0, .ref a_t), (1, .int x1), (3, .int x3), (4, .int x4), (5, .int x5)] 107 [] := by
    intro N_4 hN_4 N_22 hN_22 x3 x4 x5 h H locs ls hw hl
    refine lv_iinc (v := x5 + 1) (lv' := [(5, .int (x5 + 1)), (0, .ref a_t), (1, .int x1), (3, .int x3), (4, .int x4)]) hx hb dX10_judgesAlike_107 hl (k := 4) rfl rfl (by decide) rfl (fun ls hl => ?_)
    refine lv_goto (tgt := 22) hx hb dX10_judgesAlike_110 (by decide) ?_
    exact hN_22 x3 x4 (x5 + 1) h _ _ _ hw (lv_sub hl [1, 2, 3, 4, 0] rfl)
  have hB_Mo_judgesAlike_105 : ∀ (N_4 : Int32 → Int32 → Prop) (hN_4 : ∀ (x2 : Int32) (x3 : Int32), N_4 x2 x3 → Wat p l e rm_Mo_judgesAlike s m args below meth c A Qf g 7 (cs_Mo_judgesAlike g a_t a_t_judged a_t_likes a_t_one a_t_weight a_t_cost a_t_text a_t_read a_t_met a_t_line a_t_image a_t_isKept a_t_had t_points t_cases t_bytes t_position t_tokenAt t_token t_digits t_number t_row t_isRow t_faultAt t_readMany t_readPoints t_readCases t_suitOne t_suitTwo t_judged t_likes t_one) [(0, .ref a_t), (1, .int x1), (2, .int x2), (3, .int x3)] 4 []) (N_22 : Int32 → Int32 → Int32 → Prop) (hN_22 : ∀ (x3 : Int32) (x4 : Int32) (x5 : Int32), N_22 x3 x4 x5 → Wat p l e rm_Mo_judgesAlike s m args below meth c A Qf g 7 (cs_Mo_judgesAlike g a_t a_t_judged a_t_likes a_t_one a_t_weight a_t_cost a_t_text a_t_read a_t_met a_t_line a_t_image a_t_isKept a_t_had t_points t_cases t_bytes t_position t_tokenAt t_token t_digits t_number t_row t_isRow t_faultAt t_readMany t_readPoints t_readCases t_suitOne t_suitTwo t_judged t_likes t_one) [(0, .ref a_t), (1, .int x1), (3, .int x3), (4, .int x4), (5, .int x5)] 22 []) (x3 : Int32) (x5 : Int32) (k0 : Int32), B_Mo_judgesAlike_105 x1 t_points t_cases t_judged t_likes t_one Q N_4 N_22 x3 x5 k0 → Wat p l e rm_Mo_judgesAlike s m args below meth c A Qf g 7 (cs_Mo_judgesAlike g a_t a_t_judged a_t_likes a_t_one a_t_weight a_t_cost a_t_text a_t_read a_t_met a_t_line a_t_image a_t_isKept a_t_had t_points t_cases t_bytes t_position t_tokenAt t_token t_digits t_number t_row t_isRow t_faultAt t_readMany t_readPoints t_readCases t_suitOne t_suitTwo t_judged t_likes t_one) [(0, .ref a_t), (1, .int x1), (3, .int x3), (5, .int x5)] 105 [.int k0] := by
    intro N_4 hN_4 N_22 hN_22 x3 x5 k0 h H locs ls hw hl
    refine lv_istore (lv' := [(4, .int k0), (0, .ref a_t), (1, .int x1), (3, .int x3), (5, .int x5)]) hx hb dX10_judgesAlike_105 hl (by decide) rfl (fun ls hl => ?_)
    exact hB_Mo_judgesAlike_107 N_4 hN_4 N_22 hN_22 x3 k0 x5 h _ _ _ hw (lv_sub hl [1, 2, 3, 0, 4] rfl)
  have hB_Mo_judgesAlike_98 : ∀ (N_4 : Int32 → Int32 → Prop) (hN_4 : ∀ (x2 : Int32) (x3 : Int32), N_4 x2 x3 → Wat p l e rm_Mo_judgesAlike s m args below meth c A Qf g 7 (cs_Mo_judgesAlike g a_t a_t_judged a_t_likes a_t_one a_t_weight a_t_cost a_t_text a_t_read a_t_met a_t_line a_t_image a_t_isKept a_t_had t_points t_cases t_bytes t_position t_tokenAt t_token t_digits t_number t_row t_isRow t_faultAt t_readMany t_readPoints t_readCases t_suitOne t_suitTwo t_judged t_likes t_one) [(0, .ref a_t), (1, .int x1), (2, .int x2), (3, .int x3)] 4 []) (N_22 : Int32 → Int32 → Int32 → Prop) (hN_22 : ∀ (x3 : Int32) (x4 : Int32) (x5 : Int32), N_22 x3 x4 x5 → Wat p l e rm_Mo_judgesAlike s m args below meth c A Qf g 7 (cs_Mo_judgesAlike g a_t a_t_judged a_t_likes a_t_one a_t_weight a_t_cost a_t_text a_t_read a_t_met a_t_line a_t_image a_t_isKept a_t_had t_points t_cases t_bytes t_position t_tokenAt t_token t_digits t_number t_row t_isRow t_faultAt t_readMany t_readPoints t_readCases t_suitOne t_suitTwo t_judged t_likes t_one) [(0, .ref a_t), (1, .int x1), (3, .int x3), (4, .int x4), (5, .int x5)] 22 []) (x3 : Int32) (x5 : Int32), B_Mo_judgesAlike_98 x1 t_points t_cases t_judged t_likes t_one Q N_4 N_22 x3 x5 → Wat p l e rm_Mo_judgesAlike s m args below meth c A Qf g 7 (cs_Mo_judgesAlike g a_t a_t_judged a_t_likes a_t_one a_t_weight a_t_cost a_t_text a_t_read a_t_met a_t_line a_t_image a_t_isKept a_t_had t_points t_cases t_bytes t_position t_tokenAt t_token t_digits t_number t_row t_isRow t_faultAt t_readMany t_readPoints t_readCases t_suitOne t_suitTwo t_judged t_likes t_one) [(0, .ref a_t), (1, .int x1), (3, .int x3), (5, .int x5)] 98 [] := by
    intro N_4 hN_4 N_22 hN_22 x3 x5 h H locs ls hw hl
    refine lv_iload hx hb dX10_judgesAlike_98 (lv_at hl 3 rfl) ?_
    refine lv_goto (tgt := 105) hx hb dX10_judgesAlike_100 (by decide) ?_
    exact hB_Mo_judgesAlike_105 N_4 hN_4 N_22 hN_22 x3 x5 x5 h _ _ _ hw (lv_sub hl [0, 1, 2, 3] rfl)
  have hB_Mo_judgesAlike_103 : ∀ (N_4 : Int32 → Int32 → Prop) (hN_4 : ∀ (x2 : Int32) (x3 : Int32), N_4 x2 x3 → Wat p l e rm_Mo_judgesAlike s m args below meth c A Qf g 7 (cs_Mo_judgesAlike g a_t a_t_judged a_t_likes a_t_one a_t_weight a_t_cost a_t_text a_t_read a_t_met a_t_line a_t_image a_t_isKept a_t_had t_points t_cases t_bytes t_position t_tokenAt t_token t_digits t_number t_row t_isRow t_faultAt t_readMany t_readPoints t_readCases t_suitOne t_suitTwo t_judged t_likes t_one) [(0, .ref a_t), (1, .int x1), (2, .int x2), (3, .int x3)] 4 []) (N_22 : Int32 → Int32 → Int32 → Prop) (hN_22 : ∀ (x3 : Int32) (x4 : Int32) (x5 : Int32), N_22 x3 x4 x5 → Wat p l e rm_Mo_judgesAlike s m args below meth c A Qf g 7 (cs_Mo_judgesAlike g a_t a_t_judged a_t_likes a_t_one a_t_weight a_t_cost a_t_text a_t_read a_t_met a_t_line a_t_image a_t_isKept a_t_had t_points t_cases t_bytes t_position t_tokenAt t_token t_digits t_number t_row t_isRow t_faultAt t_readMany t_readPoints t_readCases t_suitOne t_suitTwo t_judged t_likes t_one) [(0, .ref a_t), (1, .int x1), (3, .int x3), (4, .int x4), (5, .int x5)] 22 []) (x3 : Int32) (x4 : Int32) (x5 : Int32), B_Mo_judgesAlike_103 x1 t_points t_cases t_judged t_likes t_one Q N_4 N_22 x3 x4 x5 → Wat p l e rm_Mo_judgesAlike s m args below meth c A Qf g 7 (cs_Mo_judgesAlike g a_t a_t_judged a_t_likes a_t_one a_t_weight a_t_cost a_t_text a_t_read a_t_met a_t_line a_t_image a_t_isKept a_t_had t_points t_cases t_bytes t_position t_tokenAt t_token t_digits t_number t_row t_isRow t_faultAt t_readMany t_readPoints t_readCases t_suitOne t_suitTwo t_judged t_likes t_one) [(0, .ref a_t), (1, .int x1), (3, .int x3), (4, .int x4), (5, .int x5)] 103 [] := by
    intro N_4 hN_4 N_22 hN_22 x3 x4 x5 h H locs ls hw hl
    refine lv_iload hx hb dX10_judgesAlike_103 (lv_at hl 3 rfl) ?_
    exact hB_Mo_judgesAlike_105 N_4 hN_4 N_22 hN_22 x3 x5 x4 h _ _ _ hw (lv_sub hl [0, 1, 2, 4] rfl)
  have hB_Mo_judgesAlike_75 : ∀ (N_4 : Int32 → Int32 → Prop) (hN_4 : ∀ (x2 : Int32) (x3 : Int32), N_4 x2 x3 → Wat p l e rm_Mo_judgesAlike s m args below meth c A Qf g 7 (cs_Mo_judgesAlike g a_t a_t_judged a_t_likes a_t_one a_t_weight a_t_cost a_t_text a_t_read a_t_met a_t_line a_t_image a_t_isKept a_t_had t_points t_cases t_bytes t_position t_tokenAt t_token t_digits t_number t_row t_isRow t_faultAt t_readMany t_readPoints t_readCases t_suitOne t_suitTwo t_judged t_likes t_one) [(0, .ref a_t), (1, .int x1), (2, .int x2), (3, .int x3)] 4 []) (N_22 : Int32 → Int32 → Int32 → Prop) (hN_22 : ∀ (x3 : Int32) (x4 : Int32) (x5 : Int32), N_22 x3 x4 x5 → Wat p l e rm_Mo_judgesAlike s m args below meth c A Qf g 7 (cs_Mo_judgesAlike g a_t a_t_judged a_t_likes a_t_one a_t_weight a_t_cost a_t_text a_t_read a_t_met a_t_line a_t_image a_t_isKept a_t_had t_points t_cases t_bytes t_position t_tokenAt t_token t_digits t_number t_row t_isRow t_faultAt t_readMany t_readPoints t_readCases t_suitOne t_suitTwo t_judged t_likes t_one) [(0, .ref a_t), (1, .int x1), (3, .int x3), (4, .int x4), (5, .int x5)] 22 []) (x3 : Int32) (x4 : Int32) (x5 : Int32) (k0 : Int32), B_Mo_judgesAlike_75 x1 t_points t_cases t_judged t_likes t_one Q N_4 N_22 x3 x4 x5 k0 → Wat p l e rm_Mo_judgesAlike s m args below meth c A Qf g 7 (cs_Mo_judgesAlike g a_t a_t_judged a_t_likes a_t_one a_t_weight a_t_cost a_t_text a_t_read a_t_met a_t_line a_t_image a_t_isKept a_t_had t_points t_cases t_bytes t_position t_tokenAt t_token t_digits t_number t_row t_isRow t_faultAt t_readMany t_readPoints t_readCases t_suitOne t_suitTwo t_judged t_likes t_one) [(0, .ref a_t), (1, .int x1), (3, .int x3), (4, .int x4), (5, .int x5)] 75 [.int k0] := by
    intro N_4 hN_4 N_22 hN_22 x3 x4 x5 k0 h H locs ls hw hl
    refine lv_istore (lv' := [(6, .int k0), (0, .ref a_t), (1, .int x1), (3, .int x3), (4, .int x4), (5, .int x5)]) hx hb dX10_judgesAlike_75 hl (by decide) rfl (fun ls hl => ?_)
    refine lv_iload hx hb dX10_judgesAlike_77 (lv_at hl 0 rfl) ?_
    refine lv_if_gt (tgt := 98) hx hb dX10_judgesAlike_79 (by decide) (fun c_79 => ?_) (fun c_79 => ?_)
    · have h := h.1 c_79
      exact hB_Mo_judgesAlike_98 N_4 hN_4 N_22 hN_22 x3 x5 h _ _ _ hw (lv_sub hl [1, 2, 3, 5] rfl)
    · have h := h.2 c_79
      refine lv_iload hx hb dX10_judgesAlike_82 (lv_at hl 0 rfl) ?_
      refine lv_if_ne (tgt := 103) hx hb dX10_judgesAlike_84 (by decide) (fun c_84 => ?_) (fun c_84 => ?_)
      · have h := h.1 c_84
        exact hB_Mo_judgesAlike_103 N_4 hN_4 N_22 hN_22 x3 x4 x5 h _ _ _ hw (lv_sub hl [1, 2, 3, 4, 5] rfl)
      · have h := h.2 c_84
        refine lv_aload_n hx hb dX10_judgesAlike_87 rfl (lv_at hl 1 rfl) ?_
        refine lv_iload hx hb dX10_judgesAlike_88 (lv_at hl 5 rfl) ?_
        refine lv_iload hx hb dX10_judgesAlike_90 (lv_at hl 4 rfl) ?_
        refine callVi (As := [.int x5, .int x4]) (rest := []) (W2 := fun _ => (cs_Mo_judgesAlike g a_t a_t_judged a_t_likes a_t_one a_t_weight a_t_cost a_t_text a_t_read a_t_met a_t_line a_t_image a_t_isKept a_t_had t_points t_cases t_bytes t_position t_tokenAt t_token t_digits t_number t_row t_isRow t_faultAt t_readMany t_readPoints t_readCases t_suitOne t_suitTwo t_judged t_likes t_one)) C hw hl (c_Mo_isElder l g a_t a_t_one a_t_weight a_t_cost a_t_text a_t_read a_t_likes a_t_judged a_t_met a_t_line a_t_image a_t_isKept a_t_had t_points t_cases t_bytes t_position t_tokenAt t_token t_digits t_number t_row t_isRow t_faultAt t_readMany t_readPoints t_readCases t_suitOne t_suitTwo t_one x5 x4 _ h) tw_1083 kk_X10_isElder rfl ⟨rfl, rfl⟩ ⟨by decide, by decide⟩ (Nat.le_of_ble_eq_true rfl) 0 rfl rfl rfl [0, 3] [1, 2] [2, 0, 1, 3] rfl rfl rfl rfl rfl rfl (fun u => rfl) rfl dX10_judgesAlike_92 (fun r_1 u H locs h hw => ?_)
        refine lv_if_eq (tgt := 103) hx hb dX10_judgesAlike_95 (by decide) (fun c_95 => ?_) (fun c_95 => ?_)
        · have h := h.1 c_95
          exact hB_Mo_judgesAlike_103 N_4 hN_4 N_22 hN_22 x3 x4 x5 h _ _ _ hw (lv_sub hl [1, 2, 3, 4, 5] rfl)
        · have h := h.2 c_95
          exact hB_Mo_judgesAlike_98 N_4 hN_4 N_22 hN_22 x3 x5 h _ _ _ hw (lv_sub hl [1, 2, 3, 5] rfl)
  have hL_Mo_judgesAlike_22 : ∀ (N_4 : Int32 → Int32 → Prop) (hN_4 : ∀ (x2 : Int32) (x3 : Int32), N_4 x2 x3 → Wat p l e rm_Mo_judgesAlike s m args below meth c A Qf g 7 (cs_Mo_judgesAlike g a_t a_t_judged a_t_likes a_t_one a_t_weight a_t_cost a_t_text a_t_read a_t_met a_t_line a_t_image a_t_isKept a_t_had t_points t_cases t_bytes t_position t_tokenAt t_token t_digits t_number t_row t_isRow t_faultAt t_readMany t_readPoints t_readCases t_suitOne t_suitTwo t_judged t_likes t_one) [(0, .ref a_t), (1, .int x1), (2, .int x2), (3, .int x3)] 4 []) (n : Nat) (x3 : Int32) (x4 : Int32) (x5 : Int32), L_Mo_judgesAlike_22 x1 t_points t_cases t_judged t_likes t_one Q N_4 n x3 x4 x5 → Wat p l e rm_Mo_judgesAlike s m args below meth c A Qf g 7 (cs_Mo_judgesAlike g a_t a_t_judged a_t_likes a_t_one a_t_weight a_t_cost a_t_text a_t_read a_t_met a_t_line a_t_image a_t_isKept a_t_had t_points t_cases t_bytes t_position t_tokenAt t_token t_digits t_number t_row t_isRow t_faultAt t_readMany t_readPoints t_readCases t_suitOne t_suitTwo t_judged t_likes t_one) [(0, .ref a_t), (1, .int x1), (3, .int x3), (4, .int x4), (5, .int x5)] 22 [] := by
    intro N_4 hN_4 n
    induction n with
    | zero => intro x3 x4 x5 h; exact absurd h id
    | succ n ih =>
      intro x3 x4 x5 h H locs ls hw hl
      rw [L_Mo_judgesAlike_22] at h
      refine lv_iload hx hb dX10_judgesAlike_22 (lv_at hl 4 rfl) ?_
      refine lv_aload_n hx hb dX10_judgesAlike_24 rfl (lv_at hl 0 rfl) ?_
      refine G_RX10_54 C hw 0 rfl dX10_judgesAlike_25 ?_
      refine lv_icmp_ge (tgt := 113) hx hb dX10_judgesAlike_28 (by decide) (fun c_28 => ?_) (fun c_28 => ?_)
      · have h := h.1 c_28
        refine lv_iload hx hb dX10_judgesAlike_113 (lv_at hl 3 rfl) ?_
        refine lv_iconst (v := (-1)) hx hb dX10_judgesAlike_115 (by decide) ?_
        refine lv_icmp_eq (tgt := 138) hx hb dX10_judgesAlike_116 (by decide) (fun c_116 => ?_) (fun c_116 => ?_)
        · have h := h.1 c_116
          exact hB_Mo_judgesAlike_138 N_4 hN_4 x3 h _ _ _ hw (lv_sub hl [0, 1, 2] rfl)
        · have h := h.2 c_116
          refine lv_aload_n hx hb dX10_judgesAlike_119 rfl (lv_at hl 0 rfl) ?_
          refine lv_iload hx hb dX10_judgesAlike_120 (lv_at hl 3 rfl) ?_
          refine callVi (As := [.int x4]) (rest := []) (W2 := fun _ => (cs_Mo_judgesAlike g a_t a_t_judged a_t_likes a_t_one a_t_weight a_t_cost a_t_text a_t_read a_t_met a_t_line a_t_image a_t_isKept a_t_had t_points t_cases t_bytes t_position t_tokenAt t_token t_digits t_number t_row t_isRow t_faultAt t_readMany t_readPoints t_readCases t_suitOne t_suitTwo t_judged t_likes t_one)) C hw hl (c_Mo_judgmentOf l g a_t a_t_one a_t_weight a_t_cost a_t_text a_t_read a_t_likes a_t_judged a_t_met a_t_line a_t_image a_t_isKept a_t_had t_points t_cases t_bytes t_position t_tokenAt t_token t_digits t_number t_row t_isRow t_faultAt t_readMany t_readPoints t_readCases t_suitOne t_suitTwo t_one x4 _ h) tw_1087 kk_X10_judgmentOf rfl ⟨rfl, rfl⟩ ⟨by decide, by decide⟩ (Nat.le_of_ble_eq_true rfl) 0 rfl rfl rfl [0, 3] [1, 2] [2, 0, 1, 3] rfl rfl rfl rfl rfl rfl (fun u => rfl) rfl dX10_judgesAlike_122 (fun r_2 u H locs h hw => ?_)
          refine lv_aload_n hx hb dX10_judgesAlike_125 rfl (lv_at hl 0 rfl) ?_
          refine G_RX10_32 C hw 0 rfl dX10_judgesAlike_126 ?_
          refine lv_iload_n hx hb dX10_judgesAlike_129 rfl (lv_at hl 2 rfl) ?_
          refine aldI C hw 1 rfl h.1 dX10_judgesAlike_130 ?_
          have h := h.2
          refine lv_icmp_ne (tgt := 138) hx hb dX10_judgesAlike_131 (by decide) (fun c_131 => ?_) (fun c_131 => ?_)
          · have h := h.1 c_131
            exact hB_Mo_judgesAlike_138 N_4 hN_4 x3 h _ _ _ hw (lv_sub hl [0, 1, 2] rfl)
          · have h := h.2 c_131
            refine lv_iconst (v := 1) hx hb dX10_judgesAlike_134 (by decide) ?_
            refine lv_goto (tgt := 139) hx hb dX10_judgesAlike_135 (by decide) ?_
            exact hB_Mo_judgesAlike_139 N_4 hN_4 x3 1 h _ _ _ hw (lv_sub hl [0, 1, 2] rfl)
      · have h := h.2 c_28
        refine lv_iload_n hx hb dX10_judgesAlike_31 rfl (lv_at hl 1 rfl) ?_
        refine lv_iload hx hb dX10_judgesAlike_32 (lv_at hl 4 rfl) ?_
        refine callSi (As := [.int x1, .int x5]) (rest := []) C hw hl (c_Mo_has l g x1 x5 _ h) tw_1111 kk_X10_has rfl ⟨rfl, rfl⟩ ⟨by decide, by decide⟩ (Nat.le_of_ble_eq_true rfl) rfl dX10_judgesAlike_34 (fun r_3 u H locs h hw => ?_)
        refine lv_if_eq (tgt := 107) hx hb dX10_judgesAlike_37 (by decide) (fun c_37 => ?_) (fun c_37 => ?_)
        · have h := h.1 c_37
          exact hB_Mo_judgesAlike_107 N_4 hN_4 (L_Mo_judgesAlike_22 x1 t_points t_cases t_judged t_likes t_one Q N_4 n) ih x3 x4 x5 h _ _ _ hw (lv_sub hl [0, 1, 2, 3, 4] rfl)
        · have h := h.2 c_37
          refine lv_iload hx hb dX10_judgesAlike_40 (lv_at hl 3 rfl) ?_
          refine lv_iconst (v := (-1)) hx hb dX10_judgesAlike_42 (by decide) ?_
          refine lv_icmp_ne (tgt := 50) hx hb dX10_judgesAlike_43 (by decide) (fun c_43 => ?_) (fun c_43 => ?_)
          · have h := h.1 c_43
            refine lv_aload_n hx hb dX10_judgesAlike_50 rfl (lv_at hl 0 rfl) ?_
            refine G_RX10_29 C hw 0 rfl dX10_judgesAlike_51 ?_
            refine lv_bipush (v := 14) hx hb dX10_judgesAlike_54 (by decide) ?_
            refine lv_iload_n hx hb dX10_judgesAlike_56 rfl (lv_at hl 2 rfl) ?_
            refine lv_imul hx hb dX10_judgesAlike_57 ?_
            refine lv_iload hx hb dX10_judgesAlike_58 (lv_at hl 4 rfl) ?_
            refine lv_iadd hx hb dX10_judgesAlike_60 ?_
            refine aldI C hw 2 rfl h.1 dX10_judgesAlike_61 ?_
            have h := h.2
            refine lv_aload_n hx hb dX10_judgesAlike_62 rfl (lv_at hl 0 rfl) ?_
            refine G_RX10_29 C hw 0 rfl dX10_judgesAlike_63 ?_
            refine lv_bipush (v := 14) hx hb dX10_judgesAlike_66 (by decide) ?_
            refine lv_iload_n hx hb dX10_judgesAlike_68 rfl (lv_at hl 2 rfl) ?_
            refine lv_imul hx hb dX10_judgesAlike_69 ?_
            refine lv_iload hx hb dX10_judgesAlike_70 (lv_at hl 3 rfl) ?_
            refine lv_iadd hx hb dX10_judgesAlike_72 ?_
            refine aldI C hw 2 rfl h.1 dX10_judgesAlike_73 ?_
            have h := h.2
            refine lv_isub hx hb dX10_judgesAlike_74 ?_
            exact hB_Mo_judgesAlike_75 N_4 hN_4 (L_Mo_judgesAlike_22 x1 t_points t_cases t_judged t_likes t_one Q N_4 n) ih x3 x4 x5 ((t_likes ((14 * x3) + x5).toNatClampNeg) - (t_likes ((14 * x3) + x4).toNatClampNeg)) h _ _ _ hw (lv_sub hl [0, 1, 2, 3, 4] rfl)
          · have h := h.2 c_43
            refine lv_iconst (v := 1) hx hb dX10_judgesAlike_46 (by decide) ?_
            refine lv_goto (tgt := 75) hx hb dX10_judgesAlike_47 (by decide) ?_
            exact hB_Mo_judgesAlike_75 N_4 hN_4 (L_Mo_judgesAlike_22 x1 t_points t_cases t_judged t_likes t_one Q N_4 n) ih x3 x4 x5 1 h _ _ _ hw (lv_sub hl [0, 1, 2, 3, 4] rfl)
  have hL_Mo_judgesAlike_4 : ∀ (n : Nat) (x2 : Int32) (x3 : Int32), L_Mo_judgesAlike_4 x1 t_points t_cases t_judged t_likes t_one Q n x2 x3 → Wat p l e rm_Mo_judgesAlike s m args below meth c A Qf g 7 (cs_Mo_judgesAlike g a_t a_t_judged a_t_likes a_t_one a_t_weight a_t_cost a_t_text a_t_read a_t_met a_t_line a_t_image a_t_isKept a_t_had t_points t_cases t_bytes t_position t_tokenAt t_token t_digits t_number t_row t_isRow t_faultAt t_readMany t_readPoints t_readCases t_suitOne t_suitTwo t_judged t_likes t_one) [(0, .ref a_t), (1, .int x1), (2, .int x2), (3, .int x3)] 4 [] := by
    intro n
    induction n with
    | zero => intro x2 x3 h; exact absurd h id
    | succ n ih =>
      intro x2 x3 h H locs ls hw hl
      rw [L_Mo_judgesAlike_4] at h
      refine lv_iload_n hx hb dX10_judgesAlike_4 rfl (lv_at hl 3 rfl) ?_
      refine lv_aload_n hx hb dX10_judgesAlike_5 rfl (lv_at hl 0 rfl) ?_
      refine callVi (As := []) (rest := [.int x3]) (W2 := fun _ => (cs_Mo_judgesAlike g a_t a_t_judged a_t_likes a_t_one a_t_weight a_t_cost a_t_text a_t_read a_t_met a_t_line a_t_image a_t_isKept a_t_had t_points t_cases t_bytes t_position t_tokenAt t_token t_digits t_number t_row t_isRow t_faultAt t_readMany t_readPoints t_readCases t_suitOne t_suitTwo t_judged t_likes t_one)) C hw hl (c_Mo_deedMany l g a_t a_t_weight a_t_cost a_t_one a_t_text a_t_read a_t_likes a_t_judged a_t_met a_t_line a_t_image a_t_isKept a_t_had t_points t_cases t_bytes t_position t_tokenAt t_token t_digits t_number t_row t_isRow t_faultAt t_readMany t_readPoints t_readCases t_suitOne t_suitTwo _ h) tw_1099 kk_X10_deedMany rfl ⟨rfl, rfl⟩ ⟨by decide, by decide⟩ (Nat.le_of_ble_eq_true rfl) 0 rfl rfl rfl [0] [1, 2, 3] [3, 0, 1, 2] rfl rfl rfl rfl rfl rfl (fun u => rfl) rfl dX10_judgesAlike_6 (fun r_4 u H locs h hw => ?_)
      refine lv_icmp_ge (tgt := 146) hx hb dX10_judgesAlike_9 (by decide) (fun c_9 => ?_) (fun c_9 => ?_)
      · have h := h.1 c_9
        exact hB_Mo_judgesAlike_146 x2 h _ _ _ hw (lv_sub hl [2] rfl)
      · have h := h.2 c_9
        refine lv_iload_n hx hb dX10_judgesAlike_12 rfl (lv_at hl 2 rfl) ?_
        refine lv_if_eq (tgt := 146) hx hb dX10_judgesAlike_13 (by decide) (fun c_13 => ?_) (fun c_13 => ?_)
        · have h := h.1 c_13
          exact hB_Mo_judgesAlike_146 x2 h _ _ _ hw (lv_sub hl [2] rfl)
        · have h := h.2 c_13
          refine lv_iconst (v := (-1)) hx hb dX10_judgesAlike_16 (by decide) ?_
          refine lv_istore (lv' := [(4, .int (-1)), (0, .ref a_t), (1, .int x1), (2, .int x2), (3, .int x3)]) hx hb dX10_judgesAlike_17 hl (by decide) rfl (fun ls hl => ?_)
          refine lv_iconst (v := 0) hx hb dX10_judgesAlike_19 (by decide) ?_
          refine lv_istore (lv' := [(5, .int 0), (4, .int (-1)), (0, .ref a_t), (1, .int x1), (2, .int x2), (3, .int x3)]) hx hb dX10_judgesAlike_20 hl (by decide) rfl (fun ls hl => ?_)
          obtain ⟨n_22, h⟩ := h
          exact hL_Mo_judgesAlike_22 (L_Mo_judgesAlike_4 x1 t_points t_cases t_judged t_likes t_one Q n) ih n_22 x3 (-1) 0 h _ _ _ hw (lv_sub hl [2, 3, 5, 1, 0] rfl)
  refine lv_iconst (v := 1) hx hb dX10_judgesAlike_0 (by decide) ?_
  refine lv_istore_n (lv' := [(2, .int 1), (0, .ref a_t), (1, .int x1)]) hx hb dX10_judgesAlike_1 rfl hl (by decide) rfl (fun ls hl => ?_)
  refine lv_iconst (v := 0) hx hb dX10_judgesAlike_2 (by decide) ?_
  refine lv_istore_n (lv' := [(3, .int 0), (2, .int 1), (0, .ref a_t), (1, .int x1)]) hx hb dX10_judgesAlike_3 rfl hl (by decide) rfl (fun ls hl => ?_)
  obtain ⟨n_4, h⟩ := h
  exact hL_Mo_judgesAlike_4 n_4 1 0 h _ _ _ hw (lv_sub hl [2, 3, 1, 0] rfl)
def B_Mo_keep_30 (x1 : Int32) (t_points : Int32) (t_cases : Int32) (t_one : (Nat → Int32)) (t_weight : (Nat → Int32)) (Q : Int32 → (Nat → Int32) → (Nat → Int32) → Prop) (t_judged : (Nat → Int32)) (t_likes : (Nat → Int32)) : Prop := Q (-4) t_judged t_likes
def B_Mo_keep_92 (x1 : Int32) (t_points : Int32) (t_cases : Int32) (t_one : (Nat → Int32)) (t_weight : (Nat → Int32)) (Q : Int32 → (Nat → Int32) → (Nat → Int32) → Prop) (k0 : Int32) (t_judged : (Nat → Int32)) (t_likes : (Nat → Int32)) : Prop := Q k0 t_judged t_likes
def B_Mo_keep_74 (x1 : Int32) (t_points : Int32) (t_cases : Int32) (t_one : (Nat → Int32)) (t_weight : (Nat → Int32)) (Q : Int32 → (Nat → Int32) → (Nat → Int32) → Prop) (N_49 : Int32 → Int32 → (Nat → Int32) → (Nat → Int32) → Prop) (x2 : Int32) (x3 : Int32) (t_judged : (Nat → Int32)) (t_likes : (Nat → Int32)) : Prop := N_49 x2 (x3 + (-1)) t_judged t_likes
def L_Mo_keep_49 (x1 : Int32) (t_points : Int32) (t_cases : Int32) (t_one : (Nat → Int32)) (t_weight : (Nat → Int32)) (Q : Int32 → (Nat → Int32) → (Nat → Int32) → Prop) : Nat → Int32 → Int32 → (Nat → Int32) → (Nat → Int32) → Prop
  | 0 => fun _ _ _ _ => False
  | n + 1 => fun x2 x3 t_judged t_likes => (x3 ≤ 0 → (¬ x1 = 0 → B_Mo_keep_92 x1 t_points t_cases t_one t_weight Q x2 t_judged t_likes) ∧ (x1 = 0 → P_Mo_bits x2 (fun r_1 => B_Mo_keep_92 x1 t_points t_cases t_one t_weight Q r_1 t_judged t_likes))) ∧ (¬ x3 ≤ 0 → P_Mo_bits x3 (fun r_2 => P_Mo_bits x2 (fun r_3 => (r_3 < r_2 → B_Mo_keep_74 x1 t_points t_cases t_one t_weight Q (L_Mo_keep_49 x1 t_points t_cases t_one t_weight Q n) x2 x3 t_judged t_likes) ∧ (¬ r_3 < r_2 → P_Mo_judgesAlike x3 t_points t_cases t_judged t_likes t_one (fun r_4 => (r_4 = 0 → B_Mo_keep_74 x1 t_points t_cases t_one t_weight Q (L_Mo_keep_49 x1 t_points t_cases t_one t_weight Q n) x2 x3 t_judged t_likes) ∧ (¬ r_4 = 0 → B_Mo_keep_74 x1 t_points t_cases t_one t_weight Q (L_Mo_keep_49 x1 t_points t_cases t_one t_weight Q n) x3 x3 t_judged t_likes))))))
def P_Mo_keep (x1 : Int32) (t_points : Int32) (t_cases : Int32) (t_judged : (Nat → Int32)) (t_likes : (Nat → Int32)) (t_one : (Nat → Int32)) (t_weight : (Nat → Int32)) (Q : Int32 → (Nat → Int32) → (Nat → Int32) → Prop) : Prop := P_Mo_in x1 0 1 (fun r_5 => (¬ r_5 = 0 → (8 < t_points → B_Mo_keep_30 x1 t_points t_cases t_one t_weight Q t_judged t_likes) ∧ (¬ 8 < t_points → (t_cases ≤ 10 → P_Mo_layLikes t_points t_cases t_judged t_likes t_one t_weight (fun t_judged_6 t_likes_7 => P_Mo_all t_cases (fun r_8 => P_Mo_all t_cases (fun r_9 => ∀ x3_10 : Int32, x3_10 = (r_9 - 1) → ∃ n_49 : Nat, L_Mo_keep_49 x1 t_points t_cases t_one t_weight Q n_49 r_8 x3_10 t_judged_6 t_likes_7)))) ∧ (¬ t_cases ≤ 10 → B_Mo_keep_30 x1 t_points t_cases t_one t_weight Q t_judged t_likes))) ∧ (r_5 = 0 → Q (-3) t_judged t_likes))
abbrev rm_Mo_keep : Room := { frames := 5, cells := 0, slots := 0, locals := 116 }
def cs_Mo_keep (g : GE) (a_t a_t_judged a_t_likes a_t_one a_t_weight a_t_cost a_t_text a_t_read a_t_met a_t_line a_t_image a_t_isKept a_t_had : Nat) (t_points : Int32) (t_cases : Int32) (t_bytes : Int32) (t_position : Int32) (t_tokenAt : Int32) (t_token : Int64) (t_digits : Int32) (t_number : Int32) (t_row : Int32) (t_isRow : Int32) (t_faultAt : Int32) (t_readMany : Int32) (t_readPoints : Int32) (t_readCases : Int32) (t_suitOne : Int32) (t_suitTwo : Int32) (t_judged : (Nat → Int32)) (t_likes : (Nat → Int32)) (t_one : (Nat → Int32)) (t_weight : (Nat → Int32)) : va_W := [oc a_t 10 [.int t_points, .ref a_t_weight, .ref a_t_cost, .int t_cases, .ref a_t_one, .int t_bytes, .ref a_t_text, .int t_position, .int t_tokenAt, .long t_token, .int t_digits, .int t_number, .int t_row, .int t_isRow, .int t_faultAt, .int t_readMany, .int t_readPoints, .int t_readCases, .ref a_t_read, .ref a_t_likes, .ref a_t_judged, .ref a_t_met, .ref a_t_line, .ref a_t_image, .ref a_t_isKept, .int t_suitOne, .int t_suitTwo, .ref a_t_had], ai g a_t_judged 1024 t_judged, ai g a_t_likes 14336 t_likes, ai g a_t_one 56 t_one, ai g a_t_weight 10 t_weight]
set_option maxHeartbeats 4000000 in
set_option maxRecDepth 100000 in
theorem c_Mo_keep (l : Launch) (g : GE) (a_t a_t_judged a_t_likes a_t_one a_t_weight a_t_cost a_t_text a_t_read a_t_met a_t_line a_t_image a_t_isKept a_t_had : Nat) (t_points : Int32) (t_cases : Int32) (t_bytes : Int32) (t_position : Int32) (t_tokenAt : Int32) (t_token : Int64) (t_digits : Int32) (t_number : Int32) (t_row : Int32) (t_isRow : Int32) (t_faultAt : Int32) (t_readMany : Int32) (t_readPoints : Int32) (t_readCases : Int32) (t_suitOne : Int32) (t_suitTwo : Int32) (t_judged : (Nat → Int32)) (t_likes : (Nat → Int32)) (t_one : (Nat → Int32)) (t_weight : (Nat → Int32)) (x1 : Int32) (Q : Int32 → (Nat → Int32) → (Nat → Int32) → Prop) (h : P_Mo_keep x1 t_points t_cases t_judged t_likes t_one t_weight Q) : Cti l g yX10_keep cX10_keep 4 (some .int) rm_Mo_keep [.ref a_t, .int x1] (cs_Mo_keep g a_t a_t_judged a_t_likes a_t_one a_t_weight a_t_cost a_t_text a_t_read a_t_met a_t_line a_t_image a_t_isKept a_t_had t_points t_cases t_bytes t_position t_tokenAt t_token t_digits t_number t_row t_isRow t_faultAt t_readMany t_readPoints t_readCases t_suitOne t_suitTwo t_judged t_likes t_one t_weight) (S := (Nat → Int32) × (Nat → Int32)) (fun r u => Q r u.1 u.2) (fun u => (cs_Mo_keep g a_t a_t_judged a_t_likes a_t_one a_t_weight a_t_cost a_t_text a_t_read a_t_met a_t_line a_t_image a_t_isKept a_t_had t_points t_cases t_bytes t_position t_tokenAt t_token t_digits t_number t_row t_isRow t_faultAt t_readMany t_readPoints t_readCases t_suitOne t_suitTwo (u.1) (u.2) t_one t_weight)) := by
  refine meetI rfl (Nat.le_of_ble_eq_true rfl) ⟨rfl, rfl⟩ ?_
  intro p e s m args below meth c A Qf ls C hret hw hl
  have hx := C.1
  have hb := C.2.1
  have hown := C.2.2.2.1
  have hts := C.2.2.2.2.1
  have hE := C.2.2.2.2.2.1
  have hl : lv_has ls 4 [(0, .ref a_t), (1, .int x1)] := hl
  have hB_Mo_keep_30 : ∀ (t_judged : (Nat → Int32)) (t_likes : (Nat → Int32)), B_Mo_keep_30 x1 t_points t_cases t_one t_weight Q t_judged t_likes → Wat p l e rm_Mo_keep s m args below meth c A Qf g 4 (cs_Mo_keep g a_t a_t_judged a_t_likes a_t_one a_t_weight a_t_cost a_t_text a_t_read a_t_met a_t_line a_t_image a_t_isKept a_t_had t_points t_cases t_bytes t_position t_tokenAt t_token t_digits t_number t_row t_isRow t_faultAt t_readMany t_readPoints t_readCases t_suitOne t_suitTwo t_judged t_likes t_one t_weight) [] 30 [] := by
    intro t_judged t_likes h H locs ls hw hl
    refine lv_bipush (v := (-4)) hx hb dX10_keep_30 (by decide) ?_
    exact hret (t_judged, t_likes) h hw dX10_keep_32 rfl
  have hB_Mo_keep_92 : ∀ (k0 : Int32) (t_judged : (Nat → Int32)) (t_likes : (Nat → Int32)), B_Mo_keep_92 x1 t_points t_cases t_one t_weight Q k0 t_judged t_likes → Wat p l e rm_Mo_keep s m args below meth c A Qf g 4 (cs_Mo_keep g a_t a_t_judged a_t_likes a_t_one a_t_weight a_t_cost a_t_text a_t_read a_t_met a_t_line a_t_image a_t_isKept a_t_had t_points t_cases t_bytes t_position t_tokenAt t_token t_digits t_number t_row t_isRow t_faultAt t_readMany t_readPoints t_readCases t_suitOne t_suitTwo t_judged t_likes t_one t_weight) [] 92 [.int k0] := by
    intro k0 t_judged t_likes h H locs ls hw hl
    exact hret (t_judged, t_likes) h hw dX10_keep_92 rfl
  have hB_Mo_keep_74 : ∀ (N_49 : Int32 → Int32 → (Nat → Int32) → (Nat → Int32) → Prop) (hN_49 : ∀ (x2 : Int32) (x3 : Int32) (t_judged : (Nat → Int32)) (t_likes : (Nat → Int32)), N_49 x2 x3 t_judged t_likes → Wat p l e rm_Mo_keep s m args below meth c A Qf g 4 (cs_Mo_keep g a_t a_t_judged a_t_likes a_t_one a_t_weight a_t_cost a_t_text a_t_read a_t_met a_t_line a_t_image a_t_isKept a_t_had t_points t_cases t_bytes t_position t_tokenAt t_token t_digits t_number t_row t_isRow t_faultAt t_readMany t_readPoints t_readCases t_suitOne t_suitTwo t_judged t_likes t_one t_weight) [(0, .ref a_t), (1, .int x1), (2, .int x2), (3, .int x3)] 49 []) (x2 : Int32) (x3 : Int32) (t_judged : (Nat → Int32)) (t_likes : (Nat → Int32)), B_Mo_keep_74 x1 t_points t_cases t_one t_weight Q N_49 x2 x3 t_judged t_likes → Wat p l e rm_Mo_keep s m args below meth c A Qf g 4 (cs_Mo_keep g a_t a_t_judged a_t_likes a_t_one a_t_weight a_t_cost a_t_text a_t_read a_t_met a_t_line a_t_image a_t_isKept a_t_had t_points t_cases t_bytes t_position t_tokenAt t_token t_digits t_number t_row t_isRow t_faultAt t_readMany t_readPoints t_readCases t_suitOne t_suitTwo t_judged t_likes t_one t_weight) [(0, .ref a_t), (1, .int x1), (2, .int x2), (3, .int x3)] 74 [] := by
    intro N_49 hN_49 x2 x3 t_judged t_likes h H locs ls hw hl
    refine lv_iinc (v := x3 + (-1)) (lv' := [(3, .int (x3 + (-1))), (0, .ref a_t), (1, .int x1), (2, .int x2)]) hx hb dX10_keep_74 hl (k := 3) rfl rfl (by decide) rfl (fun ls hl => ?_)
    refine lv_goto (tgt := 49) hx hb dX10_keep_77 (by decide) ?_
    exact hN_49 x2 (x3 + (-1)) t_judged t_likes h _ _ _ hw (lv_sub hl [1, 2, 3, 0] rfl)
  have hL_Mo_keep_49 : ∀ (n : Nat) (x2 : Int32) (x3 : Int32) (t_judged : (Nat → Int32)) (t_likes : (Nat → Int32)), L_Mo_keep_49 x1 t_points t_cases t_one t_weight Q n x2 x3 t_judged t_likes → Wat p l e rm_Mo_keep s m args below meth c A Qf g 4 (cs_Mo_keep g a_t a_t_judged a_t_likes a_t_one a_t_weight a_t_cost a_t_text a_t_read a_t_met a_t_line a_t_image a_t_isKept a_t_had t_points t_cases t_bytes t_position t_tokenAt t_token t_digits t_number t_row t_isRow t_faultAt t_readMany t_readPoints t_readCases t_suitOne t_suitTwo t_judged t_likes t_one t_weight) [(0, .ref a_t), (1, .int x1), (2, .int x2), (3, .int x3)] 49 [] := by
    intro n
    induction n with
    | zero => intro x2 x3 t_judged t_likes h; exact absurd h id
    | succ n ih =>
      intro x2 x3 t_judged t_likes h H locs ls hw hl
      rw [L_Mo_keep_49] at h
      refine lv_iload_n hx hb dX10_keep_49 rfl (lv_at hl 3 rfl) ?_
      refine lv_if_le (tgt := 80) hx hb dX10_keep_50 (by decide) (fun c_50 => ?_) (fun c_50 => ?_)
      · have h := h.1 c_50
        refine lv_iload_n hx hb dX10_keep_80 rfl (lv_at hl 1 rfl) ?_
        refine lv_if_ne (tgt := 91) hx hb dX10_keep_81 (by decide) (fun c_81 => ?_) (fun c_81 => ?_)
        · have h := h.1 c_81
          refine lv_iload_n hx hb dX10_keep_91 rfl (lv_at hl 2 rfl) ?_
          exact hB_Mo_keep_92 x2 t_judged t_likes h _ _ _ hw (lv_sub hl [] rfl)
        · have h := h.2 c_81
          refine lv_iload_n hx hb dX10_keep_84 rfl (lv_at hl 2 rfl) ?_
          refine callSi (As := [.int x2]) (rest := []) C hw hl (c_Mo_bits l g x2 _ h) tw_1177 kk_X10_bits rfl ⟨rfl, rfl⟩ ⟨by decide, by decide⟩ (Nat.le_of_ble_eq_true rfl) rfl dX10_keep_85 (fun r_1 u H locs h hw => ?_)
          refine lv_goto (tgt := 92) hx hb dX10_keep_88 (by decide) ?_
          exact hB_Mo_keep_92 r_1 t_judged t_likes h _ _ _ hw (lv_sub hl [] rfl)
      · have h := h.2 c_50
        refine lv_iload_n hx hb dX10_keep_53 rfl (lv_at hl 3 rfl) ?_
        refine callSi (As := [.int x3]) (rest := []) C hw hl (c_Mo_bits l g x3 _ h) tw_1177 kk_X10_bits rfl ⟨rfl, rfl⟩ ⟨by decide, by decide⟩ (Nat.le_of_ble_eq_true rfl) rfl dX10_keep_54 (fun r_2 u H locs h hw => ?_)
        refine lv_iload_n hx hb dX10_keep_57 rfl (lv_at hl 2 rfl) ?_
        refine callSi (As := [.int x2]) (rest := [.int r_2]) C hw hl (c_Mo_bits l g x2 _ h) tw_1177 kk_X10_bits rfl ⟨rfl, rfl⟩ ⟨by decide, by decide⟩ (Nat.le_of_ble_eq_true rfl) rfl dX10_keep_58 (fun r_3 u H locs h hw => ?_)
        refine lv_icmp_gt (tgt := 74) hx hb dX10_keep_61 (by decide) (fun c_61 => ?_) (fun c_61 => ?_)
        · have h := h.1 c_61
          exact hB_Mo_keep_74 (L_Mo_keep_49 x1 t_points t_cases t_one t_weight Q n) ih x2 x3 t_judged t_likes h _ _ _ hw (lv_sub hl [0, 1, 2, 3] rfl)
        · have h := h.2 c_61
          refine lv_aload_n hx hb dX10_keep_64 rfl (lv_at hl 0 rfl) ?_
          refine lv_iload_n hx hb dX10_keep_65 rfl (lv_at hl 3 rfl) ?_
          refine callVi (As := [.int x3]) (rest := []) (W2 := fun _ => (cs_Mo_keep g a_t a_t_judged a_t_likes a_t_one a_t_weight a_t_cost a_t_text a_t_read a_t_met a_t_line a_t_image a_t_isKept a_t_had t_points t_cases t_bytes t_position t_tokenAt t_token t_digits t_number t_row t_isRow t_faultAt t_readMany t_readPoints t_readCases t_suitOne t_suitTwo t_judged t_likes t_one t_weight)) C hw hl (c_Mo_judgesAlike l g a_t a_t_judged a_t_likes a_t_one a_t_weight a_t_cost a_t_text a_t_read a_t_met a_t_line a_t_image a_t_isKept a_t_had t_points t_cases t_bytes t_position t_tokenAt t_token t_digits t_number t_row t_isRow t_faultAt t_readMany t_readPoints t_readCases t_suitOne t_suitTwo t_judged t_likes t_one x3 _ h) tw_1180 kk_X10_judgesAlike rfl ⟨rfl, rfl⟩ ⟨by decide, by decide⟩ (Nat.le_of_ble_eq_true rfl) 0 rfl rfl rfl [0, 1, 2, 3] [4] [1, 2, 3, 4, 0] rfl rfl rfl rfl rfl rfl (fun u => rfl) rfl dX10_keep_66 (fun r_4 u H locs h hw => ?_)
          refine lv_if_eq (tgt := 74) hx hb dX10_keep_69 (by decide) (fun c_69 => ?_) (fun c_69 => ?_)
          · have h := h.1 c_69
            exact hB_Mo_keep_74 (L_Mo_keep_49 x1 t_points t_cases t_one t_weight Q n) ih x2 x3 t_judged t_likes h _ _ _ hw (lv_sub hl [0, 1, 2, 3] rfl)
          · have h := h.2 c_69
            refine lv_iload_n hx hb dX10_keep_72 rfl (lv_at hl 3 rfl) ?_
            refine lv_istore_n (lv' := [(2, .int x3), (0, .ref a_t), (1, .int x1), (3, .int x3)]) hx hb dX10_keep_73 rfl hl (by decide) rfl (fun ls hl => ?_)
            exact hB_Mo_keep_74 (L_Mo_keep_49 x1 t_points t_cases t_one t_weight Q n) ih x3 x3 t_judged t_likes h _ _ _ hw (lv_sub hl [1, 2, 0, 3] rfl)
  refine lv_iload_n hx hb dX10_keep_0 rfl (lv_at hl 1 rfl) ?_
  refine lv_iconst (v := 0) hx hb dX10_keep_1 (by decide) ?_
  refine lv_iconst (v := 1) hx hb dX10_keep_2 (by decide) ?_
  refine callSi (As := [.int x1, .int 0, .int 1]) (rest := []) C hw hl (c_Mo_in l g x1 0 1 _ h) tw_999 kk_X10_in rfl ⟨rfl, rfl⟩ ⟨by decide, by decide⟩ (Nat.le_of_ble_eq_true rfl) rfl dX10_keep_3 (fun r_5 u H locs h hw => ?_)
  refine lv_if_ne (tgt := 12) hx hb dX10_keep_6 (by decide) (fun c_6 => ?_) (fun c_6 => ?_)
  · have h := h.1 c_6
    refine lv_aload_n hx hb dX10_keep_12 rfl (lv_at hl 0 rfl) ?_
    refine G_RX10_7 C hw 0 rfl dX10_keep_13 ?_
    refine lv_bipush (v := 8) hx hb dX10_keep_16 (by decide) ?_
    refine lv_icmp_gt (tgt := 30) hx hb dX10_keep_18 (by decide) (fun c_18 => ?_) (fun c_18 => ?_)
    · have h := h.1 c_18
      exact hB_Mo_keep_30 t_judged t_likes h _ _ _ hw (lv_sub hl [] rfl)
    · have h := h.2 c_18
      refine lv_aload_n hx hb dX10_keep_21 rfl (lv_at hl 0 rfl) ?_
      refine G_RX10_54 C hw 0 rfl dX10_keep_22 ?_
      refine lv_bipush (v := 10) hx hb dX10_keep_25 (by decide) ?_
      refine lv_icmp_le (tgt := 33) hx hb dX10_keep_27 (by decide) (fun c_27 => ?_) (fun c_27 => ?_)
      · have h := h.1 c_27
        refine lv_aload_n hx hb dX10_keep_33 rfl (lv_at hl 0 rfl) ?_
        refine callVv (As := []) (rest := []) (W2 := fun u => (cs_Mo_keep g a_t a_t_judged a_t_likes a_t_one a_t_weight a_t_cost a_t_text a_t_read a_t_met a_t_line a_t_image a_t_isKept a_t_had t_points t_cases t_bytes t_position t_tokenAt t_token t_digits t_number t_row t_isRow t_faultAt t_readMany t_readPoints t_readCases t_suitOne t_suitTwo (u.1) (u.2) t_one t_weight)) C hw hl (c_Mo_layLikes l g a_t a_t_judged a_t_likes a_t_one a_t_weight a_t_cost a_t_text a_t_read a_t_met a_t_line a_t_image a_t_isKept a_t_had t_points t_cases t_bytes t_position t_tokenAt t_token t_digits t_number t_row t_isRow t_faultAt t_readMany t_readPoints t_readCases t_suitOne t_suitTwo t_judged t_likes t_one t_weight _ h) tw_1173 kk_X10_layLikes rfl ⟨rfl, rfl⟩ ⟨by decide, by decide⟩ (Nat.le_of_ble_eq_true rfl) 0 rfl rfl rfl [0, 1, 2, 3, 4] [] [0, 1, 2, 3, 4] rfl rfl rfl rfl rfl rfl (fun u => rfl) rfl dX10_keep_34 (fun u H locs h hw => ?_)
        obtain ⟨t_judged_6, t_likes_7⟩ := u
        have hw : Wd g A s (cs_Mo_keep g a_t a_t_judged a_t_likes a_t_one a_t_weight a_t_cost a_t_text a_t_read a_t_met a_t_line a_t_image a_t_isKept a_t_had t_points t_cases t_bytes t_position t_tokenAt t_token t_digits t_number t_row t_isRow t_faultAt t_readMany t_readPoints t_readCases t_suitOne t_suitTwo t_judged_6 t_likes_7 t_one t_weight) H locs := hw
        refine lv_aload_n hx hb dX10_keep_37 rfl (lv_at hl 0 rfl) ?_
        refine callVi (As := []) (rest := []) (W2 := fun _ => (cs_Mo_keep g a_t a_t_judged a_t_likes a_t_one a_t_weight a_t_cost a_t_text a_t_read a_t_met a_t_line a_t_image a_t_isKept a_t_had t_points t_cases t_bytes t_position t_tokenAt t_token t_digits t_number t_row t_isRow t_faultAt t_readMany t_readPoints t_readCases t_suitOne t_suitTwo t_judged_6 t_likes_7 t_one t_weight)) C hw hl (c_Mo_all l g a_t a_t_weight a_t_cost a_t_one a_t_text a_t_read a_t_likes a_t_judged a_t_met a_t_line a_t_image a_t_isKept a_t_had t_points t_cases t_bytes t_position t_tokenAt t_token t_digits t_number t_row t_isRow t_faultAt t_readMany t_readPoints t_readCases t_suitOne t_suitTwo _ h) tw_1103 kk_X10_all rfl ⟨rfl, rfl⟩ ⟨by decide, by decide⟩ (Nat.le_of_ble_eq_true rfl) 0 rfl rfl rfl [0] [1, 2, 3, 4] [4, 0, 1, 2, 3] rfl rfl rfl rfl rfl rfl (fun u => rfl) rfl dX10_keep_38 (fun r_8 u H locs h hw => ?_)
        refine lv_istore_n (lv' := [(2, .int r_8), (0, .ref a_t), (1, .int x1)]) hx hb dX10_keep_41 rfl hl (by decide) rfl (fun ls hl => ?_)
        refine lv_aload_n hx hb dX10_keep_42 rfl (lv_at hl 1 rfl) ?_
        refine callVi (As := []) (rest := []) (W2 := fun _ => (cs_Mo_keep g a_t a_t_judged a_t_likes a_t_one a_t_weight a_t_cost a_t_text a_t_read a_t_met a_t_line a_t_image a_t_isKept a_t_had t_points t_cases t_bytes t_position t_tokenAt t_token t_digits t_number t_row t_isRow t_faultAt t_readMany t_readPoints t_readCases t_suitOne t_suitTwo t_judged_6 t_likes_7 t_one t_weight)) C hw hl (c_Mo_all l g a_t a_t_weight a_t_cost a_t_one a_t_text a_t_read a_t_likes a_t_judged a_t_met a_t_line a_t_image a_t_isKept a_t_had t_points t_cases t_bytes t_position t_tokenAt t_token t_digits t_number t_row t_isRow t_faultAt t_readMany t_readPoints t_readCases t_suitOne t_suitTwo _ h) tw_1103 kk_X10_all rfl ⟨rfl, rfl⟩ ⟨by decide, by decide⟩ (Nat.le_of_ble_eq_true rfl) 0 rfl rfl rfl [0] [1, 2, 3, 4] [4, 0, 1, 2, 3] rfl rfl rfl rfl rfl rfl (fun u => rfl) rfl dX10_keep_43 (fun r_9 u H locs h hw => ?_)
        refine lv_iconst (v := 1) hx hb dX10_keep_46 (by decide) ?_
        refine lv_isub hx hb dX10_keep_47 ?_
        refine lv_topi (fun x3_10 ex3_10 => ?_)
        have h := h x3_10 ex3_10
        refine lv_istore_n (lv' := [(3, .int x3_10), (2, .int r_8), (0, .ref a_t), (1, .int x1)]) hx hb dX10_keep_48 rfl hl (by decide) rfl (fun ls hl => ?_)
        obtain ⟨n_49, h⟩ := h
        exact hL_Mo_keep_49 n_49 r_8 x3_10 t_judged_6 t_likes_7 h _ _ _ hw (lv_sub hl [2, 3, 1, 0] rfl)
      · have h := h.2 c_27
        exact hB_Mo_keep_30 t_judged t_likes h _ _ _ hw (lv_sub hl [] rfl)
  · have h := h.2 c_6
    refine lv_bipush (v := (-3)) hx hb dX10_keep_9 (by decide) ?_
    exact hret (t_judged, t_likes) h hw dX10_keep_11 rfl
def B_Mo_turning_58 (x1 : Int32) (t_points : Int32) (t_cases : Int32) (t_one : (Nat → Int32)) (t_weight : (Nat → Int32)) (Q : Int32 → Prop) (N_25 : Int32 → Int32 → Prop) (x3 : Int32) (k0 : Int32) (k1 : Int32) : Prop := ∀ x2_1 : Int32, x2_1 = (k0 ||| k1) → N_25 x2_1 (x3 + 1)
def L_Mo_turning_25 (x1 : Int32) (t_points : Int32) (t_cases : Int32) (t_one : (Nat → Int32)) (t_weight : (Nat → Int32)) (Q : Int32 → Prop) : Nat → Int32 → Int32 → Prop
  | 0 => fun _ _ => False
  | n + 1 => fun x2 x3 => (t_points ≤ x3 → Q x2) ∧ (¬ t_points ≤ x3 → P_Mo_judgmentAt (x1 ^^^ (1 <<< (x3 &&& 31))) t_points t_cases t_one t_weight (fun r_2 => P_Mo_judgmentAt x1 t_points t_cases t_one t_weight (fun r_3 => (r_2 = r_3 → B_Mo_turning_58 x1 t_points t_cases t_one t_weight Q (L_Mo_turning_25 x1 t_points t_cases t_one t_weight Q n) x3 x2 0) ∧ (¬ r_2 = r_3 → B_Mo_turning_58 x1 t_points t_cases t_one t_weight Q (L_Mo_turning_25 x1 t_points t_cases t_one t_weight Q n) x3 x2 (1 <<< (x3 &&& 31))))))
def P_Mo_turning (x1 : Int32) (t_points : Int32) (t_cases : Int32) (t_one : (Nat → Int32)) (t_weight : (Nat → Int32)) (Q : Int32 → Prop) : Prop := P_Mo_isDeed x1 t_points (fun r_4 => (¬ r_4 = 0 → (¬ t_cases = 0 → ∃ n_25 : Nat, L_Mo_turning_25 x1 t_points t_cases t_one t_weight Q n_25 0 0) ∧ (t_cases = 0 → Q (-4))) ∧ (r_4 = 0 → Q (-3)))
abbrev rm_Mo_turning : Room := { frames := 4, cells := 0, slots := 0, locals := 94 }
def cs_Mo_turning (g : GE) (a_t a_t_one a_t_weight a_t_cost a_t_text a_t_read a_t_likes a_t_judged a_t_met a_t_line a_t_image a_t_isKept a_t_had : Nat) (t_points : Int32) (t_cases : Int32) (t_bytes : Int32) (t_position : Int32) (t_tokenAt : Int32) (t_token : Int64) (t_digits : Int32) (t_number : Int32) (t_row : Int32) (t_isRow : Int32) (t_faultAt : Int32) (t_readMany : Int32) (t_readPoints : Int32) (t_readCases : Int32) (t_suitOne : Int32) (t_suitTwo : Int32) (t_one : (Nat → Int32)) (t_weight : (Nat → Int32)) : va_W := [oc a_t 10 [.int t_points, .ref a_t_weight, .ref a_t_cost, .int t_cases, .ref a_t_one, .int t_bytes, .ref a_t_text, .int t_position, .int t_tokenAt, .long t_token, .int t_digits, .int t_number, .int t_row, .int t_isRow, .int t_faultAt, .int t_readMany, .int t_readPoints, .int t_readCases, .ref a_t_read, .ref a_t_likes, .ref a_t_judged, .ref a_t_met, .ref a_t_line, .ref a_t_image, .ref a_t_isKept, .int t_suitOne, .int t_suitTwo, .ref a_t_had], ai g a_t_one 56 t_one, ai g a_t_weight 10 t_weight]
set_option maxHeartbeats 4000000 in
set_option maxRecDepth 100000 in
theorem c_Mo_turning (l : Launch) (g : GE) (a_t a_t_one a_t_weight a_t_cost a_t_text a_t_read a_t_likes a_t_judged a_t_met a_t_line a_t_image a_t_isKept a_t_had : Nat) (t_points : Int32) (t_cases : Int32) (t_bytes : Int32) (t_position : Int32) (t_tokenAt : Int32) (t_token : Int64) (t_digits : Int32) (t_number : Int32) (t_row : Int32) (t_isRow : Int32) (t_faultAt : Int32) (t_readMany : Int32) (t_readPoints : Int32) (t_readCases : Int32) (t_suitOne : Int32) (t_suitTwo : Int32) (t_one : (Nat → Int32)) (t_weight : (Nat → Int32)) (x1 : Int32) (Q : Int32 → Prop) (h : P_Mo_turning x1 t_points t_cases t_one t_weight Q) : Cti l g yX10_turning cX10_turning 4 (some .int) rm_Mo_turning [.ref a_t, .int x1] (cs_Mo_turning g a_t a_t_one a_t_weight a_t_cost a_t_text a_t_read a_t_likes a_t_judged a_t_met a_t_line a_t_image a_t_isKept a_t_had t_points t_cases t_bytes t_position t_tokenAt t_token t_digits t_number t_row t_isRow t_faultAt t_readMany t_readPoints t_readCases t_suitOne t_suitTwo t_one t_weight) (S := Unit) (fun r u => Q r) (fun _ => (cs_Mo_turning g a_t a_t_one a_t_weight a_t_cost a_t_text a_t_read a_t_likes a_t_judged a_t_met a_t_line a_t_image a_t_isKept a_t_had t_points t_cases t_bytes t_position t_tokenAt t_token t_digits t_number t_row t_isRow t_faultAt t_readMany t_readPoints t_readCases t_suitOne t_suitTwo t_one t_weight)) := by
  refine meetI rfl (Nat.le_of_ble_eq_true rfl) ⟨rfl, rfl⟩ ?_
  intro p e s m args below meth c A Qf ls C hret hw hl
  have hx := C.1
  have hb := C.2.1
  have hown := C.2.2.2.1
  have hts := C.2.2.2.2.1
  have hE := C.2.2.2.2.2.1
  have hl : lv_has ls 4 [(0, .ref a_t), (1, .int x1)] := hl
  have hB_Mo_turning_58 : ∀ (N_25 : Int32 → Int32 → Prop) (hN_25 : ∀ (x2 : Int32) (x3 : Int32), N_25 x2 x3 → Wat p l e rm_Mo_turning s m args below meth c A Qf g 4 (cs_Mo_turning g a_t a_t_one a_t_weight a_t_cost a_t_text a_t_read a_t_likes a_t_judged a_t_met a_t_line a_t_image a_t_isKept a_t_had t_points t_cases t_bytes t_position t_tokenAt t_token t_digits t_number t_row t_isRow t_faultAt t_readMany t_readPoints t_readCases t_suitOne t_suitTwo t_one t_weight) [(0, .ref a_t), (1, .int x1), (2, .int x2), (3, .int x3)] 25 []) (x3 : Int32) (k0 : Int32) (k1 : Int32), B_Mo_turning_58 x1 t_points t_cases t_one t_weight Q N_25 x3 k0 k1 → Wat p l e rm_Mo_turning s m args below meth c A Qf g 4 (cs_Mo_turning g a_t a_t_one a_t_weight a_t_cost a_t_text a_t_read a_t_likes a_t_judged a_t_met a_t_line a_t_image a_t_isKept a_t_had t_points t_cases t_bytes t_position t_tokenAt t_token t_digits t_number t_row t_isRow t_faultAt t_readMany t_readPoints t_readCases t_suitOne t_suitTwo t_one t_weight) [(0, .ref a_t), (1, .int x1), (3, .int x3)] 58 [.int k1, .int k0] := by
    intro N_25 hN_25 x3 k0 k1 h H locs ls hw hl
    refine lv_ior hx hb dX10_turning_58 ?_
    refine lv_topi (fun x2_1 ex2_1 => ?_)
    have h := h x2_1 ex2_1
    refine lv_istore_n (lv' := [(2, .int x2_1), (0, .ref a_t), (1, .int x1), (3, .int x3)]) hx hb dX10_turning_59 rfl hl (by decide) rfl (fun ls hl => ?_)
    refine lv_iinc (v := x3 + 1) (lv' := [(3, .int (x3 + 1)), (2, .int x2_1), (0, .ref a_t), (1, .int x1)]) hx hb dX10_turning_60 hl (k := 3) rfl rfl (by decide) rfl (fun ls hl => ?_)
    refine lv_goto (tgt := 25) hx hb dX10_turning_63 (by decide) ?_
    exact hN_25 x2_1 (x3 + 1) h _ _ _ hw (lv_sub hl [2, 3, 1, 0] rfl)
  have hL_Mo_turning_25 : ∀ (n : Nat) (x2 : Int32) (x3 : Int32), L_Mo_turning_25 x1 t_points t_cases t_one t_weight Q n x2 x3 → Wat p l e rm_Mo_turning s m args below meth c A Qf g 4 (cs_Mo_turning g a_t a_t_one a_t_weight a_t_cost a_t_text a_t_read a_t_likes a_t_judged a_t_met a_t_line a_t_image a_t_isKept a_t_had t_points t_cases t_bytes t_position t_tokenAt t_token t_digits t_number t_row t_isRow t_faultAt t_readMany t_readPoints t_readCases t_suitOne t_suitTwo t_one t_weight) [(0, .ref a_t), (1, .int x1), (2, .int x2), (3, .int x3)] 25 [] := by
    intro n
    induction n with
    | zero => intro x2 x3 h; exact absurd h id
    | succ n ih =>
      intro x2 x3 h H locs ls hw hl
      rw [L_Mo_turning_25] at h
      refine lv_iload_n hx hb dX10_turning_25 rfl (lv_at hl 3 rfl) ?_
      refine lv_aload_n hx hb dX10_turning_26 rfl (lv_at hl 0 rfl) ?_
      refine G_RX10_7 C hw 0 rfl dX10_turning_27 ?_
      refine lv_icmp_ge (tgt := 66) hx hb dX10_turning_30 (by decide) (fun c_30 => ?_) (fun c_30 => ?_)
      · have h := h.1 c_30
        refine lv_iload_n hx hb dX10_turning_66 rfl (lv_at hl 2 rfl) ?_
        exact hret () h hw dX10_turning_67 rfl
      · have h := h.2 c_30
        refine lv_iload_n hx hb dX10_turning_33 rfl (lv_at hl 2 rfl) ?_
        refine lv_aload_n hx hb dX10_turning_34 rfl (lv_at hl 0 rfl) ?_
        refine lv_iload_n hx hb dX10_turning_35 rfl (lv_at hl 1 rfl) ?_
        refine lv_iconst (v := 1) hx hb dX10_turning_36 (by decide) ?_
        refine lv_iload_n hx hb dX10_turning_37 rfl (lv_at hl 3 rfl) ?_
        refine lv_ishl hx hb dX10_turning_38 ?_
        refine lv_ixor hx hb dX10_turning_39 ?_
        refine callVi (As := [.int (x1 ^^^ (1 <<< (x3 &&& 31)))]) (rest := [.int x2]) (W2 := fun _ => (cs_Mo_turning g a_t a_t_one a_t_weight a_t_cost a_t_text a_t_read a_t_likes a_t_judged a_t_met a_t_line a_t_image a_t_isKept a_t_had t_points t_cases t_bytes t_position t_tokenAt t_token t_digits t_number t_row t_isRow t_faultAt t_readMany t_readPoints t_readCases t_suitOne t_suitTwo t_one t_weight)) C hw hl (c_Mo_judgmentAt l g a_t a_t_one a_t_weight a_t_cost a_t_text a_t_read a_t_likes a_t_judged a_t_met a_t_line a_t_image a_t_isKept a_t_had t_points t_cases t_bytes t_position t_tokenAt t_token t_digits t_number t_row t_isRow t_faultAt t_readMany t_readPoints t_readCases t_suitOne t_suitTwo t_one t_weight (x1 ^^^ (1 <<< (x3 &&& 31))) _ h) tw_1126 kk_X10_judgmentAt rfl ⟨rfl, rfl⟩ ⟨by decide, by decide⟩ (Nat.le_of_ble_eq_true rfl) 0 rfl rfl rfl [0, 1, 2] [] [0, 1, 2] rfl rfl rfl rfl rfl rfl (fun u => rfl) rfl dX10_turning_40 (fun r_2 u H locs h hw => ?_)
        refine lv_aload_n hx hb dX10_turning_43 rfl (lv_at hl 0 rfl) ?_
        refine lv_iload_n hx hb dX10_turning_44 rfl (lv_at hl 1 rfl) ?_
        refine callVi (As := [.int x1]) (rest := [.int r_2, .int x2]) (W2 := fun _ => (cs_Mo_turning g a_t a_t_one a_t_weight a_t_cost a_t_text a_t_read a_t_likes a_t_judged a_t_met a_t_line a_t_image a_t_isKept a_t_had t_points t_cases t_bytes t_position t_tokenAt t_token t_digits t_number t_row t_isRow t_faultAt t_readMany t_readPoints t_readCases t_suitOne t_suitTwo t_one t_weight)) C hw hl (c_Mo_judgmentAt l g a_t a_t_one a_t_weight a_t_cost a_t_text a_t_read a_t_likes a_t_judged a_t_met a_t_line a_t_image a_t_isKept a_t_had t_points t_cases t_bytes t_position t_tokenAt t_token t_digits t_number t_row t_isRow t_faultAt t_readMany t_readPoints t_readCases t_suitOne t_suitTwo t_one t_weight x1 _ h) tw_1126 kk_X10_judgmentAt rfl ⟨rfl, rfl⟩ ⟨by decide, by decide⟩ (Nat.le_of_ble_eq_true rfl) 0 rfl rfl rfl [0, 1, 2] [] [0, 1, 2] rfl rfl rfl rfl rfl rfl (fun u => rfl) rfl dX10_turning_45 (fun r_3 u H locs h hw => ?_)
        refine lv_icmp_eq (tgt := 57) hx hb dX10_turning_48 (by decide) (fun c_48 => ?_) (fun c_48 => ?_)
        · have h := h.1 c_48
          refine lv_iconst (v := 0) hx hb dX10_turning_57 (by decide) ?_
          exact hB_Mo_turning_58 (L_Mo_turning_25 x1 t_points t_cases t_one t_weight Q n) ih x3 x2 0 h _ _ _ hw (lv_sub hl [0, 1, 3] rfl)
        · have h := h.2 c_48
          refine lv_iconst (v := 1) hx hb dX10_turning_51 (by decide) ?_
          refine lv_iload_n hx hb dX10_turning_52 rfl (lv_at hl 3 rfl) ?_
          refine lv_ishl hx hb dX10_turning_53 ?_
          refine lv_goto (tgt := 58) hx hb dX10_turning_54 (by decide) ?_
          exact hB_Mo_turning_58 (L_Mo_turning_25 x1 t_points t_cases t_one t_weight Q n) ih x3 x2 (1 <<< (x3 &&& 31)) h _ _ _ hw (lv_sub hl [0, 1, 3] rfl)
  refine lv_aload_n hx hb dX10_turning_0 rfl (lv_at hl 0 rfl) ?_
  refine lv_iload_n hx hb dX10_turning_1 rfl (lv_at hl 1 rfl) ?_
  refine callVi (As := [.int x1]) (rest := []) (W2 := fun _ => (cs_Mo_turning g a_t a_t_one a_t_weight a_t_cost a_t_text a_t_read a_t_likes a_t_judged a_t_met a_t_line a_t_image a_t_isKept a_t_had t_points t_cases t_bytes t_position t_tokenAt t_token t_digits t_number t_row t_isRow t_faultAt t_readMany t_readPoints t_readCases t_suitOne t_suitTwo t_one t_weight)) C hw hl (c_Mo_isDeed l g a_t a_t_weight a_t_cost a_t_one a_t_text a_t_read a_t_likes a_t_judged a_t_met a_t_line a_t_image a_t_isKept a_t_had t_points t_cases t_bytes t_position t_tokenAt t_token t_digits t_number t_row t_isRow t_faultAt t_readMany t_readPoints t_readCases t_suitOne t_suitTwo x1 _ h) tw_1095 kk_X10_isDeed rfl ⟨rfl, rfl⟩ ⟨by decide, by decide⟩ (Nat.le_of_ble_eq_true rfl) 0 rfl rfl rfl [0] [1, 2] [2, 0, 1] rfl rfl rfl rfl rfl rfl (fun u => rfl) rfl dX10_turning_2 (fun r_4 u H locs h hw => ?_)
  refine lv_if_ne (tgt := 11) hx hb dX10_turning_5 (by decide) (fun c_5 => ?_) (fun c_5 => ?_)
  · have h := h.1 c_5
    refine lv_aload_n hx hb dX10_turning_11 rfl (lv_at hl 0 rfl) ?_
    refine G_RX10_54 C hw 0 rfl dX10_turning_12 ?_
    refine lv_if_ne (tgt := 21) hx hb dX10_turning_15 (by decide) (fun c_15 => ?_) (fun c_15 => ?_)
    · have h := h.1 c_15
      refine lv_iconst (v := 0) hx hb dX10_turning_21 (by decide) ?_
      refine lv_istore_n (lv' := [(2, .int 0), (0, .ref a_t), (1, .int x1)]) hx hb dX10_turning_22 rfl hl (by decide) rfl (fun ls hl => ?_)
      refine lv_iconst (v := 0) hx hb dX10_turning_23 (by decide) ?_
      refine lv_istore_n (lv' := [(3, .int 0), (2, .int 0), (0, .ref a_t), (1, .int x1)]) hx hb dX10_turning_24 rfl hl (by decide) rfl (fun ls hl => ?_)
      obtain ⟨n_25, h⟩ := h
      exact hL_Mo_turning_25 n_25 0 0 h _ _ _ hw (lv_sub hl [2, 3, 1, 0] rfl)
    · have h := h.2 c_15
      refine lv_bipush (v := (-4)) hx hb dX10_turning_18 (by decide) ?_
      exact hret () h hw dX10_turning_20 rfl
  · have h := h.2 c_5
    refine lv_bipush (v := (-3)) hx hb dX10_turning_8 (by decide) ?_
    exact hret () h hw dX10_turning_10 rfl
def B_Mo_odds_53 (x1 : Int32) (x2 : Int32) (x3 : Int32) (x4 : Int32) (x5 : Int32) (t_points : Int32) (t_cases : Int32) (t_one : (Nat → Int32)) (t_weight : (Nat → Int32)) (Q : Int64 → Prop) : Prop := Q (-3)
def B_Mo_odds_265 (x1 : Int32) (x2 : Int32) (x3 : Int32) (x4 : Int32) (x5 : Int32) (t_points : Int32) (t_cases : Int32) (t_one : (Nat → Int32)) (t_weight : (Nat → Int32)) (Q : Int64 → Prop) (x10 : Int64) (k0 : Int64) : Prop := ¬ x10 = 0 ∧ (Q (k0 / x10))
def L_Mo_odds_228 (x1 : Int32) (x2 : Int32) (x3 : Int32) (x4 : Int32) (x5 : Int32) (t_points : Int32) (t_cases : Int32) (t_one : (Nat → Int32)) (t_weight : (Nat → Int32)) (Q : Int64 → Prop) : Nat → Int64 → Int64 → Int64 → Int64 → Prop
  | 0 => fun _ _ _ _ => False
  | n + 1 => fun x6 x8 x10 x12 => ((lg_cmp x12 0) = 0 → (¬ x5 = 0 → B_Mo_odds_265 x1 x2 x3 x4 x5 t_points t_cases t_one t_weight Q x10 x8) ∧ (x5 = 0 → B_Mo_odds_265 x1 x2 x3 x4 x5 t_points t_cases t_one t_weight Q x10 x6)) ∧ (¬ (lg_cmp x12 0) = 0 → ¬ x12 = 0 ∧ (∀ x14_1 : Int64, x14_1 = (x10 - x10 / x12 * x12) → (L_Mo_odds_228 x1 x2 x3 x4 x5 t_points t_cases t_one t_weight Q n) x6 x8 x12 x14_1))
def B_Mo_odds_214 (x1 : Int32) (x2 : Int32) (x3 : Int32) (x4 : Int32) (x5 : Int32) (t_points : Int32) (t_cases : Int32) (t_one : (Nat → Int32)) (t_weight : (Nat → Int32)) (Q : Int64 → Prop) (N_116 : Int64 → Int64 → Int32 → Prop) (x6 : Int64) (x8 : Int64) (x10 : Int32) : Prop := N_116 x6 x8 (x10 + 1)
def B_Mo_odds_198 (x1 : Int32) (x2 : Int32) (x3 : Int32) (x4 : Int32) (x5 : Int32) (t_points : Int32) (t_cases : Int32) (t_one : (Nat → Int32)) (t_weight : (Nat → Int32)) (Q : Int64 → Prop) (N_116 : Int64 → Int64 → Int32 → Prop) (N_153 : Int64 → Int64 → Int32 → Int64 → Int32 → Prop) (x6 : Int64) (x8 : Int64) (x10 : Int32) (x13 : Int32) (k0 : Int64) (k1 : Int64) : Prop := ∀ x11_2 : Int64, x11_2 = (k0 * k1) → N_153 x6 x8 x10 x11_2 (x13 + 1)
def L_Mo_odds_153 (x1 : Int32) (x2 : Int32) (x3 : Int32) (x4 : Int32) (x5 : Int32) (t_points : Int32) (t_cases : Int32) (t_one : (Nat → Int32)) (t_weight : (Nat → Int32)) (Q : Int64 → Prop) (N_116 : Int64 → Int64 → Int32 → Prop) : Nat → Int64 → Int64 → Int32 → Int64 → Int32 → Prop
  | 0 => fun _ _ _ _ _ => False
  | n + 1 => fun x6 x8 x10 x11 x13 => (t_points ≤ x13 → ∀ x6_3 : Int64, x6_3 = (x6 + x11) → B_Mo_odds_214 x1 x2 x3 x4 x5 t_points t_cases t_one t_weight Q N_116 x6_3 x8 x10) ∧ (¬ t_points ≤ x13 → P_Mo_has x2 x13 (fun r_4 => (¬ r_4 = 0 → P_Mo_has x10 x13 (fun r_5 => (r_5 = 0 → B_Mo_odds_198 x1 x2 x3 x4 x5 t_points t_cases t_one t_weight Q N_116 (L_Mo_odds_153 x1 x2 x3 x4 x5 t_points t_cases t_one t_weight Q N_116 n) x6 x8 x10 x13 x11 (10 - (x3.toInt64))) ∧ (¬ r_5 = 0 → B_Mo_odds_198 x1 x2 x3 x4 x5 t_points t_cases t_one t_weight Q N_116 (L_Mo_odds_153 x1 x2 x3 x4 x5 t_points t_cases t_one t_weight Q N_116 n) x6 x8 x10 x13 x11 (x3.toInt64)))) ∧ (r_4 = 0 → B_Mo_odds_198 x1 x2 x3 x4 x5 t_points t_cases t_one t_weight Q N_116 (L_Mo_odds_153 x1 x2 x3 x4 x5 t_points t_cases t_one t_weight Q N_116 n) x6 x8 x10 x13 x11 1)))
def L_Mo_odds_116 (x1 : Int32) (x2 : Int32) (x3 : Int32) (x4 : Int32) (x5 : Int32) (t_points : Int32) (t_cases : Int32) (t_one : (Nat → Int32)) (t_weight : (Nat → Int32)) (Q : Int64 → Prop) : Nat → Int64 → Int64 → Int32 → Prop
  | 0 => fun _ _ _ => False
  | n + 1 => fun x6 x8 x10 => P_Mo_deedMany t_points (fun r_6 => (r_6 ≤ x10 → ∃ n_228 : Nat, L_Mo_odds_228 x1 x2 x3 x4 x5 t_points t_cases t_one t_weight Q n_228 x6 x8 x6 x8) ∧ (¬ r_6 ≤ x10 → (¬ ((x10 ^^^ x1) &&& (x2 ^^^ (-1))) = 0 → B_Mo_odds_214 x1 x2 x3 x4 x5 t_points t_cases t_one t_weight Q (L_Mo_odds_116 x1 x2 x3 x4 x5 t_points t_cases t_one t_weight Q n) x6 x8 x10) ∧ (((x10 ^^^ x1) &&& (x2 ^^^ (-1))) = 0 → P_Mo_judgmentAt x10 t_points t_cases t_one t_weight (fun r_7 => (¬ r_7 = x4 → B_Mo_odds_214 x1 x2 x3 x4 x5 t_points t_cases t_one t_weight Q (L_Mo_odds_116 x1 x2 x3 x4 x5 t_points t_cases t_one t_weight Q n) x6 x8 x10) ∧ (r_7 = x4 → ∃ n_153 : Nat, L_Mo_odds_153 x1 x2 x3 x4 x5 t_points t_cases t_one t_weight Q (L_Mo_odds_116 x1 x2 x3 x4 x5 t_points t_cases t_one t_weight Q n) n_153 x6 x8 x10 1 0)))))
def B_Mo_odds_104 (x1 : Int32) (x2 : Int32) (x3 : Int32) (x4 : Int32) (x5 : Int32) (t_points : Int32) (t_cases : Int32) (t_one : (Nat → Int32)) (t_weight : (Nat → Int32)) (Q : Int64 → Prop) (N_77 : Int64 → Int64 → Int32 → Prop) (x6 : Int64) (x10 : Int32) (k0 : Int64) (k1 : Int64) : Prop := ∀ x8_8 : Int64, x8_8 = (k0 * k1) → N_77 x6 x8_8 (x10 + 1)
def L_Mo_odds_77 (x1 : Int32) (x2 : Int32) (x3 : Int32) (x4 : Int32) (x5 : Int32) (t_points : Int32) (t_cases : Int32) (t_one : (Nat → Int32)) (t_weight : (Nat → Int32)) (Q : Int64 → Prop) : Nat → Int64 → Int64 → Int32 → Prop
  | 0 => fun _ _ _ => False
  | n + 1 => fun x6 x8 x10 => (t_points ≤ x10 → ∃ n_116 : Nat, L_Mo_odds_116 x1 x2 x3 x4 x5 t_points t_cases t_one t_weight Q n_116 x6 x8 0) ∧ (¬ t_points ≤ x10 → P_Mo_has x2 x10 (fun r_9 => (r_9 = 0 → B_Mo_odds_104 x1 x2 x3 x4 x5 t_points t_cases t_one t_weight Q (L_Mo_odds_77 x1 x2 x3 x4 x5 t_points t_cases t_one t_weight Q n) x6 x10 x8 1) ∧ (¬ r_9 = 0 → B_Mo_odds_104 x1 x2 x3 x4 x5 t_points t_cases t_one t_weight Q (L_Mo_odds_77 x1 x2 x3 x4 x5 t_points t_cases t_one t_weight Q n) x6 x10 x8 10)))
def P_Mo_odds (x1 : Int32) (x2 : Int32) (x3 : Int32) (x4 : Int32) (x5 : Int32) (t_points : Int32) (t_cases : Int32) (t_one : (Nat → Int32)) (t_weight : (Nat → Int32)) (Q : Int64 → Prop) : Prop := P_Mo_isDeed x1 t_points (fun r_10 => (r_10 = 0 → B_Mo_odds_53 x1 x2 x3 x4 x5 t_points t_cases t_one t_weight Q) ∧ (¬ r_10 = 0 → P_Mo_isDeed x2 t_points (fun r_11 => (r_11 = 0 → B_Mo_odds_53 x1 x2 x3 x4 x5 t_points t_cases t_one t_weight Q) ∧ (¬ r_11 = 0 → P_Mo_bits x2 (fun r_12 => (8 < r_12 → B_Mo_odds_53 x1 x2 x3 x4 x5 t_points t_cases t_one t_weight Q) ∧ (¬ 8 < r_12 → P_Mo_in x3 0 10 (fun r_13 => (r_13 = 0 → B_Mo_odds_53 x1 x2 x3 x4 x5 t_points t_cases t_one t_weight Q) ∧ (¬ r_13 = 0 → P_Mo_isJudgment x4 (fun r_14 => (r_14 = 0 → B_Mo_odds_53 x1 x2 x3 x4 x5 t_points t_cases t_one t_weight Q) ∧ (¬ r_14 = 0 → P_Mo_in x5 0 1 (fun r_15 => (¬ r_15 = 0 → (¬ t_cases = 0 → ∃ n_77 : Nat, L_Mo_odds_77 x1 x2 x3 x4 x5 t_points t_cases t_one t_weight Q n_77 0 1 0) ∧ (t_cases = 0 → Q (-4))) ∧ (r_15 = 0 → B_Mo_odds_53 x1 x2 x3 x4 x5 t_points t_cases t_one t_weight Q))))))))))))
abbrev rm_Mo_odds : Room := { frames := 4, cells := 0, slots := 0, locals := 94 }
def cs_Mo_odds (g : GE) (a_t a_t_one a_t_weight a_t_cost a_t_text a_t_read a_t_likes a_t_judged a_t_met a_t_line a_t_image a_t_isKept a_t_had : Nat) (t_points : Int32) (t_cases : Int32) (t_bytes : Int32) (t_position : Int32) (t_tokenAt : Int32) (t_token : Int64) (t_digits : Int32) (t_number : Int32) (t_row : Int32) (t_isRow : Int32) (t_faultAt : Int32) (t_readMany : Int32) (t_readPoints : Int32) (t_readCases : Int32) (t_suitOne : Int32) (t_suitTwo : Int32) (t_one : (Nat → Int32)) (t_weight : (Nat → Int32)) : va_W := [oc a_t 10 [.int t_points, .ref a_t_weight, .ref a_t_cost, .int t_cases, .ref a_t_one, .int t_bytes, .ref a_t_text, .int t_position, .int t_tokenAt, .long t_token, .int t_digits, .int t_number, .int t_row, .int t_isRow, .int t_faultAt, .int t_readMany, .int t_readPoints, .int t_readCases, .ref a_t_read, .ref a_t_likes, .ref a_t_judged, .ref a_t_met, .ref a_t_line, .ref a_t_image, .ref a_t_isKept, .int t_suitOne, .int t_suitTwo, .ref a_t_had], ai g a_t_one 56 t_one, ai g a_t_weight 10 t_weight]
set_option maxHeartbeats 4000000 in
set_option maxRecDepth 100000 in
theorem c_Mo_odds (l : Launch) (g : GE) (a_t a_t_one a_t_weight a_t_cost a_t_text a_t_read a_t_likes a_t_judged a_t_met a_t_line a_t_image a_t_isKept a_t_had : Nat) (t_points : Int32) (t_cases : Int32) (t_bytes : Int32) (t_position : Int32) (t_tokenAt : Int32) (t_token : Int64) (t_digits : Int32) (t_number : Int32) (t_row : Int32) (t_isRow : Int32) (t_faultAt : Int32) (t_readMany : Int32) (t_readPoints : Int32) (t_readCases : Int32) (t_suitOne : Int32) (t_suitTwo : Int32) (t_one : (Nat → Int32)) (t_weight : (Nat → Int32)) (x1 : Int32) (x2 : Int32) (x3 : Int32) (x4 : Int32) (x5 : Int32) (Q : Int64 → Prop) (h : P_Mo_odds x1 x2 x3 x4 x5 t_points t_cases t_one t_weight Q) : Ctl l g yX10_odds cX10_odds 16 (some .long) rm_Mo_odds [.ref a_t, .int x1, .int x2, .int x3, .int x4, .int x5] (cs_Mo_odds g a_t a_t_one a_t_weight a_t_cost a_t_text a_t_read a_t_likes a_t_judged a_t_met a_t_line a_t_image a_t_isKept a_t_had t_points t_cases t_bytes t_position t_tokenAt t_token t_digits t_number t_row t_isRow t_faultAt t_readMany t_readPoints t_readCases t_suitOne t_suitTwo t_one t_weight) (S := Unit) (fun r u => Q r) (fun _ => (cs_Mo_odds g a_t a_t_one a_t_weight a_t_cost a_t_text a_t_read a_t_likes a_t_judged a_t_met a_t_line a_t_image a_t_isKept a_t_had t_points t_cases t_bytes t_position t_tokenAt t_token t_digits t_number t_row t_isRow t_faultAt t_readMany t_readPoints t_readCases t_suitOne t_suitTwo t_one t_weight)) := by
  refine meetL rfl (Nat.le_of_ble_eq_true rfl) ⟨rfl, rfl⟩ ?_
  intro p e s m args below meth c A Qf ls C hret hw hl
  have hx := C.1
  have hb := C.2.1
  have hown := C.2.2.2.1
  have hts := C.2.2.2.2.1
  have hE := C.2.2.2.2.2.1
  have hl : lv_has ls 16 [(0, .ref a_t), (1, .int x1), (2, .int x2), (3, .int x3), (4, .int x4), (5, .int x5)] := hl
  have hB_Mo_odds_53 : B_Mo_odds_53 x1 x2 x3 x4 x5 t_points t_cases t_one t_weight Q → Wat p l e rm_Mo_odds s m args below meth c A Qf g 16 (cs_Mo_odds g a_t a_t_one a_t_weight a_t_cost a_t_text a_t_read a_t_likes a_t_judged a_t_met a_t_line a_t_image a_t_isKept a_t_had t_points t_cases t_bytes t_position t_tokenAt t_token t_digits t_number t_row t_isRow t_faultAt t_readMany t_readPoints t_readCases t_suitOne t_suitTwo t_one t_weight) [] 53 [] := by
    intro  h H locs ls hw hl
    refine lv_ldc2 (v := (-3)) hx hb hown (hts _ tw_1028) dX10_odds_53 ?_
    exact hret () h hw dX10_odds_56
  have hB_Mo_odds_265 : ∀ (x10 : Int64) (k0 : Int64), B_Mo_odds_265 x1 x2 x3 x4 x5 t_points t_cases t_one t_weight Q x10 k0 → Wat p l e rm_Mo_odds s m args below meth c A Qf g 16 (cs_Mo_odds g a_t a_t_one a_t_weight a_t_cost a_t_text a_t_read a_t_likes a_t_judged a_t_met a_t_line a_t_image a_t_isKept a_t_had t_points t_cases t_bytes t_position t_tokenAt t_token t_digits t_number t_row t_isRow t_faultAt t_readMany t_readPoints t_readCases t_suitOne t_suitTwo t_one t_weight) [(10, .long x10)] 265 [.long k0] := by
    intro x10 k0 h H locs ls hw hl
    refine lv_lload hx hb dX10_odds_265 (lv_at hl 0 rfl) ?_
    refine lv_ldiv hx hb dX10_odds_267 h.1 ?_
    have h := h.2
    exact hret () h hw dX10_odds_268
  have hL_Mo_odds_228 : ∀ (n : Nat) (x6 : Int64) (x8 : Int64) (x10 : Int64) (x12 : Int64), L_Mo_odds_228 x1 x2 x3 x4 x5 t_points t_cases t_one t_weight Q n x6 x8 x10 x12 → Wat p l e rm_Mo_odds s m args below meth c A Qf g 16 (cs_Mo_odds g a_t a_t_one a_t_weight a_t_cost a_t_text a_t_read a_t_likes a_t_judged a_t_met a_t_line a_t_image a_t_isKept a_t_had t_points t_cases t_bytes t_position t_tokenAt t_token t_digits t_number t_row t_isRow t_faultAt t_readMany t_readPoints t_readCases t_suitOne t_suitTwo t_one t_weight) [(5, .int x5), (6, .long x6), (8, .long x8), (10, .long x10), (12, .long x12)] 228 [] := by
    intro n
    induction n with
    | zero => intro x6 x8 x10 x12 h; exact absurd h id
    | succ n ih =>
      intro x6 x8 x10 x12 h H locs ls hw hl
      rw [L_Mo_odds_228] at h
      refine lv_lload hx hb dX10_odds_228 (lv_at hl 4 rfl) ?_
      refine lv_lconst (v := 0) hx hb dX10_odds_230 (by decide) ?_
      refine W.lcmp hx hb dX10_odds_231 ?_
      refine lv_if_eq (tgt := 253) hx hb dX10_odds_232 (by decide) (fun c_232 => ?_) (fun c_232 => ?_)
      · have h := h.1 c_232
        refine lv_iload hx hb dX10_odds_253 (lv_at hl 0 rfl) ?_
        refine lv_if_ne (tgt := 263) hx hb dX10_odds_255 (by decide) (fun c_255 => ?_) (fun c_255 => ?_)
        · have h := h.1 c_255
          refine lv_lload hx hb dX10_odds_263 (lv_at hl 2 rfl) ?_
          exact hB_Mo_odds_265 x10 x8 h _ _ _ hw (lv_sub hl [3] rfl)
        · have h := h.2 c_255
          refine lv_lload hx hb dX10_odds_258 (lv_at hl 1 rfl) ?_
          refine lv_goto (tgt := 265) hx hb dX10_odds_260 (by decide) ?_
          exact hB_Mo_odds_265 x10 x6 h _ _ _ hw (lv_sub hl [3] rfl)
      · have h := h.2 c_232
        refine lv_lload hx hb dX10_odds_235 (lv_at hl 3 rfl) ?_
        refine lv_lload hx hb dX10_odds_237 (lv_at hl 4 rfl) ?_
        refine lv_lrem hx hb dX10_odds_239 h.1 ?_
        have h := h.2
        refine lv_topl (fun x14_1 ex14_1 => ?_)
        have h := h x14_1 ex14_1
        refine lv_lstore (lv' := [(14, .long x14_1), (5, .int x5), (6, .long x6), (8, .long x8), (10, .long x10), (12, .long x12)]) hx hb dX10_odds_240 hl (by decide) rfl (fun ls hl => ?_)
        refine lv_lload hx hb dX10_odds_242 (lv_at hl 5 rfl) ?_
        refine lv_lstore (lv' := [(10, .long x12), (14, .long x14_1), (5, .int x5), (6, .long x6), (8, .long x8), (12, .long x12)]) hx hb dX10_odds_244 hl (by decide) rfl (fun ls hl => ?_)
        refine lv_lload hx hb dX10_odds_246 (lv_at hl 1 rfl) ?_
        refine lv_lstore (lv' := [(12, .long x14_1), (10, .long x12), (14, .long x14_1), (5, .int x5), (6, .long x6), (8, .long x8)]) hx hb dX10_odds_248 hl (by decide) rfl (fun ls hl => ?_)
        refine lv_goto (tgt := 228) hx hb dX10_odds_250 (by decide) ?_
        exact ih x6 x8 x12 x14_1 h _ _ _ hw (lv_sub hl [3, 4, 5, 1, 0] rfl)
  have hB_Mo_odds_214 : ∀ (N_116 : Int64 → Int64 → Int32 → Prop) (hN_116 : ∀ (x6 : Int64) (x8 : Int64) (x10 : Int32), N_116 x6 x8 x10 → Wat p l e rm_Mo_odds s m args below meth c A Qf g 16 (cs_Mo_odds g a_t a_t_one a_t_weight a_t_cost a_t_text a_t_read a_t_likes a_t_judged a_t_met a_t_line a_t_image a_t_isKept a_t_had t_points t_cases t_bytes t_position t_tokenAt t_token t_digits t_number t_row t_isRow t_faultAt t_readMany t_readPoints t_readCases t_suitOne t_suitTwo t_one t_weight) [(0, .ref a_t), (1, .int x1), (2, .int x2), (3, .int x3), (4, .int x4), (5, .int x5), (6, .long x6), (8, .long x8), (10, .int x10)] 116 []) (x6 : Int64) (x8 : Int64) (x10 : Int32), B_Mo_odds_214 x1 x2 x3 x4 x5 t_points t_cases t_one t_weight Q N_116 x6 x8 x10 → Wat p l e rm_Mo_odds s m args below meth c A Qf g 16 (cs_Mo_odds g a_t a_t_one a_t_weight a_t_cost a_t_text a_t_read a_t_likes a_t_judged a_t_met a_t_line a_t_image a_t_isKept a_t_had t_points t_cases t_bytes t_position t_tokenAt t_token t_digits t_number t_row t_isRow t_faultAt t_readMany t_readPoints t_readCases t_suitOne t_suitTwo t_one t_weight) [(0, .ref a_t), (1, .int x1), (2, .int x2), (3, .int x3), (4, .int x4), (5, .int x5), (6, .long x6), (8, .long x8), (10, .int x10)] 214 [] := by
    intro N_116 hN_116 x6 x8 x10 h H locs ls hw hl
    refine lv_iinc (v := x10 + 1) (lv' := [(10, .int (x10 + 1)), (0, .ref a_t), (1, .int x1), (2, .int x2), (3, .int x3), (4, .int x4), (5, .int x5), (6, .long x6), (8, .long x8)]) hx hb dX10_odds_214 hl (k := 8) rfl rfl (by decide) rfl (fun ls hl => ?_)
    refine lv_goto (tgt := 116) hx hb dX10_odds_217 (by decide) ?_
    exact hN_116 x6 x8 (x10 + 1) h _ _ _ hw (lv_sub hl [1, 2, 3, 4, 5, 6, 7, 8, 0] rfl)
  have hB_Mo_odds_198 : ∀ (N_116 : Int64 → Int64 → Int32 → Prop) (hN_116 : ∀ (x6 : Int64) (x8 : Int64) (x10 : Int32), N_116 x6 x8 x10 → Wat p l e rm_Mo_odds s m args below meth c A Qf g 16 (cs_Mo_odds g a_t a_t_one a_t_weight a_t_cost a_t_text a_t_read a_t_likes a_t_judged a_t_met a_t_line a_t_image a_t_isKept a_t_had t_points t_cases t_bytes t_position t_tokenAt t_token t_digits t_number t_row t_isRow t_faultAt t_readMany t_readPoints t_readCases t_suitOne t_suitTwo t_one t_weight) [(0, .ref a_t), (1, .int x1), (2, .int x2), (3, .int x3), (4, .int x4), (5, .int x5), (6, .long x6), (8, .long x8), (10, .int x10)] 116 []) (N_153 : Int64 → Int64 → Int32 → Int64 → Int32 → Prop) (hN_153 : ∀ (x6 : Int64) (x8 : Int64) (x10 : Int32) (x11 : Int64) (x13 : Int32), N_153 x6 x8 x10 x11 x13 → Wat p l e rm_Mo_odds s m args below meth c A Qf g 16 (cs_Mo_odds g a_t a_t_one a_t_weight a_t_cost a_t_text a_t_read a_t_likes a_t_judged a_t_met a_t_line a_t_image a_t_isKept a_t_had t_points t_cases t_bytes t_position t_tokenAt t_token t_digits t_number t_row t_isRow t_faultAt t_readMany t_readPoints t_readCases t_suitOne t_suitTwo t_one t_weight) [(0, .ref a_t), (1, .int x1), (2, .int x2), (3, .int x3), (4, .int x4), (5, .int x5), (6, .long x6), (8, .long x8), (10, .int x10), (11, .long x11), (13, .int x13)] 153 []) (x6 : Int64) (x8 : Int64) (x10 : Int32) (x13 : Int32) (k0 : Int64) (k1 : Int64), B_Mo_odds_198 x1 x2 x3 x4 x5 t_points t_cases t_one t_weight Q N_116 N_153 x6 x8 x10 x13 k0 k1 → Wat p l e rm_Mo_odds s m args below meth c A Qf g 16 (cs_Mo_odds g a_t a_t_one a_t_weight a_t_cost a_t_text a_t_read a_t_likes a_t_judged a_t_met a_t_line a_t_image a_t_isKept a_t_had t_points t_cases t_bytes t_position t_tokenAt t_token t_digits t_number t_row t_isRow t_faultAt t_readMany t_readPoints t_readCases t_suitOne t_suitTwo t_one t_weight) [(0, .ref a_t), (1, .int x1), (2, .int x2), (3, .int x3), (4, .int x4), (5, .int x5), (6, .long x6), (8, .long x8), (10, .int x10), (13, .int x13)] 198 [.long k1, .long k0] := by
    intro N_116 hN_116 N_153 hN_153 x6 x8 x10 x13 k0 k1 h H locs ls hw hl
    refine lv_lmul hx hb dX10_odds_198 ?_
    refine lv_topl (fun x11_2 ex11_2 => ?_)
    have h := h x11_2 ex11_2
    refine lv_lstore (lv' := [(11, .long x11_2), (0, .ref a_t), (1, .int x1), (2, .int x2), (3, .int x3), (4, .int x4), (5, .int x5), (6, .long x6), (8, .long x8), (10, .int x10), (13, .int x13)]) hx hb dX10_odds_199 hl (by decide) rfl (fun ls hl => ?_)
    refine lv_iinc (v := x13 + 1) (lv' := [(13, .int (x13 + 1)), (11, .long x11_2), (0, .ref a_t), (1, .int x1), (2, .int x2), (3, .int x3), (4, .int x4), (5, .int x5), (6, .long x6), (8, .long x8), (10, .int x10)]) hx hb dX10_odds_201 hl (k := 10) rfl rfl (by decide) rfl (fun ls hl => ?_)
    refine lv_goto (tgt := 153) hx hb dX10_odds_204 (by decide) ?_
    exact hN_153 x6 x8 x10 x11_2 (x13 + 1) h _ _ _ hw (lv_sub hl [2, 3, 4, 5, 6, 7, 8, 9, 10, 1, 0] rfl)
  have hL_Mo_odds_153 : ∀ (N_116 : Int64 → Int64 → Int32 → Prop) (hN_116 : ∀ (x6 : Int64) (x8 : Int64) (x10 : Int32), N_116 x6 x8 x10 → Wat p l e rm_Mo_odds s m args below meth c A Qf g 16 (cs_Mo_odds g a_t a_t_one a_t_weight a_t_cost a_t_text a_t_read a_t_likes a_t_judged a_t_met a_t_line a_t_image a_t_isKept a_t_had t_points t_cases t_bytes t_position t_tokenAt t_token t_digits t_number t_row t_isRow t_faultAt t_readMany t_readPoints t_readCases t_suitOne t_suitTwo t_one t_weight) [(0, .ref a_t), (1, .int x1), (2, .int x2), (3, .int x3), (4, .int x4), (5, .int x5), (6, .long x6), (8, .long x8), (10, .int x10)] 116 []) (n : Nat) (x6 : Int64) (x8 : Int64) (x10 : Int32) (x11 : Int64) (x13 : Int32), L_Mo_odds_153 x1 x2 x3 x4 x5 t_points t_cases t_one t_weight Q N_116 n x6 x8 x10 x11 x13 → Wat p l e rm_Mo_odds s m args below meth c A Qf g 16 (cs_Mo_odds g a_t a_t_one a_t_weight a_t_cost a_t_text a_t_read a_t_likes a_t_judged a_t_met a_t_line a_t_image a_t_isKept a_t_had t_points t_cases t_bytes t_position t_tokenAt t_token t_digits t_number t_row t_isRow t_faultAt t_readMany t_readPoints t_readCases t_suitOne t_suitTwo t_one t_weight) [(0, .ref a_t), (1, .int x1), (2, .int x2), (3, .int x3), (4, .int x4), (5, .int x5), (6, .long x6), (8, .long x8), (10, .int x10), (11, .long x11), (13, .int x13)] 153 [] := by
    intro N_116 hN_116 n
    induction n with
    | zero => intro x6 x8 x10 x11 x13 h; exact absurd h id
    | succ n ih =>
      intro x6 x8 x10 x11 x13 h H locs ls hw hl
      rw [L_Mo_odds_153] at h
      refine lv_iload hx hb dX10_odds_153 (lv_at hl 10 rfl) ?_
      refine lv_aload_n hx hb dX10_odds_155 rfl (lv_at hl 0 rfl) ?_
      refine G_RX10_7 C hw 0 rfl dX10_odds_156 ?_
      refine lv_icmp_ge (tgt := 207) hx hb dX10_odds_159 (by decide) (fun c_159 => ?_) (fun c_159 => ?_)
      · have h := h.1 c_159
        refine lv_lload hx hb dX10_odds_207 (lv_at hl 6 rfl) ?_
        refine lv_lload hx hb dX10_odds_209 (lv_at hl 9 rfl) ?_
        refine lv_ladd hx hb dX10_odds_211 ?_
        refine lv_topl (fun x6_3 ex6_3 => ?_)
        have h := h x6_3 ex6_3
        refine lv_lstore (lv' := [(6, .long x6_3), (0, .ref a_t), (1, .int x1), (2, .int x2), (3, .int x3), (4, .int x4), (5, .int x5), (8, .long x8), (10, .int x10), (11, .long x11), (13, .int x13)]) hx hb dX10_odds_212 hl (by decide) rfl (fun ls hl => ?_)
        exact hB_Mo_odds_214 N_116 hN_116 x6_3 x8 x10 h _ _ _ hw (lv_sub hl [1, 2, 3, 4, 5, 6, 0, 7, 8] rfl)
      · have h := h.2 c_159
        refine lv_lload hx hb dX10_odds_162 (lv_at hl 9 rfl) ?_
        refine lv_iload_n hx hb dX10_odds_164 rfl (lv_at hl 2 rfl) ?_
        refine lv_iload hx hb dX10_odds_165 (lv_at hl 10 rfl) ?_
        refine callSi (As := [.int x2, .int x13]) (rest := [.long x11]) C hw hl (c_Mo_has l g x2 x13 _ h) tw_1111 kk_X10_has rfl ⟨rfl, rfl⟩ ⟨by decide, by decide⟩ (Nat.le_of_ble_eq_true rfl) rfl dX10_odds_167 (fun r_4 u H locs h hw => ?_)
        refine lv_if_ne (tgt := 177) hx hb dX10_odds_170 (by decide) (fun c_170 => ?_) (fun c_170 => ?_)
        · have h := h.1 c_170
          refine lv_iload hx hb dX10_odds_177 (lv_at hl 8 rfl) ?_
          refine lv_iload hx hb dX10_odds_179 (lv_at hl 10 rfl) ?_
          refine callSi (As := [.int x10, .int x13]) (rest := [.long x11]) C hw hl (c_Mo_has l g x10 x13 _ h) tw_1111 kk_X10_has rfl ⟨rfl, rfl⟩ ⟨by decide, by decide⟩ (Nat.le_of_ble_eq_true rfl) rfl dX10_odds_181 (fun r_5 u H locs h hw => ?_)
          refine lv_if_eq (tgt := 192) hx hb dX10_odds_184 (by decide) (fun c_184 => ?_) (fun c_184 => ?_)
          · have h := h.1 c_184
            refine lv_ldc2 (v := 10) hx hb hown (hts _ tw_1192) dX10_odds_192 ?_
            refine lv_iload_n hx hb dX10_odds_195 rfl (lv_at hl 3 rfl) ?_
            refine lv_i2l hx hb dX10_odds_196 rfl ?_
            refine lv_lsub hx hb dX10_odds_197 ?_
            exact hB_Mo_odds_198 N_116 hN_116 (L_Mo_odds_153 x1 x2 x3 x4 x5 t_points t_cases t_one t_weight Q N_116 n) ih x6 x8 x10 x13 x11 (10 - (x3.toInt64)) h _ _ _ hw (lv_sub hl [0, 1, 2, 3, 4, 5, 6, 7, 8, 10] rfl)
          · have h := h.2 c_184
            refine lv_iload_n hx hb dX10_odds_187 rfl (lv_at hl 3 rfl) ?_
            refine lv_i2l hx hb dX10_odds_188 rfl ?_
            refine lv_goto (tgt := 198) hx hb dX10_odds_189 (by decide) ?_
            exact hB_Mo_odds_198 N_116 hN_116 (L_Mo_odds_153 x1 x2 x3 x4 x5 t_points t_cases t_one t_weight Q N_116 n) ih x6 x8 x10 x13 x11 (x3.toInt64) h _ _ _ hw (lv_sub hl [0, 1, 2, 3, 4, 5, 6, 7, 8, 10] rfl)
        · have h := h.2 c_170
          refine lv_lconst (v := 1) hx hb dX10_odds_173 (by decide) ?_
          refine lv_goto (tgt := 198) hx hb dX10_odds_174 (by decide) ?_
          exact hB_Mo_odds_198 N_116 hN_116 (L_Mo_odds_153 x1 x2 x3 x4 x5 t_points t_cases t_one t_weight Q N_116 n) ih x6 x8 x10 x13 x11 1 h _ _ _ hw (lv_sub hl [0, 1, 2, 3, 4, 5, 6, 7, 8, 10] rfl)
  have hL_Mo_odds_116 : ∀ (n : Nat) (x6 : Int64) (x8 : Int64) (x10 : Int32), L_Mo_odds_116 x1 x2 x3 x4 x5 t_points t_cases t_one t_weight Q n x6 x8 x10 → Wat p l e rm_Mo_odds s m args below meth c A Qf g 16 (cs_Mo_odds g a_t a_t_one a_t_weight a_t_cost a_t_text a_t_read a_t_likes a_t_judged a_t_met a_t_line a_t_image a_t_isKept a_t_had t_points t_cases t_bytes t_position t_tokenAt t_token t_digits t_number t_row t_isRow t_faultAt t_readMany t_readPoints t_readCases t_suitOne t_suitTwo t_one t_weight) [(0, .ref a_t), (1, .int x1), (2, .int x2), (3, .int x3), (4, .int x4), (5, .int x5), (6, .long x6), (8, .long x8), (10, .int x10)] 116 [] := by
    intro n
    induction n with
    | zero => intro x6 x8 x10 h; exact absurd h id
    | succ n ih =>
      intro x6 x8 x10 h H locs ls hw hl
      rw [L_Mo_odds_116] at h
      refine lv_iload hx hb dX10_odds_116 (lv_at hl 8 rfl) ?_
      refine lv_aload_n hx hb dX10_odds_118 rfl (lv_at hl 0 rfl) ?_
      refine callVi (As := []) (rest := [.int x10]) (W2 := fun _ => (cs_Mo_odds g a_t a_t_one a_t_weight a_t_cost a_t_text a_t_read a_t_likes a_t_judged a_t_met a_t_line a_t_image a_t_isKept a_t_had t_points t_cases t_bytes t_position t_tokenAt t_token t_digits t_number t_row t_isRow t_faultAt t_readMany t_readPoints t_readCases t_suitOne t_suitTwo t_one t_weight)) C hw hl (c_Mo_deedMany l g a_t a_t_weight a_t_cost a_t_one a_t_text a_t_read a_t_likes a_t_judged a_t_met a_t_line a_t_image a_t_isKept a_t_had t_points t_cases t_bytes t_position t_tokenAt t_token t_digits t_number t_row t_isRow t_faultAt t_readMany t_readPoints t_readCases t_suitOne t_suitTwo _ h) tw_1099 kk_X10_deedMany rfl ⟨rfl, rfl⟩ ⟨by decide, by decide⟩ (Nat.le_of_ble_eq_true rfl) 0 rfl rfl rfl [0] [1, 2] [2, 0, 1] rfl rfl rfl rfl rfl rfl (fun u => rfl) rfl dX10_odds_119 (fun r_6 u H locs h hw => ?_)
      refine lv_icmp_ge (tgt := 220) hx hb dX10_odds_122 (by decide) (fun c_122 => ?_) (fun c_122 => ?_)
      · have h := h.1 c_122
        refine lv_lload hx hb dX10_odds_220 (lv_at hl 6 rfl) ?_
        refine lv_lstore (lv' := [(10, .long x6), (0, .ref a_t), (1, .int x1), (2, .int x2), (3, .int x3), (4, .int x4), (5, .int x5), (6, .long x6), (8, .long x8)]) hx hb dX10_odds_222 hl (by decide) rfl (fun ls hl => ?_)
        refine lv_lload hx hb dX10_odds_224 (lv_at hl 8 rfl) ?_
        refine lv_lstore (lv' := [(12, .long x8), (10, .long x6), (0, .ref a_t), (1, .int x1), (2, .int x2), (3, .int x3), (4, .int x4), (5, .int x5), (6, .long x6), (8, .long x8)]) hx hb dX10_odds_226 hl (by decide) rfl (fun ls hl => ?_)
        obtain ⟨n_228, h⟩ := h
        exact hL_Mo_odds_228 n_228 x6 x8 x6 x8 h _ _ _ hw (lv_sub hl [7, 8, 9, 1, 0] rfl)
      · have h := h.2 c_122
        refine lv_iload hx hb dX10_odds_125 (lv_at hl 8 rfl) ?_
        refine lv_iload_n hx hb dX10_odds_127 rfl (lv_at hl 1 rfl) ?_
        refine lv_ixor hx hb dX10_odds_128 ?_
        refine lv_iload_n hx hb dX10_odds_129 rfl (lv_at hl 2 rfl) ?_
        refine lv_iconst (v := (-1)) hx hb dX10_odds_130 (by decide) ?_
        refine lv_ixor hx hb dX10_odds_131 ?_
        refine lv_iand hx hb dX10_odds_132 ?_
        refine lv_if_ne (tgt := 214) hx hb dX10_odds_133 (by decide) (fun c_133 => ?_) (fun c_133 => ?_)
        · have h := h.1 c_133
          exact hB_Mo_odds_214 (L_Mo_odds_116 x1 x2 x3 x4 x5 t_points t_cases t_one t_weight Q n) ih x6 x8 x10 h _ _ _ hw (lv_sub hl [0, 1, 2, 3, 4, 5, 6, 7, 8] rfl)
        · have h := h.2 c_133
          refine lv_aload_n hx hb dX10_odds_136 rfl (lv_at hl 0 rfl) ?_
          refine lv_iload hx hb dX10_odds_137 (lv_at hl 8 rfl) ?_
          refine callVi (As := [.int x10]) (rest := []) (W2 := fun _ => (cs_Mo_odds g a_t a_t_one a_t_weight a_t_cost a_t_text a_t_read a_t_likes a_t_judged a_t_met a_t_line a_t_image a_t_isKept a_t_had t_points t_cases t_bytes t_position t_tokenAt t_token t_digits t_number t_row t_isRow t_faultAt t_readMany t_readPoints t_readCases t_suitOne t_suitTwo t_one t_weight)) C hw hl (c_Mo_judgmentAt l g a_t a_t_one a_t_weight a_t_cost a_t_text a_t_read a_t_likes a_t_judged a_t_met a_t_line a_t_image a_t_isKept a_t_had t_points t_cases t_bytes t_position t_tokenAt t_token t_digits t_number t_row t_isRow t_faultAt t_readMany t_readPoints t_readCases t_suitOne t_suitTwo t_one t_weight x10 _ h) tw_1126 kk_X10_judgmentAt rfl ⟨rfl, rfl⟩ ⟨by decide, by decide⟩ (Nat.le_of_ble_eq_true rfl) 0 rfl rfl rfl [0, 1, 2] [] [0, 1, 2] rfl rfl rfl rfl rfl rfl (fun u => rfl) rfl dX10_odds_139 (fun r_7 u H locs h hw => ?_)
          refine lv_iload hx hb dX10_odds_142 (lv_at hl 4 rfl) ?_
          refine lv_icmp_ne (tgt := 214) hx hb dX10_odds_144 (by decide) (fun c_144 => ?_) (fun c_144 => ?_)
          · have h := h.1 c_144
            exact hB_Mo_odds_214 (L_Mo_odds_116 x1 x2 x3 x4 x5 t_points t_cases t_one t_weight Q n) ih x6 x8 x10 h _ _ _ hw (lv_sub hl [0, 1, 2, 3, 4, 5, 6, 7, 8] rfl)
          · have h := h.2 c_144
            refine lv_lconst (v := 1) hx hb dX10_odds_147 (by decide) ?_
            refine lv_lstore (lv' := [(11, .long 1), (0, .ref a_t), (1, .int x1), (2, .int x2), (3, .int x3), (4, .int x4), (5, .int x5), (6, .long x6), (8, .long x8), (10, .int x10)]) hx hb dX10_odds_148 hl (by decide) rfl (fun ls hl => ?_)
            refine lv_iconst (v := 0) hx hb dX10_odds_150 (by decide) ?_
            refine lv_istore (lv' := [(13, .int 0), (11, .long 1), (0, .ref a_t), (1, .int x1), (2, .int x2), (3, .int x3), (4, .int x4), (5, .int x5), (6, .long x6), (8, .long x8), (10, .int x10)]) hx hb dX10_odds_151 hl (by decide) rfl (fun ls hl => ?_)
            obtain ⟨n_153, h⟩ := h
            exact hL_Mo_odds_153 (L_Mo_odds_116 x1 x2 x3 x4 x5 t_points t_cases t_one t_weight Q n) ih n_153 x6 x8 x10 1 0 h _ _ _ hw (lv_sub hl [2, 3, 4, 5, 6, 7, 8, 9, 10, 1, 0] rfl)
  have hB_Mo_odds_104 : ∀ (N_77 : Int64 → Int64 → Int32 → Prop) (hN_77 : ∀ (x6 : Int64) (x8 : Int64) (x10 : Int32), N_77 x6 x8 x10 → Wat p l e rm_Mo_odds s m args below meth c A Qf g 16 (cs_Mo_odds g a_t a_t_one a_t_weight a_t_cost a_t_text a_t_read a_t_likes a_t_judged a_t_met a_t_line a_t_image a_t_isKept a_t_had t_points t_cases t_bytes t_position t_tokenAt t_token t_digits t_number t_row t_isRow t_faultAt t_readMany t_readPoints t_readCases t_suitOne t_suitTwo t_one t_weight) [(0, .ref a_t), (1, .int x1), (2, .int x2), (3, .int x3), (4, .int x4), (5, .int x5), (6, .long x6), (8, .long x8), (10, .int x10)] 77 []) (x6 : Int64) (x10 : Int32) (k0 : Int64) (k1 : Int64), B_Mo_odds_104 x1 x2 x3 x4 x5 t_points t_cases t_one t_weight Q N_77 x6 x10 k0 k1 → Wat p l e rm_Mo_odds s m args below meth c A Qf g 16 (cs_Mo_odds g a_t a_t_one a_t_weight a_t_cost a_t_text a_t_read a_t_likes a_t_judged a_t_met a_t_line a_t_image a_t_isKept a_t_had t_points t_cases t_bytes t_position t_tokenAt t_token t_digits t_number t_row t_isRow t_faultAt t_readMany t_readPoints t_readCases t_suitOne t_suitTwo t_one t_weight) [(0, .ref a_t), (1, .int x1), (2, .int x2), (3, .int x3), (4, .int x4), (5, .int x5), (6, .long x6), (10, .int x10)] 104 [.long k1, .long k0] := by
    intro N_77 hN_77 x6 x10 k0 k1 h H locs ls hw hl
    refine lv_lmul hx hb dX10_odds_104 ?_
    refine lv_topl (fun x8_8 ex8_8 => ?_)
    have h := h x8_8 ex8_8
    refine lv_lstore (lv' := [(8, .long x8_8), (0, .ref a_t), (1, .int x1), (2, .int x2), (3, .int x3), (4, .int x4), (5, .int x5), (6, .long x6), (10, .int x10)]) hx hb dX10_odds_105 hl (by decide) rfl (fun ls hl => ?_)
    refine lv_iinc (v := x10 + 1) (lv' := [(10, .int (x10 + 1)), (8, .long x8_8), (0, .ref a_t), (1, .int x1), (2, .int x2), (3, .int x3), (4, .int x4), (5, .int x5), (6, .long x6)]) hx hb dX10_odds_107 hl (k := 8) rfl rfl (by decide) rfl (fun ls hl => ?_)
    refine lv_goto (tgt := 77) hx hb dX10_odds_110 (by decide) ?_
    exact hN_77 x6 x8_8 (x10 + 1) h _ _ _ hw (lv_sub hl [2, 3, 4, 5, 6, 7, 8, 1, 0] rfl)
  have hL_Mo_odds_77 : ∀ (n : Nat) (x6 : Int64) (x8 : Int64) (x10 : Int32), L_Mo_odds_77 x1 x2 x3 x4 x5 t_points t_cases t_one t_weight Q n x6 x8 x10 → Wat p l e rm_Mo_odds s m args below meth c A Qf g 16 (cs_Mo_odds g a_t a_t_one a_t_weight a_t_cost a_t_text a_t_read a_t_likes a_t_judged a_t_met a_t_line a_t_image a_t_isKept a_t_had t_points t_cases t_bytes t_position t_tokenAt t_token t_digits t_number t_row t_isRow t_faultAt t_readMany t_readPoints t_readCases t_suitOne t_suitTwo t_one t_weight) [(0, .ref a_t), (1, .int x1), (2, .int x2), (3, .int x3), (4, .int x4), (5, .int x5), (6, .long x6), (8, .long x8), (10, .int x10)] 77 [] := by
    intro n
    induction n with
    | zero => intro x6 x8 x10 h; exact absurd h id
    | succ n ih =>
      intro x6 x8 x10 h H locs ls hw hl
      rw [L_Mo_odds_77] at h
      refine lv_iload hx hb dX10_odds_77 (lv_at hl 8 rfl) ?_
      refine lv_aload_n hx hb dX10_odds_79 rfl (lv_at hl 0 rfl) ?_
      refine G_RX10_7 C hw 0 rfl dX10_odds_80 ?_
      refine lv_icmp_ge (tgt := 113) hx hb dX10_odds_83 (by decide) (fun c_83 => ?_) (fun c_83 => ?_)
      · have h := h.1 c_83
        refine lv_iconst (v := 0) hx hb dX10_odds_113 (by decide) ?_
        refine lv_istore (lv' := [(10, .int 0), (0, .ref a_t), (1, .int x1), (2, .int x2), (3, .int x3), (4, .int x4), (5, .int x5), (6, .long x6), (8, .long x8)]) hx hb dX10_odds_114 hl (by decide) rfl (fun ls hl => ?_)
        obtain ⟨n_116, h⟩ := h
        exact hL_Mo_odds_116 n_116 x6 x8 0 h _ _ _ hw (lv_sub hl [1, 2, 3, 4, 5, 6, 7, 8, 0] rfl)
      · have h := h.2 c_83
        refine lv_lload hx hb dX10_odds_86 (lv_at hl 7 rfl) ?_
        refine lv_iload_n hx hb dX10_odds_88 rfl (lv_at hl 2 rfl) ?_
        refine lv_iload hx hb dX10_odds_89 (lv_at hl 8 rfl) ?_
        refine callSi (As := [.int x2, .int x10]) (rest := [.long x8]) C hw hl (c_Mo_has l g x2 x10 _ h) tw_1111 kk_X10_has rfl ⟨rfl, rfl⟩ ⟨by decide, by decide⟩ (Nat.le_of_ble_eq_true rfl) rfl dX10_odds_91 (fun r_9 u H locs h hw => ?_)
        refine lv_if_eq (tgt := 103) hx hb dX10_odds_94 (by decide) (fun c_94 => ?_) (fun c_94 => ?_)
        · have h := h.1 c_94
          refine lv_lconst (v := 1) hx hb dX10_odds_103 (by decide) ?_
          exact hB_Mo_odds_104 (L_Mo_odds_77 x1 x2 x3 x4 x5 t_points t_cases t_one t_weight Q n) ih x6 x10 x8 1 h _ _ _ hw (lv_sub hl [0, 1, 2, 3, 4, 5, 6, 8] rfl)
        · have h := h.2 c_94
          refine lv_ldc2 (v := 10) hx hb hown (hts _ tw_1192) dX10_odds_97 ?_
          refine lv_goto (tgt := 104) hx hb dX10_odds_100 (by decide) ?_
          exact hB_Mo_odds_104 (L_Mo_odds_77 x1 x2 x3 x4 x5 t_points t_cases t_one t_weight Q n) ih x6 x10 x8 10 h _ _ _ hw (lv_sub hl [0, 1, 2, 3, 4, 5, 6, 8] rfl)
  refine lv_aload_n hx hb dX10_odds_0 rfl (lv_at hl 0 rfl) ?_
  refine lv_iload_n hx hb dX10_odds_1 rfl (lv_at hl 1 rfl) ?_
  refine callVi (As := [.int x1]) (rest := []) (W2 := fun _ => (cs_Mo_odds g a_t a_t_one a_t_weight a_t_cost a_t_text a_t_read a_t_likes a_t_judged a_t_met a_t_line a_t_image a_t_isKept a_t_had t_points t_cases t_bytes t_position t_tokenAt t_token t_digits t_number t_row t_isRow t_faultAt t_readMany t_readPoints t_readCases t_suitOne t_suitTwo t_one t_weight)) C hw hl (c_Mo_isDeed l g a_t a_t_weight a_t_cost a_t_one a_t_text a_t_read a_t_likes a_t_judged a_t_met a_t_line a_t_image a_t_isKept a_t_had t_points t_cases t_bytes t_position t_tokenAt t_token t_digits t_number t_row t_isRow t_faultAt t_readMany t_readPoints t_readCases t_suitOne t_suitTwo x1 _ h) tw_1095 kk_X10_isDeed rfl ⟨rfl, rfl⟩ ⟨by decide, by decide⟩ (Nat.le_of_ble_eq_true rfl) 0 rfl rfl rfl [0] [1, 2] [2, 0, 1] rfl rfl rfl rfl rfl rfl (fun u => rfl) rfl dX10_odds_2 (fun r_10 u H locs h hw => ?_)
  refine lv_if_eq (tgt := 53) hx hb dX10_odds_5 (by decide) (fun c_5 => ?_) (fun c_5 => ?_)
  · have h := h.1 c_5
    exact hB_Mo_odds_53  h _ _ _ hw (lv_sub hl [] rfl)
  · have h := h.2 c_5
    refine lv_aload_n hx hb dX10_odds_8 rfl (lv_at hl 0 rfl) ?_
    refine lv_iload_n hx hb dX10_odds_9 rfl (lv_at hl 2 rfl) ?_
    refine callVi (As := [.int x2]) (rest := []) (W2 := fun _ => (cs_Mo_odds g a_t a_t_one a_t_weight a_t_cost a_t_text a_t_read a_t_likes a_t_judged a_t_met a_t_line a_t_image a_t_isKept a_t_had t_points t_cases t_bytes t_position t_tokenAt t_token t_digits t_number t_row t_isRow t_faultAt t_readMany t_readPoints t_readCases t_suitOne t_suitTwo t_one t_weight)) C hw hl (c_Mo_isDeed l g a_t a_t_weight a_t_cost a_t_one a_t_text a_t_read a_t_likes a_t_judged a_t_met a_t_line a_t_image a_t_isKept a_t_had t_points t_cases t_bytes t_position t_tokenAt t_token t_digits t_number t_row t_isRow t_faultAt t_readMany t_readPoints t_readCases t_suitOne t_suitTwo x2 _ h) tw_1095 kk_X10_isDeed rfl ⟨rfl, rfl⟩ ⟨by decide, by decide⟩ (Nat.le_of_ble_eq_true rfl) 0 rfl rfl rfl [0] [1, 2] [2, 0, 1] rfl rfl rfl rfl rfl rfl (fun u => rfl) rfl dX10_odds_10 (fun r_11 u H locs h hw => ?_)
    refine lv_if_eq (tgt := 53) hx hb dX10_odds_13 (by decide) (fun c_13 => ?_) (fun c_13 => ?_)
    · have h := h.1 c_13
      exact hB_Mo_odds_53  h _ _ _ hw (lv_sub hl [] rfl)
    · have h := h.2 c_13
      refine lv_iload_n hx hb dX10_odds_16 rfl (lv_at hl 2 rfl) ?_
      refine callSi (As := [.int x2]) (rest := []) C hw hl (c_Mo_bits l g x2 _ h) tw_1177 kk_X10_bits rfl ⟨rfl, rfl⟩ ⟨by decide, by decide⟩ (Nat.le_of_ble_eq_true rfl) rfl dX10_odds_17 (fun r_12 u H locs h hw => ?_)
      refine lv_bipush (v := 8) hx hb dX10_odds_20 (by decide) ?_
      refine lv_icmp_gt (tgt := 53) hx hb dX10_odds_22 (by decide) (fun c_22 => ?_) (fun c_22 => ?_)
      · have h := h.1 c_22
        exact hB_Mo_odds_53  h _ _ _ hw (lv_sub hl [] rfl)
      · have h := h.2 c_22
        refine lv_iload_n hx hb dX10_odds_25 rfl (lv_at hl 3 rfl) ?_
        refine lv_iconst (v := 0) hx hb dX10_odds_26 (by decide) ?_
        refine lv_bipush (v := 10) hx hb dX10_odds_27 (by decide) ?_
        refine callSi (As := [.int x3, .int 0, .int 10]) (rest := []) C hw hl (c_Mo_in l g x3 0 10 _ h) tw_999 kk_X10_in rfl ⟨rfl, rfl⟩ ⟨by decide, by decide⟩ (Nat.le_of_ble_eq_true rfl) rfl dX10_odds_29 (fun r_13 u H locs h hw => ?_)
        refine lv_if_eq (tgt := 53) hx hb dX10_odds_32 (by decide) (fun c_32 => ?_) (fun c_32 => ?_)
        · have h := h.1 c_32
          exact hB_Mo_odds_53  h _ _ _ hw (lv_sub hl [] rfl)
        · have h := h.2 c_32
          refine lv_iload hx hb dX10_odds_35 (lv_at hl 4 rfl) ?_
          refine callSi (As := [.int x4]) (rest := []) C hw hl (c_Mo_isJudgment l g x4 _ h) tw_1138 kk_X10_isJudgment rfl ⟨rfl, rfl⟩ ⟨by decide, by decide⟩ (Nat.le_of_ble_eq_true rfl) rfl dX10_odds_37 (fun r_14 u H locs h hw => ?_)
          refine lv_if_eq (tgt := 53) hx hb dX10_odds_40 (by decide) (fun c_40 => ?_) (fun c_40 => ?_)
          · have h := h.1 c_40
            exact hB_Mo_odds_53  h _ _ _ hw (lv_sub hl [] rfl)
          · have h := h.2 c_40
            refine lv_iload hx hb dX10_odds_43 (lv_at hl 5 rfl) ?_
            refine lv_iconst (v := 0) hx hb dX10_odds_45 (by decide) ?_
            refine lv_iconst (v := 1) hx hb dX10_odds_46 (by decide) ?_
            refine callSi (As := [.int x5, .int 0, .int 1]) (rest := []) C hw hl (c_Mo_in l g x5 0 1 _ h) tw_999 kk_X10_in rfl ⟨rfl, rfl⟩ ⟨by decide, by decide⟩ (Nat.le_of_ble_eq_true rfl) rfl dX10_odds_47 (fun r_15 u H locs h hw => ?_)
            refine lv_if_ne (tgt := 57) hx hb dX10_odds_50 (by decide) (fun c_50 => ?_) (fun c_50 => ?_)
            · have h := h.1 c_50
              refine lv_aload_n hx hb dX10_odds_57 rfl (lv_at hl 0 rfl) ?_
              refine G_RX10_54 C hw 0 rfl dX10_odds_58 ?_
              refine lv_if_ne (tgt := 68) hx hb dX10_odds_61 (by decide) (fun c_61 => ?_) (fun c_61 => ?_)
              · have h := h.1 c_61
                refine lv_lconst (v := 0) hx hb dX10_odds_68 (by decide) ?_
                refine lv_lstore (lv' := [(6, .long 0), (0, .ref a_t), (1, .int x1), (2, .int x2), (3, .int x3), (4, .int x4), (5, .int x5)]) hx hb dX10_odds_69 hl (by decide) rfl (fun ls hl => ?_)
                refine lv_lconst (v := 1) hx hb dX10_odds_71 (by decide) ?_
                refine lv_lstore (lv' := [(8, .long 1), (6, .long 0), (0, .ref a_t), (1, .int x1), (2, .int x2), (3, .int x3), (4, .int x4), (5, .int x5)]) hx hb dX10_odds_72 hl (by decide) rfl (fun ls hl => ?_)
                refine lv_iconst (v := 0) hx hb dX10_odds_74 (by decide) ?_
                refine lv_istore (lv' := [(10, .int 0), (8, .long 1), (6, .long 0), (0, .ref a_t), (1, .int x1), (2, .int x2), (3, .int x3), (4, .int x4), (5, .int x5)]) hx hb dX10_odds_75 hl (by decide) rfl (fun ls hl => ?_)
                obtain ⟨n_77, h⟩ := h
                exact hL_Mo_odds_77 n_77 0 1 0 h _ _ _ hw (lv_sub hl [3, 4, 5, 6, 7, 8, 2, 1, 0] rfl)
              · have h := h.2 c_61
                refine lv_ldc2 (v := (-4)) hx hb hown (hts _ tw_1026) dX10_odds_64 ?_
                exact hret () h hw dX10_odds_67
            · have h := h.2 c_50
              exact hB_Mo_odds_53  h _ _ _ hw (lv_sub hl [] rfl)
def B_Mo_follows_106 (x1 : Int32) (x2 : Int32) (t_points : Int32) (t_cases : Int32) (t_one : (Nat → Int32)) (t_weight : (Nat → Int32)) (Q : Int32 → Prop) (k0 : Int32) : Prop := narrow .boolean (.int k0) = .int k0 ∧ Q k0 
def B_Mo_follows_101 (x1 : Int32) (x2 : Int32) (t_points : Int32) (t_cases : Int32) (t_one : (Nat → Int32)) (t_weight : (Nat → Int32)) (Q : Int32 → Prop) : Prop := B_Mo_follows_106 x1 x2 t_points t_cases t_one t_weight Q 1
def B_Mo_follows_48 (x1 : Int32) (x2 : Int32) (t_points : Int32) (t_cases : Int32) (t_one : (Nat → Int32)) (t_weight : (Nat → Int32)) (Q : Int32 → Prop) (N_5 : Int32 → Int32 → Prop) (x4 : Int32) (k0 : Int32) (k1 : Int32) : Prop := ∀ x3_1 : Int32, x3_1 = (k0 ||| k1) → N_5 x3_1 (x4 + 1)
def B_Mo_follows_47 (x1 : Int32) (x2 : Int32) (t_points : Int32) (t_cases : Int32) (t_one : (Nat → Int32)) (t_weight : (Nat → Int32)) (Q : Int32 → Prop) (N_5 : Int32 → Int32 → Prop) (x4 : Int32) (k0 : Int32) : Prop := B_Mo_follows_48 x1 x2 t_points t_cases t_one t_weight Q N_5 x4 k0 0
def L_Mo_follows_5 (x1 : Int32) (x2 : Int32) (t_points : Int32) (t_cases : Int32) (t_one : (Nat → Int32)) (t_weight : (Nat → Int32)) (Q : Int32 → Prop) : Nat → Int32 → Int32 → Prop
  | 0 => fun _ _ => False
  | n + 1 => fun x3 x4 => (t_cases ≤ x4 → vp_in (4 * x1) 56 ∧ (P_Mo_caseOf (t_one (4 * x1).toNatClampNeg) x3 t_points t_cases t_one t_weight (fun r_2 => (r_2 = (-1) → B_Mo_follows_101 x1 x2 t_points t_cases t_one t_weight Q) ∧ (¬ r_2 = (-1) → vp_in ((4 * r_2) + 1) 56 ∧ (vp_in ((4 * x1) + 1) 56 ∧ ((¬ (t_one ((4 * r_2) + 1).toNatClampNeg) = (t_one ((4 * x1) + 1).toNatClampNeg) → B_Mo_follows_106 x1 x2 t_points t_cases t_one t_weight Q 0) ∧ ((t_one ((4 * r_2) + 1).toNatClampNeg) = (t_one ((4 * x1) + 1).toNatClampNeg) → B_Mo_follows_101 x1 x2 t_points t_cases t_one t_weight Q))))))) ∧ (¬ t_cases ≤ x4 → P_Mo_has x2 x4 (fun r_3 => (r_3 = 0 → B_Mo_follows_47 x1 x2 t_points t_cases t_one t_weight Q (L_Mo_follows_5 x1 x2 t_points t_cases t_one t_weight Q n) x4 x3) ∧ (¬ r_3 = 0 → (x4 = x1 → B_Mo_follows_47 x1 x2 t_points t_cases t_one t_weight Q (L_Mo_follows_5 x1 x2 t_points t_cases t_one t_weight Q n) x4 x3) ∧ (¬ x4 = x1 → P_Mo_isElder x4 x1 t_one (fun r_4 => (r_4 = 0 → B_Mo_follows_47 x1 x2 t_points t_cases t_one t_weight Q (L_Mo_follows_5 x1 x2 t_points t_cases t_one t_weight Q n) x4 x3) ∧ (¬ r_4 = 0 → B_Mo_follows_48 x1 x2 t_points t_cases t_one t_weight Q (L_Mo_follows_5 x1 x2 t_points t_cases t_one t_weight Q n) x4 x3 (1 <<< (x4 &&& 31))))))))
def P_Mo_follows (x1 : Int32) (x2 : Int32) (t_points : Int32) (t_cases : Int32) (t_one : (Nat → Int32)) (t_weight : (Nat → Int32)) (Q : Int32 → Prop) : Prop := ∃ n_5 : Nat, L_Mo_follows_5 x1 x2 t_points t_cases t_one t_weight Q n_5 0 0
abbrev rm_Mo_follows : Room := { frames := 3, cells := 0, slots := 0, locals := 72 }
def cs_Mo_follows (g : GE) (a_t a_t_one a_t_weight a_t_cost a_t_text a_t_read a_t_likes a_t_judged a_t_met a_t_line a_t_image a_t_isKept a_t_had : Nat) (t_points : Int32) (t_cases : Int32) (t_bytes : Int32) (t_position : Int32) (t_tokenAt : Int32) (t_token : Int64) (t_digits : Int32) (t_number : Int32) (t_row : Int32) (t_isRow : Int32) (t_faultAt : Int32) (t_readMany : Int32) (t_readPoints : Int32) (t_readCases : Int32) (t_suitOne : Int32) (t_suitTwo : Int32) (t_one : (Nat → Int32)) (t_weight : (Nat → Int32)) : va_W := [oc a_t 10 [.int t_points, .ref a_t_weight, .ref a_t_cost, .int t_cases, .ref a_t_one, .int t_bytes, .ref a_t_text, .int t_position, .int t_tokenAt, .long t_token, .int t_digits, .int t_number, .int t_row, .int t_isRow, .int t_faultAt, .int t_readMany, .int t_readPoints, .int t_readCases, .ref a_t_read, .ref a_t_likes, .ref a_t_judged, .ref a_t_met, .ref a_t_line, .ref a_t_image, .ref a_t_isKept, .int t_suitOne, .int t_suitTwo, .ref a_t_had], ai g a_t_one 56 t_one, ai g a_t_weight 10 t_weight]
set_option maxHeartbeats 4000000 in
set_option maxRecDepth 100000 in
theorem c_Mo_follows (l : Launch) (g : GE) (a_t a_t_one a_t_weight a_t_cost a_t_text a_t_read a_t_likes a_t_judged a_t_met a_t_line a_t_image a_t_isKept a_t_had : Nat) (t_points : Int32) (t_cases : Int32) (t_bytes : Int32) (t_position : Int32) (t_tokenAt : Int32) (t_token : Int64) (t_digits : Int32) (t_number : Int32) (t_row : Int32) (t_isRow : Int32) (t_faultAt : Int32) (t_readMany : Int32) (t_readPoints : Int32) (t_readCases : Int32) (t_suitOne : Int32) (t_suitTwo : Int32) (t_one : (Nat → Int32)) (t_weight : (Nat → Int32)) (x1 : Int32) (x2 : Int32) (Q : Int32 → Prop) (h : P_Mo_follows x1 x2 t_points t_cases t_one t_weight Q) : Cti l g yX10_follows cX10_follows 5 (some .boolean) rm_Mo_follows [.ref a_t, .int x1, .int x2] (cs_Mo_follows g a_t a_t_one a_t_weight a_t_cost a_t_text a_t_read a_t_likes a_t_judged a_t_met a_t_line a_t_image a_t_isKept a_t_had t_points t_cases t_bytes t_position t_tokenAt t_token t_digits t_number t_row t_isRow t_faultAt t_readMany t_readPoints t_readCases t_suitOne t_suitTwo t_one t_weight) (S := Unit) (fun r u => Q r) (fun _ => (cs_Mo_follows g a_t a_t_one a_t_weight a_t_cost a_t_text a_t_read a_t_likes a_t_judged a_t_met a_t_line a_t_image a_t_isKept a_t_had t_points t_cases t_bytes t_position t_tokenAt t_token t_digits t_number t_row t_isRow t_faultAt t_readMany t_readPoints t_readCases t_suitOne t_suitTwo t_one t_weight)) := by
  refine meetI rfl (Nat.le_of_ble_eq_true rfl) ⟨rfl, rfl⟩ ?_
  intro p e s m args below meth c A Qf ls C hret hw hl
  have hx := C.1
  have hb := C.2.1
  have hown := C.2.2.2.1
  have hts := C.2.2.2.2.1
  have hE := C.2.2.2.2.2.1
  have hl : lv_has ls 5 [(0, .ref a_t), (1, .int x1), (2, .int x2)] := hl
  have hB_Mo_follows_106 : ∀ (k0 : Int32), B_Mo_follows_106 x1 x2 t_points t_cases t_one t_weight Q k0 → Wat p l e rm_Mo_follows s m args below meth c A Qf g 5 (cs_Mo_follows g a_t a_t_one a_t_weight a_t_cost a_t_text a_t_read a_t_likes a_t_judged a_t_met a_t_line a_t_image a_t_isKept a_t_had t_points t_cases t_bytes t_position t_tokenAt t_token t_digits t_number t_row t_isRow t_faultAt t_readMany t_readPoints t_readCases t_suitOne t_suitTwo t_one t_weight) [] 106 [.int k0] := by
    intro k0 h H locs ls hw hl
    exact hret () h.2 hw dX10_follows_106 h.1
  have hB_Mo_follows_101 : B_Mo_follows_101 x1 x2 t_points t_cases t_one t_weight Q → Wat p l e rm_Mo_follows s m args below meth c A Qf g 5 (cs_Mo_follows g a_t a_t_one a_t_weight a_t_cost a_t_text a_t_read a_t_likes a_t_judged a_t_met a_t_line a_t_image a_t_isKept a_t_had t_points t_cases t_bytes t_position t_tokenAt t_token t_digits t_number t_row t_isRow t_faultAt t_readMany t_readPoints t_readCases t_suitOne t_suitTwo t_one t_weight) [] 101 [] := by
    intro  h H locs ls hw hl
    refine lv_iconst (v := 1) hx hb dX10_follows_101 (by decide) ?_
    refine lv_goto (tgt := 106) hx hb dX10_follows_102 (by decide) ?_
    exact hB_Mo_follows_106 1 h _ _ _ hw (lv_sub hl [] rfl)
  have hB_Mo_follows_48 : ∀ (N_5 : Int32 → Int32 → Prop) (hN_5 : ∀ (x3 : Int32) (x4 : Int32), N_5 x3 x4 → Wat p l e rm_Mo_follows s m args below meth c A Qf g 5 (cs_Mo_follows g a_t a_t_one a_t_weight a_t_cost a_t_text a_t_read a_t_likes a_t_judged a_t_met a_t_line a_t_image a_t_isKept a_t_had t_points t_cases t_bytes t_position t_tokenAt t_token t_digits t_number t_row t_isRow t_faultAt t_readMany t_readPoints t_readCases t_suitOne t_suitTwo t_one t_weight) [(0, .ref a_t), (1, .int x1), (2, .int x2), (3, .int x3), (4, .int x4)] 5 []) (x4 : Int32) (k0 : Int32) (k1 : Int32), B_Mo_follows_48 x1 x2 t_points t_cases t_one t_weight Q N_5 x4 k0 k1 → Wat p l e rm_Mo_follows s m args below meth c A Qf g 5 (cs_Mo_follows g a_t a_t_one a_t_weight a_t_cost a_t_text a_t_read a_t_likes a_t_judged a_t_met a_t_line a_t_image a_t_isKept a_t_had t_points t_cases t_bytes t_position t_tokenAt t_token t_digits t_number t_row t_isRow t_faultAt t_readMany t_readPoints t_readCases t_suitOne t_suitTwo t_one t_weight) [(0, .ref a_t), (1, .int x1), (2, .int x2), (4, .int x4)] 48 [.int k1, .int k0] := by
    intro N_5 hN_5 x4 k0 k1 h H locs ls hw hl
    refine lv_ior hx hb dX10_follows_48 ?_
    refine lv_topi (fun x3_1 ex3_1 => ?_)
    have h := h x3_1 ex3_1
    refine lv_istore_n (lv' := [(3, .int x3_1), (0, .ref a_t), (1, .int x1), (2, .int x2), (4, .int x4)]) hx hb dX10_follows_49 rfl hl (by decide) rfl (fun ls hl => ?_)
    refine lv_iinc (v := x4 + 1) (lv' := [(4, .int (x4 + 1)), (3, .int x3_1), (0, .ref a_t), (1, .int x1), (2, .int x2)]) hx hb dX10_follows_50 hl (k := 4) rfl rfl (by decide) rfl (fun ls hl => ?_)
    refine lv_goto (tgt := 5) hx hb dX10_follows_53 (by decide) ?_
    exact hN_5 x3_1 (x4 + 1) h _ _ _ hw (lv_sub hl [2, 3, 4, 1, 0] rfl)
  have hB_Mo_follows_47 : ∀ (N_5 : Int32 → Int32 → Prop) (hN_5 : ∀ (x3 : Int32) (x4 : Int32), N_5 x3 x4 → Wat p l e rm_Mo_follows s m args below meth c A Qf g 5 (cs_Mo_follows g a_t a_t_one a_t_weight a_t_cost a_t_text a_t_read a_t_likes a_t_judged a_t_met a_t_line a_t_image a_t_isKept a_t_had t_points t_cases t_bytes t_position t_tokenAt t_token t_digits t_number t_row t_isRow t_faultAt t_readMany t_readPoints t_readCases t_suitOne t_suitTwo t_one t_weight) [(0, .ref a_t), (1, .int x1), (2, .int x2), (3, .int x3), (4, .int x4)] 5 []) (x4 : Int32) (k0 : Int32), B_Mo_follows_47 x1 x2 t_points t_cases t_one t_weight Q N_5 x4 k0 → Wat p l e rm_Mo_follows s m args below meth c A Qf g 5 (cs_Mo_follows g a_t a_t_one a_t_weight a_t_cost a_t_text a_t_read a_t_likes a_t_judged a_t_met a_t_line a_t_image a_t_isKept a_t_had t_points t_cases t_bytes t_position t_tokenAt t_token t_digits t_number t_row t_isRow t_faultAt t_readMany t_readPoints t_readCases t_suitOne t_suitTwo t_one t_weight) [(0, .ref a_t), (1, .int x1), (2, .int x2), (4, .int x4)] 47 [.int k0] := by
    intro N_5 hN_5 x4 k0 h H locs ls hw hl
    refine lv_iconst (v := 0) hx hb dX10_follows_47 (by decide) ?_
    exact hB_Mo_follows_48 N_5 hN_5 x4 k0 0 h _ _ _ hw (lv_sub hl [0, 1, 2, 3] rfl)
  have hL_Mo_follows_5 : ∀ (n : Nat) (x3 : Int32) (x4 : Int32), L_Mo_follows_5 x1 x2 t_points t_cases t_one t_weight Q n x3 x4 → Wat p l e rm_Mo_follows s m args below meth c A Qf g 5 (cs_Mo_follows g a_t a_t_one a_t_weight a_t_cost a_t_text a_t_read a_t_likes a_t_judged a_t_met a_t_line a_t_image a_t_isKept a_t_had t_points t_cases t_bytes t_position t_tokenAt t_token t_digits t_number t_row t_isRow t_faultAt t_readMany t_readPoints t_readCases t_suitOne t_suitTwo t_one t_weight) [(0, .ref a_t), (1, .int x1), (2, .int x2), (3, .int x3), (4, .int x4)] 5 [] := by
    intro n
    induction n with
    | zero => intro x3 x4 h; exact absurd h id
    | succ n ih =>
      intro x3 x4 h H locs ls hw hl
      rw [L_Mo_follows_5] at h
      refine lv_iload hx hb dX10_follows_5 (lv_at hl 4 rfl) ?_
      refine lv_aload_n hx hb dX10_follows_7 rfl (lv_at hl 0 rfl) ?_
      refine G_RX10_54 C hw 0 rfl dX10_follows_8 ?_
      refine lv_icmp_ge (tgt := 56) hx hb dX10_follows_11 (by decide) (fun c_11 => ?_) (fun c_11 => ?_)
      · have h := h.1 c_11
        refine lv_aload_n hx hb dX10_follows_56 rfl (lv_at hl 0 rfl) ?_
        refine lv_aload_n hx hb dX10_follows_57 rfl (lv_at hl 0 rfl) ?_
        refine G_RX10_20 C hw 0 rfl dX10_follows_58 ?_
        refine lv_iconst (v := 4) hx hb dX10_follows_61 (by decide) ?_
        refine lv_iload_n hx hb dX10_follows_62 rfl (lv_at hl 1 rfl) ?_
        refine lv_imul hx hb dX10_follows_63 ?_
        refine aldI C hw 1 rfl h.1 dX10_follows_64 ?_
        have h := h.2
        refine lv_iload_n hx hb dX10_follows_65 rfl (lv_at hl 3 rfl) ?_
        refine callVi (As := [.int (t_one (4 * x1).toNatClampNeg), .int x3]) (rest := []) (W2 := fun _ => (cs_Mo_follows g a_t a_t_one a_t_weight a_t_cost a_t_text a_t_read a_t_likes a_t_judged a_t_met a_t_line a_t_image a_t_isKept a_t_had t_points t_cases t_bytes t_position t_tokenAt t_token t_digits t_number t_row t_isRow t_faultAt t_readMany t_readPoints t_readCases t_suitOne t_suitTwo t_one t_weight)) C hw hl (c_Mo_caseOf l g a_t a_t_one a_t_weight a_t_cost a_t_text a_t_read a_t_likes a_t_judged a_t_met a_t_line a_t_image a_t_isKept a_t_had t_points t_cases t_bytes t_position t_tokenAt t_token t_digits t_number t_row t_isRow t_faultAt t_readMany t_readPoints t_readCases t_suitOne t_suitTwo t_one t_weight (t_one (4 * x1).toNatClampNeg) x3 _ h) tw_1107 kk_X10_caseOf rfl ⟨rfl, rfl⟩ ⟨by decide, by decide⟩ (Nat.le_of_ble_eq_true rfl) 0 rfl rfl rfl [0, 1, 2] [] [0, 1, 2] rfl rfl rfl rfl rfl rfl (fun u => rfl) rfl dX10_follows_66 (fun r_2 u H locs h hw => ?_)
        refine lv_istore (lv' := [(4, .int r_2), (0, .ref a_t), (1, .int x1), (2, .int x2), (3, .int x3)]) hx hb dX10_follows_69 hl (by decide) rfl (fun ls hl => ?_)
        refine lv_iload hx hb dX10_follows_71 (lv_at hl 0 rfl) ?_
        refine lv_iconst (v := (-1)) hx hb dX10_follows_73 (by decide) ?_
        refine lv_icmp_eq (tgt := 101) hx hb dX10_follows_74 (by decide) (fun c_74 => ?_) (fun c_74 => ?_)
        · have h := h.1 c_74
          exact hB_Mo_follows_101  h _ _ _ hw (lv_sub hl [] rfl)
        · have h := h.2 c_74
          refine lv_aload_n hx hb dX10_follows_77 rfl (lv_at hl 1 rfl) ?_
          refine G_RX10_20 C hw 0 rfl dX10_follows_78 ?_
          refine lv_iconst (v := 4) hx hb dX10_follows_81 (by decide) ?_
          refine lv_iload hx hb dX10_follows_82 (lv_at hl 0 rfl) ?_
          refine lv_imul hx hb dX10_follows_84 ?_
          refine lv_iconst (v := 1) hx hb dX10_follows_85 (by decide) ?_
          refine lv_iadd hx hb dX10_follows_86 ?_
          refine aldI C hw 1 rfl h.1 dX10_follows_87 ?_
          have h := h.2
          refine lv_aload_n hx hb dX10_follows_88 rfl (lv_at hl 1 rfl) ?_
          refine G_RX10_20 C hw 0 rfl dX10_follows_89 ?_
          refine lv_iconst (v := 4) hx hb dX10_follows_92 (by decide) ?_
          refine lv_iload_n hx hb dX10_follows_93 rfl (lv_at hl 2 rfl) ?_
          refine lv_imul hx hb dX10_follows_94 ?_
          refine lv_iconst (v := 1) hx hb dX10_follows_95 (by decide) ?_
          refine lv_iadd hx hb dX10_follows_96 ?_
          refine aldI C hw 1 rfl h.1 dX10_follows_97 ?_
          have h := h.2
          refine lv_icmp_ne (tgt := 105) hx hb dX10_follows_98 (by decide) (fun c_98 => ?_) (fun c_98 => ?_)
          · have h := h.1 c_98
            refine lv_iconst (v := 0) hx hb dX10_follows_105 (by decide) ?_
            exact hB_Mo_follows_106 0 h _ _ _ hw (lv_sub hl [] rfl)
          · have h := h.2 c_98
            exact hB_Mo_follows_101  h _ _ _ hw (lv_sub hl [] rfl)
      · have h := h.2 c_11
        refine lv_iload_n hx hb dX10_follows_14 rfl (lv_at hl 3 rfl) ?_
        refine lv_iload_n hx hb dX10_follows_15 rfl (lv_at hl 2 rfl) ?_
        refine lv_iload hx hb dX10_follows_16 (lv_at hl 4 rfl) ?_
        refine callSi (As := [.int x2, .int x4]) (rest := [.int x3]) C hw hl (c_Mo_has l g x2 x4 _ h) tw_1111 kk_X10_has rfl ⟨rfl, rfl⟩ ⟨by decide, by decide⟩ (Nat.le_of_ble_eq_true rfl) rfl dX10_follows_18 (fun r_3 u H locs h hw => ?_)
        refine lv_if_eq (tgt := 47) hx hb dX10_follows_21 (by decide) (fun c_21 => ?_) (fun c_21 => ?_)
        · have h := h.1 c_21
          exact hB_Mo_follows_47 (L_Mo_follows_5 x1 x2 t_points t_cases t_one t_weight Q n) ih x4 x3 h _ _ _ hw (lv_sub hl [0, 1, 2, 4] rfl)
        · have h := h.2 c_21
          refine lv_iload hx hb dX10_follows_24 (lv_at hl 4 rfl) ?_
          refine lv_iload_n hx hb dX10_follows_26 rfl (lv_at hl 1 rfl) ?_
          refine lv_icmp_eq (tgt := 47) hx hb dX10_follows_27 (by decide) (fun c_27 => ?_) (fun c_27 => ?_)
          · have h := h.1 c_27
            exact hB_Mo_follows_47 (L_Mo_follows_5 x1 x2 t_points t_cases t_one t_weight Q n) ih x4 x3 h _ _ _ hw (lv_sub hl [0, 1, 2, 4] rfl)
          · have h := h.2 c_27
            refine lv_aload_n hx hb dX10_follows_30 rfl (lv_at hl 0 rfl) ?_
            refine lv_iload hx hb dX10_follows_31 (lv_at hl 4 rfl) ?_
            refine lv_iload_n hx hb dX10_follows_33 rfl (lv_at hl 1 rfl) ?_
            refine callVi (As := [.int x4, .int x1]) (rest := [.int x3]) (W2 := fun _ => (cs_Mo_follows g a_t a_t_one a_t_weight a_t_cost a_t_text a_t_read a_t_likes a_t_judged a_t_met a_t_line a_t_image a_t_isKept a_t_had t_points t_cases t_bytes t_position t_tokenAt t_token t_digits t_number t_row t_isRow t_faultAt t_readMany t_readPoints t_readCases t_suitOne t_suitTwo t_one t_weight)) C hw hl (c_Mo_isElder l g a_t a_t_one a_t_weight a_t_cost a_t_text a_t_read a_t_likes a_t_judged a_t_met a_t_line a_t_image a_t_isKept a_t_had t_points t_cases t_bytes t_position t_tokenAt t_token t_digits t_number t_row t_isRow t_faultAt t_readMany t_readPoints t_readCases t_suitOne t_suitTwo t_one x4 x1 _ h) tw_1083 kk_X10_isElder rfl ⟨rfl, rfl⟩ ⟨by decide, by decide⟩ (Nat.le_of_ble_eq_true rfl) 0 rfl rfl rfl [0, 1] [2] [1, 2, 0] rfl rfl rfl rfl rfl rfl (fun u => rfl) rfl dX10_follows_34 (fun r_4 u H locs h hw => ?_)
            refine lv_if_eq (tgt := 47) hx hb dX10_follows_37 (by decide) (fun c_37 => ?_) (fun c_37 => ?_)
            · have h := h.1 c_37
              exact hB_Mo_follows_47 (L_Mo_follows_5 x1 x2 t_points t_cases t_one t_weight Q n) ih x4 x3 h _ _ _ hw (lv_sub hl [0, 1, 2, 4] rfl)
            · have h := h.2 c_37
              refine lv_iconst (v := 1) hx hb dX10_follows_40 (by decide) ?_
              refine lv_iload hx hb dX10_follows_41 (lv_at hl 4 rfl) ?_
              refine lv_ishl hx hb dX10_follows_43 ?_
              refine lv_goto (tgt := 48) hx hb dX10_follows_44 (by decide) ?_
              exact hB_Mo_follows_48 (L_Mo_follows_5 x1 x2 t_points t_cases t_one t_weight Q n) ih x4 x3 (1 <<< (x4 &&& 31)) h _ _ _ hw (lv_sub hl [0, 1, 2, 4] rfl)
  refine lv_iconst (v := 0) hx hb dX10_follows_0 (by decide) ?_
  refine lv_istore_n (lv' := [(3, .int 0), (0, .ref a_t), (1, .int x1), (2, .int x2)]) hx hb dX10_follows_1 rfl hl (by decide) rfl (fun ls hl => ?_)
  refine lv_iconst (v := 0) hx hb dX10_follows_2 (by decide) ?_
  refine lv_istore (lv' := [(4, .int 0), (3, .int 0), (0, .ref a_t), (1, .int x1), (2, .int x2)]) hx hb dX10_follows_3 hl (by decide) rfl (fun ls hl => ?_)
  obtain ⟨n_5, h⟩ := h
  exact hL_Mo_follows_5 n_5 0 0 h _ _ _ hw (lv_sub hl [2, 3, 4, 1, 0] rfl)
def B_Mo_notFollowing_37 (x1 : Int32) (t_points : Int32) (t_cases : Int32) (t_one : (Nat → Int32)) (t_weight : (Nat → Int32)) (Q : Int32 → Prop) (N_4 : Int32 → Int32 → Prop) (x3 : Int32) (k0 : Int32) (k1 : Int32) : Prop := ∀ x2_1 : Int32, x2_1 = (k0 ||| k1) → N_4 x2_1 (x3 + 1)
def B_Mo_notFollowing_36 (x1 : Int32) (t_points : Int32) (t_cases : Int32) (t_one : (Nat → Int32)) (t_weight : (Nat → Int32)) (Q : Int32 → Prop) (N_4 : Int32 → Int32 → Prop) (x3 : Int32) (k0 : Int32) : Prop := B_Mo_notFollowing_37 x1 t_points t_cases t_one t_weight Q N_4 x3 k0 0
def L_Mo_notFollowing_4 (x1 : Int32) (t_points : Int32) (t_cases : Int32) (t_one : (Nat → Int32)) (t_weight : (Nat → Int32)) (Q : Int32 → Prop) : Nat → Int32 → Int32 → Prop
  | 0 => fun _ _ => False
  | n + 1 => fun x2 x3 => (t_cases ≤ x3 → Q x2) ∧ (¬ t_cases ≤ x3 → P_Mo_has x1 x3 (fun r_2 => (r_2 = 0 → B_Mo_notFollowing_36 x1 t_points t_cases t_one t_weight Q (L_Mo_notFollowing_4 x1 t_points t_cases t_one t_weight Q n) x3 x2) ∧ (¬ r_2 = 0 → P_Mo_follows x3 x1 t_points t_cases t_one t_weight (fun r_3 => (¬ r_3 = 0 → B_Mo_notFollowing_36 x1 t_points t_cases t_one t_weight Q (L_Mo_notFollowing_4 x1 t_points t_cases t_one t_weight Q n) x3 x2) ∧ (r_3 = 0 → B_Mo_notFollowing_37 x1 t_points t_cases t_one t_weight Q (L_Mo_notFollowing_4 x1 t_points t_cases t_one t_weight Q n) x3 x2 (1 <<< (x3 &&& 31)))))))
def P_Mo_notFollowing (x1 : Int32) (t_points : Int32) (t_cases : Int32) (t_one : (Nat → Int32)) (t_weight : (Nat → Int32)) (Q : Int32 → Prop) : Prop := ∃ n_4 : Nat, L_Mo_notFollowing_4 x1 t_points t_cases t_one t_weight Q n_4 0 0
abbrev rm_Mo_notFollowing : Room := { frames := 4, cells := 0, slots := 0, locals := 96 }
def cs_Mo_notFollowing (g : GE) (a_t a_t_one a_t_weight a_t_cost a_t_text a_t_read a_t_likes a_t_judged a_t_met a_t_line a_t_image a_t_isKept a_t_had : Nat) (t_points : Int32) (t_cases : Int32) (t_bytes : Int32) (t_position : Int32) (t_tokenAt : Int32) (t_token : Int64) (t_digits : Int32) (t_number : Int32) (t_row : Int32) (t_isRow : Int32) (t_faultAt : Int32) (t_readMany : Int32) (t_readPoints : Int32) (t_readCases : Int32) (t_suitOne : Int32) (t_suitTwo : Int32) (t_one : (Nat → Int32)) (t_weight : (Nat → Int32)) : va_W := [oc a_t 10 [.int t_points, .ref a_t_weight, .ref a_t_cost, .int t_cases, .ref a_t_one, .int t_bytes, .ref a_t_text, .int t_position, .int t_tokenAt, .long t_token, .int t_digits, .int t_number, .int t_row, .int t_isRow, .int t_faultAt, .int t_readMany, .int t_readPoints, .int t_readCases, .ref a_t_read, .ref a_t_likes, .ref a_t_judged, .ref a_t_met, .ref a_t_line, .ref a_t_image, .ref a_t_isKept, .int t_suitOne, .int t_suitTwo, .ref a_t_had], ai g a_t_one 56 t_one, ai g a_t_weight 10 t_weight]
set_option maxHeartbeats 4000000 in
set_option maxRecDepth 100000 in
theorem c_Mo_notFollowing (l : Launch) (g : GE) (a_t a_t_one a_t_weight a_t_cost a_t_text a_t_read a_t_likes a_t_judged a_t_met a_t_line a_t_image a_t_isKept a_t_had : Nat) (t_points : Int32) (t_cases : Int32) (t_bytes : Int32) (t_position : Int32) (t_tokenAt : Int32) (t_token : Int64) (t_digits : Int32) (t_number : Int32) (t_row : Int32) (t_isRow : Int32) (t_faultAt : Int32) (t_readMany : Int32) (t_readPoints : Int32) (t_readCases : Int32) (t_suitOne : Int32) (t_suitTwo : Int32) (t_one : (Nat → Int32)) (t_weight : (Nat → Int32)) (x1 : Int32) (Q : Int32 → Prop) (h : P_Mo_notFollowing x1 t_points t_cases t_one t_weight Q) : Cti l g yX10_notFollowing cX10_notFollowing 4 (some .int) rm_Mo_notFollowing [.ref a_t, .int x1] (cs_Mo_notFollowing g a_t a_t_one a_t_weight a_t_cost a_t_text a_t_read a_t_likes a_t_judged a_t_met a_t_line a_t_image a_t_isKept a_t_had t_points t_cases t_bytes t_position t_tokenAt t_token t_digits t_number t_row t_isRow t_faultAt t_readMany t_readPoints t_readCases t_suitOne t_suitTwo t_one t_weight) (S := Unit) (fun r u => Q r) (fun _ => (cs_Mo_notFollowing g a_t a_t_one a_t_weight a_t_cost a_t_text a_t_read a_t_likes a_t_judged a_t_met a_t_line a_t_image a_t_isKept a_t_had t_points t_cases t_bytes t_position t_tokenAt t_token t_digits t_number t_row t_isRow t_faultAt t_readMany t_readPoints t_readCases t_suitOne t_suitTwo t_one t_weight)) := by
  refine meetI rfl (Nat.le_of_ble_eq_true rfl) ⟨rfl, rfl⟩ ?_
  intro p e s m args below meth c A Qf ls C hret hw hl
  have hx := C.1
  have hb := C.2.1
  have hown := C.2.2.2.1
  have hts := C.2.2.2.2.1
  have hE := C.2.2.2.2.2.1
  have hl : lv_has ls 4 [(0, .ref a_t), (1, .int x1)] := hl
  have hB_Mo_notFollowing_37 : ∀ (N_4 : Int32 → Int32 → Prop) (hN_4 : ∀ (x2 : Int32) (x3 : Int32), N_4 x2 x3 → Wat p l e rm_Mo_notFollowing s m args below meth c A Qf g 4 (cs_Mo_notFollowing g a_t a_t_one a_t_weight a_t_cost a_t_text a_t_read a_t_likes a_t_judged a_t_met a_t_line a_t_image a_t_isKept a_t_had t_points t_cases t_bytes t_position t_tokenAt t_token t_digits t_number t_row t_isRow t_faultAt t_readMany t_readPoints t_readCases t_suitOne t_suitTwo t_one t_weight) [(0, .ref a_t), (1, .int x1), (2, .int x2), (3, .int x3)] 4 []) (x3 : Int32) (k0 : Int32) (k1 : Int32), B_Mo_notFollowing_37 x1 t_points t_cases t_one t_weight Q N_4 x3 k0 k1 → Wat p l e rm_Mo_notFollowing s m args below meth c A Qf g 4 (cs_Mo_notFollowing g a_t a_t_one a_t_weight a_t_cost a_t_text a_t_read a_t_likes a_t_judged a_t_met a_t_line a_t_image a_t_isKept a_t_had t_points t_cases t_bytes t_position t_tokenAt t_token t_digits t_number t_row t_isRow t_faultAt t_readMany t_readPoints t_readCases t_suitOne t_suitTwo t_one t_weight) [(0, .ref a_t), (1, .int x1), (3, .int x3)] 37 [.int k1, .int k0] := by
    intro N_4 hN_4 x3 k0 k1 h H locs ls hw hl
    refine lv_ior hx hb dX10_notFollowing_37 ?_
    refine lv_topi (fun x2_1 ex2_1 => ?_)
    have h := h x2_1 ex2_1
    refine lv_istore_n (lv' := [(2, .int x2_1), (0, .ref a_t), (1, .int x1), (3, .int x3)]) hx hb dX10_notFollowing_38 rfl hl (by decide) rfl (fun ls hl => ?_)
    refine lv_iinc (v := x3 + 1) (lv' := [(3, .int (x3 + 1)), (2, .int x2_1), (0, .ref a_t), (1, .int x1)]) hx hb dX10_notFollowing_39 hl (k := 3) rfl rfl (by decide) rfl (fun ls hl => ?_)
    refine lv_goto (tgt := 4) hx hb dX10_notFollowing_42 (by decide) ?_
    exact hN_4 x2_1 (x3 + 1) h _ _ _ hw (lv_sub hl [2, 3, 1, 0] rfl)
  have hB_Mo_notFollowing_36 : ∀ (N_4 : Int32 → Int32 → Prop) (hN_4 : ∀ (x2 : Int32) (x3 : Int32), N_4 x2 x3 → Wat p l e rm_Mo_notFollowing s m args below meth c A Qf g 4 (cs_Mo_notFollowing g a_t a_t_one a_t_weight a_t_cost a_t_text a_t_read a_t_likes a_t_judged a_t_met a_t_line a_t_image a_t_isKept a_t_had t_points t_cases t_bytes t_position t_tokenAt t_token t_digits t_number t_row t_isRow t_faultAt t_readMany t_readPoints t_readCases t_suitOne t_suitTwo t_one t_weight) [(0, .ref a_t), (1, .int x1), (2, .int x2), (3, .int x3)] 4 []) (x3 : Int32) (k0 : Int32), B_Mo_notFollowing_36 x1 t_points t_cases t_one t_weight Q N_4 x3 k0 → Wat p l e rm_Mo_notFollowing s m args below meth c A Qf g 4 (cs_Mo_notFollowing g a_t a_t_one a_t_weight a_t_cost a_t_text a_t_read a_t_likes a_t_judged a_t_met a_t_line a_t_image a_t_isKept a_t_had t_points t_cases t_bytes t_position t_tokenAt t_token t_digits t_number t_row t_isRow t_faultAt t_readMany t_readPoints t_readCases t_suitOne t_suitTwo t_one t_weight) [(0, .ref a_t), (1, .int x1), (3, .int x3)] 36 [.int k0] := by
    intro N_4 hN_4 x3 k0 h H locs ls hw hl
    refine lv_iconst (v := 0) hx hb dX10_notFollowing_36 (by decide) ?_
    exact hB_Mo_notFollowing_37 N_4 hN_4 x3 k0 0 h _ _ _ hw (lv_sub hl [0, 1, 2] rfl)
  have hL_Mo_notFollowing_4 : ∀ (n : Nat) (x2 : Int32) (x3 : Int32), L_Mo_notFollowing_4 x1 t_points t_cases t_one t_weight Q n x2 x3 → Wat p l e rm_Mo_notFollowing s m args below meth c A Qf g 4 (cs_Mo_notFollowing g a_t a_t_one a_t_weight a_t_cost a_t_text a_t_read a_t_likes a_t_judged a_t_met a_t_line a_t_image a_t_isKept a_t_had t_points t_cases t_bytes t_position t_tokenAt t_token t_digits t_number t_row t_isRow t_faultAt t_readMany t_readPoints t_readCases t_suitOne t_suitTwo t_one t_weight) [(0, .ref a_t), (1, .int x1), (2, .int x2), (3, .int x3)] 4 [] := by
    intro n
    induction n with
    | zero => intro x2 x3 h; exact absurd h id
    | succ n ih =>
      intro x2 x3 h H locs ls hw hl
      rw [L_Mo_notFollowing_4] at h
      refine lv_iload_n hx hb dX10_notFollowing_4 rfl (lv_at hl 3 rfl) ?_
      refine lv_aload_n hx hb dX10_notFollowing_5 rfl (lv_at hl 0 rfl) ?_
      refine G_RX10_54 C hw 0 rfl dX10_notFollowing_6 ?_
      refine lv_icmp_ge (tgt := 45) hx hb dX10_notFollowing_9 (by decide) (fun c_9 => ?_) (fun c_9 => ?_)
      · have h := h.1 c_9
        refine lv_iload_n hx hb dX10_notFollowing_45 rfl (lv_at hl 2 rfl) ?_
        exact hret () h hw dX10_notFollowing_46 rfl
      · have h := h.2 c_9
        refine lv_iload_n hx hb dX10_notFollowing_12 rfl (lv_at hl 2 rfl) ?_
        refine lv_iload_n hx hb dX10_notFollowing_13 rfl (lv_at hl 1 rfl) ?_
        refine lv_iload_n hx hb dX10_notFollowing_14 rfl (lv_at hl 3 rfl) ?_
        refine callSi (As := [.int x1, .int x3]) (rest := [.int x2]) C hw hl (c_Mo_has l g x1 x3 _ h) tw_1111 kk_X10_has rfl ⟨rfl, rfl⟩ ⟨by decide, by decide⟩ (Nat.le_of_ble_eq_true rfl) rfl dX10_notFollowing_15 (fun r_2 u H locs h hw => ?_)
        refine lv_if_eq (tgt := 36) hx hb dX10_notFollowing_18 (by decide) (fun c_18 => ?_) (fun c_18 => ?_)
        · have h := h.1 c_18
          exact hB_Mo_notFollowing_36 (L_Mo_notFollowing_4 x1 t_points t_cases t_one t_weight Q n) ih x3 x2 h _ _ _ hw (lv_sub hl [0, 1, 3] rfl)
        · have h := h.2 c_18
          refine lv_aload_n hx hb dX10_notFollowing_21 rfl (lv_at hl 0 rfl) ?_
          refine lv_iload_n hx hb dX10_notFollowing_22 rfl (lv_at hl 3 rfl) ?_
          refine lv_iload_n hx hb dX10_notFollowing_23 rfl (lv_at hl 1 rfl) ?_
          refine callVi (As := [.int x3, .int x1]) (rest := [.int x2]) (W2 := fun _ => (cs_Mo_notFollowing g a_t a_t_one a_t_weight a_t_cost a_t_text a_t_read a_t_likes a_t_judged a_t_met a_t_line a_t_image a_t_isKept a_t_had t_points t_cases t_bytes t_position t_tokenAt t_token t_digits t_number t_row t_isRow t_faultAt t_readMany t_readPoints t_readCases t_suitOne t_suitTwo t_one t_weight)) C hw hl (c_Mo_follows l g a_t a_t_one a_t_weight a_t_cost a_t_text a_t_read a_t_likes a_t_judged a_t_met a_t_line a_t_image a_t_isKept a_t_had t_points t_cases t_bytes t_position t_tokenAt t_token t_digits t_number t_row t_isRow t_faultAt t_readMany t_readPoints t_readCases t_suitOne t_suitTwo t_one t_weight x3 x1 _ h) tw_1201 kk_X10_follows rfl ⟨rfl, rfl⟩ ⟨by decide, by decide⟩ (Nat.le_of_ble_eq_true rfl) 0 rfl rfl rfl [0, 1, 2] [] [0, 1, 2] rfl rfl rfl rfl rfl rfl (fun u => rfl) rfl dX10_notFollowing_24 (fun r_3 u H locs h hw => ?_)
          refine lv_if_ne (tgt := 36) hx hb dX10_notFollowing_27 (by decide) (fun c_27 => ?_) (fun c_27 => ?_)
          · have h := h.1 c_27
            exact hB_Mo_notFollowing_36 (L_Mo_notFollowing_4 x1 t_points t_cases t_one t_weight Q n) ih x3 x2 h _ _ _ hw (lv_sub hl [0, 1, 3] rfl)
          · have h := h.2 c_27
            refine lv_iconst (v := 1) hx hb dX10_notFollowing_30 (by decide) ?_
            refine lv_iload_n hx hb dX10_notFollowing_31 rfl (lv_at hl 3 rfl) ?_
            refine lv_ishl hx hb dX10_notFollowing_32 ?_
            refine lv_goto (tgt := 37) hx hb dX10_notFollowing_33 (by decide) ?_
            exact hB_Mo_notFollowing_37 (L_Mo_notFollowing_4 x1 t_points t_cases t_one t_weight Q n) ih x3 x2 (1 <<< (x3 &&& 31)) h _ _ _ hw (lv_sub hl [0, 1, 3] rfl)
  refine lv_iconst (v := 0) hx hb dX10_notFollowing_0 (by decide) ?_
  refine lv_istore_n (lv' := [(2, .int 0), (0, .ref a_t), (1, .int x1)]) hx hb dX10_notFollowing_1 rfl hl (by decide) rfl (fun ls hl => ?_)
  refine lv_iconst (v := 0) hx hb dX10_notFollowing_2 (by decide) ?_
  refine lv_istore_n (lv' := [(3, .int 0), (2, .int 0), (0, .ref a_t), (1, .int x1)]) hx hb dX10_notFollowing_3 rfl hl (by decide) rfl (fun ls hl => ?_)
  obtain ⟨n_4, h⟩ := h
  exact hL_Mo_notFollowing_4 n_4 0 0 h _ _ _ hw (lv_sub hl [2, 3, 1, 0] rfl)
def P_Mo_forged (t_points : Int32) (t_cases : Int32) (t_one : (Nat → Int32)) (t_weight : (Nat → Int32)) (Q : Int32 → Prop) : Prop := P_Mo_all t_cases (fun r_1 => P_Mo_notFollowing r_1 t_points t_cases t_one t_weight (fun r_2 => Q r_2))
abbrev rm_Mo_forged : Room := { frames := 5, cells := 0, slots := 0, locals := 119 }
def cs_Mo_forged (g : GE) (a_t a_t_one a_t_weight a_t_cost a_t_text a_t_read a_t_likes a_t_judged a_t_met a_t_line a_t_image a_t_isKept a_t_had : Nat) (t_points : Int32) (t_cases : Int32) (t_bytes : Int32) (t_position : Int32) (t_tokenAt : Int32) (t_token : Int64) (t_digits : Int32) (t_number : Int32) (t_row : Int32) (t_isRow : Int32) (t_faultAt : Int32) (t_readMany : Int32) (t_readPoints : Int32) (t_readCases : Int32) (t_suitOne : Int32) (t_suitTwo : Int32) (t_one : (Nat → Int32)) (t_weight : (Nat → Int32)) : va_W := [oc a_t 10 [.int t_points, .ref a_t_weight, .ref a_t_cost, .int t_cases, .ref a_t_one, .int t_bytes, .ref a_t_text, .int t_position, .int t_tokenAt, .long t_token, .int t_digits, .int t_number, .int t_row, .int t_isRow, .int t_faultAt, .int t_readMany, .int t_readPoints, .int t_readCases, .ref a_t_read, .ref a_t_likes, .ref a_t_judged, .ref a_t_met, .ref a_t_line, .ref a_t_image, .ref a_t_isKept, .int t_suitOne, .int t_suitTwo, .ref a_t_had], ai g a_t_one 56 t_one, ai g a_t_weight 10 t_weight]
set_option maxHeartbeats 4000000 in
set_option maxRecDepth 100000 in
theorem c_Mo_forged (l : Launch) (g : GE) (a_t a_t_one a_t_weight a_t_cost a_t_text a_t_read a_t_likes a_t_judged a_t_met a_t_line a_t_image a_t_isKept a_t_had : Nat) (t_points : Int32) (t_cases : Int32) (t_bytes : Int32) (t_position : Int32) (t_tokenAt : Int32) (t_token : Int64) (t_digits : Int32) (t_number : Int32) (t_row : Int32) (t_isRow : Int32) (t_faultAt : Int32) (t_readMany : Int32) (t_readPoints : Int32) (t_readCases : Int32) (t_suitOne : Int32) (t_suitTwo : Int32) (t_one : (Nat → Int32)) (t_weight : (Nat → Int32)) (Q : Int32 → Prop) (h : P_Mo_forged t_points t_cases t_one t_weight Q) : Cti l g yX10_forged cX10_forged 1 (some .int) rm_Mo_forged [.ref a_t] (cs_Mo_forged g a_t a_t_one a_t_weight a_t_cost a_t_text a_t_read a_t_likes a_t_judged a_t_met a_t_line a_t_image a_t_isKept a_t_had t_points t_cases t_bytes t_position t_tokenAt t_token t_digits t_number t_row t_isRow t_faultAt t_readMany t_readPoints t_readCases t_suitOne t_suitTwo t_one t_weight) (S := Unit) (fun r u => Q r) (fun _ => (cs_Mo_forged g a_t a_t_one a_t_weight a_t_cost a_t_text a_t_read a_t_likes a_t_judged a_t_met a_t_line a_t_image a_t_isKept a_t_had t_points t_cases t_bytes t_position t_tokenAt t_token t_digits t_number t_row t_isRow t_faultAt t_readMany t_readPoints t_readCases t_suitOne t_suitTwo t_one t_weight)) := by
  refine meetI rfl (Nat.le_of_ble_eq_true rfl) ⟨rfl, rfl⟩ ?_
  intro p e s m args below meth c A Qf ls C hret hw hl
  have hx := C.1
  have hb := C.2.1
  have hown := C.2.2.2.1
  have hts := C.2.2.2.2.1
  have hE := C.2.2.2.2.2.1
  have hl : lv_has ls 1 [(0, .ref a_t)] := hl
  refine lv_aload_n hx hb dX10_forged_0 rfl (lv_at hl 0 rfl) ?_
  refine lv_aload_n hx hb dX10_forged_1 rfl (lv_at hl 0 rfl) ?_
  refine callVi (As := []) (rest := [.ref a_t]) (W2 := fun _ => (cs_Mo_forged g a_t a_t_one a_t_weight a_t_cost a_t_text a_t_read a_t_likes a_t_judged a_t_met a_t_line a_t_image a_t_isKept a_t_had t_points t_cases t_bytes t_position t_tokenAt t_token t_digits t_number t_row t_isRow t_faultAt t_readMany t_readPoints t_readCases t_suitOne t_suitTwo t_one t_weight)) C hw hl (c_Mo_all l g a_t a_t_weight a_t_cost a_t_one a_t_text a_t_read a_t_likes a_t_judged a_t_met a_t_line a_t_image a_t_isKept a_t_had t_points t_cases t_bytes t_position t_tokenAt t_token t_digits t_number t_row t_isRow t_faultAt t_readMany t_readPoints t_readCases t_suitOne t_suitTwo _ h) tw_1103 kk_X10_all rfl ⟨rfl, rfl⟩ ⟨by decide, by decide⟩ (Nat.le_of_ble_eq_true rfl) 0 rfl rfl rfl [0] [1, 2] [2, 0, 1] rfl rfl rfl rfl rfl rfl (fun u => rfl) rfl dX10_forged_2 (fun r_1 u H locs h hw => ?_)
  refine callVi (As := [.int r_1]) (rest := []) (W2 := fun _ => (cs_Mo_forged g a_t a_t_one a_t_weight a_t_cost a_t_text a_t_read a_t_likes a_t_judged a_t_met a_t_line a_t_image a_t_isKept a_t_had t_points t_cases t_bytes t_position t_tokenAt t_token t_digits t_number t_row t_isRow t_faultAt t_readMany t_readPoints t_readCases t_suitOne t_suitTwo t_one t_weight)) C hw hl (c_Mo_notFollowing l g a_t a_t_one a_t_weight a_t_cost a_t_text a_t_read a_t_likes a_t_judged a_t_met a_t_line a_t_image a_t_isKept a_t_had t_points t_cases t_bytes t_position t_tokenAt t_token t_digits t_number t_row t_isRow t_faultAt t_readMany t_readPoints t_readCases t_suitOne t_suitTwo t_one t_weight r_1 _ h) tw_1197 kk_X10_notFollowing rfl ⟨rfl, rfl⟩ ⟨by decide, by decide⟩ (Nat.le_of_ble_eq_true rfl) 0 rfl rfl rfl [0, 1, 2] [] [0, 1, 2] rfl rfl rfl rfl rfl rfl (fun u => rfl) rfl dX10_forged_5 (fun r_2 u H locs h hw => ?_)
  exact hret () h hw dX10_forged_8 rfl
def B_Mo_cleaned_84 (x1 : Int32) (t_points : Int32) (t_cases : Int32) (t_one : (Nat → Int32)) (t_weight : (Nat → Int32)) (Q : Int32 → Prop) (k0 : Int32) : Prop := Q k0
def B_Mo_cleaned_66 (x1 : Int32) (t_points : Int32) (t_cases : Int32) (t_one : (Nat → Int32)) (t_weight : (Nat → Int32)) (Q : Int32 → Prop) (N_34 : Int32 → Int32 → Prop) (x2 : Int32) (x3 : Int32) : Prop := N_34 x2 (x3 + (-1))
def L_Mo_cleaned_34 (x1 : Int32) (t_points : Int32) (t_cases : Int32) (t_one : (Nat → Int32)) (t_weight : (Nat → Int32)) (Q : Int32 → Prop) : Nat → Int32 → Int32 → Prop
  | 0 => fun _ _ => False
  | n + 1 => fun x2 x3 => (x3 < 0 → (¬ x1 = 0 → B_Mo_cleaned_84 x1 t_points t_cases t_one t_weight Q x2) ∧ (x1 = 0 → P_Mo_bits x2 (fun r_1 => B_Mo_cleaned_84 x1 t_points t_cases t_one t_weight Q r_1))) ∧ (¬ x3 < 0 → P_Mo_bits x3 (fun r_2 => P_Mo_bits x2 (fun r_3 => (r_3 < r_2 → B_Mo_cleaned_66 x1 t_points t_cases t_one t_weight Q (L_Mo_cleaned_34 x1 t_points t_cases t_one t_weight Q n) x2 x3) ∧ (¬ r_3 < r_2 → P_Mo_all t_cases (fun r_4 => P_Mo_notFollowing (r_4 &&& (x3 ^^^ (-1))) t_points t_cases t_one t_weight (fun r_5 => (¬ r_5 = 0 → B_Mo_cleaned_66 x1 t_points t_cases t_one t_weight Q (L_Mo_cleaned_34 x1 t_points t_cases t_one t_weight Q n) x2 x3) ∧ (r_5 = 0 → B_Mo_cleaned_66 x1 t_points t_cases t_one t_weight Q (L_Mo_cleaned_34 x1 t_points t_cases t_one t_weight Q n) x3 x3)))))))
def P_Mo_cleaned (x1 : Int32) (t_points : Int32) (t_cases : Int32) (t_one : (Nat → Int32)) (t_weight : (Nat → Int32)) (Q : Int32 → Prop) : Prop := P_Mo_in x1 0 1 (fun r_6 => (¬ r_6 = 0 → (t_cases ≤ 10 → P_Mo_all t_cases (fun r_7 => P_Mo_all t_cases (fun r_8 => ∃ n_34 : Nat, L_Mo_cleaned_34 x1 t_points t_cases t_one t_weight Q n_34 r_7 r_8))) ∧ (¬ t_cases ≤ 10 → Q (-4))) ∧ (r_6 = 0 → Q (-3)))
abbrev rm_Mo_cleaned : Room := { frames := 5, cells := 0, slots := 0, locals := 119 }
def cs_Mo_cleaned (g : GE) (a_t a_t_one a_t_weight a_t_cost a_t_text a_t_read a_t_likes a_t_judged a_t_met a_t_line a_t_image a_t_isKept a_t_had : Nat) (t_points : Int32) (t_cases : Int32) (t_bytes : Int32) (t_position : Int32) (t_tokenAt : Int32) (t_token : Int64) (t_digits : Int32) (t_number : Int32) (t_row : Int32) (t_isRow : Int32) (t_faultAt : Int32) (t_readMany : Int32) (t_readPoints : Int32) (t_readCases : Int32) (t_suitOne : Int32) (t_suitTwo : Int32) (t_one : (Nat → Int32)) (t_weight : (Nat → Int32)) : va_W := [oc a_t 10 [.int t_points, .ref a_t_weight, .ref a_t_cost, .int t_cases, .ref a_t_one, .int t_bytes, .ref a_t_text, .int t_position, .int t_tokenAt, .long t_token, .int t_digits, .int t_number, .int t_row, .int t_isRow, .int t_faultAt, .int t_readMany, .int t_readPoints, .int t_readCases, .ref a_t_read, .ref a_t_likes, .ref a_t_judged, .ref a_t_met, .ref a_t_line, .ref a_t_image, .ref a_t_isKept, .int t_suitOne, .int t_suitTwo, .ref a_t_had], ai g a_t_one 56 t_one, ai g a_t_weight 10 t_weight]
set_option maxHeartbeats 4000000 in
set_option maxRecDepth 100000 in
theorem c_Mo_cleaned (l : Launch) (g : GE) (a_t a_t_one a_t_weight a_t_cost a_t_text a_t_read a_t_likes a_t_judged a_t_met a_t_line a_t_image a_t_isKept a_t_had : Nat) (t_points : Int32) (t_cases : Int32) (t_bytes : Int32) (t_position : Int32) (t_tokenAt : Int32) (t_token : Int64) (t_digits : Int32) (t_number : Int32) (t_row : Int32) (t_isRow : Int32) (t_faultAt : Int32) (t_readMany : Int32) (t_readPoints : Int32) (t_readCases : Int32) (t_suitOne : Int32) (t_suitTwo : Int32) (t_one : (Nat → Int32)) (t_weight : (Nat → Int32)) (x1 : Int32) (Q : Int32 → Prop) (h : P_Mo_cleaned x1 t_points t_cases t_one t_weight Q) : Cti l g yX10_cleaned cX10_cleaned 4 (some .int) rm_Mo_cleaned [.ref a_t, .int x1] (cs_Mo_cleaned g a_t a_t_one a_t_weight a_t_cost a_t_text a_t_read a_t_likes a_t_judged a_t_met a_t_line a_t_image a_t_isKept a_t_had t_points t_cases t_bytes t_position t_tokenAt t_token t_digits t_number t_row t_isRow t_faultAt t_readMany t_readPoints t_readCases t_suitOne t_suitTwo t_one t_weight) (S := Unit) (fun r u => Q r) (fun _ => (cs_Mo_cleaned g a_t a_t_one a_t_weight a_t_cost a_t_text a_t_read a_t_likes a_t_judged a_t_met a_t_line a_t_image a_t_isKept a_t_had t_points t_cases t_bytes t_position t_tokenAt t_token t_digits t_number t_row t_isRow t_faultAt t_readMany t_readPoints t_readCases t_suitOne t_suitTwo t_one t_weight)) := by
  refine meetI rfl (Nat.le_of_ble_eq_true rfl) ⟨rfl, rfl⟩ ?_
  intro p e s m args below meth c A Qf ls C hret hw hl
  have hx := C.1
  have hb := C.2.1
  have hown := C.2.2.2.1
  have hts := C.2.2.2.2.1
  have hE := C.2.2.2.2.2.1
  have hl : lv_has ls 4 [(0, .ref a_t), (1, .int x1)] := hl
  have hB_Mo_cleaned_84 : ∀ (k0 : Int32), B_Mo_cleaned_84 x1 t_points t_cases t_one t_weight Q k0 → Wat p l e rm_Mo_cleaned s m args below meth c A Qf g 4 (cs_Mo_cleaned g a_t a_t_one a_t_weight a_t_cost a_t_text a_t_read a_t_likes a_t_judged a_t_met a_t_line a_t_image a_t_isKept a_t_had t_points t_cases t_bytes t_position t_tokenAt t_token t_digits t_number t_row t_isRow t_faultAt t_readMany t_readPoints t_readCases t_suitOne t_suitTwo t_one t_weight) [] 84 [.int k0] := by
    intro k0 h H locs ls hw hl
    exact hret () h hw dX10_cleaned_84 rfl
  have hB_Mo_cleaned_66 : ∀ (N_34 : Int32 → Int32 → Prop) (hN_34 : ∀ (x2 : Int32) (x3 : Int32), N_34 x2 x3 → Wat p l e rm_Mo_cleaned s m args below meth c A Qf g 4 (cs_Mo_cleaned g a_t a_t_one a_t_weight a_t_cost a_t_text a_t_read a_t_likes a_t_judged a_t_met a_t_line a_t_image a_t_isKept a_t_had t_points t_cases t_bytes t_position t_tokenAt t_token t_digits t_number t_row t_isRow t_faultAt t_readMany t_readPoints t_readCases t_suitOne t_suitTwo t_one t_weight) [(0, .ref a_t), (1, .int x1), (2, .int x2), (3, .int x3)] 34 []) (x2 : Int32) (x3 : Int32), B_Mo_cleaned_66 x1 t_points t_cases t_one t_weight Q N_34 x2 x3 → Wat p l e rm_Mo_cleaned s m args below meth c A Qf g 4 (cs_Mo_cleaned g a_t a_t_one a_t_weight a_t_cost a_t_text a_t_read a_t_likes a_t_judged a_t_met a_t_line a_t_image a_t_isKept a_t_had t_points t_cases t_bytes t_position t_tokenAt t_token t_digits t_number t_row t_isRow t_faultAt t_readMany t_readPoints t_readCases t_suitOne t_suitTwo t_one t_weight) [(0, .ref a_t), (1, .int x1), (2, .int x2), (3, .int x3)] 66 [] := by
    intro N_34 hN_34 x2 x3 h H locs ls hw hl
    refine lv_iinc (v := x3 + (-1)) (lv' := [(3, .int (x3 + (-1))), (0, .ref a_t), (1, .int x1), (2, .int x2)]) hx hb dX10_cleaned_66 hl (k := 3) rfl rfl (by decide) rfl (fun ls hl => ?_)
    refine lv_goto (tgt := 34) hx hb dX10_cleaned_69 (by decide) ?_
    exact hN_34 x2 (x3 + (-1)) h _ _ _ hw (lv_sub hl [1, 2, 3, 0] rfl)
  have hL_Mo_cleaned_34 : ∀ (n : Nat) (x2 : Int32) (x3 : Int32), L_Mo_cleaned_34 x1 t_points t_cases t_one t_weight Q n x2 x3 → Wat p l e rm_Mo_cleaned s m args below meth c A Qf g 4 (cs_Mo_cleaned g a_t a_t_one a_t_weight a_t_cost a_t_text a_t_read a_t_likes a_t_judged a_t_met a_t_line a_t_image a_t_isKept a_t_had t_points t_cases t_bytes t_position t_tokenAt t_token t_digits t_number t_row t_isRow t_faultAt t_readMany t_readPoints t_readCases t_suitOne t_suitTwo t_one t_weight) [(0, .ref a_t), (1, .int x1), (2, .int x2), (3, .int x3)] 34 [] := by
    intro n
    induction n with
    | zero => intro x2 x3 h; exact absurd h id
    | succ n ih =>
      intro x2 x3 h H locs ls hw hl
      rw [L_Mo_cleaned_34] at h
      refine lv_iload_n hx hb dX10_cleaned_34 rfl (lv_at hl 3 rfl) ?_
      refine lv_if_lt (tgt := 72) hx hb dX10_cleaned_35 (by decide) (fun c_35 => ?_) (fun c_35 => ?_)
      · have h := h.1 c_35
        refine lv_iload_n hx hb dX10_cleaned_72 rfl (lv_at hl 1 rfl) ?_
        refine lv_if_ne (tgt := 83) hx hb dX10_cleaned_73 (by decide) (fun c_73 => ?_) (fun c_73 => ?_)
        · have h := h.1 c_73
          refine lv_iload_n hx hb dX10_cleaned_83 rfl (lv_at hl 2 rfl) ?_
          exact hB_Mo_cleaned_84 x2 h _ _ _ hw (lv_sub hl [] rfl)
        · have h := h.2 c_73
          refine lv_iload_n hx hb dX10_cleaned_76 rfl (lv_at hl 2 rfl) ?_
          refine callSi (As := [.int x2]) (rest := []) C hw hl (c_Mo_bits l g x2 _ h) tw_1177 kk_X10_bits rfl ⟨rfl, rfl⟩ ⟨by decide, by decide⟩ (Nat.le_of_ble_eq_true rfl) rfl dX10_cleaned_77 (fun r_1 u H locs h hw => ?_)
          refine lv_goto (tgt := 84) hx hb dX10_cleaned_80 (by decide) ?_
          exact hB_Mo_cleaned_84 r_1 h _ _ _ hw (lv_sub hl [] rfl)
      · have h := h.2 c_35
        refine lv_iload_n hx hb dX10_cleaned_38 rfl (lv_at hl 3 rfl) ?_
        refine callSi (As := [.int x3]) (rest := []) C hw hl (c_Mo_bits l g x3 _ h) tw_1177 kk_X10_bits rfl ⟨rfl, rfl⟩ ⟨by decide, by decide⟩ (Nat.le_of_ble_eq_true rfl) rfl dX10_cleaned_39 (fun r_2 u H locs h hw => ?_)
        refine lv_iload_n hx hb dX10_cleaned_42 rfl (lv_at hl 2 rfl) ?_
        refine callSi (As := [.int x2]) (rest := [.int r_2]) C hw hl (c_Mo_bits l g x2 _ h) tw_1177 kk_X10_bits rfl ⟨rfl, rfl⟩ ⟨by decide, by decide⟩ (Nat.le_of_ble_eq_true rfl) rfl dX10_cleaned_43 (fun r_3 u H locs h hw => ?_)
        refine lv_icmp_gt (tgt := 66) hx hb dX10_cleaned_46 (by decide) (fun c_46 => ?_) (fun c_46 => ?_)
        · have h := h.1 c_46
          exact hB_Mo_cleaned_66 (L_Mo_cleaned_34 x1 t_points t_cases t_one t_weight Q n) ih x2 x3 h _ _ _ hw (lv_sub hl [0, 1, 2, 3] rfl)
        · have h := h.2 c_46
          refine lv_aload_n hx hb dX10_cleaned_49 rfl (lv_at hl 0 rfl) ?_
          refine lv_aload_n hx hb dX10_cleaned_50 rfl (lv_at hl 0 rfl) ?_
          refine callVi (As := []) (rest := [.ref a_t]) (W2 := fun _ => (cs_Mo_cleaned g a_t a_t_one a_t_weight a_t_cost a_t_text a_t_read a_t_likes a_t_judged a_t_met a_t_line a_t_image a_t_isKept a_t_had t_points t_cases t_bytes t_position t_tokenAt t_token t_digits t_number t_row t_isRow t_faultAt t_readMany t_readPoints t_readCases t_suitOne t_suitTwo t_one t_weight)) C hw hl (c_Mo_all l g a_t a_t_weight a_t_cost a_t_one a_t_text a_t_read a_t_likes a_t_judged a_t_met a_t_line a_t_image a_t_isKept a_t_had t_points t_cases t_bytes t_position t_tokenAt t_token t_digits t_number t_row t_isRow t_faultAt t_readMany t_readPoints t_readCases t_suitOne t_suitTwo _ h) tw_1103 kk_X10_all rfl ⟨rfl, rfl⟩ ⟨by decide, by decide⟩ (Nat.le_of_ble_eq_true rfl) 0 rfl rfl rfl [0] [1, 2] [2, 0, 1] rfl rfl rfl rfl rfl rfl (fun u => rfl) rfl dX10_cleaned_51 (fun r_4 u H locs h hw => ?_)
          refine lv_iload_n hx hb dX10_cleaned_54 rfl (lv_at hl 3 rfl) ?_
          refine lv_iconst (v := (-1)) hx hb dX10_cleaned_55 (by decide) ?_
          refine lv_ixor hx hb dX10_cleaned_56 ?_
          refine lv_iand hx hb dX10_cleaned_57 ?_
          refine callVi (As := [.int (r_4 &&& (x3 ^^^ (-1)))]) (rest := []) (W2 := fun _ => (cs_Mo_cleaned g a_t a_t_one a_t_weight a_t_cost a_t_text a_t_read a_t_likes a_t_judged a_t_met a_t_line a_t_image a_t_isKept a_t_had t_points t_cases t_bytes t_position t_tokenAt t_token t_digits t_number t_row t_isRow t_faultAt t_readMany t_readPoints t_readCases t_suitOne t_suitTwo t_one t_weight)) C hw hl (c_Mo_notFollowing l g a_t a_t_one a_t_weight a_t_cost a_t_text a_t_read a_t_likes a_t_judged a_t_met a_t_line a_t_image a_t_isKept a_t_had t_points t_cases t_bytes t_position t_tokenAt t_token t_digits t_number t_row t_isRow t_faultAt t_readMany t_readPoints t_readCases t_suitOne t_suitTwo t_one t_weight (r_4 &&& (x3 ^^^ (-1))) _ h) tw_1197 kk_X10_notFollowing rfl ⟨rfl, rfl⟩ ⟨by decide, by decide⟩ (Nat.le_of_ble_eq_true rfl) 0 rfl rfl rfl [0, 1, 2] [] [0, 1, 2] rfl rfl rfl rfl rfl rfl (fun u => rfl) rfl dX10_cleaned_58 (fun r_5 u H locs h hw => ?_)
          refine lv_if_ne (tgt := 66) hx hb dX10_cleaned_61 (by decide) (fun c_61 => ?_) (fun c_61 => ?_)
          · have h := h.1 c_61
            exact hB_Mo_cleaned_66 (L_Mo_cleaned_34 x1 t_points t_cases t_one t_weight Q n) ih x2 x3 h _ _ _ hw (lv_sub hl [0, 1, 2, 3] rfl)
          · have h := h.2 c_61
            refine lv_iload_n hx hb dX10_cleaned_64 rfl (lv_at hl 3 rfl) ?_
            refine lv_istore_n (lv' := [(2, .int x3), (0, .ref a_t), (1, .int x1), (3, .int x3)]) hx hb dX10_cleaned_65 rfl hl (by decide) rfl (fun ls hl => ?_)
            exact hB_Mo_cleaned_66 (L_Mo_cleaned_34 x1 t_points t_cases t_one t_weight Q n) ih x3 x3 h _ _ _ hw (lv_sub hl [1, 2, 0, 3] rfl)
  refine lv_iload_n hx hb dX10_cleaned_0 rfl (lv_at hl 1 rfl) ?_
  refine lv_iconst (v := 0) hx hb dX10_cleaned_1 (by decide) ?_
  refine lv_iconst (v := 1) hx hb dX10_cleaned_2 (by decide) ?_
  refine callSi (As := [.int x1, .int 0, .int 1]) (rest := []) C hw hl (c_Mo_in l g x1 0 1 _ h) tw_999 kk_X10_in rfl ⟨rfl, rfl⟩ ⟨by decide, by decide⟩ (Nat.le_of_ble_eq_true rfl) rfl dX10_cleaned_3 (fun r_6 u H locs h hw => ?_)
  refine lv_if_ne (tgt := 12) hx hb dX10_cleaned_6 (by decide) (fun c_6 => ?_) (fun c_6 => ?_)
  · have h := h.1 c_6
    refine lv_aload_n hx hb dX10_cleaned_12 rfl (lv_at hl 0 rfl) ?_
    refine G_RX10_54 C hw 0 rfl dX10_cleaned_13 ?_
    refine lv_bipush (v := 10) hx hb dX10_cleaned_16 (by decide) ?_
    refine lv_icmp_le (tgt := 24) hx hb dX10_cleaned_18 (by decide) (fun c_18 => ?_) (fun c_18 => ?_)
    · have h := h.1 c_18
      refine lv_aload_n hx hb dX10_cleaned_24 rfl (lv_at hl 0 rfl) ?_
      refine callVi (As := []) (rest := []) (W2 := fun _ => (cs_Mo_cleaned g a_t a_t_one a_t_weight a_t_cost a_t_text a_t_read a_t_likes a_t_judged a_t_met a_t_line a_t_image a_t_isKept a_t_had t_points t_cases t_bytes t_position t_tokenAt t_token t_digits t_number t_row t_isRow t_faultAt t_readMany t_readPoints t_readCases t_suitOne t_suitTwo t_one t_weight)) C hw hl (c_Mo_all l g a_t a_t_weight a_t_cost a_t_one a_t_text a_t_read a_t_likes a_t_judged a_t_met a_t_line a_t_image a_t_isKept a_t_had t_points t_cases t_bytes t_position t_tokenAt t_token t_digits t_number t_row t_isRow t_faultAt t_readMany t_readPoints t_readCases t_suitOne t_suitTwo _ h) tw_1103 kk_X10_all rfl ⟨rfl, rfl⟩ ⟨by decide, by decide⟩ (Nat.le_of_ble_eq_true rfl) 0 rfl rfl rfl [0] [1, 2] [2, 0, 1] rfl rfl rfl rfl rfl rfl (fun u => rfl) rfl dX10_cleaned_25 (fun r_7 u H locs h hw => ?_)
      refine lv_istore_n (lv' := [(2, .int r_7), (0, .ref a_t), (1, .int x1)]) hx hb dX10_cleaned_28 rfl hl (by decide) rfl (fun ls hl => ?_)
      refine lv_aload_n hx hb dX10_cleaned_29 rfl (lv_at hl 1 rfl) ?_
      refine callVi (As := []) (rest := []) (W2 := fun _ => (cs_Mo_cleaned g a_t a_t_one a_t_weight a_t_cost a_t_text a_t_read a_t_likes a_t_judged a_t_met a_t_line a_t_image a_t_isKept a_t_had t_points t_cases t_bytes t_position t_tokenAt t_token t_digits t_number t_row t_isRow t_faultAt t_readMany t_readPoints t_readCases t_suitOne t_suitTwo t_one t_weight)) C hw hl (c_Mo_all l g a_t a_t_weight a_t_cost a_t_one a_t_text a_t_read a_t_likes a_t_judged a_t_met a_t_line a_t_image a_t_isKept a_t_had t_points t_cases t_bytes t_position t_tokenAt t_token t_digits t_number t_row t_isRow t_faultAt t_readMany t_readPoints t_readCases t_suitOne t_suitTwo _ h) tw_1103 kk_X10_all rfl ⟨rfl, rfl⟩ ⟨by decide, by decide⟩ (Nat.le_of_ble_eq_true rfl) 0 rfl rfl rfl [0] [1, 2] [2, 0, 1] rfl rfl rfl rfl rfl rfl (fun u => rfl) rfl dX10_cleaned_30 (fun r_8 u H locs h hw => ?_)
      refine lv_istore_n (lv' := [(3, .int r_8), (2, .int r_7), (0, .ref a_t), (1, .int x1)]) hx hb dX10_cleaned_33 rfl hl (by decide) rfl (fun ls hl => ?_)
      obtain ⟨n_34, h⟩ := h
      exact hL_Mo_cleaned_34 n_34 r_7 r_8 h _ _ _ hw (lv_sub hl [2, 3, 1, 0] rfl)
    · have h := h.2 c_18
      refine lv_bipush (v := (-4)) hx hb dX10_cleaned_21 (by decide) ?_
      exact hret () h hw dX10_cleaned_23 rfl
  · have h := h.2 c_6
    refine lv_bipush (v := (-3)) hx hb dX10_cleaned_9 (by decide) ?_
    exact hret () h hw dX10_cleaned_11 rfl
def B_Mo_hang_207 (x1 : Int32) (t_points : Int32) (t_cases : Int32) (t_one : (Nat → Int32)) (Q : Int32 → (Nat → Int32) → (Nat → Int32) → Prop) (k0 : Int32) (t_had : (Nat → Int32)) (t_weight : (Nat → Int32)) : Prop := Q k0 t_had t_weight
def L_Mo_hang_167 (x1 : Int32) (t_points : Int32) (t_cases : Int32) (t_one : (Nat → Int32)) (Q : Int32 → (Nat → Int32) → (Nat → Int32) → Prop) : Nat → Int32 → Int32 → Int32 → (Nat → Int32) → (Nat → Int32) → Prop
  | 0 => fun _ _ _ _ _ => False
  | n + 1 => fun x3 x4 x5 t_had t_weight => (t_points ≤ x5 → (¬ x1 = (-1) → B_Mo_hang_207 x1 t_points t_cases t_one Q x4 t_had t_weight) ∧ (x1 = (-1) → B_Mo_hang_207 x1 t_points t_cases t_one Q x3 t_had t_weight)) ∧ (¬ t_points ≤ x5 → vp_in x5 10 ∧ (vp_in x5 10 ∧ ((L_Mo_hang_167 x1 t_points t_cases t_one Q n) x3 x4 (x5 + 1) t_had (upd t_weight x5.toNatClampNeg (t_had x5.toNatClampNeg)))))
def B_Mo_hang_158 (x1 : Int32) (t_points : Int32) (t_cases : Int32) (t_one : (Nat → Int32)) (Q : Int32 → (Nat → Int32) → (Nat → Int32) → Prop) (N_76 : Int32 → Int32 → Int32 → Int32 → (Nat → Int32) → (Nat → Int32) → Prop) (x2 : Int32) (x3 : Int32) (x4 : Int32) (x5 : Int32) (t_had : (Nat → Int32)) (t_weight : (Nat → Int32)) : Prop := N_76 x2 x3 x4 (x5 + 1) t_had t_weight
def B_Mo_hang_153 (x1 : Int32) (t_points : Int32) (t_cases : Int32) (t_one : (Nat → Int32)) (Q : Int32 → (Nat → Int32) → (Nat → Int32) → Prop) (N_76 : Int32 → Int32 → Int32 → Int32 → (Nat → Int32) → (Nat → Int32) → Prop) (x2 : Int32) (x3 : Int32) (x5 : Int32) (k0 : Int32) (t_had : (Nat → Int32)) (t_weight : (Nat → Int32)) : Prop := B_Mo_hang_158 x1 t_points t_cases t_one Q N_76 x2 (x3 + 1) k0 x5 t_had t_weight
def B_Mo_hang_151 (x1 : Int32) (t_points : Int32) (t_cases : Int32) (t_one : (Nat → Int32)) (Q : Int32 → (Nat → Int32) → (Nat → Int32) → Prop) (N_76 : Int32 → Int32 → Int32 → Int32 → (Nat → Int32) → (Nat → Int32) → Prop) (x2 : Int32) (x3 : Int32) (x4 : Int32) (x5 : Int32) (t_had : (Nat → Int32)) (t_weight : (Nat → Int32)) : Prop := B_Mo_hang_153 x1 t_points t_cases t_one Q N_76 x2 x3 x5 x4 t_had t_weight
def L_Mo_hang_94 (x1 : Int32) (t_points : Int32) (t_cases : Int32) (t_one : (Nat → Int32)) (Q : Int32 → (Nat → Int32) → (Nat → Int32) → Prop) (N_76 : Int32 → Int32 → Int32 → Int32 → (Nat → Int32) → (Nat → Int32) → Prop) : Nat → Int32 → Int32 → Int32 → Int32 → Int32 → Int32 → (Nat → Int32) → (Nat → Int32) → Prop
  | 0 => fun _ _ _ _ _ _ _ _ => False
  | n + 1 => fun x2 x3 x4 x5 x6 x7 t_had t_weight => (x7 < 0 → P_Mo_all t_cases (fun r_1 => P_Mo_notFollowing r_1 t_points t_cases t_one t_weight (fun r_2 => (¬ r_2 = 0 → B_Mo_hang_158 x1 t_points t_cases t_one Q N_76 x2 x3 x4 x5 t_had t_weight) ∧ (r_2 = 0 → (¬ x3 = 0 → B_Mo_hang_151 x1 t_points t_cases t_one Q N_76 x2 x3 x4 x5 t_had t_weight) ∧ (x3 = 0 → (x1 = (-1) → B_Mo_hang_151 x1 t_points t_cases t_one Q N_76 x2 x3 x4 x5 t_had t_weight) ∧ (¬ x1 = (-1) → vp_in x1 10 ∧ (B_Mo_hang_153 x1 t_points t_cases t_one Q N_76 x2 x3 x5 (t_weight x1.toNatClampNeg) t_had t_weight))))))) ∧ (¬ x7 < 0 → vp_in x7 10 ∧ (∀ x6_3 : Int32, x6_3 = (x6 / 3) → (L_Mo_hang_94 x1 t_points t_cases t_one Q N_76 n) x2 x3 x4 x5 x6_3 (x7 + (-1)) t_had (upd t_weight x7.toNatClampNeg (x6 - x6 / 3 * 3))))
def L_Mo_hang_76 (x1 : Int32) (t_points : Int32) (t_cases : Int32) (t_one : (Nat → Int32)) (Q : Int32 → (Nat → Int32) → (Nat → Int32) → Prop) : Nat → Int32 → Int32 → Int32 → Int32 → (Nat → Int32) → (Nat → Int32) → Prop
  | 0 => fun _ _ _ _ _ _ => False
  | n + 1 => fun x2 x3 x4 x5 t_had t_weight => (x2 ≤ x5 → ∃ n_167 : Nat, L_Mo_hang_167 x1 t_points t_cases t_one Q n_167 x3 x4 0 t_had t_weight) ∧ (¬ x2 ≤ x5 → ∀ x7_4 : Int32, x7_4 = (t_points - 1) → ∃ n_94 : Nat, L_Mo_hang_94 x1 t_points t_cases t_one Q (L_Mo_hang_76 x1 t_points t_cases t_one Q n) n_94 x2 x3 x4 x5 x5 x7_4 t_had t_weight)
def L_Mo_hang_38 (x1 : Int32) (t_points : Int32) (t_cases : Int32) (t_one : (Nat → Int32)) (Q : Int32 → (Nat → Int32) → (Nat → Int32) → Prop) : Nat → Int32 → Int32 → (Nat → Int32) → (Nat → Int32) → Prop
  | 0 => fun _ _ _ _ => False
  | n + 1 => fun x2 x3 t_had t_weight => (t_points ≤ x3 → ∃ n_76 : Nat, L_Mo_hang_76 x1 t_points t_cases t_one Q n_76 x2 0 (-1) 0 t_had t_weight) ∧ (¬ t_points ≤ x3 → vp_in x3 10 ∧ (vp_in x3 10 ∧ (∀ x2_5 : Int32, x2_5 = (x2 * 3) → (L_Mo_hang_38 x1 t_points t_cases t_one Q n) x2_5 (x3 + 1) (upd t_had x3.toNatClampNeg (t_weight x3.toNatClampNeg)) t_weight)))
def B_Mo_hang_22 (x1 : Int32) (t_points : Int32) (t_cases : Int32) (t_one : (Nat → Int32)) (Q : Int32 → (Nat → Int32) → (Nat → Int32) → Prop) (t_had : (Nat → Int32)) (t_weight : (Nat → Int32)) : Prop := (t_points ≤ 6 → ∃ n_38 : Nat, L_Mo_hang_38 x1 t_points t_cases t_one Q n_38 1 0 t_had t_weight) ∧ (¬ t_points ≤ 6 → Q (-4) t_had t_weight)
def P_Mo_hang (x1 : Int32) (t_points : Int32) (t_cases : Int32) (t_had : (Nat → Int32)) (t_one : (Nat → Int32)) (t_weight : (Nat → Int32)) (Q : Int32 → (Nat → Int32) → (Nat → Int32) → Prop) : Prop := (x1 = (-1) → B_Mo_hang_22 x1 t_points t_cases t_one Q t_had t_weight) ∧ (¬ x1 = (-1) → P_Mo_in x1 0 (t_points - 1) (fun r_6 => (¬ r_6 = 0 → B_Mo_hang_22 x1 t_points t_cases t_one Q t_had t_weight) ∧ (r_6 = 0 → Q (-2) t_had t_weight)))
abbrev rm_Mo_hang : Room := { frames := 5, cells := 0, slots := 0, locals := 119 }
def cs_Mo_hang (g : GE) (a_t a_t_had a_t_one a_t_weight a_t_cost a_t_text a_t_read a_t_likes a_t_judged a_t_met a_t_line a_t_image a_t_isKept : Nat) (t_points : Int32) (t_cases : Int32) (t_bytes : Int32) (t_position : Int32) (t_tokenAt : Int32) (t_token : Int64) (t_digits : Int32) (t_number : Int32) (t_row : Int32) (t_isRow : Int32) (t_faultAt : Int32) (t_readMany : Int32) (t_readPoints : Int32) (t_readCases : Int32) (t_suitOne : Int32) (t_suitTwo : Int32) (t_had : (Nat → Int32)) (t_one : (Nat → Int32)) (t_weight : (Nat → Int32)) : va_W := [oc a_t 10 [.int t_points, .ref a_t_weight, .ref a_t_cost, .int t_cases, .ref a_t_one, .int t_bytes, .ref a_t_text, .int t_position, .int t_tokenAt, .long t_token, .int t_digits, .int t_number, .int t_row, .int t_isRow, .int t_faultAt, .int t_readMany, .int t_readPoints, .int t_readCases, .ref a_t_read, .ref a_t_likes, .ref a_t_judged, .ref a_t_met, .ref a_t_line, .ref a_t_image, .ref a_t_isKept, .int t_suitOne, .int t_suitTwo, .ref a_t_had], ai g a_t_had 10 t_had, ai g a_t_one 56 t_one, ai g a_t_weight 10 t_weight]
set_option maxHeartbeats 4000000 in
set_option maxRecDepth 100000 in
theorem c_Mo_hang (l : Launch) (g : GE) (a_t a_t_had a_t_one a_t_weight a_t_cost a_t_text a_t_read a_t_likes a_t_judged a_t_met a_t_line a_t_image a_t_isKept : Nat) (t_points : Int32) (t_cases : Int32) (t_bytes : Int32) (t_position : Int32) (t_tokenAt : Int32) (t_token : Int64) (t_digits : Int32) (t_number : Int32) (t_row : Int32) (t_isRow : Int32) (t_faultAt : Int32) (t_readMany : Int32) (t_readPoints : Int32) (t_readCases : Int32) (t_suitOne : Int32) (t_suitTwo : Int32) (t_had : (Nat → Int32)) (t_one : (Nat → Int32)) (t_weight : (Nat → Int32)) (x1 : Int32) (Q : Int32 → (Nat → Int32) → (Nat → Int32) → Prop) (h : P_Mo_hang x1 t_points t_cases t_had t_one t_weight Q) : Cti l g yX10_hang cX10_hang 8 (some .int) rm_Mo_hang [.ref a_t, .int x1] (cs_Mo_hang g a_t a_t_had a_t_one a_t_weight a_t_cost a_t_text a_t_read a_t_likes a_t_judged a_t_met a_t_line a_t_image a_t_isKept t_points t_cases t_bytes t_position t_tokenAt t_token t_digits t_number t_row t_isRow t_faultAt t_readMany t_readPoints t_readCases t_suitOne t_suitTwo t_had t_one t_weight) (S := (Nat → Int32) × (Nat → Int32)) (fun r u => Q r u.1 u.2) (fun u => (cs_Mo_hang g a_t a_t_had a_t_one a_t_weight a_t_cost a_t_text a_t_read a_t_likes a_t_judged a_t_met a_t_line a_t_image a_t_isKept t_points t_cases t_bytes t_position t_tokenAt t_token t_digits t_number t_row t_isRow t_faultAt t_readMany t_readPoints t_readCases t_suitOne t_suitTwo (u.1) t_one (u.2))) := by
  refine meetI rfl (Nat.le_of_ble_eq_true rfl) ⟨rfl, rfl⟩ ?_
  intro p e s m args below meth c A Qf ls C hret hw hl
  have hx := C.1
  have hb := C.2.1
  have hown := C.2.2.2.1
  have hts := C.2.2.2.2.1
  have hE := C.2.2.2.2.2.1
  have hl : lv_has ls 8 [(0, .ref a_t), (1, .int x1)] := hl
  have hB_Mo_hang_207 : ∀ (k0 : Int32) (t_had : (Nat → Int32)) (t_weight : (Nat → Int32)), B_Mo_hang_207 x1 t_points t_cases t_one Q k0 t_had t_weight → Wat p l e rm_Mo_hang s m args below meth c A Qf g 8 (cs_Mo_hang g a_t a_t_had a_t_one a_t_weight a_t_cost a_t_text a_t_read a_t_likes a_t_judged a_t_met a_t_line a_t_image a_t_isKept t_points t_cases t_bytes t_position t_tokenAt t_token t_digits t_number t_row t_isRow t_faultAt t_readMany t_readPoints t_readCases t_suitOne t_suitTwo t_had t_one t_weight) [] 207 [.int k0] := by
    intro k0 t_had t_weight h H locs ls hw hl
    exact hret (t_had, t_weight) h hw dX10_hang_207 rfl
  have hL_Mo_hang_167 : ∀ (n : Nat) (x3 : Int32) (x4 : Int32) (x5 : Int32) (t_had : (Nat → Int32)) (t_weight : (Nat → Int32)), L_Mo_hang_167 x1 t_points t_cases t_one Q n x3 x4 x5 t_had t_weight → Wat p l e rm_Mo_hang s m args below meth c A Qf g 8 (cs_Mo_hang g a_t a_t_had a_t_one a_t_weight a_t_cost a_t_text a_t_read a_t_likes a_t_judged a_t_met a_t_line a_t_image a_t_isKept t_points t_cases t_bytes t_position t_tokenAt t_token t_digits t_number t_row t_isRow t_faultAt t_readMany t_readPoints t_readCases t_suitOne t_suitTwo t_had t_one t_weight) [(0, .ref a_t), (1, .int x1), (3, .int x3), (4, .int x4), (5, .int x5)] 167 [] := by
    intro n
    induction n with
    | zero => intro x3 x4 x5 t_had t_weight h; exact absurd h id
    | succ n ih =>
      intro x3 x4 x5 t_had t_weight h H locs ls hw hl
      rw [L_Mo_hang_167] at h
      refine lv_iload hx hb dX10_hang_167 (lv_at hl 4 rfl) ?_
      refine lv_aload_n hx hb dX10_hang_169 rfl (lv_at hl 0 rfl) ?_
      refine G_RX10_7 C hw 0 rfl dX10_hang_170 ?_
      refine lv_icmp_ge (tgt := 196) hx hb dX10_hang_173 (by decide) (fun c_173 => ?_) (fun c_173 => ?_)
      · have h := h.1 c_173
        refine lv_iload_n hx hb dX10_hang_196 rfl (lv_at hl 1 rfl) ?_
        refine lv_iconst (v := (-1)) hx hb dX10_hang_197 (by decide) ?_
        refine lv_icmp_ne (tgt := 205) hx hb dX10_hang_198 (by decide) (fun c_198 => ?_) (fun c_198 => ?_)
        · have h := h.1 c_198
          refine lv_iload hx hb dX10_hang_205 (lv_at hl 3 rfl) ?_
          exact hB_Mo_hang_207 x4 t_had t_weight h _ _ _ hw (lv_sub hl [] rfl)
        · have h := h.2 c_198
          refine lv_iload_n hx hb dX10_hang_201 rfl (lv_at hl 2 rfl) ?_
          refine lv_goto (tgt := 207) hx hb dX10_hang_202 (by decide) ?_
          exact hB_Mo_hang_207 x3 t_had t_weight h _ _ _ hw (lv_sub hl [] rfl)
      · have h := h.2 c_173
        refine lv_aload_n hx hb dX10_hang_176 rfl (lv_at hl 0 rfl) ?_
        refine G_RX10_13 C hw 0 rfl dX10_hang_177 ?_
        refine lv_iload hx hb dX10_hang_180 (lv_at hl 4 rfl) ?_
        refine lv_aload_n hx hb dX10_hang_182 rfl (lv_at hl 0 rfl) ?_
        refine G_RX10_48 C hw 0 rfl dX10_hang_183 ?_
        refine lv_iload hx hb dX10_hang_186 (lv_at hl 4 rfl) ?_
        refine aldI C hw 1 rfl h.1 dX10_hang_188 ?_
        have h := h.2
        refine astI (ws2 := (cs_Mo_hang g a_t a_t_had a_t_one a_t_weight a_t_cost a_t_text a_t_read a_t_likes a_t_judged a_t_met a_t_line a_t_image a_t_isKept t_points t_cases t_bytes t_position t_tokenAt t_token t_digits t_number t_row t_isRow t_faultAt t_readMany t_readPoints t_readCases t_suitOne t_suitTwo t_had t_one (upd t_weight x5.toNatClampNeg (t_had x5.toNatClampNeg)))) C hw 3 rfl h.1 rfl dX10_hang_189 (fun H locs hw => ?_)
        have h := h.2
        refine lv_iinc (v := x5 + 1) (lv' := [(5, .int (x5 + 1)), (0, .ref a_t), (1, .int x1), (3, .int x3), (4, .int x4)]) hx hb dX10_hang_190 hl (k := 4) rfl rfl (by decide) rfl (fun ls hl => ?_)
        refine lv_goto (tgt := 167) hx hb dX10_hang_193 (by decide) ?_
        exact ih x3 x4 (x5 + 1) t_had (upd t_weight x5.toNatClampNeg (t_had x5.toNatClampNeg)) h _ _ _ hw (lv_sub hl [1, 2, 3, 4, 0] rfl)
  have hB_Mo_hang_158 : ∀ (N_76 : Int32 → Int32 → Int32 → Int32 → (Nat → Int32) → (Nat → Int32) → Prop) (hN_76 : ∀ (x2 : Int32) (x3 : Int32) (x4 : Int32) (x5 : Int32) (t_had : (Nat → Int32)) (t_weight : (Nat → Int32)), N_76 x2 x3 x4 x5 t_had t_weight → Wat p l e rm_Mo_hang s m args below meth c A Qf g 8 (cs_Mo_hang g a_t a_t_had a_t_one a_t_weight a_t_cost a_t_text a_t_read a_t_likes a_t_judged a_t_met a_t_line a_t_image a_t_isKept t_points t_cases t_bytes t_position t_tokenAt t_token t_digits t_number t_row t_isRow t_faultAt t_readMany t_readPoints t_readCases t_suitOne t_suitTwo t_had t_one t_weight) [(0, .ref a_t), (1, .int x1), (2, .int x2), (3, .int x3), (4, .int x4), (5, .int x5)] 76 []) (x2 : Int32) (x3 : Int32) (x4 : Int32) (x5 : Int32) (t_had : (Nat → Int32)) (t_weight : (Nat → Int32)), B_Mo_hang_158 x1 t_points t_cases t_one Q N_76 x2 x3 x4 x5 t_had t_weight → Wat p l e rm_Mo_hang s m args below meth c A Qf g 8 (cs_Mo_hang g a_t a_t_had a_t_one a_t_weight a_t_cost a_t_text a_t_read a_t_likes a_t_judged a_t_met a_t_line a_t_image a_t_isKept t_points t_cases t_bytes t_position t_tokenAt t_token t_digits t_number t_row t_isRow t_faultAt t_readMany t_readPoints t_readCases t_suitOne t_suitTwo t_had t_one t_weight) [(0, .ref a_t), (1, .int x1), (2, .int x2), (3, .int x3), (4, .int x4), (5, .int x5)] 158 [] := by
    intro N_76 hN_76 x2 x3 x4 x5 t_had t_weight h H locs ls hw hl
    refine lv_iinc (v := x5 + 1) (lv' := [(5, .int (x5 + 1)), (0, .ref a_t), (1, .int x1), (2, .int x2), (3, .int x3), (4, .int x4)]) hx hb dX10_hang_158 hl (k := 5) rfl rfl (by decide) rfl (fun ls hl => ?_)
    refine lv_goto (tgt := 76) hx hb dX10_hang_161 (by decide) ?_
    exact hN_76 x2 x3 x4 (x5 + 1) t_had t_weight h _ _ _ hw (lv_sub hl [1, 2, 3, 4, 5, 0] rfl)
  have hB_Mo_hang_153 : ∀ (N_76 : Int32 → Int32 → Int32 → Int32 → (Nat → Int32) → (Nat → Int32) → Prop) (hN_76 : ∀ (x2 : Int32) (x3 : Int32) (x4 : Int32) (x5 : Int32) (t_had : (Nat → Int32)) (t_weight : (Nat → Int32)), N_76 x2 x3 x4 x5 t_had t_weight → Wat p l e rm_Mo_hang s m args below meth c A Qf g 8 (cs_Mo_hang g a_t a_t_had a_t_one a_t_weight a_t_cost a_t_text a_t_read a_t_likes a_t_judged a_t_met a_t_line a_t_image a_t_isKept t_points t_cases t_bytes t_position t_tokenAt t_token t_digits t_number t_row t_isRow t_faultAt t_readMany t_readPoints t_readCases t_suitOne t_suitTwo t_had t_one t_weight) [(0, .ref a_t), (1, .int x1), (2, .int x2), (3, .int x3), (4, .int x4), (5, .int x5)] 76 []) (x2 : Int32) (x3 : Int32) (x5 : Int32) (k0 : Int32) (t_had : (Nat → Int32)) (t_weight : (Nat → Int32)), B_Mo_hang_153 x1 t_points t_cases t_one Q N_76 x2 x3 x5 k0 t_had t_weight → Wat p l e rm_Mo_hang s m args below meth c A Qf g 8 (cs_Mo_hang g a_t a_t_had a_t_one a_t_weight a_t_cost a_t_text a_t_read a_t_likes a_t_judged a_t_met a_t_line a_t_image a_t_isKept t_points t_cases t_bytes t_position t_tokenAt t_token t_digits t_number t_row t_isRow t_faultAt t_readMany t_readPoints t_readCases t_suitOne t_suitTwo t_had t_one t_weight) [(0, .ref a_t), (1, .int x1), (2, .int x2), (3, .int x3), (5, .int x5)] 153 [.int k0] := by
    intro N_76 hN_76 x2 x3 x5 k0 t_had t_weight h H locs ls hw hl
    refine lv_istore (lv' := [(4, .int k0), (0, .ref a_t), (1, .int x1), (2, .int x2), (3, .int x3), (5, .int x5)]) hx hb dX10_hang_153 hl (by decide) rfl (fun ls hl => ?_)
    refine lv_iinc (v := x3 + 1) (lv' := [(3, .int (x3 + 1)), (4, .int k0), (0, .ref a_t), (1, .int x1), (2, .int x2), (5, .int x5)]) hx hb dX10_hang_155 hl (k := 4) rfl rfl (by decide) rfl (fun ls hl => ?_)
    exact hB_Mo_hang_158 N_76 hN_76 x2 (x3 + 1) k0 x5 t_had t_weight h _ _ _ hw (lv_sub hl [2, 3, 4, 0, 1, 5] rfl)
  have hB_Mo_hang_151 : ∀ (N_76 : Int32 → Int32 → Int32 → Int32 → (Nat → Int32) → (Nat → Int32) → Prop) (hN_76 : ∀ (x2 : Int32) (x3 : Int32) (x4 : Int32) (x5 : Int32) (t_had : (Nat → Int32)) (t_weight : (Nat → Int32)), N_76 x2 x3 x4 x5 t_had t_weight → Wat p l e rm_Mo_hang s m args below meth c A Qf g 8 (cs_Mo_hang g a_t a_t_had a_t_one a_t_weight a_t_cost a_t_text a_t_read a_t_likes a_t_judged a_t_met a_t_line a_t_image a_t_isKept t_points t_cases t_bytes t_position t_tokenAt t_token t_digits t_number t_row t_isRow t_faultAt t_readMany t_readPoints t_readCases t_suitOne t_suitTwo t_had t_one t_weight) [(0, .ref a_t), (1, .int x1), (2, .int x2), (3, .int x3), (4, .int x4), (5, .int x5)] 76 []) (x2 : Int32) (x3 : Int32) (x4 : Int32) (x5 : Int32) (t_had : (Nat → Int32)) (t_weight : (Nat → Int32)), B_Mo_hang_151 x1 t_points t_cases t_one Q N_76 x2 x3 x4 x5 t_had t_weight → Wat p l e rm_Mo_hang s m args below meth c A Qf g 8 (cs_Mo_hang g a_t a_t_had a_t_one a_t_weight a_t_cost a_t_text a_t_read a_t_likes a_t_judged a_t_met a_t_line a_t_image a_t_isKept t_points t_cases t_bytes t_position t_tokenAt t_token t_digits t_number t_row t_isRow t_faultAt t_readMany t_readPoints t_readCases t_suitOne t_suitTwo t_had t_one t_weight) [(0, .ref a_t), (1, .int x1), (2, .int x2), (3, .int x3), (4, .int x4), (5, .int x5)] 151 [] := by
    intro N_76 hN_76 x2 x3 x4 x5 t_had t_weight h H locs ls hw hl
    refine lv_iload hx hb dX10_hang_151 (lv_at hl 4 rfl) ?_
    exact hB_Mo_hang_153 N_76 hN_76 x2 x3 x5 x4 t_had t_weight h _ _ _ hw (lv_sub hl [0, 1, 2, 3, 5] rfl)
  have hL_Mo_hang_94 : ∀ (N_76 : Int32 → Int32 → Int32 → Int32 → (Nat → Int32) → (Nat → Int32) → Prop) (hN_76 : ∀ (x2 : Int32) (x3 : Int32) (x4 : Int32) (x5 : Int32) (t_had : (Nat → Int32)) (t_weight : (Nat → Int32)), N_76 x2 x3 x4 x5 t_had t_weight → Wat p l e rm_Mo_hang s m args below meth c A Qf g 8 (cs_Mo_hang g a_t a_t_had a_t_one a_t_weight a_t_cost a_t_text a_t_read a_t_likes a_t_judged a_t_met a_t_line a_t_image a_t_isKept t_points t_cases t_bytes t_position t_tokenAt t_token t_digits t_number t_row t_isRow t_faultAt t_readMany t_readPoints t_readCases t_suitOne t_suitTwo t_had t_one t_weight) [(0, .ref a_t), (1, .int x1), (2, .int x2), (3, .int x3), (4, .int x4), (5, .int x5)] 76 []) (n : Nat) (x2 : Int32) (x3 : Int32) (x4 : Int32) (x5 : Int32) (x6 : Int32) (x7 : Int32) (t_had : (Nat → Int32)) (t_weight : (Nat → Int32)), L_Mo_hang_94 x1 t_points t_cases t_one Q N_76 n x2 x3 x4 x5 x6 x7 t_had t_weight → Wat p l e rm_Mo_hang s m args below meth c A Qf g 8 (cs_Mo_hang g a_t a_t_had a_t_one a_t_weight a_t_cost a_t_text a_t_read a_t_likes a_t_judged a_t_met a_t_line a_t_image a_t_isKept t_points t_cases t_bytes t_position t_tokenAt t_token t_digits t_number t_row t_isRow t_faultAt t_readMany t_readPoints t_readCases t_suitOne t_suitTwo t_had t_one t_weight) [(0, .ref a_t), (1, .int x1), (2, .int x2), (3, .int x3), (4, .int x4), (5, .int x5), (6, .int x6), (7, .int x7)] 94 [] := by
    intro N_76 hN_76 n
    induction n with
    | zero => intro x2 x3 x4 x5 x6 x7 t_had t_weight h; exact absurd h id
    | succ n ih =>
      intro x2 x3 x4 x5 x6 x7 t_had t_weight h H locs ls hw hl
      rw [L_Mo_hang_94] at h
      refine lv_iload hx hb dX10_hang_94 (lv_at hl 7 rfl) ?_
      refine lv_if_lt (tgt := 122) hx hb dX10_hang_96 (by decide) (fun c_96 => ?_) (fun c_96 => ?_)
      · have h := h.1 c_96
        refine lv_aload_n hx hb dX10_hang_122 rfl (lv_at hl 0 rfl) ?_
        refine lv_aload_n hx hb dX10_hang_123 rfl (lv_at hl 0 rfl) ?_
        refine callVi (As := []) (rest := [.ref a_t]) (W2 := fun _ => (cs_Mo_hang g a_t a_t_had a_t_one a_t_weight a_t_cost a_t_text a_t_read a_t_likes a_t_judged a_t_met a_t_line a_t_image a_t_isKept t_points t_cases t_bytes t_position t_tokenAt t_token t_digits t_number t_row t_isRow t_faultAt t_readMany t_readPoints t_readCases t_suitOne t_suitTwo t_had t_one t_weight)) C hw hl (c_Mo_all l g a_t a_t_weight a_t_cost a_t_one a_t_text a_t_read a_t_likes a_t_judged a_t_met a_t_line a_t_image a_t_isKept a_t_had t_points t_cases t_bytes t_position t_tokenAt t_token t_digits t_number t_row t_isRow t_faultAt t_readMany t_readPoints t_readCases t_suitOne t_suitTwo _ h) tw_1103 kk_X10_all rfl ⟨rfl, rfl⟩ ⟨by decide, by decide⟩ (Nat.le_of_ble_eq_true rfl) 0 rfl rfl rfl [0] [1, 2, 3] [3, 0, 1, 2] rfl rfl rfl rfl rfl rfl (fun u => rfl) rfl dX10_hang_124 (fun r_1 u H locs h hw => ?_)
        refine callVi (As := [.int r_1]) (rest := []) (W2 := fun _ => (cs_Mo_hang g a_t a_t_had a_t_one a_t_weight a_t_cost a_t_text a_t_read a_t_likes a_t_judged a_t_met a_t_line a_t_image a_t_isKept t_points t_cases t_bytes t_position t_tokenAt t_token t_digits t_number t_row t_isRow t_faultAt t_readMany t_readPoints t_readCases t_suitOne t_suitTwo t_had t_one t_weight)) C hw hl (c_Mo_notFollowing l g a_t a_t_one a_t_weight a_t_cost a_t_text a_t_read a_t_likes a_t_judged a_t_met a_t_line a_t_image a_t_isKept a_t_had t_points t_cases t_bytes t_position t_tokenAt t_token t_digits t_number t_row t_isRow t_faultAt t_readMany t_readPoints t_readCases t_suitOne t_suitTwo t_one t_weight r_1 _ h) tw_1197 kk_X10_notFollowing rfl ⟨rfl, rfl⟩ ⟨by decide, by decide⟩ (Nat.le_of_ble_eq_true rfl) 0 rfl rfl rfl [0, 2, 3] [1] [1, 0, 2, 3] rfl rfl rfl rfl rfl rfl (fun u => rfl) rfl dX10_hang_127 (fun r_2 u H locs h hw => ?_)
        refine lv_if_ne (tgt := 158) hx hb dX10_hang_130 (by decide) (fun c_130 => ?_) (fun c_130 => ?_)
        · have h := h.1 c_130
          exact hB_Mo_hang_158 N_76 hN_76 x2 x3 x4 x5 t_had t_weight h _ _ _ hw (lv_sub hl [0, 1, 2, 3, 4, 5] rfl)
        · have h := h.2 c_130
          refine lv_iload_n hx hb dX10_hang_133 rfl (lv_at hl 3 rfl) ?_
          refine lv_if_ne (tgt := 151) hx hb dX10_hang_134 (by decide) (fun c_134 => ?_) (fun c_134 => ?_)
          · have h := h.1 c_134
            exact hB_Mo_hang_151 N_76 hN_76 x2 x3 x4 x5 t_had t_weight h _ _ _ hw (lv_sub hl [0, 1, 2, 3, 4, 5] rfl)
          · have h := h.2 c_134
            refine lv_iload_n hx hb dX10_hang_137 rfl (lv_at hl 1 rfl) ?_
            refine lv_iconst (v := (-1)) hx hb dX10_hang_138 (by decide) ?_
            refine lv_icmp_eq (tgt := 151) hx hb dX10_hang_139 (by decide) (fun c_139 => ?_) (fun c_139 => ?_)
            · have h := h.1 c_139
              exact hB_Mo_hang_151 N_76 hN_76 x2 x3 x4 x5 t_had t_weight h _ _ _ hw (lv_sub hl [0, 1, 2, 3, 4, 5] rfl)
            · have h := h.2 c_139
              refine lv_aload_n hx hb dX10_hang_142 rfl (lv_at hl 0 rfl) ?_
              refine G_RX10_13 C hw 0 rfl dX10_hang_143 ?_
              refine lv_iload_n hx hb dX10_hang_146 rfl (lv_at hl 1 rfl) ?_
              refine aldI C hw 3 rfl h.1 dX10_hang_147 ?_
              have h := h.2
              refine lv_goto (tgt := 153) hx hb dX10_hang_148 (by decide) ?_
              exact hB_Mo_hang_153 N_76 hN_76 x2 x3 x5 (t_weight x1.toNatClampNeg) t_had t_weight h _ _ _ hw (lv_sub hl [0, 1, 2, 3, 5] rfl)
      · have h := h.2 c_96
        refine lv_aload_n hx hb dX10_hang_99 rfl (lv_at hl 0 rfl) ?_
        refine G_RX10_13 C hw 0 rfl dX10_hang_100 ?_
        refine lv_iload hx hb dX10_hang_103 (lv_at hl 7 rfl) ?_
        refine lv_iload hx hb dX10_hang_105 (lv_at hl 6 rfl) ?_
        refine lv_iconst (v := 3) hx hb dX10_hang_107 (by decide) ?_
        refine lv_irem hx hb dX10_hang_108 (by decide) ?_
        refine astI (ws2 := (cs_Mo_hang g a_t a_t_had a_t_one a_t_weight a_t_cost a_t_text a_t_read a_t_likes a_t_judged a_t_met a_t_line a_t_image a_t_isKept t_points t_cases t_bytes t_position t_tokenAt t_token t_digits t_number t_row t_isRow t_faultAt t_readMany t_readPoints t_readCases t_suitOne t_suitTwo t_had t_one (upd t_weight x7.toNatClampNeg (x6 - x6 / 3 * 3)))) C hw 3 rfl h.1 rfl dX10_hang_109 (fun H locs hw => ?_)
        have h := h.2
        refine lv_iload hx hb dX10_hang_110 (lv_at hl 6 rfl) ?_
        refine lv_iconst (v := 3) hx hb dX10_hang_112 (by decide) ?_
        refine lv_idiv hx hb dX10_hang_113 (by decide) ?_
        refine lv_topi (fun x6_3 ex6_3 => ?_)
        have h := h x6_3 ex6_3
        refine lv_istore (lv' := [(6, .int x6_3), (0, .ref a_t), (1, .int x1), (2, .int x2), (3, .int x3), (4, .int x4), (5, .int x5), (7, .int x7)]) hx hb dX10_hang_114 hl (by decide) rfl (fun ls hl => ?_)
        refine lv_iinc (v := x7 + (-1)) (lv' := [(7, .int (x7 + (-1))), (6, .int x6_3), (0, .ref a_t), (1, .int x1), (2, .int x2), (3, .int x3), (4, .int x4), (5, .int x5)]) hx hb dX10_hang_116 hl (k := 7) rfl rfl (by decide) rfl (fun ls hl => ?_)
        refine lv_goto (tgt := 94) hx hb dX10_hang_119 (by decide) ?_
        exact ih x2 x3 x4 x5 x6_3 (x7 + (-1)) t_had (upd t_weight x7.toNatClampNeg (x6 - x6 / 3 * 3)) h _ _ _ hw (lv_sub hl [2, 3, 4, 5, 6, 7, 1, 0] rfl)
  have hL_Mo_hang_76 : ∀ (n : Nat) (x2 : Int32) (x3 : Int32) (x4 : Int32) (x5 : Int32) (t_had : (Nat → Int32)) (t_weight : (Nat → Int32)), L_Mo_hang_76 x1 t_points t_cases t_one Q n x2 x3 x4 x5 t_had t_weight → Wat p l e rm_Mo_hang s m args below meth c A Qf g 8 (cs_Mo_hang g a_t a_t_had a_t_one a_t_weight a_t_cost a_t_text a_t_read a_t_likes a_t_judged a_t_met a_t_line a_t_image a_t_isKept t_points t_cases t_bytes t_position t_tokenAt t_token t_digits t_number t_row t_isRow t_faultAt t_readMany t_readPoints t_readCases t_suitOne t_suitTwo t_had t_one t_weight) [(0, .ref a_t), (1, .int x1), (2, .int x2), (3, .int x3), (4, .int x4), (5, .int x5)] 76 [] := by
    intro n
    induction n with
    | zero => intro x2 x3 x4 x5 t_had t_weight h; exact absurd h id
    | succ n ih =>
      intro x2 x3 x4 x5 t_had t_weight h H locs ls hw hl
      rw [L_Mo_hang_76] at h
      refine lv_iload hx hb dX10_hang_76 (lv_at hl 5 rfl) ?_
      refine lv_iload_n hx hb dX10_hang_78 rfl (lv_at hl 2 rfl) ?_
      refine lv_icmp_ge (tgt := 164) hx hb dX10_hang_79 (by decide) (fun c_79 => ?_) (fun c_79 => ?_)
      · have h := h.1 c_79
        refine lv_iconst (v := 0) hx hb dX10_hang_164 (by decide) ?_
        refine lv_istore (lv' := [(5, .int 0), (0, .ref a_t), (1, .int x1), (2, .int x2), (3, .int x3), (4, .int x4)]) hx hb dX10_hang_165 hl (by decide) rfl (fun ls hl => ?_)
        obtain ⟨n_167, h⟩ := h
        exact hL_Mo_hang_167 n_167 x3 x4 0 t_had t_weight h _ _ _ hw (lv_sub hl [1, 2, 4, 5, 0] rfl)
      · have h := h.2 c_79
        refine lv_iload hx hb dX10_hang_82 (lv_at hl 5 rfl) ?_
        refine lv_istore (lv' := [(6, .int x5), (0, .ref a_t), (1, .int x1), (2, .int x2), (3, .int x3), (4, .int x4), (5, .int x5)]) hx hb dX10_hang_84 hl (by decide) rfl (fun ls hl => ?_)
        refine lv_aload_n hx hb dX10_hang_86 rfl (lv_at hl 1 rfl) ?_
        refine G_RX10_7 C hw 0 rfl dX10_hang_87 ?_
        refine lv_iconst (v := 1) hx hb dX10_hang_90 (by decide) ?_
        refine lv_isub hx hb dX10_hang_91 ?_
        refine lv_topi (fun x7_4 ex7_4 => ?_)
        have h := h x7_4 ex7_4
        refine lv_istore (lv' := [(7, .int x7_4), (6, .int x5), (0, .ref a_t), (1, .int x1), (2, .int x2), (3, .int x3), (4, .int x4), (5, .int x5)]) hx hb dX10_hang_92 hl (by decide) rfl (fun ls hl => ?_)
        obtain ⟨n_94, h⟩ := h
        exact hL_Mo_hang_94 (L_Mo_hang_76 x1 t_points t_cases t_one Q n) ih n_94 x2 x3 x4 x5 x5 x7_4 t_had t_weight h _ _ _ hw (lv_sub hl [2, 3, 4, 5, 6, 7, 1, 0] rfl)
  have hL_Mo_hang_38 : ∀ (n : Nat) (x2 : Int32) (x3 : Int32) (t_had : (Nat → Int32)) (t_weight : (Nat → Int32)), L_Mo_hang_38 x1 t_points t_cases t_one Q n x2 x3 t_had t_weight → Wat p l e rm_Mo_hang s m args below meth c A Qf g 8 (cs_Mo_hang g a_t a_t_had a_t_one a_t_weight a_t_cost a_t_text a_t_read a_t_likes a_t_judged a_t_met a_t_line a_t_image a_t_isKept t_points t_cases t_bytes t_position t_tokenAt t_token t_digits t_number t_row t_isRow t_faultAt t_readMany t_readPoints t_readCases t_suitOne t_suitTwo t_had t_one t_weight) [(0, .ref a_t), (1, .int x1), (2, .int x2), (3, .int x3)] 38 [] := by
    intro n
    induction n with
    | zero => intro x2 x3 t_had t_weight h; exact absurd h id
    | succ n ih =>
      intro x2 x3 t_had t_weight h H locs ls hw hl
      rw [L_Mo_hang_38] at h
      refine lv_iload_n hx hb dX10_hang_38 rfl (lv_at hl 3 rfl) ?_
      refine lv_aload_n hx hb dX10_hang_39 rfl (lv_at hl 0 rfl) ?_
      refine G_RX10_7 C hw 0 rfl dX10_hang_40 ?_
      refine lv_icmp_ge (tgt := 68) hx hb dX10_hang_43 (by decide) (fun c_43 => ?_) (fun c_43 => ?_)
      · have h := h.1 c_43
        refine lv_iconst (v := 0) hx hb dX10_hang_68 (by decide) ?_
        refine lv_istore_n (lv' := [(3, .int 0), (0, .ref a_t), (1, .int x1), (2, .int x2)]) hx hb dX10_hang_69 rfl hl (by decide) rfl (fun ls hl => ?_)
        refine lv_iconst (v := (-1)) hx hb dX10_hang_70 (by decide) ?_
        refine lv_istore (lv' := [(4, .int (-1)), (3, .int 0), (0, .ref a_t), (1, .int x1), (2, .int x2)]) hx hb dX10_hang_71 hl (by decide) rfl (fun ls hl => ?_)
        refine lv_iconst (v := 0) hx hb dX10_hang_73 (by decide) ?_
        refine lv_istore (lv' := [(5, .int 0), (4, .int (-1)), (3, .int 0), (0, .ref a_t), (1, .int x1), (2, .int x2)]) hx hb dX10_hang_74 hl (by decide) rfl (fun ls hl => ?_)
        obtain ⟨n_76, h⟩ := h
        exact hL_Mo_hang_76 n_76 x2 0 (-1) 0 t_had t_weight h _ _ _ hw (lv_sub hl [3, 4, 5, 2, 1, 0] rfl)
      · have h := h.2 c_43
        refine lv_aload_n hx hb dX10_hang_46 rfl (lv_at hl 0 rfl) ?_
        refine G_RX10_48 C hw 0 rfl dX10_hang_47 ?_
        refine lv_iload_n hx hb dX10_hang_50 rfl (lv_at hl 3 rfl) ?_
        refine lv_aload_n hx hb dX10_hang_51 rfl (lv_at hl 0 rfl) ?_
        refine G_RX10_13 C hw 0 rfl dX10_hang_52 ?_
        refine lv_iload_n hx hb dX10_hang_55 rfl (lv_at hl 3 rfl) ?_
        refine aldI C hw 3 rfl h.1 dX10_hang_56 ?_
        have h := h.2
        refine astI (ws2 := (cs_Mo_hang g a_t a_t_had a_t_one a_t_weight a_t_cost a_t_text a_t_read a_t_likes a_t_judged a_t_met a_t_line a_t_image a_t_isKept t_points t_cases t_bytes t_position t_tokenAt t_token t_digits t_number t_row t_isRow t_faultAt t_readMany t_readPoints t_readCases t_suitOne t_suitTwo (upd t_had x3.toNatClampNeg (t_weight x3.toNatClampNeg)) t_one t_weight)) C hw 1 rfl h.1 rfl dX10_hang_57 (fun H locs hw => ?_)
        have h := h.2
        refine lv_iload_n hx hb dX10_hang_58 rfl (lv_at hl 2 rfl) ?_
        refine lv_iconst (v := 3) hx hb dX10_hang_59 (by decide) ?_
        refine lv_imul hx hb dX10_hang_60 ?_
        refine lv_topi (fun x2_5 ex2_5 => ?_)
        have h := h x2_5 ex2_5
        refine lv_istore_n (lv' := [(2, .int x2_5), (0, .ref a_t), (1, .int x1), (3, .int x3)]) hx hb dX10_hang_61 rfl hl (by decide) rfl (fun ls hl => ?_)
        refine lv_iinc (v := x3 + 1) (lv' := [(3, .int (x3 + 1)), (2, .int x2_5), (0, .ref a_t), (1, .int x1)]) hx hb dX10_hang_62 hl (k := 3) rfl rfl (by decide) rfl (fun ls hl => ?_)
        refine lv_goto (tgt := 38) hx hb dX10_hang_65 (by decide) ?_
        exact ih x2_5 (x3 + 1) (upd t_had x3.toNatClampNeg (t_weight x3.toNatClampNeg)) t_weight h _ _ _ hw (lv_sub hl [2, 3, 1, 0] rfl)
  have hB_Mo_hang_22 : ∀ (t_had : (Nat → Int32)) (t_weight : (Nat → Int32)), B_Mo_hang_22 x1 t_points t_cases t_one Q t_had t_weight → Wat p l e rm_Mo_hang s m args below meth c A Qf g 8 (cs_Mo_hang g a_t a_t_had a_t_one a_t_weight a_t_cost a_t_text a_t_read a_t_likes a_t_judged a_t_met a_t_line a_t_image a_t_isKept t_points t_cases t_bytes t_position t_tokenAt t_token t_digits t_number t_row t_isRow t_faultAt t_readMany t_readPoints t_readCases t_suitOne t_suitTwo t_had t_one t_weight) [(0, .ref a_t), (1, .int x1)] 22 [] := by
    intro t_had t_weight h H locs ls hw hl
    refine lv_aload_n hx hb dX10_hang_22 rfl (lv_at hl 0 rfl) ?_
    refine G_RX10_7 C hw 0 rfl dX10_hang_23 ?_
    refine lv_bipush (v := 6) hx hb dX10_hang_26 (by decide) ?_
    refine lv_icmp_le (tgt := 34) hx hb dX10_hang_28 (by decide) (fun c_28 => ?_) (fun c_28 => ?_)
    · have h := h.1 c_28
      refine lv_iconst (v := 1) hx hb dX10_hang_34 (by decide) ?_
      refine lv_istore_n (lv' := [(2, .int 1), (0, .ref a_t), (1, .int x1)]) hx hb dX10_hang_35 rfl hl (by decide) rfl (fun ls hl => ?_)
      refine lv_iconst (v := 0) hx hb dX10_hang_36 (by decide) ?_
      refine lv_istore_n (lv' := [(3, .int 0), (2, .int 1), (0, .ref a_t), (1, .int x1)]) hx hb dX10_hang_37 rfl hl (by decide) rfl (fun ls hl => ?_)
      obtain ⟨n_38, h⟩ := h
      exact hL_Mo_hang_38 n_38 1 0 t_had t_weight h _ _ _ hw (lv_sub hl [2, 3, 1, 0] rfl)
    · have h := h.2 c_28
      refine lv_bipush (v := (-4)) hx hb dX10_hang_31 (by decide) ?_
      exact hret (t_had, t_weight) h hw dX10_hang_33 rfl
  refine lv_iload_n hx hb dX10_hang_0 rfl (lv_at hl 1 rfl) ?_
  refine lv_iconst (v := (-1)) hx hb dX10_hang_1 (by decide) ?_
  refine lv_icmp_eq (tgt := 22) hx hb dX10_hang_2 (by decide) (fun c_2 => ?_) (fun c_2 => ?_)
  · have h := h.1 c_2
    exact hB_Mo_hang_22 t_had t_weight h _ _ _ hw (lv_sub hl [0, 1] rfl)
  · have h := h.2 c_2
    refine lv_iload_n hx hb dX10_hang_5 rfl (lv_at hl 1 rfl) ?_
    refine lv_iconst (v := 0) hx hb dX10_hang_6 (by decide) ?_
    refine lv_aload_n hx hb dX10_hang_7 rfl (lv_at hl 0 rfl) ?_
    refine G_RX10_7 C hw 0 rfl dX10_hang_8 ?_
    refine lv_iconst (v := 1) hx hb dX10_hang_11 (by decide) ?_
    refine lv_isub hx hb dX10_hang_12 ?_
    refine callSi (As := [.int x1, .int 0, .int (t_points - 1)]) (rest := []) C hw hl (c_Mo_in l g x1 0 (t_points - 1) _ h) tw_999 kk_X10_in rfl ⟨rfl, rfl⟩ ⟨by decide, by decide⟩ (Nat.le_of_ble_eq_true rfl) rfl dX10_hang_13 (fun r_6 u H locs h hw => ?_)
    refine lv_if_ne (tgt := 22) hx hb dX10_hang_16 (by decide) (fun c_16 => ?_) (fun c_16 => ?_)
    · have h := h.1 c_16
      exact hB_Mo_hang_22 t_had t_weight h _ _ _ hw (lv_sub hl [0, 1] rfl)
    · have h := h.2 c_16
      refine lv_bipush (v := (-2)) hx hb dX10_hang_19 (by decide) ?_
      exact hret (t_had, t_weight) h hw dX10_hang_21 rfl
