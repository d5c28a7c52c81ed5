def P_Mo_erase (t_bytes : Int32) (Q : Int32 → Int32 → Prop) : Prop := Q t_bytes 0
abbrev rm_Mo_erase : Room := { frames := 0, cells := 0, slots := 0, locals := 0 }
def cs_Mo_erase (g : GE) (a_t a_t_weight a_t_cost a_t_one a_t_text a_t_read a_t_likes a_t_judged a_t_met a_t_line a_t_image a_t_isKept a_t_had : Nat) (t_points : Int32) (t_cases : Int32) (t_bytes : Int32) (t_position : Int32) (t_tokenAt : Int32) (t_token : Int64) (t_digits : Int32) (t_number : Int32) (t_row : Int32) (t_isRow : Int32) (t_faultAt : Int32) (t_readMany : Int32) (t_readPoints : Int32) (t_readCases : Int32) (t_suitOne : Int32) (t_suitTwo : Int32) : va_W := [oc a_t 10 [.int t_points, .ref a_t_weight, .ref a_t_cost, .int t_cases, .ref a_t_one, .int t_bytes, .ref a_t_text, .int t_position, .int t_tokenAt, .long t_token, .int t_digits, .int t_number, .int t_row, .int t_isRow, .int t_faultAt, .int t_readMany, .int t_readPoints, .int t_readCases, .ref a_t_read, .ref a_t_likes, .ref a_t_judged, .ref a_t_met, .ref a_t_line, .ref a_t_image, .ref a_t_isKept, .int t_suitOne, .int t_suitTwo, .ref a_t_had]]
set_option maxHeartbeats 4000000 in
set_option maxRecDepth 100000 in
theorem c_Mo_erase (l : Launch) (g : GE) (a_t a_t_weight a_t_cost a_t_one a_t_text a_t_read a_t_likes a_t_judged a_t_met a_t_line a_t_image a_t_isKept a_t_had : Nat) (t_points : Int32) (t_cases : Int32) (t_bytes : Int32) (t_position : Int32) (t_tokenAt : Int32) (t_token : Int64) (t_digits : Int32) (t_number : Int32) (t_row : Int32) (t_isRow : Int32) (t_faultAt : Int32) (t_readMany : Int32) (t_readPoints : Int32) (t_readCases : Int32) (t_suitOne : Int32) (t_suitTwo : Int32) (Q : Int32 → Int32 → Prop) (h : P_Mo_erase t_bytes Q) : Cti l g yX10_erase cX10_erase 2 (some .int) rm_Mo_erase [.ref a_t] (cs_Mo_erase g a_t a_t_weight a_t_cost a_t_one a_t_text a_t_read a_t_likes a_t_judged a_t_met a_t_line a_t_image a_t_isKept a_t_had t_points t_cases t_bytes t_position t_tokenAt t_token t_digits t_number t_row t_isRow t_faultAt t_readMany t_readPoints t_readCases t_suitOne t_suitTwo) (S := Int32) (fun r u => Q r u) (fun u => (cs_Mo_erase g a_t a_t_weight a_t_cost a_t_one a_t_text a_t_read a_t_likes a_t_judged a_t_met a_t_line a_t_image a_t_isKept a_t_had t_points t_cases u t_position t_tokenAt t_token t_digits t_number t_row t_isRow t_faultAt t_readMany t_readPoints t_readCases t_suitOne t_suitTwo)) := by
  refine meetI rfl (Nat.le_of_ble_eq_true rfl) ⟨rfl, rfl⟩ ?_
  intro p e s m args below meth c A Qf ls C hret hw hl
  have hx := C.1
  have hb := C.2.1
  have hown := C.2.2.2.1
  have hts := C.2.2.2.2.1
  have hE := C.2.2.2.2.2.1
  have hl : lv_has ls 2 [(0, .ref a_t)] := hl
  refine lv_aload_n hx hb dX10_erase_0 rfl (lv_at hl 0 rfl) ?_
  refine G_RX10_65 C hw 0 rfl dX10_erase_1 ?_
  refine lv_istore_n (lv' := [(1, .int t_bytes), (0, .ref a_t)]) hx hb dX10_erase_4 rfl hl (by decide) rfl (fun ls hl => ?_)
  refine lv_aload_n hx hb dX10_erase_5 rfl (lv_at hl 1 rfl) ?_
  refine lv_iconst (v := 0) hx hb dX10_erase_6 (by decide) ?_
  refine U_RX10_65 (ws2 := (cs_Mo_erase g a_t a_t_weight a_t_cost a_t_one a_t_text a_t_read a_t_likes a_t_judged a_t_met a_t_line a_t_image a_t_isKept a_t_had t_points t_cases 0 t_position t_tokenAt t_token t_digits t_number t_row t_isRow t_faultAt t_readMany t_readPoints t_readCases t_suitOne t_suitTwo)) C hw 0 rfl rfl rfl rfl dX10_erase_7 (fun H locs hw => ?_)
  refine lv_iload_n hx hb dX10_erase_10 rfl (lv_at hl 0 rfl) ?_
  exact hret (0) h hw dX10_erase_11 rfl
def B_Mo_in_15 (x0 : Int32) (x1 : Int32) (x2 : Int32) (Q : Int32 → Prop) (k0 : Int32) : Prop := narrow .boolean (.int k0) = .int k0 ∧ Q k0 
def B_Mo_in_14 (x0 : Int32) (x1 : Int32) (x2 : Int32) (Q : Int32 → Prop) : Prop := B_Mo_in_15 x0 x1 x2 Q 0
def P_Mo_in (x0 : Int32) (x1 : Int32) (x2 : Int32) (Q : Int32 → Prop) : Prop := (x0 < x1 → B_Mo_in_14 x0 x1 x2 Q) ∧ (¬ x0 < x1 → (x2 < x0 → B_Mo_in_14 x0 x1 x2 Q) ∧ (¬ x2 < x0 → B_Mo_in_15 x0 x1 x2 Q 1))
abbrev rm_Mo_in : Room := { frames := 0, cells := 0, slots := 0, locals := 0 }
set_option maxHeartbeats 4000000 in
set_option maxRecDepth 100000 in
theorem c_Mo_in (l : Launch) (g : GE) (x0 : Int32) (x1 : Int32) (x2 : Int32) (Q : Int32 → Prop) (h : P_Mo_in x0 x1 x2 Q) : Cti l g yX10_in cX10_in 3 (some .boolean) rm_Mo_in [.int x0, .int x1, .int x2] [] (S := Unit) (fun r u => Q r) (fun _ => []) := by
  refine meetI rfl (Nat.le_of_ble_eq_true rfl) ⟨rfl, rfl⟩ ?_
  intro p e s m args below meth c A Qf ls C hret hw hl
  have hx := C.1
  have hb := C.2.1
  have hown := C.2.2.2.1
  have hts := C.2.2.2.2.1
  have hE := C.2.2.2.2.2.1
  have hl : lv_has ls 3 [(0, .int x0), (1, .int x1), (2, .int x2)] := hl
  have hB_Mo_in_15 : ∀ (k0 : Int32), B_Mo_in_15 x0 x1 x2 Q k0 → Wat p l e rm_Mo_in s m args below meth c A Qf g 3 [] [] 15 [.int k0] := by
    intro k0 h H locs ls hw hl
    exact hret () h.2 hw dX10_in_15 h.1
  have hB_Mo_in_14 : B_Mo_in_14 x0 x1 x2 Q → Wat p l e rm_Mo_in s m args below meth c A Qf g 3 [] [] 14 [] := by
    intro  h H locs ls hw hl
    refine lv_iconst (v := 0) hx hb dX10_in_14 (by decide) ?_
    exact hB_Mo_in_15 0 h _ _ _ hw (lv_sub hl [] rfl)
  refine lv_iload_n hx hb dX10_in_0 rfl (lv_at hl 0 rfl) ?_
  refine lv_iload_n hx hb dX10_in_1 rfl (lv_at hl 1 rfl) ?_
  refine lv_icmp_lt (tgt := 14) hx hb dX10_in_2 (by decide) (fun c_2 => ?_) (fun c_2 => ?_)
  · have h := h.1 c_2
    exact hB_Mo_in_14  h _ _ _ hw (lv_sub hl [] rfl)
  · have h := h.2 c_2
    refine lv_iload_n hx hb dX10_in_5 rfl (lv_at hl 0 rfl) ?_
    refine lv_iload_n hx hb dX10_in_6 rfl (lv_at hl 2 rfl) ?_
    refine lv_icmp_gt (tgt := 14) hx hb dX10_in_7 (by decide) (fun c_7 => ?_) (fun c_7 => ?_)
    · have h := h.1 c_7
      exact hB_Mo_in_14  h _ _ _ hw (lv_sub hl [] rfl)
    · have h := h.2 c_7
      refine lv_iconst (v := 1) hx hb dX10_in_10 (by decide) ?_
      refine lv_goto (tgt := 15) hx hb dX10_in_11 (by decide) ?_
      exact hB_Mo_in_15 1 h _ _ _ hw (lv_sub hl [] rfl)
def B_Mo_nextToken_451 (t_bytes : Int32) (t_text : (Nat → Int32)) (Q : Int32 → Int32 → Int64 → Int32 → Int32 → Int32 → Int32 → Prop) (t_position : Int32) (t_tokenAt : Int32) (t_token : Int64) (t_digits : Int32) (t_number : Int32) (t_row : Int32) (t_isRow : Int32) : Prop := Q t_position t_tokenAt t_token t_digits t_number t_row t_isRow
def B_Mo_nextToken_438 (t_bytes : Int32) (t_text : (Nat → Int32)) (Q : Int32 → Int32 → Int64 → Int32 → Int32 → Int32 → Int32 → Prop) (k1 : Int64) (t_position : Int32) (t_tokenAt : Int32) (t_token : Int64) (t_digits : Int32) (t_number : Int32) (t_row : Int32) (t_isRow : Int32) : Prop := ∀ t_position_1 : Int32, t_position_1 = (t_position + 1) → B_Mo_nextToken_451 t_bytes t_text Q t_position_1 t_tokenAt k1 t_digits t_number t_row t_isRow
def B_Mo_nextToken_404 (t_bytes : Int32) (t_text : (Nat → Int32)) (Q : Int32 → Int32 → Int64 → Int32 → Int32 → Int32 → Int32 → Prop) (t_position : Int32) (t_tokenAt : Int32) (t_token : Int64) (t_digits : Int32) (t_number : Int32) (t_row : Int32) (t_isRow : Int32) : Prop := B_Mo_nextToken_451 t_bytes t_text Q t_position t_tokenAt (-1) t_digits t_number t_row t_isRow
def B_Mo_nextToken_378 (t_bytes : Int32) (t_text : (Nat → Int32)) (Q : Int32 → Int32 → Int64 → Int32 → Int32 → Int32 → Int32 → Prop) (N_251 : Int32 → Int32 → Int64 → Int32 → Int32 → Int32 → Int32 → Prop) (k1 : Int32) (t_position : Int32) (t_tokenAt : Int32) (t_token : Int64) (t_digits : Int32) (t_number : Int32) (t_row : Int32) (t_isRow : Int32) : Prop := ∀ t_digits_2 : Int32, t_digits_2 = (t_digits + 1) → ∀ t_position_3 : Int32, t_position_3 = (t_position + 1) → N_251 t_position_3 t_tokenAt t_token t_digits_2 t_number k1 t_isRow
def B_Mo_nextToken_349 (t_bytes : Int32) (t_text : (Nat → Int32)) (Q : Int32 → Int32 → Int64 → Int32 → Int32 → Int32 → Int32 → Prop) (N_251 : Int32 → Int32 → Int64 → Int32 → Int32 → Int32 → Int32 → Prop) (x1 : Int32) (k1 : Int32) (t_position : Int32) (t_tokenAt : Int32) (t_token : Int64) (t_digits : Int32) (t_number : Int32) (t_row : Int32) (t_isRow : Int32) : Prop := narrow .boolean (.int k1) = .int k1 ∧ fits .boolean (.int k1) = true ∧ ((k1 = 0 → B_Mo_nextToken_378 t_bytes t_text Q N_251 t_row t_position t_tokenAt t_token t_digits t_number t_row k1) ∧ (¬ k1 = 0 → B_Mo_nextToken_378 t_bytes t_text Q N_251 (t_row ||| (x1 <<< (t_digits &&& 31))) t_position t_tokenAt t_token t_digits t_number t_row k1))
def B_Mo_nextToken_348 (t_bytes : Int32) (t_text : (Nat → Int32)) (Q : Int32 → Int32 → Int64 → Int32 → Int32 → Int32 → Int32 → Prop) (N_251 : Int32 → Int32 → Int64 → Int32 → Int32 → Int32 → Int32 → Prop) (x1 : Int32) (t_position : Int32) (t_tokenAt : Int32) (t_token : Int64) (t_digits : Int32) (t_number : Int32) (t_row : Int32) (t_isRow : Int32) : Prop := B_Mo_nextToken_349 t_bytes t_text Q N_251 x1 0 t_position t_tokenAt t_token t_digits t_number t_row t_isRow
def B_Mo_nextToken_319 (t_bytes : Int32) (t_text : (Nat → Int32)) (Q : Int32 → Int32 → Int64 → Int32 → Int32 → Int32 → Int32 → Prop) (N_251 : Int32 → Int32 → Int64 → Int32 → Int32 → Int32 → Int32 → Prop) (x1 : Int32) (k1 : Int32) (t_position : Int32) (t_tokenAt : Int32) (t_token : Int64) (t_digits : Int32) (t_number : Int32) (t_row : Int32) (t_isRow : Int32) : Prop := (t_isRow = 0 → B_Mo_nextToken_348 t_bytes t_text Q N_251 x1 t_position t_tokenAt t_token t_digits k1 t_row t_isRow) ∧ (¬ t_isRow = 0 → (2 ≤ x1 → B_Mo_nextToken_348 t_bytes t_text Q N_251 x1 t_position t_tokenAt t_token t_digits k1 t_row t_isRow) ∧ (¬ 2 ≤ x1 → (10 ≤ t_digits → B_Mo_nextToken_348 t_bytes t_text Q N_251 x1 t_position t_tokenAt t_token t_digits k1 t_row t_isRow) ∧ (¬ 10 ≤ t_digits → B_Mo_nextToken_349 t_bytes t_text Q N_251 x1 1 t_position t_tokenAt t_token t_digits k1 t_row t_isRow)))
def L_Mo_nextToken_251 (t_bytes : Int32) (t_text : (Nat → Int32)) (Q : Int32 → Int32 → Int64 → Int32 → Int32 → Int32 → Int32 → Prop) : Nat → Int32 → Int32 → Int64 → Int32 → Int32 → Int32 → Int32 → Prop
  | 0 => fun _ _ _ _ _ _ _ => False
  | n + 1 => fun t_position t_tokenAt t_token t_digits t_number t_row t_isRow => (t_bytes ≤ t_position → B_Mo_nextToken_404 t_bytes t_text Q t_position t_tokenAt t_token t_digits t_number t_row t_isRow) ∧ (¬ t_bytes ≤ t_position → vp_in t_position 200 ∧ (P_Mo_in (t_text t_position.toNatClampNeg) 48 57 (fun r_4 => (r_4 = 0 → B_Mo_nextToken_404 t_bytes t_text Q t_position t_tokenAt t_token t_digits t_number t_row t_isRow) ∧ (¬ r_4 = 0 → vp_in t_position 200 ∧ (∀ x1_5 : Int32, x1_5 = ((t_text t_position.toNatClampNeg) - 48) → (4 ≤ t_digits → B_Mo_nextToken_319 t_bytes t_text Q (L_Mo_nextToken_251 t_bytes t_text Q n) x1_5 t_number t_position t_tokenAt t_token t_digits t_number t_row t_isRow) ∧ (¬ 4 ≤ t_digits → B_Mo_nextToken_319 t_bytes t_text Q (L_Mo_nextToken_251 t_bytes t_text Q n) x1_5 ((10 * t_number) + x1_5) t_position t_tokenAt t_token t_digits t_number t_row t_isRow))))))
def B_Mo_nextToken_226 (t_bytes : Int32) (t_text : (Nat → Int32)) (Q : Int32 → Int32 → Int64 → Int32 → Int32 → Int32 → Int32 → Prop) (k1 : Int64) (t_position : Int32) (t_tokenAt : Int32) (t_token : Int64) (t_digits : Int32) (t_number : Int32) (t_row : Int32) (t_isRow : Int32) : Prop := B_Mo_nextToken_451 t_bytes t_text Q t_position t_tokenAt k1 t_digits t_number t_row t_isRow
def B_Mo_nextToken_201 (t_bytes : Int32) (t_text : (Nat → Int32)) (Q : Int32 → Int32 → Int64 → Int32 → Int32 → Int32 → Int32 → Prop) (t_position : Int32) (t_tokenAt : Int32) (t_token : Int64) (t_digits : Int32) (t_number : Int32) (t_row : Int32) (t_isRow : Int32) : Prop := ((t_position - t_tokenAt) ≤ 9 → B_Mo_nextToken_226 t_bytes t_text Q t_token t_position t_tokenAt t_token t_digits t_number t_row t_isRow) ∧ (¬ (t_position - t_tokenAt) ≤ 9 → B_Mo_nextToken_226 t_bytes t_text Q (-4) t_position t_tokenAt t_token t_digits t_number t_row t_isRow)
def B_Mo_nextToken_185 (t_bytes : Int32) (t_text : (Nat → Int32)) (Q : Int32 → Int32 → Int64 → Int32 → Int32 → Int32 → Int32 → Prop) (N_111 : Int32 → Int32 → Int64 → Int32 → Int32 → Int32 → Int32 → Prop) (k1 : Int64) (t_position : Int32) (t_tokenAt : Int32) (t_token : Int64) (t_digits : Int32) (t_number : Int32) (t_row : Int32) (t_isRow : Int32) : Prop := ∀ t_position_6 : Int32, t_position_6 = (t_position + 1) → N_111 t_position_6 t_tokenAt k1 t_digits t_number t_row t_isRow
def L_Mo_nextToken_111 (t_bytes : Int32) (t_text : (Nat → Int32)) (Q : Int32 → Int32 → Int64 → Int32 → Int32 → Int32 → Int32 → Prop) : Nat → Int32 → Int32 → Int64 → Int32 → Int32 → Int32 → Int32 → Prop
  | 0 => fun _ _ _ _ _ _ _ => False
  | n + 1 => fun t_position t_tokenAt t_token t_digits t_number t_row t_isRow => (t_bytes ≤ t_position → B_Mo_nextToken_201 t_bytes t_text Q t_position t_tokenAt t_token t_digits t_number t_row t_isRow) ∧ (¬ t_bytes ≤ t_position → vp_in t_position 200 ∧ (P_Mo_in (t_text t_position.toNatClampNeg) 97 122 (fun r_7 => (r_7 = 0 → B_Mo_nextToken_201 t_bytes t_text Q t_position t_tokenAt t_token t_digits t_number t_row t_isRow) ∧ (¬ r_7 = 0 → (9 ≤ (t_position - t_tokenAt) → B_Mo_nextToken_185 t_bytes t_text Q (L_Mo_nextToken_111 t_bytes t_text Q n) (-4) t_position t_tokenAt t_token t_digits t_number t_row t_isRow) ∧ (¬ 9 ≤ (t_position - t_tokenAt) → vp_in t_position 200 ∧ (B_Mo_nextToken_185 t_bytes t_text Q (L_Mo_nextToken_111 t_bytes t_text Q n) (((27 * t_token) + ((t_text t_position.toNatClampNeg).toInt64)) - 96) t_position t_tokenAt t_token t_digits t_number t_row t_isRow))))))
def B_Mo_nextToken_38 (t_bytes : Int32) (t_text : (Nat → Int32)) (Q : Int32 → Int32 → Int64 → Int32 → Int32 → Int32 → Int32 → Prop) (t_position : Int32) (t_tokenAt : Int32) (t_token : Int64) (t_digits : Int32) (t_number : Int32) (t_row : Int32) (t_isRow : Int32) : Prop := (¬ t_position = t_bytes → vp_in t_position 200 ∧ (P_Mo_in (t_text t_position.toNatClampNeg) 97 122 (fun r_8 => (r_8 = 0 → vp_in t_position 200 ∧ (P_Mo_in (t_text t_position.toNatClampNeg) 48 57 (fun r_9 => (r_9 = 0 → vp_in t_position 200 ∧ ((¬ (t_text t_position.toNatClampNeg) = 59 → B_Mo_nextToken_438 t_bytes t_text Q (-4) t_position t_position t_token 0 0 0 1) ∧ ((t_text t_position.toNatClampNeg) = 59 → B_Mo_nextToken_438 t_bytes t_text Q (-3) t_position t_position t_token 0 0 0 1))) ∧ (¬ r_9 = 0 → ∃ n_251 : Nat, L_Mo_nextToken_251 t_bytes t_text Q n_251 t_position t_position t_token 0 0 0 1)))) ∧ (¬ r_8 = 0 → ∃ n_111 : Nat, L_Mo_nextToken_111 t_bytes t_text Q n_111 t_position t_position 0 0 0 0 1)))) ∧ (t_position = t_bytes → B_Mo_nextToken_451 t_bytes t_text Q t_position t_position (-2) 0 0 0 1)
def L_Mo_nextToken_0 (t_bytes : Int32) (t_text : (Nat → Int32)) (Q : Int32 → Int32 → Int64 → Int32 → Int32 → Int32 → Int32 → Prop) : Nat → Int32 → Int32 → Int64 → Int32 → Int32 → Int32 → Int32 → Prop
  | 0 => fun _ _ _ _ _ _ _ => False
  | n + 1 => fun t_position t_tokenAt t_token t_digits t_number t_row t_isRow => (t_bytes ≤ t_position → B_Mo_nextToken_38 t_bytes t_text Q t_position t_tokenAt t_token t_digits t_number t_row t_isRow) ∧ (¬ t_bytes ≤ t_position → vp_in t_position 200 ∧ ((¬ (t_text t_position.toNatClampNeg) = 32 → B_Mo_nextToken_38 t_bytes t_text Q t_position t_tokenAt t_token t_digits t_number t_row t_isRow) ∧ ((t_text t_position.toNatClampNeg) = 32 → ∀ t_position_10 : Int32, t_position_10 = (t_position + 1) → (L_Mo_nextToken_0 t_bytes t_text Q n) t_position_10 t_tokenAt t_token t_digits t_number t_row t_isRow)))
def P_Mo_nextToken (t_bytes : Int32) (t_position : Int32) (t_tokenAt : Int32) (t_token : Int64) (t_digits : Int32) (t_number : Int32) (t_row : Int32) (t_isRow : Int32) (t_text : (Nat → Int32)) (Q : Int32 → Int32 → Int64 → Int32 → Int32 → Int32 → Int32 → Prop) : Prop := ∃ n_0 : Nat, L_Mo_nextToken_0 t_bytes t_text Q n_0 t_position t_tokenAt t_token t_digits t_number t_row t_isRow
abbrev rm_Mo_nextToken : Room := { frames := 1, cells := 0, slots := 0, locals := 22 }
def cs_Mo_nextToken (g : GE) (a_t a_t_text a_t_weight a_t_cost a_t_one a_t_read a_t_likes a_t_judged a_t_met a_t_line a_t_image a_t_isKept a_t_had : Nat) (t_points : Int32) (t_cases : Int32) (t_bytes : Int32) (t_position : Int32) (t_tokenAt : Int32) (t_token : Int64) (t_digits : Int32) (t_number : Int32) (t_row : Int32) (t_isRow : Int32) (t_faultAt : Int32) (t_readMany : Int32) (t_readPoints : Int32) (t_readCases : Int32) (t_suitOne : Int32) (t_suitTwo : Int32) (t_text : (Nat → Int32)) : va_W := [oc a_t 10 [.int t_points, .ref a_t_weight, .ref a_t_cost, .int t_cases, .ref a_t_one, .int t_bytes, .ref a_t_text, .int t_position, .int t_tokenAt, .long t_token, .int t_digits, .int t_number, .int t_row, .int t_isRow, .int t_faultAt, .int t_readMany, .int t_readPoints, .int t_readCases, .ref a_t_read, .ref a_t_likes, .ref a_t_judged, .ref a_t_met, .ref a_t_line, .ref a_t_image, .ref a_t_isKept, .int t_suitOne, .int t_suitTwo, .ref a_t_had], ai g a_t_text 200 t_text]
set_option maxHeartbeats 4000000 in
set_option maxRecDepth 100000 in
theorem c_Mo_nextToken (l : Launch) (g : GE) (a_t a_t_text a_t_weight a_t_cost a_t_one a_t_read a_t_likes a_t_judged a_t_met a_t_line a_t_image a_t_isKept a_t_had : Nat) (t_points : Int32) (t_cases : Int32) (t_bytes : Int32) (t_position : Int32) (t_tokenAt : Int32) (t_token : Int64) (t_digits : Int32) (t_number : Int32) (t_row : Int32) (t_isRow : Int32) (t_faultAt : Int32) (t_readMany : Int32) (t_readPoints : Int32) (t_readCases : Int32) (t_suitOne : Int32) (t_suitTwo : Int32) (t_text : (Nat → Int32)) (Q : Int32 → Int32 → Int64 → Int32 → Int32 → Int32 → Int32 → Prop) (h : P_Mo_nextToken t_bytes t_position t_tokenAt t_token t_digits t_number t_row t_isRow t_text Q) : Ctv l g yX10_nextToken cX10_nextToken 2 none rm_Mo_nextToken [.ref a_t] (cs_Mo_nextToken g a_t a_t_text a_t_weight a_t_cost a_t_one a_t_read a_t_likes a_t_judged a_t_met a_t_line a_t_image a_t_isKept a_t_had t_points t_cases t_bytes t_position t_tokenAt t_token t_digits t_number t_row t_isRow t_faultAt t_readMany t_readPoints t_readCases t_suitOne t_suitTwo t_text) (S := Int32 × Int32 × Int64 × Int32 × Int32 × Int32 × Int32) (fun u => Q u.1 u.2.1 u.2.2.1 u.2.2.2.1 u.2.2.2.2.1 u.2.2.2.2.2.1 u.2.2.2.2.2.2) (fun u => (cs_Mo_nextToken g a_t a_t_text a_t_weight a_t_cost a_t_one a_t_read a_t_likes a_t_judged a_t_met a_t_line a_t_image a_t_isKept a_t_had t_points t_cases t_bytes (u.1) (u.2.1) (u.2.2.1) (u.2.2.2.1) (u.2.2.2.2.1) (u.2.2.2.2.2.1) (u.2.2.2.2.2.2) t_faultAt t_readMany t_readPoints t_readCases t_suitOne t_suitTwo t_text)) := by
  refine meetV rfl (Nat.le_of_ble_eq_true rfl) ⟨rfl, rfl⟩ ?_
  intro p e s m args below meth c A Qf ls C hret hw hl
  have hx := C.1
  have hb := C.2.1
  have hown := C.2.2.2.1
  have hts := C.2.2.2.2.1
  have hE := C.2.2.2.2.2.1
  have hl : lv_has ls 2 [(0, .ref a_t)] := hl
  have hB_Mo_nextToken_451 : ∀ (t_position : Int32) (t_tokenAt : Int32) (t_token : Int64) (t_digits : Int32) (t_number : Int32) (t_row : Int32) (t_isRow : Int32), B_Mo_nextToken_451 t_bytes t_text Q t_position t_tokenAt t_token t_digits t_number t_row t_isRow → Wat p l e rm_Mo_nextToken s m args below meth c A Qf g 2 (cs_Mo_nextToken g a_t a_t_text a_t_weight a_t_cost a_t_one a_t_read a_t_likes a_t_judged a_t_met a_t_line a_t_image a_t_isKept a_t_had t_points t_cases t_bytes t_position t_tokenAt t_token t_digits t_number t_row t_isRow t_faultAt t_readMany t_readPoints t_readCases t_suitOne t_suitTwo t_text) [] 451 [] := by
    intro t_position t_tokenAt t_token t_digits t_number t_row t_isRow h H locs ls hw hl
    exact hret (t_position, t_tokenAt, t_token, t_digits, t_number, t_row, t_isRow) h hw dX10_nextToken_451
  have hB_Mo_nextToken_438 : ∀ (k1 : Int64) (t_position : Int32) (t_tokenAt : Int32) (t_token : Int64) (t_digits : Int32) (t_number : Int32) (t_row : Int32) (t_isRow : Int32), B_Mo_nextToken_438 t_bytes t_text Q k1 t_position t_tokenAt t_token t_digits t_number t_row t_isRow → Wat p l e rm_Mo_nextToken s m args below meth c A Qf g 2 (cs_Mo_nextToken g a_t a_t_text a_t_weight a_t_cost a_t_one a_t_read a_t_likes a_t_judged a_t_met a_t_line a_t_image a_t_isKept a_t_had t_points t_cases t_bytes t_position t_tokenAt t_token t_digits t_number t_row t_isRow t_faultAt t_readMany t_readPoints t_readCases t_suitOne t_suitTwo t_text) [(0, .ref a_t)] 438 [.long k1, .ref a_t] := by
    intro k1 t_position t_tokenAt t_token t_digits t_number t_row t_isRow h H locs ls hw hl
    refine U_RX10_91 (ws2 := (cs_Mo_nextToken g a_t a_t_text a_t_weight a_t_cost a_t_one a_t_read a_t_likes a_t_judged a_t_met a_t_line a_t_image a_t_isKept a_t_had t_points t_cases t_bytes t_position t_tokenAt k1 t_digits t_number t_row t_isRow t_faultAt t_readMany t_readPoints t_readCases t_suitOne t_suitTwo t_text)) C hw 0 rfl rfl rfl rfl dX10_nextToken_438 (fun H locs hw => ?_)
    refine lv_aload_n hx hb dX10_nextToken_441 rfl (lv_at hl 0 rfl) ?_
    refine lv_dup hx hb dX10_nextToken_442 rfl ?_
    refine G_RX10_70 C hw 0 rfl dX10_nextToken_443 ?_
    refine lv_iconst (v := 1) hx hb dX10_nextToken_446 (by decide) ?_
    refine lv_iadd hx hb dX10_nextToken_447 ?_
    refine lv_topi (fun t_position_1 et_position_1 => ?_)
    have h := h t_position_1 et_position_1
    refine U_RX10_70 (ws2 := (cs_Mo_nextToken g a_t a_t_text a_t_weight a_t_cost a_t_one a_t_read a_t_likes a_t_judged a_t_met a_t_line a_t_image a_t_isKept a_t_had t_points t_cases t_bytes t_position_1 t_tokenAt k1 t_digits t_number t_row t_isRow t_faultAt t_readMany t_readPoints t_readCases t_suitOne t_suitTwo t_text)) C hw 0 rfl rfl rfl rfl dX10_nextToken_448 (fun H locs hw => ?_)
    exact hB_Mo_nextToken_451 t_position_1 t_tokenAt k1 t_digits t_number t_row t_isRow h _ _ _ hw (lv_sub hl [] rfl)
  have hB_Mo_nextToken_404 : ∀ (t_position : Int32) (t_tokenAt : Int32) (t_token : Int64) (t_digits : Int32) (t_number : Int32) (t_row : Int32) (t_isRow : Int32), B_Mo_nextToken_404 t_bytes t_text Q t_position t_tokenAt t_token t_digits t_number t_row t_isRow → Wat p l e rm_Mo_nextToken s m args below meth c A Qf g 2 (cs_Mo_nextToken g a_t a_t_text a_t_weight a_t_cost a_t_one a_t_read a_t_likes a_t_judged a_t_met a_t_line a_t_image a_t_isKept a_t_had t_points t_cases t_bytes t_position t_tokenAt t_token t_digits t_number t_row t_isRow t_faultAt t_readMany t_readPoints t_readCases t_suitOne t_suitTwo t_text) [(0, .ref a_t)] 404 [] := by
    intro t_position t_tokenAt t_token t_digits t_number t_row t_isRow h H locs ls hw hl
    refine lv_aload_n hx hb dX10_nextToken_404 rfl (lv_at hl 0 rfl) ?_
    refine lv_ldc2 (v := (-1)) hx hb hown (hts _ tw_1027) dX10_nextToken_405 ?_
    refine U_RX10_91 (ws2 := (cs_Mo_nextToken g a_t a_t_text a_t_weight a_t_cost a_t_one a_t_read a_t_likes a_t_judged a_t_met a_t_line a_t_image a_t_isKept a_t_had t_points t_cases t_bytes t_position t_tokenAt (-1) t_digits t_number t_row t_isRow t_faultAt t_readMany t_readPoints t_readCases t_suitOne t_suitTwo t_text)) C hw 0 rfl rfl rfl rfl dX10_nextToken_408 (fun H locs hw => ?_)
    refine lv_goto (tgt := 451) hx hb dX10_nextToken_411 (by decide) ?_
    exact hB_Mo_nextToken_451 t_position t_tokenAt (-1) t_digits t_number t_row t_isRow h _ _ _ hw (lv_sub hl [] rfl)
  have hB_Mo_nextToken_378 : ∀ (N_251 : Int32 → Int32 → Int64 → Int32 → Int32 → Int32 → Int32 → Prop) (hN_251 : ∀ (t_position : Int32) (t_tokenAt : Int32) (t_token : Int64) (t_digits : Int32) (t_number : Int32) (t_row : Int32) (t_isRow : Int32), N_251 t_position t_tokenAt t_token t_digits t_number t_row t_isRow → Wat p l e rm_Mo_nextToken s m args below meth c A Qf g 2 (cs_Mo_nextToken g a_t a_t_text a_t_weight a_t_cost a_t_one a_t_read a_t_likes a_t_judged a_t_met a_t_line a_t_image a_t_isKept a_t_had t_points t_cases t_bytes t_position t_tokenAt t_token t_digits t_number t_row t_isRow t_faultAt t_readMany t_readPoints t_readCases t_suitOne t_suitTwo t_text) [(0, .ref a_t)] 251 []) (k1 : Int32) (t_position : Int32) (t_tokenAt : Int32) (t_token : Int64) (t_digits : Int32) (t_number : Int32) (t_row : Int32) (t_isRow : Int32), B_Mo_nextToken_378 t_bytes t_text Q N_251 k1 t_position t_tokenAt t_token t_digits t_number t_row t_isRow → Wat p l e rm_Mo_nextToken s m args below meth c A Qf g 2 (cs_Mo_nextToken g a_t a_t_text a_t_weight a_t_cost a_t_one a_t_read a_t_likes a_t_judged a_t_met a_t_line a_t_image a_t_isKept a_t_had t_points t_cases t_bytes t_position t_tokenAt t_token t_digits t_number t_row t_isRow t_faultAt t_readMany t_readPoints t_readCases t_suitOne t_suitTwo t_text) [(0, .ref a_t)] 378 [.int k1, .ref a_t] := by
    intro N_251 hN_251 k1 t_position t_tokenAt t_token t_digits t_number t_row t_isRow h H locs ls hw hl
    refine U_RX10_82 (ws2 := (cs_Mo_nextToken g a_t a_t_text a_t_weight a_t_cost a_t_one a_t_read a_t_likes a_t_judged a_t_met a_t_line a_t_image a_t_isKept a_t_had t_points t_cases t_bytes t_position t_tokenAt t_token t_digits t_number k1 t_isRow t_faultAt t_readMany t_readPoints t_readCases t_suitOne t_suitTwo t_text)) C hw 0 rfl rfl rfl rfl dX10_nextToken_378 (fun H locs hw => ?_)
    refine lv_aload_n hx hb dX10_nextToken_381 rfl (lv_at hl 0 rfl) ?_
    refine lv_dup hx hb dX10_nextToken_382 rfl ?_
    refine G_RX10_76 C hw 0 rfl dX10_nextToken_383 ?_
    refine lv_iconst (v := 1) hx hb dX10_nextToken_386 (by decide) ?_
    refine lv_iadd hx hb dX10_nextToken_387 ?_
    refine lv_topi (fun t_digits_2 et_digits_2 => ?_)
    have h := h t_digits_2 et_digits_2
    refine U_RX10_76 (ws2 := (cs_Mo_nextToken g a_t a_t_text a_t_weight a_t_cost a_t_one a_t_read a_t_likes a_t_judged a_t_met a_t_line a_t_image a_t_isKept a_t_had t_points t_cases t_bytes t_position t_tokenAt t_token t_digits_2 t_number k1 t_isRow t_faultAt t_readMany t_readPoints t_readCases t_suitOne t_suitTwo t_text)) C hw 0 rfl rfl rfl rfl dX10_nextToken_388 (fun H locs hw => ?_)
    refine lv_aload_n hx hb dX10_nextToken_391 rfl (lv_at hl 0 rfl) ?_
    refine lv_dup hx hb dX10_nextToken_392 rfl ?_
    refine G_RX10_70 C hw 0 rfl dX10_nextToken_393 ?_
    refine lv_iconst (v := 1) hx hb dX10_nextToken_396 (by decide) ?_
    refine lv_iadd hx hb dX10_nextToken_397 ?_
    refine lv_topi (fun t_position_3 et_position_3 => ?_)
    have h := h t_position_3 et_position_3
    refine U_RX10_70 (ws2 := (cs_Mo_nextToken g a_t a_t_text a_t_weight a_t_cost a_t_one a_t_read a_t_likes a_t_judged a_t_met a_t_line a_t_image a_t_isKept a_t_had t_points t_cases t_bytes t_position_3 t_tokenAt t_token t_digits_2 t_number k1 t_isRow t_faultAt t_readMany t_readPoints t_readCases t_suitOne t_suitTwo t_text)) C hw 0 rfl rfl rfl rfl dX10_nextToken_398 (fun H locs hw => ?_)
    refine lv_goto (tgt := 251) hx hb dX10_nextToken_401 (by decide) ?_
    exact hN_251 t_position_3 t_tokenAt t_token t_digits_2 t_number k1 t_isRow h _ _ _ hw (lv_sub hl [0] rfl)
  have hB_Mo_nextToken_349 : ∀ (N_251 : Int32 → Int32 → Int64 → Int32 → Int32 → Int32 → Int32 → Prop) (hN_251 : ∀ (t_position : Int32) (t_tokenAt : Int32) (t_token : Int64) (t_digits : Int32) (t_number : Int32) (t_row : Int32) (t_isRow : Int32), N_251 t_position t_tokenAt t_token t_digits t_number t_row t_isRow → Wat p l e rm_Mo_nextToken s m args below meth c A Qf g 2 (cs_Mo_nextToken g a_t a_t_text a_t_weight a_t_cost a_t_one a_t_read a_t_likes a_t_judged a_t_met a_t_line a_t_image a_t_isKept a_t_had t_points t_cases t_bytes t_position t_tokenAt t_token t_digits t_number t_row t_isRow t_faultAt t_readMany t_readPoints t_readCases t_suitOne t_suitTwo t_text) [(0, .ref a_t)] 251 []) (x1 : Int32) (k1 : Int32) (t_position : Int32) (t_tokenAt : Int32) (t_token : Int64) (t_digits : Int32) (t_number : Int32) (t_row : Int32) (t_isRow : Int32), B_Mo_nextToken_349 t_bytes t_text Q N_251 x1 k1 t_position t_tokenAt t_token t_digits t_number t_row t_isRow → Wat p l e rm_Mo_nextToken s m args below meth c A Qf g 2 (cs_Mo_nextToken g a_t a_t_text a_t_weight a_t_cost a_t_one a_t_read a_t_likes a_t_judged a_t_met a_t_line a_t_image a_t_isKept a_t_had t_points t_cases t_bytes t_position t_tokenAt t_token t_digits t_number t_row t_isRow t_faultAt t_readMany t_readPoints t_readCases t_suitOne t_suitTwo t_text) [(0, .ref a_t), (1, .int x1)] 349 [.int k1, .ref a_t] := by
    intro N_251 hN_251 x1 k1 t_position t_tokenAt t_token t_digits t_number t_row t_isRow h H locs ls hw hl
    obtain ⟨hn1, hn2, h⟩ := h
    refine U_RX10_85 (ws2 := (cs_Mo_nextToken g a_t a_t_text a_t_weight a_t_cost a_t_one a_t_read a_t_likes a_t_judged a_t_met a_t_line a_t_image a_t_isKept a_t_had t_points t_cases t_bytes t_position t_tokenAt t_token t_digits t_number t_row k1 t_faultAt t_readMany t_readPoints t_readCases t_suitOne t_suitTwo t_text)) C hw 0 rfl hn1 hn2 rfl dX10_nextToken_349 (fun H locs hw => ?_)
    refine lv_aload_n hx hb dX10_nextToken_352 rfl (lv_at hl 0 rfl) ?_
    refine lv_aload_n hx hb dX10_nextToken_353 rfl (lv_at hl 0 rfl) ?_
    refine G_RX10_85 C hw 0 rfl dX10_nextToken_354 ?_
    refine lv_if_eq (tgt := 374) hx hb dX10_nextToken_357 (by decide) (fun c_357 => ?_) (fun c_357 => ?_)
    · have h := h.1 c_357
      refine lv_aload_n hx hb dX10_nextToken_374 rfl (lv_at hl 0 rfl) ?_
      refine G_RX10_82 C hw 0 rfl dX10_nextToken_375 ?_
      exact hB_Mo_nextToken_378 N_251 hN_251 t_row t_position t_tokenAt t_token t_digits t_number t_row k1 h _ _ _ hw (lv_sub hl [0] rfl)
    · have h := h.2 c_357
      refine lv_aload_n hx hb dX10_nextToken_360 rfl (lv_at hl 0 rfl) ?_
      refine G_RX10_82 C hw 0 rfl dX10_nextToken_361 ?_
      refine lv_iload_n hx hb dX10_nextToken_364 rfl (lv_at hl 1 rfl) ?_
      refine lv_aload_n hx hb dX10_nextToken_365 rfl (lv_at hl 0 rfl) ?_
      refine G_RX10_76 C hw 0 rfl dX10_nextToken_366 ?_
      refine lv_ishl hx hb dX10_nextToken_369 ?_
      refine lv_ior hx hb dX10_nextToken_370 ?_
      refine lv_goto (tgt := 378) hx hb dX10_nextToken_371 (by decide) ?_
      exact hB_Mo_nextToken_378 N_251 hN_251 (t_row ||| (x1 <<< (t_digits &&& 31))) t_position t_tokenAt t_token t_digits t_number t_row k1 h _ _ _ hw (lv_sub hl [0] rfl)
  have hB_Mo_nextToken_348 : ∀ (N_251 : Int32 → Int32 → Int64 → Int32 → Int32 → Int32 → Int32 → Prop) (hN_251 : ∀ (t_position : Int32) (t_tokenAt : Int32) (t_token : Int64) (t_digits : Int32) (t_number : Int32) (t_row : Int32) (t_isRow : Int32), N_251 t_position t_tokenAt t_token t_digits t_number t_row t_isRow → Wat p l e rm_Mo_nextToken s m args below meth c A Qf g 2 (cs_Mo_nextToken g a_t a_t_text a_t_weight a_t_cost a_t_one a_t_read a_t_likes a_t_judged a_t_met a_t_line a_t_image a_t_isKept a_t_had t_points t_cases t_bytes t_position t_tokenAt t_token t_digits t_number t_row t_isRow t_faultAt t_readMany t_readPoints t_readCases t_suitOne t_suitTwo t_text) [(0, .ref a_t)] 251 []) (x1 : Int32) (t_position : Int32) (t_tokenAt : Int32) (t_token : Int64) (t_digits : Int32) (t_number : Int32) (t_row : Int32) (t_isRow : Int32), B_Mo_nextToken_348 t_bytes t_text Q N_251 x1 t_position t_tokenAt t_token t_digits t_number t_row t_isRow → Wat p l e rm_Mo_nextToken s m args below meth c A Qf g 2 (cs_Mo_nextToken g a_t a_t_text a_t_weight a_t_cost a_t_one a_t_read a_t_likes a_t_judged a_t_met a_t_line a_t_image a_t_isKept a_t_had t_points t_cases t_bytes t_position t_tokenAt t_token t_digits t_number t_row t_isRow t_faultAt t_readMany t_readPoints t_readCases t_suitOne t_suitTwo t_text) [(0, .ref a_t), (1, .int x1)] 348 [.ref a_t] := by
    intro N_251 hN_251 x1 t_position t_tokenAt t_token t_digits t_number t_row t_isRow h H locs ls hw hl
    refine lv_iconst (v := 0) hx hb dX10_nextToken_348 (by decide) ?_
    exact hB_Mo_nextToken_349 N_251 hN_251 x1 0 t_position t_tokenAt t_token t_digits t_number t_row t_isRow h _ _ _ hw (lv_sub hl [0, 1] rfl)
  have hB_Mo_nextToken_319 : ∀ (N_251 : Int32 → Int32 → Int64 → Int32 → Int32 → Int32 → Int32 → Prop) (hN_251 : ∀ (t_position : Int32) (t_tokenAt : Int32) (t_token : Int64) (t_digits : Int32) (t_number : Int32) (t_row : Int32) (t_isRow : Int32), N_251 t_position t_tokenAt t_token t_digits t_number t_row t_isRow → Wat p l e rm_Mo_nextToken s m args below meth c A Qf g 2 (cs_Mo_nextToken g a_t a_t_text a_t_weight a_t_cost a_t_one a_t_read a_t_likes a_t_judged a_t_met a_t_line a_t_image a_t_isKept a_t_had t_points t_cases t_bytes t_position t_tokenAt t_token t_digits t_number t_row t_isRow t_faultAt t_readMany t_readPoints t_readCases t_suitOne t_suitTwo t_text) [(0, .ref a_t)] 251 []) (x1 : Int32) (k1 : Int32) (t_position : Int32) (t_tokenAt : Int32) (t_token : Int64) (t_digits : Int32) (t_number : Int32) (t_row : Int32) (t_isRow : Int32), B_Mo_nextToken_319 t_bytes t_text Q N_251 x1 k1 t_position t_tokenAt t_token t_digits t_number t_row t_isRow → Wat p l e rm_Mo_nextToken s m args below meth c A Qf g 2 (cs_Mo_nextToken g a_t a_t_text a_t_weight a_t_cost a_t_one a_t_read a_t_likes a_t_judged a_t_met a_t_line a_t_image a_t_isKept a_t_had t_points t_cases t_bytes t_position t_tokenAt t_token t_digits t_number t_row t_isRow t_faultAt t_readMany t_readPoints t_readCases t_suitOne t_suitTwo t_text) [(0, .ref a_t), (1, .int x1)] 319 [.int k1, .ref a_t] := by
    intro N_251 hN_251 x1 k1 t_position t_tokenAt t_token t_digits t_number t_row t_isRow h H locs ls hw hl
    refine U_RX10_79 (ws2 := (cs_Mo_nextToken g a_t a_t_text a_t_weight a_t_cost a_t_one a_t_read a_t_likes a_t_judged a_t_met a_t_line a_t_image a_t_isKept a_t_had t_points t_cases t_bytes t_position t_tokenAt t_token t_digits k1 t_row t_isRow t_faultAt t_readMany t_readPoints t_readCases t_suitOne t_suitTwo t_text)) C hw 0 rfl rfl rfl rfl dX10_nextToken_319 (fun H locs hw => ?_)
    refine lv_aload_n hx hb dX10_nextToken_322 rfl (lv_at hl 0 rfl) ?_
    refine lv_aload_n hx hb dX10_nextToken_323 rfl (lv_at hl 0 rfl) ?_
    refine G_RX10_85 C hw 0 rfl dX10_nextToken_324 ?_
    refine lv_if_eq (tgt := 348) hx hb dX10_nextToken_327 (by decide) (fun c_327 => ?_) (fun c_327 => ?_)
    · have h := h.1 c_327
      exact hB_Mo_nextToken_348 N_251 hN_251 x1 t_position t_tokenAt t_token t_digits k1 t_row t_isRow h _ _ _ hw (lv_sub hl [0, 1] rfl)
    · have h := h.2 c_327
      refine lv_iload_n hx hb dX10_nextToken_330 rfl (lv_at hl 1 rfl) ?_
      refine lv_iconst (v := 2) hx hb dX10_nextToken_331 (by decide) ?_
      refine lv_icmp_ge (tgt := 348) hx hb dX10_nextToken_332 (by decide) (fun c_332 => ?_) (fun c_332 => ?_)
      · have h := h.1 c_332
        exact hB_Mo_nextToken_348 N_251 hN_251 x1 t_position t_tokenAt t_token t_digits k1 t_row t_isRow h _ _ _ hw (lv_sub hl [0, 1] rfl)
      · have h := h.2 c_332
        refine lv_aload_n hx hb dX10_nextToken_335 rfl (lv_at hl 0 rfl) ?_
        refine G_RX10_76 C hw 0 rfl dX10_nextToken_336 ?_
        refine lv_bipush (v := 10) hx hb dX10_nextToken_339 (by decide) ?_
        refine lv_icmp_ge (tgt := 348) hx hb dX10_nextToken_341 (by decide) (fun c_341 => ?_) (fun c_341 => ?_)
        · have h := h.1 c_341
          exact hB_Mo_nextToken_348 N_251 hN_251 x1 t_position t_tokenAt t_token t_digits k1 t_row t_isRow h _ _ _ hw (lv_sub hl [0, 1] rfl)
        · have h := h.2 c_341
          refine lv_iconst (v := 1) hx hb dX10_nextToken_344 (by decide) ?_
          refine lv_goto (tgt := 349) hx hb dX10_nextToken_345 (by decide) ?_
          exact hB_Mo_nextToken_349 N_251 hN_251 x1 1 t_position t_tokenAt t_token t_digits k1 t_row t_isRow h _ _ _ hw (lv_sub hl [0, 1] rfl)
  have hL_Mo_nextToken_251 : ∀ (n : Nat) (t_position : Int32) (t_tokenAt : Int32) (t_token : Int64) (t_digits : Int32) (t_number : Int32) (t_row : Int32) (t_isRow : Int32), L_Mo_nextToken_251 t_bytes t_text Q n t_position t_tokenAt t_token t_digits t_number t_row t_isRow → Wat p l e rm_Mo_nextToken s m args below meth c A Qf g 2 (cs_Mo_nextToken g a_t a_t_text a_t_weight a_t_cost a_t_one a_t_read a_t_likes a_t_judged a_t_met a_t_line a_t_image a_t_isKept a_t_had t_points t_cases t_bytes t_position t_tokenAt t_token t_digits t_number t_row t_isRow t_faultAt t_readMany t_readPoints t_readCases t_suitOne t_suitTwo t_text) [(0, .ref a_t)] 251 [] := by
    intro n
    induction n with
    | zero => intro t_position t_tokenAt t_token t_digits t_number t_row t_isRow h; exact absurd h id
    | succ n ih =>
      intro t_position t_tokenAt t_token t_digits t_number t_row t_isRow h H locs ls hw hl
      rw [L_Mo_nextToken_251] at h
      refine lv_aload_n hx hb dX10_nextToken_251 rfl (lv_at hl 0 rfl) ?_
      refine G_RX10_70 C hw 0 rfl dX10_nextToken_252 ?_
      refine lv_aload_n hx hb dX10_nextToken_255 rfl (lv_at hl 0 rfl) ?_
      refine G_RX10_65 C hw 0 rfl dX10_nextToken_256 ?_
      refine lv_icmp_ge (tgt := 404) hx hb dX10_nextToken_259 (by decide) (fun c_259 => ?_) (fun c_259 => ?_)
      · have h := h.1 c_259
        exact hB_Mo_nextToken_404 t_position t_tokenAt t_token t_digits t_number t_row t_isRow h _ _ _ hw (lv_sub hl [0] rfl)
      · have h := h.2 c_259
        refine lv_aload_n hx hb dX10_nextToken_262 rfl (lv_at hl 0 rfl) ?_
        refine G_RX10_23 C hw 0 rfl dX10_nextToken_263 ?_
        refine lv_aload_n hx hb dX10_nextToken_266 rfl (lv_at hl 0 rfl) ?_
        refine G_RX10_70 C hw 0 rfl dX10_nextToken_267 ?_
        refine aldI C hw 1 rfl h.1 dX10_nextToken_270 ?_
        have h := h.2
        refine lv_bipush (v := 48) hx hb dX10_nextToken_271 (by decide) ?_
        refine lv_bipush (v := 57) hx hb dX10_nextToken_273 (by decide) ?_
        refine callSi (As := [.int (t_text t_position.toNatClampNeg), .int 48, .int 57]) (rest := []) C hw hl (c_Mo_in l g (t_text t_position.toNatClampNeg) 48 57 _ h) tw_999 kk_X10_in rfl ⟨rfl, rfl⟩ ⟨by decide, by decide⟩ (Nat.le_of_ble_eq_true rfl) rfl dX10_nextToken_275 (fun r_4 u H locs h hw => ?_)
        refine lv_if_eq (tgt := 404) hx hb dX10_nextToken_278 (by decide) (fun c_278 => ?_) (fun c_278 => ?_)
        · have h := h.1 c_278
          exact hB_Mo_nextToken_404 t_position t_tokenAt t_token t_digits t_number t_row t_isRow h _ _ _ hw (lv_sub hl [0] rfl)
        · have h := h.2 c_278
          refine lv_aload_n hx hb dX10_nextToken_281 rfl (lv_at hl 0 rfl) ?_
          refine G_RX10_23 C hw 0 rfl dX10_nextToken_282 ?_
          refine lv_aload_n hx hb dX10_nextToken_285 rfl (lv_at hl 0 rfl) ?_
          refine G_RX10_70 C hw 0 rfl dX10_nextToken_286 ?_
          refine aldI C hw 1 rfl h.1 dX10_nextToken_289 ?_
          have h := h.2
          refine lv_bipush (v := 48) hx hb dX10_nextToken_290 (by decide) ?_
          refine lv_isub hx hb dX10_nextToken_292 ?_
          refine lv_topi (fun x1_5 ex1_5 => ?_)
          have h := h x1_5 ex1_5
          refine lv_istore_n (lv' := [(1, .int x1_5), (0, .ref a_t)]) hx hb dX10_nextToken_293 rfl hl (by decide) rfl (fun ls hl => ?_)
          refine lv_aload_n hx hb dX10_nextToken_294 rfl (lv_at hl 1 rfl) ?_
          refine lv_aload_n hx hb dX10_nextToken_295 rfl (lv_at hl 1 rfl) ?_
          refine G_RX10_76 C hw 0 rfl dX10_nextToken_296 ?_
          refine lv_iconst (v := 4) hx hb dX10_nextToken_299 (by decide) ?_
          refine lv_icmp_ge (tgt := 315) hx hb dX10_nextToken_300 (by decide) (fun c_300 => ?_) (fun c_300 => ?_)
          · have h := h.1 c_300
            refine lv_aload_n hx hb dX10_nextToken_315 rfl (lv_at hl 1 rfl) ?_
            refine G_RX10_79 C hw 0 rfl dX10_nextToken_316 ?_
            exact hB_Mo_nextToken_319 (L_Mo_nextToken_251 t_bytes t_text Q n) ih x1_5 t_number t_position t_tokenAt t_token t_digits t_number t_row t_isRow h _ _ _ hw (lv_sub hl [1, 0] rfl)
          · have h := h.2 c_300
            refine lv_bipush (v := 10) hx hb dX10_nextToken_303 (by decide) ?_
            refine lv_aload_n hx hb dX10_nextToken_305 rfl (lv_at hl 1 rfl) ?_
            refine G_RX10_79 C hw 0 rfl dX10_nextToken_306 ?_
            refine lv_imul hx hb dX10_nextToken_309 ?_
            refine lv_iload_n hx hb dX10_nextToken_310 rfl (lv_at hl 0 rfl) ?_
            refine lv_iadd hx hb dX10_nextToken_311 ?_
            refine lv_goto (tgt := 319) hx hb dX10_nextToken_312 (by decide) ?_
            exact hB_Mo_nextToken_319 (L_Mo_nextToken_251 t_bytes t_text Q n) ih x1_5 ((10 * t_number) + x1_5) t_position t_tokenAt t_token t_digits t_number t_row t_isRow h _ _ _ hw (lv_sub hl [1, 0] rfl)
  have hB_Mo_nextToken_226 : ∀ (k1 : Int64) (t_position : Int32) (t_tokenAt : Int32) (t_token : Int64) (t_digits : Int32) (t_number : Int32) (t_row : Int32) (t_isRow : Int32), B_Mo_nextToken_226 t_bytes t_text Q k1 t_position t_tokenAt t_token t_digits t_number t_row t_isRow → Wat p l e rm_Mo_nextToken s m args below meth c A Qf g 2 (cs_Mo_nextToken g a_t a_t_text a_t_weight a_t_cost a_t_one a_t_read a_t_likes a_t_judged a_t_met a_t_line a_t_image a_t_isKept a_t_had t_points t_cases t_bytes t_position t_tokenAt t_token t_digits t_number t_row t_isRow t_faultAt t_readMany t_readPoints t_readCases t_suitOne t_suitTwo t_text) [] 226 [.long k1, .ref a_t] := by
    intro k1 t_position t_tokenAt t_token t_digits t_number t_row t_isRow h H locs ls hw hl
    refine U_RX10_91 (ws2 := (cs_Mo_nextToken g a_t a_t_text a_t_weight a_t_cost a_t_one a_t_read a_t_likes a_t_judged a_t_met a_t_line a_t_image a_t_isKept a_t_had t_points t_cases t_bytes t_position t_tokenAt k1 t_digits t_number t_row t_isRow t_faultAt t_readMany t_readPoints t_readCases t_suitOne t_suitTwo t_text)) C hw 0 rfl rfl rfl rfl dX10_nextToken_226 (fun H locs hw => ?_)
    refine lv_goto (tgt := 451) hx hb dX10_nextToken_229 (by decide) ?_
    exact hB_Mo_nextToken_451 t_position t_tokenAt k1 t_digits t_number t_row t_isRow h _ _ _ hw (lv_sub hl [] rfl)
  have hB_Mo_nextToken_201 : ∀ (t_position : Int32) (t_tokenAt : Int32) (t_token : Int64) (t_digits : Int32) (t_number : Int32) (t_row : Int32) (t_isRow : Int32), B_Mo_nextToken_201 t_bytes t_text Q t_position t_tokenAt t_token t_digits t_number t_row t_isRow → Wat p l e rm_Mo_nextToken s m args below meth c A Qf g 2 (cs_Mo_nextToken g a_t a_t_text a_t_weight a_t_cost a_t_one a_t_read a_t_likes a_t_judged a_t_met a_t_line a_t_image a_t_isKept a_t_had t_points t_cases t_bytes t_position t_tokenAt t_token t_digits t_number t_row t_isRow t_faultAt t_readMany t_readPoints t_readCases t_suitOne t_suitTwo t_text) [(0, .ref a_t)] 201 [] := by
    intro t_position t_tokenAt t_token t_digits t_number t_row t_isRow h H locs ls hw hl
    refine lv_aload_n hx hb dX10_nextToken_201 rfl (lv_at hl 0 rfl) ?_
    refine lv_aload_n hx hb dX10_nextToken_202 rfl (lv_at hl 0 rfl) ?_
    refine G_RX10_70 C hw 0 rfl dX10_nextToken_203 ?_
    refine lv_aload_n hx hb dX10_nextToken_206 rfl (lv_at hl 0 rfl) ?_
    refine G_RX10_73 C hw 0 rfl dX10_nextToken_207 ?_
    refine lv_isub hx hb dX10_nextToken_210 ?_
    refine lv_bipush (v := 9) hx hb dX10_nextToken_211 (by decide) ?_
    refine lv_icmp_le (tgt := 222) hx hb dX10_nextToken_213 (by decide) (fun c_213 => ?_) (fun c_213 => ?_)
    · have h := h.1 c_213
      refine lv_aload_n hx hb dX10_nextToken_222 rfl (lv_at hl 0 rfl) ?_
      refine G_RX10_91 C hw 0 rfl dX10_nextToken_223 ?_
      exact hB_Mo_nextToken_226 t_token t_position t_tokenAt t_token t_digits t_number t_row t_isRow h _ _ _ hw (lv_sub hl [] rfl)
    · have h := h.2 c_213
      refine lv_ldc2 (v := (-4)) hx hb hown (hts _ tw_1026) dX10_nextToken_216 ?_
      refine lv_goto (tgt := 226) hx hb dX10_nextToken_219 (by decide) ?_
      exact hB_Mo_nextToken_226 (-4) t_position t_tokenAt t_token t_digits t_number t_row t_isRow h _ _ _ hw (lv_sub hl [] rfl)
  have hB_Mo_nextToken_185 : ∀ (N_111 : Int32 → Int32 → Int64 → Int32 → Int32 → Int32 → Int32 → Prop) (hN_111 : ∀ (t_position : Int32) (t_tokenAt : Int32) (t_token : Int64) (t_digits : Int32) (t_number : Int32) (t_row : Int32) (t_isRow : Int32), N_111 t_position t_tokenAt t_token t_digits t_number t_row t_isRow → Wat p l e rm_Mo_nextToken s m args below meth c A Qf g 2 (cs_Mo_nextToken g a_t a_t_text a_t_weight a_t_cost a_t_one a_t_read a_t_likes a_t_judged a_t_met a_t_line a_t_image a_t_isKept a_t_had t_points t_cases t_bytes t_position t_tokenAt t_token t_digits t_number t_row t_isRow t_faultAt t_readMany t_readPoints t_readCases t_suitOne t_suitTwo t_text) [(0, .ref a_t)] 111 []) (k1 : Int64) (t_position : Int32) (t_tokenAt : Int32) (t_token : Int64) (t_digits : Int32) (t_number : Int32) (t_row : Int32) (t_isRow : Int32), B_Mo_nextToken_185 t_bytes t_text Q N_111 k1 t_position t_tokenAt t_token t_digits t_number t_row t_isRow → Wat p l e rm_Mo_nextToken s m args below meth c A Qf g 2 (cs_Mo_nextToken g a_t a_t_text a_t_weight a_t_cost a_t_one a_t_read a_t_likes a_t_judged a_t_met a_t_line a_t_image a_t_isKept a_t_had t_points t_cases t_bytes t_position t_tokenAt t_token t_digits t_number t_row t_isRow t_faultAt t_readMany t_readPoints t_readCases t_suitOne t_suitTwo t_text) [(0, .ref a_t)] 185 [.long k1, .ref a_t] := by
    intro N_111 hN_111 k1 t_position t_tokenAt t_token t_digits t_number t_row t_isRow h H locs ls hw hl
    refine U_RX10_91 (ws2 := (cs_Mo_nextToken g a_t a_t_text a_t_weight a_t_cost a_t_one a_t_read a_t_likes a_t_judged a_t_met a_t_line a_t_image a_t_isKept a_t_had t_points t_cases t_bytes t_position t_tokenAt k1 t_digits t_number t_row t_isRow t_faultAt t_readMany t_readPoints t_readCases t_suitOne t_suitTwo t_text)) C hw 0 rfl rfl rfl rfl dX10_nextToken_185 (fun H locs hw => ?_)
    refine lv_aload_n hx hb dX10_nextToken_188 rfl (lv_at hl 0 rfl) ?_
    refine lv_dup hx hb dX10_nextToken_189 rfl ?_
    refine G_RX10_70 C hw 0 rfl dX10_nextToken_190 ?_
    refine lv_iconst (v := 1) hx hb dX10_nextToken_193 (by decide) ?_
    refine lv_iadd hx hb dX10_nextToken_194 ?_
    refine lv_topi (fun t_position_6 et_position_6 => ?_)
    have h := h t_position_6 et_position_6
    refine U_RX10_70 (ws2 := (cs_Mo_nextToken g a_t a_t_text a_t_weight a_t_cost a_t_one a_t_read a_t_likes a_t_judged a_t_met a_t_line a_t_image a_t_isKept a_t_had t_points t_cases t_bytes t_position_6 t_tokenAt k1 t_digits t_number t_row t_isRow t_faultAt t_readMany t_readPoints t_readCases t_suitOne t_suitTwo t_text)) C hw 0 rfl rfl rfl rfl dX10_nextToken_195 (fun H locs hw => ?_)
    refine lv_goto (tgt := 111) hx hb dX10_nextToken_198 (by decide) ?_
    exact hN_111 t_position_6 t_tokenAt k1 t_digits t_number t_row t_isRow h _ _ _ hw (lv_sub hl [0] rfl)
  have hL_Mo_nextToken_111 : ∀ (n : Nat) (t_position : Int32) (t_tokenAt : Int32) (t_token : Int64) (t_digits : Int32) (t_number : Int32) (t_row : Int32) (t_isRow : Int32), L_Mo_nextToken_111 t_bytes t_text Q n t_position t_tokenAt t_token t_digits t_number t_row t_isRow → Wat p l e rm_Mo_nextToken s m args below meth c A Qf g 2 (cs_Mo_nextToken g a_t a_t_text a_t_weight a_t_cost a_t_one a_t_read a_t_likes a_t_judged a_t_met a_t_line a_t_image a_t_isKept a_t_had t_points t_cases t_bytes t_position t_tokenAt t_token t_digits t_number t_row t_isRow t_faultAt t_readMany t_readPoints t_readCases t_suitOne t_suitTwo t_text) [(0, .ref a_t)] 111 [] := by
    intro n
    induction n with
    | zero => intro t_position t_tokenAt t_token t_digits t_number t_row t_isRow h; exact absurd h id
    | succ n ih =>
      intro t_position t_tokenAt t_token t_digits t_number t_row t_isRow h H locs ls hw hl
      rw [L_Mo_nextToken_111] at h
      refine lv_aload_n hx hb dX10_nextToken_111 rfl (lv_at hl 0 rfl) ?_
      refine G_RX10_70 C hw 0 rfl dX10_nextToken_112 ?_
      refine lv_aload_n hx hb dX10_nextToken_115 rfl (lv_at hl 0 rfl) ?_
      refine G_RX10_65 C hw 0 rfl dX10_nextToken_116 ?_
      refine lv_icmp_ge (tgt := 201) hx hb dX10_nextToken_119 (by decide) (fun c_119 => ?_) (fun c_119 => ?_)
      · have h := h.1 c_119
        exact hB_Mo_nextToken_201 t_position t_tokenAt t_token t_digits t_number t_row t_isRow h _ _ _ hw (lv_sub hl [0] rfl)
      · have h := h.2 c_119
        refine lv_aload_n hx hb dX10_nextToken_122 rfl (lv_at hl 0 rfl) ?_
        refine G_RX10_23 C hw 0 rfl dX10_nextToken_123 ?_
        refine lv_aload_n hx hb dX10_nextToken_126 rfl (lv_at hl 0 rfl) ?_
        refine G_RX10_70 C hw 0 rfl dX10_nextToken_127 ?_
        refine aldI C hw 1 rfl h.1 dX10_nextToken_130 ?_
        have h := h.2
        refine lv_bipush (v := 97) hx hb dX10_nextToken_131 (by decide) ?_
        refine lv_bipush (v := 122) hx hb dX10_nextToken_133 (by decide) ?_
        refine callSi (As := [.int (t_text t_position.toNatClampNeg), .int 97, .int 122]) (rest := []) C hw hl (c_Mo_in l g (t_text t_position.toNatClampNeg) 97 122 _ h) tw_999 kk_X10_in rfl ⟨rfl, rfl⟩ ⟨by decide, by decide⟩ (Nat.le_of_ble_eq_true rfl) rfl dX10_nextToken_135 (fun r_7 u H locs h hw => ?_)
        refine lv_if_eq (tgt := 201) hx hb dX10_nextToken_138 (by decide) (fun c_138 => ?_) (fun c_138 => ?_)
        · have h := h.1 c_138
          exact hB_Mo_nextToken_201 t_position t_tokenAt t_token t_digits t_number t_row t_isRow h _ _ _ hw (lv_sub hl [0] rfl)
        · have h := h.2 c_138
          refine lv_aload_n hx hb dX10_nextToken_141 rfl (lv_at hl 0 rfl) ?_
          refine lv_aload_n hx hb dX10_nextToken_142 rfl (lv_at hl 0 rfl) ?_
          refine G_RX10_70 C hw 0 rfl dX10_nextToken_143 ?_
          refine lv_aload_n hx hb dX10_nextToken_146 rfl (lv_at hl 0 rfl) ?_
          refine G_RX10_73 C hw 0 rfl dX10_nextToken_147 ?_
          refine lv_isub hx hb dX10_nextToken_150 ?_
          refine lv_bipush (v := 9) hx hb dX10_nextToken_151 (by decide) ?_
          refine lv_icmp_ge (tgt := 182) hx hb dX10_nextToken_153 (by decide) (fun c_153 => ?_) (fun c_153 => ?_)
          · have h := h.1 c_153
            refine lv_ldc2 (v := (-4)) hx hb hown (hts _ tw_1026) dX10_nextToken_182 ?_
            exact hB_Mo_nextToken_185 (L_Mo_nextToken_111 t_bytes t_text Q n) ih (-4) t_position t_tokenAt t_token t_digits t_number t_row t_isRow h _ _ _ hw (lv_sub hl [0] rfl)
          · have h := h.2 c_153
            refine lv_ldc2 (v := 27) hx hb hown (hts _ tw_1024) dX10_nextToken_156 ?_
            refine lv_aload_n hx hb dX10_nextToken_159 rfl (lv_at hl 0 rfl) ?_
            refine G_RX10_91 C hw 0 rfl dX10_nextToken_160 ?_
            refine lv_lmul hx hb dX10_nextToken_163 ?_
            refine lv_aload_n hx hb dX10_nextToken_164 rfl (lv_at hl 0 rfl) ?_
            refine G_RX10_23 C hw 0 rfl dX10_nextToken_165 ?_
            refine lv_aload_n hx hb dX10_nextToken_168 rfl (lv_at hl 0 rfl) ?_
            refine G_RX10_70 C hw 0 rfl dX10_nextToken_169 ?_
            refine aldI C hw 1 rfl h.1 dX10_nextToken_172 ?_
            have h := h.2
            refine lv_i2l hx hb dX10_nextToken_173 rfl ?_
            refine lv_ladd hx hb dX10_nextToken_174 ?_
            refine lv_ldc2 (v := 96) hx hb hown (hts _ tw_1025) dX10_nextToken_175 ?_
            refine lv_lsub hx hb dX10_nextToken_178 ?_
            refine lv_goto (tgt := 185) hx hb dX10_nextToken_179 (by decide) ?_
            exact hB_Mo_nextToken_185 (L_Mo_nextToken_111 t_bytes t_text Q n) ih (((27 * t_token) + ((t_text t_position.toNatClampNeg).toInt64)) - 96) t_position t_tokenAt t_token t_digits t_number t_row t_isRow h _ _ _ hw (lv_sub hl [0] rfl)
  have hB_Mo_nextToken_38 : ∀ (t_position : Int32) (t_tokenAt : Int32) (t_token : Int64) (t_digits : Int32) (t_number : Int32) (t_row : Int32) (t_isRow : Int32), B_Mo_nextToken_38 t_bytes t_text Q t_position t_tokenAt t_token t_digits t_number t_row t_isRow → Wat p l e rm_Mo_nextToken s m args below meth c A Qf g 2 (cs_Mo_nextToken g a_t a_t_text a_t_weight a_t_cost a_t_one a_t_read a_t_likes a_t_judged a_t_met a_t_line a_t_image a_t_isKept a_t_had t_points t_cases t_bytes t_position t_tokenAt t_token t_digits t_number t_row t_isRow t_faultAt t_readMany t_readPoints t_readCases t_suitOne t_suitTwo t_text) [(0, .ref a_t)] 38 [] := by
    intro t_position t_tokenAt t_token t_digits t_number t_row t_isRow h H locs ls hw hl
    refine lv_aload_n hx hb dX10_nextToken_38 rfl (lv_at hl 0 rfl) ?_
    refine lv_aload_n hx hb dX10_nextToken_39 rfl (lv_at hl 0 rfl) ?_
    refine G_RX10_70 C hw 0 rfl dX10_nextToken_40 ?_
    refine U_RX10_73 (ws2 := (cs_Mo_nextToken g a_t a_t_text a_t_weight a_t_cost a_t_one a_t_read a_t_likes a_t_judged a_t_met a_t_line a_t_image a_t_isKept a_t_had t_points t_cases t_bytes t_position t_position t_token t_digits t_number t_row t_isRow t_faultAt t_readMany t_readPoints t_readCases t_suitOne t_suitTwo t_text)) C hw 0 rfl rfl rfl rfl dX10_nextToken_43 (fun H locs hw => ?_)
    refine lv_aload_n hx hb dX10_nextToken_46 rfl (lv_at hl 0 rfl) ?_
    refine lv_iconst (v := 0) hx hb dX10_nextToken_47 (by decide) ?_
    refine U_RX10_76 (ws2 := (cs_Mo_nextToken g a_t a_t_text a_t_weight a_t_cost a_t_one a_t_read a_t_likes a_t_judged a_t_met a_t_line a_t_image a_t_isKept a_t_had t_points t_cases t_bytes t_position t_position t_token 0 t_number t_row t_isRow t_faultAt t_readMany t_readPoints t_readCases t_suitOne t_suitTwo t_text)) C hw 0 rfl rfl rfl rfl dX10_nextToken_48 (fun H locs hw => ?_)
    refine lv_aload_n hx hb dX10_nextToken_51 rfl (lv_at hl 0 rfl) ?_
    refine lv_iconst (v := 0) hx hb dX10_nextToken_52 (by decide) ?_
    refine U_RX10_79 (ws2 := (cs_Mo_nextToken g a_t a_t_text a_t_weight a_t_cost a_t_one a_t_read a_t_likes a_t_judged a_t_met a_t_line a_t_image a_t_isKept a_t_had t_points t_cases t_bytes t_position t_position t_token 0 0 t_row t_isRow t_faultAt t_readMany t_readPoints t_readCases t_suitOne t_suitTwo t_text)) C hw 0 rfl rfl rfl rfl dX10_nextToken_53 (fun H locs hw => ?_)
    refine lv_aload_n hx hb dX10_nextToken_56 rfl (lv_at hl 0 rfl) ?_
    refine lv_iconst (v := 0) hx hb dX10_nextToken_57 (by decide) ?_
    refine U_RX10_82 (ws2 := (cs_Mo_nextToken g a_t a_t_text a_t_weight a_t_cost a_t_one a_t_read a_t_likes a_t_judged a_t_met a_t_line a_t_image a_t_isKept a_t_had t_points t_cases t_bytes t_position t_position t_token 0 0 0 t_isRow t_faultAt t_readMany t_readPoints t_readCases t_suitOne t_suitTwo t_text)) C hw 0 rfl rfl rfl rfl dX10_nextToken_58 (fun H locs hw => ?_)
    refine lv_aload_n hx hb dX10_nextToken_61 rfl (lv_at hl 0 rfl) ?_
    refine lv_iconst (v := 1) hx hb dX10_nextToken_62 (by decide) ?_
    refine U_RX10_85 (ws2 := (cs_Mo_nextToken g a_t a_t_text a_t_weight a_t_cost a_t_one a_t_read a_t_likes a_t_judged a_t_met a_t_line a_t_image a_t_isKept a_t_had t_points t_cases t_bytes t_position t_position t_token 0 0 0 1 t_faultAt t_readMany t_readPoints t_readCases t_suitOne t_suitTwo t_text)) C hw 0 rfl rfl rfl rfl dX10_nextToken_63 (fun H locs hw => ?_)
    refine lv_aload_n hx hb dX10_nextToken_66 rfl (lv_at hl 0 rfl) ?_
    refine G_RX10_70 C hw 0 rfl dX10_nextToken_67 ?_
    refine lv_aload_n hx hb dX10_nextToken_70 rfl (lv_at hl 0 rfl) ?_
    refine G_RX10_65 C hw 0 rfl dX10_nextToken_71 ?_
    refine lv_icmp_ne (tgt := 87) hx hb dX10_nextToken_74 (by decide) (fun c_74 => ?_) (fun c_74 => ?_)
    · have h := h.1 c_74
      refine lv_aload_n hx hb dX10_nextToken_87 rfl (lv_at hl 0 rfl) ?_
      refine G_RX10_23 C hw 0 rfl dX10_nextToken_88 ?_
      refine lv_aload_n hx hb dX10_nextToken_91 rfl (lv_at hl 0 rfl) ?_
      refine G_RX10_70 C hw 0 rfl dX10_nextToken_92 ?_
      refine aldI C hw 1 rfl h.1 dX10_nextToken_95 ?_
      have h := h.2
      refine lv_bipush (v := 97) hx hb dX10_nextToken_96 (by decide) ?_
      refine lv_bipush (v := 122) hx hb dX10_nextToken_98 (by decide) ?_
      refine callSi (As := [.int (t_text t_position.toNatClampNeg), .int 97, .int 122]) (rest := []) C hw hl (c_Mo_in l g (t_text t_position.toNatClampNeg) 97 122 _ h) tw_999 kk_X10_in rfl ⟨rfl, rfl⟩ ⟨by decide, by decide⟩ (Nat.le_of_ble_eq_true rfl) rfl dX10_nextToken_100 (fun r_8 u H locs h hw => ?_)
      refine lv_if_eq (tgt := 232) hx hb dX10_nextToken_103 (by decide) (fun c_103 => ?_) (fun c_103 => ?_)
      · have h := h.1 c_103
        refine lv_aload_n hx hb dX10_nextToken_232 rfl (lv_at hl 0 rfl) ?_
        refine G_RX10_23 C hw 0 rfl dX10_nextToken_233 ?_
        refine lv_aload_n hx hb dX10_nextToken_236 rfl (lv_at hl 0 rfl) ?_
        refine G_RX10_70 C hw 0 rfl dX10_nextToken_237 ?_
        refine aldI C hw 1 rfl h.1 dX10_nextToken_240 ?_
        have h := h.2
        refine lv_bipush (v := 48) hx hb dX10_nextToken_241 (by decide) ?_
        refine lv_bipush (v := 57) hx hb dX10_nextToken_243 (by decide) ?_
        refine callSi (As := [.int (t_text t_position.toNatClampNeg), .int 48, .int 57]) (rest := []) C hw hl (c_Mo_in l g (t_text t_position.toNatClampNeg) 48 57 _ h) tw_999 kk_X10_in rfl ⟨rfl, rfl⟩ ⟨by decide, by decide⟩ (Nat.le_of_ble_eq_true rfl) rfl dX10_nextToken_245 (fun r_9 u H locs h hw => ?_)
        refine lv_if_eq (tgt := 414) hx hb dX10_nextToken_248 (by decide) (fun c_248 => ?_) (fun c_248 => ?_)
        · have h := h.1 c_248
          refine lv_aload_n hx hb dX10_nextToken_414 rfl (lv_at hl 0 rfl) ?_
          refine lv_aload_n hx hb dX10_nextToken_415 rfl (lv_at hl 0 rfl) ?_
          refine G_RX10_23 C hw 0 rfl dX10_nextToken_416 ?_
          refine lv_aload_n hx hb dX10_nextToken_419 rfl (lv_at hl 0 rfl) ?_
          refine G_RX10_70 C hw 0 rfl dX10_nextToken_420 ?_
          refine aldI C hw 1 rfl h.1 dX10_nextToken_423 ?_
          have h := h.2
          refine lv_bipush (v := 59) hx hb dX10_nextToken_424 (by decide) ?_
          refine lv_icmp_ne (tgt := 435) hx hb dX10_nextToken_426 (by decide) (fun c_426 => ?_) (fun c_426 => ?_)
          · have h := h.1 c_426
            refine lv_ldc2 (v := (-4)) hx hb hown (hts _ tw_1026) dX10_nextToken_435 ?_
            exact hB_Mo_nextToken_438 (-4) t_position t_position t_token 0 0 0 1 h _ _ _ hw (lv_sub hl [0] rfl)
          · have h := h.2 c_426
            refine lv_ldc2 (v := (-3)) hx hb hown (hts _ tw_1028) dX10_nextToken_429 ?_
            refine lv_goto (tgt := 438) hx hb dX10_nextToken_432 (by decide) ?_
            exact hB_Mo_nextToken_438 (-3) t_position t_position t_token 0 0 0 1 h _ _ _ hw (lv_sub hl [0] rfl)
        · have h := h.2 c_248
          obtain ⟨n_251, h⟩ := h
          exact hL_Mo_nextToken_251 n_251 t_position t_position t_token 0 0 0 1 h _ _ _ hw (lv_sub hl [0] rfl)
      · have h := h.2 c_103
        refine lv_aload_n hx hb dX10_nextToken_106 rfl (lv_at hl 0 rfl) ?_
        refine lv_lconst (v := 0) hx hb dX10_nextToken_107 (by decide) ?_
        refine U_RX10_91 (ws2 := (cs_Mo_nextToken g a_t a_t_text a_t_weight a_t_cost a_t_one a_t_read a_t_likes a_t_judged a_t_met a_t_line a_t_image a_t_isKept a_t_had t_points t_cases t_bytes t_position t_position 0 0 0 0 1 t_faultAt t_readMany t_readPoints t_readCases t_suitOne t_suitTwo t_text)) C hw 0 rfl rfl rfl rfl dX10_nextToken_108 (fun H locs hw => ?_)
        obtain ⟨n_111, h⟩ := h
        exact hL_Mo_nextToken_111 n_111 t_position t_position 0 0 0 0 1 h _ _ _ hw (lv_sub hl [0] rfl)
    · have h := h.2 c_74
      refine lv_aload_n hx hb dX10_nextToken_77 rfl (lv_at hl 0 rfl) ?_
      refine lv_ldc2 (v := (-2)) hx hb hown (hts _ tw_1023) dX10_nextToken_78 ?_
      refine U_RX10_91 (ws2 := (cs_Mo_nextToken g a_t a_t_text a_t_weight a_t_cost a_t_one a_t_read a_t_likes a_t_judged a_t_met a_t_line a_t_image a_t_isKept a_t_had t_points t_cases t_bytes t_position t_position (-2) 0 0 0 1 t_faultAt t_readMany t_readPoints t_readCases t_suitOne t_suitTwo t_text)) C hw 0 rfl rfl rfl rfl dX10_nextToken_81 (fun H locs hw => ?_)
      refine lv_goto (tgt := 451) hx hb dX10_nextToken_84 (by decide) ?_
      exact hB_Mo_nextToken_451 t_position t_position (-2) 0 0 0 1 h _ _ _ hw (lv_sub hl [] rfl)
  have hL_Mo_nextToken_0 : ∀ (n : Nat) (t_position : Int32) (t_tokenAt : Int32) (t_token : Int64) (t_digits : Int32) (t_number : Int32) (t_row : Int32) (t_isRow : Int32), L_Mo_nextToken_0 t_bytes t_text Q n t_position t_tokenAt t_token t_digits t_number t_row t_isRow → Wat p l e rm_Mo_nextToken s m args below meth c A Qf g 2 (cs_Mo_nextToken g a_t a_t_text a_t_weight a_t_cost a_t_one a_t_read a_t_likes a_t_judged a_t_met a_t_line a_t_image a_t_isKept a_t_had t_points t_cases t_bytes t_position t_tokenAt t_token t_digits t_number t_row t_isRow t_faultAt t_readMany t_readPoints t_readCases t_suitOne t_suitTwo t_text) [(0, .ref a_t)] 0 [] := by
    intro n
    induction n with
    | zero => intro t_position t_tokenAt t_token t_digits t_number t_row t_isRow h; exact absurd h id
    | succ n ih =>
      intro t_position t_tokenAt t_token t_digits t_number t_row t_isRow h H locs ls hw hl
      rw [L_Mo_nextToken_0] at h
      refine lv_aload_n hx hb dX10_nextToken_0 rfl (lv_at hl 0 rfl) ?_
      refine G_RX10_70 C hw 0 rfl dX10_nextToken_1 ?_
      refine lv_aload_n hx hb dX10_nextToken_4 rfl (lv_at hl 0 rfl) ?_
      refine G_RX10_65 C hw 0 rfl dX10_nextToken_5 ?_
      refine lv_icmp_ge (tgt := 38) hx hb dX10_nextToken_8 (by decide) (fun c_8 => ?_) (fun c_8 => ?_)
      · have h := h.1 c_8
        exact hB_Mo_nextToken_38 t_position t_tokenAt t_token t_digits t_number t_row t_isRow h _ _ _ hw (lv_sub hl [0] rfl)
      · have h := h.2 c_8
        refine lv_aload_n hx hb dX10_nextToken_11 rfl (lv_at hl 0 rfl) ?_
        refine G_RX10_23 C hw 0 rfl dX10_nextToken_12 ?_
        refine lv_aload_n hx hb dX10_nextToken_15 rfl (lv_at hl 0 rfl) ?_
        refine G_RX10_70 C hw 0 rfl dX10_nextToken_16 ?_
        refine aldI C hw 1 rfl h.1 dX10_nextToken_19 ?_
        have h := h.2
        refine lv_bipush (v := 32) hx hb dX10_nextToken_20 (by decide) ?_
        refine lv_icmp_ne (tgt := 38) hx hb dX10_nextToken_22 (by decide) (fun c_22 => ?_) (fun c_22 => ?_)
        · have h := h.1 c_22
          exact hB_Mo_nextToken_38 t_position t_tokenAt t_token t_digits t_number t_row t_isRow h _ _ _ hw (lv_sub hl [0] rfl)
        · have h := h.2 c_22
          refine lv_aload_n hx hb dX10_nextToken_25 rfl (lv_at hl 0 rfl) ?_
          refine lv_dup hx hb dX10_nextToken_26 rfl ?_
          refine G_RX10_70 C hw 0 rfl dX10_nextToken_27 ?_
          refine lv_iconst (v := 1) hx hb dX10_nextToken_30 (by decide) ?_
          refine lv_iadd hx hb dX10_nextToken_31 ?_
          refine lv_topi (fun t_position_10 et_position_10 => ?_)
          have h := h t_position_10 et_position_10
          refine U_RX10_70 (ws2 := (cs_Mo_nextToken g a_t a_t_text a_t_weight a_t_cost a_t_one a_t_read a_t_likes a_t_judged a_t_met a_t_line a_t_image a_t_isKept a_t_had t_points t_cases t_bytes t_position_10 t_tokenAt t_token t_digits t_number t_row t_isRow t_faultAt t_readMany t_readPoints t_readCases t_suitOne t_suitTwo t_text)) C hw 0 rfl rfl rfl rfl dX10_nextToken_32 (fun H locs hw => ?_)
          refine lv_goto (tgt := 0) hx hb dX10_nextToken_35 (by decide) ?_
          exact ih t_position_10 t_tokenAt t_token t_digits t_number t_row t_isRow h _ _ _ hw (lv_sub hl [0] rfl)
  obtain ⟨n_0, h⟩ := h
  exact hL_Mo_nextToken_0 n_0 t_position t_tokenAt t_token t_digits t_number t_row t_isRow h _ _ _ hw (lv_sub hl [0] rfl)
def P_Mo_fails (t_tokenAt : Int32) (t_faultAt : Int32) (Q : Int32 → Int32 → Prop) : Prop := Q 0 t_tokenAt
abbrev rm_Mo_fails : Room := { frames := 0, cells := 0, slots := 0, locals := 0 }
def cs_Mo_fails (g : GE) (a_t a_t_weight a_t_cost a_t_one a_t_text a_t_read a_t_likes a_t_judged a_t_met a_t_line a_t_image a_t_isKept a_t_had : Nat) (t_points : Int32) (t_cases : Int32) (t_bytes : Int32) (t_position : Int32) (t_tokenAt : Int32) (t_token : Int64) (t_digits : Int32) (t_number : Int32) (t_row : Int32) (t_isRow : Int32) (t_faultAt : Int32) (t_readMany : Int32) (t_readPoints : Int32) (t_readCases : Int32) (t_suitOne : Int32) (t_suitTwo : Int32) : va_W := [oc a_t 10 [.int t_points, .ref a_t_weight, .ref a_t_cost, .int t_cases, .ref a_t_one, .int t_bytes, .ref a_t_text, .int t_position, .int t_tokenAt, .long t_token, .int t_digits, .int t_number, .int t_row, .int t_isRow, .int t_faultAt, .int t_readMany, .int t_readPoints, .int t_readCases, .ref a_t_read, .ref a_t_likes, .ref a_t_judged, .ref a_t_met, .ref a_t_line, .ref a_t_image, .ref a_t_isKept, .int t_suitOne, .int t_suitTwo, .ref a_t_had]]
set_option maxHeartbeats 4000000 in
set_option maxRecDepth 100000 in
theorem c_Mo_fails (l : Launch) (g : GE) (a_t a_t_weight a_t_cost a_t_one a_t_text a_t_read a_t_likes a_t_judged a_t_met a_t_line a_t_image a_t_isKept a_t_had : Nat) (t_points : Int32) (t_cases : Int32) (t_bytes : Int32) (t_position : Int32) (t_tokenAt : Int32) (t_token : Int64) (t_digits : Int32) (t_number : Int32) (t_row : Int32) (t_isRow : Int32) (t_faultAt : Int32) (t_readMany : Int32) (t_readPoints : Int32) (t_readCases : Int32) (t_suitOne : Int32) (t_suitTwo : Int32) (Q : Int32 → Int32 → Prop) (h : P_Mo_fails t_tokenAt t_faultAt Q) : Cti l g yX10_fails cX10_fails 1 (some .boolean) rm_Mo_fails [.ref a_t] (cs_Mo_fails g a_t a_t_weight a_t_cost a_t_one a_t_text a_t_read a_t_likes a_t_judged a_t_met a_t_line a_t_image a_t_isKept a_t_had t_points t_cases t_bytes t_position t_tokenAt t_token t_digits t_number t_row t_isRow t_faultAt t_readMany t_readPoints t_readCases t_suitOne t_suitTwo) (S := Int32) (fun r u => Q r u) (fun u => (cs_Mo_fails g a_t a_t_weight a_t_cost a_t_one a_t_text a_t_read a_t_likes a_t_judged a_t_met a_t_line a_t_image a_t_isKept a_t_had t_points t_cases t_bytes t_position t_tokenAt t_token t_digits t_number t_row t_isRow u t_readMany t_readPoints t_readCases t_suitOne t_suitTwo)) := by
  refine meetI rfl (Nat.le_of_ble_eq_true rfl) ⟨rfl, rfl⟩ ?_
  intro p e s m args below meth c A Qf ls C hret hw hl
  have hx := C.1
  have hb := C.2.1
  have hown := C.2.2.2.1
  have hts := C.2.2.2.2.1
  have hE := C.2.2.2.2.2.1
  have hl : lv_has ls 1 [(0, .ref a_t)] := hl
  refine lv_aload_n hx hb dX10_fails_0 rfl (lv_at hl 0 rfl) ?_
  refine lv_aload_n hx hb dX10_fails_1 rfl (lv_at hl 0 rfl) ?_
  refine G_RX10_73 C hw 0 rfl dX10_fails_2 ?_
  refine U_RX10_105 (ws2 := (cs_Mo_fails g a_t a_t_weight a_t_cost a_t_one a_t_text a_t_read a_t_likes a_t_judged a_t_met a_t_line a_t_image a_t_isKept a_t_had t_points t_cases t_bytes t_position t_tokenAt t_token t_digits t_number t_row t_isRow t_tokenAt t_readMany t_readPoints t_readCases t_suitOne t_suitTwo)) C hw 0 rfl rfl rfl rfl dX10_fails_5 (fun H locs hw => ?_)
  refine lv_iconst (v := 0) hx hb dX10_fails_8 (by decide) ?_
  exact hret (t_tokenAt) h hw dX10_fails_9 rfl
def B_Mo_isDeedRow_33 (x1 : Int32) (t_bytes : Int32) (t_readPoints : Int32) (t_text : (Nat → Int32)) (Q : Int32 → Int32 → Int32 → Int64 → Int32 → Int32 → Int32 → Int32 → Int32 → (Nat → Int32) → Prop) (t_position : Int32) (t_tokenAt : Int32) (t_token : Int64) (t_digits : Int32) (t_number : Int32) (t_row : Int32) (t_isRow : Int32) (t_faultAt : Int32) (t_read : (Nat → Int32)) : Prop := P_Mo_fails t_tokenAt t_faultAt (fun r_1 t_faultAt_2 => narrow .boolean (.int r_1) = .int r_1 ∧ Q r_1 t_position t_tokenAt t_token t_digits t_number t_row t_isRow t_faultAt_2 t_read)
def P_Mo_isDeedRow (x1 : Int32) (t_bytes : Int32) (t_position : Int32) (t_tokenAt : Int32) (t_token : Int64) (t_digits : Int32) (t_number : Int32) (t_row : Int32) (t_isRow : Int32) (t_faultAt : Int32) (t_readPoints : Int32) (t_read : (Nat → Int32)) (t_text : (Nat → Int32)) (Q : Int32 → Int32 → Int32 → Int64 → Int32 → Int32 → Int32 → Int32 → Int32 → (Nat → Int32) → Prop) : Prop := P_Mo_nextToken t_bytes t_position t_tokenAt t_token t_digits t_number t_row t_isRow t_text (fun t_position_3 t_tokenAt_4 t_token_5 t_digits_6 t_number_7 t_row_8 t_isRow_9 => (¬ (lg_cmp t_token_5 (-1)) = 0 → B_Mo_isDeedRow_33 x1 t_bytes t_readPoints t_text Q t_position_3 t_tokenAt_4 t_token_5 t_digits_6 t_number_7 t_row_8 t_isRow_9 t_faultAt t_read) ∧ ((lg_cmp t_token_5 (-1)) = 0 → (¬ t_digits_6 = t_readPoints → B_Mo_isDeedRow_33 x1 t_bytes t_readPoints t_text Q t_position_3 t_tokenAt_4 t_token_5 t_digits_6 t_number_7 t_row_8 t_isRow_9 t_faultAt t_read) ∧ (t_digits_6 = t_readPoints → (¬ t_isRow_9 = 0 → vp_in x1 32 ∧ (Q 1 t_position_3 t_tokenAt_4 t_token_5 t_digits_6 t_number_7 t_row_8 t_isRow_9 t_faultAt (upd t_read x1.toNatClampNeg t_row_8))) ∧ (t_isRow_9 = 0 → B_Mo_isDeedRow_33 x1 t_bytes t_readPoints t_text Q t_position_3 t_tokenAt_4 t_token_5 t_digits_6 t_number_7 t_row_8 t_isRow_9 t_faultAt t_read))))
abbrev rm_Mo_isDeedRow : Room := { frames := 2, cells := 0, slots := 0, locals := 43 }
def cs_Mo_isDeedRow (g : GE) (a_t a_t_read a_t_text a_t_weight a_t_cost a_t_one a_t_likes a_t_judged a_t_met a_t_line a_t_image a_t_isKept a_t_had : Nat) (t_points : Int32) (t_cases : Int32) (t_bytes : Int32) (t_position : Int32) (t_tokenAt : Int32) (t_token : Int64) (t_digits : Int32) (t_number : Int32) (t_row : Int32) (t_isRow : Int32) (t_faultAt : Int32) (t_readMany : Int32) (t_readPoints : Int32) (t_readCases : Int32) (t_suitOne : Int32) (t_suitTwo : Int32) (t_read : (Nat → Int32)) (t_text : (Nat → Int32)) : va_W := [oc a_t 10 [.int t_points, .ref a_t_weight, .ref a_t_cost, .int t_cases, .ref a_t_one, .int t_bytes, .ref a_t_text, .int t_position, .int t_tokenAt, .long t_token, .int t_digits, .int t_number, .int t_row, .int t_isRow, .int t_faultAt, .int t_readMany, .int t_readPoints, .int t_readCases, .ref a_t_read, .ref a_t_likes, .ref a_t_judged, .ref a_t_met, .ref a_t_line, .ref a_t_image, .ref a_t_isKept, .int t_suitOne, .int t_suitTwo, .ref a_t_had], ai g a_t_read 32 t_read, ai g a_t_text 200 t_text]
set_option maxHeartbeats 4000000 in
set_option maxRecDepth 100000 in
theorem c_Mo_isDeedRow (l : Launch) (g : GE) (a_t a_t_read a_t_text a_t_weight a_t_cost a_t_one a_t_likes a_t_judged a_t_met a_t_line a_t_image a_t_isKept a_t_had : Nat) (t_points : Int32) (t_cases : Int32) (t_bytes : Int32) (t_position : Int32) (t_tokenAt : Int32) (t_token : Int64) (t_digits : Int32) (t_number : Int32) (t_row : Int32) (t_isRow : Int32) (t_faultAt : Int32) (t_readMany : Int32) (t_readPoints : Int32) (t_readCases : Int32) (t_suitOne : Int32) (t_suitTwo : Int32) (t_read : (Nat → Int32)) (t_text : (Nat → Int32)) (x1 : Int32) (Q : Int32 → Int32 → Int32 → Int64 → Int32 → Int32 → Int32 → Int32 → Int32 → (Nat → Int32) → Prop) (h : P_Mo_isDeedRow x1 t_bytes t_position t_tokenAt t_token t_digits t_number t_row t_isRow t_faultAt t_readPoints t_read t_text Q) : Cti l g yX10_isDeedRow cX10_isDeedRow 2 (some .boolean) rm_Mo_isDeedRow [.ref a_t, .int x1] (cs_Mo_isDeedRow g a_t a_t_read a_t_text a_t_weight a_t_cost a_t_one a_t_likes a_t_judged a_t_met a_t_line a_t_image a_t_isKept a_t_had t_points t_cases t_bytes t_position t_tokenAt t_token t_digits t_number t_row t_isRow t_faultAt t_readMany t_readPoints t_readCases t_suitOne t_suitTwo t_read t_text) (S := Int32 × Int32 × Int64 × Int32 × Int32 × Int32 × Int32 × Int32 × (Nat → Int32)) (fun r u => Q r u.1 u.2.1 u.2.2.1 u.2.2.2.1 u.2.2.2.2.1 u.2.2.2.2.2.1 u.2.2.2.2.2.2.1 u.2.2.2.2.2.2.2.1 u.2.2.2.2.2.2.2.2) (fun u => (cs_Mo_isDeedRow g a_t a_t_read a_t_text a_t_weight a_t_cost a_t_one a_t_likes a_t_judged a_t_met a_t_line a_t_image a_t_isKept a_t_had t_points t_cases t_bytes (u.1) (u.2.1) (u.2.2.1) (u.2.2.2.1) (u.2.2.2.2.1) (u.2.2.2.2.2.1) (u.2.2.2.2.2.2.1) (u.2.2.2.2.2.2.2.1) t_readMany t_readPoints t_readCases t_suitOne t_suitTwo (u.2.2.2.2.2.2.2.2) t_text)) := by
  refine meetI rfl (Nat.le_of_ble_eq_true rfl) ⟨rfl, rfl⟩ ?_
  intro p e s m args below meth c A Qf ls C hret hw hl
  have hx := C.1
  have hb := C.2.1
  have hown := C.2.2.2.1
  have hts := C.2.2.2.2.1
  have hE := C.2.2.2.2.2.1
  have hl : lv_has ls 2 [(0, .ref a_t), (1, .int x1)] := hl
  have hB_Mo_isDeedRow_33 : ∀ (t_position : Int32) (t_tokenAt : Int32) (t_token : Int64) (t_digits : Int32) (t_number : Int32) (t_row : Int32) (t_isRow : Int32) (t_faultAt : Int32) (t_read : (Nat → Int32)), B_Mo_isDeedRow_33 x1 t_bytes t_readPoints t_text Q t_position t_tokenAt t_token t_digits t_number t_row t_isRow t_faultAt t_read → Wat p l e rm_Mo_isDeedRow s m args below meth c A Qf g 2 (cs_Mo_isDeedRow g a_t a_t_read a_t_text a_t_weight a_t_cost a_t_one a_t_likes a_t_judged a_t_met a_t_line a_t_image a_t_isKept a_t_had t_points t_cases t_bytes t_position t_tokenAt t_token t_digits t_number t_row t_isRow t_faultAt t_readMany t_readPoints t_readCases t_suitOne t_suitTwo t_read t_text) [(0, .ref a_t)] 33 [] := by
    intro t_position t_tokenAt t_token t_digits t_number t_row t_isRow t_faultAt t_read h H locs ls hw hl
    refine lv_aload_n hx hb dX10_isDeedRow_33 rfl (lv_at hl 0 rfl) ?_
    refine callVi (As := []) (rest := []) (W2 := fun u => (cs_Mo_isDeedRow g a_t a_t_read a_t_text a_t_weight a_t_cost a_t_one a_t_likes a_t_judged a_t_met a_t_line a_t_image a_t_isKept a_t_had t_points t_cases t_bytes t_position t_tokenAt t_token t_digits t_number t_row t_isRow u t_readMany t_readPoints t_readCases t_suitOne t_suitTwo t_read t_text)) C hw hl (c_Mo_fails l g a_t a_t_weight a_t_cost a_t_one a_t_text a_t_read a_t_likes a_t_judged a_t_met a_t_line a_t_image a_t_isKept a_t_had t_points t_cases t_bytes t_position t_tokenAt t_token t_digits t_number t_row t_isRow t_faultAt t_readMany t_readPoints t_readCases t_suitOne t_suitTwo _ h) tw_1043 kk_X10_fails rfl ⟨rfl, rfl⟩ ⟨by decide, by decide⟩ (Nat.le_of_ble_eq_true rfl) 0 rfl rfl rfl [0] [1, 2] [2, 0, 1] rfl rfl rfl rfl rfl rfl (fun u => rfl) rfl dX10_isDeedRow_34 (fun r_1 u H locs h hw => ?_)
    obtain ⟨t_faultAt_2, rfl⟩ : ∃ z, z = u := ⟨_, rfl⟩
    have hw : Wd g A s (cs_Mo_isDeedRow g a_t a_t_read a_t_text a_t_weight a_t_cost a_t_one a_t_likes a_t_judged a_t_met a_t_line a_t_image a_t_isKept a_t_had t_points t_cases t_bytes t_position t_tokenAt t_token t_digits t_number t_row t_isRow t_faultAt_2 t_readMany t_readPoints t_readCases t_suitOne t_suitTwo t_read t_text) H locs := hw
    exact hret (t_position, t_tokenAt, t_token, t_digits, t_number, t_row, t_isRow, t_faultAt_2, t_read) h.2 hw dX10_isDeedRow_37 h.1
  refine lv_aload_n hx hb dX10_isDeedRow_0 rfl (lv_at hl 0 rfl) ?_
  refine callVv (As := []) (rest := []) (W2 := fun u => (cs_Mo_isDeedRow g a_t a_t_read a_t_text a_t_weight a_t_cost a_t_one a_t_likes a_t_judged a_t_met a_t_line a_t_image a_t_isKept a_t_had t_points t_cases t_bytes (u.1) (u.2.1) (u.2.2.1) (u.2.2.2.1) (u.2.2.2.2.1) (u.2.2.2.2.2.1) (u.2.2.2.2.2.2) t_faultAt t_readMany t_readPoints t_readCases t_suitOne t_suitTwo t_read t_text)) C hw hl (c_Mo_nextToken l g a_t a_t_text a_t_weight a_t_cost a_t_one a_t_read a_t_likes a_t_judged a_t_met a_t_line a_t_image a_t_isKept a_t_had t_points t_cases t_bytes t_position t_tokenAt t_token t_digits t_number t_row t_isRow t_faultAt t_readMany t_readPoints t_readCases t_suitOne t_suitTwo t_text _ h) tw_1019 kk_X10_nextToken rfl ⟨rfl, rfl⟩ ⟨by decide, by decide⟩ (Nat.le_of_ble_eq_true rfl) 0 rfl rfl rfl [0, 2] [1] [1, 0, 2] rfl rfl rfl rfl rfl rfl (fun u => rfl) rfl dX10_isDeedRow_1 (fun u H locs h hw => ?_)
  obtain ⟨t_position_3, t_tokenAt_4, t_token_5, t_digits_6, t_number_7, t_row_8, t_isRow_9⟩ := u
  have hw : Wd g A s (cs_Mo_isDeedRow g a_t a_t_read a_t_text a_t_weight a_t_cost a_t_one a_t_likes a_t_judged a_t_met a_t_line a_t_image a_t_isKept a_t_had t_points t_cases t_bytes t_position_3 t_tokenAt_4 t_token_5 t_digits_6 t_number_7 t_row_8 t_isRow_9 t_faultAt t_readMany t_readPoints t_readCases t_suitOne t_suitTwo t_read t_text) H locs := hw
  refine lv_aload_n hx hb dX10_isDeedRow_4 rfl (lv_at hl 0 rfl) ?_
  refine G_RX10_91 C hw 0 rfl dX10_isDeedRow_5 ?_
  refine lv_ldc2 (v := (-1)) hx hb hown (hts _ tw_1027) dX10_isDeedRow_8 ?_
  refine W.lcmp hx hb dX10_isDeedRow_11 ?_
  refine lv_if_ne (tgt := 33) hx hb dX10_isDeedRow_12 (by decide) (fun c_12 => ?_) (fun c_12 => ?_)
  · have h := h.1 c_12
    exact hB_Mo_isDeedRow_33 t_position_3 t_tokenAt_4 t_token_5 t_digits_6 t_number_7 t_row_8 t_isRow_9 t_faultAt t_read h _ _ _ hw (lv_sub hl [0] rfl)
  · have h := h.2 c_12
    refine lv_aload_n hx hb dX10_isDeedRow_15 rfl (lv_at hl 0 rfl) ?_
    refine G_RX10_76 C hw 0 rfl dX10_isDeedRow_16 ?_
    refine lv_aload_n hx hb dX10_isDeedRow_19 rfl (lv_at hl 0 rfl) ?_
    refine G_RX10_115 C hw 0 rfl dX10_isDeedRow_20 ?_
    refine lv_icmp_ne (tgt := 33) hx hb dX10_isDeedRow_23 (by decide) (fun c_23 => ?_) (fun c_23 => ?_)
    · have h := h.1 c_23
      exact hB_Mo_isDeedRow_33 t_position_3 t_tokenAt_4 t_token_5 t_digits_6 t_number_7 t_row_8 t_isRow_9 t_faultAt t_read h _ _ _ hw (lv_sub hl [0] rfl)
    · have h := h.2 c_23
      refine lv_aload_n hx hb dX10_isDeedRow_26 rfl (lv_at hl 0 rfl) ?_
      refine G_RX10_85 C hw 0 rfl dX10_isDeedRow_27 ?_
      refine lv_if_ne (tgt := 38) hx hb dX10_isDeedRow_30 (by decide) (fun c_30 => ?_) (fun c_30 => ?_)
      · have h := h.1 c_30
        refine lv_aload_n hx hb dX10_isDeedRow_38 rfl (lv_at hl 0 rfl) ?_
        refine G_RX10_26 C hw 0 rfl dX10_isDeedRow_39 ?_
        refine lv_iload_n hx hb dX10_isDeedRow_42 rfl (lv_at hl 1 rfl) ?_
        refine lv_aload_n hx hb dX10_isDeedRow_43 rfl (lv_at hl 0 rfl) ?_
        refine G_RX10_82 C hw 0 rfl dX10_isDeedRow_44 ?_
        refine astI (ws2 := (cs_Mo_isDeedRow g a_t a_t_read a_t_text a_t_weight a_t_cost a_t_one a_t_likes a_t_judged a_t_met a_t_line a_t_image a_t_isKept a_t_had t_points t_cases t_bytes t_position_3 t_tokenAt_4 t_token_5 t_digits_6 t_number_7 t_row_8 t_isRow_9 t_faultAt t_readMany t_readPoints t_readCases t_suitOne t_suitTwo (upd t_read x1.toNatClampNeg t_row_8) t_text)) C hw 1 rfl h.1 rfl dX10_isDeedRow_47 (fun H locs hw => ?_)
        have h := h.2
        refine lv_iconst (v := 1) hx hb dX10_isDeedRow_48 (by decide) ?_
        exact hret (t_position_3, t_tokenAt_4, t_token_5, t_digits_6, t_number_7, t_row_8, t_isRow_9, t_faultAt, upd t_read x1.toNatClampNeg t_row_8) h hw dX10_isDeedRow_49 rfl
      · have h := h.2 c_30
        exact hB_Mo_isDeedRow_33 t_position_3 t_tokenAt_4 t_token_5 t_digits_6 t_number_7 t_row_8 t_isRow_9 t_faultAt t_read h _ _ _ hw (lv_sub hl [0] rfl)
def B_Mo_isNumber_35 (x1 : Int32) (x2 : Int32) (x3 : Int32) (t_bytes : Int32) (t_text : (Nat → Int32)) (Q : Int32 → Int32 → Int32 → Int64 → Int32 → Int32 → Int32 → Int32 → Int32 → (Nat → Int32) → Prop) (t_position : Int32) (t_tokenAt : Int32) (t_token : Int64) (t_digits : Int32) (t_number : Int32) (t_row : Int32) (t_isRow : Int32) (t_faultAt : Int32) (t_read : (Nat → Int32)) : Prop := P_Mo_fails t_tokenAt t_faultAt (fun r_1 t_faultAt_2 => narrow .boolean (.int r_1) = .int r_1 ∧ Q r_1 t_position t_tokenAt t_token t_digits t_number t_row t_isRow t_faultAt_2 t_read)
def P_Mo_isNumber (x1 : Int32) (x2 : Int32) (x3 : Int32) (t_bytes : Int32) (t_position : Int32) (t_tokenAt : Int32) (t_token : Int64) (t_digits : Int32) (t_number : Int32) (t_row : Int32) (t_isRow : Int32) (t_faultAt : Int32) (t_read : (Nat → Int32)) (t_text : (Nat → Int32)) (Q : Int32 → Int32 → Int32 → Int64 → Int32 → Int32 → Int32 → Int32 → Int32 → (Nat → Int32) → Prop) : Prop := P_Mo_nextToken t_bytes t_position t_tokenAt t_token t_digits t_number t_row t_isRow t_text (fun t_position_3 t_tokenAt_4 t_token_5 t_digits_6 t_number_7 t_row_8 t_isRow_9 => (¬ (lg_cmp t_token_5 (-1)) = 0 → B_Mo_isNumber_35 x1 x2 x3 t_bytes t_text Q t_position_3 t_tokenAt_4 t_token_5 t_digits_6 t_number_7 t_row_8 t_isRow_9 t_faultAt t_read) ∧ ((lg_cmp t_token_5 (-1)) = 0 → (4 < t_digits_6 → B_Mo_isNumber_35 x1 x2 x3 t_bytes t_text Q t_position_3 t_tokenAt_4 t_token_5 t_digits_6 t_number_7 t_row_8 t_isRow_9 t_faultAt t_read) ∧ (¬ 4 < t_digits_6 → P_Mo_in t_number_7 x2 x3 (fun r_10 => (¬ r_10 = 0 → vp_in x1 32 ∧ (Q 1 t_position_3 t_tokenAt_4 t_token_5 t_digits_6 t_number_7 t_row_8 t_isRow_9 t_faultAt (upd t_read x1.toNatClampNeg t_number_7))) ∧ (r_10 = 0 → B_Mo_isNumber_35 x1 x2 x3 t_bytes t_text Q t_position_3 t_tokenAt_4 t_token_5 t_digits_6 t_number_7 t_row_8 t_isRow_9 t_faultAt t_read)))))
abbrev rm_Mo_isNumber : Room := { frames := 2, cells := 0, slots := 0, locals := 43 }
def cs_Mo_isNumber (g : GE) (a_t a_t_read a_t_text a_t_weight a_t_cost a_t_one a_t_likes a_t_judged a_t_met a_t_line a_t_image a_t_isKept a_t_had : Nat) (t_points : Int32) (t_cases : Int32) (t_bytes : Int32) (t_position : Int32) (t_tokenAt : Int32) (t_token : Int64) (t_digits : Int32) (t_number : Int32) (t_row : Int32) (t_isRow : Int32) (t_faultAt : Int32) (t_readMany : Int32) (t_readPoints : Int32) (t_readCases : Int32) (t_suitOne : Int32) (t_suitTwo : Int32) (t_read : (Nat → Int32)) (t_text : (Nat → Int32)) : va_W := [oc a_t 10 [.int t_points, .ref a_t_weight, .ref a_t_cost, .int t_cases, .ref a_t_one, .int t_bytes, .ref a_t_text, .int t_position, .int t_tokenAt, .long t_token, .int t_digits, .int t_number, .int t_row, .int t_isRow, .int t_faultAt, .int t_readMany, .int t_readPoints, .int t_readCases, .ref a_t_read, .ref a_t_likes, .ref a_t_judged, .ref a_t_met, .ref a_t_line, .ref a_t_image, .ref a_t_isKept, .int t_suitOne, .int t_suitTwo, .ref a_t_had], ai g a_t_read 32 t_read, ai g a_t_text 200 t_text]
set_option maxHeartbeats 4000000 in
set_option maxRecDepth 100000 in
theorem c_Mo_isNumber (l : Launch) (g : GE) (a_t a_t_read a_t_text a_t_weight a_t_cost a_t_one a_t_likes a_t_judged a_t_met a_t_line a_t_image a_t_isKept a_t_had : Nat) (t_points : Int32) (t_cases : Int32) (t_bytes : Int32) (t_position : Int32) (t_tokenAt : Int32) (t_token : Int64) (t_digits : Int32) (t_number : Int32) (t_row : Int32) (t_isRow : Int32) (t_faultAt : Int32) (t_readMany : Int32) (t_readPoints : Int32) (t_readCases : Int32) (t_suitOne : Int32) (t_suitTwo : Int32) (t_read : (Nat → Int32)) (t_text : (Nat → Int32)) (x1 : Int32) (x2 : Int32) (x3 : Int32) (Q : Int32 → Int32 → Int32 → Int64 → Int32 → Int32 → Int32 → Int32 → Int32 → (Nat → Int32) → Prop) (h : P_Mo_isNumber x1 x2 x3 t_bytes t_position t_tokenAt t_token t_digits t_number t_row t_isRow t_faultAt t_read t_text Q) : Cti l g yX10_isNumber cX10_isNumber 4 (some .boolean) rm_Mo_isNumber [.ref a_t, .int x1, .int x2, .int x3] (cs_Mo_isNumber g a_t a_t_read a_t_text a_t_weight a_t_cost a_t_one a_t_likes a_t_judged a_t_met a_t_line a_t_image a_t_isKept a_t_had t_points t_cases t_bytes t_position t_tokenAt t_token t_digits t_number t_row t_isRow t_faultAt t_readMany t_readPoints t_readCases t_suitOne t_suitTwo t_read t_text) (S := Int32 × Int32 × Int64 × Int32 × Int32 × Int32 × Int32 × Int32 × (Nat → Int32)) (fun r u => Q r u.1 u.2.1 u.2.2.1 u.2.2.2.1 u.2.2.2.2.1 u.2.2.2.2.2.1 u.2.2.2.2.2.2.1 u.2.2.2.2.2.2.2.1 u.2.2.2.2.2.2.2.2) (fun u => (cs_Mo_isNumber g a_t a_t_read a_t_text a_t_weight a_t_cost a_t_one a_t_likes a_t_judged a_t_met a_t_line a_t_image a_t_isKept a_t_had t_points t_cases t_bytes (u.1) (u.2.1) (u.2.2.1) (u.2.2.2.1) (u.2.2.2.2.1) (u.2.2.2.2.2.1) (u.2.2.2.2.2.2.1) (u.2.2.2.2.2.2.2.1) t_readMany t_readPoints t_readCases t_suitOne t_suitTwo (u.2.2.2.2.2.2.2.2) t_text)) := by
  refine meetI rfl (Nat.le_of_ble_eq_true rfl) ⟨rfl, rfl⟩ ?_
  intro p e s m args below meth c A Qf ls C hret hw hl
  have hx := C.1
  have hb := C.2.1
  have hown := C.2.2.2.1
  have hts := C.2.2.2.2.1
  have hE := C.2.2.2.2.2.1
  have hl : lv_has ls 4 [(0, .ref a_t), (1, .int x1), (2, .int x2), (3, .int x3)] := hl
  have hB_Mo_isNumber_35 : ∀ (t_position : Int32) (t_tokenAt : Int32) (t_token : Int64) (t_digits : Int32) (t_number : Int32) (t_row : Int32) (t_isRow : Int32) (t_faultAt : Int32) (t_read : (Nat → Int32)), B_Mo_isNumber_35 x1 x2 x3 t_bytes t_text Q t_position t_tokenAt t_token t_digits t_number t_row t_isRow t_faultAt t_read → Wat p l e rm_Mo_isNumber s m args below meth c A Qf g 4 (cs_Mo_isNumber g a_t a_t_read a_t_text a_t_weight a_t_cost a_t_one a_t_likes a_t_judged a_t_met a_t_line a_t_image a_t_isKept a_t_had t_points t_cases t_bytes t_position t_tokenAt t_token t_digits t_number t_row t_isRow t_faultAt t_readMany t_readPoints t_readCases t_suitOne t_suitTwo t_read t_text) [(0, .ref a_t)] 35 [] := by
    intro t_position t_tokenAt t_token t_digits t_number t_row t_isRow t_faultAt t_read h H locs ls hw hl
    refine lv_aload_n hx hb dX10_isNumber_35 rfl (lv_at hl 0 rfl) ?_
    refine callVi (As := []) (rest := []) (W2 := fun u => (cs_Mo_isNumber g a_t a_t_read a_t_text a_t_weight a_t_cost a_t_one a_t_likes a_t_judged a_t_met a_t_line a_t_image a_t_isKept a_t_had t_points t_cases t_bytes t_position t_tokenAt t_token t_digits t_number t_row t_isRow u t_readMany t_readPoints t_readCases t_suitOne t_suitTwo t_read t_text)) C hw hl (c_Mo_fails l g a_t a_t_weight a_t_cost a_t_one a_t_text a_t_read a_t_likes a_t_judged a_t_met a_t_line a_t_image a_t_isKept a_t_had t_points t_cases t_bytes t_position t_tokenAt t_token t_digits t_number t_row t_isRow t_faultAt t_readMany t_readPoints t_readCases t_suitOne t_suitTwo _ h) tw_1043 kk_X10_fails rfl ⟨rfl, rfl⟩ ⟨by decide, by decide⟩ (Nat.le_of_ble_eq_true rfl) 0 rfl rfl rfl [0] [1, 2] [2, 0, 1] rfl rfl rfl rfl rfl rfl (fun u => rfl) rfl dX10_isNumber_36 (fun r_1 u H locs h hw => ?_)
    obtain ⟨t_faultAt_2, rfl⟩ : ∃ z, z = u := ⟨_, rfl⟩
    have hw : Wd g A s (cs_Mo_isNumber g a_t a_t_read a_t_text a_t_weight a_t_cost a_t_one a_t_likes a_t_judged a_t_met a_t_line a_t_image a_t_isKept a_t_had t_points t_cases t_bytes t_position t_tokenAt t_token t_digits t_number t_row t_isRow t_faultAt_2 t_readMany t_readPoints t_readCases t_suitOne t_suitTwo t_read t_text) H locs := hw
    exact hret (t_position, t_tokenAt, t_token, t_digits, t_number, t_row, t_isRow, t_faultAt_2, t_read) h.2 hw dX10_isNumber_39 h.1
  refine lv_aload_n hx hb dX10_isNumber_0 rfl (lv_at hl 0 rfl) ?_
  refine callVv (As := []) (rest := []) (W2 := fun u => (cs_Mo_isNumber g a_t a_t_read a_t_text a_t_weight a_t_cost a_t_one a_t_likes a_t_judged a_t_met a_t_line a_t_image a_t_isKept a_t_had t_points t_cases t_bytes (u.1) (u.2.1) (u.2.2.1) (u.2.2.2.1) (u.2.2.2.2.1) (u.2.2.2.2.2.1) (u.2.2.2.2.2.2) t_faultAt t_readMany t_readPoints t_readCases t_suitOne t_suitTwo t_read t_text)) C hw hl (c_Mo_nextToken l g a_t a_t_text a_t_weight a_t_cost a_t_one a_t_read a_t_likes a_t_judged a_t_met a_t_line a_t_image a_t_isKept a_t_had t_points t_cases t_bytes t_position t_tokenAt t_token t_digits t_number t_row t_isRow t_faultAt t_readMany t_readPoints t_readCases t_suitOne t_suitTwo t_text _ h) tw_1019 kk_X10_nextToken rfl ⟨rfl, rfl⟩ ⟨by decide, by decide⟩ (Nat.le_of_ble_eq_true rfl) 0 rfl rfl rfl [0, 2] [1] [1, 0, 2] rfl rfl rfl rfl rfl rfl (fun u => rfl) rfl dX10_isNumber_1 (fun u H locs h hw => ?_)
  obtain ⟨t_position_3, t_tokenAt_4, t_token_5, t_digits_6, t_number_7, t_row_8, t_isRow_9⟩ := u
  have hw : Wd g A s (cs_Mo_isNumber g a_t a_t_read a_t_text a_t_weight a_t_cost a_t_one a_t_likes a_t_judged a_t_met a_t_line a_t_image a_t_isKept a_t_had t_points t_cases t_bytes t_position_3 t_tokenAt_4 t_token_5 t_digits_6 t_number_7 t_row_8 t_isRow_9 t_faultAt t_readMany t_readPoints t_readCases t_suitOne t_suitTwo t_read t_text) H locs := hw
  refine lv_aload_n hx hb dX10_isNumber_4 rfl (lv_at hl 0 rfl) ?_
  refine G_RX10_91 C hw 0 rfl dX10_isNumber_5 ?_
  refine lv_ldc2 (v := (-1)) hx hb hown (hts _ tw_1027) dX10_isNumber_8 ?_
  refine W.lcmp hx hb dX10_isNumber_11 ?_
  refine lv_if_ne (tgt := 35) hx hb dX10_isNumber_12 (by decide) (fun c_12 => ?_) (fun c_12 => ?_)
  · have h := h.1 c_12
    exact hB_Mo_isNumber_35 t_position_3 t_tokenAt_4 t_token_5 t_digits_6 t_number_7 t_row_8 t_isRow_9 t_faultAt t_read h _ _ _ hw (lv_sub hl [0] rfl)
  · have h := h.2 c_12
    refine lv_aload_n hx hb dX10_isNumber_15 rfl (lv_at hl 0 rfl) ?_
    refine G_RX10_76 C hw 0 rfl dX10_isNumber_16 ?_
    refine lv_iconst (v := 4) hx hb dX10_isNumber_19 (by decide) ?_
    refine lv_icmp_gt (tgt := 35) hx hb dX10_isNumber_20 (by decide) (fun c_20 => ?_) (fun c_20 => ?_)
    · have h := h.1 c_20
      exact hB_Mo_isNumber_35 t_position_3 t_tokenAt_4 t_token_5 t_digits_6 t_number_7 t_row_8 t_isRow_9 t_faultAt t_read h _ _ _ hw (lv_sub hl [0] rfl)
    · have h := h.2 c_20
      refine lv_aload_n hx hb dX10_isNumber_23 rfl (lv_at hl 0 rfl) ?_
      refine G_RX10_79 C hw 0 rfl dX10_isNumber_24 ?_
      refine lv_iload_n hx hb dX10_isNumber_27 rfl (lv_at hl 2 rfl) ?_
      refine lv_iload_n hx hb dX10_isNumber_28 rfl (lv_at hl 3 rfl) ?_
      refine callSi (As := [.int t_number_7, .int x2, .int x3]) (rest := []) C hw hl (c_Mo_in l g t_number_7 x2 x3 _ h) tw_999 kk_X10_in rfl ⟨rfl, rfl⟩ ⟨by decide, by decide⟩ (Nat.le_of_ble_eq_true rfl) rfl dX10_isNumber_29 (fun r_10 u H locs h hw => ?_)
      refine lv_if_ne (tgt := 40) hx hb dX10_isNumber_32 (by decide) (fun c_32 => ?_) (fun c_32 => ?_)
      · have h := h.1 c_32
        refine lv_aload_n hx hb dX10_isNumber_40 rfl (lv_at hl 0 rfl) ?_
        refine G_RX10_26 C hw 0 rfl dX10_isNumber_41 ?_
        refine lv_iload_n hx hb dX10_isNumber_44 rfl (lv_at hl 1 rfl) ?_
        refine lv_aload_n hx hb dX10_isNumber_45 rfl (lv_at hl 0 rfl) ?_
        refine G_RX10_79 C hw 0 rfl dX10_isNumber_46 ?_
        refine astI (ws2 := (cs_Mo_isNumber g a_t a_t_read a_t_text a_t_weight a_t_cost a_t_one a_t_likes a_t_judged a_t_met a_t_line a_t_image a_t_isKept a_t_had t_points t_cases t_bytes t_position_3 t_tokenAt_4 t_token_5 t_digits_6 t_number_7 t_row_8 t_isRow_9 t_faultAt t_readMany t_readPoints t_readCases t_suitOne t_suitTwo (upd t_read x1.toNatClampNeg t_number_7) t_text)) C hw 1 rfl h.1 rfl dX10_isNumber_49 (fun H locs hw => ?_)
        have h := h.2
        refine lv_iconst (v := 1) hx hb dX10_isNumber_50 (by decide) ?_
        exact hret (t_position_3, t_tokenAt_4, t_token_5, t_digits_6, t_number_7, t_row_8, t_isRow_9, t_faultAt, upd t_read x1.toNatClampNeg t_number_7) h hw dX10_isNumber_51 rfl
      · have h := h.2 c_32
        exact hB_Mo_isNumber_35 t_position_3 t_tokenAt_4 t_token_5 t_digits_6 t_number_7 t_row_8 t_isRow_9 t_faultAt t_read h _ _ _ hw (lv_sub hl [0] rfl)
def B_Mo_isCaseLine_65 (x1 : Int32) (t_bytes : Int32) (t_readPoints : Int32) (t_text : (Nat → Int32)) (Q : Int32 → Int32 → Int32 → Int64 → Int32 → Int32 → Int32 → Int32 → Int32 → Int32 → (Nat → Int32) → Prop) (k0 : Int32) (t_position : Int32) (t_tokenAt : Int32) (t_token : Int64) (t_digits : Int32) (t_number : Int32) (t_row : Int32) (t_isRow : Int32) (t_faultAt : Int32) (t_readCases : Int32) (t_read : (Nat → Int32)) : Prop := narrow .boolean (.int k0) = .int k0 ∧ Q k0 t_position t_tokenAt t_token t_digits t_number t_row t_isRow t_faultAt t_readCases t_read
def B_Mo_isCaseLine_64 (x1 : Int32) (t_bytes : Int32) (t_readPoints : Int32) (t_text : (Nat → Int32)) (Q : Int32 → Int32 → Int32 → Int64 → Int32 → Int32 → Int32 → Int32 → Int32 → Int32 → (Nat → Int32) → Prop) (t_position : Int32) (t_tokenAt : Int32) (t_token : Int64) (t_digits : Int32) (t_number : Int32) (t_row : Int32) (t_isRow : Int32) (t_faultAt : Int32) (t_readCases : Int32) (t_read : (Nat → Int32)) : Prop := B_Mo_isCaseLine_65 x1 t_bytes t_readPoints t_text Q 0 t_position t_tokenAt t_token t_digits t_number t_row t_isRow t_faultAt t_readCases t_read
def P_Mo_isCaseLine (x1 : Int32) (t_bytes : Int32) (t_position : Int32) (t_tokenAt : Int32) (t_token : Int64) (t_digits : Int32) (t_number : Int32) (t_row : Int32) (t_isRow : Int32) (t_faultAt : Int32) (t_readPoints : Int32) (t_readCases : Int32) (t_read : (Nat → Int32)) (t_text : (Nat → Int32)) (Q : Int32 → Int32 → Int32 → Int64 → Int32 → Int32 → Int32 → Int32 → Int32 → Int32 → (Nat → Int32) → Prop) : Prop := (¬ t_readCases = 12 → ∀ t_readCases_1 : Int32, t_readCases_1 = (t_readCases + 1) → P_Mo_isDeedRow (x1 + 1) t_bytes t_position t_tokenAt t_token t_digits t_number t_row t_isRow t_faultAt t_readPoints t_read t_text (fun r_2 t_position_3 t_tokenAt_4 t_token_5 t_digits_6 t_number_7 t_row_8 t_isRow_9 t_faultAt_10 t_read_11 => (r_2 = 0 → B_Mo_isCaseLine_64 x1 t_bytes t_readPoints t_text Q t_position_3 t_tokenAt_4 t_token_5 t_digits_6 t_number_7 t_row_8 t_isRow_9 t_faultAt_10 t_readCases_1 t_read_11) ∧ (¬ r_2 = 0 → P_Mo_isNumber (x1 + 2) 0 3 t_bytes t_position_3 t_tokenAt_4 t_token_5 t_digits_6 t_number_7 t_row_8 t_isRow_9 t_faultAt_10 t_read_11 t_text (fun r_12 t_position_13 t_tokenAt_14 t_token_15 t_digits_16 t_number_17 t_row_18 t_isRow_19 t_faultAt_20 t_read_21 => (r_12 = 0 → B_Mo_isCaseLine_64 x1 t_bytes t_readPoints t_text Q t_position_13 t_tokenAt_14 t_token_15 t_digits_16 t_number_17 t_row_18 t_isRow_19 t_faultAt_20 t_readCases_1 t_read_21) ∧ (¬ r_12 = 0 → P_Mo_isNumber (x1 + 3) 0 9999 t_bytes t_position_13 t_tokenAt_14 t_token_15 t_digits_16 t_number_17 t_row_18 t_isRow_19 t_faultAt_20 t_read_21 t_text (fun r_22 t_position_23 t_tokenAt_24 t_token_25 t_digits_26 t_number_27 t_row_28 t_isRow_29 t_faultAt_30 t_read_31 => (r_22 = 0 → B_Mo_isCaseLine_64 x1 t_bytes t_readPoints t_text Q t_position_23 t_tokenAt_24 t_token_25 t_digits_26 t_number_27 t_row_28 t_isRow_29 t_faultAt_30 t_readCases_1 t_read_31) ∧ (¬ r_22 = 0 → B_Mo_isCaseLine_65 x1 t_bytes t_readPoints t_text Q 1 t_position_23 t_tokenAt_24 t_token_25 t_digits_26 t_number_27 t_row_28 t_isRow_29 t_faultAt_30 t_readCases_1 t_read_31))))))) ∧ (t_readCases = 12 → P_Mo_fails t_tokenAt t_faultAt (fun r_32 t_faultAt_33 => narrow .boolean (.int r_32) = .int r_32 ∧ Q r_32 t_position t_tokenAt t_token t_digits t_number t_row t_isRow t_faultAt_33 t_readCases t_read))
abbrev rm_Mo_isCaseLine : Room := { frames := 3, cells := 0, slots := 0, locals := 66 }
def cs_Mo_isCaseLine (g : GE) (a_t a_t_read a_t_text a_t_weight a_t_cost a_t_one a_t_likes a_t_judged a_t_met a_t_line a_t_image a_t_isKept a_t_had : Nat) (t_points : Int32) (t_cases : Int32) (t_bytes : Int32) (t_position : Int32) (t_tokenAt : Int32) (t_token : Int64) (t_digits : Int32) (t_number : Int32) (t_row : Int32) (t_isRow : Int32) (t_faultAt : Int32) (t_readMany : Int32) (t_readPoints : Int32) (t_readCases : Int32) (t_suitOne : Int32) (t_suitTwo : Int32) (t_read : (Nat → Int32)) (t_text : (Nat → Int32)) : va_W := [oc a_t 10 [.int t_points, .ref a_t_weight, .ref a_t_cost, .int t_cases, .ref a_t_one, .int t_bytes, .ref a_t_text, .int t_position, .int t_tokenAt, .long t_token, .int t_digits, .int t_number, .int t_row, .int t_isRow, .int t_faultAt, .int t_readMany, .int t_readPoints, .int t_readCases, .ref a_t_read, .ref a_t_likes, .ref a_t_judged, .ref a_t_met, .ref a_t_line, .ref a_t_image, .ref a_t_isKept, .int t_suitOne, .int t_suitTwo, .ref a_t_had], ai g a_t_read 32 t_read, ai g a_t_text 200 t_text]
set_option maxHeartbeats 4000000 in
set_option maxRecDepth 100000 in
theorem c_Mo_isCaseLine (l : Launch) (g : GE) (a_t a_t_read a_t_text a_t_weight a_t_cost a_t_one a_t_likes a_t_judged a_t_met a_t_line a_t_image a_t_isKept a_t_had : Nat) (t_points : Int32) (t_cases : Int32) (t_bytes : Int32) (t_position : Int32) (t_tokenAt : Int32) (t_token : Int64) (t_digits : Int32) (t_number : Int32) (t_row : Int32) (t_isRow : Int32) (t_faultAt : Int32) (t_readMany : Int32) (t_readPoints : Int32) (t_readCases : Int32) (t_suitOne : Int32) (t_suitTwo : Int32) (t_read : (Nat → Int32)) (t_text : (Nat → Int32)) (x1 : Int32) (Q : Int32 → Int32 → Int32 → Int64 → Int32 → Int32 → Int32 → Int32 → Int32 → Int32 → (Nat → Int32) → Prop) (h : P_Mo_isCaseLine x1 t_bytes t_position t_tokenAt t_token t_digits t_number t_row t_isRow t_faultAt t_readPoints t_readCases t_read t_text Q) : Cti l g yX10_isCaseLine cX10_isCaseLine 2 (some .boolean) rm_Mo_isCaseLine [.ref a_t, .int x1] (cs_Mo_isCaseLine g a_t a_t_read a_t_text a_t_weight a_t_cost a_t_one a_t_likes a_t_judged a_t_met a_t_line a_t_image a_t_isKept a_t_had t_points t_cases t_bytes t_position t_tokenAt t_token t_digits t_number t_row t_isRow t_faultAt t_readMany t_readPoints t_readCases t_suitOne t_suitTwo t_read t_text) (S := Int32 × Int32 × Int64 × Int32 × Int32 × Int32 × Int32 × Int32 × Int32 × (Nat → Int32)) (fun r u => Q r u.1 u.2.1 u.2.2.1 u.2.2.2.1 u.2.2.2.2.1 u.2.2.2.2.2.1 u.2.2.2.2.2.2.1 u.2.2.2.2.2.2.2.1 u.2.2.2.2.2.2.2.2.1 u.2.2.2.2.2.2.2.2.2) (fun u => (cs_Mo_isCaseLine g a_t a_t_read a_t_text a_t_weight a_t_cost a_t_one a_t_likes a_t_judged a_t_met a_t_line a_t_image a_t_isKept a_t_had t_points t_cases t_bytes (u.1) (u.2.1) (u.2.2.1) (u.2.2.2.1) (u.2.2.2.2.1) (u.2.2.2.2.2.1) (u.2.2.2.2.2.2.1) (u.2.2.2.2.2.2.2.1) t_readMany t_readPoints (u.2.2.2.2.2.2.2.2.1) t_suitOne t_suitTwo (u.2.2.2.2.2.2.2.2.2) t_text)) := by
  refine meetI rfl (Nat.le_of_ble_eq_true rfl) ⟨rfl, rfl⟩ ?_
  intro p e s m args below meth c A Qf ls C hret hw hl
  have hx := C.1
  have hb := C.2.1
  have hown := C.2.2.2.1
  have hts := C.2.2.2.2.1
  have hE := C.2.2.2.2.2.1
  have hl : lv_has ls 2 [(0, .ref a_t), (1, .int x1)] := hl
  have hB_Mo_isCaseLine_65 : ∀ (k0 : Int32) (t_position : Int32) (t_tokenAt : Int32) (t_token : Int64) (t_digits : Int32) (t_number : Int32) (t_row : Int32) (t_isRow : Int32) (t_faultAt : Int32) (t_readCases : Int32) (t_read : (Nat → Int32)), B_Mo_isCaseLine_65 x1 t_bytes t_readPoints t_text Q k0 t_position t_tokenAt t_token t_digits t_number t_row t_isRow t_faultAt t_readCases t_read → Wat p l e rm_Mo_isCaseLine s m args below meth c A Qf g 2 (cs_Mo_isCaseLine g a_t a_t_read a_t_text a_t_weight a_t_cost a_t_one a_t_likes a_t_judged a_t_met a_t_line a_t_image a_t_isKept a_t_had t_points t_cases t_bytes t_position t_tokenAt t_token t_digits t_number t_row t_isRow t_faultAt t_readMany t_readPoints t_readCases t_suitOne t_suitTwo t_read t_text) [] 65 [.int k0] := by
    intro k0 t_position t_tokenAt t_token t_digits t_number t_row t_isRow t_faultAt t_readCases t_read h H locs ls hw hl
    exact hret (t_position, t_tokenAt, t_token, t_digits, t_number, t_row, t_isRow, t_faultAt, t_readCases, t_read) h.2 hw dX10_isCaseLine_65 h.1
  have hB_Mo_isCaseLine_64 : ∀ (t_position : Int32) (t_tokenAt : Int32) (t_token : Int64) (t_digits : Int32) (t_number : Int32) (t_row : Int32) (t_isRow : Int32) (t_faultAt : Int32) (t_readCases : Int32) (t_read : (Nat → Int32)), B_Mo_isCaseLine_64 x1 t_bytes t_readPoints t_text Q t_position t_tokenAt t_token t_digits t_number t_row t_isRow t_faultAt t_readCases t_read → Wat p l e rm_Mo_isCaseLine s m args below meth c A Qf g 2 (cs_Mo_isCaseLine g a_t a_t_read a_t_text a_t_weight a_t_cost a_t_one a_t_likes a_t_judged a_t_met a_t_line a_t_image a_t_isKept a_t_had t_points t_cases t_bytes t_position t_tokenAt t_token t_digits t_number t_row t_isRow t_faultAt t_readMany t_readPoints t_readCases t_suitOne t_suitTwo t_read t_text) [] 64 [] := by
    intro t_position t_tokenAt t_token t_digits t_number t_row t_isRow t_faultAt t_readCases t_read h H locs ls hw hl
    refine lv_iconst (v := 0) hx hb dX10_isCaseLine_64 (by decide) ?_
    exact hB_Mo_isCaseLine_65 0 t_position t_tokenAt t_token t_digits t_number t_row t_isRow t_faultAt t_readCases t_read h _ _ _ hw (lv_sub hl [] rfl)
  refine lv_aload_n hx hb dX10_isCaseLine_0 rfl (lv_at hl 0 rfl) ?_
  refine G_RX10_121 C hw 0 rfl dX10_isCaseLine_1 ?_
  refine lv_bipush (v := 12) hx hb dX10_isCaseLine_4 (by decide) ?_
  refine lv_icmp_ne (tgt := 14) hx hb dX10_isCaseLine_6 (by decide) (fun c_6 => ?_) (fun c_6 => ?_)
  · have h := h.1 c_6
    refine lv_aload_n hx hb dX10_isCaseLine_14 rfl (lv_at hl 0 rfl) ?_
    refine lv_dup hx hb dX10_isCaseLine_15 rfl ?_
    refine G_RX10_121 C hw 0 rfl dX10_isCaseLine_16 ?_
    refine lv_iconst (v := 1) hx hb dX10_isCaseLine_19 (by decide) ?_
    refine lv_iadd hx hb dX10_isCaseLine_20 ?_
    refine lv_topi (fun t_readCases_1 et_readCases_1 => ?_)
    have h := h t_readCases_1 et_readCases_1
    refine U_RX10_121 (ws2 := (cs_Mo_isCaseLine g a_t a_t_read a_t_text a_t_weight a_t_cost a_t_one a_t_likes a_t_judged a_t_met a_t_line a_t_image a_t_isKept a_t_had t_points t_cases t_bytes t_position t_tokenAt t_token t_digits t_number t_row t_isRow t_faultAt t_readMany t_readPoints t_readCases_1 t_suitOne t_suitTwo t_read t_text)) C hw 0 rfl rfl rfl rfl dX10_isCaseLine_21 (fun H locs hw => ?_)
    refine lv_aload_n hx hb dX10_isCaseLine_24 rfl (lv_at hl 0 rfl) ?_
    refine lv_iload_n hx hb dX10_isCaseLine_25 rfl (lv_at hl 1 rfl) ?_
    refine lv_iconst (v := 1) hx hb dX10_isCaseLine_26 (by decide) ?_
    refine lv_iadd hx hb dX10_isCaseLine_27 ?_
    refine callVi (As := [.int (x1 + 1)]) (rest := []) (W2 := fun u => (cs_Mo_isCaseLine g a_t a_t_read a_t_text a_t_weight a_t_cost a_t_one a_t_likes a_t_judged a_t_met a_t_line a_t_image a_t_isKept a_t_had t_points t_cases t_bytes (u.1) (u.2.1) (u.2.2.1) (u.2.2.2.1) (u.2.2.2.2.1) (u.2.2.2.2.2.1) (u.2.2.2.2.2.2.1) (u.2.2.2.2.2.2.2.1) t_readMany t_readPoints t_readCases_1 t_suitOne t_suitTwo (u.2.2.2.2.2.2.2.2) t_text)) C hw hl (c_Mo_isDeedRow l g a_t a_t_read a_t_text a_t_weight a_t_cost a_t_one a_t_likes a_t_judged a_t_met a_t_line a_t_image a_t_isKept a_t_had t_points t_cases t_bytes t_position t_tokenAt t_token t_digits t_number t_row t_isRow t_faultAt t_readMany t_readPoints t_readCases_1 t_suitOne t_suitTwo t_read t_text (x1 + 1) _ h) tw_1051 kk_X10_isDeedRow rfl ⟨rfl, rfl⟩ ⟨by decide, by decide⟩ (Nat.le_of_ble_eq_true rfl) 0 rfl rfl rfl [0, 1, 2] [] [0, 1, 2] rfl rfl rfl rfl rfl rfl (fun u => rfl) rfl dX10_isCaseLine_28 (fun r_2 u H locs h hw => ?_)
    obtain ⟨t_position_3, t_tokenAt_4, t_token_5, t_digits_6, t_number_7, t_row_8, t_isRow_9, t_faultAt_10, t_read_11⟩ := u
    have hw : Wd g A s (cs_Mo_isCaseLine g a_t a_t_read a_t_text a_t_weight a_t_cost a_t_one a_t_likes a_t_judged a_t_met a_t_line a_t_image a_t_isKept a_t_had t_points t_cases t_bytes t_position_3 t_tokenAt_4 t_token_5 t_digits_6 t_number_7 t_row_8 t_isRow_9 t_faultAt_10 t_readMany t_readPoints t_readCases_1 t_suitOne t_suitTwo t_read_11 t_text) H locs := hw
    refine lv_if_eq (tgt := 64) hx hb dX10_isCaseLine_31 (by decide) (fun c_31 => ?_) (fun c_31 => ?_)
    · have h := h.1 c_31
      exact hB_Mo_isCaseLine_64 t_position_3 t_tokenAt_4 t_token_5 t_digits_6 t_number_7 t_row_8 t_isRow_9 t_faultAt_10 t_readCases_1 t_read_11 h _ _ _ hw (lv_sub hl [] rfl)
    · have h := h.2 c_31
      refine lv_aload_n hx hb dX10_isCaseLine_34 rfl (lv_at hl 0 rfl) ?_
      refine lv_iload_n hx hb dX10_isCaseLine_35 rfl (lv_at hl 1 rfl) ?_
      refine lv_iconst (v := 2) hx hb dX10_isCaseLine_36 (by decide) ?_
      refine lv_iadd hx hb dX10_isCaseLine_37 ?_
      refine lv_iconst (v := 0) hx hb dX10_isCaseLine_38 (by decide) ?_
      refine lv_iconst (v := 3) hx hb dX10_isCaseLine_39 (by decide) ?_
      refine callVi (As := [.int (x1 + 2), .int 0, .int 3]) (rest := []) (W2 := fun u => (cs_Mo_isCaseLine g a_t a_t_read a_t_text a_t_weight a_t_cost a_t_one a_t_likes a_t_judged a_t_met a_t_line a_t_image a_t_isKept a_t_had t_points t_cases t_bytes (u.1) (u.2.1) (u.2.2.1) (u.2.2.2.1) (u.2.2.2.2.1) (u.2.2.2.2.2.1) (u.2.2.2.2.2.2.1) (u.2.2.2.2.2.2.2.1) t_readMany t_readPoints t_readCases_1 t_suitOne t_suitTwo (u.2.2.2.2.2.2.2.2) t_text)) C hw hl (c_Mo_isNumber l g a_t a_t_read a_t_text a_t_weight a_t_cost a_t_one a_t_likes a_t_judged a_t_met a_t_line a_t_image a_t_isKept a_t_had t_points t_cases t_bytes t_position_3 t_tokenAt_4 t_token_5 t_digits_6 t_number_7 t_row_8 t_isRow_9 t_faultAt_10 t_readMany t_readPoints t_readCases_1 t_suitOne t_suitTwo t_read_11 t_text (x1 + 2) 0 3 _ h) tw_1039 kk_X10_isNumber rfl ⟨rfl, rfl⟩ ⟨by decide, by decide⟩ (Nat.le_of_ble_eq_true rfl) 0 rfl rfl rfl [0, 1, 2] [] [0, 1, 2] rfl rfl rfl rfl rfl rfl (fun u => rfl) rfl dX10_isCaseLine_40 (fun r_12 u H locs h hw => ?_)
      obtain ⟨t_position_13, t_tokenAt_14, t_token_15, t_digits_16, t_number_17, t_row_18, t_isRow_19, t_faultAt_20, t_read_21⟩ := u
      have hw : Wd g A s (cs_Mo_isCaseLine g a_t a_t_read a_t_text a_t_weight a_t_cost a_t_one a_t_likes a_t_judged a_t_met a_t_line a_t_image a_t_isKept a_t_had t_points t_cases t_bytes t_position_13 t_tokenAt_14 t_token_15 t_digits_16 t_number_17 t_row_18 t_isRow_19 t_faultAt_20 t_readMany t_readPoints t_readCases_1 t_suitOne t_suitTwo t_read_21 t_text) H locs := hw
      refine lv_if_eq (tgt := 64) hx hb dX10_isCaseLine_43 (by decide) (fun c_43 => ?_) (fun c_43 => ?_)
      · have h := h.1 c_43
        exact hB_Mo_isCaseLine_64 t_position_13 t_tokenAt_14 t_token_15 t_digits_16 t_number_17 t_row_18 t_isRow_19 t_faultAt_20 t_readCases_1 t_read_21 h _ _ _ hw (lv_sub hl [] rfl)
      · have h := h.2 c_43
        refine lv_aload_n hx hb dX10_isCaseLine_46 rfl (lv_at hl 0 rfl) ?_
        refine lv_iload_n hx hb dX10_isCaseLine_47 rfl (lv_at hl 1 rfl) ?_
        refine lv_iconst (v := 3) hx hb dX10_isCaseLine_48 (by decide) ?_
        refine lv_iadd hx hb dX10_isCaseLine_49 ?_
        refine lv_iconst (v := 0) hx hb dX10_isCaseLine_50 (by decide) ?_
        refine lv_sipush (v := 9999) hx hb dX10_isCaseLine_51 (by decide) ?_
        refine callVi (As := [.int (x1 + 3), .int 0, .int 9999]) (rest := []) (W2 := fun u => (cs_Mo_isCaseLine g a_t a_t_read a_t_text a_t_weight a_t_cost a_t_one a_t_likes a_t_judged a_t_met a_t_line a_t_image a_t_isKept a_t_had t_points t_cases t_bytes (u.1) (u.2.1) (u.2.2.1) (u.2.2.2.1) (u.2.2.2.2.1) (u.2.2.2.2.2.1) (u.2.2.2.2.2.2.1) (u.2.2.2.2.2.2.2.1) t_readMany t_readPoints t_readCases_1 t_suitOne t_suitTwo (u.2.2.2.2.2.2.2.2) t_text)) C hw hl (c_Mo_isNumber l g a_t a_t_read a_t_text a_t_weight a_t_cost a_t_one a_t_likes a_t_judged a_t_met a_t_line a_t_image a_t_isKept a_t_had t_points t_cases t_bytes t_position_13 t_tokenAt_14 t_token_15 t_digits_16 t_number_17 t_row_18 t_isRow_19 t_faultAt_20 t_readMany t_readPoints t_readCases_1 t_suitOne t_suitTwo t_read_21 t_text (x1 + 3) 0 9999 _ h) tw_1039 kk_X10_isNumber rfl ⟨rfl, rfl⟩ ⟨by decide, by decide⟩ (Nat.le_of_ble_eq_true rfl) 0 rfl rfl rfl [0, 1, 2] [] [0, 1, 2] rfl rfl rfl rfl rfl rfl (fun u => rfl) rfl dX10_isCaseLine_54 (fun r_22 u H locs h hw => ?_)
        obtain ⟨t_position_23, t_tokenAt_24, t_token_25, t_digits_26, t_number_27, t_row_28, t_isRow_29, t_faultAt_30, t_read_31⟩ := u
        have hw : Wd g A s (cs_Mo_isCaseLine g a_t a_t_read a_t_text a_t_weight a_t_cost a_t_one a_t_likes a_t_judged a_t_met a_t_line a_t_image a_t_isKept a_t_had t_points t_cases t_bytes t_position_23 t_tokenAt_24 t_token_25 t_digits_26 t_number_27 t_row_28 t_isRow_29 t_faultAt_30 t_readMany t_readPoints t_readCases_1 t_suitOne t_suitTwo t_read_31 t_text) H locs := hw
        refine lv_if_eq (tgt := 64) hx hb dX10_isCaseLine_57 (by decide) (fun c_57 => ?_) (fun c_57 => ?_)
        · have h := h.1 c_57
          exact hB_Mo_isCaseLine_64 t_position_23 t_tokenAt_24 t_token_25 t_digits_26 t_number_27 t_row_28 t_isRow_29 t_faultAt_30 t_readCases_1 t_read_31 h _ _ _ hw (lv_sub hl [] rfl)
        · have h := h.2 c_57
          refine lv_iconst (v := 1) hx hb dX10_isCaseLine_60 (by decide) ?_
          refine lv_goto (tgt := 65) hx hb dX10_isCaseLine_61 (by decide) ?_
          exact hB_Mo_isCaseLine_65 1 t_position_23 t_tokenAt_24 t_token_25 t_digits_26 t_number_27 t_row_28 t_isRow_29 t_faultAt_30 t_readCases_1 t_read_31 h _ _ _ hw (lv_sub hl [] rfl)
  · have h := h.2 c_6
    refine lv_aload_n hx hb dX10_isCaseLine_9 rfl (lv_at hl 0 rfl) ?_
    refine callVi (As := []) (rest := []) (W2 := fun u => (cs_Mo_isCaseLine g a_t a_t_read a_t_text a_t_weight a_t_cost a_t_one a_t_likes a_t_judged a_t_met a_t_line a_t_image a_t_isKept a_t_had t_points t_cases t_bytes t_position t_tokenAt t_token t_digits t_number t_row t_isRow u t_readMany t_readPoints t_readCases t_suitOne t_suitTwo t_read t_text)) C hw hl (c_Mo_fails l g a_t a_t_weight a_t_cost a_t_one a_t_text a_t_read a_t_likes a_t_judged a_t_met a_t_line a_t_image a_t_isKept a_t_had t_points t_cases t_bytes t_position t_tokenAt t_token t_digits t_number t_row t_isRow t_faultAt t_readMany t_readPoints t_readCases t_suitOne t_suitTwo _ h) tw_1043 kk_X10_fails rfl ⟨rfl, rfl⟩ ⟨by decide, by decide⟩ (Nat.le_of_ble_eq_true rfl) 0 rfl rfl rfl [0] [1, 2] [2, 0, 1] rfl rfl rfl rfl rfl rfl (fun u => rfl) rfl dX10_isCaseLine_10 (fun r_32 u H locs h hw => ?_)
    obtain ⟨t_faultAt_33, rfl⟩ : ∃ z, z = u := ⟨_, rfl⟩
    have hw : Wd g A s (cs_Mo_isCaseLine g a_t a_t_read a_t_text a_t_weight a_t_cost a_t_one a_t_likes a_t_judged a_t_met a_t_line a_t_image a_t_isKept a_t_had t_points t_cases t_bytes t_position t_tokenAt t_token t_digits t_number t_row t_isRow t_faultAt_33 t_readMany t_readPoints t_readCases t_suitOne t_suitTwo t_read t_text) H locs := hw
    exact hret (t_position, t_tokenAt, t_token, t_digits, t_number, t_row, t_isRow, t_faultAt_33, t_readCases, t_read) h.2 hw dX10_isCaseLine_13 h.1
def B_Mo_isDrop_29 (x1 : Int32) (t_bytes : Int32) (t_text : (Nat → Int32)) (Q : Int32 → Int32 → Int32 → Int64 → Int32 → Int32 → Int32 → Int32 → Int32 → Int32 → (Nat → Int32) → Prop) (x2 : Int32) (k1 : Int32) (k2 : Int32) (t_position : Int32) (t_tokenAt : Int32) (t_token : Int64) (t_digits : Int32) (t_number : Int32) (t_row : Int32) (t_isRow : Int32) (t_faultAt : Int32) (t_readCases : Int32) (t_read : (Nat → Int32)) : Prop := ∀ t_readCases_1 : Int32, t_readCases_1 = (k1 - k2) → narrow .boolean (.int x2) = .int x2 ∧ Q x2 t_position t_tokenAt t_token t_digits t_number t_row t_isRow t_faultAt t_readCases_1 t_read
def P_Mo_isDrop (x1 : Int32) (t_bytes : Int32) (t_position : Int32) (t_tokenAt : Int32) (t_token : Int64) (t_digits : Int32) (t_number : Int32) (t_row : Int32) (t_isRow : Int32) (t_faultAt : Int32) (t_readCases : Int32) (t_read : (Nat → Int32)) (t_text : (Nat → Int32)) (Q : Int32 → Int32 → Int32 → Int64 → Int32 → Int32 → Int32 → Int32 → Int32 → Int32 → (Nat → Int32) → Prop) : Prop := P_Mo_isNumber (x1 + 1) 0 (t_readCases - 1) t_bytes t_position t_tokenAt t_token t_digits t_number t_row t_isRow t_faultAt t_read t_text (fun r_2 t_position_3 t_tokenAt_4 t_token_5 t_digits_6 t_number_7 t_row_8 t_isRow_9 t_faultAt_10 t_read_11 => (r_2 = 0 → B_Mo_isDrop_29 x1 t_bytes t_text Q r_2 t_readCases 0 t_position_3 t_tokenAt_4 t_token_5 t_digits_6 t_number_7 t_row_8 t_isRow_9 t_faultAt_10 t_readCases t_read_11) ∧ (¬ r_2 = 0 → B_Mo_isDrop_29 x1 t_bytes t_text Q r_2 t_readCases 1 t_position_3 t_tokenAt_4 t_token_5 t_digits_6 t_number_7 t_row_8 t_isRow_9 t_faultAt_10 t_readCases t_read_11))
abbrev rm_Mo_isDrop : Room := { frames := 3, cells := 0, slots := 0, locals := 66 }
def cs_Mo_isDrop (g : GE) (a_t a_t_read a_t_text a_t_weight a_t_cost a_t_one a_t_likes a_t_judged a_t_met a_t_line a_t_image a_t_isKept a_t_had : Nat) (t_points : Int32) (t_cases : Int32) (t_bytes : Int32) (t_position : Int32) (t_tokenAt : Int32) (t_token : Int64) (t_digits : Int32) (t_number : Int32) (t_row : Int32) (t_isRow : Int32) (t_faultAt : Int32) (t_readMany : Int32) (t_readPoints : Int32) (t_readCases : Int32) (t_suitOne : Int32) (t_suitTwo : Int32) (t_read : (Nat → Int32)) (t_text : (Nat → Int32)) : va_W := [oc a_t 10 [.int t_points, .ref a_t_weight, .ref a_t_cost, .int t_cases, .ref a_t_one, .int t_bytes, .ref a_t_text, .int t_position, .int t_tokenAt, .long t_token, .int t_digits, .int t_number, .int t_row, .int t_isRow, .int t_faultAt, .int t_readMany, .int t_readPoints, .int t_readCases, .ref a_t_read, .ref a_t_likes, .ref a_t_judged, .ref a_t_met, .ref a_t_line, .ref a_t_image, .ref a_t_isKept, .int t_suitOne, .int t_suitTwo, .ref a_t_had], ai g a_t_read 32 t_read, ai g a_t_text 200 t_text]
set_option maxHeartbeats 4000000 in
set_option maxRecDepth 100000 in
theorem c_Mo_isDrop (l : Launch) (g : GE) (a_t a_t_read a_t_text a_t_weight a_t_cost a_t_one a_t_likes a_t_judged a_t_met a_t_line a_t_image a_t_isKept a_t_had : Nat) (t_points : Int32) (t_cases : Int32) (t_bytes : Int32) (t_position : Int32) (t_tokenAt : Int32) (t_token : Int64) (t_digits : Int32) (t_number : Int32) (t_row : Int32) (t_isRow : Int32) (t_faultAt : Int32) (t_readMany : Int32) (t_readPoints : Int32) (t_readCases : Int32) (t_suitOne : Int32) (t_suitTwo : Int32) (t_read : (Nat → Int32)) (t_text : (Nat → Int32)) (x1 : Int32) (Q : Int32 → Int32 → Int32 → Int64 → Int32 → Int32 → Int32 → Int32 → Int32 → Int32 → (Nat → Int32) → Prop) (h : P_Mo_isDrop x1 t_bytes t_position t_tokenAt t_token t_digits t_number t_row t_isRow t_faultAt t_readCases t_read t_text Q) : Cti l g yX10_isDrop cX10_isDrop 3 (some .boolean) rm_Mo_isDrop [.ref a_t, .int x1] (cs_Mo_isDrop g a_t a_t_read a_t_text a_t_weight a_t_cost a_t_one a_t_likes a_t_judged a_t_met a_t_line a_t_image a_t_isKept a_t_had t_points t_cases t_bytes t_position t_tokenAt t_token t_digits t_number t_row t_isRow t_faultAt t_readMany t_readPoints t_readCases t_suitOne t_suitTwo t_read t_text) (S := Int32 × Int32 × Int64 × Int32 × Int32 × Int32 × Int32 × Int32 × Int32 × (Nat → Int32)) (fun r u => Q r u.1 u.2.1 u.2.2.1 u.2.2.2.1 u.2.2.2.2.1 u.2.2.2.2.2.1 u.2.2.2.2.2.2.1 u.2.2.2.2.2.2.2.1 u.2.2.2.2.2.2.2.2.1 u.2.2.2.2.2.2.2.2.2) (fun u => (cs_Mo_isDrop g a_t a_t_read a_t_text a_t_weight a_t_cost a_t_one a_t_likes a_t_judged a_t_met a_t_line a_t_image a_t_isKept a_t_had t_points t_cases t_bytes (u.1) (u.2.1) (u.2.2.1) (u.2.2.2.1) (u.2.2.2.2.1) (u.2.2.2.2.2.1) (u.2.2.2.2.2.2.1) (u.2.2.2.2.2.2.2.1) t_readMany t_readPoints (u.2.2.2.2.2.2.2.2.1) t_suitOne t_suitTwo (u.2.2.2.2.2.2.2.2.2) t_text)) := by
  refine meetI rfl (Nat.le_of_ble_eq_true rfl) ⟨rfl, rfl⟩ ?_
  intro p e s m args below meth c A Qf ls C hret hw hl
  have hx := C.1
  have hb := C.2.1
  have hown := C.2.2.2.1
  have hts := C.2.2.2.2.1
  have hE := C.2.2.2.2.2.1
  have hl : lv_has ls 3 [(0, .ref a_t), (1, .int x1)] := hl
  have hB_Mo_isDrop_29 : ∀ (x2 : Int32) (k1 : Int32) (k2 : Int32) (t_position : Int32) (t_tokenAt : Int32) (t_token : Int64) (t_digits : Int32) (t_number : Int32) (t_row : Int32) (t_isRow : Int32) (t_faultAt : Int32) (t_readCases : Int32) (t_read : (Nat → Int32)), B_Mo_isDrop_29 x1 t_bytes t_text Q x2 k1 k2 t_position t_tokenAt t_token t_digits t_number t_row t_isRow t_faultAt t_readCases t_read → Wat p l e rm_Mo_isDrop s m args below meth c A Qf g 3 (cs_Mo_isDrop g a_t a_t_read a_t_text a_t_weight a_t_cost a_t_one a_t_likes a_t_judged a_t_met a_t_line a_t_image a_t_isKept a_t_had t_points t_cases t_bytes t_position t_tokenAt t_token t_digits t_number t_row t_isRow t_faultAt t_readMany t_readPoints t_readCases t_suitOne t_suitTwo t_read t_text) [(2, .int x2)] 29 [.int k2, .int k1, .ref a_t] := by
    intro x2 k1 k2 t_position t_tokenAt t_token t_digits t_number t_row t_isRow t_faultAt t_readCases t_read h H locs ls hw hl
    refine lv_isub hx hb dX10_isDrop_29 ?_
    refine lv_topi (fun t_readCases_1 et_readCases_1 => ?_)
    have h := h t_readCases_1 et_readCases_1
    refine U_RX10_121 (ws2 := (cs_Mo_isDrop g a_t a_t_read a_t_text a_t_weight a_t_cost a_t_one a_t_likes a_t_judged a_t_met a_t_line a_t_image a_t_isKept a_t_had t_points t_cases t_bytes t_position t_tokenAt t_token t_digits t_number t_row t_isRow t_faultAt t_readMany t_readPoints t_readCases_1 t_suitOne t_suitTwo t_read t_text)) C hw 0 rfl rfl rfl rfl dX10_isDrop_30 (fun H locs hw => ?_)
    refine lv_iload_n hx hb dX10_isDrop_33 rfl (lv_at hl 0 rfl) ?_
    exact hret (t_position, t_tokenAt, t_token, t_digits, t_number, t_row, t_isRow, t_faultAt, t_readCases_1, t_read) h.2 hw dX10_isDrop_34 h.1
  refine lv_aload_n hx hb dX10_isDrop_0 rfl (lv_at hl 0 rfl) ?_
  refine lv_iload_n hx hb dX10_isDrop_1 rfl (lv_at hl 1 rfl) ?_
  refine lv_iconst (v := 1) hx hb dX10_isDrop_2 (by decide) ?_
  refine lv_iadd hx hb dX10_isDrop_3 ?_
  refine lv_iconst (v := 0) hx hb dX10_isDrop_4 (by decide) ?_
  refine lv_aload_n hx hb dX10_isDrop_5 rfl (lv_at hl 0 rfl) ?_
  refine G_RX10_121 C hw 0 rfl dX10_isDrop_6 ?_
  refine lv_iconst (v := 1) hx hb dX10_isDrop_9 (by decide) ?_
  refine lv_isub hx hb dX10_isDrop_10 ?_
  refine callVi (As := [.int (x1 + 1), .int 0, .int (t_readCases - 1)]) (rest := []) (W2 := fun u => (cs_Mo_isDrop g a_t a_t_read a_t_text a_t_weight a_t_cost a_t_one a_t_likes a_t_judged a_t_met a_t_line a_t_image a_t_isKept a_t_had t_points t_cases t_bytes (u.1) (u.2.1) (u.2.2.1) (u.2.2.2.1) (u.2.2.2.2.1) (u.2.2.2.2.2.1) (u.2.2.2.2.2.2.1) (u.2.2.2.2.2.2.2.1) t_readMany t_readPoints t_readCases t_suitOne t_suitTwo (u.2.2.2.2.2.2.2.2) t_text)) C hw hl (c_Mo_isNumber l g a_t a_t_read a_t_text a_t_weight a_t_cost a_t_one a_t_likes a_t_judged a_t_met a_t_line a_t_image a_t_isKept a_t_had t_points t_cases t_bytes t_position t_tokenAt t_token t_digits t_number t_row t_isRow t_faultAt t_readMany t_readPoints t_readCases t_suitOne t_suitTwo t_read t_text (x1 + 1) 0 (t_readCases - 1) _ h) tw_1039 kk_X10_isNumber rfl ⟨rfl, rfl⟩ ⟨by decide, by decide⟩ (Nat.le_of_ble_eq_true rfl) 0 rfl rfl rfl [0, 1, 2] [] [0, 1, 2] rfl rfl rfl rfl rfl rfl (fun u => rfl) rfl dX10_isDrop_11 (fun r_2 u H locs h hw => ?_)
  obtain ⟨t_position_3, t_tokenAt_4, t_token_5, t_digits_6, t_number_7, t_row_8, t_isRow_9, t_faultAt_10, t_read_11⟩ := u
  have hw : Wd g A s (cs_Mo_isDrop g a_t a_t_read a_t_text a_t_weight a_t_cost a_t_one a_t_likes a_t_judged a_t_met a_t_line a_t_image a_t_isKept a_t_had t_points t_cases t_bytes t_position_3 t_tokenAt_4 t_token_5 t_digits_6 t_number_7 t_row_8 t_isRow_9 t_faultAt_10 t_readMany t_readPoints t_readCases t_suitOne t_suitTwo t_read_11 t_text) H locs := hw
  refine lv_istore_n (lv' := [(2, .int r_2), (0, .ref a_t), (1, .int x1)]) hx hb dX10_isDrop_14 rfl hl (by decide) rfl (fun ls hl => ?_)
  refine lv_aload_n hx hb dX10_isDrop_15 rfl (lv_at hl 1 rfl) ?_
  refine lv_dup hx hb dX10_isDrop_16 rfl ?_
  refine G_RX10_121 C hw 0 rfl dX10_isDrop_17 ?_
  refine lv_iload_n hx hb dX10_isDrop_20 rfl (lv_at hl 0 rfl) ?_
  refine lv_if_eq (tgt := 28) hx hb dX10_isDrop_21 (by decide) (fun c_21 => ?_) (fun c_21 => ?_)
  · have h := h.1 c_21
    refine lv_iconst (v := 0) hx hb dX10_isDrop_28 (by decide) ?_
    exact hB_Mo_isDrop_29 r_2 t_readCases 0 t_position_3 t_tokenAt_4 t_token_5 t_digits_6 t_number_7 t_row_8 t_isRow_9 t_faultAt_10 t_readCases t_read_11 h _ _ _ hw (lv_sub hl [0] rfl)
  · have h := h.2 c_21
    refine lv_iconst (v := 1) hx hb dX10_isDrop_24 (by decide) ?_
    refine lv_goto (tgt := 29) hx hb dX10_isDrop_25 (by decide) ?_
    exact hB_Mo_isDrop_29 r_2 t_readCases 1 t_position_3 t_tokenAt_4 t_token_5 t_digits_6 t_number_7 t_row_8 t_isRow_9 t_faultAt_10 t_readCases t_read_11 h _ _ _ hw (lv_sub hl [0] rfl)
def P_Mo_isLand (x1 : Int32) (t_bytes : Int32) (t_position : Int32) (t_tokenAt : Int32) (t_token : Int64) (t_digits : Int32) (t_number : Int32) (t_row : Int32) (t_isRow : Int32) (t_faultAt : Int32) (t_readPoints : Int32) (t_readCases : Int32) (t_read : (Nat → Int32)) (t_text : (Nat → Int32)) (Q : Int32 → Int32 → Int32 → Int64 → Int32 → Int32 → Int32 → Int32 → Int32 → Int32 → Int32 → (Nat → Int32) → Prop) : Prop := P_Mo_isNumber (x1 + 1) 1 10 t_bytes t_position t_tokenAt t_token t_digits t_number t_row t_isRow t_faultAt t_read t_text (fun r_1 t_position_2 t_tokenAt_3 t_token_4 t_digits_5 t_number_6 t_row_7 t_isRow_8 t_faultAt_9 t_read_10 => (¬ r_1 = 0 → vp_in (x1 + 1) 32 ∧ (∀ t_readPoints_11 : Int32, t_readPoints_11 = (t_read_10 (x1 + 1).toNatClampNeg) → Q 1 t_position_2 t_tokenAt_3 t_token_4 t_digits_5 t_number_6 t_row_7 t_isRow_8 t_faultAt_9 t_readPoints_11 0 t_read_10)) ∧ (r_1 = 0 → Q 0 t_position_2 t_tokenAt_3 t_token_4 t_digits_5 t_number_6 t_row_7 t_isRow_8 t_faultAt_9 t_readPoints t_readCases t_read_10))
abbrev rm_Mo_isLand : Room := { frames := 3, cells := 0, slots := 0, locals := 66 }
def cs_Mo_isLand (g : GE) (a_t a_t_read a_t_text a_t_weight a_t_cost a_t_one a_t_likes a_t_judged a_t_met a_t_line a_t_image a_t_isKept a_t_had : Nat) (t_points : Int32) (t_cases : Int32) (t_bytes : Int32) (t_position : Int32) (t_tokenAt : Int32) (t_token : Int64) (t_digits : Int32) (t_number : Int32) (t_row : Int32) (t_isRow : Int32) (t_faultAt : Int32) (t_readMany : Int32) (t_readPoints : Int32) (t_readCases : Int32) (t_suitOne : Int32) (t_suitTwo : Int32) (t_read : (Nat → Int32)) (t_text : (Nat → Int32)) : va_W := [oc a_t 10 [.int t_points, .ref a_t_weight, .ref a_t_cost, .int t_cases, .ref a_t_one, .int t_bytes, .ref a_t_text, .int t_position, .int t_tokenAt, .long t_token, .int t_digits, .int t_number, .int t_row, .int t_isRow, .int t_faultAt, .int t_readMany, .int t_readPoints, .int t_readCases, .ref a_t_read, .ref a_t_likes, .ref a_t_judged, .ref a_t_met, .ref a_t_line, .ref a_t_image, .ref a_t_isKept, .int t_suitOne, .int t_suitTwo, .ref a_t_had], ai g a_t_read 32 t_read, ai g a_t_text 200 t_text]
set_option maxHeartbeats 4000000 in
set_option maxRecDepth 100000 in
theorem c_Mo_isLand (l : Launch) (g : GE) (a_t a_t_read a_t_text a_t_weight a_t_cost a_t_one a_t_likes a_t_judged a_t_met a_t_line a_t_image a_t_isKept a_t_had : Nat) (t_points : Int32) (t_cases : Int32) (t_bytes : Int32) (t_position : Int32) (t_tokenAt : Int32) (t_token : Int64) (t_digits : Int32) (t_number : Int32) (t_row : Int32) (t_isRow : Int32) (t_faultAt : Int32) (t_readMany : Int32) (t_readPoints : Int32) (t_readCases : Int32) (t_suitOne : Int32) (t_suitTwo : Int32) (t_read : (Nat → Int32)) (t_text : (Nat → Int32)) (x1 : Int32) (Q : Int32 → Int32 → Int32 → Int64 → Int32 → Int32 → Int32 → Int32 → Int32 → Int32 → Int32 → (Nat → Int32) → Prop) (h : P_Mo_isLand x1 t_bytes t_position t_tokenAt t_token t_digits t_number t_row t_isRow t_faultAt t_readPoints t_readCases t_read t_text Q) : Cti l g yX10_isLand cX10_isLand 2 (some .boolean) rm_Mo_isLand [.ref a_t, .int x1] (cs_Mo_isLand g a_t a_t_read a_t_text a_t_weight a_t_cost a_t_one a_t_likes a_t_judged a_t_met a_t_line a_t_image a_t_isKept a_t_had t_points t_cases t_bytes t_position t_tokenAt t_token t_digits t_number t_row t_isRow t_faultAt t_readMany t_readPoints t_readCases t_suitOne t_suitTwo t_read t_text) (S := Int32 × Int32 × Int64 × Int32 × Int32 × Int32 × Int32 × Int32 × Int32 × Int32 × (Nat → Int32)) (fun r u => Q r u.1 u.2.1 u.2.2.1 u.2.2.2.1 u.2.2.2.2.1 u.2.2.2.2.2.1 u.2.2.2.2.2.2.1 u.2.2.2.2.2.2.2.1 u.2.2.2.2.2.2.2.2.1 u.2.2.2.2.2.2.2.2.2.1 u.2.2.2.2.2.2.2.2.2.2) (fun u => (cs_Mo_isLand g a_t a_t_read a_t_text a_t_weight a_t_cost a_t_one a_t_likes a_t_judged a_t_met a_t_line a_t_image a_t_isKept a_t_had t_points t_cases t_bytes (u.1) (u.2.1) (u.2.2.1) (u.2.2.2.1) (u.2.2.2.2.1) (u.2.2.2.2.2.1) (u.2.2.2.2.2.2.1) (u.2.2.2.2.2.2.2.1) t_readMany (u.2.2.2.2.2.2.2.2.1) (u.2.2.2.2.2.2.2.2.2.1) t_suitOne t_suitTwo (u.2.2.2.2.2.2.2.2.2.2) t_text)) := by
  refine meetI rfl (Nat.le_of_ble_eq_true rfl) ⟨rfl, rfl⟩ ?_
  intro p e s m args below meth c A Qf ls C hret hw hl
  have hx := C.1
  have hb := C.2.1
  have hown := C.2.2.2.1
  have hts := C.2.2.2.2.1
  have hE := C.2.2.2.2.2.1
  have hl : lv_has ls 2 [(0, .ref a_t), (1, .int x1)] := hl
  refine lv_aload_n hx hb dX10_isLand_0 rfl (lv_at hl 0 rfl) ?_
  refine lv_iload_n hx hb dX10_isLand_1 rfl (lv_at hl 1 rfl) ?_
  refine lv_iconst (v := 1) hx hb dX10_isLand_2 (by decide) ?_
  refine lv_iadd hx hb dX10_isLand_3 ?_
  refine lv_iconst (v := 1) hx hb dX10_isLand_4 (by decide) ?_
  refine lv_bipush (v := 10) hx hb dX10_isLand_5 (by decide) ?_
  refine callVi (As := [.int (x1 + 1), .int 1, .int 10]) (rest := []) (W2 := fun u => (cs_Mo_isLand g a_t a_t_read a_t_text a_t_weight a_t_cost a_t_one a_t_likes a_t_judged a_t_met a_t_line a_t_image a_t_isKept a_t_had t_points t_cases t_bytes (u.1) (u.2.1) (u.2.2.1) (u.2.2.2.1) (u.2.2.2.2.1) (u.2.2.2.2.2.1) (u.2.2.2.2.2.2.1) (u.2.2.2.2.2.2.2.1) t_readMany t_readPoints t_readCases t_suitOne t_suitTwo (u.2.2.2.2.2.2.2.2) t_text)) C hw hl (c_Mo_isNumber l g a_t a_t_read a_t_text a_t_weight a_t_cost a_t_one a_t_likes a_t_judged a_t_met a_t_line a_t_image a_t_isKept a_t_had t_points t_cases t_bytes t_position t_tokenAt t_token t_digits t_number t_row t_isRow t_faultAt t_readMany t_readPoints t_readCases t_suitOne t_suitTwo t_read t_text (x1 + 1) 1 10 _ h) tw_1039 kk_X10_isNumber rfl ⟨rfl, rfl⟩ ⟨by decide, by decide⟩ (Nat.le_of_ble_eq_true rfl) 0 rfl rfl rfl [0, 1, 2] [] [0, 1, 2] rfl rfl rfl rfl rfl rfl (fun u => rfl) rfl dX10_isLand_7 (fun r_1 u H locs h hw => ?_)
  obtain ⟨t_position_2, t_tokenAt_3, t_token_4, t_digits_5, t_number_6, t_row_7, t_isRow_8, t_faultAt_9, t_read_10⟩ := u
  have hw : Wd g A s (cs_Mo_isLand g a_t a_t_read a_t_text a_t_weight a_t_cost a_t_one a_t_likes a_t_judged a_t_met a_t_line a_t_image a_t_isKept a_t_had t_points t_cases t_bytes t_position_2 t_tokenAt_3 t_token_4 t_digits_5 t_number_6 t_row_7 t_isRow_8 t_faultAt_9 t_readMany t_readPoints t_readCases t_suitOne t_suitTwo t_read_10 t_text) H locs := hw
  refine lv_if_ne (tgt := 15) hx hb dX10_isLand_10 (by decide) (fun c_10 => ?_) (fun c_10 => ?_)
  · have h := h.1 c_10
    refine lv_aload_n hx hb dX10_isLand_15 rfl (lv_at hl 0 rfl) ?_
    refine lv_aload_n hx hb dX10_isLand_16 rfl (lv_at hl 0 rfl) ?_
    refine G_RX10_26 C hw 0 rfl dX10_isLand_17 ?_
    refine lv_iload_n hx hb dX10_isLand_20 rfl (lv_at hl 1 rfl) ?_
    refine lv_iconst (v := 1) hx hb dX10_isLand_21 (by decide) ?_
    refine lv_iadd hx hb dX10_isLand_22 ?_
    refine aldI C hw 1 rfl h.1 dX10_isLand_23 ?_
    have h := h.2
    refine lv_topi (fun t_readPoints_11 et_readPoints_11 => ?_)
    have h := h t_readPoints_11 et_readPoints_11
    refine U_RX10_115 (ws2 := (cs_Mo_isLand g a_t a_t_read a_t_text a_t_weight a_t_cost a_t_one a_t_likes a_t_judged a_t_met a_t_line a_t_image a_t_isKept a_t_had t_points t_cases t_bytes t_position_2 t_tokenAt_3 t_token_4 t_digits_5 t_number_6 t_row_7 t_isRow_8 t_faultAt_9 t_readMany t_readPoints_11 t_readCases t_suitOne t_suitTwo t_read_10 t_text)) C hw 0 rfl rfl rfl rfl dX10_isLand_24 (fun H locs hw => ?_)
    refine lv_aload_n hx hb dX10_isLand_27 rfl (lv_at hl 0 rfl) ?_
    refine lv_iconst (v := 0) hx hb dX10_isLand_28 (by decide) ?_
    refine U_RX10_121 (ws2 := (cs_Mo_isLand g a_t a_t_read a_t_text a_t_weight a_t_cost a_t_one a_t_likes a_t_judged a_t_met a_t_line a_t_image a_t_isKept a_t_had t_points t_cases t_bytes t_position_2 t_tokenAt_3 t_token_4 t_digits_5 t_number_6 t_row_7 t_isRow_8 t_faultAt_9 t_readMany t_readPoints_11 0 t_suitOne t_suitTwo t_read_10 t_text)) C hw 0 rfl rfl rfl rfl dX10_isLand_29 (fun H locs hw => ?_)
    refine lv_iconst (v := 1) hx hb dX10_isLand_32 (by decide) ?_
    exact hret (t_position_2, t_tokenAt_3, t_token_4, t_digits_5, t_number_6, t_row_7, t_isRow_8, t_faultAt_9, t_readPoints_11, 0, t_read_10) h hw dX10_isLand_33 rfl
  · have h := h.2 c_10
    refine lv_iconst (v := 0) hx hb dX10_isLand_13 (by decide) ?_
    exact hret (t_position_2, t_tokenAt_3, t_token_4, t_digits_5, t_number_6, t_row_7, t_isRow_8, t_faultAt_9, t_readPoints, t_readCases, t_read_10) h hw dX10_isLand_14 rfl
def B_Mo_isLine_185 (x1 : Int32) (t_bytes : Int32) (t_text : (Nat → Int32)) (Q : Int32 → Int32 → Int32 → Int64 → Int32 → Int32 → Int32 → Int32 → Int32 → Int32 → Int32 → (Nat → Int32) → Prop) (k0 : Int32) (t_position : Int32) (t_tokenAt : Int32) (t_token : Int64) (t_digits : Int32) (t_number : Int32) (t_row : Int32) (t_isRow : Int32) (t_faultAt : Int32) (t_readPoints : Int32) (t_readCases : Int32) (t_read : (Nat → Int32)) : Prop := narrow .boolean (.int k0) = .int k0 ∧ Q k0 t_position t_tokenAt t_token t_digits t_number t_row t_isRow t_faultAt t_readPoints t_readCases t_read
def B_Mo_isLine_184 (x1 : Int32) (t_bytes : Int32) (t_text : (Nat → Int32)) (Q : Int32 → Int32 → Int32 → Int64 → Int32 → Int32 → Int32 → Int32 → Int32 → Int32 → Int32 → (Nat → Int32) → Prop) (t_position : Int32) (t_tokenAt : Int32) (t_token : Int64) (t_digits : Int32) (t_number : Int32) (t_row : Int32) (t_isRow : Int32) (t_faultAt : Int32) (t_readPoints : Int32) (t_readCases : Int32) (t_read : (Nat → Int32)) : Prop := B_Mo_isLine_185 x1 t_bytes t_text Q 0 t_position t_tokenAt t_token t_digits t_number t_row t_isRow t_faultAt t_readPoints t_readCases t_read
def B_Mo_isLine_150 (x1 : Int32) (t_bytes : Int32) (t_text : (Nat → Int32)) (Q : Int32 → Int32 → Int32 → Int64 → Int32 → Int32 → Int32 → Int32 → Int32 → Int32 → Int32 → (Nat → Int32) → Prop) (t_position : Int32) (t_tokenAt : Int32) (t_token : Int64) (t_digits : Int32) (t_number : Int32) (t_row : Int32) (t_isRow : Int32) (t_faultAt : Int32) (t_readPoints : Int32) (t_readCases : Int32) (t_read : (Nat → Int32)) : Prop := P_Mo_isNumber (x1 + 1) 0 (t_readPoints - 1) t_bytes t_position t_tokenAt t_token t_digits t_number t_row t_isRow t_faultAt t_read t_text (fun r_1 t_position_2 t_tokenAt_3 t_token_4 t_digits_5 t_number_6 t_row_7 t_isRow_8 t_faultAt_9 t_read_10 => (r_1 = 0 → B_Mo_isLine_184 x1 t_bytes t_text Q t_position_2 t_tokenAt_3 t_token_4 t_digits_5 t_number_6 t_row_7 t_isRow_8 t_faultAt_9 t_readPoints t_readCases t_read_10) ∧ (¬ r_1 = 0 → P_Mo_isNumber (x1 + 2) 0 9 t_bytes t_position_2 t_tokenAt_3 t_token_4 t_digits_5 t_number_6 t_row_7 t_isRow_8 t_faultAt_9 t_read_10 t_text (fun r_11 t_position_12 t_tokenAt_13 t_token_14 t_digits_15 t_number_16 t_row_17 t_isRow_18 t_faultAt_19 t_read_20 => (r_11 = 0 → B_Mo_isLine_184 x1 t_bytes t_text Q t_position_12 t_tokenAt_13 t_token_14 t_digits_15 t_number_16 t_row_17 t_isRow_18 t_faultAt_19 t_readPoints t_readCases t_read_20) ∧ (¬ r_11 = 0 → B_Mo_isLine_185 x1 t_bytes t_text Q 1 t_position_12 t_tokenAt_13 t_token_14 t_digits_15 t_number_16 t_row_17 t_isRow_18 t_faultAt_19 t_readPoints t_readCases t_read_20))))
def B_Mo_isLine_100 (x1 : Int32) (t_bytes : Int32) (t_text : (Nat → Int32)) (Q : Int32 → Int32 → Int32 → Int64 → Int32 → Int32 → Int32 → Int32 → Int32 → Int32 → Int32 → (Nat → Int32) → Prop) (k1 : Int32) (k2 : Int32) (t_position : Int32) (t_tokenAt : Int32) (t_token : Int64) (t_digits : Int32) (t_number : Int32) (t_row : Int32) (t_isRow : Int32) (t_faultAt : Int32) (t_readPoints : Int32) (t_readCases : Int32) (t_read : (Nat → Int32)) : Prop := vp_in k1 32 ∧ (vp_in x1 32 ∧ ((((upd t_read k1.toNatClampNeg k2) x1.toNatClampNeg) = 0 → P_Mo_isLand x1 t_bytes t_position t_tokenAt t_token t_digits t_number t_row t_isRow t_faultAt t_readPoints t_readCases (upd t_read k1.toNatClampNeg k2) t_text (fun r_21 t_position_22 t_tokenAt_23 t_token_24 t_digits_25 t_number_26 t_row_27 t_isRow_28 t_faultAt_29 t_readPoints_30 t_readCases_31 t_read_32 => narrow .boolean (.int r_21) = .int r_21 ∧ Q r_21 t_position_22 t_tokenAt_23 t_token_24 t_digits_25 t_number_26 t_row_27 t_isRow_28 t_faultAt_29 t_readPoints_30 t_readCases_31 t_read_32)) ∧ (¬ ((upd t_read k1.toNatClampNeg k2) x1.toNatClampNeg) = 0 → (((upd t_read k1.toNatClampNeg k2) x1.toNatClampNeg) = 1 → B_Mo_isLine_150 x1 t_bytes t_text Q t_position t_tokenAt t_token t_digits t_number t_row t_isRow t_faultAt t_readPoints t_readCases (upd t_read k1.toNatClampNeg k2)) ∧ (¬ ((upd t_read k1.toNatClampNeg k2) x1.toNatClampNeg) = 1 → (((upd t_read k1.toNatClampNeg k2) x1.toNatClampNeg) = 2 → B_Mo_isLine_150 x1 t_bytes t_text Q t_position t_tokenAt t_token t_digits t_number t_row t_isRow t_faultAt t_readPoints t_readCases (upd t_read k1.toNatClampNeg k2)) ∧ (¬ ((upd t_read k1.toNatClampNeg k2) x1.toNatClampNeg) = 2 → (((upd t_read k1.toNatClampNeg k2) x1.toNatClampNeg) = 3 → P_Mo_isCaseLine x1 t_bytes t_position t_tokenAt t_token t_digits t_number t_row t_isRow t_faultAt t_readPoints t_readCases (upd t_read k1.toNatClampNeg k2) t_text (fun r_33 t_position_34 t_tokenAt_35 t_token_36 t_digits_37 t_number_38 t_row_39 t_isRow_40 t_faultAt_41 t_readCases_42 t_read_43 => narrow .boolean (.int r_33) = .int r_33 ∧ Q r_33 t_position_34 t_tokenAt_35 t_token_36 t_digits_37 t_number_38 t_row_39 t_isRow_40 t_faultAt_41 t_readPoints t_readCases_42 t_read_43)) ∧ (¬ ((upd t_read k1.toNatClampNeg k2) x1.toNatClampNeg) = 3 → (((upd t_read k1.toNatClampNeg k2) x1.toNatClampNeg) = 4 → P_Mo_isNumber (x1 + 1) 0 (t_readCases - 1) t_bytes t_position t_tokenAt t_token t_digits t_number t_row t_isRow t_faultAt (upd t_read k1.toNatClampNeg k2) t_text (fun r_44 t_position_45 t_tokenAt_46 t_token_47 t_digits_48 t_number_49 t_row_50 t_isRow_51 t_faultAt_52 t_read_53 => narrow .boolean (.int r_44) = .int r_44 ∧ Q r_44 t_position_45 t_tokenAt_46 t_token_47 t_digits_48 t_number_49 t_row_50 t_isRow_51 t_faultAt_52 t_readPoints t_readCases t_read_53)) ∧ (¬ ((upd t_read k1.toNatClampNeg k2) x1.toNatClampNeg) = 4 → (((upd t_read k1.toNatClampNeg k2) x1.toNatClampNeg) = 5 → P_Mo_isDrop x1 t_bytes t_position t_tokenAt t_token t_digits t_number t_row t_isRow t_faultAt t_readCases (upd t_read k1.toNatClampNeg k2) t_text (fun r_54 t_position_55 t_tokenAt_56 t_token_57 t_digits_58 t_number_59 t_row_60 t_isRow_61 t_faultAt_62 t_readCases_63 t_read_64 => narrow .boolean (.int r_54) = .int r_54 ∧ Q r_54 t_position_55 t_tokenAt_56 t_token_57 t_digits_58 t_number_59 t_row_60 t_isRow_61 t_faultAt_62 t_readPoints t_readCases_63 t_read_64)) ∧ (¬ ((upd t_read k1.toNatClampNeg k2) x1.toNatClampNeg) = 5 → P_Mo_fails t_tokenAt t_faultAt (fun r_67 t_faultAt_68 => narrow .boolean (.int r_67) = .int r_67 ∧ Q r_67 t_position t_tokenAt t_token t_digits t_number t_row t_isRow t_faultAt_68 t_readPoints t_readCases (upd t_read k1.toNatClampNeg k2))))))))))
def P_Mo_isLine (x1 : Int32) (t_bytes : Int32) (t_position : Int32) (t_tokenAt : Int32) (t_token : Int64) (t_digits : Int32) (t_number : Int32) (t_row : Int32) (t_isRow : Int32) (t_faultAt : Int32) (t_readPoints : Int32) (t_readCases : Int32) (t_read : (Nat → Int32)) (t_text : (Nat → Int32)) (Q : Int32 → Int32 → Int32 → Int64 → Int32 → Int32 → Int32 → Int32 → Int32 → Int32 → Int32 → (Nat → Int32) → Prop) : Prop := P_Mo_nextToken t_bytes t_position t_tokenAt t_token t_digits t_number t_row t_isRow t_text (fun t_position_69 t_tokenAt_70 t_token_71 t_digits_72 t_number_73 t_row_74 t_isRow_75 => (¬ (lg_cmp t_token_71 237307) = 0 → (¬ (lg_cmp t_token_71 332864552) = 0 → (¬ (lg_cmp t_token_71 70517) = 0 → (¬ (lg_cmp t_token_71 60296) = 0 → (¬ (lg_cmp t_token_71 230471582) = 0 → (¬ (lg_cmp t_token_71 92275) = 0 → B_Mo_isLine_100 x1 t_bytes t_text Q x1 (-1) t_position_69 t_tokenAt_70 t_token_71 t_digits_72 t_number_73 t_row_74 t_isRow_75 t_faultAt t_readPoints t_readCases t_read) ∧ ((lg_cmp t_token_71 92275) = 0 → B_Mo_isLine_100 x1 t_bytes t_text Q x1 5 t_position_69 t_tokenAt_70 t_token_71 t_digits_72 t_number_73 t_row_74 t_isRow_75 t_faultAt t_readPoints t_readCases t_read)) ∧ ((lg_cmp t_token_71 230471582) = 0 → B_Mo_isLine_100 x1 t_bytes t_text Q x1 4 t_position_69 t_tokenAt_70 t_token_71 t_digits_72 t_number_73 t_row_74 t_isRow_75 t_faultAt t_readPoints t_readCases t_read)) ∧ ((lg_cmp t_token_71 60296) = 0 → B_Mo_isLine_100 x1 t_bytes t_text Q x1 3 t_position_69 t_tokenAt_70 t_token_71 t_digits_72 t_number_73 t_row_74 t_isRow_75 t_faultAt t_readPoints t_readCases t_read)) ∧ ((lg_cmp t_token_71 70517) = 0 → B_Mo_isLine_100 x1 t_bytes t_text Q x1 2 t_position_69 t_tokenAt_70 t_token_71 t_digits_72 t_number_73 t_row_74 t_isRow_75 t_faultAt t_readPoints t_readCases t_read)) ∧ ((lg_cmp t_token_71 332864552) = 0 → B_Mo_isLine_100 x1 t_bytes t_text Q x1 1 t_position_69 t_tokenAt_70 t_token_71 t_digits_72 t_number_73 t_row_74 t_isRow_75 t_faultAt t_readPoints t_readCases t_read)) ∧ ((lg_cmp t_token_71 237307) = 0 → B_Mo_isLine_100 x1 t_bytes t_text Q x1 0 t_position_69 t_tokenAt_70 t_token_71 t_digits_72 t_number_73 t_row_74 t_isRow_75 t_faultAt t_readPoints t_readCases t_read))
abbrev rm_Mo_isLine : Room := { frames := 4, cells := 0, slots := 0, locals := 88 }
def cs_Mo_isLine (g : GE) (a_t a_t_read a_t_text a_t_weight a_t_cost a_t_one a_t_likes a_t_judged a_t_met a_t_line a_t_image a_t_isKept a_t_had : Nat) (t_points : Int32) (t_cases : Int32) (t_bytes : Int32) (t_position : Int32) (t_tokenAt : Int32) (t_token : Int64) (t_digits : Int32) (t_number : Int32) (t_row : Int32) (t_isRow : Int32) (t_faultAt : Int32) (t_readMany : Int32) (t_readPoints : Int32) (t_readCases : Int32) (t_suitOne : Int32) (t_suitTwo : Int32) (t_read : (Nat → Int32)) (t_text : (Nat → Int32)) : va_W := [oc a_t 10 [.int t_points, .ref a_t_weight, .ref a_t_cost, .int t_cases, .ref a_t_one, .int t_bytes, .ref a_t_text, .int t_position, .int t_tokenAt, .long t_token, .int t_digits, .int t_number, .int t_row, .int t_isRow, .int t_faultAt, .int t_readMany, .int t_readPoints, .int t_readCases, .ref a_t_read, .ref a_t_likes, .ref a_t_judged, .ref a_t_met, .ref a_t_line, .ref a_t_image, .ref a_t_isKept, .int t_suitOne, .int t_suitTwo, .ref a_t_had], ai g a_t_read 32 t_read, ai g a_t_text 200 t_text]
set_option maxHeartbeats 4000000 in
set_option maxRecDepth 100000 in
theorem c_Mo_isLine (l : Launch) (g : GE) (a_t a_t_read a_t_text a_t_weight a_t_cost a_t_one a_t_likes a_t_judged a_t_met a_t_line a_t_image a_t_isKept a_t_had : Nat) (t_points : Int32) (t_cases : Int32) (t_bytes : Int32) (t_position : Int32) (t_tokenAt : Int32) (t_token : Int64) (t_digits : Int32) (t_number : Int32) (t_row : Int32) (t_isRow : Int32) (t_faultAt : Int32) (t_readMany : Int32) (t_readPoints : Int32) (t_readCases : Int32) (t_suitOne : Int32) (t_suitTwo : Int32) (t_read : (Nat → Int32)) (t_text : (Nat → Int32)) (x1 : Int32) (Q : Int32 → Int32 → Int32 → Int64 → Int32 → Int32 → Int32 → Int32 → Int32 → Int32 → Int32 → (Nat → Int32) → Prop) (h : P_Mo_isLine x1 t_bytes t_position t_tokenAt t_token t_digits t_number t_row t_isRow t_faultAt t_readPoints t_readCases t_read t_text Q) : Cti l g yX10_isLine cX10_isLine 2 (some .boolean) rm_Mo_isLine [.ref a_t, .int x1] (cs_Mo_isLine g a_t a_t_read a_t_text a_t_weight a_t_cost a_t_one a_t_likes a_t_judged a_t_met a_t_line a_t_image a_t_isKept a_t_had t_points t_cases t_bytes t_position t_tokenAt t_token t_digits t_number t_row t_isRow t_faultAt t_readMany t_readPoints t_readCases t_suitOne t_suitTwo t_read t_text) (S := Int32 × Int32 × Int64 × Int32 × Int32 × Int32 × Int32 × Int32 × Int32 × Int32 × (Nat → Int32)) (fun r u => Q r u.1 u.2.1 u.2.2.1 u.2.2.2.1 u.2.2.2.2.1 u.2.2.2.2.2.1 u.2.2.2.2.2.2.1 u.2.2.2.2.2.2.2.1 u.2.2.2.2.2.2.2.2.1 u.2.2.2.2.2.2.2.2.2.1 u.2.2.2.2.2.2.2.2.2.2) (fun u => (cs_Mo_isLine g a_t a_t_read a_t_text a_t_weight a_t_cost a_t_one a_t_likes a_t_judged a_t_met a_t_line a_t_image a_t_isKept a_t_had t_points t_cases t_bytes (u.1) (u.2.1) (u.2.2.1) (u.2.2.2.1) (u.2.2.2.2.1) (u.2.2.2.2.2.1) (u.2.2.2.2.2.2.1) (u.2.2.2.2.2.2.2.1) t_readMany (u.2.2.2.2.2.2.2.2.1) (u.2.2.2.2.2.2.2.2.2.1) t_suitOne t_suitTwo (u.2.2.2.2.2.2.2.2.2.2) t_text)) := by
  refine meetI rfl (Nat.le_of_ble_eq_true rfl) ⟨rfl, rfl⟩ ?_
  intro p e s m args below meth c A Qf ls C hret hw hl
  have hx := C.1
  have hb := C.2.1
  have hown := C.2.2.2.1
  have hts := C.2.2.2.2.1
  have hE := C.2.2.2.2.2.1
  have hl : lv_has ls 2 [(0, .ref a_t), (1, .int x1)] := hl
  have hB_Mo_isLine_185 : ∀ (k0 : Int32) (t_position : Int32) (t_tokenAt : Int32) (t_token : Int64) (t_digits : Int32) (t_number : Int32) (t_row : Int32) (t_isRow : Int32) (t_faultAt : Int32) (t_readPoints : Int32) (t_readCases : Int32) (t_read : (Nat → Int32)), B_Mo_isLine_185 x1 t_bytes t_text Q k0 t_position t_tokenAt t_token t_digits t_number t_row t_isRow t_faultAt t_readPoints t_readCases t_read → Wat p l e rm_Mo_isLine s m args below meth c A Qf g 2 (cs_Mo_isLine g a_t a_t_read a_t_text a_t_weight a_t_cost a_t_one a_t_likes a_t_judged a_t_met a_t_line a_t_image a_t_isKept a_t_had t_points t_cases t_bytes t_position t_tokenAt t_token t_digits t_number t_row t_isRow t_faultAt t_readMany t_readPoints t_readCases t_suitOne t_suitTwo t_read t_text) [] 185 [.int k0] := by
    intro k0 t_position t_tokenAt t_token t_digits t_number t_row t_isRow t_faultAt t_readPoints t_readCases t_read h H locs ls hw hl
    exact hret (t_position, t_tokenAt, t_token, t_digits, t_number, t_row, t_isRow, t_faultAt, t_readPoints, t_readCases, t_read) h.2 hw dX10_isLine_185 h.1
  have hB_Mo_isLine_184 : ∀ (t_position : Int32) (t_tokenAt : Int32) (t_token : Int64) (t_digits : Int32) (t_number : Int32) (t_row : Int32) (t_isRow : Int32) (t_faultAt : Int32) (t_readPoints : Int32) (t_readCases : Int32) (t_read : (Nat → Int32)), B_Mo_isLine_184 x1 t_bytes t_text Q t_position t_tokenAt t_token t_digits t_number t_row t_isRow t_faultAt t_readPoints t_readCases t_read → Wat p l e rm_Mo_isLine s m args below meth c A Qf g 2 (cs_Mo_isLine g a_t a_t_read a_t_text a_t_weight a_t_cost a_t_one a_t_likes a_t_judged a_t_met a_t_line a_t_image a_t_isKept a_t_had t_points t_cases t_bytes t_position t_tokenAt t_token t_digits t_number t_row t_isRow t_faultAt t_readMany t_readPoints t_readCases t_suitOne t_suitTwo t_read t_text) [] 184 [] := by
    intro t_position t_tokenAt t_token t_digits t_number t_row t_isRow t_faultAt t_readPoints t_readCases t_read h H locs ls hw hl
    refine lv_iconst (v := 0) hx hb dX10_isLine_184 (by decide) ?_
    exact hB_Mo_isLine_185 0 t_position t_tokenAt t_token t_digits t_number t_row t_isRow t_faultAt t_readPoints t_readCases t_read h _ _ _ hw (lv_sub hl [] rfl)
  have hB_Mo_isLine_150 : ∀ (t_position : Int32) (t_tokenAt : Int32) (t_token : Int64) (t_digits : Int32) (t_number : Int32) (t_row : Int32) (t_isRow : Int32) (t_faultAt : Int32) (t_readPoints : Int32) (t_readCases : Int32) (t_read : (Nat → Int32)), B_Mo_isLine_150 x1 t_bytes t_text Q t_position t_tokenAt t_token t_digits t_number t_row t_isRow t_faultAt t_readPoints t_readCases t_read → Wat p l e rm_Mo_isLine s m args below meth c A Qf g 2 (cs_Mo_isLine g a_t a_t_read a_t_text a_t_weight a_t_cost a_t_one a_t_likes a_t_judged a_t_met a_t_line a_t_image a_t_isKept a_t_had t_points t_cases t_bytes t_position t_tokenAt t_token t_digits t_number t_row t_isRow t_faultAt t_readMany t_readPoints t_readCases t_suitOne t_suitTwo t_read t_text) [(0, .ref a_t), (1, .int x1)] 150 [] := by
    intro t_position t_tokenAt t_token t_digits t_number t_row t_isRow t_faultAt t_readPoints t_readCases t_read h H locs ls hw hl
    refine lv_aload_n hx hb dX10_isLine_150 rfl (lv_at hl 0 rfl) ?_
    refine lv_iload_n hx hb dX10_isLine_151 rfl (lv_at hl 1 rfl) ?_
    refine lv_iconst (v := 1) hx hb dX10_isLine_152 (by decide) ?_
    refine lv_iadd hx hb dX10_isLine_153 ?_
    refine lv_iconst (v := 0) hx hb dX10_isLine_154 (by decide) ?_
    refine lv_aload_n hx hb dX10_isLine_155 rfl (lv_at hl 0 rfl) ?_
    refine G_RX10_115 C hw 0 rfl dX10_isLine_156 ?_
    refine lv_iconst (v := 1) hx hb dX10_isLine_159 (by decide) ?_
    refine lv_isub hx hb dX10_isLine_160 ?_
    refine callVi (As := [.int (x1 + 1), .int 0, .int (t_readPoints - 1)]) (rest := []) (W2 := fun u => (cs_Mo_isLine g a_t a_t_read a_t_text a_t_weight a_t_cost a_t_one a_t_likes a_t_judged a_t_met a_t_line a_t_image a_t_isKept a_t_had t_points t_cases t_bytes (u.1) (u.2.1) (u.2.2.1) (u.2.2.2.1) (u.2.2.2.2.1) (u.2.2.2.2.2.1) (u.2.2.2.2.2.2.1) (u.2.2.2.2.2.2.2.1) t_readMany t_readPoints t_readCases t_suitOne t_suitTwo (u.2.2.2.2.2.2.2.2) t_text)) C hw hl (c_Mo_isNumber l g a_t a_t_read a_t_text a_t_weight a_t_cost a_t_one a_t_likes a_t_judged a_t_met a_t_line a_t_image a_t_isKept a_t_had t_points t_cases t_bytes t_position t_tokenAt t_token t_digits t_number t_row t_isRow t_faultAt t_readMany t_readPoints t_readCases t_suitOne t_suitTwo t_read t_text (x1 + 1) 0 (t_readPoints - 1) _ h) tw_1039 kk_X10_isNumber rfl ⟨rfl, rfl⟩ ⟨by decide, by decide⟩ (Nat.le_of_ble_eq_true rfl) 0 rfl rfl rfl [0, 1, 2] [] [0, 1, 2] rfl rfl rfl rfl rfl rfl (fun u => rfl) rfl dX10_isLine_161 (fun r_1 u H locs h hw => ?_)
    obtain ⟨t_position_2, t_tokenAt_3, t_token_4, t_digits_5, t_number_6, t_row_7, t_isRow_8, t_faultAt_9, t_read_10⟩ := u
    have hw : Wd g A s (cs_Mo_isLine g a_t a_t_read a_t_text a_t_weight a_t_cost a_t_one a_t_likes a_t_judged a_t_met a_t_line a_t_image a_t_isKept a_t_had t_points t_cases t_bytes t_position_2 t_tokenAt_3 t_token_4 t_digits_5 t_number_6 t_row_7 t_isRow_8 t_faultAt_9 t_readMany t_readPoints t_readCases t_suitOne t_suitTwo t_read_10 t_text) H locs := hw
    refine lv_if_eq (tgt := 184) hx hb dX10_isLine_164 (by decide) (fun c_164 => ?_) (fun c_164 => ?_)
    · have h := h.1 c_164
      exact hB_Mo_isLine_184 t_position_2 t_tokenAt_3 t_token_4 t_digits_5 t_number_6 t_row_7 t_isRow_8 t_faultAt_9 t_readPoints t_readCases t_read_10 h _ _ _ hw (lv_sub hl [] rfl)
    · have h := h.2 c_164
      refine lv_aload_n hx hb dX10_isLine_167 rfl (lv_at hl 0 rfl) ?_
      refine lv_iload_n hx hb dX10_isLine_168 rfl (lv_at hl 1 rfl) ?_
      refine lv_iconst (v := 2) hx hb dX10_isLine_169 (by decide) ?_
      refine lv_iadd hx hb dX10_isLine_170 ?_
      refine lv_iconst (v := 0) hx hb dX10_isLine_171 (by decide) ?_
      refine lv_bipush (v := 9) hx hb dX10_isLine_172 (by decide) ?_
      refine callVi (As := [.int (x1 + 2), .int 0, .int 9]) (rest := []) (W2 := fun u => (cs_Mo_isLine g a_t a_t_read a_t_text a_t_weight a_t_cost a_t_one a_t_likes a_t_judged a_t_met a_t_line a_t_image a_t_isKept a_t_had t_points t_cases t_bytes (u.1) (u.2.1) (u.2.2.1) (u.2.2.2.1) (u.2.2.2.2.1) (u.2.2.2.2.2.1) (u.2.2.2.2.2.2.1) (u.2.2.2.2.2.2.2.1) t_readMany t_readPoints t_readCases t_suitOne t_suitTwo (u.2.2.2.2.2.2.2.2) t_text)) C hw hl (c_Mo_isNumber l g a_t a_t_read a_t_text a_t_weight a_t_cost a_t_one a_t_likes a_t_judged a_t_met a_t_line a_t_image a_t_isKept a_t_had t_points t_cases t_bytes t_position_2 t_tokenAt_3 t_token_4 t_digits_5 t_number_6 t_row_7 t_isRow_8 t_faultAt_9 t_readMany t_readPoints t_readCases t_suitOne t_suitTwo t_read_10 t_text (x1 + 2) 0 9 _ h) tw_1039 kk_X10_isNumber rfl ⟨rfl, rfl⟩ ⟨by decide, by decide⟩ (Nat.le_of_ble_eq_true rfl) 0 rfl rfl rfl [0, 1, 2] [] [0, 1, 2] rfl rfl rfl rfl rfl rfl (fun u => rfl) rfl dX10_isLine_174 (fun r_11 u H locs h hw => ?_)
      obtain ⟨t_position_12, t_tokenAt_13, t_token_14, t_digits_15, t_number_16, t_row_17, t_isRow_18, t_faultAt_19, t_read_20⟩ := u
      have hw : Wd g A s (cs_Mo_isLine g a_t a_t_read a_t_text a_t_weight a_t_cost a_t_one a_t_likes a_t_judged a_t_met a_t_line a_t_image a_t_isKept a_t_had t_points t_cases t_bytes t_position_12 t_tokenAt_13 t_token_14 t_digits_15 t_number_16 t_row_17 t_isRow_18 t_faultAt_19 t_readMany t_readPoints t_readCases t_suitOne t_suitTwo t_read_20 t_text) H locs := hw
      refine lv_if_eq (tgt := 184) hx hb dX10_isLine_177 (by decide) (fun c_177 => ?_) (fun c_177 => ?_)
      · have h := h.1 c_177
        exact hB_Mo_isLine_184 t_position_12 t_tokenAt_13 t_token_14 t_digits_15 t_number_16 t_row_17 t_isRow_18 t_faultAt_19 t_readPoints t_readCases t_read_20 h _ _ _ hw (lv_sub hl [] rfl)
      · have h := h.2 c_177
        refine lv_iconst (v := 1) hx hb dX10_isLine_180 (by decide) ?_
        refine lv_goto (tgt := 185) hx hb dX10_isLine_181 (by decide) ?_
        exact hB_Mo_isLine_185 1 t_position_12 t_tokenAt_13 t_token_14 t_digits_15 t_number_16 t_row_17 t_isRow_18 t_faultAt_19 t_readPoints t_readCases t_read_20 h _ _ _ hw (lv_sub hl [] rfl)
  have hB_Mo_isLine_100 : ∀ (k1 : Int32) (k2 : Int32) (t_position : Int32) (t_tokenAt : Int32) (t_token : Int64) (t_digits : Int32) (t_number : Int32) (t_row : Int32) (t_isRow : Int32) (t_faultAt : Int32) (t_readPoints : Int32) (t_readCases : Int32) (t_read : (Nat → Int32)), B_Mo_isLine_100 x1 t_bytes t_text Q k1 k2 t_position t_tokenAt t_token t_digits t_number t_row t_isRow t_faultAt t_readPoints t_readCases t_read → Wat p l e rm_Mo_isLine s m args below meth c A Qf g 2 (cs_Mo_isLine g a_t a_t_read a_t_text a_t_weight a_t_cost a_t_one a_t_likes a_t_judged a_t_met a_t_line a_t_image a_t_isKept a_t_had t_points t_cases t_bytes t_position t_tokenAt t_token t_digits t_number t_row t_isRow t_faultAt t_readMany t_readPoints t_readCases t_suitOne t_suitTwo t_read t_text) [(0, .ref a_t), (1, .int x1)] 100 [.int k2, .int k1, .ref a_t_read] := by
    intro k1 k2 t_position t_tokenAt t_token t_digits t_number t_row t_isRow t_faultAt t_readPoints t_readCases t_read h H locs ls hw hl
    refine astI (ws2 := (cs_Mo_isLine g a_t a_t_read a_t_text a_t_weight a_t_cost a_t_one a_t_likes a_t_judged a_t_met a_t_line a_t_image a_t_isKept a_t_had t_points t_cases t_bytes t_position t_tokenAt t_token t_digits t_number t_row t_isRow t_faultAt t_readMany t_readPoints t_readCases t_suitOne t_suitTwo (upd t_read k1.toNatClampNeg k2) t_text)) C hw 1 rfl h.1 rfl dX10_isLine_100 (fun H locs hw => ?_)
    have h := h.2
    refine lv_aload_n hx hb dX10_isLine_101 rfl (lv_at hl 0 rfl) ?_
    refine G_RX10_26 C hw 0 rfl dX10_isLine_102 ?_
    refine lv_iload_n hx hb dX10_isLine_105 rfl (lv_at hl 1 rfl) ?_
    refine aldI C hw 1 rfl h.1 dX10_isLine_106 ?_
    have h := h.2
    by_cases c_107_0 : ((upd t_read k1.toNatClampNeg k2) x1.toNatClampNeg) = 0
    · have h := h.1 c_107_0
      refine lv_tableIn (off := 37) (tgt := 144) hx hb dX10_isLine_107 (by rw [c_107_0]; decide) (by rw [c_107_0]; decide) (by rw [c_107_0]; rfl) (by decide) ?_
      refine lv_aload_n hx hb dX10_isLine_144 rfl (lv_at hl 0 rfl) ?_
      refine lv_iload_n hx hb dX10_isLine_145 rfl (lv_at hl 1 rfl) ?_
      refine callVi (As := [.int x1]) (rest := []) (W2 := fun u => (cs_Mo_isLine g a_t a_t_read a_t_text a_t_weight a_t_cost a_t_one a_t_likes a_t_judged a_t_met a_t_line a_t_image a_t_isKept a_t_had t_points t_cases t_bytes (u.1) (u.2.1) (u.2.2.1) (u.2.2.2.1) (u.2.2.2.2.1) (u.2.2.2.2.2.1) (u.2.2.2.2.2.2.1) (u.2.2.2.2.2.2.2.1) t_readMany (u.2.2.2.2.2.2.2.2.1) (u.2.2.2.2.2.2.2.2.2.1) t_suitOne t_suitTwo (u.2.2.2.2.2.2.2.2.2.2) t_text)) C hw hl (c_Mo_isLand l g a_t a_t_read a_t_text a_t_weight a_t_cost a_t_one a_t_likes a_t_judged a_t_met a_t_line a_t_image a_t_isKept a_t_had t_points t_cases t_bytes t_position t_tokenAt t_token t_digits t_number t_row t_isRow t_faultAt t_readMany t_readPoints t_readCases t_suitOne t_suitTwo (upd t_read k1.toNatClampNeg k2) t_text x1 _ h) tw_1035 kk_X10_isLand rfl ⟨rfl, rfl⟩ ⟨by decide, by decide⟩ (Nat.le_of_ble_eq_true rfl) 0 rfl rfl rfl [0, 1, 2] [] [0, 1, 2] rfl rfl rfl rfl rfl rfl (fun u => rfl) rfl dX10_isLine_146 (fun r_21 u H locs h hw => ?_)
      obtain ⟨t_position_22, t_tokenAt_23, t_token_24, t_digits_25, t_number_26, t_row_27, t_isRow_28, t_faultAt_29, t_readPoints_30, t_readCases_31, t_read_32⟩ := u
      have hw : Wd g A s (cs_Mo_isLine g a_t a_t_read a_t_text a_t_weight a_t_cost a_t_one a_t_likes a_t_judged a_t_met a_t_line a_t_image a_t_isKept a_t_had t_points t_cases t_bytes t_position_22 t_tokenAt_23 t_token_24 t_digits_25 t_number_26 t_row_27 t_isRow_28 t_faultAt_29 t_readMany t_readPoints_30 t_readCases_31 t_suitOne t_suitTwo t_read_32 t_text) H locs := hw
      exact hret (t_position_22, t_tokenAt_23, t_token_24, t_digits_25, t_number_26, t_row_27, t_isRow_28, t_faultAt_29, t_readPoints_30, t_readCases_31, t_read_32) h.2 hw dX10_isLine_149 h.1
    · have h := h.2 c_107_0
      by_cases c_107_1 : ((upd t_read k1.toNatClampNeg k2) x1.toNatClampNeg) = 1
      · have h := h.1 c_107_1
        refine lv_tableIn (off := 43) (tgt := 150) hx hb dX10_isLine_107 (by rw [c_107_1]; decide) (by rw [c_107_1]; decide) (by rw [c_107_1]; rfl) (by decide) ?_
        exact hB_Mo_isLine_150 t_position t_tokenAt t_token t_digits t_number t_row t_isRow t_faultAt t_readPoints t_readCases (upd t_read k1.toNatClampNeg k2) h _ _ _ hw (lv_sub hl [0, 1] rfl)
      · have h := h.2 c_107_1
        by_cases c_107_2 : ((upd t_read k1.toNatClampNeg k2) x1.toNatClampNeg) = 2
        · have h := h.1 c_107_2
          refine lv_tableIn (off := 43) (tgt := 150) hx hb dX10_isLine_107 (by rw [c_107_2]; decide) (by rw [c_107_2]; decide) (by rw [c_107_2]; rfl) (by decide) ?_
          exact hB_Mo_isLine_150 t_position t_tokenAt t_token t_digits t_number t_row t_isRow t_faultAt t_readPoints t_readCases (upd t_read k1.toNatClampNeg k2) h _ _ _ hw (lv_sub hl [0, 1] rfl)
        · have h := h.2 c_107_2
          by_cases c_107_3 : ((upd t_read k1.toNatClampNeg k2) x1.toNatClampNeg) = 3
          · have h := h.1 c_107_3
            refine lv_tableIn (off := 79) (tgt := 186) hx hb dX10_isLine_107 (by rw [c_107_3]; decide) (by rw [c_107_3]; decide) (by rw [c_107_3]; rfl) (by decide) ?_
            refine lv_aload_n hx hb dX10_isLine_186 rfl (lv_at hl 0 rfl) ?_
            refine lv_iload_n hx hb dX10_isLine_187 rfl (lv_at hl 1 rfl) ?_
            refine callVi (As := [.int x1]) (rest := []) (W2 := fun u => (cs_Mo_isLine g a_t a_t_read a_t_text a_t_weight a_t_cost a_t_one a_t_likes a_t_judged a_t_met a_t_line a_t_image a_t_isKept a_t_had t_points t_cases t_bytes (u.1) (u.2.1) (u.2.2.1) (u.2.2.2.1) (u.2.2.2.2.1) (u.2.2.2.2.2.1) (u.2.2.2.2.2.2.1) (u.2.2.2.2.2.2.2.1) t_readMany t_readPoints (u.2.2.2.2.2.2.2.2.1) t_suitOne t_suitTwo (u.2.2.2.2.2.2.2.2.2) t_text)) C hw hl (c_Mo_isCaseLine l g a_t a_t_read a_t_text a_t_weight a_t_cost a_t_one a_t_likes a_t_judged a_t_met a_t_line a_t_image a_t_isKept a_t_had t_points t_cases t_bytes t_position t_tokenAt t_token t_digits t_number t_row t_isRow t_faultAt t_readMany t_readPoints t_readCases t_suitOne t_suitTwo (upd t_read k1.toNatClampNeg k2) t_text x1 _ h) tw_1047 kk_X10_isCaseLine rfl ⟨rfl, rfl⟩ ⟨by decide, by decide⟩ (Nat.le_of_ble_eq_true rfl) 0 rfl rfl rfl [0, 1, 2] [] [0, 1, 2] rfl rfl rfl rfl rfl rfl (fun u => rfl) rfl dX10_isLine_188 (fun r_33 u H locs h hw => ?_)
            obtain ⟨t_position_34, t_tokenAt_35, t_token_36, t_digits_37, t_number_38, t_row_39, t_isRow_40, t_faultAt_41, t_readCases_42, t_read_43⟩ := u
            have hw : Wd g A s (cs_Mo_isLine g a_t a_t_read a_t_text a_t_weight a_t_cost a_t_one a_t_likes a_t_judged a_t_met a_t_line a_t_image a_t_isKept a_t_had t_points t_cases t_bytes t_position_34 t_tokenAt_35 t_token_36 t_digits_37 t_number_38 t_row_39 t_isRow_40 t_faultAt_41 t_readMany t_readPoints t_readCases_42 t_suitOne t_suitTwo t_read_43 t_text) H locs := hw
            exact hret (t_position_34, t_tokenAt_35, t_token_36, t_digits_37, t_number_38, t_row_39, t_isRow_40, t_faultAt_41, t_readPoints, t_readCases_42, t_read_43) h.2 hw dX10_isLine_191 h.1
          · have h := h.2 c_107_3
            by_cases c_107_4 : ((upd t_read k1.toNatClampNeg k2) x1.toNatClampNeg) = 4
            · have h := h.1 c_107_4
              refine lv_tableIn (off := 85) (tgt := 192) hx hb dX10_isLine_107 (by rw [c_107_4]; decide) (by rw [c_107_4]; decide) (by rw [c_107_4]; rfl) (by decide) ?_
              refine lv_aload_n hx hb dX10_isLine_192 rfl (lv_at hl 0 rfl) ?_
              refine lv_iload_n hx hb dX10_isLine_193 rfl (lv_at hl 1 rfl) ?_
              refine lv_iconst (v := 1) hx hb dX10_isLine_194 (by decide) ?_
              refine lv_iadd hx hb dX10_isLine_195 ?_
              refine lv_iconst (v := 0) hx hb dX10_isLine_196 (by decide) ?_
              refine lv_aload_n hx hb dX10_isLine_197 rfl (lv_at hl 0 rfl) ?_
              refine G_RX10_121 C hw 0 rfl dX10_isLine_198 ?_
              refine lv_iconst (v := 1) hx hb dX10_isLine_201 (by decide) ?_
              refine lv_isub hx hb dX10_isLine_202 ?_
              refine callVi (As := [.int (x1 + 1), .int 0, .int (t_readCases - 1)]) (rest := []) (W2 := fun u => (cs_Mo_isLine g a_t a_t_read a_t_text a_t_weight a_t_cost a_t_one a_t_likes a_t_judged a_t_met a_t_line a_t_image a_t_isKept a_t_had t_points t_cases t_bytes (u.1) (u.2.1) (u.2.2.1) (u.2.2.2.1) (u.2.2.2.2.1) (u.2.2.2.2.2.1) (u.2.2.2.2.2.2.1) (u.2.2.2.2.2.2.2.1) t_readMany t_readPoints t_readCases t_suitOne t_suitTwo (u.2.2.2.2.2.2.2.2) t_text)) C hw hl (c_Mo_isNumber l g a_t a_t_read a_t_text a_t_weight a_t_cost a_t_one a_t_likes a_t_judged a_t_met a_t_line a_t_image a_t_isKept a_t_had t_points t_cases t_bytes t_position t_tokenAt t_token t_digits t_number t_row t_isRow t_faultAt t_readMany t_readPoints t_readCases t_suitOne t_suitTwo (upd t_read k1.toNatClampNeg k2) t_text (x1 + 1) 0 (t_readCases - 1) _ h) tw_1039 kk_X10_isNumber rfl ⟨rfl, rfl⟩ ⟨by decide, by decide⟩ (Nat.le_of_ble_eq_true rfl) 0 rfl rfl rfl [0, 1, 2] [] [0, 1, 2] rfl rfl rfl rfl rfl rfl (fun u => rfl) rfl dX10_isLine_203 (fun r_44 u H locs h hw => ?_)
              obtain ⟨t_position_45, t_tokenAt_46, t_token_47, t_digits_48, t_number_49, t_row_50, t_isRow_51, t_faultAt_52, t_read_53⟩ := u
              have hw : Wd g A s (cs_Mo_isLine g a_t a_t_read a_t_text a_t_weight a_t_cost a_t_one a_t_likes a_t_judged a_t_met a_t_line a_t_image a_t_isKept a_t_had t_points t_cases t_bytes t_position_45 t_tokenAt_46 t_token_47 t_digits_48 t_number_49 t_row_50 t_isRow_51 t_faultAt_52 t_readMany t_readPoints t_readCases t_suitOne t_suitTwo t_read_53 t_text) H locs := hw
              exact hret (t_position_45, t_tokenAt_46, t_token_47, t_digits_48, t_number_49, t_row_50, t_isRow_51, t_faultAt_52, t_readPoints, t_readCases, t_read_53) h.2 hw dX10_isLine_206 h.1
            · have h := h.2 c_107_4
              by_cases c_107_5 : ((upd t_read k1.toNatClampNeg k2) x1.toNatClampNeg) = 5
              · have h := h.1 c_107_5
                refine lv_tableIn (off := 100) (tgt := 207) hx hb dX10_isLine_107 (by rw [c_107_5]; decide) (by rw [c_107_5]; decide) (by rw [c_107_5]; rfl) (by decide) ?_
                refine lv_aload_n hx hb dX10_isLine_207 rfl (lv_at hl 0 rfl) ?_
                refine lv_iload_n hx hb dX10_isLine_208 rfl (lv_at hl 1 rfl) ?_
                refine callVi (As := [.int x1]) (rest := []) (W2 := fun u => (cs_Mo_isLine g a_t a_t_read a_t_text a_t_weight a_t_cost a_t_one a_t_likes a_t_judged a_t_met a_t_line a_t_image a_t_isKept a_t_had t_points t_cases t_bytes (u.1) (u.2.1) (u.2.2.1) (u.2.2.2.1) (u.2.2.2.2.1) (u.2.2.2.2.2.1) (u.2.2.2.2.2.2.1) (u.2.2.2.2.2.2.2.1) t_readMany t_readPoints (u.2.2.2.2.2.2.2.2.1) t_suitOne t_suitTwo (u.2.2.2.2.2.2.2.2.2) t_text)) C hw hl (c_Mo_isDrop l g a_t a_t_read a_t_text a_t_weight a_t_cost a_t_one a_t_likes a_t_judged a_t_met a_t_line a_t_image a_t_isKept a_t_had t_points t_cases t_bytes t_position t_tokenAt t_token t_digits t_number t_row t_isRow t_faultAt t_readMany t_readPoints t_readCases t_suitOne t_suitTwo (upd t_read k1.toNatClampNeg k2) t_text x1 _ h) tw_1055 kk_X10_isDrop rfl ⟨rfl, rfl⟩ ⟨by decide, by decide⟩ (Nat.le_of_ble_eq_true rfl) 0 rfl rfl rfl [0, 1, 2] [] [0, 1, 2] rfl rfl rfl rfl rfl rfl (fun u => rfl) rfl dX10_isLine_209 (fun r_54 u H locs h hw => ?_)
                obtain ⟨t_position_55, t_tokenAt_56, t_token_57, t_digits_58, t_number_59, t_row_60, t_isRow_61, t_faultAt_62, t_readCases_63, t_read_64⟩ := u
                have hw : Wd g A s (cs_Mo_isLine g a_t a_t_read a_t_text a_t_weight a_t_cost a_t_one a_t_likes a_t_judged a_t_met a_t_line a_t_image a_t_isKept a_t_had t_points t_cases t_bytes t_position_55 t_tokenAt_56 t_token_57 t_digits_58 t_number_59 t_row_60 t_isRow_61 t_faultAt_62 t_readMany t_readPoints t_readCases_63 t_suitOne t_suitTwo t_read_64 t_text) H locs := hw
                exact hret (t_position_55, t_tokenAt_56, t_token_57, t_digits_58, t_number_59, t_row_60, t_isRow_61, t_faultAt_62, t_readPoints, t_readCases_63, t_read_64) h.2 hw dX10_isLine_212 h.1
              · have h := h.2 c_107_5
                refine lv_tableOut (tgt := 213) hx hb dX10_isLine_107 (sw_out (fun z z1 z2 => ?_)) (by decide) ?_
                · rcases (show z = 0 ∨ z = 1 ∨ z = 2 ∨ z = 3 ∨ z = 4 ∨ z = 5 by omega) with rfl | rfl | rfl | rfl | rfl | rfl
                  · exact sw_ne c_107_0 (by decide)
                  · exact sw_ne c_107_1 (by decide)
                  · exact sw_ne c_107_2 (by decide)
                  · exact sw_ne c_107_3 (by decide)
                  · exact sw_ne c_107_4 (by decide)
                  · exact sw_ne c_107_5 (by decide)
                · refine lv_aload_n hx hb dX10_isLine_213 rfl (lv_at hl 0 rfl) ?_
                  refine callVi (As := []) (rest := []) (W2 := fun u => (cs_Mo_isLine g a_t a_t_read a_t_text a_t_weight a_t_cost a_t_one a_t_likes a_t_judged a_t_met a_t_line a_t_image a_t_isKept a_t_had t_points t_cases t_bytes t_position t_tokenAt t_token t_digits t_number t_row t_isRow u t_readMany t_readPoints t_readCases t_suitOne t_suitTwo (upd t_read k1.toNatClampNeg k2) t_text)) C hw hl (c_Mo_fails l g a_t a_t_weight a_t_cost a_t_one a_t_text a_t_read a_t_likes a_t_judged a_t_met a_t_line a_t_image a_t_isKept a_t_had t_points t_cases t_bytes t_position t_tokenAt t_token t_digits t_number t_row t_isRow t_faultAt t_readMany t_readPoints t_readCases t_suitOne t_suitTwo _ h) tw_1043 kk_X10_fails rfl ⟨rfl, rfl⟩ ⟨by decide, by decide⟩ (Nat.le_of_ble_eq_true rfl) 0 rfl rfl rfl [0] [1, 2] [2, 0, 1] rfl rfl rfl rfl rfl rfl (fun u => rfl) rfl dX10_isLine_214 (fun r_67 u H locs h hw => ?_)
                  obtain ⟨t_faultAt_68, rfl⟩ : ∃ z, z = u := ⟨_, rfl⟩
                  have hw : Wd g A s (cs_Mo_isLine g a_t a_t_read a_t_text a_t_weight a_t_cost a_t_one a_t_likes a_t_judged a_t_met a_t_line a_t_image a_t_isKept a_t_had t_points t_cases t_bytes t_position t_tokenAt t_token t_digits t_number t_row t_isRow t_faultAt_68 t_readMany t_readPoints t_readCases t_suitOne t_suitTwo (upd t_read k1.toNatClampNeg k2) t_text) H locs := hw
                  exact hret (t_position, t_tokenAt, t_token, t_digits, t_number, t_row, t_isRow, t_faultAt_68, t_readPoints, t_readCases, upd t_read k1.toNatClampNeg k2) h.2 hw dX10_isLine_217 h.1
  refine lv_aload_n hx hb dX10_isLine_0 rfl (lv_at hl 0 rfl) ?_
  refine callVv (As := []) (rest := []) (W2 := fun u => (cs_Mo_isLine g a_t a_t_read a_t_text a_t_weight a_t_cost a_t_one a_t_likes a_t_judged a_t_met a_t_line a_t_image a_t_isKept a_t_had t_points t_cases t_bytes (u.1) (u.2.1) (u.2.2.1) (u.2.2.2.1) (u.2.2.2.2.1) (u.2.2.2.2.2.1) (u.2.2.2.2.2.2) t_faultAt t_readMany t_readPoints t_readCases t_suitOne t_suitTwo t_read t_text)) C hw hl (c_Mo_nextToken l g a_t a_t_text a_t_weight a_t_cost a_t_one a_t_read a_t_likes a_t_judged a_t_met a_t_line a_t_image a_t_isKept a_t_had t_points t_cases t_bytes t_position t_tokenAt t_token t_digits t_number t_row t_isRow t_faultAt t_readMany t_readPoints t_readCases t_suitOne t_suitTwo t_text _ h) tw_1019 kk_X10_nextToken rfl ⟨rfl, rfl⟩ ⟨by decide, by decide⟩ (Nat.le_of_ble_eq_true rfl) 0 rfl rfl rfl [0, 2] [1] [1, 0, 2] rfl rfl rfl rfl rfl rfl (fun u => rfl) rfl dX10_isLine_1 (fun u H locs h hw => ?_)
  obtain ⟨t_position_69, t_tokenAt_70, t_token_71, t_digits_72, t_number_73, t_row_74, t_isRow_75⟩ := u
  have hw : Wd g A s (cs_Mo_isLine g a_t a_t_read a_t_text a_t_weight a_t_cost a_t_one a_t_likes a_t_judged a_t_met a_t_line a_t_image a_t_isKept a_t_had t_points t_cases t_bytes t_position_69 t_tokenAt_70 t_token_71 t_digits_72 t_number_73 t_row_74 t_isRow_75 t_faultAt t_readMany t_readPoints t_readCases t_suitOne t_suitTwo t_read t_text) H locs := hw
  refine lv_aload_n hx hb dX10_isLine_4 rfl (lv_at hl 0 rfl) ?_
  refine G_RX10_26 C hw 0 rfl dX10_isLine_5 ?_
  refine lv_iload_n hx hb dX10_isLine_8 rfl (lv_at hl 1 rfl) ?_
  refine lv_aload_n hx hb dX10_isLine_9 rfl (lv_at hl 0 rfl) ?_
  refine G_RX10_91 C hw 0 rfl dX10_isLine_10 ?_
  refine lv_ldc2 (v := 237307) hx hb hown (hts _ tw_1029) dX10_isLine_13 ?_
  refine W.lcmp hx hb dX10_isLine_16 ?_
  refine lv_if_ne (tgt := 24) hx hb dX10_isLine_17 (by decide) (fun c_17 => ?_) (fun c_17 => ?_)
  · have h := h.1 c_17
    refine lv_aload_n hx hb dX10_isLine_24 rfl (lv_at hl 0 rfl) ?_
    refine G_RX10_91 C hw 0 rfl dX10_isLine_25 ?_
    refine lv_ldc2 (v := 332864552) hx hb hown (hts _ tw_1030) dX10_isLine_28 ?_
    refine W.lcmp hx hb dX10_isLine_31 ?_
    refine lv_if_ne (tgt := 39) hx hb dX10_isLine_32 (by decide) (fun c_32 => ?_) (fun c_32 => ?_)
    · have h := h.1 c_32
      refine lv_aload_n hx hb dX10_isLine_39 rfl (lv_at hl 0 rfl) ?_
      refine G_RX10_91 C hw 0 rfl dX10_isLine_40 ?_
      refine lv_ldc2 (v := 70517) hx hb hown (hts _ tw_1031) dX10_isLine_43 ?_
      refine W.lcmp hx hb dX10_isLine_46 ?_
      refine lv_if_ne (tgt := 54) hx hb dX10_isLine_47 (by decide) (fun c_47 => ?_) (fun c_47 => ?_)
      · have h := h.1 c_47
        refine lv_aload_n hx hb dX10_isLine_54 rfl (lv_at hl 0 rfl) ?_
        refine G_RX10_91 C hw 0 rfl dX10_isLine_55 ?_
        refine lv_ldc2 (v := 60296) hx hb hown (hts _ tw_1032) dX10_isLine_58 ?_
        refine W.lcmp hx hb dX10_isLine_61 ?_
        refine lv_if_ne (tgt := 69) hx hb dX10_isLine_62 (by decide) (fun c_62 => ?_) (fun c_62 => ?_)
        · have h := h.1 c_62
          refine lv_aload_n hx hb dX10_isLine_69 rfl (lv_at hl 0 rfl) ?_
          refine G_RX10_91 C hw 0 rfl dX10_isLine_70 ?_
          refine lv_ldc2 (v := 230471582) hx hb hown (hts _ tw_1033) dX10_isLine_73 ?_
          refine W.lcmp hx hb dX10_isLine_76 ?_
          refine lv_if_ne (tgt := 84) hx hb dX10_isLine_77 (by decide) (fun c_77 => ?_) (fun c_77 => ?_)
          · have h := h.1 c_77
            refine lv_aload_n hx hb dX10_isLine_84 rfl (lv_at hl 0 rfl) ?_
            refine G_RX10_91 C hw 0 rfl dX10_isLine_85 ?_
            refine lv_ldc2 (v := 92275) hx hb hown (hts _ tw_1034) dX10_isLine_88 ?_
            refine W.lcmp hx hb dX10_isLine_91 ?_
            refine lv_if_ne (tgt := 99) hx hb dX10_isLine_92 (by decide) (fun c_92 => ?_) (fun c_92 => ?_)
            · have h := h.1 c_92
              refine lv_iconst (v := (-1)) hx hb dX10_isLine_99 (by decide) ?_
              exact hB_Mo_isLine_100 x1 (-1) t_position_69 t_tokenAt_70 t_token_71 t_digits_72 t_number_73 t_row_74 t_isRow_75 t_faultAt t_readPoints t_readCases t_read h _ _ _ hw (lv_sub hl [0, 1] rfl)
            · have h := h.2 c_92
              refine lv_iconst (v := 5) hx hb dX10_isLine_95 (by decide) ?_
              refine lv_goto (tgt := 100) hx hb dX10_isLine_96 (by decide) ?_
              exact hB_Mo_isLine_100 x1 5 t_position_69 t_tokenAt_70 t_token_71 t_digits_72 t_number_73 t_row_74 t_isRow_75 t_faultAt t_readPoints t_readCases t_read h _ _ _ hw (lv_sub hl [0, 1] rfl)
          · have h := h.2 c_77
            refine lv_iconst (v := 4) hx hb dX10_isLine_80 (by decide) ?_
            refine lv_goto (tgt := 100) hx hb dX10_isLine_81 (by decide) ?_
            exact hB_Mo_isLine_100 x1 4 t_position_69 t_tokenAt_70 t_token_71 t_digits_72 t_number_73 t_row_74 t_isRow_75 t_faultAt t_readPoints t_readCases t_read h _ _ _ hw (lv_sub hl [0, 1] rfl)
        · have h := h.2 c_62
          refine lv_iconst (v := 3) hx hb dX10_isLine_65 (by decide) ?_
          refine lv_goto (tgt := 100) hx hb dX10_isLine_66 (by decide) ?_
          exact hB_Mo_isLine_100 x1 3 t_position_69 t_tokenAt_70 t_token_71 t_digits_72 t_number_73 t_row_74 t_isRow_75 t_faultAt t_readPoints t_readCases t_read h _ _ _ hw (lv_sub hl [0, 1] rfl)
      · have h := h.2 c_47
        refine lv_iconst (v := 2) hx hb dX10_isLine_50 (by decide) ?_
        refine lv_goto (tgt := 100) hx hb dX10_isLine_51 (by decide) ?_
        exact hB_Mo_isLine_100 x1 2 t_position_69 t_tokenAt_70 t_token_71 t_digits_72 t_number_73 t_row_74 t_isRow_75 t_faultAt t_readPoints t_readCases t_read h _ _ _ hw (lv_sub hl [0, 1] rfl)
    · have h := h.2 c_32
      refine lv_iconst (v := 1) hx hb dX10_isLine_35 (by decide) ?_
      refine lv_goto (tgt := 100) hx hb dX10_isLine_36 (by decide) ?_
      exact hB_Mo_isLine_100 x1 1 t_position_69 t_tokenAt_70 t_token_71 t_digits_72 t_number_73 t_row_74 t_isRow_75 t_faultAt t_readPoints t_readCases t_read h _ _ _ hw (lv_sub hl [0, 1] rfl)
  · have h := h.2 c_17
    refine lv_iconst (v := 0) hx hb dX10_isLine_20 (by decide) ?_
    refine lv_goto (tgt := 100) hx hb dX10_isLine_21 (by decide) ?_
    exact hB_Mo_isLine_100 x1 0 t_position_69 t_tokenAt_70 t_token_71 t_digits_72 t_number_73 t_row_74 t_isRow_75 t_faultAt t_readPoints t_readCases t_read h _ _ _ hw (lv_sub hl [0, 1] rfl)
def B_Mo_isRead_113 (t_points : Int32) (t_cases : Int32) (t_bytes : Int32) (t_text : (Nat → Int32)) (Q : Int32 → Int32 → Int32 → Int64 → Int32 → Int32 → Int32 → Int32 → Int32 → Int32 → Int32 → Int32 → (Nat → Int32) → Prop) (k0 : Int32) (t_position : Int32) (t_tokenAt : Int32) (t_token : Int64) (t_digits : Int32) (t_number : Int32) (t_row : Int32) (t_isRow : Int32) (t_faultAt : Int32) (t_readMany : Int32) (t_readPoints : Int32) (t_readCases : Int32) (t_read : (Nat → Int32)) : Prop := narrow .boolean (.int k0) = .int k0 ∧ Q k0 t_position t_tokenAt t_token t_digits t_number t_row t_isRow t_faultAt t_readMany t_readPoints t_readCases t_read
def B_Mo_isRead_108 (t_points : Int32) (t_cases : Int32) (t_bytes : Int32) (t_text : (Nat → Int32)) (Q : Int32 → Int32 → Int32 → Int64 → Int32 → Int32 → Int32 → Int32 → Int32 → Int32 → Int32 → Int32 → (Nat → Int32) → Prop) (t_position : Int32) (t_tokenAt : Int32) (t_token : Int64) (t_digits : Int32) (t_number : Int32) (t_row : Int32) (t_isRow : Int32) (t_faultAt : Int32) (t_readMany : Int32) (t_readPoints : Int32) (t_readCases : Int32) (t_read : (Nat → Int32)) : Prop := B_Mo_isRead_113 t_points t_cases t_bytes t_text Q 1 t_position t_tokenAt t_token t_digits t_number t_row t_isRow t_faultAt t_readMany t_readPoints t_readCases t_read
def B_Mo_isRead_86 (t_points : Int32) (t_cases : Int32) (t_bytes : Int32) (t_text : (Nat → Int32)) (Q : Int32 → Int32 → Int32 → Int64 → Int32 → Int32 → Int32 → Int32 → Int32 → Int32 → Int32 → Int32 → (Nat → Int32) → Prop) (N_28 : Int32 → Int32 → Int32 → Int64 → Int32 → Int32 → Int32 → Int32 → Int32 → Int32 → Int32 → Int32 → (Nat → Int32) → Prop) (k0 : Int32) (t_position : Int32) (t_tokenAt : Int32) (t_token : Int64) (t_digits : Int32) (t_number : Int32) (t_row : Int32) (t_isRow : Int32) (t_faultAt : Int32) (t_readMany : Int32) (t_readPoints : Int32) (t_readCases : Int32) (t_read : (Nat → Int32)) : Prop := N_28 k0 t_position t_tokenAt t_token t_digits t_number t_row t_isRow t_faultAt t_readMany t_readPoints t_readCases t_read
def B_Mo_isRead_85 (t_points : Int32) (t_cases : Int32) (t_bytes : Int32) (t_text : (Nat → Int32)) (Q : Int32 → Int32 → Int32 → Int64 → Int32 → Int32 → Int32 → Int32 → Int32 → Int32 → Int32 → Int32 → (Nat → Int32) → Prop) (N_28 : Int32 → Int32 → Int32 → Int64 → Int32 → Int32 → Int32 → Int32 → Int32 → Int32 → Int32 → Int32 → (Nat → Int32) → Prop) (t_position : Int32) (t_tokenAt : Int32) (t_token : Int64) (t_digits : Int32) (t_number : Int32) (t_row : Int32) (t_isRow : Int32) (t_faultAt : Int32) (t_readMany : Int32) (t_readPoints : Int32) (t_readCases : Int32) (t_read : (Nat → Int32)) : Prop := B_Mo_isRead_86 t_points t_cases t_bytes t_text Q N_28 0 t_position t_tokenAt t_token t_digits t_number t_row t_isRow t_faultAt t_readMany t_readPoints t_readCases t_read
def L_Mo_isRead_28 (t_points : Int32) (t_cases : Int32) (t_bytes : Int32) (t_text : (Nat → Int32)) (Q : Int32 → Int32 → Int32 → Int64 → Int32 → Int32 → Int32 → Int32 → Int32 → Int32 → Int32 → Int32 → (Nat → Int32) → Prop) : Nat → Int32 → Int32 → Int32 → Int64 → Int32 → Int32 → Int32 → Int32 → Int32 → Int32 → Int32 → Int32 → (Nat → Int32) → Prop
  | 0 => fun _ _ _ _ _ _ _ _ _ _ _ _ _ => False
  | n + 1 => fun x1 t_position t_tokenAt t_token t_digits t_number t_row t_isRow t_faultAt t_readMany t_readPoints t_readCases t_read => (x1 = 0 → ((lg_cmp t_token (-2)) = 0 → B_Mo_isRead_108 t_points t_cases t_bytes t_text Q t_position t_tokenAt t_token t_digits t_number t_row t_isRow t_faultAt t_readMany t_readPoints t_readCases t_read) ∧ (¬ (lg_cmp t_token (-2)) = 0 → P_Mo_fails t_tokenAt t_faultAt (fun r_1 t_faultAt_2 => (r_1 = 0 → B_Mo_isRead_113 t_points t_cases t_bytes t_text Q 0 t_position t_tokenAt t_token t_digits t_number t_row t_isRow t_faultAt_2 t_readMany t_readPoints t_readCases t_read) ∧ (¬ r_1 = 0 → B_Mo_isRead_108 t_points t_cases t_bytes t_text Q t_position t_tokenAt t_token t_digits t_number t_row t_isRow t_faultAt_2 t_readMany t_readPoints t_readCases t_read)))) ∧ (¬ x1 = 0 → P_Mo_isLine (4 * t_readMany) t_bytes t_position t_tokenAt t_token t_digits t_number t_row t_isRow t_faultAt t_readPoints t_readCases t_read t_text (fun r_3 t_position_4 t_tokenAt_5 t_token_6 t_digits_7 t_number_8 t_row_9 t_isRow_10 t_faultAt_11 t_readPoints_12 t_readCases_13 t_read_14 => (¬ r_3 = 0 → ∀ t_readMany_15 : Int32, t_readMany_15 = (t_readMany + 1) → P_Mo_nextToken t_bytes t_position_4 t_tokenAt_5 t_token_6 t_digits_7 t_number_8 t_row_9 t_isRow_10 t_text (fun t_position_16 t_tokenAt_17 t_token_18 t_digits_19 t_number_20 t_row_21 t_isRow_22 => (¬ (lg_cmp t_token_18 (-3)) = 0 → B_Mo_isRead_85 t_points t_cases t_bytes t_text Q (L_Mo_isRead_28 t_points t_cases t_bytes t_text Q n) t_position_16 t_tokenAt_17 t_token_18 t_digits_19 t_number_20 t_row_21 t_isRow_22 t_faultAt_11 t_readMany_15 t_readPoints_12 t_readCases_13 t_read_14) ∧ ((lg_cmp t_token_18 (-3)) = 0 → (8 ≤ t_readMany_15 → B_Mo_isRead_85 t_points t_cases t_bytes t_text Q (L_Mo_isRead_28 t_points t_cases t_bytes t_text Q n) t_position_16 t_tokenAt_17 t_token_18 t_digits_19 t_number_20 t_row_21 t_isRow_22 t_faultAt_11 t_readMany_15 t_readPoints_12 t_readCases_13 t_read_14) ∧ (¬ 8 ≤ t_readMany_15 → B_Mo_isRead_86 t_points t_cases t_bytes t_text Q (L_Mo_isRead_28 t_points t_cases t_bytes t_text Q n) 1 t_position_16 t_tokenAt_17 t_token_18 t_digits_19 t_number_20 t_row_21 t_isRow_22 t_faultAt_11 t_readMany_15 t_readPoints_12 t_readCases_13 t_read_14)))) ∧ (r_3 = 0 → Q 0 t_position_4 t_tokenAt_5 t_token_6 t_digits_7 t_number_8 t_row_9 t_isRow_10 t_faultAt_11 t_readMany t_readPoints_12 t_readCases_13 t_read_14)))
def P_Mo_isRead (t_points : Int32) (t_cases : Int32) (t_bytes : Int32) (t_position : Int32) (t_tokenAt : Int32) (t_token : Int64) (t_digits : Int32) (t_number : Int32) (t_row : Int32) (t_isRow : Int32) (t_faultAt : Int32) (t_readMany : Int32) (t_readPoints : Int32) (t_readCases : Int32) (t_read : (Nat → Int32)) (t_text : (Nat → Int32)) (Q : Int32 → Int32 → Int32 → Int64 → Int32 → Int32 → Int32 → Int32 → Int32 → Int32 → Int32 → Int32 → (Nat → Int32) → Prop) : Prop := ∃ n_28 : Nat, L_Mo_isRead_28 t_points t_cases t_bytes t_text Q n_28 1 0 t_tokenAt t_token t_digits t_number t_row t_isRow t_faultAt 0 t_points t_cases t_read
abbrev rm_Mo_isRead : Room := { frames := 5, cells := 0, slots := 0, locals := 109 }
def cs_Mo_isRead (g : GE) (a_t a_t_read a_t_text a_t_weight a_t_cost a_t_one a_t_likes a_t_judged a_t_met a_t_line a_t_image a_t_isKept a_t_had : Nat) (t_points : Int32) (t_cases : Int32) (t_bytes : Int32) (t_position : Int32) (t_tokenAt : Int32) (t_token : Int64) (t_digits : Int32) (t_number : Int32) (t_row : Int32) (t_isRow : Int32) (t_faultAt : Int32) (t_readMany : Int32) (t_readPoints : Int32) (t_readCases : Int32) (t_suitOne : Int32) (t_suitTwo : Int32) (t_read : (Nat → Int32)) (t_text : (Nat → Int32)) : va_W := [oc a_t 10 [.int t_points, .ref a_t_weight, .ref a_t_cost, .int t_cases, .ref a_t_one, .int t_bytes, .ref a_t_text, .int t_position, .int t_tokenAt, .long t_token, .int t_digits, .int t_number, .int t_row, .int t_isRow, .int t_faultAt, .int t_readMany, .int t_readPoints, .int t_readCases, .ref a_t_read, .ref a_t_likes, .ref a_t_judged, .ref a_t_met, .ref a_t_line, .ref a_t_image, .ref a_t_isKept, .int t_suitOne, .int t_suitTwo, .ref a_t_had], ai g a_t_read 32 t_read, ai g a_t_text 200 t_text]
set_option maxHeartbeats 4000000 in
set_option maxRecDepth 100000 in
theorem c_Mo_isRead (l : Launch) (g : GE) (a_t a_t_read a_t_text a_t_weight a_t_cost a_t_one a_t_likes a_t_judged a_t_met a_t_line a_t_image a_t_isKept a_t_had : Nat) (t_points : Int32) (t_cases : Int32) (t_bytes : Int32) (t_position : Int32) (t_tokenAt : Int32) (t_token : Int64) (t_digits : Int32) (t_number : Int32) (t_row : Int32) (t_isRow : Int32) (t_faultAt : Int32) (t_readMany : Int32) (t_readPoints : Int32) (t_readCases : Int32) (t_suitOne : Int32) (t_suitTwo : Int32) (t_read : (Nat → Int32)) (t_text : (Nat → Int32)) (Q : Int32 → Int32 → Int32 → Int64 → Int32 → Int32 → Int32 → Int32 → Int32 → Int32 → Int32 → Int32 → (Nat → Int32) → Prop) (h : P_Mo_isRead t_points t_cases t_bytes t_position t_tokenAt t_token t_digits t_number t_row t_isRow t_faultAt t_readMany t_readPoints t_readCases t_read t_text Q) : Cti l g yX10_isRead cX10_isRead 2 (some .boolean) rm_Mo_isRead [.ref a_t] (cs_Mo_isRead g a_t a_t_read a_t_text a_t_weight a_t_cost a_t_one a_t_likes a_t_judged a_t_met a_t_line a_t_image a_t_isKept a_t_had t_points t_cases t_bytes t_position t_tokenAt t_token t_digits t_number t_row t_isRow t_faultAt t_readMany t_readPoints t_readCases t_suitOne t_suitTwo t_read t_text) (S := Int32 × Int32 × Int64 × Int32 × Int32 × Int32 × Int32 × Int32 × Int32 × Int32 × Int32 × (Nat → Int32)) (fun r u => Q r u.1 u.2.1 u.2.2.1 u.2.2.2.1 u.2.2.2.2.1 u.2.2.2.2.2.1 u.2.2.2.2.2.2.1 u.2.2.2.2.2.2.2.1 u.2.2.2.2.2.2.2.2.1 u.2.2.2.2.2.2.2.2.2.1 u.2.2.2.2.2.2.2.2.2.2.1 u.2.2.2.2.2.2.2.2.2.2.2) (fun u => (cs_Mo_isRead g a_t a_t_read a_t_text a_t_weight a_t_cost a_t_one a_t_likes a_t_judged a_t_met a_t_line a_t_image a_t_isKept a_t_had t_points t_cases t_bytes (u.1) (u.2.1) (u.2.2.1) (u.2.2.2.1) (u.2.2.2.2.1) (u.2.2.2.2.2.1) (u.2.2.2.2.2.2.1) (u.2.2.2.2.2.2.2.1) (u.2.2.2.2.2.2.2.2.1) (u.2.2.2.2.2.2.2.2.2.1) (u.2.2.2.2.2.2.2.2.2.2.1) t_suitOne t_suitTwo (u.2.2.2.2.2.2.2.2.2.2.2) t_text)) := by
  refine meetI rfl (Nat.le_of_ble_eq_true rfl) ⟨rfl, rfl⟩ ?_
  intro p e s m args below meth c A Qf ls C hret hw hl
  have hx := C.1
  have hb := C.2.1
  have hown := C.2.2.2.1
  have hts := C.2.2.2.2.1
  have hE := C.2.2.2.2.2.1
  have hl : lv_has ls 2 [(0, .ref a_t)] := hl
  have hB_Mo_isRead_113 : ∀ (k0 : Int32) (t_position : Int32) (t_tokenAt : Int32) (t_token : Int64) (t_digits : Int32) (t_number : Int32) (t_row : Int32) (t_isRow : Int32) (t_faultAt : Int32) (t_readMany : Int32) (t_readPoints : Int32) (t_readCases : Int32) (t_read : (Nat → Int32)), B_Mo_isRead_113 t_points t_cases t_bytes t_text Q k0 t_position t_tokenAt t_token t_digits t_number t_row t_isRow t_faultAt t_readMany t_readPoints t_readCases t_read → Wat p l e rm_Mo_isRead s m args below meth c A Qf g 2 (cs_Mo_isRead g a_t a_t_read a_t_text a_t_weight a_t_cost a_t_one a_t_likes a_t_judged a_t_met a_t_line a_t_image a_t_isKept a_t_had t_points t_cases t_bytes t_position t_tokenAt t_token t_digits t_number t_row t_isRow t_faultAt t_readMany t_readPoints t_readCases t_suitOne t_suitTwo t_read t_text) [] 113 [.int k0] := by
    intro k0 t_position t_tokenAt t_token t_digits t_number t_row t_isRow t_faultAt t_readMany t_readPoints t_readCases t_read h H locs ls hw hl
    exact hret (t_position, t_tokenAt, t_token, t_digits, t_number, t_row, t_isRow, t_faultAt, t_readMany, t_readPoints, t_readCases, t_read) h.2 hw dX10_isRead_113 h.1
  have hB_Mo_isRead_108 : ∀ (t_position : Int32) (t_tokenAt : Int32) (t_token : Int64) (t_digits : Int32) (t_number : Int32) (t_row : Int32) (t_isRow : Int32) (t_faultAt : Int32) (t_readMany : Int32) (t_readPoints : Int32) (t_readCases : Int32) (t_read : (Nat → Int32)), B_Mo_isRead_108 t_points t_cases t_bytes t_text Q t_position t_tokenAt t_token t_digits t_number t_row t_isRow t_faultAt t_readMany t_readPoints t_readCases t_read → Wat p l e rm_Mo_isRead s m args below meth c A Qf g 2 (cs_Mo_isRead g a_t a_t_read a_t_text a_t_weight a_t_cost a_t_one a_t_likes a_t_judged a_t_met a_t_line a_t_image a_t_isKept a_t_had t_points t_cases t_bytes t_position t_tokenAt t_token t_digits t_number t_row t_isRow t_faultAt t_readMany t_readPoints t_readCases t_suitOne t_suitTwo t_read t_text) [] 108 [] := by
    intro t_position t_tokenAt t_token t_digits t_number t_row t_isRow t_faultAt t_readMany t_readPoints t_readCases t_read h H locs ls hw hl
    refine lv_iconst (v := 1) hx hb dX10_isRead_108 (by decide) ?_
    refine lv_goto (tgt := 113) hx hb dX10_isRead_109 (by decide) ?_
    exact hB_Mo_isRead_113 1 t_position t_tokenAt t_token t_digits t_number t_row t_isRow t_faultAt t_readMany t_readPoints t_readCases t_read h _ _ _ hw (lv_sub hl [] rfl)
  have hB_Mo_isRead_86 : ∀ (N_28 : Int32 → Int32 → Int32 → Int64 → Int32 → Int32 → Int32 → Int32 → Int32 → Int32 → Int32 → Int32 → (Nat → Int32) → Prop) (hN_28 : ∀ (x1 : Int32) (t_position : Int32) (t_tokenAt : Int32) (t_token : Int64) (t_digits : Int32) (t_number : Int32) (t_row : Int32) (t_isRow : Int32) (t_faultAt : Int32) (t_readMany : Int32) (t_readPoints : Int32) (t_readCases : Int32) (t_read : (Nat → Int32)), N_28 x1 t_position t_tokenAt t_token t_digits t_number t_row t_isRow t_faultAt t_readMany t_readPoints t_readCases t_read → Wat p l e rm_Mo_isRead s m args below meth c A Qf g 2 (cs_Mo_isRead g a_t a_t_read a_t_text a_t_weight a_t_cost a_t_one a_t_likes a_t_judged a_t_met a_t_line a_t_image a_t_isKept a_t_had t_points t_cases t_bytes t_position t_tokenAt t_token t_digits t_number t_row t_isRow t_faultAt t_readMany t_readPoints t_readCases t_suitOne t_suitTwo t_read t_text) [(0, .ref a_t), (1, .int x1)] 28 []) (k0 : Int32) (t_position : Int32) (t_tokenAt : Int32) (t_token : Int64) (t_digits : Int32) (t_number : Int32) (t_row : Int32) (t_isRow : Int32) (t_faultAt : Int32) (t_readMany : Int32) (t_readPoints : Int32) (t_readCases : Int32) (t_read : (Nat → Int32)), B_Mo_isRead_86 t_points t_cases t_bytes t_text Q N_28 k0 t_position t_tokenAt t_token t_digits t_number t_row t_isRow t_faultAt t_readMany t_readPoints t_readCases t_read → Wat p l e rm_Mo_isRead s m args below meth c A Qf g 2 (cs_Mo_isRead g a_t a_t_read a_t_text a_t_weight a_t_cost a_t_one a_t_likes a_t_judged a_t_met a_t_line a_t_image a_t_isKept a_t_had t_points t_cases t_bytes t_position t_tokenAt t_token t_digits t_number t_row t_isRow t_faultAt t_readMany t_readPoints t_readCases t_suitOne t_suitTwo t_read t_text) [(0, .ref a_t)] 86 [.int k0] := by
    intro N_28 hN_28 k0 t_position t_tokenAt t_token t_digits t_number t_row t_isRow t_faultAt t_readMany t_readPoints t_readCases t_read h H locs ls hw hl
    refine lv_istore_n (lv' := [(1, .int k0), (0, .ref a_t)]) hx hb dX10_isRead_86 rfl hl (by decide) rfl (fun ls hl => ?_)
    refine lv_goto (tgt := 28) hx hb dX10_isRead_87 (by decide) ?_
    exact hN_28 k0 t_position t_tokenAt t_token t_digits t_number t_row t_isRow t_faultAt t_readMany t_readPoints t_readCases t_read h _ _ _ hw (lv_sub hl [1, 0] rfl)
  have hB_Mo_isRead_85 : ∀ (N_28 : Int32 → Int32 → Int32 → Int64 → Int32 → Int32 → Int32 → Int32 → Int32 → Int32 → Int32 → Int32 → (Nat → Int32) → Prop) (hN_28 : ∀ (x1 : Int32) (t_position : Int32) (t_tokenAt : Int32) (t_token : Int64) (t_digits : Int32) (t_number : Int32) (t_row : Int32) (t_isRow : Int32) (t_faultAt : Int32) (t_readMany : Int32) (t_readPoints : Int32) (t_readCases : Int32) (t_read : (Nat → Int32)), N_28 x1 t_position t_tokenAt t_token t_digits t_number t_row t_isRow t_faultAt t_readMany t_readPoints t_readCases t_read → Wat p l e rm_Mo_isRead s m args below meth c A Qf g 2 (cs_Mo_isRead g a_t a_t_read a_t_text a_t_weight a_t_cost a_t_one a_t_likes a_t_judged a_t_met a_t_line a_t_image a_t_isKept a_t_had t_points t_cases t_bytes t_position t_tokenAt t_token t_digits t_number t_row t_isRow t_faultAt t_readMany t_readPoints t_readCases t_suitOne t_suitTwo t_read t_text) [(0, .ref a_t), (1, .int x1)] 28 []) (t_position : Int32) (t_tokenAt : Int32) (t_token : Int64) (t_digits : Int32) (t_number : Int32) (t_row : Int32) (t_isRow : Int32) (t_faultAt : Int32) (t_readMany : Int32) (t_readPoints : Int32) (t_readCases : Int32) (t_read : (Nat → Int32)), B_Mo_isRead_85 t_points t_cases t_bytes t_text Q N_28 t_position t_tokenAt t_token t_digits t_number t_row t_isRow t_faultAt t_readMany t_readPoints t_readCases t_read → Wat p l e rm_Mo_isRead s m args below meth c A Qf g 2 (cs_Mo_isRead g a_t a_t_read a_t_text a_t_weight a_t_cost a_t_one a_t_likes a_t_judged a_t_met a_t_line a_t_image a_t_isKept a_t_had t_points t_cases t_bytes t_position t_tokenAt t_token t_digits t_number t_row t_isRow t_faultAt t_readMany t_readPoints t_readCases t_suitOne t_suitTwo t_read t_text) [(0, .ref a_t)] 85 [] := by
    intro N_28 hN_28 t_position t_tokenAt t_token t_digits t_number t_row t_isRow t_faultAt t_readMany t_readPoints t_readCases t_read h H locs ls hw hl
    refine lv_iconst (v := 0) hx hb dX10_isRead_85 (by decide) ?_
    exact hB_Mo_isRead_86 N_28 hN_28 0 t_position t_tokenAt t_token t_digits t_number t_row t_isRow t_faultAt t_readMany t_readPoints t_readCases t_read h _ _ _ hw (lv_sub hl [0] rfl)
  have hL_Mo_isRead_28 : ∀ (n : Nat) (x1 : Int32) (t_position : Int32) (t_tokenAt : Int32) (t_token : Int64) (t_digits : Int32) (t_number : Int32) (t_row : Int32) (t_isRow : Int32) (t_faultAt : Int32) (t_readMany : Int32) (t_readPoints : Int32) (t_readCases : Int32) (t_read : (Nat → Int32)), L_Mo_isRead_28 t_points t_cases t_bytes t_text Q n x1 t_position t_tokenAt t_token t_digits t_number t_row t_isRow t_faultAt t_readMany t_readPoints t_readCases t_read → Wat p l e rm_Mo_isRead s m args below meth c A Qf g 2 (cs_Mo_isRead g a_t a_t_read a_t_text a_t_weight a_t_cost a_t_one a_t_likes a_t_judged a_t_met a_t_line a_t_image a_t_isKept a_t_had t_points t_cases t_bytes t_position t_tokenAt t_token t_digits t_number t_row t_isRow t_faultAt t_readMany t_readPoints t_readCases t_suitOne t_suitTwo t_read t_text) [(0, .ref a_t), (1, .int x1)] 28 [] := by
    intro n
    induction n with
    | zero => intro x1 t_position t_tokenAt t_token t_digits t_number t_row t_isRow t_faultAt t_readMany t_readPoints t_readCases t_read h; exact absurd h id
    | succ n ih =>
      intro x1 t_position t_tokenAt t_token t_digits t_number t_row t_isRow t_faultAt t_readMany t_readPoints t_readCases t_read h H locs ls hw hl
      rw [L_Mo_isRead_28] at h
      refine lv_iload_n hx hb dX10_isRead_28 rfl (lv_at hl 1 rfl) ?_
      refine lv_if_eq (tgt := 90) hx hb dX10_isRead_29 (by decide) (fun c_29 => ?_) (fun c_29 => ?_)
      · have h := h.1 c_29
        refine lv_aload_n hx hb dX10_isRead_90 rfl (lv_at hl 0 rfl) ?_
        refine G_RX10_91 C hw 0 rfl dX10_isRead_91 ?_
        refine lv_ldc2 (v := (-2)) hx hb hown (hts _ tw_1023) dX10_isRead_94 ?_
        refine W.lcmp hx hb dX10_isRead_97 ?_
        refine lv_if_eq (tgt := 108) hx hb dX10_isRead_98 (by decide) (fun c_98 => ?_) (fun c_98 => ?_)
        · have h := h.1 c_98
          exact hB_Mo_isRead_108 t_position t_tokenAt t_token t_digits t_number t_row t_isRow t_faultAt t_readMany t_readPoints t_readCases t_read h _ _ _ hw (lv_sub hl [] rfl)
        · have h := h.2 c_98
          refine lv_aload_n hx hb dX10_isRead_101 rfl (lv_at hl 0 rfl) ?_
          refine callVi (As := []) (rest := []) (W2 := fun u => (cs_Mo_isRead g a_t a_t_read a_t_text a_t_weight a_t_cost a_t_one a_t_likes a_t_judged a_t_met a_t_line a_t_image a_t_isKept a_t_had t_points t_cases t_bytes t_position t_tokenAt t_token t_digits t_number t_row t_isRow u t_readMany t_readPoints t_readCases t_suitOne t_suitTwo t_read t_text)) C hw hl (c_Mo_fails l g a_t a_t_weight a_t_cost a_t_one a_t_text a_t_read a_t_likes a_t_judged a_t_met a_t_line a_t_image a_t_isKept a_t_had t_points t_cases t_bytes t_position t_tokenAt t_token t_digits t_number t_row t_isRow t_faultAt t_readMany t_readPoints t_readCases t_suitOne t_suitTwo _ h) tw_1043 kk_X10_fails rfl ⟨rfl, rfl⟩ ⟨by decide, by decide⟩ (Nat.le_of_ble_eq_true rfl) 0 rfl rfl rfl [0] [1, 2] [2, 0, 1] rfl rfl rfl rfl rfl rfl (fun u => rfl) rfl dX10_isRead_102 (fun r_1 u H locs h hw => ?_)
          obtain ⟨t_faultAt_2, rfl⟩ : ∃ z, z = u := ⟨_, rfl⟩
          have hw : Wd g A s (cs_Mo_isRead g a_t a_t_read a_t_text a_t_weight a_t_cost a_t_one a_t_likes a_t_judged a_t_met a_t_line a_t_image a_t_isKept a_t_had t_points t_cases t_bytes t_position t_tokenAt t_token t_digits t_number t_row t_isRow t_faultAt_2 t_readMany t_readPoints t_readCases t_suitOne t_suitTwo t_read t_text) H locs := hw
          refine lv_if_eq (tgt := 112) hx hb dX10_isRead_105 (by decide) (fun c_105 => ?_) (fun c_105 => ?_)
          · have h := h.1 c_105
            refine lv_iconst (v := 0) hx hb dX10_isRead_112 (by decide) ?_
            exact hB_Mo_isRead_113 0 t_position t_tokenAt t_token t_digits t_number t_row t_isRow t_faultAt_2 t_readMany t_readPoints t_readCases t_read h _ _ _ hw (lv_sub hl [] rfl)
          · have h := h.2 c_105
            exact hB_Mo_isRead_108 t_position t_tokenAt t_token t_digits t_number t_row t_isRow t_faultAt_2 t_readMany t_readPoints t_readCases t_read h _ _ _ hw (lv_sub hl [] rfl)
      · have h := h.2 c_29
        refine lv_aload_n hx hb dX10_isRead_32 rfl (lv_at hl 0 rfl) ?_
        refine lv_iconst (v := 4) hx hb dX10_isRead_33 (by decide) ?_
        refine lv_aload_n hx hb dX10_isRead_34 rfl (lv_at hl 0 rfl) ?_
        refine G_RX10_149 C hw 0 rfl dX10_isRead_35 ?_
        refine lv_imul hx hb dX10_isRead_38 ?_
        refine callVi (As := [.int (4 * t_readMany)]) (rest := []) (W2 := fun u => (cs_Mo_isRead g a_t a_t_read a_t_text a_t_weight a_t_cost a_t_one a_t_likes a_t_judged a_t_met a_t_line a_t_image a_t_isKept a_t_had t_points t_cases t_bytes (u.1) (u.2.1) (u.2.2.1) (u.2.2.2.1) (u.2.2.2.2.1) (u.2.2.2.2.2.1) (u.2.2.2.2.2.2.1) (u.2.2.2.2.2.2.2.1) t_readMany (u.2.2.2.2.2.2.2.2.1) (u.2.2.2.2.2.2.2.2.2.1) t_suitOne t_suitTwo (u.2.2.2.2.2.2.2.2.2.2) t_text)) C hw hl (c_Mo_isLine l g a_t a_t_read a_t_text a_t_weight a_t_cost a_t_one a_t_likes a_t_judged a_t_met a_t_line a_t_image a_t_isKept a_t_had t_points t_cases t_bytes t_position t_tokenAt t_token t_digits t_number t_row t_isRow t_faultAt t_readMany t_readPoints t_readCases t_suitOne t_suitTwo t_read t_text (4 * t_readMany) _ h) tw_1015 kk_X10_isLine rfl ⟨rfl, rfl⟩ ⟨by decide, by decide⟩ (Nat.le_of_ble_eq_true rfl) 0 rfl rfl rfl [0, 1, 2] [] [0, 1, 2] rfl rfl rfl rfl rfl rfl (fun u => rfl) rfl dX10_isRead_39 (fun r_3 u H locs h hw => ?_)
        obtain ⟨t_position_4, t_tokenAt_5, t_token_6, t_digits_7, t_number_8, t_row_9, t_isRow_10, t_faultAt_11, t_readPoints_12, t_readCases_13, t_read_14⟩ := u
        have hw : Wd g A s (cs_Mo_isRead g a_t a_t_read a_t_text a_t_weight a_t_cost a_t_one a_t_likes a_t_judged a_t_met a_t_line a_t_image a_t_isKept a_t_had t_points t_cases t_bytes t_position_4 t_tokenAt_5 t_token_6 t_digits_7 t_number_8 t_row_9 t_isRow_10 t_faultAt_11 t_readMany t_readPoints_12 t_readCases_13 t_suitOne t_suitTwo t_read_14 t_text) H locs := hw
        refine lv_if_ne (tgt := 47) hx hb dX10_isRead_42 (by decide) (fun c_42 => ?_) (fun c_42 => ?_)
        · have h := h.1 c_42
          refine lv_aload_n hx hb dX10_isRead_47 rfl (lv_at hl 0 rfl) ?_
          refine lv_dup hx hb dX10_isRead_48 rfl ?_
          refine G_RX10_149 C hw 0 rfl dX10_isRead_49 ?_
          refine lv_iconst (v := 1) hx hb dX10_isRead_52 (by decide) ?_
          refine lv_iadd hx hb dX10_isRead_53 ?_
          refine lv_topi (fun t_readMany_15 et_readMany_15 => ?_)
          have h := h t_readMany_15 et_readMany_15
          refine U_RX10_149 (ws2 := (cs_Mo_isRead g a_t a_t_read a_t_text a_t_weight a_t_cost a_t_one a_t_likes a_t_judged a_t_met a_t_line a_t_image a_t_isKept a_t_had t_points t_cases t_bytes t_position_4 t_tokenAt_5 t_token_6 t_digits_7 t_number_8 t_row_9 t_isRow_10 t_faultAt_11 t_readMany_15 t_readPoints_12 t_readCases_13 t_suitOne t_suitTwo t_read_14 t_text)) C hw 0 rfl rfl rfl rfl dX10_isRead_54 (fun H locs hw => ?_)
          refine lv_aload_n hx hb dX10_isRead_57 rfl (lv_at hl 0 rfl) ?_
          refine callVv (As := []) (rest := []) (W2 := fun u => (cs_Mo_isRead g a_t a_t_read a_t_text a_t_weight a_t_cost a_t_one a_t_likes a_t_judged a_t_met a_t_line a_t_image a_t_isKept a_t_had t_points t_cases t_bytes (u.1) (u.2.1) (u.2.2.1) (u.2.2.2.1) (u.2.2.2.2.1) (u.2.2.2.2.2.1) (u.2.2.2.2.2.2) t_faultAt_11 t_readMany_15 t_readPoints_12 t_readCases_13 t_suitOne t_suitTwo t_read_14 t_text)) C hw hl (c_Mo_nextToken l g a_t a_t_text a_t_weight a_t_cost a_t_one a_t_read a_t_likes a_t_judged a_t_met a_t_line a_t_image a_t_isKept a_t_had t_points t_cases t_bytes t_position_4 t_tokenAt_5 t_token_6 t_digits_7 t_number_8 t_row_9 t_isRow_10 t_faultAt_11 t_readMany_15 t_readPoints_12 t_readCases_13 t_suitOne t_suitTwo t_text _ h) tw_1019 kk_X10_nextToken rfl ⟨rfl, rfl⟩ ⟨by decide, by decide⟩ (Nat.le_of_ble_eq_true rfl) 0 rfl rfl rfl [0, 2] [1] [1, 0, 2] rfl rfl rfl rfl rfl rfl (fun u => rfl) rfl dX10_isRead_58 (fun u H locs h hw => ?_)
          obtain ⟨t_position_16, t_tokenAt_17, t_token_18, t_digits_19, t_number_20, t_row_21, t_isRow_22⟩ := u
          have hw : Wd g A s (cs_Mo_isRead g a_t a_t_read a_t_text a_t_weight a_t_cost a_t_one a_t_likes a_t_judged a_t_met a_t_line a_t_image a_t_isKept a_t_had t_points t_cases t_bytes t_position_16 t_tokenAt_17 t_token_18 t_digits_19 t_number_20 t_row_21 t_isRow_22 t_faultAt_11 t_readMany_15 t_readPoints_12 t_readCases_13 t_suitOne t_suitTwo t_read_14 t_text) H locs := hw
          refine lv_aload_n hx hb dX10_isRead_61 rfl (lv_at hl 0 rfl) ?_
          refine G_RX10_91 C hw 0 rfl dX10_isRead_62 ?_
          refine lv_ldc2 (v := (-3)) hx hb hown (hts _ tw_1028) dX10_isRead_65 ?_
          refine W.lcmp hx hb dX10_isRead_68 ?_
          refine lv_if_ne (tgt := 85) hx hb dX10_isRead_69 (by decide) (fun c_69 => ?_) (fun c_69 => ?_)
          · have h := h.1 c_69
            exact hB_Mo_isRead_85 (L_Mo_isRead_28 t_points t_cases t_bytes t_text Q n) ih t_position_16 t_tokenAt_17 t_token_18 t_digits_19 t_number_20 t_row_21 t_isRow_22 t_faultAt_11 t_readMany_15 t_readPoints_12 t_readCases_13 t_read_14 h _ _ _ hw (lv_sub hl [0] rfl)
          · have h := h.2 c_69
            refine lv_aload_n hx hb dX10_isRead_72 rfl (lv_at hl 0 rfl) ?_
            refine G_RX10_149 C hw 0 rfl dX10_isRead_73 ?_
            refine lv_bipush (v := 8) hx hb dX10_isRead_76 (by decide) ?_
            refine lv_icmp_ge (tgt := 85) hx hb dX10_isRead_78 (by decide) (fun c_78 => ?_) (fun c_78 => ?_)
            · have h := h.1 c_78
              exact hB_Mo_isRead_85 (L_Mo_isRead_28 t_points t_cases t_bytes t_text Q n) ih t_position_16 t_tokenAt_17 t_token_18 t_digits_19 t_number_20 t_row_21 t_isRow_22 t_faultAt_11 t_readMany_15 t_readPoints_12 t_readCases_13 t_read_14 h _ _ _ hw (lv_sub hl [0] rfl)
            · have h := h.2 c_78
              refine lv_iconst (v := 1) hx hb dX10_isRead_81 (by decide) ?_
              refine lv_goto (tgt := 86) hx hb dX10_isRead_82 (by decide) ?_
              exact hB_Mo_isRead_86 (L_Mo_isRead_28 t_points t_cases t_bytes t_text Q n) ih 1 t_position_16 t_tokenAt_17 t_token_18 t_digits_19 t_number_20 t_row_21 t_isRow_22 t_faultAt_11 t_readMany_15 t_readPoints_12 t_readCases_13 t_read_14 h _ _ _ hw (lv_sub hl [0] rfl)
        · have h := h.2 c_42
          refine lv_iconst (v := 0) hx hb dX10_isRead_45 (by decide) ?_
          exact hret (t_position_4, t_tokenAt_5, t_token_6, t_digits_7, t_number_8, t_row_9, t_isRow_10, t_faultAt_11, t_readMany, t_readPoints_12, t_readCases_13, t_read_14) h hw dX10_isRead_46 rfl
  refine lv_aload_n hx hb dX10_isRead_0 rfl (lv_at hl 0 rfl) ?_
  refine lv_iconst (v := 0) hx hb dX10_isRead_1 (by decide) ?_
  refine U_RX10_70 (ws2 := (cs_Mo_isRead g a_t a_t_read a_t_text a_t_weight a_t_cost a_t_one a_t_likes a_t_judged a_t_met a_t_line a_t_image a_t_isKept a_t_had t_points t_cases t_bytes 0 t_tokenAt t_token t_digits t_number t_row t_isRow t_faultAt t_readMany t_readPoints t_readCases t_suitOne t_suitTwo t_read t_text)) C hw 0 rfl rfl rfl rfl dX10_isRead_2 (fun H locs hw => ?_)
  refine lv_aload_n hx hb dX10_isRead_5 rfl (lv_at hl 0 rfl) ?_
  refine lv_iconst (v := 0) hx hb dX10_isRead_6 (by decide) ?_
  refine U_RX10_149 (ws2 := (cs_Mo_isRead g a_t a_t_read a_t_text a_t_weight a_t_cost a_t_one a_t_likes a_t_judged a_t_met a_t_line a_t_image a_t_isKept a_t_had t_points t_cases t_bytes 0 t_tokenAt t_token t_digits t_number t_row t_isRow t_faultAt 0 t_readPoints t_readCases t_suitOne t_suitTwo t_read t_text)) C hw 0 rfl rfl rfl rfl dX10_isRead_7 (fun H locs hw => ?_)
  refine lv_aload_n hx hb dX10_isRead_10 rfl (lv_at hl 0 rfl) ?_
  refine lv_aload_n hx hb dX10_isRead_11 rfl (lv_at hl 0 rfl) ?_
  refine G_RX10_7 C hw 0 rfl dX10_isRead_12 ?_
  refine U_RX10_115 (ws2 := (cs_Mo_isRead g a_t a_t_read a_t_text a_t_weight a_t_cost a_t_one a_t_likes a_t_judged a_t_met a_t_line a_t_image a_t_isKept a_t_had t_points t_cases t_bytes 0 t_tokenAt t_token t_digits t_number t_row t_isRow t_faultAt 0 t_points t_readCases t_suitOne t_suitTwo t_read t_text)) C hw 0 rfl rfl rfl rfl dX10_isRead_15 (fun H locs hw => ?_)
  refine lv_aload_n hx hb dX10_isRead_18 rfl (lv_at hl 0 rfl) ?_
  refine lv_aload_n hx hb dX10_isRead_19 rfl (lv_at hl 0 rfl) ?_
  refine G_RX10_54 C hw 0 rfl dX10_isRead_20 ?_
  refine U_RX10_121 (ws2 := (cs_Mo_isRead g a_t a_t_read a_t_text a_t_weight a_t_cost a_t_one a_t_likes a_t_judged a_t_met a_t_line a_t_image a_t_isKept a_t_had t_points t_cases t_bytes 0 t_tokenAt t_token t_digits t_number t_row t_isRow t_faultAt 0 t_points t_cases t_suitOne t_suitTwo t_read t_text)) C hw 0 rfl rfl rfl rfl dX10_isRead_23 (fun H locs hw => ?_)
  refine lv_iconst (v := 1) hx hb dX10_isRead_26 (by decide) ?_
  refine lv_istore_n (lv' := [(1, .int 1), (0, .ref a_t)]) hx hb dX10_isRead_27 rfl hl (by decide) rfl (fun ls hl => ?_)
  obtain ⟨n_28, h⟩ := h
  exact hL_Mo_isRead_28 n_28 1 0 t_tokenAt t_token t_digits t_number t_row t_isRow t_faultAt 0 t_points t_cases t_read h _ _ _ hw (lv_sub hl [1, 0] rfl)
def B_Mo_fault_15 (t_points : Int32) (t_cases : Int32) (t_bytes : Int32) (t_text : (Nat → Int32)) (Q : Int32 → Int32 → Int32 → Int64 → Int32 → Int32 → Int32 → Int32 → Int32 → Int32 → Int32 → Int32 → (Nat → Int32) → Prop) (k0 : Int32) (t_position : Int32) (t_tokenAt : Int32) (t_token : Int64) (t_digits : Int32) (t_number : Int32) (t_row : Int32) (t_isRow : Int32) (t_faultAt : Int32) (t_readMany : Int32) (t_readPoints : Int32) (t_readCases : Int32) (t_read : (Nat → Int32)) : Prop := Q k0 t_position t_tokenAt t_token t_digits t_number t_row t_isRow t_faultAt t_readMany t_readPoints t_readCases t_read
def P_Mo_fault (t_points : Int32) (t_cases : Int32) (t_bytes : Int32) (t_position : Int32) (t_tokenAt : Int32) (t_token : Int64) (t_digits : Int32) (t_number : Int32) (t_row : Int32) (t_isRow : Int32) (t_faultAt : Int32) (t_readMany : Int32) (t_readPoints : Int32) (t_readCases : Int32) (t_read : (Nat → Int32)) (t_text : (Nat → Int32)) (Q : Int32 → Int32 → Int32 → Int64 → Int32 → Int32 → Int32 → Int32 → Int32 → Int32 → Int32 → Int32 → (Nat → Int32) → Prop) : Prop := P_Mo_isRead t_points t_cases t_bytes t_position t_tokenAt t_token t_digits t_number t_row t_isRow t_faultAt t_readMany t_readPoints t_readCases t_read t_text (fun r_1 t_position_2 t_tokenAt_3 t_token_4 t_digits_5 t_number_6 t_row_7 t_isRow_8 t_faultAt_9 t_readMany_10 t_readPoints_11 t_readCases_12 t_read_13 => (r_1 = 0 → B_Mo_fault_15 t_points t_cases t_bytes t_text Q t_faultAt_9 t_position_2 t_tokenAt_3 t_token_4 t_digits_5 t_number_6 t_row_7 t_isRow_8 t_faultAt_9 t_readMany_10 t_readPoints_11 t_readCases_12 t_read_13) ∧ (¬ r_1 = 0 → B_Mo_fault_15 t_points t_cases t_bytes t_text Q (-1) t_position_2 t_tokenAt_3 t_token_4 t_digits_5 t_number_6 t_row_7 t_isRow_8 t_faultAt_9 t_readMany_10 t_readPoints_11 t_readCases_12 t_read_13))
abbrev rm_Mo_fault : Room := { frames := 6, cells := 0, slots := 0, locals := 130 }
def cs_Mo_fault (g : GE) (a_t a_t_read a_t_text a_t_weight a_t_cost a_t_one a_t_likes a_t_judged a_t_met a_t_line a_t_image a_t_isKept a_t_had : Nat) (t_points : Int32) (t_cases : Int32) (t_bytes : Int32) (t_position : Int32) (t_tokenAt : Int32) (t_token : Int64) (t_digits : Int32) (t_number : Int32) (t_row : Int32) (t_isRow : Int32) (t_faultAt : Int32) (t_readMany : Int32) (t_readPoints : Int32) (t_readCases : Int32) (t_suitOne : Int32) (t_suitTwo : Int32) (t_read : (Nat → Int32)) (t_text : (Nat → Int32)) : va_W := [oc a_t 10 [.int t_points, .ref a_t_weight, .ref a_t_cost, .int t_cases, .ref a_t_one, .int t_bytes, .ref a_t_text, .int t_position, .int t_tokenAt, .long t_token, .int t_digits, .int t_number, .int t_row, .int t_isRow, .int t_faultAt, .int t_readMany, .int t_readPoints, .int t_readCases, .ref a_t_read, .ref a_t_likes, .ref a_t_judged, .ref a_t_met, .ref a_t_line, .ref a_t_image, .ref a_t_isKept, .int t_suitOne, .int t_suitTwo, .ref a_t_had], ai g a_t_read 32 t_read, ai g a_t_text 200 t_text]
set_option maxHeartbeats 4000000 in
set_option maxRecDepth 100000 in
theorem c_Mo_fault (l : Launch) (g : GE) (a_t a_t_read a_t_text a_t_weight a_t_cost a_t_one a_t_likes a_t_judged a_t_met a_t_line a_t_image a_t_isKept a_t_had : Nat) (t_points : Int32) (t_cases : Int32) (t_bytes : Int32) (t_position : Int32) (t_tokenAt : Int32) (t_token : Int64) (t_digits : Int32) (t_number : Int32) (t_row : Int32) (t_isRow : Int32) (t_faultAt : Int32) (t_readMany : Int32) (t_readPoints : Int32) (t_readCases : Int32) (t_suitOne : Int32) (t_suitTwo : Int32) (t_read : (Nat → Int32)) (t_text : (Nat → Int32)) (Q : Int32 → Int32 → Int32 → Int64 → Int32 → Int32 → Int32 → Int32 → Int32 → Int32 → Int32 → Int32 → (Nat → Int32) → Prop) (h : P_Mo_fault t_points t_cases t_bytes t_position t_tokenAt t_token t_digits t_number t_row t_isRow t_faultAt t_readMany t_readPoints t_readCases t_read t_text Q) : Cti l g yX10_fault cX10_fault 1 (some .int) rm_Mo_fault [.ref a_t] (cs_Mo_fault g a_t a_t_read a_t_text a_t_weight a_t_cost a_t_one a_t_likes a_t_judged a_t_met a_t_line a_t_image a_t_isKept a_t_had t_points t_cases t_bytes t_position t_tokenAt t_token t_digits t_number t_row t_isRow t_faultAt t_readMany t_readPoints t_readCases t_suitOne t_suitTwo t_read t_text) (S := Int32 × Int32 × Int64 × Int32 × Int32 × Int32 × Int32 × Int32 × Int32 × Int32 × Int32 × (Nat → Int32)) (fun r u => Q r u.1 u.2.1 u.2.2.1 u.2.2.2.1 u.2.2.2.2.1 u.2.2.2.2.2.1 u.2.2.2.2.2.2.1 u.2.2.2.2.2.2.2.1 u.2.2.2.2.2.2.2.2.1 u.2.2.2.2.2.2.2.2.2.1 u.2.2.2.2.2.2.2.2.2.2.1 u.2.2.2.2.2.2.2.2.2.2.2) (fun u => (cs_Mo_fault g a_t a_t_read a_t_text a_t_weight a_t_cost a_t_one a_t_likes a_t_judged a_t_met a_t_line a_t_image a_t_isKept a_t_had t_points t_cases t_bytes (u.1) (u.2.1) (u.2.2.1) (u.2.2.2.1) (u.2.2.2.2.1) (u.2.2.2.2.2.1) (u.2.2.2.2.2.2.1) (u.2.2.2.2.2.2.2.1) (u.2.2.2.2.2.2.2.2.1) (u.2.2.2.2.2.2.2.2.2.1) (u.2.2.2.2.2.2.2.2.2.2.1) t_suitOne t_suitTwo (u.2.2.2.2.2.2.2.2.2.2.2) t_text)) := by
  refine meetI rfl (Nat.le_of_ble_eq_true rfl) ⟨rfl, rfl⟩ ?_
  intro p e s m args below meth c A Qf ls C hret hw hl
  have hx := C.1
  have hb := C.2.1
  have hown := C.2.2.2.1
  have hts := C.2.2.2.2.1
  have hE := C.2.2.2.2.2.1
  have hl : lv_has ls 1 [(0, .ref a_t)] := hl
  have hB_Mo_fault_15 : ∀ (k0 : Int32) (t_position : Int32) (t_tokenAt : Int32) (t_token : Int64) (t_digits : Int32) (t_number : Int32) (t_row : Int32) (t_isRow : Int32) (t_faultAt : Int32) (t_readMany : Int32) (t_readPoints : Int32) (t_readCases : Int32) (t_read : (Nat → Int32)), B_Mo_fault_15 t_points t_cases t_bytes t_text Q k0 t_position t_tokenAt t_token t_digits t_number t_row t_isRow t_faultAt t_readMany t_readPoints t_readCases t_read → Wat p l e rm_Mo_fault s m args below meth c A Qf g 1 (cs_Mo_fault g a_t a_t_read a_t_text a_t_weight a_t_cost a_t_one a_t_likes a_t_judged a_t_met a_t_line a_t_image a_t_isKept a_t_had t_points t_cases t_bytes t_position t_tokenAt t_token t_digits t_number t_row t_isRow t_faultAt t_readMany t_readPoints t_readCases t_suitOne t_suitTwo t_read t_text) [] 15 [.int k0] := by
    intro k0 t_position t_tokenAt t_token t_digits t_number t_row t_isRow t_faultAt t_readMany t_readPoints t_readCases t_read h H locs ls hw hl
    exact hret (t_position, t_tokenAt, t_token, t_digits, t_number, t_row, t_isRow, t_faultAt, t_readMany, t_readPoints, t_readCases, t_read) h hw dX10_fault_15 rfl
  refine lv_aload_n hx hb dX10_fault_0 rfl (lv_at hl 0 rfl) ?_
  refine callVi (As := []) (rest := []) (W2 := fun u => (cs_Mo_fault g a_t a_t_read a_t_text a_t_weight a_t_cost a_t_one a_t_likes a_t_judged a_t_met a_t_line a_t_image a_t_isKept a_t_had t_points t_cases t_bytes (u.1) (u.2.1) (u.2.2.1) (u.2.2.2.1) (u.2.2.2.2.1) (u.2.2.2.2.2.1) (u.2.2.2.2.2.2.1) (u.2.2.2.2.2.2.2.1) (u.2.2.2.2.2.2.2.2.1) (u.2.2.2.2.2.2.2.2.2.1) (u.2.2.2.2.2.2.2.2.2.2.1) t_suitOne t_suitTwo (u.2.2.2.2.2.2.2.2.2.2.2) t_text)) C hw hl (c_Mo_isRead l g a_t a_t_read a_t_text a_t_weight a_t_cost a_t_one a_t_likes a_t_judged a_t_met a_t_line a_t_image a_t_isKept a_t_had t_points t_cases t_bytes t_position t_tokenAt t_token t_digits t_number t_row t_isRow t_faultAt t_readMany t_readPoints t_readCases t_suitOne t_suitTwo t_read t_text _ h) tw_1011 kk_X10_isRead rfl ⟨rfl, rfl⟩ ⟨by decide, by decide⟩ (Nat.le_of_ble_eq_true rfl) 0 rfl rfl rfl [0, 1, 2] [] [0, 1, 2] rfl rfl rfl rfl rfl rfl (fun u => rfl) rfl dX10_fault_1 (fun r_1 u H locs h hw => ?_)
  obtain ⟨t_position_2, t_tokenAt_3, t_token_4, t_digits_5, t_number_6, t_row_7, t_isRow_8, t_faultAt_9, t_readMany_10, t_readPoints_11, t_readCases_12, t_read_13⟩ := u
  have hw : Wd g A s (cs_Mo_fault g a_t a_t_read a_t_text a_t_weight a_t_cost a_t_one a_t_likes a_t_judged a_t_met a_t_line a_t_image a_t_isKept a_t_had t_points t_cases t_bytes t_position_2 t_tokenAt_3 t_token_4 t_digits_5 t_number_6 t_row_7 t_isRow_8 t_faultAt_9 t_readMany_10 t_readPoints_11 t_readCases_12 t_suitOne t_suitTwo t_read_13 t_text) H locs := hw
  refine lv_if_eq (tgt := 11) hx hb dX10_fault_4 (by decide) (fun c_4 => ?_) (fun c_4 => ?_)
  · have h := h.1 c_4
    refine lv_aload_n hx hb dX10_fault_11 rfl (lv_at hl 0 rfl) ?_
    refine G_RX10_105 C hw 0 rfl dX10_fault_12 ?_
    exact hB_Mo_fault_15 t_faultAt_9 t_position_2 t_tokenAt_3 t_token_4 t_digits_5 t_number_6 t_row_7 t_isRow_8 t_faultAt_9 t_readMany_10 t_readPoints_11 t_readCases_12 t_read_13 h _ _ _ hw (lv_sub hl [] rfl)
  · have h := h.2 c_4
    refine lv_iconst (v := (-1)) hx hb dX10_fault_7 (by decide) ?_
    refine lv_goto (tgt := 15) hx hb dX10_fault_8 (by decide) ?_
    exact hB_Mo_fault_15 (-1) t_position_2 t_tokenAt_3 t_token_4 t_digits_5 t_number_6 t_row_7 t_isRow_8 t_faultAt_9 t_readMany_10 t_readPoints_11 t_readCases_12 t_read_13 h _ _ _ hw (lv_sub hl [] rfl)
def P_Mo_add (x1 : Int32) (x2 : Int32) (x3 : Int32) (t_cases : Int32) (t_one : (Nat → Int32)) (Q : Int32 → (Nat → Int32) → Prop) : Prop := vp_in (4 * t_cases) 56 ∧ (vp_in ((4 * t_cases) + 1) 56 ∧ (vp_in ((4 * t_cases) + 2) 56 ∧ (vp_in ((4 * t_cases) + 3) 56 ∧ (∀ t_cases_1 : Int32, t_cases_1 = (t_cases + 1) → Q t_cases_1 (upd (upd (upd (upd t_one (4 * t_cases).toNatClampNeg x1) ((4 * t_cases) + 1).toNatClampNeg x2) ((4 * t_cases) + 2).toNatClampNeg x3) ((4 * t_cases) + 3).toNatClampNeg 0)))))
abbrev rm_Mo_add : Room := { frames := 0, cells := 0, slots := 0, locals := 0 }
def cs_Mo_add (g : GE) (a_t a_t_one a_t_weight a_t_cost a_t_text a_t_read a_t_likes a_t_judged a_t_met a_t_line a_t_image a_t_isKept a_t_had : Nat) (t_points : Int32) (t_cases : Int32) (t_bytes : Int32) (t_position : Int32) (t_tokenAt : Int32) (t_token : Int64) (t_digits : Int32) (t_number : Int32) (t_row : Int32) (t_isRow : Int32) (t_faultAt : Int32) (t_readMany : Int32) (t_readPoints : Int32) (t_readCases : Int32) (t_suitOne : Int32) (t_suitTwo : Int32) (t_one : (Nat → Int32)) : va_W := [oc a_t 10 [.int t_points, .ref a_t_weight, .ref a_t_cost, .int t_cases, .ref a_t_one, .int t_bytes, .ref a_t_text, .int t_position, .int t_tokenAt, .long t_token, .int t_digits, .int t_number, .int t_row, .int t_isRow, .int t_faultAt, .int t_readMany, .int t_readPoints, .int t_readCases, .ref a_t_read, .ref a_t_likes, .ref a_t_judged, .ref a_t_met, .ref a_t_line, .ref a_t_image, .ref a_t_isKept, .int t_suitOne, .int t_suitTwo, .ref a_t_had], ai g a_t_one 56 t_one]
set_option maxHeartbeats 4000000 in
set_option maxRecDepth 100000 in
theorem c_Mo_add (l : Launch) (g : GE) (a_t a_t_one a_t_weight a_t_cost a_t_text a_t_read a_t_likes a_t_judged a_t_met a_t_line a_t_image a_t_isKept a_t_had : Nat) (t_points : Int32) (t_cases : Int32) (t_bytes : Int32) (t_position : Int32) (t_tokenAt : Int32) (t_token : Int64) (t_digits : Int32) (t_number : Int32) (t_row : Int32) (t_isRow : Int32) (t_faultAt : Int32) (t_readMany : Int32) (t_readPoints : Int32) (t_readCases : Int32) (t_suitOne : Int32) (t_suitTwo : Int32) (t_one : (Nat → Int32)) (x1 : Int32) (x2 : Int32) (x3 : Int32) (Q : Int32 → (Nat → Int32) → Prop) (h : P_Mo_add x1 x2 x3 t_cases t_one Q) : Ctv l g yX10_add cX10_add 4 none rm_Mo_add [.ref a_t, .int x1, .int x2, .int x3] (cs_Mo_add g a_t a_t_one a_t_weight a_t_cost a_t_text a_t_read a_t_likes a_t_judged a_t_met a_t_line a_t_image a_t_isKept a_t_had t_points t_cases t_bytes t_position t_tokenAt t_token t_digits t_number t_row t_isRow t_faultAt t_readMany t_readPoints t_readCases t_suitOne t_suitTwo t_one) (S := Int32 × (Nat → Int32)) (fun u => Q u.1 u.2) (fun u => (cs_Mo_add g a_t a_t_one a_t_weight a_t_cost a_t_text a_t_read a_t_likes a_t_judged a_t_met a_t_line a_t_image a_t_isKept a_t_had t_points (u.1) t_bytes t_position t_tokenAt t_token t_digits t_number t_row t_isRow t_faultAt t_readMany t_readPoints t_readCases t_suitOne t_suitTwo (u.2))) := by
  refine meetV rfl (Nat.le_of_ble_eq_true rfl) ⟨rfl, rfl⟩ ?_
  intro p e s m args below meth c A Qf ls C hret hw hl
  have hx := C.1
  have hb := C.2.1
  have hown := C.2.2.2.1
  have hts := C.2.2.2.2.1
  have hE := C.2.2.2.2.2.1
  have hl : lv_has ls 4 [(0, .ref a_t), (1, .int x1), (2, .int x2), (3, .int x3)] := hl
  refine lv_aload_n hx hb dX10_add_0 rfl (lv_at hl 0 rfl) ?_
  refine G_RX10_20 C hw 0 rfl dX10_add_1 ?_
  refine lv_iconst (v := 4) hx hb dX10_add_4 (by decide) ?_
  refine lv_aload_n hx hb dX10_add_5 rfl (lv_at hl 0 rfl) ?_
  refine G_RX10_54 C hw 0 rfl dX10_add_6 ?_
  refine lv_imul hx hb dX10_add_9 ?_
  refine lv_iload_n hx hb dX10_add_10 rfl (lv_at hl 1 rfl) ?_
  refine astI (ws2 := (cs_Mo_add g a_t a_t_one a_t_weight a_t_cost a_t_text a_t_read a_t_likes a_t_judged a_t_met a_t_line a_t_image a_t_isKept a_t_had t_points t_cases t_bytes t_position t_tokenAt t_token t_digits t_number t_row t_isRow t_faultAt t_readMany t_readPoints t_readCases t_suitOne t_suitTwo (upd t_one (4 * t_cases).toNatClampNeg x1))) C hw 1 rfl h.1 rfl dX10_add_11 (fun H locs hw => ?_)
  have h := h.2
  refine lv_aload_n hx hb dX10_add_12 rfl (lv_at hl 0 rfl) ?_
  refine G_RX10_20 C hw 0 rfl dX10_add_13 ?_
  refine lv_iconst (v := 4) hx hb dX10_add_16 (by decide) ?_
  refine lv_aload_n hx hb dX10_add_17 rfl (lv_at hl 0 rfl) ?_
  refine G_RX10_54 C hw 0 rfl dX10_add_18 ?_
  refine lv_imul hx hb dX10_add_21 ?_
  refine lv_iconst (v := 1) hx hb dX10_add_22 (by decide) ?_
  refine lv_iadd hx hb dX10_add_23 ?_
  refine lv_iload_n hx hb dX10_add_24 rfl (lv_at hl 2 rfl) ?_
  refine astI (ws2 := (cs_Mo_add g a_t a_t_one a_t_weight a_t_cost a_t_text a_t_read a_t_likes a_t_judged a_t_met a_t_line a_t_image a_t_isKept a_t_had t_points t_cases t_bytes t_position t_tokenAt t_token t_digits t_number t_row t_isRow t_faultAt t_readMany t_readPoints t_readCases t_suitOne t_suitTwo (upd (upd t_one (4 * t_cases).toNatClampNeg x1) ((4 * t_cases) + 1).toNatClampNeg x2))) C hw 1 rfl h.1 rfl dX10_add_25 (fun H locs hw => ?_)
  have h := h.2
  refine lv_aload_n hx hb dX10_add_26 rfl (lv_at hl 0 rfl) ?_
  refine G_RX10_20 C hw 0 rfl dX10_add_27 ?_
  refine lv_iconst (v := 4) hx hb dX10_add_30 (by decide) ?_
  refine lv_aload_n hx hb dX10_add_31 rfl (lv_at hl 0 rfl) ?_
  refine G_RX10_54 C hw 0 rfl dX10_add_32 ?_
  refine lv_imul hx hb dX10_add_35 ?_
  refine lv_iconst (v := 2) hx hb dX10_add_36 (by decide) ?_
  refine lv_iadd hx hb dX10_add_37 ?_
  refine lv_iload_n hx hb dX10_add_38 rfl (lv_at hl 3 rfl) ?_
  refine astI (ws2 := (cs_Mo_add g a_t a_t_one a_t_weight a_t_cost a_t_text a_t_read a_t_likes a_t_judged a_t_met a_t_line a_t_image a_t_isKept a_t_had t_points t_cases t_bytes t_position t_tokenAt t_token t_digits t_number t_row t_isRow t_faultAt t_readMany t_readPoints t_readCases t_suitOne t_suitTwo (upd (upd (upd t_one (4 * t_cases).toNatClampNeg x1) ((4 * t_cases) + 1).toNatClampNeg x2) ((4 * t_cases) + 2).toNatClampNeg x3))) C hw 1 rfl h.1 rfl dX10_add_39 (fun H locs hw => ?_)
  have h := h.2
  refine lv_aload_n hx hb dX10_add_40 rfl (lv_at hl 0 rfl) ?_
  refine G_RX10_20 C hw 0 rfl dX10_add_41 ?_
  refine lv_iconst (v := 4) hx hb dX10_add_44 (by decide) ?_
  refine lv_aload_n hx hb dX10_add_45 rfl (lv_at hl 0 rfl) ?_
  refine G_RX10_54 C hw 0 rfl dX10_add_46 ?_
  refine lv_imul hx hb dX10_add_49 ?_
  refine lv_iconst (v := 3) hx hb dX10_add_50 (by decide) ?_
  refine lv_iadd hx hb dX10_add_51 ?_
  refine lv_iconst (v := 0) hx hb dX10_add_52 (by decide) ?_
  refine astI (ws2 := (cs_Mo_add g a_t a_t_one a_t_weight a_t_cost a_t_text a_t_read a_t_likes a_t_judged a_t_met a_t_line a_t_image a_t_isKept a_t_had t_points t_cases t_bytes t_position t_tokenAt t_token t_digits t_number t_row t_isRow t_faultAt t_readMany t_readPoints t_readCases t_suitOne t_suitTwo (upd (upd (upd (upd t_one (4 * t_cases).toNatClampNeg x1) ((4 * t_cases) + 1).toNatClampNeg x2) ((4 * t_cases) + 2).toNatClampNeg x3) ((4 * t_cases) + 3).toNatClampNeg 0))) C hw 1 rfl h.1 rfl dX10_add_53 (fun H locs hw => ?_)
  have h := h.2
  refine lv_aload_n hx hb dX10_add_54 rfl (lv_at hl 0 rfl) ?_
  refine lv_dup hx hb dX10_add_55 rfl ?_
  refine G_RX10_54 C hw 0 rfl dX10_add_56 ?_
  refine lv_iconst (v := 1) hx hb dX10_add_59 (by decide) ?_
  refine lv_iadd hx hb dX10_add_60 ?_
  refine lv_topi (fun t_cases_1 et_cases_1 => ?_)
  have h := h t_cases_1 et_cases_1
  refine U_RX10_54 (ws2 := (cs_Mo_add g a_t a_t_one a_t_weight a_t_cost a_t_text a_t_read a_t_likes a_t_judged a_t_met a_t_line a_t_image a_t_isKept a_t_had t_points t_cases_1 t_bytes t_position t_tokenAt t_token t_digits t_number t_row t_isRow t_faultAt t_readMany t_readPoints t_readCases t_suitOne t_suitTwo (upd (upd (upd (upd t_one (4 * t_cases).toNatClampNeg x1) ((4 * t_cases) + 1).toNatClampNeg x2) ((4 * t_cases) + 2).toNatClampNeg x3) ((4 * t_cases) + 3).toNatClampNeg 0))) C hw 0 rfl rfl rfl rfl dX10_add_61 (fun H locs hw => ?_)
  exact hret (t_cases_1, upd (upd (upd (upd t_one (4 * t_cases).toNatClampNeg x1) ((4 * t_cases) + 1).toNatClampNeg x2) ((4 * t_cases) + 2).toNatClampNeg x3) ((4 * t_cases) + 3).toNatClampNeg 0) h hw dX10_add_64
def L_Mo_plain_2 (Q : Int32 → (Nat → Int32) → (Nat → Int32) → Prop) : Nat → Int32 → Int32 → (Nat → Int32) → (Nat → Int32) → Prop
  | 0 => fun _ _ _ _ => False
  | n + 1 => fun x1 t_cases t_cost t_weight => (10 ≤ x1 → Q 0 t_cost t_weight) ∧ (¬ 10 ≤ x1 → vp_in x1 10 ∧ (vp_in x1 10 ∧ ((L_Mo_plain_2 Q n) (x1 + 1) t_cases (upd t_cost x1.toNatClampNeg 1) (upd t_weight x1.toNatClampNeg 1))))
def P_Mo_plain (t_cases : Int32) (t_cost : (Nat → Int32)) (t_weight : (Nat → Int32)) (Q : Int32 → (Nat → Int32) → (Nat → Int32) → Prop) : Prop := ∃ n_2 : Nat, L_Mo_plain_2 Q n_2 0 t_cases t_cost t_weight
abbrev rm_Mo_plain : Room := { frames := 0, cells := 0, slots := 0, locals := 0 }
def cs_Mo_plain (g : GE) (a_t a_t_cost a_t_weight a_t_one a_t_text a_t_read a_t_likes a_t_judged a_t_met a_t_line a_t_image a_t_isKept a_t_had : Nat) (t_points : Int32) (t_cases : Int32) (t_bytes : Int32) (t_position : Int32) (t_tokenAt : Int32) (t_token : Int64) (t_digits : Int32) (t_number : Int32) (t_row : Int32) (t_isRow : Int32) (t_faultAt : Int32) (t_readMany : Int32) (t_readPoints : Int32) (t_readCases : Int32) (t_suitOne : Int32) (t_suitTwo : Int32) (t_cost : (Nat → Int32)) (t_weight : (Nat → Int32)) : va_W := [oc a_t 10 [.int t_points, .ref a_t_weight, .ref a_t_cost, .int t_cases, .ref a_t_one, .int t_bytes, .ref a_t_text, .int t_position, .int t_tokenAt, .long t_token, .int t_digits, .int t_number, .int t_row, .int t_isRow, .int t_faultAt, .int t_readMany, .int t_readPoints, .int t_readCases, .ref a_t_read, .ref a_t_likes, .ref a_t_judged, .ref a_t_met, .ref a_t_line, .ref a_t_image, .ref a_t_isKept, .int t_suitOne, .int t_suitTwo, .ref a_t_had], ai g a_t_cost 10 t_cost, ai g a_t_weight 10 t_weight]
set_option maxHeartbeats 4000000 in
set_option maxRecDepth 100000 in
theorem c_Mo_plain (l : Launch) (g : GE) (a_t a_t_cost a_t_weight a_t_one a_t_text a_t_read a_t_likes a_t_judged a_t_met a_t_line a_t_image a_t_isKept a_t_had : Nat) (t_points : Int32) (t_cases : Int32) (t_bytes : Int32) (t_position : Int32) (t_tokenAt : Int32) (t_token : Int64) (t_digits : Int32) (t_number : Int32) (t_row : Int32) (t_isRow : Int32) (t_faultAt : Int32) (t_readMany : Int32) (t_readPoints : Int32) (t_readCases : Int32) (t_suitOne : Int32) (t_suitTwo : Int32) (t_cost : (Nat → Int32)) (t_weight : (Nat → Int32)) (Q : Int32 → (Nat → Int32) → (Nat → Int32) → Prop) (h : P_Mo_plain t_cases t_cost t_weight Q) : Ctv l g yX10_plain cX10_plain 2 none rm_Mo_plain [.ref a_t] (cs_Mo_plain g a_t a_t_cost a_t_weight a_t_one a_t_text a_t_read a_t_likes a_t_judged a_t_met a_t_line a_t_image a_t_isKept a_t_had t_points t_cases t_bytes t_position t_tokenAt t_token t_digits t_number t_row t_isRow t_faultAt t_readMany t_readPoints t_readCases t_suitOne t_suitTwo t_cost t_weight) (S := Int32 × (Nat → Int32) × (Nat → Int32)) (fun u => Q u.1 u.2.1 u.2.2) (fun u => (cs_Mo_plain g a_t a_t_cost a_t_weight a_t_one a_t_text a_t_read a_t_likes a_t_judged a_t_met a_t_line a_t_image a_t_isKept a_t_had t_points (u.1) t_bytes t_position t_tokenAt t_token t_digits t_number t_row t_isRow t_faultAt t_readMany t_readPoints t_readCases t_suitOne t_suitTwo (u.2.1) (u.2.2))) := by
  refine meetV rfl (Nat.le_of_ble_eq_true rfl) ⟨rfl, rfl⟩ ?_
  intro p e s m args below meth c A Qf ls C hret hw hl
  have hx := C.1
  have hb := C.2.1
  have hown := C.2.2.2.1
  have hts := C.2.2.2.2.1
  have hE := C.2.2.2.2.2.1
  have hl : lv_has ls 2 [(0, .ref a_t)] := hl
  have hL_Mo_plain_2 : ∀ (n : Nat) (x1 : Int32) (t_cases : Int32) (t_cost : (Nat → Int32)) (t_weight : (Nat → Int32)), L_Mo_plain_2 Q n x1 t_cases t_cost t_weight → Wat p l e rm_Mo_plain s m args below meth c A Qf g 2 (cs_Mo_plain g a_t a_t_cost a_t_weight a_t_one a_t_text a_t_read a_t_likes a_t_judged a_t_met a_t_line a_t_image a_t_isKept a_t_had t_points t_cases t_bytes t_position t_tokenAt t_token t_digits t_number t_row t_isRow t_faultAt t_readMany t_readPoints t_readCases t_suitOne t_suitTwo t_cost t_weight) [(0, .ref a_t), (1, .int x1)] 2 [] := by
    intro n
    induction n with
    | zero => intro x1 t_cases t_cost t_weight h; exact absurd h id
    | succ n ih =>
      intro x1 t_cases t_cost t_weight h H locs ls hw hl
      rw [L_Mo_plain_2] at h
      refine lv_iload_n hx hb dX10_plain_2 rfl (lv_at hl 1 rfl) ?_
      refine lv_bipush (v := 10) hx hb dX10_plain_3 (by decide) ?_
      refine lv_icmp_ge (tgt := 28) hx hb dX10_plain_5 (by decide) (fun c_5 => ?_) (fun c_5 => ?_)
      · have h := h.1 c_5
        refine lv_aload_n hx hb dX10_plain_28 rfl (lv_at hl 0 rfl) ?_
        refine lv_iconst (v := 0) hx hb dX10_plain_29 (by decide) ?_
        refine U_RX10_54 (ws2 := (cs_Mo_plain g a_t a_t_cost a_t_weight a_t_one a_t_text a_t_read a_t_likes a_t_judged a_t_met a_t_line a_t_image a_t_isKept a_t_had t_points 0 t_bytes t_position t_tokenAt t_token t_digits t_number t_row t_isRow t_faultAt t_readMany t_readPoints t_readCases t_suitOne t_suitTwo t_cost t_weight)) C hw 0 rfl rfl rfl rfl dX10_plain_30 (fun H locs hw => ?_)
        exact hret (0, t_cost, t_weight) h hw dX10_plain_33
      · have h := h.2 c_5
        refine lv_aload_n hx hb dX10_plain_8 rfl (lv_at hl 0 rfl) ?_
        refine G_RX10_13 C hw 0 rfl dX10_plain_9 ?_
        refine lv_iload_n hx hb dX10_plain_12 rfl (lv_at hl 1 rfl) ?_
        refine lv_iconst (v := 1) hx hb dX10_plain_13 (by decide) ?_
        refine astI (ws2 := (cs_Mo_plain g a_t a_t_cost a_t_weight a_t_one a_t_text a_t_read a_t_likes a_t_judged a_t_met a_t_line a_t_image a_t_isKept a_t_had t_points t_cases t_bytes t_position t_tokenAt t_token t_digits t_number t_row t_isRow t_faultAt t_readMany t_readPoints t_readCases t_suitOne t_suitTwo t_cost (upd t_weight x1.toNatClampNeg 1))) C hw 2 rfl h.1 rfl dX10_plain_14 (fun H locs hw => ?_)
        have h := h.2
        refine lv_aload_n hx hb dX10_plain_15 rfl (lv_at hl 0 rfl) ?_
        refine G_RX10_17 C hw 0 rfl dX10_plain_16 ?_
        refine lv_iload_n hx hb dX10_plain_19 rfl (lv_at hl 1 rfl) ?_
        refine lv_iconst (v := 1) hx hb dX10_plain_20 (by decide) ?_
        refine astI (ws2 := (cs_Mo_plain g a_t a_t_cost a_t_weight a_t_one a_t_text a_t_read a_t_likes a_t_judged a_t_met a_t_line a_t_image a_t_isKept a_t_had t_points t_cases t_bytes t_position t_tokenAt t_token t_digits t_number t_row t_isRow t_faultAt t_readMany t_readPoints t_readCases t_suitOne t_suitTwo (upd t_cost x1.toNatClampNeg 1) (upd t_weight x1.toNatClampNeg 1))) C hw 1 rfl h.1 rfl dX10_plain_21 (fun H locs hw => ?_)
        have h := h.2
        refine lv_iinc (v := x1 + 1) (lv' := [(1, .int (x1 + 1)), (0, .ref a_t)]) hx hb dX10_plain_22 hl (k := 1) rfl rfl (by decide) rfl (fun ls hl => ?_)
        refine lv_goto (tgt := 2) hx hb dX10_plain_25 (by decide) ?_
        exact ih (x1 + 1) t_cases (upd t_cost x1.toNatClampNeg 1) (upd t_weight x1.toNatClampNeg 1) h _ _ _ hw (lv_sub hl [1, 0] rfl)
  refine lv_iconst (v := 0) hx hb dX10_plain_0 (by decide) ?_
  refine lv_istore_n (lv' := [(1, .int 0), (0, .ref a_t)]) hx hb dX10_plain_1 rfl hl (by decide) rfl (fun ls hl => ?_)
  obtain ⟨n_2, h⟩ := h
  exact hL_Mo_plain_2 n_2 0 t_cases t_cost t_weight h _ _ _ hw (lv_sub hl [1, 0] rfl)
def B_Mo_doLine_176 (x1 : Int32) (t_read : (Nat → Int32)) (Q : Int32 → Int32 → (Nat → Int32) → (Nat → Int32) → (Nat → Int32) → Prop) (t_points : Int32) (t_cases : Int32) (t_cost : (Nat → Int32)) (t_one : (Nat → Int32)) (t_weight : (Nat → Int32)) : Prop := Q t_points t_cases t_cost t_one t_weight
def L_Mo_doLine_146 (x1 : Int32) (t_read : (Nat → Int32)) (Q : Int32 → Int32 → (Nat → Int32) → (Nat → Int32) → (Nat → Int32) → Prop) : Nat → Int32 → Int32 → Int32 → (Nat → Int32) → (Nat → Int32) → (Nat → Int32) → Prop
  | 0 => fun _ _ _ _ _ _ => False
  | n + 1 => fun x3 t_points t_cases t_cost t_one t_weight => ((4 * t_cases) ≤ x3 → B_Mo_doLine_176 x1 t_read Q t_points t_cases t_cost t_one t_weight) ∧ (¬ (4 * t_cases) ≤ x3 → vp_in (x3 + 4) 56 ∧ (vp_in x3 56 ∧ ((L_Mo_doLine_146 x1 t_read Q n) (x3 + 1) t_points t_cases t_cost (upd t_one x3.toNatClampNeg (t_one (x3 + 4).toNatClampNeg)) t_weight)))
def P_Mo_doLine (x1 : Int32) (t_points : Int32) (t_cases : Int32) (t_cost : (Nat → Int32)) (t_one : (Nat → Int32)) (t_read : (Nat → Int32)) (t_weight : (Nat → Int32)) (Q : Int32 → Int32 → (Nat → Int32) → (Nat → Int32) → (Nat → Int32) → Prop) : Prop := vp_in (x1 + 1) 32 ∧ (∀ x2_1 : Int32, x2_1 = (t_read (x1 + 1).toNatClampNeg) → vp_in x1 32 ∧ (((t_read x1.toNatClampNeg) = 0 → P_Mo_plain t_cases t_cost t_weight (fun t_cases_2 t_cost_3 t_weight_4 => B_Mo_doLine_176 x1 t_read Q x2_1 t_cases_2 t_cost_3 t_one t_weight_4)) ∧ (¬ (t_read x1.toNatClampNeg) = 0 → ((t_read x1.toNatClampNeg) = 1 → vp_in (x1 + 2) 32 ∧ (vp_in x2_1 10 ∧ (B_Mo_doLine_176 x1 t_read Q t_points t_cases t_cost t_one (upd t_weight x2_1.toNatClampNeg (t_read (x1 + 2).toNatClampNeg))))) ∧ (¬ (t_read x1.toNatClampNeg) = 1 → ((t_read x1.toNatClampNeg) = 2 → vp_in (x1 + 2) 32 ∧ (vp_in x2_1 10 ∧ (B_Mo_doLine_176 x1 t_read Q t_points t_cases (upd t_cost x2_1.toNatClampNeg (t_read (x1 + 2).toNatClampNeg)) t_one t_weight))) ∧ (¬ (t_read x1.toNatClampNeg) = 2 → ((t_read x1.toNatClampNeg) = 3 → vp_in (x1 + 2) 32 ∧ (vp_in (x1 + 3) 32 ∧ (P_Mo_add x2_1 (t_read (x1 + 2).toNatClampNeg) (t_read (x1 + 3).toNatClampNeg) t_cases t_one (fun t_cases_5 t_one_6 => B_Mo_doLine_176 x1 t_read Q t_points t_cases_5 t_cost t_one_6 t_weight)))) ∧ (¬ (t_read x1.toNatClampNeg) = 3 → ((t_read x1.toNatClampNeg) = 4 → vp_in ((4 * x2_1) + 3) 56 ∧ (B_Mo_doLine_176 x1 t_read Q t_points t_cases t_cost (upd t_one ((4 * x2_1) + 3).toNatClampNeg 1) t_weight)) ∧ (¬ (t_read x1.toNatClampNeg) = 4 → ∀ t_cases_9 : Int32, t_cases_9 = (t_cases - 1) → ∀ x3_10 : Int32, x3_10 = (4 * x2_1) → ∃ n_146 : Nat, L_Mo_doLine_146 x1 t_read Q n_146 x3_10 t_points t_cases_9 t_cost t_one t_weight)))))))
abbrev rm_Mo_doLine : Room := { frames := 1, cells := 0, slots := 0, locals := 23 }
def cs_Mo_doLine (g : GE) (a_t a_t_cost a_t_one a_t_read a_t_weight a_t_text a_t_likes a_t_judged a_t_met a_t_line a_t_image a_t_isKept a_t_had : Nat) (t_points : Int32) (t_cases : Int32) (t_bytes : Int32) (t_position : Int32) (t_tokenAt : Int32) (t_token : Int64) (t_digits : Int32) (t_number : Int32) (t_row : Int32) (t_isRow : Int32) (t_faultAt : Int32) (t_readMany : Int32) (t_readPoints : Int32) (t_readCases : Int32) (t_suitOne : Int32) (t_suitTwo : Int32) (t_cost : (Nat → Int32)) (t_one : (Nat → Int32)) (t_read : (Nat → Int32)) (t_weight : (Nat → Int32)) : va_W := [oc a_t 10 [.int t_points, .ref a_t_weight, .ref a_t_cost, .int t_cases, .ref a_t_one, .int t_bytes, .ref a_t_text, .int t_position, .int t_tokenAt, .long t_token, .int t_digits, .int t_number, .int t_row, .int t_isRow, .int t_faultAt, .int t_readMany, .int t_readPoints, .int t_readCases, .ref a_t_read, .ref a_t_likes, .ref a_t_judged, .ref a_t_met, .ref a_t_line, .ref a_t_image, .ref a_t_isKept, .int t_suitOne, .int t_suitTwo, .ref a_t_had], ai g a_t_cost 10 t_cost, ai g a_t_one 56 t_one, ai g a_t_read 32 t_read, ai g a_t_weight 10 t_weight]
set_option maxHeartbeats 4000000 in
set_option maxRecDepth 100000 in
theorem c_Mo_doLine (l : Launch) (g : GE) (a_t a_t_cost a_t_one a_t_read a_t_weight a_t_text a_t_likes a_t_judged a_t_met a_t_line a_t_image a_t_isKept a_t_had : Nat) (t_points : Int32) (t_cases : Int32) (t_bytes : Int32) (t_position : Int32) (t_tokenAt : Int32) (t_token : Int64) (t_digits : Int32) (t_number : Int32) (t_row : Int32) (t_isRow : Int32) (t_faultAt : Int32) (t_readMany : Int32) (t_readPoints : Int32) (t_readCases : Int32) (t_suitOne : Int32) (t_suitTwo : Int32) (t_cost : (Nat → Int32)) (t_one : (Nat → Int32)) (t_read : (Nat → Int32)) (t_weight : (Nat → Int32)) (x1 : Int32) (Q : Int32 → Int32 → (Nat → Int32) → (Nat → Int32) → (Nat → Int32) → Prop) (h : P_Mo_doLine x1 t_points t_cases t_cost t_one t_read t_weight Q) : Ctv l g yX10_doLine cX10_doLine 4 none rm_Mo_doLine [.ref a_t, .int x1] (cs_Mo_doLine g a_t a_t_cost a_t_one a_t_read a_t_weight a_t_text a_t_likes a_t_judged a_t_met a_t_line a_t_image a_t_isKept a_t_had t_points t_cases t_bytes t_position t_tokenAt t_token t_digits t_number t_row t_isRow t_faultAt t_readMany t_readPoints t_readCases t_suitOne t_suitTwo t_cost t_one t_read t_weight) (S := Int32 × Int32 × (Nat → Int32) × (Nat → Int32) × (Nat → Int32)) (fun u => Q u.1 u.2.1 u.2.2.1 u.2.2.2.1 u.2.2.2.2) (fun u => (cs_Mo_doLine g a_t a_t_cost a_t_one a_t_read a_t_weight a_t_text a_t_likes a_t_judged a_t_met a_t_line a_t_image a_t_isKept a_t_had (u.1) (u.2.1) t_bytes t_position t_tokenAt t_token t_digits t_number t_row t_isRow t_faultAt t_readMany t_readPoints t_readCases t_suitOne t_suitTwo (u.2.2.1) (u.2.2.2.1) t_read (u.2.2.2.2))) := by
  refine meetV rfl (Nat.le_of_ble_eq_true rfl) ⟨rfl, rfl⟩ ?_
  intro p e s m args below meth c A Qf ls C hret hw hl
  have hx := C.1
  have hb := C.2.1
  have hown := C.2.2.2.1
  have hts := C.2.2.2.2.1
  have hE := C.2.2.2.2.2.1
  have hl : lv_has ls 4 [(0, .ref a_t), (1, .int x1)] := hl
  have hB_Mo_doLine_176 : ∀ (t_points : Int32) (t_cases : Int32) (t_cost : (Nat → Int32)) (t_one : (Nat → Int32)) (t_weight : (Nat → Int32)), B_Mo_doLine_176 x1 t_read Q t_points t_cases t_cost t_one t_weight → Wat p l e rm_Mo_doLine s m args below meth c A Qf g 4 (cs_Mo_doLine g a_t a_t_cost a_t_one a_t_read a_t_weight a_t_text a_t_likes a_t_judged a_t_met a_t_line a_t_image a_t_isKept a_t_had t_points t_cases t_bytes t_position t_tokenAt t_token t_digits t_number t_row t_isRow t_faultAt t_readMany t_readPoints t_readCases t_suitOne t_suitTwo t_cost t_one t_read t_weight) [] 176 [] := by
    intro t_points t_cases t_cost t_one t_weight h H locs ls hw hl
    exact hret (t_points, t_cases, t_cost, t_one, t_weight) h hw dX10_doLine_176
  have hL_Mo_doLine_146 : ∀ (n : Nat) (x3 : Int32) (t_points : Int32) (t_cases : Int32) (t_cost : (Nat → Int32)) (t_one : (Nat → Int32)) (t_weight : (Nat → Int32)), L_Mo_doLine_146 x1 t_read Q n x3 t_points t_cases t_cost t_one t_weight → Wat p l e rm_Mo_doLine s m args below meth c A Qf g 4 (cs_Mo_doLine g a_t a_t_cost a_t_one a_t_read a_t_weight a_t_text a_t_likes a_t_judged a_t_met a_t_line a_t_image a_t_isKept a_t_had t_points t_cases t_bytes t_position t_tokenAt t_token t_digits t_number t_row t_isRow t_faultAt t_readMany t_readPoints t_readCases t_suitOne t_suitTwo t_cost t_one t_read t_weight) [(0, .ref a_t), (3, .int x3)] 146 [] := by
    intro n
    induction n with
    | zero => intro x3 t_points t_cases t_cost t_one t_weight h; exact absurd h id
    | succ n ih =>
      intro x3 t_points t_cases t_cost t_one t_weight h H locs ls hw hl
      rw [L_Mo_doLine_146] at h
      refine lv_iload_n hx hb dX10_doLine_146 rfl (lv_at hl 1 rfl) ?_
      refine lv_iconst (v := 4) hx hb dX10_doLine_147 (by decide) ?_
      refine lv_aload_n hx hb dX10_doLine_148 rfl (lv_at hl 0 rfl) ?_
      refine G_RX10_54 C hw 0 rfl dX10_doLine_149 ?_
      refine lv_imul hx hb dX10_doLine_152 ?_
      refine lv_icmp_ge (tgt := 176) hx hb dX10_doLine_153 (by decide) (fun c_153 => ?_) (fun c_153 => ?_)
      · have h := h.1 c_153
        exact hB_Mo_doLine_176 t_points t_cases t_cost t_one t_weight h _ _ _ hw (lv_sub hl [] rfl)
      · have h := h.2 c_153
        refine lv_aload_n hx hb dX10_doLine_156 rfl (lv_at hl 0 rfl) ?_
        refine G_RX10_20 C hw 0 rfl dX10_doLine_157 ?_
        refine lv_iload_n hx hb dX10_doLine_160 rfl (lv_at hl 1 rfl) ?_
        refine lv_aload_n hx hb dX10_doLine_161 rfl (lv_at hl 0 rfl) ?_
        refine G_RX10_20 C hw 0 rfl dX10_doLine_162 ?_
        refine lv_iload_n hx hb dX10_doLine_165 rfl (lv_at hl 1 rfl) ?_
        refine lv_iconst (v := 4) hx hb dX10_doLine_166 (by decide) ?_
        refine lv_iadd hx hb dX10_doLine_167 ?_
        refine aldI C hw 2 rfl h.1 dX10_doLine_168 ?_
        have h := h.2
        refine astI (ws2 := (cs_Mo_doLine g a_t a_t_cost a_t_one a_t_read a_t_weight a_t_text a_t_likes a_t_judged a_t_met a_t_line a_t_image a_t_isKept a_t_had t_points t_cases t_bytes t_position t_tokenAt t_token t_digits t_number t_row t_isRow t_faultAt t_readMany t_readPoints t_readCases t_suitOne t_suitTwo t_cost (upd t_one x3.toNatClampNeg (t_one (x3 + 4).toNatClampNeg)) t_read t_weight)) C hw 2 rfl h.1 rfl dX10_doLine_169 (fun H locs hw => ?_)
        have h := h.2
        refine lv_iinc (v := x3 + 1) (lv' := [(3, .int (x3 + 1)), (0, .ref a_t)]) hx hb dX10_doLine_170 hl (k := 1) rfl rfl (by decide) rfl (fun ls hl => ?_)
        refine lv_goto (tgt := 146) hx hb dX10_doLine_173 (by decide) ?_
        exact ih (x3 + 1) t_points t_cases t_cost (upd t_one x3.toNatClampNeg (t_one (x3 + 4).toNatClampNeg)) t_weight h _ _ _ hw (lv_sub hl [1, 0] rfl)
  refine lv_aload_n hx hb dX10_doLine_0 rfl (lv_at hl 0 rfl) ?_
  refine G_RX10_26 C hw 0 rfl dX10_doLine_1 ?_
  refine lv_iload_n hx hb dX10_doLine_4 rfl (lv_at hl 1 rfl) ?_
  refine lv_iconst (v := 1) hx hb dX10_doLine_5 (by decide) ?_
  refine lv_iadd hx hb dX10_doLine_6 ?_
  refine aldI C hw 3 rfl h.1 dX10_doLine_7 ?_
  have h := h.2
  refine lv_topi (fun x2_1 ex2_1 => ?_)
  have h := h x2_1 ex2_1
  refine lv_istore_n (lv' := [(2, .int x2_1), (0, .ref a_t), (1, .int x1)]) hx hb dX10_doLine_8 rfl hl (by decide) rfl (fun ls hl => ?_)
  refine lv_aload_n hx hb dX10_doLine_9 rfl (lv_at hl 1 rfl) ?_
  refine G_RX10_26 C hw 0 rfl dX10_doLine_10 ?_
  refine lv_iload_n hx hb dX10_doLine_13 rfl (lv_at hl 2 rfl) ?_
  refine aldI C hw 3 rfl h.1 dX10_doLine_14 ?_
  have h := h.2
  by_cases c_15_0 : (t_read x1.toNatClampNeg) = 0
  · have h := h.1 c_15_0
    refine lv_tableIn (off := 33) (tgt := 48) hx hb dX10_doLine_15 (by rw [c_15_0]; decide) (by rw [c_15_0]; decide) (by rw [c_15_0]; rfl) (by decide) ?_
    refine lv_aload_n hx hb dX10_doLine_48 rfl (lv_at hl 1 rfl) ?_
    refine lv_iload_n hx hb dX10_doLine_49 rfl (lv_at hl 0 rfl) ?_
    refine U_RX10_7 (ws2 := (cs_Mo_doLine g a_t a_t_cost a_t_one a_t_read a_t_weight a_t_text a_t_likes a_t_judged a_t_met a_t_line a_t_image a_t_isKept a_t_had x2_1 t_cases t_bytes t_position t_tokenAt t_token t_digits t_number t_row t_isRow t_faultAt t_readMany t_readPoints t_readCases t_suitOne t_suitTwo t_cost t_one t_read t_weight)) C hw 0 rfl rfl rfl rfl dX10_doLine_50 (fun H locs hw => ?_)
    refine lv_aload_n hx hb dX10_doLine_53 rfl (lv_at hl 1 rfl) ?_
    refine callVv (As := []) (rest := []) (W2 := fun u => (cs_Mo_doLine g a_t a_t_cost a_t_one a_t_read a_t_weight a_t_text a_t_likes a_t_judged a_t_met a_t_line a_t_image a_t_isKept a_t_had x2_1 (u.1) t_bytes t_position t_tokenAt t_token t_digits t_number t_row t_isRow t_faultAt t_readMany t_readPoints t_readCases t_suitOne t_suitTwo (u.2.1) t_one t_read (u.2.2))) C hw hl (c_Mo_plain l g a_t a_t_cost a_t_weight a_t_one a_t_text a_t_read a_t_likes a_t_judged a_t_met a_t_line a_t_image a_t_isKept a_t_had x2_1 t_cases t_bytes t_position t_tokenAt t_token t_digits t_number t_row t_isRow t_faultAt t_readMany t_readPoints t_readCases t_suitOne t_suitTwo t_cost t_weight _ h) tw_906 kk_X10_plain rfl ⟨rfl, rfl⟩ ⟨by decide, by decide⟩ (Nat.le_of_ble_eq_true rfl) 0 rfl rfl rfl [0, 1, 4] [2, 3] [2, 3, 0, 1, 4] rfl rfl rfl rfl rfl rfl (fun u => rfl) rfl dX10_doLine_54 (fun u H locs h hw => ?_)
    obtain ⟨t_cases_2, t_cost_3, t_weight_4⟩ := u
    have hw : Wd g A s (cs_Mo_doLine g a_t a_t_cost a_t_one a_t_read a_t_weight a_t_text a_t_likes a_t_judged a_t_met a_t_line a_t_image a_t_isKept a_t_had x2_1 t_cases_2 t_bytes t_position t_tokenAt t_token t_digits t_number t_row t_isRow t_faultAt t_readMany t_readPoints t_readCases t_suitOne t_suitTwo t_cost_3 t_one t_read t_weight_4) H locs := hw
    refine lv_goto (tgt := 176) hx hb dX10_doLine_57 (by decide) ?_
    exact hB_Mo_doLine_176 x2_1 t_cases_2 t_cost_3 t_one t_weight_4 h _ _ _ hw (lv_sub hl [] rfl)
  · have h := h.2 c_15_0
    by_cases c_15_1 : (t_read x1.toNatClampNeg) = 1
    · have h := h.1 c_15_1
      refine lv_tableIn (off := 45) (tgt := 60) hx hb dX10_doLine_15 (by rw [c_15_1]; decide) (by rw [c_15_1]; decide) (by rw [c_15_1]; rfl) (by decide) ?_
      refine lv_aload_n hx hb dX10_doLine_60 rfl (lv_at hl 1 rfl) ?_
      refine G_RX10_13 C hw 0 rfl dX10_doLine_61 ?_
      refine lv_iload_n hx hb dX10_doLine_64 rfl (lv_at hl 0 rfl) ?_
      refine lv_aload_n hx hb dX10_doLine_65 rfl (lv_at hl 1 rfl) ?_
      refine G_RX10_26 C hw 0 rfl dX10_doLine_66 ?_
      refine lv_iload_n hx hb dX10_doLine_69 rfl (lv_at hl 2 rfl) ?_
      refine lv_iconst (v := 2) hx hb dX10_doLine_70 (by decide) ?_
      refine lv_iadd hx hb dX10_doLine_71 ?_
      refine aldI C hw 3 rfl h.1 dX10_doLine_72 ?_
      have h := h.2
      refine astI (ws2 := (cs_Mo_doLine g a_t a_t_cost a_t_one a_t_read a_t_weight a_t_text a_t_likes a_t_judged a_t_met a_t_line a_t_image a_t_isKept a_t_had t_points t_cases t_bytes t_position t_tokenAt t_token t_digits t_number t_row t_isRow t_faultAt t_readMany t_readPoints t_readCases t_suitOne t_suitTwo t_cost t_one t_read (upd t_weight x2_1.toNatClampNeg (t_read (x1 + 2).toNatClampNeg)))) C hw 4 rfl h.1 rfl dX10_doLine_73 (fun H locs hw => ?_)
      have h := h.2
      refine lv_goto (tgt := 176) hx hb dX10_doLine_74 (by decide) ?_
      exact hB_Mo_doLine_176 t_points t_cases t_cost t_one (upd t_weight x2_1.toNatClampNeg (t_read (x1 + 2).toNatClampNeg)) h _ _ _ hw (lv_sub hl [] rfl)
    · have h := h.2 c_15_1
      by_cases c_15_2 : (t_read x1.toNatClampNeg) = 2
      · have h := h.1 c_15_2
        refine lv_tableIn (off := 62) (tgt := 77) hx hb dX10_doLine_15 (by rw [c_15_2]; decide) (by rw [c_15_2]; decide) (by rw [c_15_2]; rfl) (by decide) ?_
        refine lv_aload_n hx hb dX10_doLine_77 rfl (lv_at hl 1 rfl) ?_
        refine G_RX10_17 C hw 0 rfl dX10_doLine_78 ?_
        refine lv_iload_n hx hb dX10_doLine_81 rfl (lv_at hl 0 rfl) ?_
        refine lv_aload_n hx hb dX10_doLine_82 rfl (lv_at hl 1 rfl) ?_
        refine G_RX10_26 C hw 0 rfl dX10_doLine_83 ?_
        refine lv_iload_n hx hb dX10_doLine_86 rfl (lv_at hl 2 rfl) ?_
        refine lv_iconst (v := 2) hx hb dX10_doLine_87 (by decide) ?_
        refine lv_iadd hx hb dX10_doLine_88 ?_
        refine aldI C hw 3 rfl h.1 dX10_doLine_89 ?_
        have h := h.2
        refine astI (ws2 := (cs_Mo_doLine g a_t a_t_cost a_t_one a_t_read a_t_weight a_t_text a_t_likes a_t_judged a_t_met a_t_line a_t_image a_t_isKept a_t_had t_points t_cases t_bytes t_position t_tokenAt t_token t_digits t_number t_row t_isRow t_faultAt t_readMany t_readPoints t_readCases t_suitOne t_suitTwo (upd t_cost x2_1.toNatClampNeg (t_read (x1 + 2).toNatClampNeg)) t_one t_read t_weight)) C hw 1 rfl h.1 rfl dX10_doLine_90 (fun H locs hw => ?_)
        have h := h.2
        refine lv_goto (tgt := 176) hx hb dX10_doLine_91 (by decide) ?_
        exact hB_Mo_doLine_176 t_points t_cases (upd t_cost x2_1.toNatClampNeg (t_read (x1 + 2).toNatClampNeg)) t_one t_weight h _ _ _ hw (lv_sub hl [] rfl)
      · have h := h.2 c_15_2
        by_cases c_15_3 : (t_read x1.toNatClampNeg) = 3
        · have h := h.1 c_15_3
          refine lv_tableIn (off := 79) (tgt := 94) hx hb dX10_doLine_15 (by rw [c_15_3]; decide) (by rw [c_15_3]; decide) (by rw [c_15_3]; rfl) (by decide) ?_
          refine lv_aload_n hx hb dX10_doLine_94 rfl (lv_at hl 1 rfl) ?_
          refine lv_iload_n hx hb dX10_doLine_95 rfl (lv_at hl 0 rfl) ?_
          refine lv_aload_n hx hb dX10_doLine_96 rfl (lv_at hl 1 rfl) ?_
          refine G_RX10_26 C hw 0 rfl dX10_doLine_97 ?_
          refine lv_iload_n hx hb dX10_doLine_100 rfl (lv_at hl 2 rfl) ?_
          refine lv_iconst (v := 2) hx hb dX10_doLine_101 (by decide) ?_
          refine lv_iadd hx hb dX10_doLine_102 ?_
          refine aldI C hw 3 rfl h.1 dX10_doLine_103 ?_
          have h := h.2
          refine lv_aload_n hx hb dX10_doLine_104 rfl (lv_at hl 1 rfl) ?_
          refine G_RX10_26 C hw 0 rfl dX10_doLine_105 ?_
          refine lv_iload_n hx hb dX10_doLine_108 rfl (lv_at hl 2 rfl) ?_
          refine lv_iconst (v := 3) hx hb dX10_doLine_109 (by decide) ?_
          refine lv_iadd hx hb dX10_doLine_110 ?_
          refine aldI C hw 3 rfl h.1 dX10_doLine_111 ?_
          have h := h.2
          refine callVv (As := [.int x2_1, .int (t_read (x1 + 2).toNatClampNeg), .int (t_read (x1 + 3).toNatClampNeg)]) (rest := []) (W2 := fun u => (cs_Mo_doLine g a_t a_t_cost a_t_one a_t_read a_t_weight a_t_text a_t_likes a_t_judged a_t_met a_t_line a_t_image a_t_isKept a_t_had t_points (u.1) t_bytes t_position t_tokenAt t_token t_digits t_number t_row t_isRow t_faultAt t_readMany t_readPoints t_readCases t_suitOne t_suitTwo t_cost (u.2) t_read t_weight)) C hw hl (c_Mo_add l g a_t a_t_one a_t_weight a_t_cost a_t_text a_t_read a_t_likes a_t_judged a_t_met a_t_line a_t_image a_t_isKept a_t_had t_points t_cases t_bytes t_position t_tokenAt t_token t_digits t_number t_row t_isRow t_faultAt t_readMany t_readPoints t_readCases t_suitOne t_suitTwo t_one x2_1 (t_read (x1 + 2).toNatClampNeg) (t_read (x1 + 3).toNatClampNeg) _ h) tw_1067 kk_X10_add rfl ⟨rfl, rfl⟩ ⟨by decide, by decide⟩ (Nat.le_of_ble_eq_true rfl) 0 rfl rfl rfl [0, 2] [1, 3, 4] [3, 0, 4, 1, 2] rfl rfl rfl rfl rfl rfl (fun u => rfl) rfl dX10_doLine_112 (fun u H locs h hw => ?_)
          obtain ⟨t_cases_5, t_one_6⟩ := u
          have hw : Wd g A s (cs_Mo_doLine g a_t a_t_cost a_t_one a_t_read a_t_weight a_t_text a_t_likes a_t_judged a_t_met a_t_line a_t_image a_t_isKept a_t_had t_points t_cases_5 t_bytes t_position t_tokenAt t_token t_digits t_number t_row t_isRow t_faultAt t_readMany t_readPoints t_readCases t_suitOne t_suitTwo t_cost t_one_6 t_read t_weight) H locs := hw
          refine lv_goto (tgt := 176) hx hb dX10_doLine_115 (by decide) ?_
          exact hB_Mo_doLine_176 t_points t_cases_5 t_cost t_one_6 t_weight h _ _ _ hw (lv_sub hl [] rfl)
        · have h := h.2 c_15_3
          by_cases c_15_4 : (t_read x1.toNatClampNeg) = 4
          · have h := h.1 c_15_4
            refine lv_tableIn (off := 103) (tgt := 118) hx hb dX10_doLine_15 (by rw [c_15_4]; decide) (by rw [c_15_4]; decide) (by rw [c_15_4]; rfl) (by decide) ?_
            refine lv_aload_n hx hb dX10_doLine_118 rfl (lv_at hl 1 rfl) ?_
            refine G_RX10_20 C hw 0 rfl dX10_doLine_119 ?_
            refine lv_iconst (v := 4) hx hb dX10_doLine_122 (by decide) ?_
            refine lv_iload_n hx hb dX10_doLine_123 rfl (lv_at hl 0 rfl) ?_
            refine lv_imul hx hb dX10_doLine_124 ?_
            refine lv_iconst (v := 3) hx hb dX10_doLine_125 (by decide) ?_
            refine lv_iadd hx hb dX10_doLine_126 ?_
            refine lv_iconst (v := 1) hx hb dX10_doLine_127 (by decide) ?_
            refine astI (ws2 := (cs_Mo_doLine g a_t a_t_cost a_t_one a_t_read a_t_weight a_t_text a_t_likes a_t_judged a_t_met a_t_line a_t_image a_t_isKept a_t_had t_points t_cases t_bytes t_position t_tokenAt t_token t_digits t_number t_row t_isRow t_faultAt t_readMany t_readPoints t_readCases t_suitOne t_suitTwo t_cost (upd t_one ((4 * x2_1) + 3).toNatClampNeg 1) t_read t_weight)) C hw 2 rfl h.1 rfl dX10_doLine_128 (fun H locs hw => ?_)
            have h := h.2
            refine lv_goto (tgt := 176) hx hb dX10_doLine_129 (by decide) ?_
            exact hB_Mo_doLine_176 t_points t_cases t_cost (upd t_one ((4 * x2_1) + 3).toNatClampNeg 1) t_weight h _ _ _ hw (lv_sub hl [] rfl)
          · have h := h.2 c_15_4
            refine lv_tableOut (tgt := 132) hx hb dX10_doLine_15 (sw_out (fun z z1 z2 => ?_)) (by decide) ?_
            · rcases (show z = 0 ∨ z = 1 ∨ z = 2 ∨ z = 3 ∨ z = 4 by omega) with rfl | rfl | rfl | rfl | rfl
              · exact sw_ne c_15_0 (by decide)
              · exact sw_ne c_15_1 (by decide)
              · exact sw_ne c_15_2 (by decide)
              · exact sw_ne c_15_3 (by decide)
              · exact sw_ne c_15_4 (by decide)
            · refine lv_aload_n hx hb dX10_doLine_132 rfl (lv_at hl 1 rfl) ?_
              refine lv_dup hx hb dX10_doLine_133 rfl ?_
              refine G_RX10_54 C hw 0 rfl dX10_doLine_134 ?_
              refine lv_iconst (v := 1) hx hb dX10_doLine_137 (by decide) ?_
              refine lv_isub hx hb dX10_doLine_138 ?_
              refine lv_topi (fun t_cases_9 et_cases_9 => ?_)
              have h := h t_cases_9 et_cases_9
              refine U_RX10_54 (ws2 := (cs_Mo_doLine g a_t a_t_cost a_t_one a_t_read a_t_weight a_t_text a_t_likes a_t_judged a_t_met a_t_line a_t_image a_t_isKept a_t_had t_points t_cases_9 t_bytes t_position t_tokenAt t_token t_digits t_number t_row t_isRow t_faultAt t_readMany t_readPoints t_readCases t_suitOne t_suitTwo t_cost t_one t_read t_weight)) C hw 0 rfl rfl rfl rfl dX10_doLine_139 (fun H locs hw => ?_)
              refine lv_iconst (v := 4) hx hb dX10_doLine_142 (by decide) ?_
              refine lv_iload_n hx hb dX10_doLine_143 rfl (lv_at hl 0 rfl) ?_
              refine lv_imul hx hb dX10_doLine_144 ?_
              refine lv_topi (fun x3_10 ex3_10 => ?_)
              have h := h x3_10 ex3_10
              refine lv_istore_n (lv' := [(3, .int x3_10), (2, .int x2_1), (0, .ref a_t), (1, .int x1)]) hx hb dX10_doLine_145 rfl hl (by decide) rfl (fun ls hl => ?_)
              obtain ⟨n_146, h⟩ := h
              exact hL_Mo_doLine_146 n_146 x3_10 t_points t_cases_9 t_cost t_one t_weight h _ _ _ hw (lv_sub hl [2, 0] rfl)
def L_Mo_land_12 (t_text : (Nat → Int32)) (Q : Int32 → Int32 → Int32 → Int32 → Int32 → Int32 → Int64 → Int32 → Int32 → Int32 → Int32 → Int32 → Int32 → Int32 → Int32 → (Nat → Int32) → (Nat → Int32) → (Nat → Int32) → (Nat → Int32) → (Nat → Int32) → Prop) : Nat → Int32 → Int32 → Int32 → Int32 → Int32 → Int32 → Int64 → Int32 → Int32 → Int32 → Int32 → Int32 → Int32 → Int32 → Int32 → (Nat → Int32) → (Nat → Int32) → (Nat → Int32) → (Nat → Int32) → (Nat → Int32) → Prop
  | 0 => fun _ _ _ _ _ _ _ _ _ _ _ _ _ _ _ _ _ _ _ _ => False
  | n + 1 => fun x1 t_points t_cases t_bytes t_position t_tokenAt t_token t_digits t_number t_row t_isRow t_faultAt t_readMany t_readPoints t_readCases t_cost t_isKept t_one t_read t_weight => (t_readMany ≤ x1 → vp_in 0 2 ∧ (vp_in 1 2 ∧ (Q t_readMany t_points t_cases 0 t_position t_tokenAt t_token t_digits t_number t_row t_isRow t_faultAt t_readMany t_readPoints t_readCases t_cost (upd (upd t_isKept (0 : Int32).toNatClampNeg (vp_nar .boolean 0)) (1 : Int32).toNatClampNeg (vp_nar .boolean 0)) t_one t_read t_weight))) ∧ (¬ t_readMany ≤ x1 → P_Mo_doLine (4 * x1) t_points t_cases t_cost t_one t_read t_weight (fun t_points_1 t_cases_2 t_cost_3 t_one_4 t_weight_5 => (L_Mo_land_12 t_text Q n) (x1 + 1) t_points_1 t_cases_2 t_bytes t_position t_tokenAt t_token t_digits t_number t_row t_isRow t_faultAt t_readMany t_readPoints t_readCases t_cost_3 t_isKept t_one_4 t_read t_weight_5))
def P_Mo_land (t_points : Int32) (t_cases : Int32) (t_bytes : Int32) (t_position : Int32) (t_tokenAt : Int32) (t_token : Int64) (t_digits : Int32) (t_number : Int32) (t_row : Int32) (t_isRow : Int32) (t_faultAt : Int32) (t_readMany : Int32) (t_readPoints : Int32) (t_readCases : Int32) (t_cost : (Nat → Int32)) (t_isKept : (Nat → Int32)) (t_one : (Nat → Int32)) (t_read : (Nat → Int32)) (t_text : (Nat → Int32)) (t_weight : (Nat → Int32)) (Q : Int32 → Int32 → Int32 → Int32 → Int32 → Int32 → Int64 → Int32 → Int32 → Int32 → Int32 → Int32 → Int32 → Int32 → Int32 → (Nat → Int32) → (Nat → Int32) → (Nat → Int32) → (Nat → Int32) → (Nat → Int32) → Prop) : Prop := P_Mo_isRead t_points t_cases t_bytes t_position t_tokenAt t_token t_digits t_number t_row t_isRow t_faultAt t_readMany t_readPoints t_readCases t_read t_text (fun r_6 t_position_7 t_tokenAt_8 t_token_9 t_digits_10 t_number_11 t_row_12 t_isRow_13 t_faultAt_14 t_readMany_15 t_readPoints_16 t_readCases_17 t_read_18 => (¬ r_6 = 0 → ∃ n_12 : Nat, L_Mo_land_12 t_text Q n_12 0 t_points t_cases t_bytes t_position_7 t_tokenAt_8 t_token_9 t_digits_10 t_number_11 t_row_12 t_isRow_13 t_faultAt_14 t_readMany_15 t_readPoints_16 t_readCases_17 t_cost t_isKept t_one t_read_18 t_weight) ∧ (r_6 = 0 → Q (-4) t_points t_cases t_bytes t_position_7 t_tokenAt_8 t_token_9 t_digits_10 t_number_11 t_row_12 t_isRow_13 t_faultAt_14 t_readMany_15 t_readPoints_16 t_readCases_17 t_cost t_isKept t_one t_read_18 t_weight))
abbrev rm_Mo_land : Room := { frames := 6, cells := 0, slots := 0, locals := 130 }
def cs_Mo_land (g : GE) (a_t a_t_cost a_t_isKept a_t_one a_t_read a_t_text a_t_weight a_t_likes a_t_judged a_t_met a_t_line a_t_image a_t_had : Nat) (t_points : Int32) (t_cases : Int32) (t_bytes : Int32) (t_position : Int32) (t_tokenAt : Int32) (t_token : Int64) (t_digits : Int32) (t_number : Int32) (t_row : Int32) (t_isRow : Int32) (t_faultAt : Int32) (t_readMany : Int32) (t_readPoints : Int32) (t_readCases : Int32) (t_suitOne : Int32) (t_suitTwo : Int32) (t_cost : (Nat → Int32)) (t_isKept : (Nat → Int32)) (t_one : (Nat → Int32)) (t_read : (Nat → Int32)) (t_text : (Nat → Int32)) (t_weight : (Nat → Int32)) : va_W := [oc a_t 10 [.int t_points, .ref a_t_weight, .ref a_t_cost, .int t_cases, .ref a_t_one, .int t_bytes, .ref a_t_text, .int t_position, .int t_tokenAt, .long t_token, .int t_digits, .int t_number, .int t_row, .int t_isRow, .int t_faultAt, .int t_readMany, .int t_readPoints, .int t_readCases, .ref a_t_read, .ref a_t_likes, .ref a_t_judged, .ref a_t_met, .ref a_t_line, .ref a_t_image, .ref a_t_isKept, .int t_suitOne, .int t_suitTwo, .ref a_t_had], ai g a_t_cost 10 t_cost, az g a_t_isKept 2 t_isKept, ai g a_t_one 56 t_one, ai g a_t_read 32 t_read, ai g a_t_text 200 t_text, ai g a_t_weight 10 t_weight]
set_option maxHeartbeats 4000000 in
set_option maxRecDepth 100000 in
theorem c_Mo_land (l : Launch) (g : GE) (a_t a_t_cost a_t_isKept a_t_one a_t_read a_t_text a_t_weight a_t_likes a_t_judged a_t_met a_t_line a_t_image a_t_had : Nat) (t_points : Int32) (t_cases : Int32) (t_bytes : Int32) (t_position : Int32) (t_tokenAt : Int32) (t_token : Int64) (t_digits : Int32) (t_number : Int32) (t_row : Int32) (t_isRow : Int32) (t_faultAt : Int32) (t_readMany : Int32) (t_readPoints : Int32) (t_readCases : Int32) (t_suitOne : Int32) (t_suitTwo : Int32) (t_cost : (Nat → Int32)) (t_isKept : (Nat → Int32)) (t_one : (Nat → Int32)) (t_read : (Nat → Int32)) (t_text : (Nat → Int32)) (t_weight : (Nat → Int32)) (Q : Int32 → Int32 → Int32 → Int32 → Int32 → Int32 → Int64 → Int32 → Int32 → Int32 → Int32 → Int32 → Int32 → Int32 → Int32 → (Nat → Int32) → (Nat → Int32) → (Nat → Int32) → (Nat → Int32) → (Nat → Int32) → Prop) (h : P_Mo_land t_points t_cases t_bytes t_position t_tokenAt t_token t_digits t_number t_row t_isRow t_faultAt t_readMany t_readPoints t_readCases t_cost t_isKept t_one t_read t_text t_weight Q) : Cti l g yX10_land cX10_land 2 (some .int) rm_Mo_land [.ref a_t] (cs_Mo_land g a_t a_t_cost a_t_isKept a_t_one a_t_read a_t_text a_t_weight a_t_likes a_t_judged a_t_met a_t_line a_t_image a_t_had t_points t_cases t_bytes t_position t_tokenAt t_token t_digits t_number t_row t_isRow t_faultAt t_readMany t_readPoints t_readCases t_suitOne t_suitTwo t_cost t_isKept t_one t_read t_text t_weight) (S := Int32 × Int32 × Int32 × Int32 × Int32 × Int64 × Int32 × Int32 × Int32 × Int32 × Int32 × Int32 × Int32 × Int32 × (Nat → Int32) × (Nat → Int32) × (Nat → Int32) × (Nat → Int32) × (Nat → Int32)) (fun r u => Q r u.1 u.2.1 u.2.2.1 u.2.2.2.1 u.2.2.2.2.1 u.2.2.2.2.2.1 u.2.2.2.2.2.2.1 u.2.2.2.2.2.2.2.1 u.2.2.2.2.2.2.2.2.1 u.2.2.2.2.2.2.2.2.2.1 u.2.2.2.2.2.2.2.2.2.2.1 u.2.2.2.2.2.2.2.2.2.2.2.1 u.2.2.2.2.2.2.2.2.2.2.2.2.1 u.2.2.2.2.2.2.2.2.2.2.2.2.2.1 u.2.2.2.2.2.2.2.2.2.2.2.2.2.2.1 u.2.2.2.2.2.2.2.2.2.2.2.2.2.2.2.1 u.2.2.2.2.2.2.2.2.2.2.2.2.2.2.2.2.1 u.2.2.2.2.2.2.2.2.2.2.2.2.2.2.2.2.2.1 u.2.2.2.2.2.2.2.2.2.2.2.2.2.2.2.2.2.2) (fun u => (cs_Mo_land g a_t a_t_cost a_t_isKept a_t_one a_t_read a_t_text a_t_weight a_t_likes a_t_judged a_t_met a_t_line a_t_image a_t_had (u.1) (u.2.1) (u.2.2.1) (u.2.2.2.1) (u.2.2.2.2.1) (u.2.2.2.2.2.1) (u.2.2.2.2.2.2.1) (u.2.2.2.2.2.2.2.1) (u.2.2.2.2.2.2.2.2.1) (u.2.2.2.2.2.2.2.2.2.1) (u.2.2.2.2.2.2.2.2.2.2.1) (u.2.2.2.2.2.2.2.2.2.2.2.1) (u.2.2.2.2.2.2.2.2.2.2.2.2.1) (u.2.2.2.2.2.2.2.2.2.2.2.2.2.1) t_suitOne t_suitTwo (u.2.2.2.2.2.2.2.2.2.2.2.2.2.2.1) (u.2.2.2.2.2.2.2.2.2.2.2.2.2.2.2.1) (u.2.2.2.2.2.2.2.2.2.2.2.2.2.2.2.2.1) (u.2.2.2.2.2.2.2.2.2.2.2.2.2.2.2.2.2.1) t_text (u.2.2.2.2.2.2.2.2.2.2.2.2.2.2.2.2.2.2))) := by
  refine meetI rfl (Nat.le_of_ble_eq_true rfl) ⟨rfl, rfl⟩ ?_
  intro p e s m args below meth c A Qf ls C hret hw hl
  have hx := C.1
  have hb := C.2.1
  have hown := C.2.2.2.1
  have hts := C.2.2.2.2.1
  have hE := C.2.2.2.2.2.1
  have hl : lv_has ls 2 [(0, .ref a_t)] := hl
  have hL_Mo_land_12 : ∀ (n : Nat) (x1 : Int32) (t_points : Int32) (t_cases : Int32) (t_bytes : Int32) (t_position : Int32) (t_tokenAt : Int32) (t_token : Int64) (t_digits : Int32) (t_number : Int32) (t_row : Int32) (t_isRow : Int32) (t_faultAt : Int32) (t_readMany : Int32) (t_readPoints : Int32) (t_readCases : Int32) (t_cost : (Nat → Int32)) (t_isKept : (Nat → Int32)) (t_one : (Nat → Int32)) (t_read : (Nat → Int32)) (t_weight : (Nat → Int32)), L_Mo_land_12 t_text Q n x1 t_points t_cases t_bytes t_position t_tokenAt t_token t_digits t_number t_row t_isRow t_faultAt t_readMany t_readPoints t_readCases t_cost t_isKept t_one t_read t_weight → Wat p l e rm_Mo_land s m args below meth c A Qf g 2 (cs_Mo_land g a_t a_t_cost a_t_isKept a_t_one a_t_read a_t_text a_t_weight a_t_likes a_t_judged a_t_met a_t_line a_t_image a_t_had t_points t_cases t_bytes t_position t_tokenAt t_token t_digits t_number t_row t_isRow t_faultAt t_readMany t_readPoints t_readCases t_suitOne t_suitTwo t_cost t_isKept t_one t_read t_text t_weight) [(0, .ref a_t), (1, .int x1)] 12 [] := by
    intro n
    induction n with
    | zero => intro x1 t_points t_cases t_bytes t_position t_tokenAt t_token t_digits t_number t_row t_isRow t_faultAt t_readMany t_readPoints t_readCases t_cost t_isKept t_one t_read t_weight h; exact absurd h id
    | succ n ih =>
      intro x1 t_points t_cases t_bytes t_position t_tokenAt t_token t_digits t_number t_row t_isRow t_faultAt t_readMany t_readPoints t_readCases t_cost t_isKept t_one t_read t_weight h H locs ls hw hl
      rw [L_Mo_land_12] at h
      refine lv_iload_n hx hb dX10_land_12 rfl (lv_at hl 1 rfl) ?_
      refine lv_aload_n hx hb dX10_land_13 rfl (lv_at hl 0 rfl) ?_
      refine G_RX10_149 C hw 0 rfl dX10_land_14 ?_
      refine lv_icmp_ge (tgt := 33) hx hb dX10_land_17 (by decide) (fun c_17 => ?_) (fun c_17 => ?_)
      · have h := h.1 c_17
        refine lv_aload_n hx hb dX10_land_33 rfl (lv_at hl 0 rfl) ?_
        refine lv_iconst (v := 0) hx hb dX10_land_34 (by decide) ?_
        refine U_RX10_65 (ws2 := (cs_Mo_land g a_t a_t_cost a_t_isKept a_t_one a_t_read a_t_text a_t_weight a_t_likes a_t_judged a_t_met a_t_line a_t_image a_t_had t_points t_cases 0 t_position t_tokenAt t_token t_digits t_number t_row t_isRow t_faultAt t_readMany t_readPoints t_readCases t_suitOne t_suitTwo t_cost t_isKept t_one t_read t_text t_weight)) C hw 0 rfl rfl rfl rfl dX10_land_35 (fun H locs hw => ?_)
        refine lv_aload_n hx hb dX10_land_38 rfl (lv_at hl 0 rfl) ?_
        refine G_RX10_44 C hw 0 rfl dX10_land_39 ?_
        refine lv_iconst (v := 0) hx hb dX10_land_42 (by decide) ?_
        refine lv_iconst (v := 0) hx hb dX10_land_43 (by decide) ?_
        refine astZ (ws2 := (cs_Mo_land g a_t a_t_cost a_t_isKept a_t_one a_t_read a_t_text a_t_weight a_t_likes a_t_judged a_t_met a_t_line a_t_image a_t_had t_points t_cases 0 t_position t_tokenAt t_token t_digits t_number t_row t_isRow t_faultAt t_readMany t_readPoints t_readCases t_suitOne t_suitTwo t_cost (upd t_isKept (0 : Int32).toNatClampNeg (vp_nar .boolean 0)) t_one t_read t_text t_weight)) C hw 2 rfl h.1 rfl dX10_land_44 (fun H locs hw => ?_)
        have h := h.2
        refine lv_aload_n hx hb dX10_land_45 rfl (lv_at hl 0 rfl) ?_
        refine G_RX10_44 C hw 0 rfl dX10_land_46 ?_
        refine lv_iconst (v := 1) hx hb dX10_land_49 (by decide) ?_
        refine lv_iconst (v := 0) hx hb dX10_land_50 (by decide) ?_
        refine astZ (ws2 := (cs_Mo_land g a_t a_t_cost a_t_isKept a_t_one a_t_read a_t_text a_t_weight a_t_likes a_t_judged a_t_met a_t_line a_t_image a_t_had t_points t_cases 0 t_position t_tokenAt t_token t_digits t_number t_row t_isRow t_faultAt t_readMany t_readPoints t_readCases t_suitOne t_suitTwo t_cost (upd (upd t_isKept (0 : Int32).toNatClampNeg (vp_nar .boolean 0)) (1 : Int32).toNatClampNeg (vp_nar .boolean 0)) t_one t_read t_text t_weight)) C hw 2 rfl h.1 rfl dX10_land_51 (fun H locs hw => ?_)
        have h := h.2
        refine lv_aload_n hx hb dX10_land_52 rfl (lv_at hl 0 rfl) ?_
        refine G_RX10_149 C hw 0 rfl dX10_land_53 ?_
        exact hret (t_points, t_cases, 0, t_position, t_tokenAt, t_token, t_digits, t_number, t_row, t_isRow, t_faultAt, t_readMany, t_readPoints, t_readCases, t_cost, upd (upd t_isKept (0 : Int32).toNatClampNeg (vp_nar .boolean 0)) (1 : Int32).toNatClampNeg (vp_nar .boolean 0), t_one, t_read, t_weight) h hw dX10_land_56 rfl
      · have h := h.2 c_17
        refine lv_aload_n hx hb dX10_land_20 rfl (lv_at hl 0 rfl) ?_
        refine lv_iconst (v := 4) hx hb dX10_land_21 (by decide) ?_
        refine lv_iload_n hx hb dX10_land_22 rfl (lv_at hl 1 rfl) ?_
        refine lv_imul hx hb dX10_land_23 ?_
        refine callVv (As := [.int (4 * x1)]) (rest := []) (W2 := fun u => (cs_Mo_land g a_t a_t_cost a_t_isKept a_t_one a_t_read a_t_text a_t_weight a_t_likes a_t_judged a_t_met a_t_line a_t_image a_t_had (u.1) (u.2.1) t_bytes t_position t_tokenAt t_token t_digits t_number t_row t_isRow t_faultAt t_readMany t_readPoints t_readCases t_suitOne t_suitTwo (u.2.2.1) t_isKept (u.2.2.2.1) t_read t_text (u.2.2.2.2))) C hw hl (c_Mo_doLine l g a_t a_t_cost a_t_one a_t_read a_t_weight a_t_text a_t_likes a_t_judged a_t_met a_t_line a_t_image a_t_isKept a_t_had t_points t_cases t_bytes t_position t_tokenAt t_token t_digits t_number t_row t_isRow t_faultAt t_readMany t_readPoints t_readCases t_suitOne t_suitTwo t_cost t_one t_read t_weight (4 * x1) _ h) tw_1063 kk_X10_doLine rfl ⟨rfl, rfl⟩ ⟨by decide, by decide⟩ (Nat.le_of_ble_eq_true rfl) 0 rfl rfl rfl [0, 1, 3, 4, 6] [2, 5] [2, 3, 0, 4, 5, 1, 6] rfl rfl rfl rfl rfl rfl (fun u => rfl) rfl dX10_land_24 (fun u H locs h hw => ?_)
        obtain ⟨t_points_1, t_cases_2, t_cost_3, t_one_4, t_weight_5⟩ := u
        have hw : Wd g A s (cs_Mo_land g a_t a_t_cost a_t_isKept a_t_one a_t_read a_t_text a_t_weight a_t_likes a_t_judged a_t_met a_t_line a_t_image a_t_had t_points_1 t_cases_2 t_bytes t_position t_tokenAt t_token t_digits t_number t_row t_isRow t_faultAt t_readMany t_readPoints t_readCases t_suitOne t_suitTwo t_cost_3 t_isKept t_one_4 t_read t_text t_weight_5) H locs := hw
        refine lv_iinc (v := x1 + 1) (lv' := [(1, .int (x1 + 1)), (0, .ref a_t)]) hx hb dX10_land_27 hl (k := 1) rfl rfl (by decide) rfl (fun ls hl => ?_)
        refine lv_goto (tgt := 12) hx hb dX10_land_30 (by decide) ?_
        exact ih (x1 + 1) t_points_1 t_cases_2 t_bytes t_position t_tokenAt t_token t_digits t_number t_row t_isRow t_faultAt t_readMany t_readPoints t_readCases t_cost_3 t_isKept t_one_4 t_read t_weight_5 h _ _ _ hw (lv_sub hl [1, 0] rfl)
  refine lv_aload_n hx hb dX10_land_0 rfl (lv_at hl 0 rfl) ?_
  refine callVi (As := []) (rest := []) (W2 := fun u => (cs_Mo_land g a_t a_t_cost a_t_isKept a_t_one a_t_read a_t_text a_t_weight a_t_likes a_t_judged a_t_met a_t_line a_t_image a_t_had t_points t_cases t_bytes (u.1) (u.2.1) (u.2.2.1) (u.2.2.2.1) (u.2.2.2.2.1) (u.2.2.2.2.2.1) (u.2.2.2.2.2.2.1) (u.2.2.2.2.2.2.2.1) (u.2.2.2.2.2.2.2.2.1) (u.2.2.2.2.2.2.2.2.2.1) (u.2.2.2.2.2.2.2.2.2.2.1) t_suitOne t_suitTwo t_cost t_isKept t_one (u.2.2.2.2.2.2.2.2.2.2.2) t_text t_weight)) C hw hl (c_Mo_isRead l g a_t a_t_read a_t_text a_t_weight a_t_cost a_t_one a_t_likes a_t_judged a_t_met a_t_line a_t_image a_t_isKept a_t_had t_points t_cases t_bytes t_position t_tokenAt t_token t_digits t_number t_row t_isRow t_faultAt t_readMany t_readPoints t_readCases t_suitOne t_suitTwo t_read t_text _ h) tw_1011 kk_X10_isRead rfl ⟨rfl, rfl⟩ ⟨by decide, by decide⟩ (Nat.le_of_ble_eq_true rfl) 0 rfl rfl rfl [0, 4, 5] [1, 2, 3, 6] [4, 0, 1, 2, 5, 6, 3] rfl rfl rfl rfl rfl rfl (fun u => rfl) rfl dX10_land_1 (fun r_6 u H locs h hw => ?_)
  obtain ⟨t_position_7, t_tokenAt_8, t_token_9, t_digits_10, t_number_11, t_row_12, t_isRow_13, t_faultAt_14, t_readMany_15, t_readPoints_16, t_readCases_17, t_read_18⟩ := u
  have hw : Wd g A s (cs_Mo_land g a_t a_t_cost a_t_isKept a_t_one a_t_read a_t_text a_t_weight a_t_likes a_t_judged a_t_met a_t_line a_t_image a_t_had t_points t_cases t_bytes t_position_7 t_tokenAt_8 t_token_9 t_digits_10 t_number_11 t_row_12 t_isRow_13 t_faultAt_14 t_readMany_15 t_readPoints_16 t_readCases_17 t_suitOne t_suitTwo t_cost t_isKept t_one t_read_18 t_text t_weight) H locs := hw
  refine lv_if_ne (tgt := 10) hx hb dX10_land_4 (by decide) (fun c_4 => ?_) (fun c_4 => ?_)
  · have h := h.1 c_4
    refine lv_iconst (v := 0) hx hb dX10_land_10 (by decide) ?_
    refine lv_istore_n (lv' := [(1, .int 0), (0, .ref a_t)]) hx hb dX10_land_11 rfl hl (by decide) rfl (fun ls hl => ?_)
    obtain ⟨n_12, h⟩ := h
    exact hL_Mo_land_12 n_12 0 t_points t_cases t_bytes t_position_7 t_tokenAt_8 t_token_9 t_digits_10 t_number_11 t_row_12 t_isRow_13 t_faultAt_14 t_readMany_15 t_readPoints_16 t_readCases_17 t_cost t_isKept t_one t_read_18 t_weight h _ _ _ hw (lv_sub hl [1, 0] rfl)
  · have h := h.2 c_4
    refine lv_bipush (v := (-4)) hx hb dX10_land_7 (by decide) ?_
    exact hret (t_points, t_cases, t_bytes, t_position_7, t_tokenAt_8, t_token_9, t_digits_10, t_number_11, t_row_12, t_isRow_13, t_faultAt_14, t_readMany_15, t_readPoints_16, t_readCases_17, t_cost, t_isKept, t_one, t_read_18, t_weight) h hw dX10_land_9 rfl
def P_Mo_isCase (x1 : Int32) (t_cases : Int32) (Q : Int32 → Prop) : Prop := P_Mo_in x1 0 (t_cases - 1) (fun r_1 => narrow .boolean (.int r_1) = .int r_1 ∧ Q r_1 )
abbrev rm_Mo_isCase : Room := { frames := 1, cells := 0, slots := 0, locals := 22 }
def cs_Mo_isCase (g : GE) (a_t a_t_weight a_t_cost a_t_one a_t_text a_t_read a_t_likes a_t_judged a_t_met a_t_line a_t_image a_t_isKept a_t_had : Nat) (t_points : Int32) (t_cases : Int32) (t_bytes : Int32) (t_position : Int32) (t_tokenAt : Int32) (t_token : Int64) (t_digits : Int32) (t_number : Int32) (t_row : Int32) (t_isRow : Int32) (t_faultAt : Int32) (t_readMany : Int32) (t_readPoints : Int32) (t_readCases : Int32) (t_suitOne : Int32) (t_suitTwo : Int32) : va_W := [oc a_t 10 [.int t_points, .ref a_t_weight, .ref a_t_cost, .int t_cases, .ref a_t_one, .int t_bytes, .ref a_t_text, .int t_position, .int t_tokenAt, .long t_token, .int t_digits, .int t_number, .int t_row, .int t_isRow, .int t_faultAt, .int t_readMany, .int t_readPoints, .int t_readCases, .ref a_t_read, .ref a_t_likes, .ref a_t_judged, .ref a_t_met, .ref a_t_line, .ref a_t_image, .ref a_t_isKept, .int t_suitOne, .int t_suitTwo, .ref a_t_had]]
set_option maxHeartbeats 4000000 in
set_option maxRecDepth 100000 in
theorem c_Mo_isCase (l : Launch) (g : GE) (a_t a_t_weight a_t_cost a_t_one a_t_text a_t_read a_t_likes a_t_judged a_t_met a_t_line a_t_image a_t_isKept a_t_had : Nat) (t_points : Int32) (t_cases : Int32) (t_bytes : Int32) (t_position : Int32) (t_tokenAt : Int32) (t_token : Int64) (t_digits : Int32) (t_number : Int32) (t_row : Int32) (t_isRow : Int32) (t_faultAt : Int32) (t_readMany : Int32) (t_readPoints : Int32) (t_readCases : Int32) (t_suitOne : Int32) (t_suitTwo : Int32) (x1 : Int32) (Q : Int32 → Prop) (h : P_Mo_isCase x1 t_cases Q) : Cti l g yX10_isCase cX10_isCase 2 (some .boolean) rm_Mo_isCase [.ref a_t, .int x1] (cs_Mo_isCase g a_t a_t_weight a_t_cost a_t_one a_t_text a_t_read a_t_likes a_t_judged a_t_met a_t_line a_t_image a_t_isKept a_t_had t_points t_cases t_bytes t_position t_tokenAt t_token t_digits t_number t_row t_isRow t_faultAt t_readMany t_readPoints t_readCases t_suitOne t_suitTwo) (S := Unit) (fun r u => Q r) (fun _ => (cs_Mo_isCase g a_t a_t_weight a_t_cost a_t_one a_t_text a_t_read a_t_likes a_t_judged a_t_met a_t_line a_t_image a_t_isKept a_t_had t_points t_cases t_bytes t_position t_tokenAt t_token t_digits t_number t_row t_isRow t_faultAt t_readMany t_readPoints t_readCases t_suitOne t_suitTwo)) := by
  refine meetI rfl (Nat.le_of_ble_eq_true rfl) ⟨rfl, rfl⟩ ?_
  intro p e s m args below meth c A Qf ls C hret hw hl
  have hx := C.1
  have hb := C.2.1
  have hown := C.2.2.2.1
  have hts := C.2.2.2.2.1
  have hE := C.2.2.2.2.2.1
  have hl : lv_has ls 2 [(0, .ref a_t), (1, .int x1)] := hl
  refine lv_iload_n hx hb dX10_isCase_0 rfl (lv_at hl 1 rfl) ?_
  refine lv_iconst (v := 0) hx hb dX10_isCase_1 (by decide) ?_
  refine lv_aload_n hx hb dX10_isCase_2 rfl (lv_at hl 0 rfl) ?_
  refine G_RX10_54 C hw 0 rfl dX10_isCase_3 ?_
  refine lv_iconst (v := 1) hx hb dX10_isCase_6 (by decide) ?_
  refine lv_isub hx hb dX10_isCase_7 ?_
  refine callSi (As := [.int x1, .int 0, .int (t_cases - 1)]) (rest := []) C hw hl (c_Mo_in l g x1 0 (t_cases - 1) _ h) tw_999 kk_X10_in rfl ⟨rfl, rfl⟩ ⟨by decide, by decide⟩ (Nat.le_of_ble_eq_true rfl) rfl dX10_isCase_8 (fun r_1 u H locs h hw => ?_)
  exact hret () h.2 hw dX10_isCase_11 h.1
def P_Mo_deedMany (t_points : Int32) (Q : Int32 → Prop) : Prop := Q (1 <<< (t_points &&& 31))
abbrev rm_Mo_deedMany : Room := { frames := 0, cells := 0, slots := 0, locals := 0 }
def cs_Mo_deedMany (g : GE) (a_t a_t_weight a_t_cost a_t_one a_t_text a_t_read a_t_likes a_t_judged a_t_met a_t_line a_t_image a_t_isKept a_t_had : Nat) (t_points : Int32) (t_cases : Int32) (t_bytes : Int32) (t_position : Int32) (t_tokenAt : Int32) (t_token : Int64) (t_digits : Int32) (t_number : Int32) (t_row : Int32) (t_isRow : Int32) (t_faultAt : Int32) (t_readMany : Int32) (t_readPoints : Int32) (t_readCases : Int32) (t_suitOne : Int32) (t_suitTwo : Int32) : va_W := [oc a_t 10 [.int t_points, .ref a_t_weight, .ref a_t_cost, .int t_cases, .ref a_t_one, .int t_bytes, .ref a_t_text, .int t_position, .int t_tokenAt, .long t_token, .int t_digits, .int t_number, .int t_row, .int t_isRow, .int t_faultAt, .int t_readMany, .int t_readPoints, .int t_readCases, .ref a_t_read, .ref a_t_likes, .ref a_t_judged, .ref a_t_met, .ref a_t_line, .ref a_t_image, .ref a_t_isKept, .int t_suitOne, .int t_suitTwo, .ref a_t_had]]
set_option maxHeartbeats 4000000 in
set_option maxRecDepth 100000 in
theorem c_Mo_deedMany (l : Launch) (g : GE) (a_t a_t_weight a_t_cost a_t_one a_t_text a_t_read a_t_likes a_t_judged a_t_met a_t_line a_t_image a_t_isKept a_t_had : Nat) (t_points : Int32) (t_cases : Int32) (t_bytes : Int32) (t_position : Int32) (t_tokenAt : Int32) (t_token : Int64) (t_digits : Int32) (t_number : Int32) (t_row : Int32) (t_isRow : Int32) (t_faultAt : Int32) (t_readMany : Int32) (t_readPoints : Int32) (t_readCases : Int32) (t_suitOne : Int32) (t_suitTwo : Int32) (Q : Int32 → Prop) (h : P_Mo_deedMany t_points Q) : Cti l g yX10_deedMany cX10_deedMany 1 (some .int) rm_Mo_deedMany [.ref a_t] (cs_Mo_deedMany g a_t a_t_weight a_t_cost a_t_one a_t_text a_t_read a_t_likes a_t_judged a_t_met a_t_line a_t_image a_t_isKept a_t_had t_points t_cases t_bytes t_position t_tokenAt t_token t_digits t_number t_row t_isRow t_faultAt t_readMany t_readPoints t_readCases t_suitOne t_suitTwo) (S := Unit) (fun r u => Q r) (fun _ => (cs_Mo_deedMany g a_t a_t_weight a_t_cost a_t_one a_t_text a_t_read a_t_likes a_t_judged a_t_met a_t_line a_t_image a_t_isKept a_t_had t_points t_cases t_bytes t_position t_tokenAt t_token t_digits t_number t_row t_isRow t_faultAt t_readMany t_readPoints t_readCases t_suitOne t_suitTwo)) := by
  refine meetI rfl (Nat.le_of_ble_eq_true rfl) ⟨rfl, rfl⟩ ?_
  intro p e s m args below meth c A Qf ls C hret hw hl
  have hx := C.1
  have hb := C.2.1
  have hown := C.2.2.2.1
  have hts := C.2.2.2.2.1
  have hE := C.2.2.2.2.2.1
  have hl : lv_has ls 1 [(0, .ref a_t)] := hl
  refine lv_iconst (v := 1) hx hb dX10_deedMany_0 (by decide) ?_
  refine lv_aload_n hx hb dX10_deedMany_1 rfl (lv_at hl 0 rfl) ?_
  refine G_RX10_7 C hw 0 rfl dX10_deedMany_2 ?_
  refine lv_ishl hx hb dX10_deedMany_5 ?_
  exact hret () h hw dX10_deedMany_6 rfl
def P_Mo_isDeed (x1 : Int32) (t_points : Int32) (Q : Int32 → Prop) : Prop := P_Mo_deedMany t_points (fun r_1 => P_Mo_in x1 0 (r_1 - 1) (fun r_2 => narrow .boolean (.int r_2) = .int r_2 ∧ Q r_2 ))
abbrev rm_Mo_isDeed : Room := { frames := 1, cells := 0, slots := 0, locals := 22 }
def cs_Mo_isDeed (g : GE) (a_t a_t_weight a_t_cost a_t_one a_t_text a_t_read a_t_likes a_t_judged a_t_met a_t_line a_t_image a_t_isKept a_t_had : Nat) (t_points : Int32) (t_cases : Int32) (t_bytes : Int32) (t_position : Int32) (t_tokenAt : Int32) (t_token : Int64) (t_digits : Int32) (t_number : Int32) (t_row : Int32) (t_isRow : Int32) (t_faultAt : Int32) (t_readMany : Int32) (t_readPoints : Int32) (t_readCases : Int32) (t_suitOne : Int32) (t_suitTwo : Int32) : va_W := [oc a_t 10 [.int t_points, .ref a_t_weight, .ref a_t_cost, .int t_cases, .ref a_t_one, .int t_bytes, .ref a_t_text, .int t_position, .int t_tokenAt, .long t_token, .int t_digits, .int t_number, .int t_row, .int t_isRow, .int t_faultAt, .int t_readMany, .int t_readPoints, .int t_readCases, .ref a_t_read, .ref a_t_likes, .ref a_t_judged, .ref a_t_met, .ref a_t_line, .ref a_t_image, .ref a_t_isKept, .int t_suitOne, .int t_suitTwo, .ref a_t_had]]
set_option maxHeartbeats 4000000 in
set_option maxRecDepth 100000 in
theorem c_Mo_isDeed (l : Launch) (g : GE) (a_t a_t_weight a_t_cost a_t_one a_t_text a_t_read a_t_likes a_t_judged a_t_met a_t_line a_t_image a_t_isKept a_t_had : Nat) (t_points : Int32) (t_cases : Int32) (t_bytes : Int32) (t_position : Int32) (t_tokenAt : Int32) (t_token : Int64) (t_digits : Int32) (t_number : Int32) (t_row : Int32) (t_isRow : Int32) (t_faultAt : Int32) (t_readMany : Int32) (t_readPoints : Int32) (t_readCases : Int32) (t_suitOne : Int32) (t_suitTwo : Int32) (x1 : Int32) (Q : Int32 → Prop) (h : P_Mo_isDeed x1 t_points Q) : Cti l g yX10_isDeed cX10_isDeed 2 (some .boolean) rm_Mo_isDeed [.ref a_t, .int x1] (cs_Mo_isDeed g a_t a_t_weight a_t_cost a_t_one a_t_text a_t_read a_t_likes a_t_judged a_t_met a_t_line a_t_image a_t_isKept a_t_had t_points t_cases t_bytes t_position t_tokenAt t_token t_digits t_number t_row t_isRow t_faultAt t_readMany t_readPoints t_readCases t_suitOne t_suitTwo) (S := Unit) (fun r u => Q r) (fun _ => (cs_Mo_isDeed g a_t a_t_weight a_t_cost a_t_one a_t_text a_t_read a_t_likes a_t_judged a_t_met a_t_line a_t_image a_t_isKept a_t_had t_points t_cases t_bytes t_position t_tokenAt t_token t_digits t_number t_row t_isRow t_faultAt t_readMany t_readPoints t_readCases t_suitOne t_suitTwo)) := by
  refine meetI rfl (Nat.le_of_ble_eq_true rfl) ⟨rfl, rfl⟩ ?_
  intro p e s m args below meth c A Qf ls C hret hw hl
  have hx := C.1
  have hb := C.2.1
  have hown := C.2.2.2.1
  have hts := C.2.2.2.2.1
  have hE := C.2.2.2.2.2.1
  have hl : lv_has ls 2 [(0, .ref a_t), (1, .int x1)] := hl
  refine lv_iload_n hx hb dX10_isDeed_0 rfl (lv_at hl 1 rfl) ?_
  refine lv_iconst (v := 0) hx hb dX10_isDeed_1 (by decide) ?_
  refine lv_aload_n hx hb dX10_isDeed_2 rfl (lv_at hl 0 rfl) ?_
  refine callVi (As := []) (rest := [.int 0, .int x1]) (W2 := fun _ => (cs_Mo_isDeed g a_t a_t_weight a_t_cost a_t_one a_t_text a_t_read a_t_likes a_t_judged a_t_met a_t_line a_t_image a_t_isKept a_t_had t_points t_cases t_bytes t_position t_tokenAt t_token t_digits t_number t_row t_isRow t_faultAt t_readMany t_readPoints t_readCases t_suitOne t_suitTwo)) C hw hl (c_Mo_deedMany l g a_t a_t_weight a_t_cost a_t_one a_t_text a_t_read a_t_likes a_t_judged a_t_met a_t_line a_t_image a_t_isKept a_t_had t_points t_cases t_bytes t_position t_tokenAt t_token t_digits t_number t_row t_isRow t_faultAt t_readMany t_readPoints t_readCases t_suitOne t_suitTwo _ h) tw_1099 kk_X10_deedMany rfl ⟨rfl, rfl⟩ ⟨by decide, by decide⟩ (Nat.le_of_ble_eq_true rfl) 0 rfl rfl rfl [0] [] [0] rfl rfl rfl rfl rfl rfl (fun u => rfl) rfl dX10_isDeed_3 (fun r_1 u H locs h hw => ?_)
  refine lv_iconst (v := 1) hx hb dX10_isDeed_6 (by decide) ?_
  refine lv_isub hx hb dX10_isDeed_7 ?_
  refine callSi (As := [.int x1, .int 0, .int (r_1 - 1)]) (rest := []) C hw hl (c_Mo_in l g x1 0 (r_1 - 1) _ h) tw_999 kk_X10_in rfl ⟨rfl, rfl⟩ ⟨by decide, by decide⟩ (Nat.le_of_ble_eq_true rfl) rfl dX10_isDeed_8 (fun r_2 u H locs h hw => ?_)
  exact hret () h.2 hw dX10_isDeed_11 h.1
def B_Mo_has_14 (x0 : Int32) (x1 : Int32) (Q : Int32 → Prop) (k0 : Int32) : Prop := narrow .boolean (.int k0) = .int k0 ∧ Q k0 
def P_Mo_has (x0 : Int32) (x1 : Int32) (Q : Int32 → Prop) : Prop := (¬ ((x0 >>> (x1 &&& 31)) &&& 1) = 1 → B_Mo_has_14 x0 x1 Q 0) ∧ (((x0 >>> (x1 &&& 31)) &&& 1) = 1 → B_Mo_has_14 x0 x1 Q 1)
abbrev rm_Mo_has : Room := { frames := 0, cells := 0, slots := 0, locals := 0 }
set_option maxHeartbeats 4000000 in
set_option maxRecDepth 100000 in
theorem c_Mo_has (l : Launch) (g : GE) (x0 : Int32) (x1 : Int32) (Q : Int32 → Prop) (h : P_Mo_has x0 x1 Q) : Cti l g yX10_has cX10_has 2 (some .boolean) rm_Mo_has [.int x0, .int x1] [] (S := Unit) (fun r u => Q r) (fun _ => []) := by
  refine meetI rfl (Nat.le_of_ble_eq_true rfl) ⟨rfl, rfl⟩ ?_
  intro p e s m args below meth c A Qf ls C hret hw hl
  have hx := C.1
  have hb := C.2.1
  have hown := C.2.2.2.1
  have hts := C.2.2.2.2.1
  have hE := C.2.2.2.2.2.1
  have hl : lv_has ls 2 [(0, .int x0), (1, .int x1)] := hl
  have hB_Mo_has_14 : ∀ (k0 : Int32), B_Mo_has_14 x0 x1 Q k0 → Wat p l e rm_Mo_has s m args below meth c A Qf g 2 [] [] 14 [.int k0] := by
    intro k0 h H locs ls hw hl
    exact hret () h.2 hw dX10_has_14 h.1
  refine lv_iload_n hx hb dX10_has_0 rfl (lv_at hl 0 rfl) ?_
  refine lv_iload_n hx hb dX10_has_1 rfl (lv_at hl 1 rfl) ?_
  refine lv_ishr hx hb dX10_has_2 ?_
  refine lv_iconst (v := 1) hx hb dX10_has_3 (by decide) ?_
  refine lv_iand hx hb dX10_has_4 ?_
  refine lv_iconst (v := 1) hx hb dX10_has_5 (by decide) ?_
  refine lv_icmp_ne (tgt := 13) hx hb dX10_has_6 (by decide) (fun c_6 => ?_) (fun c_6 => ?_)
  · have h := h.1 c_6
    refine lv_iconst (v := 0) hx hb dX10_has_13 (by decide) ?_
    exact hB_Mo_has_14 0 h _ _ _ hw (lv_sub hl [] rfl)
  · have h := h.2 c_6
    refine lv_iconst (v := 1) hx hb dX10_has_9 (by decide) ?_
    refine lv_goto (tgt := 14) hx hb dX10_has_10 (by decide) ?_
    exact hB_Mo_has_14 1 h _ _ _ hw (lv_sub hl [] rfl)
def L_Mo_bits_4 (x0 : Int32) (Q : Int32 → Prop) : Nat → Int32 → Int32 → Prop
  | 0 => fun _ _ => False
  | n + 1 => fun x1 x2 => (14 ≤ x2 → Q x1) ∧ (¬ 14 ≤ x2 → ∀ x1_1 : Int32, x1_1 = (x1 + ((x0 >>> (x2 &&& 31)) &&& 1)) → (L_Mo_bits_4 x0 Q n) x1_1 (x2 + 1))
def P_Mo_bits (x0 : Int32) (Q : Int32 → Prop) : Prop := ∃ n_4 : Nat, L_Mo_bits_4 x0 Q n_4 0 0
abbrev rm_Mo_bits : Room := { frames := 0, cells := 0, slots := 0, locals := 0 }
set_option maxHeartbeats 4000000 in
set_option maxRecDepth 100000 in
theorem c_Mo_bits (l : Launch) (g : GE) (x0 : Int32) (Q : Int32 → Prop) (h : P_Mo_bits x0 Q) : Cti l g yX10_bits cX10_bits 3 (some .int) rm_Mo_bits [.int x0] [] (S := Unit) (fun r u => Q r) (fun _ => []) := by
  refine meetI rfl (Nat.le_of_ble_eq_true rfl) ⟨rfl, rfl⟩ ?_
  intro p e s m args below meth c A Qf ls C hret hw hl
  have hx := C.1
  have hb := C.2.1
  have hown := C.2.2.2.1
  have hts := C.2.2.2.2.1
  have hE := C.2.2.2.2.2.1
  have hl : lv_has ls 3 [(0, .int x0)] := hl
  have hL_Mo_bits_4 : ∀ (n : Nat) (x1 : Int32) (x2 : Int32), L_Mo_bits_4 x0 Q n x1 x2 → Wat p l e rm_Mo_bits s m args below meth c A Qf g 3 [] [(0, .int x0), (1, .int x1), (2, .int x2)] 4 [] := by
    intro n
    induction n with
    | zero => intro x1 x2 h; exact absurd h id
    | succ n ih =>
      intro x1 x2 h H locs ls hw hl
      rw [L_Mo_bits_4] at h
      refine lv_iload_n hx hb dX10_bits_4 rfl (lv_at hl 2 rfl) ?_
      refine lv_bipush (v := 14) hx hb dX10_bits_5 (by decide) ?_
      refine lv_icmp_ge (tgt := 24) hx hb dX10_bits_7 (by decide) (fun c_7 => ?_) (fun c_7 => ?_)
      · have h := h.1 c_7
        refine lv_iload_n hx hb dX10_bits_24 rfl (lv_at hl 1 rfl) ?_
        exact hret () h hw dX10_bits_25 rfl
      · have h := h.2 c_7
        refine lv_iload_n hx hb dX10_bits_10 rfl (lv_at hl 1 rfl) ?_
        refine lv_iload_n hx hb dX10_bits_11 rfl (lv_at hl 0 rfl) ?_
        refine lv_iload_n hx hb dX10_bits_12 rfl (lv_at hl 2 rfl) ?_
        refine lv_ishr hx hb dX10_bits_13 ?_
        refine lv_iconst (v := 1) hx hb dX10_bits_14 (by decide) ?_
        refine lv_iand hx hb dX10_bits_15 ?_
        refine lv_iadd hx hb dX10_bits_16 ?_
        refine lv_topi (fun x1_1 ex1_1 => ?_)
        have h := h x1_1 ex1_1
        refine lv_istore_n (lv' := [(1, .int x1_1), (0, .int x0), (2, .int x2)]) hx hb dX10_bits_17 rfl hl (by decide) rfl (fun ls hl => ?_)
        refine lv_iinc (v := x2 + 1) (lv' := [(2, .int (x2 + 1)), (1, .int x1_1), (0, .int x0)]) hx hb dX10_bits_18 hl (k := 2) rfl rfl (by decide) rfl (fun ls hl => ?_)
        refine lv_goto (tgt := 4) hx hb dX10_bits_21 (by decide) ?_
        exact ih x1_1 (x2 + 1) h _ _ _ hw (lv_sub hl [2, 1, 0] rfl)
  refine lv_iconst (v := 0) hx hb dX10_bits_0 (by decide) ?_
  refine lv_istore_n (lv' := [(1, .int 0), (0, .int x0)]) hx hb dX10_bits_1 rfl hl (by decide) rfl (fun ls hl => ?_)
  refine lv_iconst (v := 0) hx hb dX10_bits_2 (by decide) ?_
  refine lv_istore_n (lv' := [(2, .int 0), (1, .int 0), (0, .int x0)]) hx hb dX10_bits_3 rfl hl (by decide) rfl (fun ls hl => ?_)
  obtain ⟨n_4, h⟩ := h
  exact hL_Mo_bits_4 n_4 0 0 h _ _ _ hw (lv_sub hl [2, 1, 0] rfl)
def L_Mo_write_31 (x1 : Int64) (x3 : Int32) (Q : Int32 → Int32 → (Nat → Int32) → Prop) : Nat → Int32 → Int32 → (Nat → Int32) → Prop
  | 0 => fun _ _ _ => False
  | n + 1 => fun x4 t_bytes t_text => (x3 ≤ x4 → ∀ t_bytes_1 : Int32, t_bytes_1 = (t_bytes + x3) → Q t_bytes_1 t_bytes_1 t_text) ∧ (¬ x3 ≤ x4 → vp_in (t_bytes + x4) 200 ∧ ((L_Mo_write_31 x1 x3 Q n) (x4 + 1) t_bytes (upd t_text (t_bytes + x4).toNatClampNeg (((x1 >>> ((8 * x4).toInt64 &&& 63)) &&& 255).toInt32))))
def P_Mo_write (x1 : Int64) (x3 : Int32) (t_bytes : Int32) (t_text : (Nat → Int32)) (Q : Int32 → Int32 → (Nat → Int32) → Prop) : Prop := P_Mo_in x3 1 8 (fun r_2 => (¬ r_2 = 0 → ((t_bytes + x3) ≤ 200 → ∃ n_31 : Nat, L_Mo_write_31 x1 x3 Q n_31 0 t_bytes t_text) ∧ (¬ (t_bytes + x3) ≤ 200 → Q (-5) t_bytes t_text)) ∧ (r_2 = 0 → Q (-3) t_bytes t_text))
abbrev rm_Mo_write : Room := { frames := 1, cells := 0, slots := 0, locals := 22 }
def cs_Mo_write (g : GE) (a_t a_t_text a_t_weight a_t_cost a_t_one a_t_read a_t_likes a_t_judged a_t_met a_t_line a_t_image a_t_isKept a_t_had : Nat) (t_points : Int32) (t_cases : Int32) (t_bytes : Int32) (t_position : Int32) (t_tokenAt : Int32) (t_token : Int64) (t_digits : Int32) (t_number : Int32) (t_row : Int32) (t_isRow : Int32) (t_faultAt : Int32) (t_readMany : Int32) (t_readPoints : Int32) (t_readCases : Int32) (t_suitOne : Int32) (t_suitTwo : Int32) (t_text : (Nat → Int32)) : va_W := [oc a_t 10 [.int t_points, .ref a_t_weight, .ref a_t_cost, .int t_cases, .ref a_t_one, .int t_bytes, .ref a_t_text, .int t_position, .int t_tokenAt, .long t_token, .int t_digits, .int t_number, .int t_row, .int t_isRow, .int t_faultAt, .int t_readMany, .int t_readPoints, .int t_readCases, .ref a_t_read, .ref a_t_likes, .ref a_t_judged, .ref a_t_met, .ref a_t_line, .ref a_t_image, .ref a_t_isKept, .int t_suitOne, .int t_suitTwo, .ref a_t_had], ai g a_t_text 200 t_text]
set_option maxHeartbeats 4000000 in
set_option maxRecDepth 100000 in
theorem c_Mo_write (l : Launch) (g : GE) (a_t a_t_text a_t_weight a_t_cost a_t_one a_t_read a_t_likes a_t_judged a_t_met a_t_line a_t_image a_t_isKept a_t_had : Nat) (t_points : Int32) (t_cases : Int32) (t_bytes : Int32) (t_position : Int32) (t_tokenAt : Int32) (t_token : Int64) (t_digits : Int32) (t_number : Int32) (t_row : Int32) (t_isRow : Int32) (t_faultAt : Int32) (t_readMany : Int32) (t_readPoints : Int32) (t_readCases : Int32) (t_suitOne : Int32) (t_suitTwo : Int32) (t_text : (Nat → Int32)) (x1 : Int64) (x3 : Int32) (Q : Int32 → Int32 → (Nat → Int32) → Prop) (h : P_Mo_write x1 x3 t_bytes t_text Q) : Cti l g yX10_write cX10_write 5 (some .int) rm_Mo_write [.ref a_t, .long x1, .int x3] (cs_Mo_write g a_t a_t_text a_t_weight a_t_cost a_t_one a_t_read a_t_likes a_t_judged a_t_met a_t_line a_t_image a_t_isKept a_t_had t_points t_cases t_bytes t_position t_tokenAt t_token t_digits t_number t_row t_isRow t_faultAt t_readMany t_readPoints t_readCases t_suitOne t_suitTwo t_text) (S := Int32 × (Nat → Int32)) (fun r u => Q r u.1 u.2) (fun u => (cs_Mo_write g a_t a_t_text a_t_weight a_t_cost a_t_one a_t_read a_t_likes a_t_judged a_t_met a_t_line a_t_image a_t_isKept a_t_had t_points t_cases (u.1) t_position t_tokenAt t_token t_digits t_number t_row t_isRow t_faultAt t_readMany t_readPoints t_readCases t_suitOne t_suitTwo (u.2))) := by
  refine meetI rfl (Nat.le_of_ble_eq_true rfl) ⟨rfl, rfl⟩ ?_
  intro p e s m args below meth c A Qf ls C hret hw hl
  have hx := C.1
  have hb := C.2.1
  have hown := C.2.2.2.1
  have hts := C.2.2.2.2.1
  have hE := C.2.2.2.2.2.1
  have hl : lv_has ls 5 [(0, .ref a_t), (1, .long x1), (3, .int x3)] := hl
  have hL_Mo_write_31 : ∀ (n : Nat) (x4 : Int32) (t_bytes : Int32) (t_text : (Nat → Int32)), L_Mo_write_31 x1 x3 Q n x4 t_bytes t_text → Wat p l e rm_Mo_write s m args below meth c A Qf g 5 (cs_Mo_write g a_t a_t_text a_t_weight a_t_cost a_t_one a_t_read a_t_likes a_t_judged a_t_met a_t_line a_t_image a_t_isKept a_t_had t_points t_cases t_bytes t_position t_tokenAt t_token t_digits t_number t_row t_isRow t_faultAt t_readMany t_readPoints t_readCases t_suitOne t_suitTwo t_text) [(0, .ref a_t), (1, .long x1), (3, .int x3), (4, .int x4)] 31 [] := by
    intro n
    induction n with
    | zero => intro x4 t_bytes t_text h; exact absurd h id
    | succ n ih =>
      intro x4 t_bytes t_text h H locs ls hw hl
      rw [L_Mo_write_31] at h
      refine lv_iload hx hb dX10_write_31 (lv_at hl 3 rfl) ?_
      refine lv_iload_n hx hb dX10_write_33 rfl (lv_at hl 2 rfl) ?_
      refine lv_icmp_ge (tgt := 67) hx hb dX10_write_34 (by decide) (fun c_34 => ?_) (fun c_34 => ?_)
      · have h := h.1 c_34
        refine lv_aload_n hx hb dX10_write_67 rfl (lv_at hl 0 rfl) ?_
        refine lv_dup hx hb dX10_write_68 rfl ?_
        refine G_RX10_65 C hw 0 rfl dX10_write_69 ?_
        refine lv_iload_n hx hb dX10_write_72 rfl (lv_at hl 2 rfl) ?_
        refine lv_iadd hx hb dX10_write_73 ?_
        refine lv_topi (fun t_bytes_1 et_bytes_1 => ?_)
        have h := h t_bytes_1 et_bytes_1
        refine U_RX10_65 (ws2 := (cs_Mo_write g a_t a_t_text a_t_weight a_t_cost a_t_one a_t_read a_t_likes a_t_judged a_t_met a_t_line a_t_image a_t_isKept a_t_had t_points t_cases t_bytes_1 t_position t_tokenAt t_token t_digits t_number t_row t_isRow t_faultAt t_readMany t_readPoints t_readCases t_suitOne t_suitTwo t_text)) C hw 0 rfl rfl rfl rfl dX10_write_74 (fun H locs hw => ?_)
        refine lv_aload_n hx hb dX10_write_77 rfl (lv_at hl 0 rfl) ?_
        refine G_RX10_65 C hw 0 rfl dX10_write_78 ?_
        exact hret (t_bytes_1, t_text) h hw dX10_write_81 rfl
      · have h := h.2 c_34
        refine lv_aload_n hx hb dX10_write_37 rfl (lv_at hl 0 rfl) ?_
        refine G_RX10_23 C hw 0 rfl dX10_write_38 ?_
        refine lv_aload_n hx hb dX10_write_41 rfl (lv_at hl 0 rfl) ?_
        refine G_RX10_65 C hw 0 rfl dX10_write_42 ?_
        refine lv_iload hx hb dX10_write_45 (lv_at hl 3 rfl) ?_
        refine lv_iadd hx hb dX10_write_47 ?_
        refine lv_lload_n hx hb dX10_write_48 rfl (lv_at hl 1 rfl) ?_
        refine lv_bipush (v := 8) hx hb dX10_write_49 (by decide) ?_
        refine lv_iload hx hb dX10_write_51 (lv_at hl 3 rfl) ?_
        refine lv_imul hx hb dX10_write_53 ?_
        refine lv_lshr hx hb dX10_write_54 rfl ?_
        refine lv_ldc2 (v := 255) hx hb hown (hts _ tw_1002) dX10_write_55 ?_
        refine lv_land hx hb dX10_write_58 ?_
        refine lv_l2i hx hb dX10_write_59 rfl ?_
        refine astI (ws2 := (cs_Mo_write g a_t a_t_text a_t_weight a_t_cost a_t_one a_t_read a_t_likes a_t_judged a_t_met a_t_line a_t_image a_t_isKept a_t_had t_points t_cases t_bytes t_position t_tokenAt t_token t_digits t_number t_row t_isRow t_faultAt t_readMany t_readPoints t_readCases t_suitOne t_suitTwo (upd t_text (t_bytes + x4).toNatClampNeg (((x1 >>> ((8 * x4).toInt64 &&& 63)) &&& 255).toInt32)))) C hw 1 rfl h.1 rfl dX10_write_60 (fun H locs hw => ?_)
        have h := h.2
        refine lv_iinc (v := x4 + 1) (lv' := [(4, .int (x4 + 1)), (0, .ref a_t), (1, .long x1), (3, .int x3)]) hx hb dX10_write_61 hl (k := 3) rfl rfl (by decide) rfl (fun ls hl => ?_)
        refine lv_goto (tgt := 31) hx hb dX10_write_64 (by decide) ?_
        exact ih (x4 + 1) t_bytes (upd t_text (t_bytes + x4).toNatClampNeg (((x1 >>> ((8 * x4).toInt64 &&& 63)) &&& 255).toInt32)) h _ _ _ hw (lv_sub hl [1, 2, 3, 0] rfl)
  refine lv_iload_n hx hb dX10_write_0 rfl (lv_at hl 2 rfl) ?_
  refine lv_iconst (v := 1) hx hb dX10_write_1 (by decide) ?_
  refine lv_bipush (v := 8) hx hb dX10_write_2 (by decide) ?_
  refine callSi (As := [.int x3, .int 1, .int 8]) (rest := []) C hw hl (c_Mo_in l g x3 1 8 _ h) tw_999 kk_X10_in rfl ⟨rfl, rfl⟩ ⟨by decide, by decide⟩ (Nat.le_of_ble_eq_true rfl) rfl dX10_write_4 (fun r_2 u H locs h hw => ?_)
  refine lv_if_ne (tgt := 13) hx hb dX10_write_7 (by decide) (fun c_7 => ?_) (fun c_7 => ?_)
  · have h := h.1 c_7
    refine lv_aload_n hx hb dX10_write_13 rfl (lv_at hl 0 rfl) ?_
    refine G_RX10_65 C hw 0 rfl dX10_write_14 ?_
    refine lv_iload_n hx hb dX10_write_17 rfl (lv_at hl 2 rfl) ?_
    refine lv_iadd hx hb dX10_write_18 ?_
    refine lv_sipush (v := 200) hx hb dX10_write_19 (by decide) ?_
    refine lv_icmp_le (tgt := 28) hx hb dX10_write_22 (by decide) (fun c_22 => ?_) (fun c_22 => ?_)
    · have h := h.1 c_22
      refine lv_iconst (v := 0) hx hb dX10_write_28 (by decide) ?_
      refine lv_istore (lv' := [(4, .int 0), (0, .ref a_t), (1, .long x1), (3, .int x3)]) hx hb dX10_write_29 hl (by decide) rfl (fun ls hl => ?_)
      obtain ⟨n_31, h⟩ := h
      exact hL_Mo_write_31 n_31 0 t_bytes t_text h _ _ _ hw (lv_sub hl [1, 2, 3, 0] rfl)
    · have h := h.2 c_22
      refine lv_bipush (v := (-5)) hx hb dX10_write_25 (by decide) ?_
      exact hret (t_bytes, t_text) h hw dX10_write_27 rfl
  · have h := h.2 c_7
    refine lv_bipush (v := (-3)) hx hb dX10_write_10 (by decide) ?_
    exact hret (t_bytes, t_text) h hw dX10_write_12 rfl
