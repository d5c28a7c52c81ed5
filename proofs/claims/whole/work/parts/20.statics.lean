def B_LC_within_15 (x0 : Int32) (x1 : Int32) (x2 : Int32) (Q : Int32 → Prop) (k0 : Int32) : Prop := narrow .boolean (.int k0) = .int k0 ∧ Q k0 
def B_LC_within_14 (x0 : Int32) (x1 : Int32) (x2 : Int32) (Q : Int32 → Prop) : Prop := B_LC_within_15 x0 x1 x2 Q 0
def P_LC_within (x0 : Int32) (x1 : Int32) (x2 : Int32) (Q : Int32 → Prop) : Prop := (x0 < x1 → B_LC_within_14 x0 x1 x2 Q) ∧ (¬ x0 < x1 → (x2 < x0 → B_LC_within_14 x0 x1 x2 Q) ∧ (¬ x2 < x0 → B_LC_within_15 x0 x1 x2 Q 1))
abbrev rm_LC_within : Room := { frames := 0, cells := 0, slots := 0, locals := 0 }
set_option maxHeartbeats 4000000 in
set_option maxRecDepth 100000 in
theorem c_LC_within (l : Launch) (g : GE) (x0 : Int32) (x1 : Int32) (x2 : Int32) (Q : Int32 → Prop) (h : P_LC_within x0 x1 x2 Q) : Cti l g yX9_within cX9_within 3 (some .boolean) rm_LC_within [.int x0, .int x1, .int x2] [] (S := Unit) (fun r u => Q r) (fun _ => []) := by
  refine meetI rfl (Nat.le_of_ble_eq_true rfl) ⟨rfl, rfl⟩ ?_
  intro p e s m args below meth c A Qf ls C hret hw hl
  have hx := C.1
  have hb := C.2.1
  have hown := C.2.2.2.1
  have hts := C.2.2.2.2.1
  have hE := C.2.2.2.2.2.1
  have hl : lv_has ls 3 [(0, .int x0), (1, .int x1), (2, .int x2)] := hl
  have hB_LC_within_15 : ∀ (k0 : Int32), B_LC_within_15 x0 x1 x2 Q k0 → Wat p l e rm_LC_within s m args below meth c A Qf g 3 [] [] 15 [.int k0] := by
    intro k0 h H locs ls hw hl
    exact hret () h.2 hw dX9_within_15 h.1
  have hB_LC_within_14 : B_LC_within_14 x0 x1 x2 Q → Wat p l e rm_LC_within s m args below meth c A Qf g 3 [] [] 14 [] := by
    intro  h H locs ls hw hl
    refine lv_iconst (v := 0) hx hb dX9_within_14 (by decide) ?_
    exact hB_LC_within_15 0 h _ _ _ hw (lv_sub hl [] rfl)
  refine lv_iload_n hx hb dX9_within_0 rfl (lv_at hl 0 rfl) ?_
  refine lv_iload_n hx hb dX9_within_1 rfl (lv_at hl 1 rfl) ?_
  refine lv_icmp_lt (tgt := 14) hx hb dX9_within_2 (by decide) (fun c_2 => ?_) (fun c_2 => ?_)
  · have h := h.1 c_2
    exact hB_LC_within_14  h _ _ _ hw (lv_sub hl [] rfl)
  · have h := h.2 c_2
    refine lv_iload_n hx hb dX9_within_5 rfl (lv_at hl 0 rfl) ?_
    refine lv_iload_n hx hb dX9_within_6 rfl (lv_at hl 2 rfl) ?_
    refine lv_icmp_gt (tgt := 14) hx hb dX9_within_7 (by decide) (fun c_7 => ?_) (fun c_7 => ?_)
    · have h := h.1 c_7
      exact hB_LC_within_14  h _ _ _ hw (lv_sub hl [] rfl)
    · have h := h.2 c_7
      refine lv_iconst (v := 1) hx hb dX9_within_10 (by decide) ?_
      refine lv_goto (tgt := 15) hx hb dX9_within_11 (by decide) ?_
      exact hB_LC_within_15 1 h _ _ _ hw (lv_sub hl [] rfl)
def B_LC_holds_13 (x0 : Int32) (x1 : Int32) (Q : Int32 → Prop) (k0 : Int32) : Prop := narrow .boolean (.int k0) = .int k0 ∧ Q k0 
def P_LC_holds (x0 : Int32) (x1 : Int32) (Q : Int32 → Prop) : Prop := (((x0 >>> (x1 &&& 31)) &&& 1) = 0 → B_LC_holds_13 x0 x1 Q 0) ∧ (¬ ((x0 >>> (x1 &&& 31)) &&& 1) = 0 → B_LC_holds_13 x0 x1 Q 1)
abbrev rm_LC_holds : Room := { frames := 0, cells := 0, slots := 0, locals := 0 }
set_option maxHeartbeats 4000000 in
set_option maxRecDepth 100000 in
theorem c_LC_holds (l : Launch) (g : GE) (x0 : Int32) (x1 : Int32) (Q : Int32 → Prop) (h : P_LC_holds x0 x1 Q) : Cti l g yX9_holds cX9_holds 2 (some .boolean) rm_LC_holds [.int x0, .int x1] [] (S := Unit) (fun r u => Q r) (fun _ => []) := by
  refine meetI rfl (Nat.le_of_ble_eq_true rfl) ⟨rfl, rfl⟩ ?_
  intro p e s m args below meth c A Qf ls C hret hw hl
  have hx := C.1
  have hb := C.2.1
  have hown := C.2.2.2.1
  have hts := C.2.2.2.2.1
  have hE := C.2.2.2.2.2.1
  have hl : lv_has ls 2 [(0, .int x0), (1, .int x1)] := hl
  have hB_LC_holds_13 : ∀ (k0 : Int32), B_LC_holds_13 x0 x1 Q k0 → Wat p l e rm_LC_holds s m args below meth c A Qf g 2 [] [] 13 [.int k0] := by
    intro k0 h H locs ls hw hl
    exact hret () h.2 hw dX9_holds_13 h.1
  refine lv_iload_n hx hb dX9_holds_0 rfl (lv_at hl 0 rfl) ?_
  refine lv_iload_n hx hb dX9_holds_1 rfl (lv_at hl 1 rfl) ?_
  refine lv_ishr hx hb dX9_holds_2 ?_
  refine lv_iconst (v := 1) hx hb dX9_holds_3 (by decide) ?_
  refine lv_iand hx hb dX9_holds_4 ?_
  refine lv_if_eq (tgt := 12) hx hb dX9_holds_5 (by decide) (fun c_5 => ?_) (fun c_5 => ?_)
  · have h := h.1 c_5
    refine lv_iconst (v := 0) hx hb dX9_holds_12 (by decide) ?_
    exact hB_LC_holds_13 0 h _ _ _ hw (lv_sub hl [] rfl)
  · have h := h.2 c_5
    refine lv_iconst (v := 1) hx hb dX9_holds_8 (by decide) ?_
    refine lv_goto (tgt := 13) hx hb dX9_holds_9 (by decide) ?_
    exact hB_LC_holds_13 1 h _ _ _ hw (lv_sub hl [] rfl)
def L_Arrays_fill_5 (x1 : Int32) (n_a0 : Nat) (Q : (Nat → Int32) → Prop) : Nat → Int32 → Int32 → (Nat → Int32) → Prop
  | 0 => fun _ _ _ => False
  | n + 1 => fun x2 x3 a0 => (x3 ≤ x2 → Q a0) ∧ (¬ x3 ≤ x2 → vp_in x2 n_a0 ∧ ((L_Arrays_fill_5 x1 n_a0 Q n) (x2 + 1) x3 (upd a0 x2.toNatClampNeg x1)))
def P_Arrays_fill (x1 : Int32) (n_a0 : Nat) (a0 : (Nat → Int32)) (Q : (Nat → Int32) → Prop) : Prop := ∀ x3_1 : Int32, x3_1 = (nI n_a0) → ∃ n_5 : Nat, L_Arrays_fill_5 x1 n_a0 Q n_5 0 x3_1 a0
abbrev rm_Arrays_fill : Room := { frames := 0, cells := 0, slots := 0, locals := 0 }
def cs_Arrays_fill (g : GE) (a_a0 n_a0 : Nat) (a0 : (Nat → Int32)) : va_W := [ai g a_a0 n_a0 a0]
set_option maxHeartbeats 4000000 in
set_option maxRecDepth 100000 in
theorem c_Arrays_fill (l : Launch) (g : GE) (a_a0 n_a0 : Nat) (a0 : (Nat → Int32)) (x1 : Int32) (Q : (Nat → Int32) → Prop) (h : P_Arrays_fill x1 n_a0 a0 Q) : Ctv l g yJ7_fill_53178 cJ7_fill_53178 4 none rm_Arrays_fill [.ref a_a0, .int x1] (cs_Arrays_fill g a_a0 n_a0 a0) (S := (Nat → Int32)) (fun u => Q u) (fun u => (cs_Arrays_fill g a_a0 n_a0 u)) := by
  refine meetV rfl (Nat.le_of_ble_eq_true rfl) ⟨rfl, rfl⟩ ?_
  intro p e s m args below meth c A Qf ls C hret hw hl
  have hx := C.1
  have hb := C.2.1
  have hown := C.2.2.2.1
  have hts := C.2.2.2.2.1
  have hE := C.2.2.2.2.2.1
  have hl : lv_has ls 4 [(0, .ref a_a0), (1, .int x1)] := hl
  have hL_Arrays_fill_5 : ∀ (n : Nat) (x2 : Int32) (x3 : Int32) (a0 : (Nat → Int32)), L_Arrays_fill_5 x1 n_a0 Q n x2 x3 a0 → Wat p l e rm_Arrays_fill s m args below meth c A Qf g 4 (cs_Arrays_fill g a_a0 n_a0 a0) [(0, .ref a_a0), (1, .int x1), (2, .int x2), (3, .int x3)] 5 [] := by
    intro n
    induction n with
    | zero => intro x2 x3 a0 h; exact absurd h id
    | succ n ih =>
      intro x2 x3 a0 h H locs ls hw hl
      rw [L_Arrays_fill_5] at h
      refine lv_iload_n hx hb dJ7_fill_53178_5 rfl (lv_at hl 2 rfl) ?_
      refine lv_iload_n hx hb dJ7_fill_53178_6 rfl (lv_at hl 3 rfl) ?_
      refine lv_icmp_ge (tgt := 20) hx hb dJ7_fill_53178_7 (by decide) (fun c_7 => ?_) (fun c_7 => ?_)
      · have h := h.1 c_7
        exact hret (a0) h hw dJ7_fill_53178_20
      · have h := h.2 c_7
        refine lv_aload_n hx hb dJ7_fill_53178_10 rfl (lv_at hl 0 rfl) ?_
        refine lv_iload_n hx hb dJ7_fill_53178_11 rfl (lv_at hl 2 rfl) ?_
        refine lv_iload_n hx hb dJ7_fill_53178_12 rfl (lv_at hl 1 rfl) ?_
        refine astI (ws2 := (cs_Arrays_fill g a_a0 n_a0 (upd a0 x2.toNatClampNeg x1))) C hw 0 rfl h.1 rfl dJ7_fill_53178_13 (fun H locs hw => ?_)
        have h := h.2
        refine lv_iinc (v := x2 + 1) (lv' := [(2, .int (x2 + 1)), (0, .ref a_a0), (1, .int x1), (3, .int x3)]) hx hb dJ7_fill_53178_14 hl (k := 2) rfl rfl (by decide) rfl (fun ls hl => ?_)
        refine lv_goto (tgt := 5) hx hb dJ7_fill_53178_17 (by decide) ?_
        exact ih (x2 + 1) x3 (upd a0 x2.toNatClampNeg x1) h _ _ _ hw (lv_sub hl [1, 2, 0, 3] rfl)
  refine lv_iconst (v := 0) hx hb dJ7_fill_53178_0 (by decide) ?_
  refine lv_istore_n (lv' := [(2, .int 0), (0, .ref a_a0), (1, .int x1)]) hx hb dJ7_fill_53178_1 rfl hl (by decide) rfl (fun ls hl => ?_)
  refine lv_aload_n hx hb dJ7_fill_53178_2 rfl (lv_at hl 1 rfl) ?_
  refine alnI C hw 0 rfl dJ7_fill_53178_3 ?_
  refine lv_topi (fun x3_1 ex3_1 => ?_)
  have h := h x3_1 ex3_1
  refine lv_istore_n (lv' := [(3, .int x3_1), (2, .int 0), (0, .ref a_a0), (1, .int x1)]) hx hb dJ7_fill_53178_4 rfl hl (by decide) rfl (fun ls hl => ?_)
  obtain ⟨n_5, h⟩ := h
  exact hL_Arrays_fill_5 n_5 0 x3_1 a0 h _ _ _ hw (lv_sub hl [2, 3, 1, 0] rfl)
def P_Integer_bitCount (x0 : Int32) (Q : Int32 → Prop) : Prop := ∀ x0_1 : Int32, x0_1 = (x0 - (((x0.toUInt32 >>> ((1 : Int32).toUInt32 &&& Int32.toUInt32 31)).toInt32) &&& 1431655765)) → ∀ x0_2 : Int32, x0_2 = ((x0_1 &&& 858993459) + (((x0_1.toUInt32 >>> ((2 : Int32).toUInt32 &&& Int32.toUInt32 31)).toInt32) &&& 858993459)) → ∀ x0_3 : Int32, x0_3 = ((x0_2 + ((x0_2.toUInt32 >>> ((4 : Int32).toUInt32 &&& Int32.toUInt32 31)).toInt32)) &&& 252645135) → ∀ x0_4 : Int32, x0_4 = (x0_3 + ((x0_3.toUInt32 >>> ((8 : Int32).toUInt32 &&& Int32.toUInt32 31)).toInt32)) → ∀ x0_5 : Int32, x0_5 = (x0_4 + ((x0_4.toUInt32 >>> ((16 : Int32).toUInt32 &&& Int32.toUInt32 31)).toInt32)) → Q (x0_5 &&& 63)
abbrev rm_Integer_bitCount : Room := { frames := 0, cells := 0, slots := 0, locals := 0 }
set_option maxHeartbeats 4000000 in
set_option maxRecDepth 100000 in
theorem c_Integer_bitCount (l : Launch) (g : GE) (x0 : Int32) (Q : Int32 → Prop) (h : P_Integer_bitCount x0 Q) : Cti l g yJ6_bitCount_0f7a4 cJ6_bitCount_0f7a4 1 (some .int) rm_Integer_bitCount [.int x0] [] (S := Unit) (fun r u => Q r) (fun _ => []) := by
  refine meetI rfl (Nat.le_of_ble_eq_true rfl) ⟨rfl, rfl⟩ ?_
  intro p e s m args below meth c A Qf ls C hret hw hl
  have hx := C.1
  have hb := C.2.1
  have hown := C.2.2.2.1
  have hts := C.2.2.2.2.1
  have hE := C.2.2.2.2.2.1
  have hl : lv_has ls 1 [(0, .int x0)] := hl
  refine lv_iload_n hx hb dJ6_bitCount_0f7a4_0 rfl (lv_at hl 0 rfl) ?_
  refine lv_iload_n hx hb dJ6_bitCount_0f7a4_1 rfl (lv_at hl 0 rfl) ?_
  refine lv_iconst (v := 1) hx hb dJ6_bitCount_0f7a4_2 (by decide) ?_
  refine lv_iushr hx hb dJ6_bitCount_0f7a4_3 rfl ?_
  refine lv_ldcw (v := 1431655765) hx hb hown (hts _ tw_580) dJ6_bitCount_0f7a4_4 ?_
  refine lv_iand hx hb dJ6_bitCount_0f7a4_7 ?_
  refine lv_isub hx hb dJ6_bitCount_0f7a4_8 ?_
  refine lv_topi (fun x0_1 ex0_1 => ?_)
  have h := h x0_1 ex0_1
  refine lv_istore_n (lv' := [(0, .int x0_1)]) hx hb dJ6_bitCount_0f7a4_9 rfl hl (by decide) rfl (fun ls hl => ?_)
  refine lv_iload_n hx hb dJ6_bitCount_0f7a4_10 rfl (lv_at hl 0 rfl) ?_
  refine lv_ldcw (v := 858993459) hx hb hown (hts _ tw_581) dJ6_bitCount_0f7a4_11 ?_
  refine lv_iand hx hb dJ6_bitCount_0f7a4_14 ?_
  refine lv_iload_n hx hb dJ6_bitCount_0f7a4_15 rfl (lv_at hl 0 rfl) ?_
  refine lv_iconst (v := 2) hx hb dJ6_bitCount_0f7a4_16 (by decide) ?_
  refine lv_iushr hx hb dJ6_bitCount_0f7a4_17 rfl ?_
  refine lv_ldcw (v := 858993459) hx hb hown (hts _ tw_581) dJ6_bitCount_0f7a4_18 ?_
  refine lv_iand hx hb dJ6_bitCount_0f7a4_21 ?_
  refine lv_iadd hx hb dJ6_bitCount_0f7a4_22 ?_
  refine lv_topi (fun x0_2 ex0_2 => ?_)
  have h := h x0_2 ex0_2
  refine lv_istore_n (lv' := [(0, .int x0_2)]) hx hb dJ6_bitCount_0f7a4_23 rfl hl (by decide) rfl (fun ls hl => ?_)
  refine lv_iload_n hx hb dJ6_bitCount_0f7a4_24 rfl (lv_at hl 0 rfl) ?_
  refine lv_iload_n hx hb dJ6_bitCount_0f7a4_25 rfl (lv_at hl 0 rfl) ?_
  refine lv_iconst (v := 4) hx hb dJ6_bitCount_0f7a4_26 (by decide) ?_
  refine lv_iushr hx hb dJ6_bitCount_0f7a4_27 rfl ?_
  refine lv_iadd hx hb dJ6_bitCount_0f7a4_28 ?_
  refine lv_ldcw (v := 252645135) hx hb hown (hts _ tw_582) dJ6_bitCount_0f7a4_29 ?_
  refine lv_iand hx hb dJ6_bitCount_0f7a4_32 ?_
  refine lv_topi (fun x0_3 ex0_3 => ?_)
  have h := h x0_3 ex0_3
  refine lv_istore_n (lv' := [(0, .int x0_3)]) hx hb dJ6_bitCount_0f7a4_33 rfl hl (by decide) rfl (fun ls hl => ?_)
  refine lv_iload_n hx hb dJ6_bitCount_0f7a4_34 rfl (lv_at hl 0 rfl) ?_
  refine lv_iload_n hx hb dJ6_bitCount_0f7a4_35 rfl (lv_at hl 0 rfl) ?_
  refine lv_bipush (v := 8) hx hb dJ6_bitCount_0f7a4_36 (by decide) ?_
  refine lv_iushr hx hb dJ6_bitCount_0f7a4_38 rfl ?_
  refine lv_iadd hx hb dJ6_bitCount_0f7a4_39 ?_
  refine lv_topi (fun x0_4 ex0_4 => ?_)
  have h := h x0_4 ex0_4
  refine lv_istore_n (lv' := [(0, .int x0_4)]) hx hb dJ6_bitCount_0f7a4_40 rfl hl (by decide) rfl (fun ls hl => ?_)
  refine lv_iload_n hx hb dJ6_bitCount_0f7a4_41 rfl (lv_at hl 0 rfl) ?_
  refine lv_iload_n hx hb dJ6_bitCount_0f7a4_42 rfl (lv_at hl 0 rfl) ?_
  refine lv_bipush (v := 16) hx hb dJ6_bitCount_0f7a4_43 (by decide) ?_
  refine lv_iushr hx hb dJ6_bitCount_0f7a4_45 rfl ?_
  refine lv_iadd hx hb dJ6_bitCount_0f7a4_46 ?_
  refine lv_topi (fun x0_5 ex0_5 => ?_)
  have h := h x0_5 ex0_5
  refine lv_istore_n (lv' := [(0, .int x0_5)]) hx hb dJ6_bitCount_0f7a4_47 rfl hl (by decide) rfl (fun ls hl => ?_)
  refine lv_iload_n hx hb dJ6_bitCount_0f7a4_48 rfl (lv_at hl 0 rfl) ?_
  refine lv_bipush (v := 63) hx hb dJ6_bitCount_0f7a4_49 (by decide) ?_
  refine lv_iand hx hb dJ6_bitCount_0f7a4_51 ?_
  exact hret () h hw dJ6_bitCount_0f7a4_52 rfl
def P_LC_isJudgment (x0 : Int32) (Q : Int32 → Prop) : Prop := P_LC_within x0 0 3 (fun r_1 => narrow .boolean (.int r_1) = .int r_1 ∧ Q r_1 )
abbrev rm_LC_isJudgment : Room := { frames := 1, cells := 0, slots := 0, locals := 22 }
set_option maxHeartbeats 4000000 in
set_option maxRecDepth 100000 in
theorem c_LC_isJudgment (l : Launch) (g : GE) (x0 : Int32) (Q : Int32 → Prop) (h : P_LC_isJudgment x0 Q) : Cti l g yX9_isJudgment cX9_isJudgment 1 (some .boolean) rm_LC_isJudgment [.int x0] [] (S := Unit) (fun r u => Q r) (fun _ => []) := by
  refine meetI rfl (Nat.le_of_ble_eq_true rfl) ⟨rfl, rfl⟩ ?_
  intro p e s m args below meth c A Qf ls C hret hw hl
  have hx := C.1
  have hb := C.2.1
  have hown := C.2.2.2.1
  have hts := C.2.2.2.2.1
  have hE := C.2.2.2.2.2.1
  have hl : lv_has ls 1 [(0, .int x0)] := hl
  refine lv_iload_n hx hb dX9_isJudgment_0 rfl (lv_at hl 0 rfl) ?_
  refine lv_iconst (v := 0) hx hb dX9_isJudgment_1 (by decide) ?_
  refine lv_iconst (v := 3) hx hb dX9_isJudgment_2 (by decide) ?_
  refine callSi (As := [.int x0, .int 0, .int 3]) (rest := []) C hw hl (c_LC_within l g x0 0 3 _ h) tw_336 kk_X9_within rfl ⟨rfl, rfl⟩ ⟨by decide, by decide⟩ (Nat.le_of_ble_eq_true rfl) rfl dX9_isJudgment_3 (fun r_1 u H locs h hw => ?_)
  exact hret () h.2 hw dX9_isJudgment_6 h.1
def B_LC_countOrSet_12 (x0 : Int32) (x1 : Int32) (Q : Int32 → Prop) (k0 : Int32) : Prop := Q k0
def P_LC_countOrSet (x0 : Int32) (x1 : Int32) (Q : Int32 → Prop) : Prop := (¬ x1 = 0 → B_LC_countOrSet_12 x0 x1 Q x0) ∧ (x1 = 0 → P_Integer_bitCount x0 (fun r_1 => B_LC_countOrSet_12 x0 x1 Q r_1))
abbrev rm_LC_countOrSet : Room := { frames := 1, cells := 0, slots := 0, locals := 20 }
set_option maxHeartbeats 4000000 in
set_option maxRecDepth 100000 in
theorem c_LC_countOrSet (l : Launch) (g : GE) (x0 : Int32) (x1 : Int32) (Q : Int32 → Prop) (h : P_LC_countOrSet x0 x1 Q) : Cti l g yX9_countOrSet cX9_countOrSet 2 (some .int) rm_LC_countOrSet [.int x0, .int x1] [] (S := Unit) (fun r u => Q r) (fun _ => []) := by
  refine meetI rfl (Nat.le_of_ble_eq_true rfl) ⟨rfl, rfl⟩ ?_
  intro p e s m args below meth c A Qf ls C hret hw hl
  have hx := C.1
  have hb := C.2.1
  have hown := C.2.2.2.1
  have hts := C.2.2.2.2.1
  have hE := C.2.2.2.2.2.1
  have hl : lv_has ls 2 [(0, .int x0), (1, .int x1)] := hl
  have hB_LC_countOrSet_12 : ∀ (k0 : Int32), B_LC_countOrSet_12 x0 x1 Q k0 → Wat p l e rm_LC_countOrSet s m args below meth c A Qf g 2 [] [] 12 [.int k0] := by
    intro k0 h H locs ls hw hl
    exact hret () h hw dX9_countOrSet_12 rfl
  refine lv_iload_n hx hb dX9_countOrSet_0 rfl (lv_at hl 1 rfl) ?_
  refine lv_if_ne (tgt := 11) hx hb dX9_countOrSet_1 (by decide) (fun c_1 => ?_) (fun c_1 => ?_)
  · have h := h.1 c_1
    refine lv_iload_n hx hb dX9_countOrSet_11 rfl (lv_at hl 0 rfl) ?_
    exact hB_LC_countOrSet_12 x0 h _ _ _ hw (lv_sub hl [] rfl)
  · have h := h.2 c_1
    refine lv_iload_n hx hb dX9_countOrSet_4 rfl (lv_at hl 0 rfl) ?_
    refine callSi (As := [.int x0]) (rest := []) C hw hl (c_Integer_bitCount l g x0 _ h) tw_577 kk_J6_bitCount_0f7a4 rfl ⟨rfl, rfl⟩ ⟨by decide, by decide⟩ (Nat.le_of_ble_eq_true rfl) rfl dX9_countOrSet_5 (fun r_1 u H locs h hw => ?_)
    refine lv_goto (tgt := 12) hx hb dX9_countOrSet_8 (by decide) ?_
    exact hB_LC_countOrSet_12 r_1 h _ _ _ hw (lv_sub hl [] rfl)
def L_LC_power_5 (x0 : Int32) (x1 : Int32) (Q : Int64 → Prop) : Nat → Int64 → Int32 → Prop
  | 0 => fun _ _ => False
  | n + 1 => fun x2 x4 => (x1 ≤ x4 → Q x2) ∧ (¬ x1 ≤ x4 → ∀ x2_1 : Int64, x2_1 = (x2 * (x0.toInt64)) → (L_LC_power_5 x0 x1 Q n) x2_1 (x4 + 1))
def P_LC_power (x0 : Int32) (x1 : Int32) (Q : Int64 → Prop) : Prop := ∃ n_5 : Nat, L_LC_power_5 x0 x1 Q n_5 1 0
abbrev rm_LC_power : Room := { frames := 0, cells := 0, slots := 0, locals := 0 }
set_option maxHeartbeats 4000000 in
set_option maxRecDepth 100000 in
theorem c_LC_power (l : Launch) (g : GE) (x0 : Int32) (x1 : Int32) (Q : Int64 → Prop) (h : P_LC_power x0 x1 Q) : Ctl l g yX9_power cX9_power 5 (some .long) rm_LC_power [.int x0, .int x1] [] (S := Unit) (fun r u => Q r) (fun _ => []) := by
  refine meetL rfl (Nat.le_of_ble_eq_true rfl) ⟨rfl, rfl⟩ ?_
  intro p e s m args below meth c A Qf ls C hret hw hl
  have hx := C.1
  have hb := C.2.1
  have hown := C.2.2.2.1
  have hts := C.2.2.2.2.1
  have hE := C.2.2.2.2.2.1
  have hl : lv_has ls 5 [(0, .int x0), (1, .int x1)] := hl
  have hL_LC_power_5 : ∀ (n : Nat) (x2 : Int64) (x4 : Int32), L_LC_power_5 x0 x1 Q n x2 x4 → Wat p l e rm_LC_power s m args below meth c A Qf g 5 [] [(0, .int x0), (1, .int x1), (2, .long x2), (4, .int x4)] 5 [] := by
    intro n
    induction n with
    | zero => intro x2 x4 h; exact absurd h id
    | succ n ih =>
      intro x2 x4 h H locs ls hw hl
      rw [L_LC_power_5] at h
      refine lv_iload hx hb dX9_power_5 (lv_at hl 3 rfl) ?_
      refine lv_iload_n hx hb dX9_power_7 rfl (lv_at hl 1 rfl) ?_
      refine lv_icmp_ge (tgt := 22) hx hb dX9_power_8 (by decide) (fun c_8 => ?_) (fun c_8 => ?_)
      · have h := h.1 c_8
        refine lv_lload_n hx hb dX9_power_22 rfl (lv_at hl 2 rfl) ?_
        exact hret () h hw dX9_power_23
      · have h := h.2 c_8
        refine lv_lload_n hx hb dX9_power_11 rfl (lv_at hl 2 rfl) ?_
        refine lv_iload_n hx hb dX9_power_12 rfl (lv_at hl 0 rfl) ?_
        refine lv_i2l hx hb dX9_power_13 rfl ?_
        refine lv_lmul hx hb dX9_power_14 ?_
        refine lv_topl (fun x2_1 ex2_1 => ?_)
        have h := h x2_1 ex2_1
        refine lv_lstore_n (lv' := [(2, .long x2_1), (0, .int x0), (1, .int x1), (4, .int x4)]) hx hb dX9_power_15 rfl hl (by decide) rfl (fun ls hl => ?_)
        refine lv_iinc (v := x4 + 1) (lv' := [(4, .int (x4 + 1)), (2, .long x2_1), (0, .int x0), (1, .int x1)]) hx hb dX9_power_16 hl (k := 3) rfl rfl (by decide) rfl (fun ls hl => ?_)
        refine lv_goto (tgt := 5) hx hb dX9_power_19 (by decide) ?_
        exact ih x2_1 (x4 + 1) h _ _ _ hw (lv_sub hl [2, 3, 1, 0] rfl)
  refine lv_lconst (v := 1) hx hb dX9_power_0 (by decide) ?_
  refine lv_lstore_n (lv' := [(2, .long 1), (0, .int x0), (1, .int x1)]) hx hb dX9_power_1 rfl hl (by decide) rfl (fun ls hl => ?_)
  refine lv_iconst (v := 0) hx hb dX9_power_2 (by decide) ?_
  refine lv_istore (lv' := [(4, .int 0), (2, .long 1), (0, .int x0), (1, .int x1)]) hx hb dX9_power_3 hl (by decide) rfl (fun ls hl => ?_)
  obtain ⟨n_5, h⟩ := h
  exact hL_LC_power_5 n_5 1 0 h _ _ _ hw (lv_sub hl [2, 3, 1, 0] rfl)
def B_LC_commonDivisor_44 (x0 : Int64) (x2 : Int64) (Q : Int64 → Prop) (x4 : Int64) : Prop := Q x4
def L_LC_commonDivisor_9 (x0 : Int64) (x2 : Int64) (Q : Int64 → Prop) : Nat → Int64 → Int64 → Int32 → Prop
  | 0 => fun _ _ _ => False
  | n + 1 => fun x4 x6 x8 => (100 ≤ x8 → B_LC_commonDivisor_44 x0 x2 Q x4) ∧ (¬ 100 ≤ x8 → ((lg_cmp x6 0) = 0 → B_LC_commonDivisor_44 x0 x2 Q x4) ∧ (¬ (lg_cmp x6 0) = 0 → ¬ x6 = 0 ∧ (∀ x9_1 : Int64, x9_1 = (x4 - x4 / x6 * x6) → (L_LC_commonDivisor_9 x0 x2 Q n) x6 x9_1 (x8 + 1))))
def P_LC_commonDivisor (x0 : Int64) (x2 : Int64) (Q : Int64 → Prop) : Prop := ∃ n_9 : Nat, L_LC_commonDivisor_9 x0 x2 Q n_9 x0 x2 0
abbrev rm_LC_commonDivisor : Room := { frames := 0, cells := 0, slots := 0, locals := 0 }
set_option maxHeartbeats 4000000 in
set_option maxRecDepth 100000 in
theorem c_LC_commonDivisor (l : Launch) (g : GE) (x0 : Int64) (x2 : Int64) (Q : Int64 → Prop) (h : P_LC_commonDivisor x0 x2 Q) : Ctl l g yX9_commonDivisor cX9_commonDivisor 11 (some .long) rm_LC_commonDivisor [.long x0, .long x2] [] (S := Unit) (fun r u => Q r) (fun _ => []) := by
  refine meetL rfl (Nat.le_of_ble_eq_true rfl) ⟨rfl, rfl⟩ ?_
  intro p e s m args below meth c A Qf ls C hret hw hl
  have hx := C.1
  have hb := C.2.1
  have hown := C.2.2.2.1
  have hts := C.2.2.2.2.1
  have hE := C.2.2.2.2.2.1
  have hl : lv_has ls 11 [(0, .long x0), (2, .long x2)] := hl
  have hB_LC_commonDivisor_44 : ∀ (x4 : Int64), B_LC_commonDivisor_44 x0 x2 Q x4 → Wat p l e rm_LC_commonDivisor s m args below meth c A Qf g 11 [] [(4, .long x4)] 44 [] := by
    intro x4 h H locs ls hw hl
    refine lv_lload hx hb dX9_commonDivisor_44 (lv_at hl 0 rfl) ?_
    exact hret () h hw dX9_commonDivisor_46
  have hL_LC_commonDivisor_9 : ∀ (n : Nat) (x4 : Int64) (x6 : Int64) (x8 : Int32), L_LC_commonDivisor_9 x0 x2 Q n x4 x6 x8 → Wat p l e rm_LC_commonDivisor s m args below meth c A Qf g 11 [] [(4, .long x4), (6, .long x6), (8, .int x8)] 9 [] := by
    intro n
    induction n with
    | zero => intro x4 x6 x8 h; exact absurd h id
    | succ n ih =>
      intro x4 x6 x8 h H locs ls hw hl
      rw [L_LC_commonDivisor_9] at h
      refine lv_iload hx hb dX9_commonDivisor_9 (lv_at hl 2 rfl) ?_
      refine lv_bipush (v := 100) hx hb dX9_commonDivisor_11 (by decide) ?_
      refine lv_icmp_ge (tgt := 44) hx hb dX9_commonDivisor_13 (by decide) (fun c_13 => ?_) (fun c_13 => ?_)
      · have h := h.1 c_13
        exact hB_LC_commonDivisor_44 x4 h _ _ _ hw (lv_sub hl [0] rfl)
      · have h := h.2 c_13
        refine lv_lload hx hb dX9_commonDivisor_16 (lv_at hl 1 rfl) ?_
        refine lv_lconst (v := 0) hx hb dX9_commonDivisor_18 (by decide) ?_
        refine W.lcmp hx hb dX9_commonDivisor_19 ?_
        refine lv_if_eq (tgt := 44) hx hb dX9_commonDivisor_20 (by decide) (fun c_20 => ?_) (fun c_20 => ?_)
        · have h := h.1 c_20
          exact hB_LC_commonDivisor_44 x4 h _ _ _ hw (lv_sub hl [0] rfl)
        · have h := h.2 c_20
          refine lv_lload hx hb dX9_commonDivisor_23 (lv_at hl 0 rfl) ?_
          refine lv_lload hx hb dX9_commonDivisor_25 (lv_at hl 1 rfl) ?_
          refine lv_lrem hx hb dX9_commonDivisor_27 h.1 ?_
          have h := h.2
          refine lv_topl (fun x9_1 ex9_1 => ?_)
          have h := h x9_1 ex9_1
          refine lv_lstore (lv' := [(9, .long x9_1), (4, .long x4), (6, .long x6), (8, .int x8)]) hx hb dX9_commonDivisor_28 hl (by decide) rfl (fun ls hl => ?_)
          refine lv_lload hx hb dX9_commonDivisor_30 (lv_at hl 2 rfl) ?_
          refine lv_lstore (lv' := [(4, .long x6), (9, .long x9_1), (6, .long x6), (8, .int x8)]) hx hb dX9_commonDivisor_32 hl (by decide) rfl (fun ls hl => ?_)
          refine lv_lload hx hb dX9_commonDivisor_34 (lv_at hl 1 rfl) ?_
          refine lv_lstore (lv' := [(6, .long x9_1), (4, .long x6), (9, .long x9_1), (8, .int x8)]) hx hb dX9_commonDivisor_36 hl (by decide) rfl (fun ls hl => ?_)
          refine lv_iinc (v := x8 + 1) (lv' := [(8, .int (x8 + 1)), (6, .long x9_1), (4, .long x6), (9, .long x9_1)]) hx hb dX9_commonDivisor_38 hl (k := 3) rfl rfl (by decide) rfl (fun ls hl => ?_)
          refine lv_goto (tgt := 9) hx hb dX9_commonDivisor_41 (by decide) ?_
          exact ih x6 x9_1 (x8 + 1) h _ _ _ hw (lv_sub hl [2, 1, 0] rfl)
  refine lv_lload_n hx hb dX9_commonDivisor_0 rfl (lv_at hl 0 rfl) ?_
  refine lv_lstore (lv' := [(4, .long x0), (0, .long x0), (2, .long x2)]) hx hb dX9_commonDivisor_1 hl (by decide) rfl (fun ls hl => ?_)
  refine lv_lload_n hx hb dX9_commonDivisor_3 rfl (lv_at hl 2 rfl) ?_
  refine lv_lstore (lv' := [(6, .long x2), (4, .long x0), (0, .long x0), (2, .long x2)]) hx hb dX9_commonDivisor_4 hl (by decide) rfl (fun ls hl => ?_)
  refine lv_iconst (v := 0) hx hb dX9_commonDivisor_6 (by decide) ?_
  refine lv_istore (lv' := [(8, .int 0), (6, .long x2), (4, .long x0), (0, .long x0), (2, .long x2)]) hx hb dX9_commonDivisor_7 hl (by decide) rfl (fun ls hl => ?_)
  obtain ⟨n_9, h⟩ := h
  exact hL_LC_commonDivisor_9 n_9 x0 x2 0 h _ _ _ hw (lv_sub hl [2, 1, 0] rfl)
def P_LC_isImage (x0 : Int32) (Q : Int32 → Prop) : Prop := P_LC_within x0 0 1 (fun r_1 => narrow .boolean (.int r_1) = .int r_1 ∧ Q r_1 )
abbrev rm_LC_isImage : Room := { frames := 1, cells := 0, slots := 0, locals := 22 }
set_option maxHeartbeats 4000000 in
set_option maxRecDepth 100000 in
theorem c_LC_isImage (l : Launch) (g : GE) (x0 : Int32) (Q : Int32 → Prop) (h : P_LC_isImage x0 Q) : Cti l g yX9_isImage cX9_isImage 1 (some .boolean) rm_LC_isImage [.int x0] [] (S := Unit) (fun r u => Q r) (fun _ => []) := by
  refine meetI rfl (Nat.le_of_ble_eq_true rfl) ⟨rfl, rfl⟩ ?_
  intro p e s m args below meth c A Qf ls C hret hw hl
  have hx := C.1
  have hb := C.2.1
  have hown := C.2.2.2.1
  have hts := C.2.2.2.2.1
  have hE := C.2.2.2.2.2.1
  have hl : lv_has ls 1 [(0, .int x0)] := hl
  refine lv_iload_n hx hb dX9_isImage_0 rfl (lv_at hl 0 rfl) ?_
  refine lv_iconst (v := 0) hx hb dX9_isImage_1 (by decide) ?_
  refine lv_iconst (v := 1) hx hb dX9_isImage_2 (by decide) ?_
  refine callSi (As := [.int x0, .int 0, .int 1]) (rest := []) C hw hl (c_LC_within l g x0 0 1 _ h) tw_336 kk_X9_within rfl ⟨rfl, rfl⟩ ⟨by decide, by decide⟩ (Nat.le_of_ble_eq_true rfl) rfl dX9_isImage_3 (fun r_1 u H locs h hw => ?_)
  exact hret () h.2 hw dX9_isImage_6 h.1
