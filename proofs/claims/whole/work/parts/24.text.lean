def P_Text_size (t_size : Int32) (Q : Int32 → Prop) : Prop := Q t_size
abbrev rm_Text_size : Room := { frames := 0, cells := 0, slots := 0, locals := 0 }
def cs_Text_size (g : GE) (a_t a_t_bytes a_t_words a_t_values : Nat) (t_size : Int32) (t_lines : Int32) (t_fault : Int32) (t_points : Int32) (t_cases : Int32) (t_start : Int32) (t_end : Int32) : va_W := [oc a_t 8 [.ref a_t_bytes, .int t_size, .ref a_t_words, .ref a_t_values, .int t_lines, .int t_fault, .int t_points, .int t_cases, .int t_start, .int t_end]]
set_option maxHeartbeats 4000000 in
set_option maxRecDepth 100000 in
theorem c_Text_size (l : Launch) (g : GE) (a_t a_t_bytes a_t_words a_t_values : Nat) (t_size : Int32) (t_lines : Int32) (t_fault : Int32) (t_points : Int32) (t_cases : Int32) (t_start : Int32) (t_end : Int32) (Q : Int32 → Prop) (h : P_Text_size t_size Q) : Cti l g yX8_size cX8_size 1 (some .int) rm_Text_size [.ref a_t] (cs_Text_size g a_t a_t_bytes a_t_words a_t_values t_size t_lines t_fault t_points t_cases t_start t_end) (S := Unit) (fun r u => Q r) (fun _ => (cs_Text_size g a_t a_t_bytes a_t_words a_t_values t_size t_lines t_fault t_points t_cases t_start t_end)) := by
  refine meetI rfl (Nat.le_of_ble_eq_true rfl) ⟨rfl, rfl⟩ ?_
  intro p e s m args below meth c A Qf ls C hret hw hl
  have hx := C.1
  have hb := C.2.1
  have hown := C.2.2.2.1
  have hts := C.2.2.2.2.1
  have hE := C.2.2.2.2.2.1
  have hl : lv_has ls 1 [(0, .ref a_t)] := hl
  refine lv_aload_n hx hb dX8_size_0 rfl (lv_at hl 0 rfl) ?_
  refine G_RX8_21 C hw 0 rfl dX8_size_1 ?_
  exact hret () h hw dX8_size_4 rfl
def P_Text_clear (t_size : Int32) (Q : Int32 → Prop) : Prop := Q 0
abbrev rm_Text_clear : Room := { frames := 0, cells := 0, slots := 0, locals := 0 }
def cs_Text_clear (g : GE) (a_t a_t_bytes a_t_words a_t_values : Nat) (t_size : Int32) (t_lines : Int32) (t_fault : Int32) (t_points : Int32) (t_cases : Int32) (t_start : Int32) (t_end : Int32) : va_W := [oc a_t 8 [.ref a_t_bytes, .int t_size, .ref a_t_words, .ref a_t_values, .int t_lines, .int t_fault, .int t_points, .int t_cases, .int t_start, .int t_end]]
set_option maxHeartbeats 4000000 in
set_option maxRecDepth 100000 in
theorem c_Text_clear (l : Launch) (g : GE) (a_t a_t_bytes a_t_words a_t_values : Nat) (t_size : Int32) (t_lines : Int32) (t_fault : Int32) (t_points : Int32) (t_cases : Int32) (t_start : Int32) (t_end : Int32) (Q : Int32 → Prop) (h : P_Text_clear t_size Q) : Ctv l g yX8_clear cX8_clear 1 none rm_Text_clear [.ref a_t] (cs_Text_clear g a_t a_t_bytes a_t_words a_t_values t_size t_lines t_fault t_points t_cases t_start t_end) (S := Int32) (fun u => Q u) (fun u => (cs_Text_clear g a_t a_t_bytes a_t_words a_t_values u t_lines t_fault t_points t_cases t_start t_end)) := by
  refine meetV rfl (Nat.le_of_ble_eq_true rfl) ⟨rfl, rfl⟩ ?_
  intro p e s m args below meth c A Qf ls C hret hw hl
  have hx := C.1
  have hb := C.2.1
  have hown := C.2.2.2.1
  have hts := C.2.2.2.2.1
  have hE := C.2.2.2.2.2.1
  have hl : lv_has ls 1 [(0, .ref a_t)] := hl
  refine lv_aload_n hx hb dX8_clear_0 rfl (lv_at hl 0 rfl) ?_
  refine lv_iconst (v := 0) hx hb dX8_clear_1 (by decide) ?_
  refine U_RX8_21 (ws2 := (cs_Text_clear g a_t a_t_bytes a_t_words a_t_values 0 t_lines t_fault t_points t_cases t_start t_end)) C hw 0 rfl rfl rfl rfl dX8_clear_2 (fun H locs hw => ?_)
  exact hret (0) h hw dX8_clear_5
def B_Text_byteAt_22 (x1 : Int32) (t_size : Int32) (t_bytes : (Nat → Int32)) (Q : Int32 → Prop) (k0 : Int32) : Prop := Q k0
def B_Text_byteAt_21 (x1 : Int32) (t_size : Int32) (t_bytes : (Nat → Int32)) (Q : Int32 → Prop) : Prop := B_Text_byteAt_22 x1 t_size t_bytes Q (-1)
def P_Text_byteAt (x1 : Int32) (t_size : Int32) (t_bytes : (Nat → Int32)) (Q : Int32 → Prop) : Prop := (x1 < 0 → B_Text_byteAt_21 x1 t_size t_bytes Q) ∧ (¬ x1 < 0 → (t_size ≤ x1 → B_Text_byteAt_21 x1 t_size t_bytes Q) ∧ (¬ t_size ≤ x1 → vp_in x1 200 ∧ (B_Text_byteAt_22 x1 t_size t_bytes Q (t_bytes x1.toNatClampNeg))))
abbrev rm_Text_byteAt : Room := { frames := 0, cells := 0, slots := 0, locals := 0 }
def cs_Text_byteAt (g : GE) (a_t a_t_bytes a_t_words a_t_values : Nat) (t_size : Int32) (t_lines : Int32) (t_fault : Int32) (t_points : Int32) (t_cases : Int32) (t_start : Int32) (t_end : Int32) (t_bytes : (Nat → Int32)) : va_W := [oc a_t 8 [.ref a_t_bytes, .int t_size, .ref a_t_words, .ref a_t_values, .int t_lines, .int t_fault, .int t_points, .int t_cases, .int t_start, .int t_end], ai g a_t_bytes 200 t_bytes]
set_option maxHeartbeats 4000000 in
set_option maxRecDepth 100000 in
theorem c_Text_byteAt (l : Launch) (g : GE) (a_t a_t_bytes a_t_words a_t_values : Nat) (t_size : Int32) (t_lines : Int32) (t_fault : Int32) (t_points : Int32) (t_cases : Int32) (t_start : Int32) (t_end : Int32) (t_bytes : (Nat → Int32)) (x1 : Int32) (Q : Int32 → Prop) (h : P_Text_byteAt x1 t_size t_bytes Q) : Cti l g yX8_byteAt cX8_byteAt 2 (some .int) rm_Text_byteAt [.ref a_t, .int x1] (cs_Text_byteAt g a_t a_t_bytes a_t_words a_t_values t_size t_lines t_fault t_points t_cases t_start t_end t_bytes) (S := Unit) (fun r u => Q r) (fun _ => (cs_Text_byteAt g a_t a_t_bytes a_t_words a_t_values t_size t_lines t_fault t_points t_cases t_start t_end t_bytes)) := by
  refine meetI rfl (Nat.le_of_ble_eq_true rfl) ⟨rfl, rfl⟩ ?_
  intro p e s m args below meth c A Qf ls C hret hw hl
  have hx := C.1
  have hb := C.2.1
  have hown := C.2.2.2.1
  have hts := C.2.2.2.2.1
  have hE := C.2.2.2.2.2.1
  have hl : lv_has ls 2 [(0, .ref a_t), (1, .int x1)] := hl
  have hB_Text_byteAt_22 : ∀ (k0 : Int32), B_Text_byteAt_22 x1 t_size t_bytes Q k0 → Wat p l e rm_Text_byteAt s m args below meth c A Qf g 2 (cs_Text_byteAt g a_t a_t_bytes a_t_words a_t_values t_size t_lines t_fault t_points t_cases t_start t_end t_bytes) [] 22 [.int k0] := by
    intro k0 h H locs ls hw hl
    exact hret () h hw dX8_byteAt_22 rfl
  have hB_Text_byteAt_21 : B_Text_byteAt_21 x1 t_size t_bytes Q → Wat p l e rm_Text_byteAt s m args below meth c A Qf g 2 (cs_Text_byteAt g a_t a_t_bytes a_t_words a_t_values t_size t_lines t_fault t_points t_cases t_start t_end t_bytes) [] 21 [] := by
    intro  h H locs ls hw hl
    refine lv_iconst (v := (-1)) hx hb dX8_byteAt_21 (by decide) ?_
    exact hB_Text_byteAt_22 (-1) h _ _ _ hw (lv_sub hl [] rfl)
  refine lv_iload_n hx hb dX8_byteAt_0 rfl (lv_at hl 1 rfl) ?_
  refine lv_if_lt (tgt := 21) hx hb dX8_byteAt_1 (by decide) (fun c_1 => ?_) (fun c_1 => ?_)
  · have h := h.1 c_1
    exact hB_Text_byteAt_21  h _ _ _ hw (lv_sub hl [] rfl)
  · have h := h.2 c_1
    refine lv_iload_n hx hb dX8_byteAt_4 rfl (lv_at hl 1 rfl) ?_
    refine lv_aload_n hx hb dX8_byteAt_5 rfl (lv_at hl 0 rfl) ?_
    refine G_RX8_21 C hw 0 rfl dX8_byteAt_6 ?_
    refine lv_icmp_ge (tgt := 21) hx hb dX8_byteAt_9 (by decide) (fun c_9 => ?_) (fun c_9 => ?_)
    · have h := h.1 c_9
      exact hB_Text_byteAt_21  h _ _ _ hw (lv_sub hl [] rfl)
    · have h := h.2 c_9
      refine lv_aload_n hx hb dX8_byteAt_12 rfl (lv_at hl 0 rfl) ?_
      refine G_RX8_9 C hw 0 rfl dX8_byteAt_13 ?_
      refine lv_iload_n hx hb dX8_byteAt_16 rfl (lv_at hl 1 rfl) ?_
      refine aldI C hw 1 rfl h.1 dX8_byteAt_17 ?_
      have h := h.2
      refine lv_goto (tgt := 22) hx hb dX8_byteAt_18 (by decide) ?_
      exact hB_Text_byteAt_22 (t_bytes x1.toNatClampNeg) h _ _ _ hw (lv_sub hl [] rfl)
def B_Text_kindAt_54 (x1 : Int32) (t_size : Int32) (t_bytes : (Nat → Int32)) (Q : Int32 → Prop) (k0 : Int32) : Prop := Q k0
def B_Text_kindAt_53 (x1 : Int32) (t_size : Int32) (t_bytes : (Nat → Int32)) (Q : Int32 → Prop) : Prop := B_Text_kindAt_54 x1 t_size t_bytes Q 2
def B_Text_kindAt_37 (x1 : Int32) (t_size : Int32) (t_bytes : (Nat → Int32)) (Q : Int32 → Prop) (x2 : Int32) : Prop := (x2 < 48 → B_Text_kindAt_53 x1 t_size t_bytes Q) ∧ (¬ x2 < 48 → (57 < x2 → B_Text_kindAt_53 x1 t_size t_bytes Q) ∧ (¬ 57 < x2 → B_Text_kindAt_54 x1 t_size t_bytes Q 1))
def B_Text_kindAt_22 (x1 : Int32) (t_size : Int32) (t_bytes : (Nat → Int32)) (Q : Int32 → Prop) (k0 : Int32) : Prop := (k0 < 97 → B_Text_kindAt_37 x1 t_size t_bytes Q k0) ∧ (¬ k0 < 97 → (122 < k0 → B_Text_kindAt_37 x1 t_size t_bytes Q k0) ∧ (¬ 122 < k0 → Q 0))
def B_Text_kindAt_21 (x1 : Int32) (t_size : Int32) (t_bytes : (Nat → Int32)) (Q : Int32 → Prop) : Prop := B_Text_kindAt_22 x1 t_size t_bytes Q (-1)
def P_Text_kindAt (x1 : Int32) (t_size : Int32) (t_bytes : (Nat → Int32)) (Q : Int32 → Prop) : Prop := (x1 < 0 → B_Text_kindAt_21 x1 t_size t_bytes Q) ∧ (¬ x1 < 0 → (t_size ≤ x1 → B_Text_kindAt_21 x1 t_size t_bytes Q) ∧ (¬ t_size ≤ x1 → vp_in x1 200 ∧ (B_Text_kindAt_22 x1 t_size t_bytes Q (t_bytes x1.toNatClampNeg))))
abbrev rm_Text_kindAt : Room := { frames := 0, cells := 0, slots := 0, locals := 0 }
def cs_Text_kindAt (g : GE) (a_t a_t_bytes a_t_words a_t_values : Nat) (t_size : Int32) (t_lines : Int32) (t_fault : Int32) (t_points : Int32) (t_cases : Int32) (t_start : Int32) (t_end : Int32) (t_bytes : (Nat → Int32)) : va_W := [oc a_t 8 [.ref a_t_bytes, .int t_size, .ref a_t_words, .ref a_t_values, .int t_lines, .int t_fault, .int t_points, .int t_cases, .int t_start, .int t_end], ai g a_t_bytes 200 t_bytes]
set_option maxHeartbeats 4000000 in
set_option maxRecDepth 100000 in
theorem c_Text_kindAt (l : Launch) (g : GE) (a_t a_t_bytes a_t_words a_t_values : Nat) (t_size : Int32) (t_lines : Int32) (t_fault : Int32) (t_points : Int32) (t_cases : Int32) (t_start : Int32) (t_end : Int32) (t_bytes : (Nat → Int32)) (x1 : Int32) (Q : Int32 → Prop) (h : P_Text_kindAt x1 t_size t_bytes Q) : Cti l g yX8_kindAt cX8_kindAt 3 (some .int) rm_Text_kindAt [.ref a_t, .int x1] (cs_Text_kindAt g a_t a_t_bytes a_t_words a_t_values t_size t_lines t_fault t_points t_cases t_start t_end t_bytes) (S := Unit) (fun r u => Q r) (fun _ => (cs_Text_kindAt g a_t a_t_bytes a_t_words a_t_values t_size t_lines t_fault t_points t_cases t_start t_end t_bytes)) := by
  refine meetI rfl (Nat.le_of_ble_eq_true rfl) ⟨rfl, rfl⟩ ?_
  intro p e s m args below meth c A Qf ls C hret hw hl
  have hx := C.1
  have hb := C.2.1
  have hown := C.2.2.2.1
  have hts := C.2.2.2.2.1
  have hE := C.2.2.2.2.2.1
  have hl : lv_has ls 3 [(0, .ref a_t), (1, .int x1)] := hl
  have hB_Text_kindAt_54 : ∀ (k0 : Int32), B_Text_kindAt_54 x1 t_size t_bytes Q k0 → Wat p l e rm_Text_kindAt s m args below meth c A Qf g 3 (cs_Text_kindAt g a_t a_t_bytes a_t_words a_t_values t_size t_lines t_fault t_points t_cases t_start t_end t_bytes) [] 54 [.int k0] := by
    intro k0 h H locs ls hw hl
    exact hret () h hw dX8_kindAt_54 rfl
  have hB_Text_kindAt_53 : B_Text_kindAt_53 x1 t_size t_bytes Q → Wat p l e rm_Text_kindAt s m args below meth c A Qf g 3 (cs_Text_kindAt g a_t a_t_bytes a_t_words a_t_values t_size t_lines t_fault t_points t_cases t_start t_end t_bytes) [] 53 [] := by
    intro  h H locs ls hw hl
    refine lv_iconst (v := 2) hx hb dX8_kindAt_53 (by decide) ?_
    exact hB_Text_kindAt_54 2 h _ _ _ hw (lv_sub hl [] rfl)
  have hB_Text_kindAt_37 : ∀ (x2 : Int32), B_Text_kindAt_37 x1 t_size t_bytes Q x2 → Wat p l e rm_Text_kindAt s m args below meth c A Qf g 3 (cs_Text_kindAt g a_t a_t_bytes a_t_words a_t_values t_size t_lines t_fault t_points t_cases t_start t_end t_bytes) [(2, .int x2)] 37 [] := by
    intro x2 h H locs ls hw hl
    refine lv_iload_n hx hb dX8_kindAt_37 rfl (lv_at hl 0 rfl) ?_
    refine lv_bipush (v := 48) hx hb dX8_kindAt_38 (by decide) ?_
    refine lv_icmp_lt (tgt := 53) hx hb dX8_kindAt_40 (by decide) (fun c_40 => ?_) (fun c_40 => ?_)
    · have h := h.1 c_40
      exact hB_Text_kindAt_53  h _ _ _ hw (lv_sub hl [] rfl)
    · have h := h.2 c_40
      refine lv_iload_n hx hb dX8_kindAt_43 rfl (lv_at hl 0 rfl) ?_
      refine lv_bipush (v := 57) hx hb dX8_kindAt_44 (by decide) ?_
      refine lv_icmp_gt (tgt := 53) hx hb dX8_kindAt_46 (by decide) (fun c_46 => ?_) (fun c_46 => ?_)
      · have h := h.1 c_46
        exact hB_Text_kindAt_53  h _ _ _ hw (lv_sub hl [] rfl)
      · have h := h.2 c_46
        refine lv_iconst (v := 1) hx hb dX8_kindAt_49 (by decide) ?_
        refine lv_goto (tgt := 54) hx hb dX8_kindAt_50 (by decide) ?_
        exact hB_Text_kindAt_54 1 h _ _ _ hw (lv_sub hl [] rfl)
  have hB_Text_kindAt_22 : ∀ (k0 : Int32), B_Text_kindAt_22 x1 t_size t_bytes Q k0 → Wat p l e rm_Text_kindAt s m args below meth c A Qf g 3 (cs_Text_kindAt g a_t a_t_bytes a_t_words a_t_values t_size t_lines t_fault t_points t_cases t_start t_end t_bytes) [] 22 [.int k0] := by
    intro k0 h H locs ls hw hl
    refine lv_istore_n (lv' := [(2, .int k0)]) hx hb dX8_kindAt_22 rfl hl (by decide) rfl (fun ls hl => ?_)
    refine lv_iload_n hx hb dX8_kindAt_23 rfl (lv_at hl 0 rfl) ?_
    refine lv_bipush (v := 97) hx hb dX8_kindAt_24 (by decide) ?_
    refine lv_icmp_lt (tgt := 37) hx hb dX8_kindAt_26 (by decide) (fun c_26 => ?_) (fun c_26 => ?_)
    · have h := h.1 c_26
      exact hB_Text_kindAt_37 k0 h _ _ _ hw (lv_sub hl [0] rfl)
    · have h := h.2 c_26
      refine lv_iload_n hx hb dX8_kindAt_29 rfl (lv_at hl 0 rfl) ?_
      refine lv_bipush (v := 122) hx hb dX8_kindAt_30 (by decide) ?_
      refine lv_icmp_gt (tgt := 37) hx hb dX8_kindAt_32 (by decide) (fun c_32 => ?_) (fun c_32 => ?_)
      · have h := h.1 c_32
        exact hB_Text_kindAt_37 k0 h _ _ _ hw (lv_sub hl [0] rfl)
      · have h := h.2 c_32
        refine lv_iconst (v := 0) hx hb dX8_kindAt_35 (by decide) ?_
        exact hret () h hw dX8_kindAt_36 rfl
  have hB_Text_kindAt_21 : B_Text_kindAt_21 x1 t_size t_bytes Q → Wat p l e rm_Text_kindAt s m args below meth c A Qf g 3 (cs_Text_kindAt g a_t a_t_bytes a_t_words a_t_values t_size t_lines t_fault t_points t_cases t_start t_end t_bytes) [] 21 [] := by
    intro  h H locs ls hw hl
    refine lv_iconst (v := (-1)) hx hb dX8_kindAt_21 (by decide) ?_
    exact hB_Text_kindAt_22 (-1) h _ _ _ hw (lv_sub hl [] rfl)
  refine lv_iload_n hx hb dX8_kindAt_0 rfl (lv_at hl 1 rfl) ?_
  refine lv_if_lt (tgt := 21) hx hb dX8_kindAt_1 (by decide) (fun c_1 => ?_) (fun c_1 => ?_)
  · have h := h.1 c_1
    exact hB_Text_kindAt_21  h _ _ _ hw (lv_sub hl [] rfl)
  · have h := h.2 c_1
    refine lv_iload_n hx hb dX8_kindAt_4 rfl (lv_at hl 1 rfl) ?_
    refine lv_aload_n hx hb dX8_kindAt_5 rfl (lv_at hl 0 rfl) ?_
    refine G_RX8_21 C hw 0 rfl dX8_kindAt_6 ?_
    refine lv_icmp_ge (tgt := 21) hx hb dX8_kindAt_9 (by decide) (fun c_9 => ?_) (fun c_9 => ?_)
    · have h := h.1 c_9
      exact hB_Text_kindAt_21  h _ _ _ hw (lv_sub hl [] rfl)
    · have h := h.2 c_9
      refine lv_aload_n hx hb dX8_kindAt_12 rfl (lv_at hl 0 rfl) ?_
      refine G_RX8_9 C hw 0 rfl dX8_kindAt_13 ?_
      refine lv_iload_n hx hb dX8_kindAt_16 rfl (lv_at hl 1 rfl) ?_
      refine aldI C hw 1 rfl h.1 dX8_kindAt_17 ?_
      have h := h.2
      refine lv_goto (tgt := 22) hx hb dX8_kindAt_18 (by decide) ?_
      exact hB_Text_kindAt_22 (t_bytes x1.toNatClampNeg) h _ _ _ hw (lv_sub hl [] rfl)
def B_Text_nextToken_112 (t_size : Int32) (t_bytes : (Nat → Int32)) (Q : Int32 → Int32 → Prop) (t_start : Int32) (t_end : Int32) : Prop := Q t_start t_end
def L_Text_nextToken_71 (t_size : Int32) (t_bytes : (Nat → Int32)) (Q : Int32 → Int32 → Prop) : Nat → Int32 → Int32 → Int32 → Prop
  | 0 => fun _ _ _ => False
  | n + 1 => fun x1 t_start t_end => (t_size ≤ t_end → B_Text_nextToken_112 t_size t_bytes Q t_start t_end) ∧ (¬ t_size ≤ t_end → (x1 = 2 → B_Text_nextToken_112 t_size t_bytes Q t_start t_end) ∧ (¬ x1 = 2 → P_Text_kindAt t_end t_size t_bytes (fun r_1 => (¬ r_1 = x1 → B_Text_nextToken_112 t_size t_bytes Q t_start t_end) ∧ (r_1 = x1 → ∀ t_end_2 : Int32, t_end_2 = (t_end + 1) → (L_Text_nextToken_71 t_size t_bytes Q n) x1 t_start t_end_2))))
def B_Text_nextToken_45 (t_size : Int32) (t_bytes : (Nat → Int32)) (Q : Int32 → Int32 → Prop) (t_start : Int32) (t_end : Int32) : Prop := P_Text_kindAt t_start t_size t_bytes (fun r_3 => ∀ t_end_4 : Int32, t_end_4 = (if t_size < (t_start + 1) then t_size else (t_start + 1)) → ∃ n_71 : Nat, L_Text_nextToken_71 t_size t_bytes Q n_71 r_3 t_start t_end_4)
def L_Text_nextToken_8 (t_size : Int32) (t_bytes : (Nat → Int32)) (Q : Int32 → Int32 → Prop) : Nat → Int32 → Int32 → Prop
  | 0 => fun _ _ => False
  | n + 1 => fun t_start t_end => (t_size ≤ t_start → B_Text_nextToken_45 t_size t_bytes Q t_start t_end) ∧ (¬ t_size ≤ t_start → P_Text_byteAt t_start t_size t_bytes (fun r_5 => (¬ r_5 = 32 → B_Text_nextToken_45 t_size t_bytes Q t_start t_end) ∧ (r_5 = 32 → ∀ t_start_6 : Int32, t_start_6 = (t_start + 1) → (L_Text_nextToken_8 t_size t_bytes Q n) t_start_6 t_end)))
def P_Text_nextToken (t_size : Int32) (t_start : Int32) (t_end : Int32) (t_bytes : (Nat → Int32)) (Q : Int32 → Int32 → Prop) : Prop := ∃ n_8 : Nat, L_Text_nextToken_8 t_size t_bytes Q n_8 t_end t_end
abbrev rm_Text_nextToken : Room := { frames := 1, cells := 0, slots := 0, locals := 23 }
def cs_Text_nextToken (g : GE) (a_t a_t_bytes a_t_words a_t_values : Nat) (t_size : Int32) (t_lines : Int32) (t_fault : Int32) (t_points : Int32) (t_cases : Int32) (t_start : Int32) (t_end : Int32) (t_bytes : (Nat → Int32)) : va_W := [oc a_t 8 [.ref a_t_bytes, .int t_size, .ref a_t_words, .ref a_t_values, .int t_lines, .int t_fault, .int t_points, .int t_cases, .int t_start, .int t_end], ai g a_t_bytes 200 t_bytes]
set_option maxHeartbeats 4000000 in
set_option maxRecDepth 100000 in
theorem c_Text_nextToken (l : Launch) (g : GE) (a_t a_t_bytes a_t_words a_t_values : Nat) (t_size : Int32) (t_lines : Int32) (t_fault : Int32) (t_points : Int32) (t_cases : Int32) (t_start : Int32) (t_end : Int32) (t_bytes : (Nat → Int32)) (Q : Int32 → Int32 → Prop) (h : P_Text_nextToken t_size t_start t_end t_bytes Q) : Ctv l g yX8_nextToken cX8_nextToken 2 none rm_Text_nextToken [.ref a_t] (cs_Text_nextToken g a_t a_t_bytes a_t_words a_t_values t_size t_lines t_fault t_points t_cases t_start t_end t_bytes) (S := Int32 × Int32) (fun u => Q u.1 u.2) (fun u => (cs_Text_nextToken g a_t a_t_bytes a_t_words a_t_values t_size t_lines t_fault t_points t_cases (u.1) (u.2) t_bytes)) := by
  refine meetV rfl (Nat.le_of_ble_eq_true rfl) ⟨rfl, rfl⟩ ?_
  intro p e s m args below meth c A Qf ls C hret hw hl
  have hx := C.1
  have hb := C.2.1
  have hown := C.2.2.2.1
  have hts := C.2.2.2.2.1
  have hE := C.2.2.2.2.2.1
  have hl : lv_has ls 2 [(0, .ref a_t)] := hl
  have hB_Text_nextToken_112 : ∀ (t_start : Int32) (t_end : Int32), B_Text_nextToken_112 t_size t_bytes Q t_start t_end → Wat p l e rm_Text_nextToken s m args below meth c A Qf g 2 (cs_Text_nextToken g a_t a_t_bytes a_t_words a_t_values t_size t_lines t_fault t_points t_cases t_start t_end t_bytes) [] 112 [] := by
    intro t_start t_end h H locs ls hw hl
    exact hret (t_start, t_end) h hw dX8_nextToken_112
  have hL_Text_nextToken_71 : ∀ (n : Nat) (x1 : Int32) (t_start : Int32) (t_end : Int32), L_Text_nextToken_71 t_size t_bytes Q n x1 t_start t_end → Wat p l e rm_Text_nextToken s m args below meth c A Qf g 2 (cs_Text_nextToken g a_t a_t_bytes a_t_words a_t_values t_size t_lines t_fault t_points t_cases t_start t_end t_bytes) [(0, .ref a_t), (1, .int x1)] 71 [] := by
    intro n
    induction n with
    | zero => intro x1 t_start t_end h; exact absurd h id
    | succ n ih =>
      intro x1 t_start t_end h H locs ls hw hl
      rw [L_Text_nextToken_71] at h
      refine lv_aload_n hx hb dX8_nextToken_71 rfl (lv_at hl 0 rfl) ?_
      refine G_RX8_37 C hw 0 rfl dX8_nextToken_72 ?_
      refine lv_aload_n hx hb dX8_nextToken_75 rfl (lv_at hl 0 rfl) ?_
      refine G_RX8_21 C hw 0 rfl dX8_nextToken_76 ?_
      refine lv_icmp_ge (tgt := 112) hx hb dX8_nextToken_79 (by decide) (fun c_79 => ?_) (fun c_79 => ?_)
      · have h := h.1 c_79
        exact hB_Text_nextToken_112 t_start t_end h _ _ _ hw (lv_sub hl [] rfl)
      · have h := h.2 c_79
        refine lv_iload_n hx hb dX8_nextToken_82 rfl (lv_at hl 1 rfl) ?_
        refine lv_iconst (v := 2) hx hb dX8_nextToken_83 (by decide) ?_
        refine lv_icmp_eq (tgt := 112) hx hb dX8_nextToken_84 (by decide) (fun c_84 => ?_) (fun c_84 => ?_)
        · have h := h.1 c_84
          exact hB_Text_nextToken_112 t_start t_end h _ _ _ hw (lv_sub hl [] rfl)
        · have h := h.2 c_84
          refine lv_aload_n hx hb dX8_nextToken_87 rfl (lv_at hl 0 rfl) ?_
          refine lv_aload_n hx hb dX8_nextToken_88 rfl (lv_at hl 0 rfl) ?_
          refine G_RX8_37 C hw 0 rfl dX8_nextToken_89 ?_
          refine callVi (As := [.int t_end]) (rest := []) (W2 := fun _ => (cs_Text_nextToken g a_t a_t_bytes a_t_words a_t_values t_size t_lines t_fault t_points t_cases t_start t_end t_bytes)) C hw hl (c_Text_kindAt l g a_t a_t_bytes a_t_words a_t_values t_size t_lines t_fault t_points t_cases t_start t_end t_bytes t_end _ h) tw_384 kk_X8_kindAt rfl ⟨rfl, rfl⟩ ⟨by decide, by decide⟩ (Nat.le_of_ble_eq_true rfl) 0 rfl rfl rfl [0, 1] [] [0, 1] rfl rfl rfl rfl rfl rfl (fun u => rfl) rfl dX8_nextToken_92 (fun r_1 u H locs h hw => ?_)
          refine lv_iload_n hx hb dX8_nextToken_95 rfl (lv_at hl 1 rfl) ?_
          refine lv_icmp_ne (tgt := 112) hx hb dX8_nextToken_96 (by decide) (fun c_96 => ?_) (fun c_96 => ?_)
          · have h := h.1 c_96
            exact hB_Text_nextToken_112 t_start t_end h _ _ _ hw (lv_sub hl [] rfl)
          · have h := h.2 c_96
            refine lv_aload_n hx hb dX8_nextToken_99 rfl (lv_at hl 0 rfl) ?_
            refine lv_dup hx hb dX8_nextToken_100 rfl ?_
            refine G_RX8_37 C hw 0 rfl dX8_nextToken_101 ?_
            refine lv_iconst (v := 1) hx hb dX8_nextToken_104 (by decide) ?_
            refine lv_iadd hx hb dX8_nextToken_105 ?_
            refine lv_topi (fun t_end_2 et_end_2 => ?_)
            have h := h t_end_2 et_end_2
            refine U_RX8_37 (ws2 := (cs_Text_nextToken g a_t a_t_bytes a_t_words a_t_values t_size t_lines t_fault t_points t_cases t_start t_end_2 t_bytes)) C hw 0 rfl rfl rfl rfl dX8_nextToken_106 (fun H locs hw => ?_)
            refine lv_goto (tgt := 71) hx hb dX8_nextToken_109 (by decide) ?_
            exact ih x1 t_start t_end_2 h _ _ _ hw (lv_sub hl [0, 1] rfl)
  have hB_Text_nextToken_45 : ∀ (t_start : Int32) (t_end : Int32), B_Text_nextToken_45 t_size t_bytes Q t_start t_end → Wat p l e rm_Text_nextToken s m args below meth c A Qf g 2 (cs_Text_nextToken g a_t a_t_bytes a_t_words a_t_values t_size t_lines t_fault t_points t_cases t_start t_end t_bytes) [(0, .ref a_t)] 45 [] := by
    intro t_start t_end h H locs ls hw hl
    refine lv_aload_n hx hb dX8_nextToken_45 rfl (lv_at hl 0 rfl) ?_
    refine lv_aload_n hx hb dX8_nextToken_46 rfl (lv_at hl 0 rfl) ?_
    refine G_RX8_51 C hw 0 rfl dX8_nextToken_47 ?_
    refine callVi (As := [.int t_start]) (rest := []) (W2 := fun _ => (cs_Text_nextToken g a_t a_t_bytes a_t_words a_t_values t_size t_lines t_fault t_points t_cases t_start t_end t_bytes)) C hw hl (c_Text_kindAt l g a_t a_t_bytes a_t_words a_t_values t_size t_lines t_fault t_points t_cases t_start t_end t_bytes t_start _ h) tw_384 kk_X8_kindAt rfl ⟨rfl, rfl⟩ ⟨by decide, by decide⟩ (Nat.le_of_ble_eq_true rfl) 0 rfl rfl rfl [0, 1] [] [0, 1] rfl rfl rfl rfl rfl rfl (fun u => rfl) rfl dX8_nextToken_50 (fun r_3 u H locs h hw => ?_)
    refine lv_istore_n (lv' := [(1, .int r_3), (0, .ref a_t)]) hx hb dX8_nextToken_53 rfl hl (by decide) rfl (fun ls hl => ?_)
    refine lv_aload_n hx hb dX8_nextToken_54 rfl (lv_at hl 1 rfl) ?_
    refine lv_aload_n hx hb dX8_nextToken_55 rfl (lv_at hl 1 rfl) ?_
    refine G_RX8_51 C hw 0 rfl dX8_nextToken_56 ?_
    refine lv_iconst (v := 1) hx hb dX8_nextToken_59 (by decide) ?_
    refine lv_iadd hx hb dX8_nextToken_60 ?_
    refine lv_aload_n hx hb dX8_nextToken_61 rfl (lv_at hl 1 rfl) ?_
    refine G_RX8_21 C hw 0 rfl dX8_nextToken_62 ?_
    refine mmin C hl tw_388 kmmin ⟨Nat.le_of_ble_eq_true rfl, Nat.le_of_ble_eq_true rfl⟩ dX8_nextToken_65 ?_
    refine lv_topi (fun t_end_4 et_end_4 => ?_)
    have h := h t_end_4 et_end_4
    refine U_RX8_37 (ws2 := (cs_Text_nextToken g a_t a_t_bytes a_t_words a_t_values t_size t_lines t_fault t_points t_cases t_start t_end_4 t_bytes)) C hw 0 rfl rfl rfl rfl dX8_nextToken_68 (fun H locs hw => ?_)
    obtain ⟨n_71, h⟩ := h
    exact hL_Text_nextToken_71 n_71 r_3 t_start t_end_4 h _ _ _ hw (lv_sub hl [1, 0] rfl)
  have hL_Text_nextToken_8 : ∀ (n : Nat) (t_start : Int32) (t_end : Int32), L_Text_nextToken_8 t_size t_bytes Q n t_start t_end → Wat p l e rm_Text_nextToken s m args below meth c A Qf g 2 (cs_Text_nextToken g a_t a_t_bytes a_t_words a_t_values t_size t_lines t_fault t_points t_cases t_start t_end t_bytes) [(0, .ref a_t)] 8 [] := by
    intro n
    induction n with
    | zero => intro t_start t_end h; exact absurd h id
    | succ n ih =>
      intro t_start t_end h H locs ls hw hl
      rw [L_Text_nextToken_8] at h
      refine lv_aload_n hx hb dX8_nextToken_8 rfl (lv_at hl 0 rfl) ?_
      refine G_RX8_51 C hw 0 rfl dX8_nextToken_9 ?_
      refine lv_aload_n hx hb dX8_nextToken_12 rfl (lv_at hl 0 rfl) ?_
      refine G_RX8_21 C hw 0 rfl dX8_nextToken_13 ?_
      refine lv_icmp_ge (tgt := 45) hx hb dX8_nextToken_16 (by decide) (fun c_16 => ?_) (fun c_16 => ?_)
      · have h := h.1 c_16
        exact hB_Text_nextToken_45 t_start t_end h _ _ _ hw (lv_sub hl [0] rfl)
      · have h := h.2 c_16
        refine lv_aload_n hx hb dX8_nextToken_19 rfl (lv_at hl 0 rfl) ?_
        refine lv_aload_n hx hb dX8_nextToken_20 rfl (lv_at hl 0 rfl) ?_
        refine G_RX8_51 C hw 0 rfl dX8_nextToken_21 ?_
        refine callVi (As := [.int t_start]) (rest := []) (W2 := fun _ => (cs_Text_nextToken g a_t a_t_bytes a_t_words a_t_values t_size t_lines t_fault t_points t_cases t_start t_end t_bytes)) C hw hl (c_Text_byteAt l g a_t a_t_bytes a_t_words a_t_values t_size t_lines t_fault t_points t_cases t_start t_end t_bytes t_start _ h) tw_380 kk_X8_byteAt rfl ⟨rfl, rfl⟩ ⟨by decide, by decide⟩ (Nat.le_of_ble_eq_true rfl) 0 rfl rfl rfl [0, 1] [] [0, 1] rfl rfl rfl rfl rfl rfl (fun u => rfl) rfl dX8_nextToken_24 (fun r_5 u H locs h hw => ?_)
        refine lv_bipush (v := 32) hx hb dX8_nextToken_27 (by decide) ?_
        refine lv_icmp_ne (tgt := 45) hx hb dX8_nextToken_29 (by decide) (fun c_29 => ?_) (fun c_29 => ?_)
        · have h := h.1 c_29
          exact hB_Text_nextToken_45 t_start t_end h _ _ _ hw (lv_sub hl [0] rfl)
        · have h := h.2 c_29
          refine lv_aload_n hx hb dX8_nextToken_32 rfl (lv_at hl 0 rfl) ?_
          refine lv_dup hx hb dX8_nextToken_33 rfl ?_
          refine G_RX8_51 C hw 0 rfl dX8_nextToken_34 ?_
          refine lv_iconst (v := 1) hx hb dX8_nextToken_37 (by decide) ?_
          refine lv_iadd hx hb dX8_nextToken_38 ?_
          refine lv_topi (fun t_start_6 et_start_6 => ?_)
          have h := h t_start_6 et_start_6
          refine U_RX8_51 (ws2 := (cs_Text_nextToken g a_t a_t_bytes a_t_words a_t_values t_size t_lines t_fault t_points t_cases t_start_6 t_end t_bytes)) C hw 0 rfl rfl rfl rfl dX8_nextToken_39 (fun H locs hw => ?_)
          refine lv_goto (tgt := 8) hx hb dX8_nextToken_42 (by decide) ?_
          exact ih t_start_6 t_end h _ _ _ hw (lv_sub hl [0] rfl)
  refine lv_aload_n hx hb dX8_nextToken_0 rfl (lv_at hl 0 rfl) ?_
  refine lv_aload_n hx hb dX8_nextToken_1 rfl (lv_at hl 0 rfl) ?_
  refine G_RX8_37 C hw 0 rfl dX8_nextToken_2 ?_
  refine U_RX8_51 (ws2 := (cs_Text_nextToken g a_t a_t_bytes a_t_words a_t_values t_size t_lines t_fault t_points t_cases t_end t_end t_bytes)) C hw 0 rfl rfl rfl rfl dX8_nextToken_5 (fun H locs hw => ?_)
  obtain ⟨n_8, h⟩ := h
  exact hL_Text_nextToken_8 n_8 t_end t_end h _ _ _ hw (lv_sub hl [0] rfl)
def L_Text_isWord_20 (x1 : Nat) (t_size : Int32) (t_start : Int32) (t_end : Int32) (t_bytes : (Nat → Int32)) (Q : Int32 → Prop) : Nat → Int32 → Prop
  | 0 => fun _ => False
  | n + 1 => fun x2 => x1 < 6 ∧ (∀ r_1 : Int32, r_1 = nI (lenJ.getD x1 0) → (r_1 ≤ x2 → Q 1) ∧ (¬ r_1 ≤ x2 → P_Text_byteAt (t_start + x2) t_size t_bytes (fun r_2 => x1 < 6 ∧ vp_in x2 (lenJ.getD x1 0) ∧ (∀ r_3 : Int32, r_3 = chJ x1 x2 → (r_2 = r_3 → (L_Text_isWord_20 x1 t_size t_start t_end t_bytes Q n) (x2 + 1)) ∧ (¬ r_2 = r_3 → Q 0)))))
def P_Text_isWord (x1 : Nat) (t_size : Int32) (t_start : Int32) (t_end : Int32) (t_bytes : (Nat → Int32)) (Q : Int32 → Prop) : Prop := x1 < 6 ∧ (∀ r_4 : Int32, r_4 = nI (lenJ.getD x1 0) → ((t_end - t_start) = r_4 → ∃ n_20 : Nat, L_Text_isWord_20 x1 t_size t_start t_end t_bytes Q n_20 0) ∧ (¬ (t_end - t_start) = r_4 → Q 0))
abbrev rm_Text_isWord : Room := { frames := 4, cells := 0, slots := 0, locals := 85 }
def cs_Text_isWord (g : GE) (a_t a_t_bytes a_t_words a_t_values : Nat) (t_size : Int32) (t_lines : Int32) (t_fault : Int32) (t_points : Int32) (t_cases : Int32) (t_start : Int32) (t_end : Int32) (t_bytes : (Nat → Int32)) : va_W := [oc a_t 8 [.ref a_t_bytes, .int t_size, .ref a_t_words, .ref a_t_values, .int t_lines, .int t_fault, .int t_points, .int t_cases, .int t_start, .int t_end], ai g a_t_bytes 200 t_bytes]
set_option maxHeartbeats 4000000 in
set_option maxRecDepth 100000 in
theorem c_Text_isWord (l : Launch) (g : GE) (a_t a_t_bytes a_t_words a_t_values : Nat) (t_size : Int32) (t_lines : Int32) (t_fault : Int32) (t_points : Int32) (t_cases : Int32) (t_start : Int32) (t_end : Int32) (t_bytes : (Nat → Int32)) (x1 : Nat) (Q : Int32 → Prop) (h : P_Text_isWord x1 t_size t_start t_end t_bytes Q) : Cti l g yX8_isWord cX8_isWord 3 (some .boolean) rm_Text_isWord [.ref a_t, .ref (g.2.2.1 x1)] (cs_Text_isWord g a_t a_t_bytes a_t_words a_t_values t_size t_lines t_fault t_points t_cases t_start t_end t_bytes) (S := Unit) (fun r u => Q r) (fun _ => (cs_Text_isWord g a_t a_t_bytes a_t_words a_t_values t_size t_lines t_fault t_points t_cases t_start t_end t_bytes)) := by
  refine meetI rfl (Nat.le_of_ble_eq_true rfl) ⟨rfl, rfl⟩ ?_
  intro p e s m args below meth c A Qf ls C hret hw hl
  have hx := C.1
  have hb := C.2.1
  have hown := C.2.2.2.1
  have hts := C.2.2.2.2.1
  have hE := C.2.2.2.2.2.1
  have hl : lv_has ls 3 [(0, .ref a_t), (1, .ref (g.2.2.1 x1))] := hl
  have hL_Text_isWord_20 : ∀ (n : Nat) (x2 : Int32), L_Text_isWord_20 x1 t_size t_start t_end t_bytes Q n x2 → Wat p l e rm_Text_isWord s m args below meth c A Qf g 3 (cs_Text_isWord g a_t a_t_bytes a_t_words a_t_values t_size t_lines t_fault t_points t_cases t_start t_end t_bytes) [(0, .ref a_t), (1, .ref (g.2.2.1 x1)), (2, .int x2)] 20 [] := by
    intro n
    induction n with
    | zero => intro x2 h; exact absurd h id
    | succ n ih =>
      intro x2 h H locs ls hw hl
      rw [L_Text_isWord_20] at h
      refine lv_iload_n hx hb dX8_isWord_20 rfl (lv_at hl 2 rfl) ?_
      refine lv_aload_n hx hb dX8_isWord_21 rfl (lv_at hl 1 rfl) ?_
      refine callKi (As := []) (rest := [.int x2]) C hw hl h.1 (c_Str_length l g x1 h.1) rfl tw_398 kk_J0_length_8abf5 rfl ⟨rfl, rfl⟩ ⟨by decide, by decide⟩ (Nat.le_of_ble_eq_true rfl) rfl dX8_isWord_22 (fun r_1 u H locs he hw => ?_)
      have h := h.2 r_1 he
      refine lv_icmp_ge (tgt := 54) hx hb dX8_isWord_25 (by decide) (fun c_25 => ?_) (fun c_25 => ?_)
      · have h := h.1 c_25
        refine lv_iconst (v := 1) hx hb dX8_isWord_54 (by decide) ?_
        exact hret () h hw dX8_isWord_55 rfl
      · have h := h.2 c_25
        refine lv_aload_n hx hb dX8_isWord_28 rfl (lv_at hl 0 rfl) ?_
        refine lv_aload_n hx hb dX8_isWord_29 rfl (lv_at hl 0 rfl) ?_
        refine G_RX8_51 C hw 0 rfl dX8_isWord_30 ?_
        refine lv_iload_n hx hb dX8_isWord_33 rfl (lv_at hl 2 rfl) ?_
        refine lv_iadd hx hb dX8_isWord_34 ?_
        refine callVi (As := [.int (t_start + x2)]) (rest := []) (W2 := fun _ => (cs_Text_isWord g a_t a_t_bytes a_t_words a_t_values t_size t_lines t_fault t_points t_cases t_start t_end t_bytes)) C hw hl (c_Text_byteAt l g a_t a_t_bytes a_t_words a_t_values t_size t_lines t_fault t_points t_cases t_start t_end t_bytes (t_start + x2) _ h) tw_380 kk_X8_byteAt rfl ⟨rfl, rfl⟩ ⟨by decide, by decide⟩ (Nat.le_of_ble_eq_true rfl) 0 rfl rfl rfl [0, 1] [] [0, 1] rfl rfl rfl rfl rfl rfl (fun u => rfl) rfl dX8_isWord_35 (fun r_2 u H locs h hw => ?_)
        refine lv_aload_n hx hb dX8_isWord_38 rfl (lv_at hl 1 rfl) ?_
        refine lv_iload_n hx hb dX8_isWord_39 rfl (lv_at hl 2 rfl) ?_
        refine callKi (As := [.int x2]) (rest := [.int r_2]) C hw hl h.1 (c_Str_charAt l g x1 h.1 x2 h.2.1) rfl tw_408 kk_J0_charAt_5068e rfl ⟨rfl, rfl⟩ ⟨by decide, by decide⟩ (Nat.le_of_ble_eq_true rfl) rfl dX8_isWord_40 (fun r_3 u H locs he hw => ?_)
        have h := h.2.2 r_3 he
        refine lv_icmp_eq (tgt := 48) hx hb dX8_isWord_43 (by decide) (fun c_43 => ?_) (fun c_43 => ?_)
        · have h := h.1 c_43
          refine lv_iinc (v := x2 + 1) (lv' := [(2, .int (x2 + 1)), (0, .ref a_t), (1, .ref (g.2.2.1 x1))]) hx hb dX8_isWord_48 hl (k := 2) rfl rfl (by decide) rfl (fun ls hl => ?_)
          refine lv_goto (tgt := 20) hx hb dX8_isWord_51 (by decide) ?_
          exact ih (x2 + 1) h _ _ _ hw (lv_sub hl [1, 2, 0] rfl)
        · have h := h.2 c_43
          refine lv_iconst (v := 0) hx hb dX8_isWord_46 (by decide) ?_
          exact hret () h hw dX8_isWord_47 rfl
  refine lv_aload_n hx hb dX8_isWord_0 rfl (lv_at hl 0 rfl) ?_
  refine G_RX8_37 C hw 0 rfl dX8_isWord_1 ?_
  refine lv_aload_n hx hb dX8_isWord_4 rfl (lv_at hl 0 rfl) ?_
  refine G_RX8_51 C hw 0 rfl dX8_isWord_5 ?_
  refine lv_isub hx hb dX8_isWord_8 ?_
  refine lv_aload_n hx hb dX8_isWord_9 rfl (lv_at hl 1 rfl) ?_
  refine callKi (As := []) (rest := [.int (t_end - t_start)]) C hw hl h.1 (c_Str_length l g x1 h.1) rfl tw_398 kk_J0_length_8abf5 rfl ⟨rfl, rfl⟩ ⟨by decide, by decide⟩ (Nat.le_of_ble_eq_true rfl) rfl dX8_isWord_10 (fun r_4 u H locs he hw => ?_)
  have h := h.2 r_4 he
  refine lv_icmp_eq (tgt := 18) hx hb dX8_isWord_13 (by decide) (fun c_13 => ?_) (fun c_13 => ?_)
  · have h := h.1 c_13
    refine lv_iconst (v := 0) hx hb dX8_isWord_18 (by decide) ?_
    refine lv_istore_n (lv' := [(2, .int 0), (0, .ref a_t), (1, .ref (g.2.2.1 x1))]) hx hb dX8_isWord_19 rfl hl (by decide) rfl (fun ls hl => ?_)
    obtain ⟨n_20, h⟩ := h
    exact hL_Text_isWord_20 n_20 0 h _ _ _ hw (lv_sub hl [1, 2, 0] rfl)
  · have h := h.2 c_13
    refine lv_iconst (v := 0) hx hb dX8_isWord_16 (by decide) ?_
    exact hret () h hw dX8_isWord_17 rfl
def B_Text_wordHere_69 (t_size : Int32) (t_start : Int32) (t_end : Int32) (t_bytes : (Nat → Int32)) (Q : Int32 → Prop) (k0 : Int32) : Prop := Q k0
def P_Text_wordHere (t_size : Int32) (t_start : Int32) (t_end : Int32) (t_bytes : (Nat → Int32)) (Q : Int32 → Prop) : Prop := P_Text_isWord 0 t_size t_start t_end t_bytes (fun r_1 => (r_1 = 0 → P_Text_isWord 1 t_size t_start t_end t_bytes (fun r_2 => (r_2 = 0 → P_Text_isWord 2 t_size t_start t_end t_bytes (fun r_3 => (r_3 = 0 → P_Text_isWord 3 t_size t_start t_end t_bytes (fun r_4 => (r_4 = 0 → P_Text_isWord 4 t_size t_start t_end t_bytes (fun r_5 => (r_5 = 0 → P_Text_isWord 5 t_size t_start t_end t_bytes (fun r_6 => (r_6 = 0 → B_Text_wordHere_69 t_size t_start t_end t_bytes Q (-1)) ∧ (¬ r_6 = 0 → B_Text_wordHere_69 t_size t_start t_end t_bytes Q 5))) ∧ (¬ r_5 = 0 → Q 4))) ∧ (¬ r_4 = 0 → Q 3))) ∧ (¬ r_3 = 0 → Q 2))) ∧ (¬ r_2 = 0 → Q 1))) ∧ (¬ r_1 = 0 → Q 0))
abbrev rm_Text_wordHere : Room := { frames := 5, cells := 0, slots := 0, locals := 107 }
def cs_Text_wordHere (g : GE) (a_t a_t_bytes a_t_words a_t_values : Nat) (t_size : Int32) (t_lines : Int32) (t_fault : Int32) (t_points : Int32) (t_cases : Int32) (t_start : Int32) (t_end : Int32) (t_bytes : (Nat → Int32)) : va_W := [oc a_t 8 [.ref a_t_bytes, .int t_size, .ref a_t_words, .ref a_t_values, .int t_lines, .int t_fault, .int t_points, .int t_cases, .int t_start, .int t_end], ai g a_t_bytes 200 t_bytes]
set_option maxHeartbeats 4000000 in
set_option maxRecDepth 100000 in
theorem c_Text_wordHere (l : Launch) (g : GE) (a_t a_t_bytes a_t_words a_t_values : Nat) (t_size : Int32) (t_lines : Int32) (t_fault : Int32) (t_points : Int32) (t_cases : Int32) (t_start : Int32) (t_end : Int32) (t_bytes : (Nat → Int32)) (Q : Int32 → Prop) (h : P_Text_wordHere t_size t_start t_end t_bytes Q) : Cti l g yX8_wordHere cX8_wordHere 1 (some .int) rm_Text_wordHere [.ref a_t] (cs_Text_wordHere g a_t a_t_bytes a_t_words a_t_values t_size t_lines t_fault t_points t_cases t_start t_end t_bytes) (S := Unit) (fun r u => Q r) (fun _ => (cs_Text_wordHere g a_t a_t_bytes a_t_words a_t_values t_size t_lines t_fault t_points t_cases t_start t_end t_bytes)) := by
  refine meetI rfl (Nat.le_of_ble_eq_true rfl) ⟨rfl, rfl⟩ ?_
  intro p e s m args below meth c A Qf ls C hret hw hl
  have hx := C.1
  have hb := C.2.1
  have hown := C.2.2.2.1
  have hts := C.2.2.2.2.1
  have hE := C.2.2.2.2.2.1
  have hl : lv_has ls 1 [(0, .ref a_t)] := hl
  have hB_Text_wordHere_69 : ∀ (k0 : Int32), B_Text_wordHere_69 t_size t_start t_end t_bytes Q k0 → Wat p l e rm_Text_wordHere s m args below meth c A Qf g 1 (cs_Text_wordHere g a_t a_t_bytes a_t_words a_t_values t_size t_lines t_fault t_points t_cases t_start t_end t_bytes) [] 69 [.int k0] := by
    intro k0 h H locs ls hw hl
    exact hret () h hw dX8_wordHere_69 rfl
  refine lv_aload_n hx hb dX8_wordHere_0 rfl (lv_at hl 0 rfl) ?_
  refine va_ldcS hx hb hown (hE.2.2 0 88 "land" rfl) dX8_wordHere_1 ?_
  refine callVi (As := [.ref (g.2.2.1 0)]) (rest := []) (W2 := fun _ => (cs_Text_wordHere g a_t a_t_bytes a_t_words a_t_values t_size t_lines t_fault t_points t_cases t_start t_end t_bytes)) C hw hl (c_Text_isWord l g a_t a_t_bytes a_t_words a_t_values t_size t_lines t_fault t_points t_cases t_start t_end t_bytes 0 _ h) tw_394 kk_X8_isWord rfl ⟨rfl, rfl⟩ ⟨by decide, by decide⟩ (Nat.le_of_ble_eq_true rfl) 0 rfl rfl rfl [0, 1] [] [0, 1] rfl rfl rfl rfl rfl rfl (fun u => rfl) rfl dX8_wordHere_3 (fun r_1 u H locs h hw => ?_)
  refine lv_if_eq (tgt := 11) hx hb dX8_wordHere_6 (by decide) (fun c_6 => ?_) (fun c_6 => ?_)
  · have h := h.1 c_6
    refine lv_aload_n hx hb dX8_wordHere_11 rfl (lv_at hl 0 rfl) ?_
    refine va_ldcS hx hb hown (hE.2.2 1 94 "weight" rfl) dX8_wordHere_12 ?_
    refine callVi (As := [.ref (g.2.2.1 1)]) (rest := []) (W2 := fun _ => (cs_Text_wordHere g a_t a_t_bytes a_t_words a_t_values t_size t_lines t_fault t_points t_cases t_start t_end t_bytes)) C hw hl (c_Text_isWord l g a_t a_t_bytes a_t_words a_t_values t_size t_lines t_fault t_points t_cases t_start t_end t_bytes 1 _ h) tw_394 kk_X8_isWord rfl ⟨rfl, rfl⟩ ⟨by decide, by decide⟩ (Nat.le_of_ble_eq_true rfl) 0 rfl rfl rfl [0, 1] [] [0, 1] rfl rfl rfl rfl rfl rfl (fun u => rfl) rfl dX8_wordHere_14 (fun r_2 u H locs h hw => ?_)
    refine lv_if_eq (tgt := 22) hx hb dX8_wordHere_17 (by decide) (fun c_17 => ?_) (fun c_17 => ?_)
    · have h := h.1 c_17
      refine lv_aload_n hx hb dX8_wordHere_22 rfl (lv_at hl 0 rfl) ?_
      refine va_ldcS hx hb hown (hE.2.2 2 96 "cost" rfl) dX8_wordHere_23 ?_
      refine callVi (As := [.ref (g.2.2.1 2)]) (rest := []) (W2 := fun _ => (cs_Text_wordHere g a_t a_t_bytes a_t_words a_t_values t_size t_lines t_fault t_points t_cases t_start t_end t_bytes)) C hw hl (c_Text_isWord l g a_t a_t_bytes a_t_words a_t_values t_size t_lines t_fault t_points t_cases t_start t_end t_bytes 2 _ h) tw_394 kk_X8_isWord rfl ⟨rfl, rfl⟩ ⟨by decide, by decide⟩ (Nat.le_of_ble_eq_true rfl) 0 rfl rfl rfl [0, 1] [] [0, 1] rfl rfl rfl rfl rfl rfl (fun u => rfl) rfl dX8_wordHere_25 (fun r_3 u H locs h hw => ?_)
      refine lv_if_eq (tgt := 33) hx hb dX8_wordHere_28 (by decide) (fun c_28 => ?_) (fun c_28 => ?_)
      · have h := h.1 c_28
        refine lv_aload_n hx hb dX8_wordHere_33 rfl (lv_at hl 0 rfl) ?_
        refine va_ldcS hx hb hown (hE.2.2 3 98 "case" rfl) dX8_wordHere_34 ?_
        refine callVi (As := [.ref (g.2.2.1 3)]) (rest := []) (W2 := fun _ => (cs_Text_wordHere g a_t a_t_bytes a_t_words a_t_values t_size t_lines t_fault t_points t_cases t_start t_end t_bytes)) C hw hl (c_Text_isWord l g a_t a_t_bytes a_t_words a_t_values t_size t_lines t_fault t_points t_cases t_start t_end t_bytes 3 _ h) tw_394 kk_X8_isWord rfl ⟨rfl, rfl⟩ ⟨by decide, by decide⟩ (Nat.le_of_ble_eq_true rfl) 0 rfl rfl rfl [0, 1] [] [0, 1] rfl rfl rfl rfl rfl rfl (fun u => rfl) rfl dX8_wordHere_36 (fun r_4 u H locs h hw => ?_)
        refine lv_if_eq (tgt := 44) hx hb dX8_wordHere_39 (by decide) (fun c_39 => ?_) (fun c_39 => ?_)
        · have h := h.1 c_39
          refine lv_aload_n hx hb dX8_wordHere_44 rfl (lv_at hl 0 rfl) ?_
          refine va_ldcS hx hb hown (hE.2.2 4 100 "pardon" rfl) dX8_wordHere_45 ?_
          refine callVi (As := [.ref (g.2.2.1 4)]) (rest := []) (W2 := fun _ => (cs_Text_wordHere g a_t a_t_bytes a_t_words a_t_values t_size t_lines t_fault t_points t_cases t_start t_end t_bytes)) C hw hl (c_Text_isWord l g a_t a_t_bytes a_t_words a_t_values t_size t_lines t_fault t_points t_cases t_start t_end t_bytes 4 _ h) tw_394 kk_X8_isWord rfl ⟨rfl, rfl⟩ ⟨by decide, by decide⟩ (Nat.le_of_ble_eq_true rfl) 0 rfl rfl rfl [0, 1] [] [0, 1] rfl rfl rfl rfl rfl rfl (fun u => rfl) rfl dX8_wordHere_47 (fun r_5 u H locs h hw => ?_)
          refine lv_if_eq (tgt := 55) hx hb dX8_wordHere_50 (by decide) (fun c_50 => ?_) (fun c_50 => ?_)
          · have h := h.1 c_50
            refine lv_aload_n hx hb dX8_wordHere_55 rfl (lv_at hl 0 rfl) ?_
            refine va_ldcS hx hb hown (hE.2.2 5 102 "drop" rfl) dX8_wordHere_56 ?_
            refine callVi (As := [.ref (g.2.2.1 5)]) (rest := []) (W2 := fun _ => (cs_Text_wordHere g a_t a_t_bytes a_t_words a_t_values t_size t_lines t_fault t_points t_cases t_start t_end t_bytes)) C hw hl (c_Text_isWord l g a_t a_t_bytes a_t_words a_t_values t_size t_lines t_fault t_points t_cases t_start t_end t_bytes 5 _ h) tw_394 kk_X8_isWord rfl ⟨rfl, rfl⟩ ⟨by decide, by decide⟩ (Nat.le_of_ble_eq_true rfl) 0 rfl rfl rfl [0, 1] [] [0, 1] rfl rfl rfl rfl rfl rfl (fun u => rfl) rfl dX8_wordHere_58 (fun r_6 u H locs h hw => ?_)
            refine lv_if_eq (tgt := 68) hx hb dX8_wordHere_61 (by decide) (fun c_61 => ?_) (fun c_61 => ?_)
            · have h := h.1 c_61
              refine lv_iconst (v := (-1)) hx hb dX8_wordHere_68 (by decide) ?_
              exact hB_Text_wordHere_69 (-1) h _ _ _ hw (lv_sub hl [] rfl)
            · have h := h.2 c_61
              refine lv_iconst (v := 5) hx hb dX8_wordHere_64 (by decide) ?_
              refine lv_goto (tgt := 69) hx hb dX8_wordHere_65 (by decide) ?_
              exact hB_Text_wordHere_69 5 h _ _ _ hw (lv_sub hl [] rfl)
          · have h := h.2 c_50
            refine lv_iconst (v := 4) hx hb dX8_wordHere_53 (by decide) ?_
            exact hret () h hw dX8_wordHere_54 rfl
        · have h := h.2 c_39
          refine lv_iconst (v := 3) hx hb dX8_wordHere_42 (by decide) ?_
          exact hret () h hw dX8_wordHere_43 rfl
      · have h := h.2 c_28
        refine lv_iconst (v := 2) hx hb dX8_wordHere_31 (by decide) ?_
        exact hret () h hw dX8_wordHere_32 rfl
    · have h := h.2 c_17
      refine lv_iconst (v := 1) hx hb dX8_wordHere_20 (by decide) ?_
      exact hret () h hw dX8_wordHere_21 rfl
  · have h := h.2 c_6
    refine lv_iconst (v := 0) hx hb dX8_wordHere_9 (by decide) ?_
    exact hret () h hw dX8_wordHere_10 rfl
def B_Text_fail_16 (t_start : Int32) (Q : Int32 → Prop) (t_fault : Int32) : Prop := Q t_fault
def P_Text_fail (t_fault : Int32) (t_start : Int32) (Q : Int32 → Prop) : Prop := (¬ t_fault = (-1) → B_Text_fail_16 t_start Q t_fault) ∧ (t_fault = (-1) → B_Text_fail_16 t_start Q t_start)
abbrev rm_Text_fail : Room := { frames := 0, cells := 0, slots := 0, locals := 0 }
def cs_Text_fail (g : GE) (a_t a_t_bytes a_t_words a_t_values : Nat) (t_size : Int32) (t_lines : Int32) (t_fault : Int32) (t_points : Int32) (t_cases : Int32) (t_start : Int32) (t_end : Int32) : va_W := [oc a_t 8 [.ref a_t_bytes, .int t_size, .ref a_t_words, .ref a_t_values, .int t_lines, .int t_fault, .int t_points, .int t_cases, .int t_start, .int t_end]]
set_option maxHeartbeats 4000000 in
set_option maxRecDepth 100000 in
theorem c_Text_fail (l : Launch) (g : GE) (a_t a_t_bytes a_t_words a_t_values : Nat) (t_size : Int32) (t_lines : Int32) (t_fault : Int32) (t_points : Int32) (t_cases : Int32) (t_start : Int32) (t_end : Int32) (Q : Int32 → Prop) (h : P_Text_fail t_fault t_start Q) : Ctv l g yX8_fail cX8_fail 1 none rm_Text_fail [.ref a_t] (cs_Text_fail g a_t a_t_bytes a_t_words a_t_values t_size t_lines t_fault t_points t_cases t_start t_end) (S := Int32) (fun u => Q u) (fun u => (cs_Text_fail g a_t a_t_bytes a_t_words a_t_values t_size t_lines u t_points t_cases t_start t_end)) := by
  refine meetV rfl (Nat.le_of_ble_eq_true rfl) ⟨rfl, rfl⟩ ?_
  intro p e s m args below meth c A Qf ls C hret hw hl
  have hx := C.1
  have hb := C.2.1
  have hown := C.2.2.2.1
  have hts := C.2.2.2.2.1
  have hE := C.2.2.2.2.2.1
  have hl : lv_has ls 1 [(0, .ref a_t)] := hl
  have hB_Text_fail_16 : ∀ (t_fault : Int32), B_Text_fail_16 t_start Q t_fault → Wat p l e rm_Text_fail s m args below meth c A Qf g 1 (cs_Text_fail g a_t a_t_bytes a_t_words a_t_values t_size t_lines t_fault t_points t_cases t_start t_end) [] 16 [] := by
    intro t_fault h H locs ls hw hl
    exact hret (t_fault) h hw dX8_fail_16
  refine lv_aload_n hx hb dX8_fail_0 rfl (lv_at hl 0 rfl) ?_
  refine G_RX8_34 C hw 0 rfl dX8_fail_1 ?_
  refine lv_iconst (v := (-1)) hx hb dX8_fail_4 (by decide) ?_
  refine lv_icmp_ne (tgt := 16) hx hb dX8_fail_5 (by decide) (fun c_5 => ?_) (fun c_5 => ?_)
  · have h := h.1 c_5
    exact hB_Text_fail_16 t_fault h _ _ _ hw (lv_sub hl [] rfl)
  · have h := h.2 c_5
    refine lv_aload_n hx hb dX8_fail_8 rfl (lv_at hl 0 rfl) ?_
    refine lv_aload_n hx hb dX8_fail_9 rfl (lv_at hl 0 rfl) ?_
    refine G_RX8_51 C hw 0 rfl dX8_fail_10 ?_
    refine U_RX8_34 (ws2 := (cs_Text_fail g a_t a_t_bytes a_t_words a_t_values t_size t_lines t_start t_points t_cases t_start t_end)) C hw 0 rfl rfl rfl rfl dX8_fail_13 (fun H locs hw => ?_)
    exact hB_Text_fail_16 t_start h _ _ _ hw (lv_sub hl [] rfl)
def B_Text_figures_32 (t_size : Int32) (t_points : Int32) (t_bytes : (Nat → Int32)) (Q : Int32 → Int32 → Int32 → Int32 → Prop) (t_fault : Int32) (t_start : Int32) (t_end : Int32) : Prop := P_Text_fail t_fault t_start (fun t_fault_1 => Q 0 t_fault_1 t_start t_end)
def L_Text_figures_42 (t_size : Int32) (t_points : Int32) (t_bytes : (Nat → Int32)) (Q : Int32 → Int32 → Int32 → Int32 → Prop) : Nat → Int32 → Int32 → Int32 → Int32 → Int32 → Prop
  | 0 => fun _ _ _ _ _ => False
  | n + 1 => fun x1 x2 t_fault t_start t_end => (t_points ≤ x2 → Q x1 t_fault t_start t_end) ∧ (¬ t_points ≤ x2 → P_Text_byteAt (t_start + x2) t_size t_bytes (fun r_2 => ∀ x3_3 : Int32, x3_3 = (r_2 - 48) → (x3_3 ≤ 1 → ∀ x1_4 : Int32, x1_4 = (x1 ||| (x3_3 <<< (x2 &&& 31))) → (L_Text_figures_42 t_size t_points t_bytes Q n) x1_4 (x2 + 1) t_fault t_start t_end) ∧ (¬ x3_3 ≤ 1 → P_Text_fail t_fault t_start (fun t_fault_5 => Q 0 t_fault_5 t_start t_end))))
def P_Text_figures (t_size : Int32) (t_fault : Int32) (t_points : Int32) (t_start : Int32) (t_end : Int32) (t_bytes : (Nat → Int32)) (Q : Int32 → Int32 → Int32 → Int32 → Prop) : Prop := P_Text_nextToken t_size t_start t_end t_bytes (fun t_start_6 t_end_7 => P_Text_kindAt t_start_6 t_size t_bytes (fun r_8 => (¬ r_8 = 1 → B_Text_figures_32 t_size t_points t_bytes Q t_fault t_start_6 t_end_7) ∧ (r_8 = 1 → ((t_end_7 - t_start_6) = t_points → ∃ n_42 : Nat, L_Text_figures_42 t_size t_points t_bytes Q n_42 0 0 t_fault t_start_6 t_end_7) ∧ (¬ (t_end_7 - t_start_6) = t_points → B_Text_figures_32 t_size t_points t_bytes Q t_fault t_start_6 t_end_7))))
abbrev rm_Text_figures : Room := { frames := 2, cells := 0, slots := 0, locals := 44 }
def cs_Text_figures (g : GE) (a_t a_t_bytes a_t_words a_t_values : Nat) (t_size : Int32) (t_lines : Int32) (t_fault : Int32) (t_points : Int32) (t_cases : Int32) (t_start : Int32) (t_end : Int32) (t_bytes : (Nat → Int32)) : va_W := [oc a_t 8 [.ref a_t_bytes, .int t_size, .ref a_t_words, .ref a_t_values, .int t_lines, .int t_fault, .int t_points, .int t_cases, .int t_start, .int t_end], ai g a_t_bytes 200 t_bytes]
set_option maxHeartbeats 4000000 in
set_option maxRecDepth 100000 in
theorem c_Text_figures (l : Launch) (g : GE) (a_t a_t_bytes a_t_words a_t_values : Nat) (t_size : Int32) (t_lines : Int32) (t_fault : Int32) (t_points : Int32) (t_cases : Int32) (t_start : Int32) (t_end : Int32) (t_bytes : (Nat → Int32)) (Q : Int32 → Int32 → Int32 → Int32 → Prop) (h : P_Text_figures t_size t_fault t_points t_start t_end t_bytes Q) : Cti l g yX8_figures cX8_figures 4 (some .int) rm_Text_figures [.ref a_t] (cs_Text_figures g a_t a_t_bytes a_t_words a_t_values t_size t_lines t_fault t_points t_cases t_start t_end t_bytes) (S := Int32 × Int32 × Int32) (fun r u => Q r u.1 u.2.1 u.2.2) (fun u => (cs_Text_figures g a_t a_t_bytes a_t_words a_t_values t_size t_lines (u.1) t_points t_cases (u.2.1) (u.2.2) t_bytes)) := by
  refine meetI rfl (Nat.le_of_ble_eq_true rfl) ⟨rfl, rfl⟩ ?_
  intro p e s m args below meth c A Qf ls C hret hw hl
  have hx := C.1
  have hb := C.2.1
  have hown := C.2.2.2.1
  have hts := C.2.2.2.2.1
  have hE := C.2.2.2.2.2.1
  have hl : lv_has ls 4 [(0, .ref a_t)] := hl
  have hB_Text_figures_32 : ∀ (t_fault : Int32) (t_start : Int32) (t_end : Int32), B_Text_figures_32 t_size t_points t_bytes Q t_fault t_start t_end → Wat p l e rm_Text_figures s m args below meth c A Qf g 4 (cs_Text_figures g a_t a_t_bytes a_t_words a_t_values t_size t_lines t_fault t_points t_cases t_start t_end t_bytes) [(0, .ref a_t)] 32 [] := by
    intro t_fault t_start t_end h H locs ls hw hl
    refine lv_aload_n hx hb dX8_figures_32 rfl (lv_at hl 0 rfl) ?_
    refine callVv (As := []) (rest := []) (W2 := fun u => (cs_Text_figures g a_t a_t_bytes a_t_words a_t_values t_size t_lines u t_points t_cases t_start t_end t_bytes)) C hw hl (c_Text_fail l g a_t a_t_bytes a_t_words a_t_values t_size t_lines t_fault t_points t_cases t_start t_end _ h) tw_451 kk_X8_fail rfl ⟨rfl, rfl⟩ ⟨by decide, by decide⟩ (Nat.le_of_ble_eq_true rfl) 0 rfl rfl rfl [0] [1] [1, 0] rfl rfl rfl rfl rfl rfl (fun u => rfl) rfl dX8_figures_33 (fun u H locs h hw => ?_)
    obtain ⟨t_fault_1, rfl⟩ : ∃ z, z = u := ⟨_, rfl⟩
    have hw : Wd g A s (cs_Text_figures g a_t a_t_bytes a_t_words a_t_values t_size t_lines t_fault_1 t_points t_cases t_start t_end t_bytes) H locs := hw
    refine lv_iconst (v := 0) hx hb dX8_figures_36 (by decide) ?_
    exact hret (t_fault_1, t_start, t_end) h hw dX8_figures_37 rfl
  have hL_Text_figures_42 : ∀ (n : Nat) (x1 : Int32) (x2 : Int32) (t_fault : Int32) (t_start : Int32) (t_end : Int32), L_Text_figures_42 t_size t_points t_bytes Q n x1 x2 t_fault t_start t_end → Wat p l e rm_Text_figures s m args below meth c A Qf g 4 (cs_Text_figures g a_t a_t_bytes a_t_words a_t_values t_size t_lines t_fault t_points t_cases t_start t_end t_bytes) [(0, .ref a_t), (1, .int x1), (2, .int x2)] 42 [] := by
    intro n
    induction n with
    | zero => intro x1 x2 t_fault t_start t_end h; exact absurd h id
    | succ n ih =>
      intro x1 x2 t_fault t_start t_end h H locs ls hw hl
      rw [L_Text_figures_42] at h
      refine lv_iload_n hx hb dX8_figures_42 rfl (lv_at hl 2 rfl) ?_
      refine lv_aload_n hx hb dX8_figures_43 rfl (lv_at hl 0 rfl) ?_
      refine G_RX8_28 C hw 0 rfl dX8_figures_44 ?_
      refine lv_icmp_ge (tgt := 87) hx hb dX8_figures_47 (by decide) (fun c_47 => ?_) (fun c_47 => ?_)
      · have h := h.1 c_47
        refine lv_iload_n hx hb dX8_figures_87 rfl (lv_at hl 1 rfl) ?_
        exact hret (t_fault, t_start, t_end) h hw dX8_figures_88 rfl
      · have h := h.2 c_47
        refine lv_aload_n hx hb dX8_figures_50 rfl (lv_at hl 0 rfl) ?_
        refine lv_aload_n hx hb dX8_figures_51 rfl (lv_at hl 0 rfl) ?_
        refine G_RX8_51 C hw 0 rfl dX8_figures_52 ?_
        refine lv_iload_n hx hb dX8_figures_55 rfl (lv_at hl 2 rfl) ?_
        refine lv_iadd hx hb dX8_figures_56 ?_
        refine callVi (As := [.int (t_start + x2)]) (rest := []) (W2 := fun _ => (cs_Text_figures g a_t a_t_bytes a_t_words a_t_values t_size t_lines t_fault t_points t_cases t_start t_end t_bytes)) C hw hl (c_Text_byteAt l g a_t a_t_bytes a_t_words a_t_values t_size t_lines t_fault t_points t_cases t_start t_end t_bytes (t_start + x2) _ h) tw_380 kk_X8_byteAt rfl ⟨rfl, rfl⟩ ⟨by decide, by decide⟩ (Nat.le_of_ble_eq_true rfl) 0 rfl rfl rfl [0, 1] [] [0, 1] rfl rfl rfl rfl rfl rfl (fun u => rfl) rfl dX8_figures_57 (fun r_2 u H locs h hw => ?_)
        refine lv_bipush (v := 48) hx hb dX8_figures_60 (by decide) ?_
        refine lv_isub hx hb dX8_figures_62 ?_
        refine lv_topi (fun x3_3 ex3_3 => ?_)
        have h := h x3_3 ex3_3
        refine lv_istore_n (lv' := [(3, .int x3_3), (0, .ref a_t), (1, .int x1), (2, .int x2)]) hx hb dX8_figures_63 rfl hl (by decide) rfl (fun ls hl => ?_)
        refine lv_iload_n hx hb dX8_figures_64 rfl (lv_at hl 0 rfl) ?_
        refine lv_iconst (v := 1) hx hb dX8_figures_65 (by decide) ?_
        refine lv_icmp_le (tgt := 75) hx hb dX8_figures_66 (by decide) (fun c_66 => ?_) (fun c_66 => ?_)
        · have h := h.1 c_66
          refine lv_iload_n hx hb dX8_figures_75 rfl (lv_at hl 2 rfl) ?_
          refine lv_iload_n hx hb dX8_figures_76 rfl (lv_at hl 0 rfl) ?_
          refine lv_iload_n hx hb dX8_figures_77 rfl (lv_at hl 3 rfl) ?_
          refine lv_ishl hx hb dX8_figures_78 ?_
          refine lv_ior hx hb dX8_figures_79 ?_
          refine lv_topi (fun x1_4 ex1_4 => ?_)
          have h := h x1_4 ex1_4
          refine lv_istore_n (lv' := [(1, .int x1_4), (3, .int x3_3), (0, .ref a_t), (2, .int x2)]) hx hb dX8_figures_80 rfl hl (by decide) rfl (fun ls hl => ?_)
          refine lv_iinc (v := x2 + 1) (lv' := [(2, .int (x2 + 1)), (1, .int x1_4), (3, .int x3_3), (0, .ref a_t)]) hx hb dX8_figures_81 hl (k := 3) rfl rfl (by decide) rfl (fun ls hl => ?_)
          refine lv_goto (tgt := 42) hx hb dX8_figures_84 (by decide) ?_
          exact ih x1_4 (x2 + 1) t_fault t_start t_end h _ _ _ hw (lv_sub hl [3, 1, 0] rfl)
        · have h := h.2 c_66
          refine lv_aload_n hx hb dX8_figures_69 rfl (lv_at hl 1 rfl) ?_
          refine callVv (As := []) (rest := []) (W2 := fun u => (cs_Text_figures g a_t a_t_bytes a_t_words a_t_values t_size t_lines u t_points t_cases t_start t_end t_bytes)) C hw hl (c_Text_fail l g a_t a_t_bytes a_t_words a_t_values t_size t_lines t_fault t_points t_cases t_start t_end _ h) tw_451 kk_X8_fail rfl ⟨rfl, rfl⟩ ⟨by decide, by decide⟩ (Nat.le_of_ble_eq_true rfl) 0 rfl rfl rfl [0] [1] [1, 0] rfl rfl rfl rfl rfl rfl (fun u => rfl) rfl dX8_figures_70 (fun u H locs h hw => ?_)
          obtain ⟨t_fault_5, rfl⟩ : ∃ z, z = u := ⟨_, rfl⟩
          have hw : Wd g A s (cs_Text_figures g a_t a_t_bytes a_t_words a_t_values t_size t_lines t_fault_5 t_points t_cases t_start t_end t_bytes) H locs := hw
          refine lv_iconst (v := 0) hx hb dX8_figures_73 (by decide) ?_
          exact hret (t_fault_5, t_start, t_end) h hw dX8_figures_74 rfl
  refine lv_aload_n hx hb dX8_figures_0 rfl (lv_at hl 0 rfl) ?_
  refine callVv (As := []) (rest := []) (W2 := fun u => (cs_Text_figures g a_t a_t_bytes a_t_words a_t_values t_size t_lines t_fault t_points t_cases (u.1) (u.2) t_bytes)) C hw hl (c_Text_nextToken l g a_t a_t_bytes a_t_words a_t_values t_size t_lines t_fault t_points t_cases t_start t_end t_bytes _ h) tw_376 kk_X8_nextToken rfl ⟨rfl, rfl⟩ ⟨by decide, by decide⟩ (Nat.le_of_ble_eq_true rfl) 0 rfl rfl rfl [0, 1] [] [0, 1] rfl rfl rfl rfl rfl rfl (fun u => rfl) rfl dX8_figures_1 (fun u H locs h hw => ?_)
  obtain ⟨t_start_6, t_end_7⟩ := u
  have hw : Wd g A s (cs_Text_figures g a_t a_t_bytes a_t_words a_t_values t_size t_lines t_fault t_points t_cases t_start_6 t_end_7 t_bytes) H locs := hw
  refine lv_aload_n hx hb dX8_figures_4 rfl (lv_at hl 0 rfl) ?_
  refine lv_aload_n hx hb dX8_figures_5 rfl (lv_at hl 0 rfl) ?_
  refine G_RX8_51 C hw 0 rfl dX8_figures_6 ?_
  refine callVi (As := [.int t_start_6]) (rest := []) (W2 := fun _ => (cs_Text_figures g a_t a_t_bytes a_t_words a_t_values t_size t_lines t_fault t_points t_cases t_start_6 t_end_7 t_bytes)) C hw hl (c_Text_kindAt l g a_t a_t_bytes a_t_words a_t_values t_size t_lines t_fault t_points t_cases t_start_6 t_end_7 t_bytes t_start_6 _ h) tw_384 kk_X8_kindAt rfl ⟨rfl, rfl⟩ ⟨by decide, by decide⟩ (Nat.le_of_ble_eq_true rfl) 0 rfl rfl rfl [0, 1] [] [0, 1] rfl rfl rfl rfl rfl rfl (fun u => rfl) rfl dX8_figures_9 (fun r_8 u H locs h hw => ?_)
  refine lv_iconst (v := 1) hx hb dX8_figures_12 (by decide) ?_
  refine lv_icmp_ne (tgt := 32) hx hb dX8_figures_13 (by decide) (fun c_13 => ?_) (fun c_13 => ?_)
  · have h := h.1 c_13
    exact hB_Text_figures_32 t_fault t_start_6 t_end_7 h _ _ _ hw (lv_sub hl [0] rfl)
  · have h := h.2 c_13
    refine lv_aload_n hx hb dX8_figures_16 rfl (lv_at hl 0 rfl) ?_
    refine G_RX8_37 C hw 0 rfl dX8_figures_17 ?_
    refine lv_aload_n hx hb dX8_figures_20 rfl (lv_at hl 0 rfl) ?_
    refine G_RX8_51 C hw 0 rfl dX8_figures_21 ?_
    refine lv_isub hx hb dX8_figures_24 ?_
    refine lv_aload_n hx hb dX8_figures_25 rfl (lv_at hl 0 rfl) ?_
    refine G_RX8_28 C hw 0 rfl dX8_figures_26 ?_
    refine lv_icmp_eq (tgt := 38) hx hb dX8_figures_29 (by decide) (fun c_29 => ?_) (fun c_29 => ?_)
    · have h := h.1 c_29
      refine lv_iconst (v := 0) hx hb dX8_figures_38 (by decide) ?_
      refine lv_istore_n (lv' := [(1, .int 0), (0, .ref a_t)]) hx hb dX8_figures_39 rfl hl (by decide) rfl (fun ls hl => ?_)
      refine lv_iconst (v := 0) hx hb dX8_figures_40 (by decide) ?_
      refine lv_istore_n (lv' := [(2, .int 0), (1, .int 0), (0, .ref a_t)]) hx hb dX8_figures_41 rfl hl (by decide) rfl (fun ls hl => ?_)
      obtain ⟨n_42, h⟩ := h
      exact hL_Text_figures_42 n_42 0 0 t_fault t_start_6 t_end_7 h _ _ _ hw (lv_sub hl [2, 1, 0] rfl)
    · have h := h.2 c_29
      exact hB_Text_figures_32 t_fault t_start_6 t_end_7 h _ _ _ hw (lv_sub hl [0] rfl)
def B_Text_number_39 (x1 : Int32) (x2 : Int32) (t_size : Int32) (t_bytes : (Nat → Int32)) (Q : Int32 → Int32 → Int32 → Int32 → Prop) (t_fault : Int32) (t_start : Int32) (t_end : Int32) : Prop := P_Text_fail t_fault t_start (fun t_fault_1 => Q 0 t_fault_1 t_start t_end)
def L_Text_number_53 (x1 : Int32) (x2 : Int32) (t_size : Int32) (t_bytes : (Nat → Int32)) (Q : Int32 → Int32 → Int32 → Int32 → Prop) : Nat → Int32 → Int32 → Int32 → Int32 → Int32 → Prop
  | 0 => fun _ _ _ _ _ => False
  | n + 1 => fun x3 x4 t_fault t_start t_end => (t_end ≤ x4 → P_LC_within x3 x1 x2 (fun r_2 => (¬ r_2 = 0 → Q x3 t_fault t_start t_end) ∧ (r_2 = 0 → P_Text_fail t_fault t_start (fun t_fault_3 => Q 0 t_fault_3 t_start t_end)))) ∧ (¬ t_end ≤ x4 → P_Text_byteAt x4 t_size t_bytes (fun r_4 => ∀ x3_5 : Int32, x3_5 = (((x3 * 10) + r_4) - 48) → (L_Text_number_53 x1 x2 t_size t_bytes Q n) x3_5 (x4 + 1) t_fault t_start t_end))
def P_Text_number (x1 : Int32) (x2 : Int32) (t_size : Int32) (t_fault : Int32) (t_start : Int32) (t_end : Int32) (t_bytes : (Nat → Int32)) (Q : Int32 → Int32 → Int32 → Int32 → Prop) : Prop := (t_fault = (-1) → P_Text_nextToken t_size t_start t_end t_bytes (fun t_start_6 t_end_7 => P_Text_kindAt t_start_6 t_size t_bytes (fun r_8 => (¬ r_8 = 1 → B_Text_number_39 x1 x2 t_size t_bytes Q t_fault t_start_6 t_end_7) ∧ (r_8 = 1 → ((t_end_7 - t_start_6) ≤ 4 → ∃ n_53 : Nat, L_Text_number_53 x1 x2 t_size t_bytes Q n_53 0 t_start_6 t_fault t_start_6 t_end_7) ∧ (¬ (t_end_7 - t_start_6) ≤ 4 → B_Text_number_39 x1 x2 t_size t_bytes Q t_fault t_start_6 t_end_7))))) ∧ (¬ t_fault = (-1) → Q 0 t_fault t_start t_end)
abbrev rm_Text_number : Room := { frames := 2, cells := 0, slots := 0, locals := 44 }
def cs_Text_number (g : GE) (a_t a_t_bytes a_t_words a_t_values : Nat) (t_size : Int32) (t_lines : Int32) (t_fault : Int32) (t_points : Int32) (t_cases : Int32) (t_start : Int32) (t_end : Int32) (t_bytes : (Nat → Int32)) : va_W := [oc a_t 8 [.ref a_t_bytes, .int t_size, .ref a_t_words, .ref a_t_values, .int t_lines, .int t_fault, .int t_points, .int t_cases, .int t_start, .int t_end], ai g a_t_bytes 200 t_bytes]
set_option maxHeartbeats 4000000 in
set_option maxRecDepth 100000 in
theorem c_Text_number (l : Launch) (g : GE) (a_t a_t_bytes a_t_words a_t_values : Nat) (t_size : Int32) (t_lines : Int32) (t_fault : Int32) (t_points : Int32) (t_cases : Int32) (t_start : Int32) (t_end : Int32) (t_bytes : (Nat → Int32)) (x1 : Int32) (x2 : Int32) (Q : Int32 → Int32 → Int32 → Int32 → Prop) (h : P_Text_number x1 x2 t_size t_fault t_start t_end t_bytes Q) : Cti l g yX8_number cX8_number 5 (some .int) rm_Text_number [.ref a_t, .int x1, .int x2] (cs_Text_number g a_t a_t_bytes a_t_words a_t_values t_size t_lines t_fault t_points t_cases t_start t_end t_bytes) (S := Int32 × Int32 × Int32) (fun r u => Q r u.1 u.2.1 u.2.2) (fun u => (cs_Text_number g a_t a_t_bytes a_t_words a_t_values t_size t_lines (u.1) t_points t_cases (u.2.1) (u.2.2) t_bytes)) := by
  refine meetI rfl (Nat.le_of_ble_eq_true rfl) ⟨rfl, rfl⟩ ?_
  intro p e s m args below meth c A Qf ls C hret hw hl
  have hx := C.1
  have hb := C.2.1
  have hown := C.2.2.2.1
  have hts := C.2.2.2.2.1
  have hE := C.2.2.2.2.2.1
  have hl : lv_has ls 5 [(0, .ref a_t), (1, .int x1), (2, .int x2)] := hl
  have hB_Text_number_39 : ∀ (t_fault : Int32) (t_start : Int32) (t_end : Int32), B_Text_number_39 x1 x2 t_size t_bytes Q t_fault t_start t_end → Wat p l e rm_Text_number s m args below meth c A Qf g 5 (cs_Text_number g a_t a_t_bytes a_t_words a_t_values t_size t_lines t_fault t_points t_cases t_start t_end t_bytes) [(0, .ref a_t)] 39 [] := by
    intro t_fault t_start t_end h H locs ls hw hl
    refine lv_aload_n hx hb dX8_number_39 rfl (lv_at hl 0 rfl) ?_
    refine callVv (As := []) (rest := []) (W2 := fun u => (cs_Text_number g a_t a_t_bytes a_t_words a_t_values t_size t_lines u t_points t_cases t_start t_end t_bytes)) C hw hl (c_Text_fail l g a_t a_t_bytes a_t_words a_t_values t_size t_lines t_fault t_points t_cases t_start t_end _ h) tw_451 kk_X8_fail rfl ⟨rfl, rfl⟩ ⟨by decide, by decide⟩ (Nat.le_of_ble_eq_true rfl) 0 rfl rfl rfl [0] [1] [1, 0] rfl rfl rfl rfl rfl rfl (fun u => rfl) rfl dX8_number_40 (fun u H locs h hw => ?_)
    obtain ⟨t_fault_1, rfl⟩ : ∃ z, z = u := ⟨_, rfl⟩
    have hw : Wd g A s (cs_Text_number g a_t a_t_bytes a_t_words a_t_values t_size t_lines t_fault_1 t_points t_cases t_start t_end t_bytes) H locs := hw
    refine lv_iconst (v := 0) hx hb dX8_number_43 (by decide) ?_
    exact hret (t_fault_1, t_start, t_end) h hw dX8_number_44 rfl
  have hL_Text_number_53 : ∀ (n : Nat) (x3 : Int32) (x4 : Int32) (t_fault : Int32) (t_start : Int32) (t_end : Int32), L_Text_number_53 x1 x2 t_size t_bytes Q n x3 x4 t_fault t_start t_end → Wat p l e rm_Text_number s m args below meth c A Qf g 5 (cs_Text_number g a_t a_t_bytes a_t_words a_t_values t_size t_lines t_fault t_points t_cases t_start t_end t_bytes) [(0, .ref a_t), (1, .int x1), (2, .int x2), (3, .int x3), (4, .int x4)] 53 [] := by
    intro n
    induction n with
    | zero => intro x3 x4 t_fault t_start t_end h; exact absurd h id
    | succ n ih =>
      intro x3 x4 t_fault t_start t_end h H locs ls hw hl
      rw [L_Text_number_53] at h
      refine lv_iload hx hb dX8_number_53 (lv_at hl 4 rfl) ?_
      refine lv_aload_n hx hb dX8_number_55 rfl (lv_at hl 0 rfl) ?_
      refine G_RX8_37 C hw 0 rfl dX8_number_56 ?_
      refine lv_icmp_ge (tgt := 83) hx hb dX8_number_59 (by decide) (fun c_59 => ?_) (fun c_59 => ?_)
      · have h := h.1 c_59
        refine lv_iload_n hx hb dX8_number_83 rfl (lv_at hl 3 rfl) ?_
        refine lv_iload_n hx hb dX8_number_84 rfl (lv_at hl 1 rfl) ?_
        refine lv_iload_n hx hb dX8_number_85 rfl (lv_at hl 2 rfl) ?_
        refine callNi (As := [.int x3, .int x1, .int x2]) (rest := []) C hw hl (c_LC_within l g x3 x1 x2 _ h) (nest_in hE tn_410 rfl) kk_X9_within rfl ⟨rfl, rfl⟩ ⟨by decide, by decide⟩ (Nat.le_of_ble_eq_true rfl) rfl dX8_number_86 (fun r_2 u H locs h hw => ?_)
        refine lv_if_ne (tgt := 98) hx hb dX8_number_89 (by decide) (fun c_89 => ?_) (fun c_89 => ?_)
        · have h := h.1 c_89
          refine lv_iload_n hx hb dX8_number_98 rfl (lv_at hl 3 rfl) ?_
          exact hret (t_fault, t_start, t_end) h hw dX8_number_99 rfl
        · have h := h.2 c_89
          refine lv_aload_n hx hb dX8_number_92 rfl (lv_at hl 0 rfl) ?_
          refine callVv (As := []) (rest := []) (W2 := fun u => (cs_Text_number g a_t a_t_bytes a_t_words a_t_values t_size t_lines u t_points t_cases t_start t_end t_bytes)) C hw hl (c_Text_fail l g a_t a_t_bytes a_t_words a_t_values t_size t_lines t_fault t_points t_cases t_start t_end _ h) tw_451 kk_X8_fail rfl ⟨rfl, rfl⟩ ⟨by decide, by decide⟩ (Nat.le_of_ble_eq_true rfl) 0 rfl rfl rfl [0] [1] [1, 0] rfl rfl rfl rfl rfl rfl (fun u => rfl) rfl dX8_number_93 (fun u H locs h hw => ?_)
          obtain ⟨t_fault_3, rfl⟩ : ∃ z, z = u := ⟨_, rfl⟩
          have hw : Wd g A s (cs_Text_number g a_t a_t_bytes a_t_words a_t_values t_size t_lines t_fault_3 t_points t_cases t_start t_end t_bytes) H locs := hw
          refine lv_iconst (v := 0) hx hb dX8_number_96 (by decide) ?_
          exact hret (t_fault_3, t_start, t_end) h hw dX8_number_97 rfl
      · have h := h.2 c_59
        refine lv_iload_n hx hb dX8_number_62 rfl (lv_at hl 3 rfl) ?_
        refine lv_bipush (v := 10) hx hb dX8_number_63 (by decide) ?_
        refine lv_imul hx hb dX8_number_65 ?_
        refine lv_aload_n hx hb dX8_number_66 rfl (lv_at hl 0 rfl) ?_
        refine lv_iload hx hb dX8_number_67 (lv_at hl 4 rfl) ?_
        refine callVi (As := [.int x4]) (rest := [.int (x3 * 10)]) (W2 := fun _ => (cs_Text_number g a_t a_t_bytes a_t_words a_t_values t_size t_lines t_fault t_points t_cases t_start t_end t_bytes)) C hw hl (c_Text_byteAt l g a_t a_t_bytes a_t_words a_t_values t_size t_lines t_fault t_points t_cases t_start t_end t_bytes x4 _ h) tw_380 kk_X8_byteAt rfl ⟨rfl, rfl⟩ ⟨by decide, by decide⟩ (Nat.le_of_ble_eq_true rfl) 0 rfl rfl rfl [0, 1] [] [0, 1] rfl rfl rfl rfl rfl rfl (fun u => rfl) rfl dX8_number_69 (fun r_4 u H locs h hw => ?_)
        refine lv_iadd hx hb dX8_number_72 ?_
        refine lv_bipush (v := 48) hx hb dX8_number_73 (by decide) ?_
        refine lv_isub hx hb dX8_number_75 ?_
        refine lv_topi (fun x3_5 ex3_5 => ?_)
        have h := h x3_5 ex3_5
        refine lv_istore_n (lv' := [(3, .int x3_5), (0, .ref a_t), (1, .int x1), (2, .int x2), (4, .int x4)]) hx hb dX8_number_76 rfl hl (by decide) rfl (fun ls hl => ?_)
        refine lv_iinc (v := x4 + 1) (lv' := [(4, .int (x4 + 1)), (3, .int x3_5), (0, .ref a_t), (1, .int x1), (2, .int x2)]) hx hb dX8_number_77 hl (k := 4) rfl rfl (by decide) rfl (fun ls hl => ?_)
        refine lv_goto (tgt := 53) hx hb dX8_number_80 (by decide) ?_
        exact ih x3_5 (x4 + 1) t_fault t_start t_end h _ _ _ hw (lv_sub hl [2, 3, 4, 1, 0] rfl)
  refine lv_aload_n hx hb dX8_number_0 rfl (lv_at hl 0 rfl) ?_
  refine G_RX8_34 C hw 0 rfl dX8_number_1 ?_
  refine lv_iconst (v := (-1)) hx hb dX8_number_4 (by decide) ?_
  refine lv_icmp_eq (tgt := 10) hx hb dX8_number_5 (by decide) (fun c_5 => ?_) (fun c_5 => ?_)
  · have h := h.1 c_5
    refine lv_aload_n hx hb dX8_number_10 rfl (lv_at hl 0 rfl) ?_
    refine callVv (As := []) (rest := []) (W2 := fun u => (cs_Text_number g a_t a_t_bytes a_t_words a_t_values t_size t_lines t_fault t_points t_cases (u.1) (u.2) t_bytes)) C hw hl (c_Text_nextToken l g a_t a_t_bytes a_t_words a_t_values t_size t_lines t_fault t_points t_cases t_start t_end t_bytes _ h) tw_376 kk_X8_nextToken rfl ⟨rfl, rfl⟩ ⟨by decide, by decide⟩ (Nat.le_of_ble_eq_true rfl) 0 rfl rfl rfl [0, 1] [] [0, 1] rfl rfl rfl rfl rfl rfl (fun u => rfl) rfl dX8_number_11 (fun u H locs h hw => ?_)
    obtain ⟨t_start_6, t_end_7⟩ := u
    have hw : Wd g A s (cs_Text_number g a_t a_t_bytes a_t_words a_t_values t_size t_lines t_fault t_points t_cases t_start_6 t_end_7 t_bytes) H locs := hw
    refine lv_aload_n hx hb dX8_number_14 rfl (lv_at hl 0 rfl) ?_
    refine lv_aload_n hx hb dX8_number_15 rfl (lv_at hl 0 rfl) ?_
    refine G_RX8_51 C hw 0 rfl dX8_number_16 ?_
    refine callVi (As := [.int t_start_6]) (rest := []) (W2 := fun _ => (cs_Text_number g a_t a_t_bytes a_t_words a_t_values t_size t_lines t_fault t_points t_cases t_start_6 t_end_7 t_bytes)) C hw hl (c_Text_kindAt l g a_t a_t_bytes a_t_words a_t_values t_size t_lines t_fault t_points t_cases t_start_6 t_end_7 t_bytes t_start_6 _ h) tw_384 kk_X8_kindAt rfl ⟨rfl, rfl⟩ ⟨by decide, by decide⟩ (Nat.le_of_ble_eq_true rfl) 0 rfl rfl rfl [0, 1] [] [0, 1] rfl rfl rfl rfl rfl rfl (fun u => rfl) rfl dX8_number_19 (fun r_8 u H locs h hw => ?_)
    refine lv_iconst (v := 1) hx hb dX8_number_22 (by decide) ?_
    refine lv_icmp_ne (tgt := 39) hx hb dX8_number_23 (by decide) (fun c_23 => ?_) (fun c_23 => ?_)
    · have h := h.1 c_23
      exact hB_Text_number_39 t_fault t_start_6 t_end_7 h _ _ _ hw (lv_sub hl [0] rfl)
    · have h := h.2 c_23
      refine lv_aload_n hx hb dX8_number_26 rfl (lv_at hl 0 rfl) ?_
      refine G_RX8_37 C hw 0 rfl dX8_number_27 ?_
      refine lv_aload_n hx hb dX8_number_30 rfl (lv_at hl 0 rfl) ?_
      refine G_RX8_51 C hw 0 rfl dX8_number_31 ?_
      refine lv_isub hx hb dX8_number_34 ?_
      refine lv_iconst (v := 4) hx hb dX8_number_35 (by decide) ?_
      refine lv_icmp_le (tgt := 45) hx hb dX8_number_36 (by decide) (fun c_36 => ?_) (fun c_36 => ?_)
      · have h := h.1 c_36
        refine lv_iconst (v := 0) hx hb dX8_number_45 (by decide) ?_
        refine lv_istore_n (lv' := [(3, .int 0), (0, .ref a_t), (1, .int x1), (2, .int x2)]) hx hb dX8_number_46 rfl hl (by decide) rfl (fun ls hl => ?_)
        refine lv_aload_n hx hb dX8_number_47 rfl (lv_at hl 1 rfl) ?_
        refine G_RX8_51 C hw 0 rfl dX8_number_48 ?_
        refine lv_istore (lv' := [(4, .int t_start_6), (3, .int 0), (0, .ref a_t), (1, .int x1), (2, .int x2)]) hx hb dX8_number_51 hl (by decide) rfl (fun ls hl => ?_)
        obtain ⟨n_53, h⟩ := h
        exact hL_Text_number_53 n_53 0 t_start_6 t_fault t_start_6 t_end_7 h _ _ _ hw (lv_sub hl [2, 3, 4, 1, 0] rfl)
      · have h := h.2 c_36
        exact hB_Text_number_39 t_fault t_start_6 t_end_7 h _ _ _ hw (lv_sub hl [0] rfl)
  · have h := h.2 c_5
    refine lv_iconst (v := 0) hx hb dX8_number_8 (by decide) ?_
    exact hret (t_fault, t_start, t_end) h hw dX8_number_9 rfl
def B_Text_keepLine_67 (x1 : Int32) (x2 : Int32) (x3 : Int32) (x4 : Int32) (x5 : Int32) (Q : (Nat → Int32) → (Nat → Int32) → Prop) (t_values : (Nat → Int32)) (t_words : (Nat → Int32)) : Prop := Q t_values t_words
def P_Text_keepLine (x1 : Int32) (x2 : Int32) (x3 : Int32) (x4 : Int32) (x5 : Int32) (t_values : (Nat → Int32)) (t_words : (Nat → Int32)) (Q : (Nat → Int32) → (Nat → Int32) → Prop) : Prop := ∀ x6_1 : Int32, x6_1 = (x1 * 3) → (x1 < 0 → B_Text_keepLine_67 x1 x2 x3 x4 x5 Q t_values t_words) ∧ (¬ x1 < 0 → ((nI 8) ≤ x1 → B_Text_keepLine_67 x1 x2 x3 x4 x5 Q t_values t_words) ∧ (¬ (nI 8) ≤ x1 → ((nI 24) ≤ (x6_1 + 2) → B_Text_keepLine_67 x1 x2 x3 x4 x5 Q t_values t_words) ∧ (¬ (nI 24) ≤ (x6_1 + 2) → vp_in x1 8 ∧ (vp_in x6_1 24 ∧ (vp_in (x6_1 + 1) 24 ∧ (vp_in (x6_1 + 2) 24 ∧ (B_Text_keepLine_67 x1 x2 x3 x4 x5 Q (upd (upd (upd t_values x6_1.toNatClampNeg x3) (x6_1 + 1).toNatClampNeg x4) (x6_1 + 2).toNatClampNeg x5) (upd t_words x1.toNatClampNeg x2))))))))
abbrev rm_Text_keepLine : Room := { frames := 0, cells := 0, slots := 0, locals := 0 }
def cs_Text_keepLine (g : GE) (a_t a_t_values a_t_words a_t_bytes : Nat) (t_size : Int32) (t_lines : Int32) (t_fault : Int32) (t_points : Int32) (t_cases : Int32) (t_start : Int32) (t_end : Int32) (t_values : (Nat → Int32)) (t_words : (Nat → Int32)) : va_W := [oc a_t 8 [.ref a_t_bytes, .int t_size, .ref a_t_words, .ref a_t_values, .int t_lines, .int t_fault, .int t_points, .int t_cases, .int t_start, .int t_end], ai g a_t_values 24 t_values, ai g a_t_words 8 t_words]
set_option maxHeartbeats 4000000 in
set_option maxRecDepth 100000 in
theorem c_Text_keepLine (l : Launch) (g : GE) (a_t a_t_values a_t_words a_t_bytes : Nat) (t_size : Int32) (t_lines : Int32) (t_fault : Int32) (t_points : Int32) (t_cases : Int32) (t_start : Int32) (t_end : Int32) (t_values : (Nat → Int32)) (t_words : (Nat → Int32)) (x1 : Int32) (x2 : Int32) (x3 : Int32) (x4 : Int32) (x5 : Int32) (Q : (Nat → Int32) → (Nat → Int32) → Prop) (h : P_Text_keepLine x1 x2 x3 x4 x5 t_values t_words Q) : Ctv l g yX8_keepLine cX8_keepLine 7 none rm_Text_keepLine [.ref a_t, .int x1, .int x2, .int x3, .int x4, .int x5] (cs_Text_keepLine g a_t a_t_values a_t_words a_t_bytes t_size t_lines t_fault t_points t_cases t_start t_end t_values t_words) (S := (Nat → Int32) × (Nat → Int32)) (fun u => Q u.1 u.2) (fun u => (cs_Text_keepLine g a_t a_t_values a_t_words a_t_bytes t_size t_lines t_fault t_points t_cases t_start t_end (u.1) (u.2))) := by
  refine meetV rfl (Nat.le_of_ble_eq_true rfl) ⟨rfl, rfl⟩ ?_
  intro p e s m args below meth c A Qf ls C hret hw hl
  have hx := C.1
  have hb := C.2.1
  have hown := C.2.2.2.1
  have hts := C.2.2.2.2.1
  have hE := C.2.2.2.2.2.1
  have hl : lv_has ls 7 [(0, .ref a_t), (1, .int x1), (2, .int x2), (3, .int x3), (4, .int x4), (5, .int x5)] := hl
  have hB_Text_keepLine_67 : ∀ (t_values : (Nat → Int32)) (t_words : (Nat → Int32)), B_Text_keepLine_67 x1 x2 x3 x4 x5 Q t_values t_words → Wat p l e rm_Text_keepLine s m args below meth c A Qf g 7 (cs_Text_keepLine g a_t a_t_values a_t_words a_t_bytes t_size t_lines t_fault t_points t_cases t_start t_end t_values t_words) [] 67 [] := by
    intro t_values t_words h H locs ls hw hl
    exact hret (t_values, t_words) h hw dX8_keepLine_67
  refine lv_iload_n hx hb dX8_keepLine_0 rfl (lv_at hl 1 rfl) ?_
  refine lv_iconst (v := 3) hx hb dX8_keepLine_1 (by decide) ?_
  refine lv_imul hx hb dX8_keepLine_2 ?_
  refine lv_topi (fun x6_1 ex6_1 => ?_)
  have h := h x6_1 ex6_1
  refine lv_istore (lv' := [(6, .int x6_1), (0, .ref a_t), (1, .int x1), (2, .int x2), (3, .int x3), (4, .int x4), (5, .int x5)]) hx hb dX8_keepLine_3 hl (by decide) rfl (fun ls hl => ?_)
  refine lv_iload_n hx hb dX8_keepLine_5 rfl (lv_at hl 2 rfl) ?_
  refine lv_if_lt (tgt := 67) hx hb dX8_keepLine_6 (by decide) (fun c_6 => ?_) (fun c_6 => ?_)
  · have h := h.1 c_6
    exact hB_Text_keepLine_67 t_values t_words h _ _ _ hw (lv_sub hl [] rfl)
  · have h := h.2 c_6
    refine lv_iload_n hx hb dX8_keepLine_9 rfl (lv_at hl 2 rfl) ?_
    refine lv_aload_n hx hb dX8_keepLine_10 rfl (lv_at hl 1 rfl) ?_
    refine G_RX8_15 C hw 0 rfl dX8_keepLine_11 ?_
    refine alnI C hw 2 rfl dX8_keepLine_14 ?_
    refine lv_icmp_ge (tgt := 67) hx hb dX8_keepLine_15 (by decide) (fun c_15 => ?_) (fun c_15 => ?_)
    · have h := h.1 c_15
      exact hB_Text_keepLine_67 t_values t_words h _ _ _ hw (lv_sub hl [] rfl)
    · have h := h.2 c_15
      refine lv_iload hx hb dX8_keepLine_18 (lv_at hl 0 rfl) ?_
      refine lv_iconst (v := 2) hx hb dX8_keepLine_20 (by decide) ?_
      refine lv_iadd hx hb dX8_keepLine_21 ?_
      refine lv_aload_n hx hb dX8_keepLine_22 rfl (lv_at hl 1 rfl) ?_
      refine G_RX8_18 C hw 0 rfl dX8_keepLine_23 ?_
      refine alnI C hw 1 rfl dX8_keepLine_26 ?_
      refine lv_icmp_ge (tgt := 67) hx hb dX8_keepLine_27 (by decide) (fun c_27 => ?_) (fun c_27 => ?_)
      · have h := h.1 c_27
        exact hB_Text_keepLine_67 t_values t_words h _ _ _ hw (lv_sub hl [] rfl)
      · have h := h.2 c_27
        refine lv_aload_n hx hb dX8_keepLine_30 rfl (lv_at hl 1 rfl) ?_
        refine G_RX8_15 C hw 0 rfl dX8_keepLine_31 ?_
        refine lv_iload_n hx hb dX8_keepLine_34 rfl (lv_at hl 2 rfl) ?_
        refine lv_iload_n hx hb dX8_keepLine_35 rfl (lv_at hl 3 rfl) ?_
        refine astI (ws2 := (cs_Text_keepLine g a_t a_t_values a_t_words a_t_bytes t_size t_lines t_fault t_points t_cases t_start t_end t_values (upd t_words x1.toNatClampNeg x2))) C hw 2 rfl h.1 rfl dX8_keepLine_36 (fun H locs hw => ?_)
        have h := h.2
        refine lv_aload_n hx hb dX8_keepLine_37 rfl (lv_at hl 1 rfl) ?_
        refine G_RX8_18 C hw 0 rfl dX8_keepLine_38 ?_
        refine lv_iload hx hb dX8_keepLine_41 (lv_at hl 0 rfl) ?_
        refine lv_iload_n hx hb dX8_keepLine_43 rfl (lv_at hl 4 rfl) ?_
        refine astI (ws2 := (cs_Text_keepLine g a_t a_t_values a_t_words a_t_bytes t_size t_lines t_fault t_points t_cases t_start t_end (upd t_values x6_1.toNatClampNeg x3) (upd t_words x1.toNatClampNeg x2))) C hw 1 rfl h.1 rfl dX8_keepLine_44 (fun H locs hw => ?_)
        have h := h.2
        refine lv_aload_n hx hb dX8_keepLine_45 rfl (lv_at hl 1 rfl) ?_
        refine G_RX8_18 C hw 0 rfl dX8_keepLine_46 ?_
        refine lv_iload hx hb dX8_keepLine_49 (lv_at hl 0 rfl) ?_
        refine lv_iconst (v := 1) hx hb dX8_keepLine_51 (by decide) ?_
        refine lv_iadd hx hb dX8_keepLine_52 ?_
        refine lv_iload hx hb dX8_keepLine_53 (lv_at hl 5 rfl) ?_
        refine astI (ws2 := (cs_Text_keepLine g a_t a_t_values a_t_words a_t_bytes t_size t_lines t_fault t_points t_cases t_start t_end (upd (upd t_values x6_1.toNatClampNeg x3) (x6_1 + 1).toNatClampNeg x4) (upd t_words x1.toNatClampNeg x2))) C hw 1 rfl h.1 rfl dX8_keepLine_55 (fun H locs hw => ?_)
        have h := h.2
        refine lv_aload_n hx hb dX8_keepLine_56 rfl (lv_at hl 1 rfl) ?_
        refine G_RX8_18 C hw 0 rfl dX8_keepLine_57 ?_
        refine lv_iload hx hb dX8_keepLine_60 (lv_at hl 0 rfl) ?_
        refine lv_iconst (v := 2) hx hb dX8_keepLine_62 (by decide) ?_
        refine lv_iadd hx hb dX8_keepLine_63 ?_
        refine lv_iload hx hb dX8_keepLine_64 (lv_at hl 6 rfl) ?_
        refine astI (ws2 := (cs_Text_keepLine g a_t a_t_values a_t_words a_t_bytes t_size t_lines t_fault t_points t_cases t_start t_end (upd (upd (upd t_values x6_1.toNatClampNeg x3) (x6_1 + 1).toNatClampNeg x4) (x6_1 + 2).toNatClampNeg x5) (upd t_words x1.toNatClampNeg x2))) C hw 1 rfl h.1 rfl dX8_keepLine_66 (fun H locs hw => ?_)
        have h := h.2
        exact hB_Text_keepLine_67 (upd (upd (upd t_values x6_1.toNatClampNeg x3) (x6_1 + 1).toNatClampNeg x4) (x6_1 + 2).toNatClampNeg x5) (upd t_words x1.toNatClampNeg x2) h _ _ _ hw (lv_sub hl [] rfl)
def B_Text_readValues_176 (x1 : Int32) (x2 : Int32) (t_size : Int32) (t_bytes : (Nat → Int32)) (Q : Int32 → Int32 → Int32 → Int32 → Int32 → (Nat → Int32) → (Nat → Int32) → Prop) (t_fault : Int32) (t_points : Int32) (t_cases : Int32) (t_start : Int32) (t_end : Int32) (t_values : (Nat → Int32)) (t_words : (Nat → Int32)) : Prop := Q t_fault t_points t_cases t_start t_end t_values t_words
def B_Text_readValues_63 (x1 : Int32) (x2 : Int32) (t_size : Int32) (t_bytes : (Nat → Int32)) (Q : Int32 → Int32 → Int32 → Int32 → Int32 → (Nat → Int32) → (Nat → Int32) → Prop) (t_fault : Int32) (t_points : Int32) (t_cases : Int32) (t_start : Int32) (t_end : Int32) (t_values : (Nat → Int32)) (t_words : (Nat → Int32)) : Prop := P_Text_number 0 (t_points - 1) t_size t_fault t_start t_end t_bytes (fun r_1 t_fault_2 t_start_3 t_end_4 => P_Text_number 0 9 t_size t_fault_2 t_start_3 t_end_4 t_bytes (fun r_5 t_fault_6 t_start_7 t_end_8 => P_Text_keepLine x1 x2 r_1 r_5 0 t_values t_words (fun t_values_9 t_words_10 => B_Text_readValues_176 x1 x2 t_size t_bytes Q t_fault_6 t_points t_cases t_start_7 t_end_8 t_values_9 t_words_10)))
def B_Text_readValues_172 (x1 : Int32) (x2 : Int32) (t_size : Int32) (t_bytes : (Nat → Int32)) (Q : Int32 → Int32 → Int32 → Int32 → Int32 → (Nat → Int32) → (Nat → Int32) → Prop) (k1 : Int32) (k2 : Int32) (t_fault : Int32) (t_points : Int32) (t_cases : Int32) (t_start : Int32) (t_end : Int32) (t_values : (Nat → Int32)) (t_words : (Nat → Int32)) : Prop := ∀ t_cases_11 : Int32, t_cases_11 = (k1 - k2) → B_Text_readValues_176 x1 x2 t_size t_bytes Q t_fault t_points t_cases_11 t_start t_end t_values t_words
def P_Text_readValues (x1 : Int32) (x2 : Int32) (t_size : Int32) (t_fault : Int32) (t_points : Int32) (t_cases : Int32) (t_start : Int32) (t_end : Int32) (t_bytes : (Nat → Int32)) (t_values : (Nat → Int32)) (t_words : (Nat → Int32)) (Q : Int32 → Int32 → Int32 → Int32 → Int32 → (Nat → Int32) → (Nat → Int32) → Prop) : Prop := (x2 = 0 → P_Text_number 1 10 t_size t_fault t_start t_end t_bytes (fun r_12 t_fault_13 t_start_14 t_end_15 => P_Text_keepLine x1 x2 r_12 0 0 t_values t_words (fun t_values_16 t_words_17 => B_Text_readValues_176 x1 x2 t_size t_bytes Q t_fault_13 r_12 0 t_start_14 t_end_15 t_values_16 t_words_17))) ∧ (¬ x2 = 0 → (x2 = 1 → B_Text_readValues_63 x1 x2 t_size t_bytes Q t_fault t_points t_cases t_start t_end t_values t_words) ∧ (¬ x2 = 1 → (x2 = 2 → B_Text_readValues_63 x1 x2 t_size t_bytes Q t_fault t_points t_cases t_start t_end t_values t_words) ∧ (¬ x2 = 2 → (x2 = 3 → P_Text_figures t_size t_fault t_points t_start t_end t_bytes (fun r_18 t_fault_19 t_start_20 t_end_21 => P_Text_number 0 3 t_size t_fault_19 t_start_20 t_end_21 t_bytes (fun r_22 t_fault_23 t_start_24 t_end_25 => P_Text_number 0 9999 t_size t_fault_23 t_start_24 t_end_25 t_bytes (fun r_26 t_fault_27 t_start_28 t_end_29 => P_Text_keepLine x1 x2 r_18 r_22 r_26 t_values t_words (fun t_values_30 t_words_31 => ∀ t_cases_32 : Int32, t_cases_32 = (t_cases + 1) → B_Text_readValues_176 x1 x2 t_size t_bytes Q t_fault_27 t_points t_cases_32 t_start_28 t_end_29 t_values_30 t_words_31))))) ∧ (¬ x2 = 3 → P_Text_number 0 (t_cases - 1) t_size t_fault t_start t_end t_bytes (fun r_39 t_fault_40 t_start_41 t_end_42 => P_Text_keepLine x1 x2 r_39 0 0 t_values t_words (fun t_values_43 t_words_44 => (¬ x2 = 5 → B_Text_readValues_172 x1 x2 t_size t_bytes Q t_cases 0 t_fault_40 t_points t_cases t_start_41 t_end_42 t_values_43 t_words_44) ∧ (x2 = 5 → B_Text_readValues_172 x1 x2 t_size t_bytes Q t_cases 1 t_fault_40 t_points t_cases t_start_41 t_end_42 t_values_43 t_words_44)))))))
abbrev rm_Text_readValues : Room := { frames := 3, cells := 0, slots := 0, locals := 68 }
def cs_Text_readValues (g : GE) (a_t a_t_bytes a_t_values a_t_words : Nat) (t_size : Int32) (t_lines : Int32) (t_fault : Int32) (t_points : Int32) (t_cases : Int32) (t_start : Int32) (t_end : Int32) (t_bytes : (Nat → Int32)) (t_values : (Nat → Int32)) (t_words : (Nat → Int32)) : va_W := [oc a_t 8 [.ref a_t_bytes, .int t_size, .ref a_t_words, .ref a_t_values, .int t_lines, .int t_fault, .int t_points, .int t_cases, .int t_start, .int t_end], ai g a_t_bytes 200 t_bytes, ai g a_t_values 24 t_values, ai g a_t_words 8 t_words]
set_option maxHeartbeats 4000000 in
set_option maxRecDepth 100000 in
theorem c_Text_readValues (l : Launch) (g : GE) (a_t a_t_bytes a_t_values a_t_words : Nat) (t_size : Int32) (t_lines : Int32) (t_fault : Int32) (t_points : Int32) (t_cases : Int32) (t_start : Int32) (t_end : Int32) (t_bytes : (Nat → Int32)) (t_values : (Nat → Int32)) (t_words : (Nat → Int32)) (x1 : Int32) (x2 : Int32) (Q : Int32 → Int32 → Int32 → Int32 → Int32 → (Nat → Int32) → (Nat → Int32) → Prop) (h : P_Text_readValues x1 x2 t_size t_fault t_points t_cases t_start t_end t_bytes t_values t_words Q) : Ctv l g yX8_readValues cX8_readValues 6 none rm_Text_readValues [.ref a_t, .int x1, .int x2] (cs_Text_readValues g a_t a_t_bytes a_t_values a_t_words t_size t_lines t_fault t_points t_cases t_start t_end t_bytes t_values t_words) (S := Int32 × Int32 × Int32 × Int32 × Int32 × (Nat → Int32) × (Nat → Int32)) (fun u => Q u.1 u.2.1 u.2.2.1 u.2.2.2.1 u.2.2.2.2.1 u.2.2.2.2.2.1 u.2.2.2.2.2.2) (fun u => (cs_Text_readValues g a_t a_t_bytes a_t_values a_t_words t_size t_lines (u.1) (u.2.1) (u.2.2.1) (u.2.2.2.1) (u.2.2.2.2.1) t_bytes (u.2.2.2.2.2.1) (u.2.2.2.2.2.2))) := by
  refine meetV rfl (Nat.le_of_ble_eq_true rfl) ⟨rfl, rfl⟩ ?_
  intro p e s m args below meth c A Qf ls C hret hw hl
  have hx := C.1
  have hb := C.2.1
  have hown := C.2.2.2.1
  have hts := C.2.2.2.2.1
  have hE := C.2.2.2.2.2.1
  have hl : lv_has ls 6 [(0, .ref a_t), (1, .int x1), (2, .int x2)] := hl
  have hB_Text_readValues_176 : ∀ (t_fault : Int32) (t_points : Int32) (t_cases : Int32) (t_start : Int32) (t_end : Int32) (t_values : (Nat → Int32)) (t_words : (Nat → Int32)), B_Text_readValues_176 x1 x2 t_size t_bytes Q t_fault t_points t_cases t_start t_end t_values t_words → Wat p l e rm_Text_readValues s m args below meth c A Qf g 6 (cs_Text_readValues g a_t a_t_bytes a_t_values a_t_words t_size t_lines t_fault t_points t_cases t_start t_end t_bytes t_values t_words) [] 176 [] := by
    intro t_fault t_points t_cases t_start t_end t_values t_words h H locs ls hw hl
    exact hret (t_fault, t_points, t_cases, t_start, t_end, t_values, t_words) h hw dX8_readValues_176
  have hB_Text_readValues_63 : ∀ (t_fault : Int32) (t_points : Int32) (t_cases : Int32) (t_start : Int32) (t_end : Int32) (t_values : (Nat → Int32)) (t_words : (Nat → Int32)), B_Text_readValues_63 x1 x2 t_size t_bytes Q t_fault t_points t_cases t_start t_end t_values t_words → Wat p l e rm_Text_readValues s m args below meth c A Qf g 6 (cs_Text_readValues g a_t a_t_bytes a_t_values a_t_words t_size t_lines t_fault t_points t_cases t_start t_end t_bytes t_values t_words) [(0, .ref a_t), (1, .int x1), (2, .int x2)] 63 [] := by
    intro t_fault t_points t_cases t_start t_end t_values t_words h H locs ls hw hl
    refine lv_aload_n hx hb dX8_readValues_63 rfl (lv_at hl 0 rfl) ?_
    refine lv_iconst (v := 0) hx hb dX8_readValues_64 (by decide) ?_
    refine lv_aload_n hx hb dX8_readValues_65 rfl (lv_at hl 0 rfl) ?_
    refine G_RX8_28 C hw 0 rfl dX8_readValues_66 ?_
    refine lv_iconst (v := 1) hx hb dX8_readValues_69 (by decide) ?_
    refine lv_isub hx hb dX8_readValues_70 ?_
    refine callVi (As := [.int 0, .int (t_points - 1)]) (rest := []) (W2 := fun u => (cs_Text_readValues g a_t a_t_bytes a_t_values a_t_words t_size t_lines (u.1) t_points t_cases (u.2.1) (u.2.2) t_bytes t_values t_words)) C hw hl (c_Text_number l g a_t a_t_bytes a_t_words a_t_values t_size t_lines t_fault t_points t_cases t_start t_end t_bytes 0 (t_points - 1) _ h) tw_459 kk_X8_number rfl ⟨rfl, rfl⟩ ⟨by decide, by decide⟩ (Nat.le_of_ble_eq_true rfl) 0 rfl rfl rfl [0, 1] [2, 3] [2, 3, 0, 1] rfl rfl rfl rfl rfl rfl (fun u => rfl) rfl dX8_readValues_71 (fun r_1 u H locs h hw => ?_)
    obtain ⟨t_fault_2, t_start_3, t_end_4⟩ := u
    have hw : Wd g A s (cs_Text_readValues g a_t a_t_bytes a_t_values a_t_words t_size t_lines t_fault_2 t_points t_cases t_start_3 t_end_4 t_bytes t_values t_words) H locs := hw
    refine lv_istore_n (lv' := [(3, .int r_1), (0, .ref a_t), (1, .int x1), (2, .int x2)]) hx hb dX8_readValues_74 rfl hl (by decide) rfl (fun ls hl => ?_)
    refine lv_aload_n hx hb dX8_readValues_75 rfl (lv_at hl 1 rfl) ?_
    refine lv_iload_n hx hb dX8_readValues_76 rfl (lv_at hl 2 rfl) ?_
    refine lv_iload_n hx hb dX8_readValues_77 rfl (lv_at hl 3 rfl) ?_
    refine lv_iload_n hx hb dX8_readValues_78 rfl (lv_at hl 0 rfl) ?_
    refine lv_aload_n hx hb dX8_readValues_79 rfl (lv_at hl 1 rfl) ?_
    refine lv_iconst (v := 0) hx hb dX8_readValues_80 (by decide) ?_
    refine lv_bipush (v := 9) hx hb dX8_readValues_81 (by decide) ?_
    refine callVi (As := [.int 0, .int 9]) (rest := [.int r_1, .int x2, .int x1, .ref a_t]) (W2 := fun u => (cs_Text_readValues g a_t a_t_bytes a_t_values a_t_words t_size t_lines (u.1) t_points t_cases (u.2.1) (u.2.2) t_bytes t_values t_words)) C hw hl (c_Text_number l g a_t a_t_bytes a_t_words a_t_values t_size t_lines t_fault_2 t_points t_cases t_start_3 t_end_4 t_bytes 0 9 _ h) tw_459 kk_X8_number rfl ⟨rfl, rfl⟩ ⟨by decide, by decide⟩ (Nat.le_of_ble_eq_true rfl) 0 rfl rfl rfl [0, 1] [2, 3] [2, 3, 0, 1] rfl rfl rfl rfl rfl rfl (fun u => rfl) rfl dX8_readValues_83 (fun r_5 u H locs h hw => ?_)
    obtain ⟨t_fault_6, t_start_7, t_end_8⟩ := u
    have hw : Wd g A s (cs_Text_readValues g a_t a_t_bytes a_t_values a_t_words t_size t_lines t_fault_6 t_points t_cases t_start_7 t_end_8 t_bytes t_values t_words) H locs := hw
    refine lv_iconst (v := 0) hx hb dX8_readValues_86 (by decide) ?_
    refine callVv (As := [.int x1, .int x2, .int r_1, .int r_5, .int 0]) (rest := []) (W2 := fun u => (cs_Text_readValues g a_t a_t_bytes a_t_values a_t_words t_size t_lines t_fault_6 t_points t_cases t_start_7 t_end_8 t_bytes (u.1) (u.2))) C hw hl (c_Text_keepLine l g a_t a_t_values a_t_words a_t_bytes t_size t_lines t_fault_6 t_points t_cases t_start_7 t_end_8 t_values t_words x1 x2 r_1 r_5 0 _ h) tw_464 kk_X8_keepLine rfl ⟨rfl, rfl⟩ ⟨by decide, by decide⟩ (Nat.le_of_ble_eq_true rfl) 0 rfl rfl rfl [0, 2, 3] [1] [1, 0, 2, 3] rfl rfl rfl rfl rfl rfl (fun u => rfl) rfl dX8_readValues_87 (fun u H locs h hw => ?_)
    obtain ⟨t_values_9, t_words_10⟩ := u
    have hw : Wd g A s (cs_Text_readValues g a_t a_t_bytes a_t_values a_t_words t_size t_lines t_fault_6 t_points t_cases t_start_7 t_end_8 t_bytes t_values_9 t_words_10) H locs := hw
    refine lv_goto (tgt := 176) hx hb dX8_readValues_90 (by decide) ?_
    exact hB_Text_readValues_176 t_fault_6 t_points t_cases t_start_7 t_end_8 t_values_9 t_words_10 h _ _ _ hw (lv_sub hl [] rfl)
  have hB_Text_readValues_172 : ∀ (k1 : Int32) (k2 : Int32) (t_fault : Int32) (t_points : Int32) (t_cases : Int32) (t_start : Int32) (t_end : Int32) (t_values : (Nat → Int32)) (t_words : (Nat → Int32)), B_Text_readValues_172 x1 x2 t_size t_bytes Q k1 k2 t_fault t_points t_cases t_start t_end t_values t_words → Wat p l e rm_Text_readValues s m args below meth c A Qf g 6 (cs_Text_readValues g a_t a_t_bytes a_t_values a_t_words t_size t_lines t_fault t_points t_cases t_start t_end t_bytes t_values t_words) [] 172 [.int k2, .int k1, .ref a_t] := by
    intro k1 k2 t_fault t_points t_cases t_start t_end t_values t_words h H locs ls hw hl
    refine lv_isub hx hb dX8_readValues_172 ?_
    refine lv_topi (fun t_cases_11 et_cases_11 => ?_)
    have h := h t_cases_11 et_cases_11
    refine U_RX8_31 (ws2 := (cs_Text_readValues g a_t a_t_bytes a_t_values a_t_words t_size t_lines t_fault t_points t_cases_11 t_start t_end t_bytes t_values t_words)) C hw 0 rfl rfl rfl rfl dX8_readValues_173 (fun H locs hw => ?_)
    exact hB_Text_readValues_176 t_fault t_points t_cases_11 t_start t_end t_values t_words h _ _ _ hw (lv_sub hl [] rfl)
  refine lv_iload_n hx hb dX8_readValues_0 rfl (lv_at hl 2 rfl) ?_
  by_cases c_1_0 : x2 = 0
  · have h := h.1 c_1_0
    refine lv_tableIn (off := 31) (tgt := 32) hx hb dX8_readValues_1 (by rw [c_1_0]; decide) (by rw [c_1_0]; decide) (by rw [c_1_0]; rfl) (by decide) ?_
    refine lv_aload_n hx hb dX8_readValues_32 rfl (lv_at hl 0 rfl) ?_
    refine lv_aload_n hx hb dX8_readValues_33 rfl (lv_at hl 0 rfl) ?_
    refine lv_iconst (v := 1) hx hb dX8_readValues_34 (by decide) ?_
    refine lv_bipush (v := 10) hx hb dX8_readValues_35 (by decide) ?_
    refine callVi (As := [.int 1, .int 10]) (rest := [.ref a_t]) (W2 := fun u => (cs_Text_readValues g a_t a_t_bytes a_t_values a_t_words t_size t_lines (u.1) t_points t_cases (u.2.1) (u.2.2) t_bytes t_values t_words)) C hw hl (c_Text_number l g a_t a_t_bytes a_t_words a_t_values t_size t_lines t_fault t_points t_cases t_start t_end t_bytes 1 10 _ h) tw_459 kk_X8_number rfl ⟨rfl, rfl⟩ ⟨by decide, by decide⟩ (Nat.le_of_ble_eq_true rfl) 0 rfl rfl rfl [0, 1] [2, 3] [2, 3, 0, 1] rfl rfl rfl rfl rfl rfl (fun u => rfl) rfl dX8_readValues_37 (fun r_12 u H locs h hw => ?_)
    obtain ⟨t_fault_13, t_start_14, t_end_15⟩ := u
    have hw : Wd g A s (cs_Text_readValues g a_t a_t_bytes a_t_values a_t_words t_size t_lines t_fault_13 t_points t_cases t_start_14 t_end_15 t_bytes t_values t_words) H locs := hw
    refine U_RX8_28 (ws2 := (cs_Text_readValues g a_t a_t_bytes a_t_values a_t_words t_size t_lines t_fault_13 r_12 t_cases t_start_14 t_end_15 t_bytes t_values t_words)) C hw 0 rfl rfl rfl rfl dX8_readValues_40 (fun H locs hw => ?_)
    refine lv_aload_n hx hb dX8_readValues_43 rfl (lv_at hl 0 rfl) ?_
    refine lv_iconst (v := 0) hx hb dX8_readValues_44 (by decide) ?_
    refine U_RX8_31 (ws2 := (cs_Text_readValues g a_t a_t_bytes a_t_values a_t_words t_size t_lines t_fault_13 r_12 0 t_start_14 t_end_15 t_bytes t_values t_words)) C hw 0 rfl rfl rfl rfl dX8_readValues_45 (fun H locs hw => ?_)
    refine lv_aload_n hx hb dX8_readValues_48 rfl (lv_at hl 0 rfl) ?_
    refine lv_iload_n hx hb dX8_readValues_49 rfl (lv_at hl 1 rfl) ?_
    refine lv_iload_n hx hb dX8_readValues_50 rfl (lv_at hl 2 rfl) ?_
    refine lv_aload_n hx hb dX8_readValues_51 rfl (lv_at hl 0 rfl) ?_
    refine G_RX8_28 C hw 0 rfl dX8_readValues_52 ?_
    refine lv_iconst (v := 0) hx hb dX8_readValues_55 (by decide) ?_
    refine lv_iconst (v := 0) hx hb dX8_readValues_56 (by decide) ?_
    refine callVv (As := [.int x1, .int x2, .int r_12, .int 0, .int 0]) (rest := []) (W2 := fun u => (cs_Text_readValues g a_t a_t_bytes a_t_values a_t_words t_size t_lines t_fault_13 r_12 0 t_start_14 t_end_15 t_bytes (u.1) (u.2))) C hw hl (c_Text_keepLine l g a_t a_t_values a_t_words a_t_bytes t_size t_lines t_fault_13 r_12 0 t_start_14 t_end_15 t_values t_words x1 x2 r_12 0 0 _ h) tw_464 kk_X8_keepLine rfl ⟨rfl, rfl⟩ ⟨by decide, by decide⟩ (Nat.le_of_ble_eq_true rfl) 0 rfl rfl rfl [0, 2, 3] [1] [1, 0, 2, 3] rfl rfl rfl rfl rfl rfl (fun u => rfl) rfl dX8_readValues_57 (fun u H locs h hw => ?_)
    obtain ⟨t_values_16, t_words_17⟩ := u
    have hw : Wd g A s (cs_Text_readValues g a_t a_t_bytes a_t_values a_t_words t_size t_lines t_fault_13 r_12 0 t_start_14 t_end_15 t_bytes t_values_16 t_words_17) H locs := hw
    refine lv_goto (tgt := 176) hx hb dX8_readValues_60 (by decide) ?_
    exact hB_Text_readValues_176 t_fault_13 r_12 0 t_start_14 t_end_15 t_values_16 t_words_17 h _ _ _ hw (lv_sub hl [] rfl)
  · have h := h.2 c_1_0
    by_cases c_1_1 : x2 = 1
    · have h := h.1 c_1_1
      refine lv_tableIn (off := 62) (tgt := 63) hx hb dX8_readValues_1 (by rw [c_1_1]; decide) (by rw [c_1_1]; decide) (by rw [c_1_1]; rfl) (by decide) ?_
      exact hB_Text_readValues_63 t_fault t_points t_cases t_start t_end t_values t_words h _ _ _ hw (lv_sub hl [0, 1, 2] rfl)
    · have h := h.2 c_1_1
      by_cases c_1_2 : x2 = 2
      · have h := h.1 c_1_2
        refine lv_tableIn (off := 62) (tgt := 63) hx hb dX8_readValues_1 (by rw [c_1_2]; decide) (by rw [c_1_2]; decide) (by rw [c_1_2]; rfl) (by decide) ?_
        exact hB_Text_readValues_63 t_fault t_points t_cases t_start t_end t_values t_words h _ _ _ hw (lv_sub hl [0, 1, 2] rfl)
      · have h := h.2 c_1_2
        by_cases c_1_3 : x2 = 3
        · have h := h.1 c_1_3
          refine lv_tableIn (off := 92) (tgt := 93) hx hb dX8_readValues_1 (by rw [c_1_3]; decide) (by rw [c_1_3]; decide) (by rw [c_1_3]; rfl) (by decide) ?_
          refine lv_aload_n hx hb dX8_readValues_93 rfl (lv_at hl 0 rfl) ?_
          refine callVi (As := []) (rest := []) (W2 := fun u => (cs_Text_readValues g a_t a_t_bytes a_t_values a_t_words t_size t_lines (u.1) t_points t_cases (u.2.1) (u.2.2) t_bytes t_values t_words)) C hw hl (c_Text_figures l g a_t a_t_bytes a_t_words a_t_values t_size t_lines t_fault t_points t_cases t_start t_end t_bytes _ h) tw_468 kk_X8_figures rfl ⟨rfl, rfl⟩ ⟨by decide, by decide⟩ (Nat.le_of_ble_eq_true rfl) 0 rfl rfl rfl [0, 1] [2, 3] [2, 3, 0, 1] rfl rfl rfl rfl rfl rfl (fun u => rfl) rfl dX8_readValues_94 (fun r_18 u H locs h hw => ?_)
          obtain ⟨t_fault_19, t_start_20, t_end_21⟩ := u
          have hw : Wd g A s (cs_Text_readValues g a_t a_t_bytes a_t_values a_t_words t_size t_lines t_fault_19 t_points t_cases t_start_20 t_end_21 t_bytes t_values t_words) H locs := hw
          refine lv_istore (lv' := [(4, .int r_18), (0, .ref a_t), (1, .int x1), (2, .int x2)]) hx hb dX8_readValues_97 hl (by decide) rfl (fun ls hl => ?_)
          refine lv_aload_n hx hb dX8_readValues_99 rfl (lv_at hl 1 rfl) ?_
          refine lv_iconst (v := 0) hx hb dX8_readValues_100 (by decide) ?_
          refine lv_iconst (v := 3) hx hb dX8_readValues_101 (by decide) ?_
          refine callVi (As := [.int 0, .int 3]) (rest := []) (W2 := fun u => (cs_Text_readValues g a_t a_t_bytes a_t_values a_t_words t_size t_lines (u.1) t_points t_cases (u.2.1) (u.2.2) t_bytes t_values t_words)) C hw hl (c_Text_number l g a_t a_t_bytes a_t_words a_t_values t_size t_lines t_fault_19 t_points t_cases t_start_20 t_end_21 t_bytes 0 3 _ h) tw_459 kk_X8_number rfl ⟨rfl, rfl⟩ ⟨by decide, by decide⟩ (Nat.le_of_ble_eq_true rfl) 0 rfl rfl rfl [0, 1] [2, 3] [2, 3, 0, 1] rfl rfl rfl rfl rfl rfl (fun u => rfl) rfl dX8_readValues_102 (fun r_22 u H locs h hw => ?_)
          obtain ⟨t_fault_23, t_start_24, t_end_25⟩ := u
          have hw : Wd g A s (cs_Text_readValues g a_t a_t_bytes a_t_values a_t_words t_size t_lines t_fault_23 t_points t_cases t_start_24 t_end_25 t_bytes t_values t_words) H locs := hw
          refine lv_istore (lv' := [(5, .int r_22), (4, .int r_18), (0, .ref a_t), (1, .int x1), (2, .int x2)]) hx hb dX8_readValues_105 hl (by decide) rfl (fun ls hl => ?_)
          refine lv_aload_n hx hb dX8_readValues_107 rfl (lv_at hl 2 rfl) ?_
          refine lv_iload_n hx hb dX8_readValues_108 rfl (lv_at hl 3 rfl) ?_
          refine lv_iload_n hx hb dX8_readValues_109 rfl (lv_at hl 4 rfl) ?_
          refine lv_iload hx hb dX8_readValues_110 (lv_at hl 1 rfl) ?_
          refine lv_iload hx hb dX8_readValues_112 (lv_at hl 0 rfl) ?_
          refine lv_aload_n hx hb dX8_readValues_114 rfl (lv_at hl 2 rfl) ?_
          refine lv_iconst (v := 0) hx hb dX8_readValues_115 (by decide) ?_
          refine lv_sipush (v := 9999) hx hb dX8_readValues_116 (by decide) ?_
          refine callVi (As := [.int 0, .int 9999]) (rest := [.int r_22, .int r_18, .int x2, .int x1, .ref a_t]) (W2 := fun u => (cs_Text_readValues g a_t a_t_bytes a_t_values a_t_words t_size t_lines (u.1) t_points t_cases (u.2.1) (u.2.2) t_bytes t_values t_words)) C hw hl (c_Text_number l g a_t a_t_bytes a_t_words a_t_values t_size t_lines t_fault_23 t_points t_cases t_start_24 t_end_25 t_bytes 0 9999 _ h) tw_459 kk_X8_number rfl ⟨rfl, rfl⟩ ⟨by decide, by decide⟩ (Nat.le_of_ble_eq_true rfl) 0 rfl rfl rfl [0, 1] [2, 3] [2, 3, 0, 1] rfl rfl rfl rfl rfl rfl (fun u => rfl) rfl dX8_readValues_119 (fun r_26 u H locs h hw => ?_)
          obtain ⟨t_fault_27, t_start_28, t_end_29⟩ := u
          have hw : Wd g A s (cs_Text_readValues g a_t a_t_bytes a_t_values a_t_words t_size t_lines t_fault_27 t_points t_cases t_start_28 t_end_29 t_bytes t_values t_words) H locs := hw
          refine callVv (As := [.int x1, .int x2, .int r_18, .int r_22, .int r_26]) (rest := []) (W2 := fun u => (cs_Text_readValues g a_t a_t_bytes a_t_values a_t_words t_size t_lines t_fault_27 t_points t_cases t_start_28 t_end_29 t_bytes (u.1) (u.2))) C hw hl (c_Text_keepLine l g a_t a_t_values a_t_words a_t_bytes t_size t_lines t_fault_27 t_points t_cases t_start_28 t_end_29 t_values t_words x1 x2 r_18 r_22 r_26 _ h) tw_464 kk_X8_keepLine rfl ⟨rfl, rfl⟩ ⟨by decide, by decide⟩ (Nat.le_of_ble_eq_true rfl) 0 rfl rfl rfl [0, 2, 3] [1] [1, 0, 2, 3] rfl rfl rfl rfl rfl rfl (fun u => rfl) rfl dX8_readValues_122 (fun u H locs h hw => ?_)
          obtain ⟨t_values_30, t_words_31⟩ := u
          have hw : Wd g A s (cs_Text_readValues g a_t a_t_bytes a_t_values a_t_words t_size t_lines t_fault_27 t_points t_cases t_start_28 t_end_29 t_bytes t_values_30 t_words_31) H locs := hw
          refine lv_aload_n hx hb dX8_readValues_125 rfl (lv_at hl 2 rfl) ?_
          refine lv_dup hx hb dX8_readValues_126 rfl ?_
          refine G_RX8_31 C hw 0 rfl dX8_readValues_127 ?_
          refine lv_iconst (v := 1) hx hb dX8_readValues_130 (by decide) ?_
          refine lv_iadd hx hb dX8_readValues_131 ?_
          refine lv_topi (fun t_cases_32 et_cases_32 => ?_)
          have h := h t_cases_32 et_cases_32
          refine U_RX8_31 (ws2 := (cs_Text_readValues g a_t a_t_bytes a_t_values a_t_words t_size t_lines t_fault_27 t_points t_cases_32 t_start_28 t_end_29 t_bytes t_values_30 t_words_31)) C hw 0 rfl rfl rfl rfl dX8_readValues_132 (fun H locs hw => ?_)
          refine lv_goto (tgt := 176) hx hb dX8_readValues_135 (by decide) ?_
          exact hB_Text_readValues_176 t_fault_27 t_points t_cases_32 t_start_28 t_end_29 t_values_30 t_words_31 h _ _ _ hw (lv_sub hl [] rfl)
        · have h := h.2 c_1_3
          refine lv_tableOut (tgt := 138) hx hb dX8_readValues_1 (sw_out (fun z z1 z2 => ?_)) (by decide) ?_
          · rcases (show z = 0 ∨ z = 1 ∨ z = 2 ∨ z = 3 by omega) with rfl | rfl | rfl | rfl
            · exact sw_ne c_1_0 (by decide)
            · exact sw_ne c_1_1 (by decide)
            · exact sw_ne c_1_2 (by decide)
            · exact sw_ne c_1_3 (by decide)
          · refine lv_aload_n hx hb dX8_readValues_138 rfl (lv_at hl 0 rfl) ?_
            refine lv_iload_n hx hb dX8_readValues_139 rfl (lv_at hl 1 rfl) ?_
            refine lv_iload_n hx hb dX8_readValues_140 rfl (lv_at hl 2 rfl) ?_
            refine lv_aload_n hx hb dX8_readValues_141 rfl (lv_at hl 0 rfl) ?_
            refine lv_iconst (v := 0) hx hb dX8_readValues_142 (by decide) ?_
            refine lv_aload_n hx hb dX8_readValues_143 rfl (lv_at hl 0 rfl) ?_
            refine G_RX8_31 C hw 0 rfl dX8_readValues_144 ?_
            refine lv_iconst (v := 1) hx hb dX8_readValues_147 (by decide) ?_
            refine lv_isub hx hb dX8_readValues_148 ?_
            refine callVi (As := [.int 0, .int (t_cases - 1)]) (rest := [.int x2, .int x1, .ref a_t]) (W2 := fun u => (cs_Text_readValues g a_t a_t_bytes a_t_values a_t_words t_size t_lines (u.1) t_points t_cases (u.2.1) (u.2.2) t_bytes t_values t_words)) C hw hl (c_Text_number l g a_t a_t_bytes a_t_words a_t_values t_size t_lines t_fault t_points t_cases t_start t_end t_bytes 0 (t_cases - 1) _ h) tw_459 kk_X8_number rfl ⟨rfl, rfl⟩ ⟨by decide, by decide⟩ (Nat.le_of_ble_eq_true rfl) 0 rfl rfl rfl [0, 1] [2, 3] [2, 3, 0, 1] rfl rfl rfl rfl rfl rfl (fun u => rfl) rfl dX8_readValues_149 (fun r_39 u H locs h hw => ?_)
            obtain ⟨t_fault_40, t_start_41, t_end_42⟩ := u
            have hw : Wd g A s (cs_Text_readValues g a_t a_t_bytes a_t_values a_t_words t_size t_lines t_fault_40 t_points t_cases t_start_41 t_end_42 t_bytes t_values t_words) H locs := hw
            refine lv_iconst (v := 0) hx hb dX8_readValues_152 (by decide) ?_
            refine lv_iconst (v := 0) hx hb dX8_readValues_153 (by decide) ?_
            refine callVv (As := [.int x1, .int x2, .int r_39, .int 0, .int 0]) (rest := []) (W2 := fun u => (cs_Text_readValues g a_t a_t_bytes a_t_values a_t_words t_size t_lines t_fault_40 t_points t_cases t_start_41 t_end_42 t_bytes (u.1) (u.2))) C hw hl (c_Text_keepLine l g a_t a_t_values a_t_words a_t_bytes t_size t_lines t_fault_40 t_points t_cases t_start_41 t_end_42 t_values t_words x1 x2 r_39 0 0 _ h) tw_464 kk_X8_keepLine rfl ⟨rfl, rfl⟩ ⟨by decide, by decide⟩ (Nat.le_of_ble_eq_true rfl) 0 rfl rfl rfl [0, 2, 3] [1] [1, 0, 2, 3] rfl rfl rfl rfl rfl rfl (fun u => rfl) rfl dX8_readValues_154 (fun u H locs h hw => ?_)
            obtain ⟨t_values_43, t_words_44⟩ := u
            have hw : Wd g A s (cs_Text_readValues g a_t a_t_bytes a_t_values a_t_words t_size t_lines t_fault_40 t_points t_cases t_start_41 t_end_42 t_bytes t_values_43 t_words_44) H locs := hw
            refine lv_aload_n hx hb dX8_readValues_157 rfl (lv_at hl 0 rfl) ?_
            refine lv_dup hx hb dX8_readValues_158 rfl ?_
            refine G_RX8_31 C hw 0 rfl dX8_readValues_159 ?_
            refine lv_iload_n hx hb dX8_readValues_162 rfl (lv_at hl 2 rfl) ?_
            refine lv_iconst (v := 5) hx hb dX8_readValues_163 (by decide) ?_
            refine lv_icmp_ne (tgt := 171) hx hb dX8_readValues_164 (by decide) (fun c_164 => ?_) (fun c_164 => ?_)
            · have h := h.1 c_164
              refine lv_iconst (v := 0) hx hb dX8_readValues_171 (by decide) ?_
              exact hB_Text_readValues_172 t_cases 0 t_fault_40 t_points t_cases t_start_41 t_end_42 t_values_43 t_words_44 h _ _ _ hw (lv_sub hl [] rfl)
            · have h := h.2 c_164
              refine lv_iconst (v := 1) hx hb dX8_readValues_167 (by decide) ?_
              refine lv_goto (tgt := 172) hx hb dX8_readValues_168 (by decide) ?_
              exact hB_Text_readValues_172 t_cases 1 t_fault_40 t_points t_cases t_start_41 t_end_42 t_values_43 t_words_44 h _ _ _ hw (lv_sub hl [] rfl)
def B_Text_readLine_28 (x1 : Int32) (t_size : Int32) (t_bytes : (Nat → Int32)) (Q : Int32 → Int32 → Int32 → Int32 → Int32 → Int32 → (Nat → Int32) → (Nat → Int32) → Prop) (t_lines : Int32) (t_fault : Int32) (t_points : Int32) (t_cases : Int32) (t_start : Int32) (t_end : Int32) (t_values : (Nat → Int32)) (t_words : (Nat → Int32)) : Prop := P_Text_fail t_fault t_start (fun t_fault_1 => Q t_lines t_fault_1 t_points t_cases t_start t_end t_values t_words)
def B_Text_readLine_33 (x1 : Int32) (t_size : Int32) (t_bytes : (Nat → Int32)) (Q : Int32 → Int32 → Int32 → Int32 → Int32 → Int32 → (Nat → Int32) → (Nat → Int32) → Prop) (x2 : Int32) (t_lines : Int32) (t_fault : Int32) (t_points : Int32) (t_cases : Int32) (t_start : Int32) (t_end : Int32) (t_values : (Nat → Int32)) (t_words : (Nat → Int32)) : Prop := P_Text_readValues x1 x2 t_size t_fault t_points t_cases t_start t_end t_bytes t_values t_words (fun t_fault_2 t_points_3 t_cases_4 t_start_5 t_end_6 t_values_7 t_words_8 => ∀ t_lines_9 : Int32, t_lines_9 = (x1 + 1) → Q t_lines_9 t_fault_2 t_points_3 t_cases_4 t_start_5 t_end_6 t_values_7 t_words_8)
def P_Text_readLine (x1 : Int32) (t_size : Int32) (t_lines : Int32) (t_fault : Int32) (t_points : Int32) (t_cases : Int32) (t_start : Int32) (t_end : Int32) (t_bytes : (Nat → Int32)) (t_values : (Nat → Int32)) (t_words : (Nat → Int32)) (Q : Int32 → Int32 → Int32 → Int32 → Int32 → Int32 → (Nat → Int32) → (Nat → Int32) → Prop) : Prop := P_Text_nextToken t_size t_start t_end t_bytes (fun t_start_10 t_end_11 => P_Text_wordHere t_size t_start_10 t_end_11 t_bytes (fun r_12 => (r_12 = (-1) → B_Text_readLine_28 x1 t_size t_bytes Q t_lines t_fault t_points t_cases t_start_10 t_end_11 t_values t_words) ∧ (¬ r_12 = (-1) → (¬ r_12 = 3 → B_Text_readLine_33 x1 t_size t_bytes Q r_12 t_lines t_fault t_points t_cases t_start_10 t_end_11 t_values t_words) ∧ (r_12 = 3 → (¬ t_cases = 12 → B_Text_readLine_33 x1 t_size t_bytes Q r_12 t_lines t_fault t_points t_cases t_start_10 t_end_11 t_values t_words) ∧ (t_cases = 12 → B_Text_readLine_28 x1 t_size t_bytes Q t_lines t_fault t_points t_cases t_start_10 t_end_11 t_values t_words)))))
abbrev rm_Text_readLine : Room := { frames := 6, cells := 0, slots := 0, locals := 127 }
def cs_Text_readLine (g : GE) (a_t a_t_bytes a_t_values a_t_words : Nat) (t_size : Int32) (t_lines : Int32) (t_fault : Int32) (t_points : Int32) (t_cases : Int32) (t_start : Int32) (t_end : Int32) (t_bytes : (Nat → Int32)) (t_values : (Nat → Int32)) (t_words : (Nat → Int32)) : va_W := [oc a_t 8 [.ref a_t_bytes, .int t_size, .ref a_t_words, .ref a_t_values, .int t_lines, .int t_fault, .int t_points, .int t_cases, .int t_start, .int t_end], ai g a_t_bytes 200 t_bytes, ai g a_t_values 24 t_values, ai g a_t_words 8 t_words]
set_option maxHeartbeats 4000000 in
set_option maxRecDepth 100000 in
theorem c_Text_readLine (l : Launch) (g : GE) (a_t a_t_bytes a_t_values a_t_words : Nat) (t_size : Int32) (t_lines : Int32) (t_fault : Int32) (t_points : Int32) (t_cases : Int32) (t_start : Int32) (t_end : Int32) (t_bytes : (Nat → Int32)) (t_values : (Nat → Int32)) (t_words : (Nat → Int32)) (x1 : Int32) (Q : Int32 → Int32 → Int32 → Int32 → Int32 → Int32 → (Nat → Int32) → (Nat → Int32) → Prop) (h : P_Text_readLine x1 t_size t_lines t_fault t_points t_cases t_start t_end t_bytes t_values t_words Q) : Ctv l g yX8_readLine cX8_readLine 3 none rm_Text_readLine [.ref a_t, .int x1] (cs_Text_readLine g a_t a_t_bytes a_t_values a_t_words t_size t_lines t_fault t_points t_cases t_start t_end t_bytes t_values t_words) (S := Int32 × Int32 × Int32 × Int32 × Int32 × Int32 × (Nat → Int32) × (Nat → Int32)) (fun u => Q u.1 u.2.1 u.2.2.1 u.2.2.2.1 u.2.2.2.2.1 u.2.2.2.2.2.1 u.2.2.2.2.2.2.1 u.2.2.2.2.2.2.2) (fun u => (cs_Text_readLine g a_t a_t_bytes a_t_values a_t_words t_size (u.1) (u.2.1) (u.2.2.1) (u.2.2.2.1) (u.2.2.2.2.1) (u.2.2.2.2.2.1) t_bytes (u.2.2.2.2.2.2.1) (u.2.2.2.2.2.2.2))) := by
  refine meetV rfl (Nat.le_of_ble_eq_true rfl) ⟨rfl, rfl⟩ ?_
  intro p e s m args below meth c A Qf ls C hret hw hl
  have hx := C.1
  have hb := C.2.1
  have hown := C.2.2.2.1
  have hts := C.2.2.2.2.1
  have hE := C.2.2.2.2.2.1
  have hl : lv_has ls 3 [(0, .ref a_t), (1, .int x1)] := hl
  have hB_Text_readLine_28 : ∀ (t_lines : Int32) (t_fault : Int32) (t_points : Int32) (t_cases : Int32) (t_start : Int32) (t_end : Int32) (t_values : (Nat → Int32)) (t_words : (Nat → Int32)), B_Text_readLine_28 x1 t_size t_bytes Q t_lines t_fault t_points t_cases t_start t_end t_values t_words → Wat p l e rm_Text_readLine s m args below meth c A Qf g 3 (cs_Text_readLine g a_t a_t_bytes a_t_values a_t_words t_size t_lines t_fault t_points t_cases t_start t_end t_bytes t_values t_words) [(0, .ref a_t)] 28 [] := by
    intro t_lines t_fault t_points t_cases t_start t_end t_values t_words h H locs ls hw hl
    refine lv_aload_n hx hb dX8_readLine_28 rfl (lv_at hl 0 rfl) ?_
    refine callVv (As := []) (rest := []) (W2 := fun u => (cs_Text_readLine g a_t a_t_bytes a_t_values a_t_words t_size t_lines u t_points t_cases t_start t_end t_bytes t_values t_words)) C hw hl (c_Text_fail l g a_t a_t_bytes a_t_words a_t_values t_size t_lines t_fault t_points t_cases t_start t_end _ h) tw_451 kk_X8_fail rfl ⟨rfl, rfl⟩ ⟨by decide, by decide⟩ (Nat.le_of_ble_eq_true rfl) 0 rfl rfl rfl [0] [1, 2, 3] [3, 0, 1, 2] rfl rfl rfl rfl rfl rfl (fun u => rfl) rfl dX8_readLine_29 (fun u H locs h hw => ?_)
    obtain ⟨t_fault_1, rfl⟩ : ∃ z, z = u := ⟨_, rfl⟩
    have hw : Wd g A s (cs_Text_readLine g a_t a_t_bytes a_t_values a_t_words t_size t_lines t_fault_1 t_points t_cases t_start t_end t_bytes t_values t_words) H locs := hw
    exact hret (t_lines, t_fault_1, t_points, t_cases, t_start, t_end, t_values, t_words) h hw dX8_readLine_32
  have hB_Text_readLine_33 : ∀ (x2 : Int32) (t_lines : Int32) (t_fault : Int32) (t_points : Int32) (t_cases : Int32) (t_start : Int32) (t_end : Int32) (t_values : (Nat → Int32)) (t_words : (Nat → Int32)), B_Text_readLine_33 x1 t_size t_bytes Q x2 t_lines t_fault t_points t_cases t_start t_end t_values t_words → Wat p l e rm_Text_readLine s m args below meth c A Qf g 3 (cs_Text_readLine g a_t a_t_bytes a_t_values a_t_words t_size t_lines t_fault t_points t_cases t_start t_end t_bytes t_values t_words) [(0, .ref a_t), (1, .int x1), (2, .int x2)] 33 [] := by
    intro x2 t_lines t_fault t_points t_cases t_start t_end t_values t_words h H locs ls hw hl
    refine lv_aload_n hx hb dX8_readLine_33 rfl (lv_at hl 0 rfl) ?_
    refine lv_iload_n hx hb dX8_readLine_34 rfl (lv_at hl 1 rfl) ?_
    refine lv_iload_n hx hb dX8_readLine_35 rfl (lv_at hl 2 rfl) ?_
    refine callVv (As := [.int x1, .int x2]) (rest := []) (W2 := fun u => (cs_Text_readLine g a_t a_t_bytes a_t_values a_t_words t_size t_lines (u.1) (u.2.1) (u.2.2.1) (u.2.2.2.1) (u.2.2.2.2.1) t_bytes (u.2.2.2.2.2.1) (u.2.2.2.2.2.2))) C hw hl (c_Text_readValues l g a_t a_t_bytes a_t_values a_t_words t_size t_lines t_fault t_points t_cases t_start t_end t_bytes t_values t_words x1 x2 _ h) tw_455 kk_X8_readValues rfl ⟨rfl, rfl⟩ ⟨by decide, by decide⟩ (Nat.le_of_ble_eq_true rfl) 0 rfl rfl rfl [0, 1, 2, 3] [] [0, 1, 2, 3] rfl rfl rfl rfl rfl rfl (fun u => rfl) rfl dX8_readLine_36 (fun u H locs h hw => ?_)
    obtain ⟨t_fault_2, t_points_3, t_cases_4, t_start_5, t_end_6, t_values_7, t_words_8⟩ := u
    have hw : Wd g A s (cs_Text_readLine g a_t a_t_bytes a_t_values a_t_words t_size t_lines t_fault_2 t_points_3 t_cases_4 t_start_5 t_end_6 t_bytes t_values_7 t_words_8) H locs := hw
    refine lv_aload_n hx hb dX8_readLine_39 rfl (lv_at hl 0 rfl) ?_
    refine lv_iload_n hx hb dX8_readLine_40 rfl (lv_at hl 1 rfl) ?_
    refine lv_iconst (v := 1) hx hb dX8_readLine_41 (by decide) ?_
    refine lv_iadd hx hb dX8_readLine_42 ?_
    refine lv_topi (fun t_lines_9 et_lines_9 => ?_)
    have h := h t_lines_9 et_lines_9
    refine U_RX8_25 (ws2 := (cs_Text_readLine g a_t a_t_bytes a_t_values a_t_words t_size t_lines_9 t_fault_2 t_points_3 t_cases_4 t_start_5 t_end_6 t_bytes t_values_7 t_words_8)) C hw 0 rfl rfl rfl rfl dX8_readLine_43 (fun H locs hw => ?_)
    exact hret (t_lines_9, t_fault_2, t_points_3, t_cases_4, t_start_5, t_end_6, t_values_7, t_words_8) h hw dX8_readLine_46
  refine lv_aload_n hx hb dX8_readLine_0 rfl (lv_at hl 0 rfl) ?_
  refine callVv (As := []) (rest := []) (W2 := fun u => (cs_Text_readLine g a_t a_t_bytes a_t_values a_t_words t_size t_lines t_fault t_points t_cases (u.1) (u.2) t_bytes t_values t_words)) C hw hl (c_Text_nextToken l g a_t a_t_bytes a_t_words a_t_values t_size t_lines t_fault t_points t_cases t_start t_end t_bytes _ h) tw_376 kk_X8_nextToken rfl ⟨rfl, rfl⟩ ⟨by decide, by decide⟩ (Nat.le_of_ble_eq_true rfl) 0 rfl rfl rfl [0, 1] [2, 3] [2, 3, 0, 1] rfl rfl rfl rfl rfl rfl (fun u => rfl) rfl dX8_readLine_1 (fun u H locs h hw => ?_)
  obtain ⟨t_start_10, t_end_11⟩ := u
  have hw : Wd g A s (cs_Text_readLine g a_t a_t_bytes a_t_values a_t_words t_size t_lines t_fault t_points t_cases t_start_10 t_end_11 t_bytes t_values t_words) H locs := hw
  refine lv_aload_n hx hb dX8_readLine_4 rfl (lv_at hl 0 rfl) ?_
  refine callVi (As := []) (rest := []) (W2 := fun _ => (cs_Text_readLine g a_t a_t_bytes a_t_values a_t_words t_size t_lines t_fault t_points t_cases t_start_10 t_end_11 t_bytes t_values t_words)) C hw hl (c_Text_wordHere l g a_t a_t_bytes a_t_words a_t_values t_size t_lines t_fault t_points t_cases t_start_10 t_end_11 t_bytes _ h) tw_389 kk_X8_wordHere rfl ⟨rfl, rfl⟩ ⟨by decide, by decide⟩ (Nat.le_of_ble_eq_true rfl) 0 rfl rfl rfl [0, 1] [2, 3] [2, 3, 0, 1] rfl rfl rfl rfl rfl rfl (fun u => rfl) rfl dX8_readLine_5 (fun r_12 u H locs h hw => ?_)
  refine lv_istore_n (lv' := [(2, .int r_12), (0, .ref a_t), (1, .int x1)]) hx hb dX8_readLine_8 rfl hl (by decide) rfl (fun ls hl => ?_)
  refine lv_iload_n hx hb dX8_readLine_9 rfl (lv_at hl 0 rfl) ?_
  refine lv_iconst (v := (-1)) hx hb dX8_readLine_10 (by decide) ?_
  refine lv_icmp_eq (tgt := 28) hx hb dX8_readLine_11 (by decide) (fun c_11 => ?_) (fun c_11 => ?_)
  · have h := h.1 c_11
    exact hB_Text_readLine_28 t_lines t_fault t_points t_cases t_start_10 t_end_11 t_values t_words h _ _ _ hw (lv_sub hl [1] rfl)
  · have h := h.2 c_11
    refine lv_iload_n hx hb dX8_readLine_14 rfl (lv_at hl 0 rfl) ?_
    refine lv_iconst (v := 3) hx hb dX8_readLine_15 (by decide) ?_
    refine lv_icmp_ne (tgt := 33) hx hb dX8_readLine_16 (by decide) (fun c_16 => ?_) (fun c_16 => ?_)
    · have h := h.1 c_16
      exact hB_Text_readLine_33 r_12 t_lines t_fault t_points t_cases t_start_10 t_end_11 t_values t_words h _ _ _ hw (lv_sub hl [1, 2, 0] rfl)
    · have h := h.2 c_16
      refine lv_aload_n hx hb dX8_readLine_19 rfl (lv_at hl 1 rfl) ?_
      refine G_RX8_31 C hw 0 rfl dX8_readLine_20 ?_
      refine lv_bipush (v := 12) hx hb dX8_readLine_23 (by decide) ?_
      refine lv_icmp_ne (tgt := 33) hx hb dX8_readLine_25 (by decide) (fun c_25 => ?_) (fun c_25 => ?_)
      · have h := h.1 c_25
        exact hB_Text_readLine_33 r_12 t_lines t_fault t_points t_cases t_start_10 t_end_11 t_values t_words h _ _ _ hw (lv_sub hl [1, 2, 0] rfl)
      · have h := h.2 c_25
        exact hB_Text_readLine_28 t_lines t_fault t_points t_cases t_start_10 t_end_11 t_values t_words h _ _ _ hw (lv_sub hl [1] rfl)
def B_Text_goesOn_39 (t_size : Int32) (t_lines : Int32) (t_bytes : (Nat → Int32)) (Q : Int32 → Int32 → Int32 → Int32 → Prop) (t_fault : Int32) (t_start : Int32) (t_end : Int32) : Prop := P_Text_fail t_fault t_start (fun t_fault_1 => Q 0 t_fault_1 t_start t_end)
def P_Text_goesOn (t_size : Int32) (t_lines : Int32) (t_fault : Int32) (t_start : Int32) (t_end : Int32) (t_bytes : (Nat → Int32)) (Q : Int32 → Int32 → Int32 → Int32 → Prop) : Prop := P_Text_nextToken t_size t_start t_end t_bytes (fun t_start_2 t_end_3 => (t_start_2 < t_size → P_Text_byteAt t_start_2 t_size t_bytes (fun r_4 => (¬ r_4 = 59 → B_Text_goesOn_39 t_size t_lines t_bytes Q t_fault t_start_2 t_end_3) ∧ (r_4 = 59 → (¬ t_lines = 8 → Q 1 t_fault t_start_2 t_end_3) ∧ (t_lines = 8 → B_Text_goesOn_39 t_size t_lines t_bytes Q t_fault t_start_2 t_end_3)))) ∧ (¬ t_start_2 < t_size → Q 0 t_fault t_start_2 t_end_3))
abbrev rm_Text_goesOn : Room := { frames := 2, cells := 0, slots := 0, locals := 44 }
def cs_Text_goesOn (g : GE) (a_t a_t_bytes a_t_words a_t_values : Nat) (t_size : Int32) (t_lines : Int32) (t_fault : Int32) (t_points : Int32) (t_cases : Int32) (t_start : Int32) (t_end : Int32) (t_bytes : (Nat → Int32)) : va_W := [oc a_t 8 [.ref a_t_bytes, .int t_size, .ref a_t_words, .ref a_t_values, .int t_lines, .int t_fault, .int t_points, .int t_cases, .int t_start, .int t_end], ai g a_t_bytes 200 t_bytes]
set_option maxHeartbeats 4000000 in
set_option maxRecDepth 100000 in
theorem c_Text_goesOn (l : Launch) (g : GE) (a_t a_t_bytes a_t_words a_t_values : Nat) (t_size : Int32) (t_lines : Int32) (t_fault : Int32) (t_points : Int32) (t_cases : Int32) (t_start : Int32) (t_end : Int32) (t_bytes : (Nat → Int32)) (Q : Int32 → Int32 → Int32 → Int32 → Prop) (h : P_Text_goesOn t_size t_lines t_fault t_start t_end t_bytes Q) : Cti l g yX8_goesOn cX8_goesOn 1 (some .boolean) rm_Text_goesOn [.ref a_t] (cs_Text_goesOn g a_t a_t_bytes a_t_words a_t_values t_size t_lines t_fault t_points t_cases t_start t_end t_bytes) (S := Int32 × Int32 × Int32) (fun r u => Q r u.1 u.2.1 u.2.2) (fun u => (cs_Text_goesOn g a_t a_t_bytes a_t_words a_t_values t_size t_lines (u.1) t_points t_cases (u.2.1) (u.2.2) t_bytes)) := by
  refine meetI rfl (Nat.le_of_ble_eq_true rfl) ⟨rfl, rfl⟩ ?_
  intro p e s m args below meth c A Qf ls C hret hw hl
  have hx := C.1
  have hb := C.2.1
  have hown := C.2.2.2.1
  have hts := C.2.2.2.2.1
  have hE := C.2.2.2.2.2.1
  have hl : lv_has ls 1 [(0, .ref a_t)] := hl
  have hB_Text_goesOn_39 : ∀ (t_fault : Int32) (t_start : Int32) (t_end : Int32), B_Text_goesOn_39 t_size t_lines t_bytes Q t_fault t_start t_end → Wat p l e rm_Text_goesOn s m args below meth c A Qf g 1 (cs_Text_goesOn g a_t a_t_bytes a_t_words a_t_values t_size t_lines t_fault t_points t_cases t_start t_end t_bytes) [(0, .ref a_t)] 39 [] := by
    intro t_fault t_start t_end h H locs ls hw hl
    refine lv_aload_n hx hb dX8_goesOn_39 rfl (lv_at hl 0 rfl) ?_
    refine callVv (As := []) (rest := []) (W2 := fun u => (cs_Text_goesOn g a_t a_t_bytes a_t_words a_t_values t_size t_lines u t_points t_cases t_start t_end t_bytes)) C hw hl (c_Text_fail l g a_t a_t_bytes a_t_words a_t_values t_size t_lines t_fault t_points t_cases t_start t_end _ h) tw_451 kk_X8_fail rfl ⟨rfl, rfl⟩ ⟨by decide, by decide⟩ (Nat.le_of_ble_eq_true rfl) 0 rfl rfl rfl [0] [1] [1, 0] rfl rfl rfl rfl rfl rfl (fun u => rfl) rfl dX8_goesOn_40 (fun u H locs h hw => ?_)
    obtain ⟨t_fault_1, rfl⟩ : ∃ z, z = u := ⟨_, rfl⟩
    have hw : Wd g A s (cs_Text_goesOn g a_t a_t_bytes a_t_words a_t_values t_size t_lines t_fault_1 t_points t_cases t_start t_end t_bytes) H locs := hw
    refine lv_iconst (v := 0) hx hb dX8_goesOn_43 (by decide) ?_
    exact hret (t_fault_1, t_start, t_end) h hw dX8_goesOn_44 rfl
  refine lv_aload_n hx hb dX8_goesOn_0 rfl (lv_at hl 0 rfl) ?_
  refine callVv (As := []) (rest := []) (W2 := fun u => (cs_Text_goesOn g a_t a_t_bytes a_t_words a_t_values t_size t_lines t_fault t_points t_cases (u.1) (u.2) t_bytes)) C hw hl (c_Text_nextToken l g a_t a_t_bytes a_t_words a_t_values t_size t_lines t_fault t_points t_cases t_start t_end t_bytes _ h) tw_376 kk_X8_nextToken rfl ⟨rfl, rfl⟩ ⟨by decide, by decide⟩ (Nat.le_of_ble_eq_true rfl) 0 rfl rfl rfl [0, 1] [] [0, 1] rfl rfl rfl rfl rfl rfl (fun u => rfl) rfl dX8_goesOn_1 (fun u H locs h hw => ?_)
  obtain ⟨t_start_2, t_end_3⟩ := u
  have hw : Wd g A s (cs_Text_goesOn g a_t a_t_bytes a_t_words a_t_values t_size t_lines t_fault t_points t_cases t_start_2 t_end_3 t_bytes) H locs := hw
  refine lv_aload_n hx hb dX8_goesOn_4 rfl (lv_at hl 0 rfl) ?_
  refine G_RX8_51 C hw 0 rfl dX8_goesOn_5 ?_
  refine lv_aload_n hx hb dX8_goesOn_8 rfl (lv_at hl 0 rfl) ?_
  refine G_RX8_21 C hw 0 rfl dX8_goesOn_9 ?_
  refine lv_icmp_lt (tgt := 17) hx hb dX8_goesOn_12 (by decide) (fun c_12 => ?_) (fun c_12 => ?_)
  · have h := h.1 c_12
    refine lv_aload_n hx hb dX8_goesOn_17 rfl (lv_at hl 0 rfl) ?_
    refine lv_aload_n hx hb dX8_goesOn_18 rfl (lv_at hl 0 rfl) ?_
    refine G_RX8_51 C hw 0 rfl dX8_goesOn_19 ?_
    refine callVi (As := [.int t_start_2]) (rest := []) (W2 := fun _ => (cs_Text_goesOn g a_t a_t_bytes a_t_words a_t_values t_size t_lines t_fault t_points t_cases t_start_2 t_end_3 t_bytes)) C hw hl (c_Text_byteAt l g a_t a_t_bytes a_t_words a_t_values t_size t_lines t_fault t_points t_cases t_start_2 t_end_3 t_bytes t_start_2 _ h) tw_380 kk_X8_byteAt rfl ⟨rfl, rfl⟩ ⟨by decide, by decide⟩ (Nat.le_of_ble_eq_true rfl) 0 rfl rfl rfl [0, 1] [] [0, 1] rfl rfl rfl rfl rfl rfl (fun u => rfl) rfl dX8_goesOn_22 (fun r_4 u H locs h hw => ?_)
    refine lv_bipush (v := 59) hx hb dX8_goesOn_25 (by decide) ?_
    refine lv_icmp_ne (tgt := 39) hx hb dX8_goesOn_27 (by decide) (fun c_27 => ?_) (fun c_27 => ?_)
    · have h := h.1 c_27
      exact hB_Text_goesOn_39 t_fault t_start_2 t_end_3 h _ _ _ hw (lv_sub hl [0] rfl)
    · have h := h.2 c_27
      refine lv_aload_n hx hb dX8_goesOn_30 rfl (lv_at hl 0 rfl) ?_
      refine G_RX8_25 C hw 0 rfl dX8_goesOn_31 ?_
      refine lv_bipush (v := 8) hx hb dX8_goesOn_34 (by decide) ?_
      refine lv_icmp_ne (tgt := 45) hx hb dX8_goesOn_36 (by decide) (fun c_36 => ?_) (fun c_36 => ?_)
      · have h := h.1 c_36
        refine lv_iconst (v := 1) hx hb dX8_goesOn_45 (by decide) ?_
        exact hret (t_fault, t_start_2, t_end_3) h hw dX8_goesOn_46 rfl
      · have h := h.2 c_36
        exact hB_Text_goesOn_39 t_fault t_start_2 t_end_3 h _ _ _ hw (lv_sub hl [0] rfl)
  · have h := h.2 c_12
    refine lv_iconst (v := 0) hx hb dX8_goesOn_15 (by decide) ?_
    exact hret (t_fault, t_start_2, t_end_3) h hw dX8_goesOn_16 rfl
def B_Text_readAll_74 (x1 : Int32) (x2 : Int32) (t_size : Int32) (t_bytes : (Nat → Int32)) (Q : Int32 → Int32 → Int32 → Int32 → Int32 → Int32 → Int32 → (Nat → Int32) → (Nat → Int32) → Prop) (t_lines : Int32) (t_fault : Int32) (t_points : Int32) (t_cases : Int32) (t_start : Int32) (t_end : Int32) (t_values : (Nat → Int32)) (t_words : (Nat → Int32)) : Prop := Q t_fault t_lines t_fault t_points t_cases t_start t_end t_values t_words
def B_Text_readAll_67 (x1 : Int32) (x2 : Int32) (t_size : Int32) (t_bytes : (Nat → Int32)) (Q : Int32 → Int32 → Int32 → Int32 → Int32 → Int32 → Int32 → (Nat → Int32) → (Nat → Int32) → Prop) (N_30 : Int32 → Int32 → Int32 → Int32 → Int32 → Int32 → Int32 → Int32 → (Nat → Int32) → (Nat → Int32) → Prop) (x4 : Int32) (k0 : Int32) (t_lines : Int32) (t_fault : Int32) (t_points : Int32) (t_cases : Int32) (t_start : Int32) (t_end : Int32) (t_values : (Nat → Int32)) (t_words : (Nat → Int32)) : Prop := N_30 k0 (x4 + 1) t_lines t_fault t_points t_cases t_start t_end t_values t_words
def B_Text_readAll_66 (x1 : Int32) (x2 : Int32) (t_size : Int32) (t_bytes : (Nat → Int32)) (Q : Int32 → Int32 → Int32 → Int32 → Int32 → Int32 → Int32 → (Nat → Int32) → (Nat → Int32) → Prop) (N_30 : Int32 → Int32 → Int32 → Int32 → Int32 → Int32 → Int32 → Int32 → (Nat → Int32) → (Nat → Int32) → Prop) (x4 : Int32) (t_lines : Int32) (t_fault : Int32) (t_points : Int32) (t_cases : Int32) (t_start : Int32) (t_end : Int32) (t_values : (Nat → Int32)) (t_words : (Nat → Int32)) : Prop := B_Text_readAll_67 x1 x2 t_size t_bytes Q N_30 x4 0 t_lines t_fault t_points t_cases t_start t_end t_values t_words
def L_Text_readAll_30 (x1 : Int32) (x2 : Int32) (t_size : Int32) (t_bytes : (Nat → Int32)) (Q : Int32 → Int32 → Int32 → Int32 → Int32 → Int32 → Int32 → (Nat → Int32) → (Nat → Int32) → Prop) : Nat → Int32 → Int32 → Int32 → Int32 → Int32 → Int32 → Int32 → Int32 → (Nat → Int32) → (Nat → Int32) → Prop
  | 0 => fun _ _ _ _ _ _ _ _ _ _ => False
  | n + 1 => fun x3 x4 t_lines t_fault t_points t_cases t_start t_end t_values t_words => (8 ≤ x4 → B_Text_readAll_74 x1 x2 t_size t_bytes Q t_lines t_fault t_points t_cases t_start t_end t_values t_words) ∧ (¬ 8 ≤ x4 → (x3 = 0 → B_Text_readAll_74 x1 x2 t_size t_bytes Q t_lines t_fault t_points t_cases t_start t_end t_values t_words) ∧ (¬ x3 = 0 → P_Text_readLine x4 t_size t_lines t_fault t_points t_cases t_start t_end t_bytes t_values t_words (fun t_lines_1 t_fault_2 t_points_3 t_cases_4 t_start_5 t_end_6 t_values_7 t_words_8 => (¬ t_fault_2 = (-1) → B_Text_readAll_66 x1 x2 t_size t_bytes Q (L_Text_readAll_30 x1 x2 t_size t_bytes Q n) x4 t_lines_1 t_fault_2 t_points_3 t_cases_4 t_start_5 t_end_6 t_values_7 t_words_8) ∧ (t_fault_2 = (-1) → P_Text_goesOn t_size t_lines_1 t_fault_2 t_start_5 t_end_6 t_bytes (fun r_9 t_fault_10 t_start_11 t_end_12 => (r_9 = 0 → B_Text_readAll_66 x1 x2 t_size t_bytes Q (L_Text_readAll_30 x1 x2 t_size t_bytes Q n) x4 t_lines_1 t_fault_10 t_points_3 t_cases_4 t_start_11 t_end_12 t_values_7 t_words_8) ∧ (¬ r_9 = 0 → B_Text_readAll_67 x1 x2 t_size t_bytes Q (L_Text_readAll_30 x1 x2 t_size t_bytes Q n) x4 1 t_lines_1 t_fault_10 t_points_3 t_cases_4 t_start_11 t_end_12 t_values_7 t_words_8))))))
def P_Text_readAll (x1 : Int32) (x2 : Int32) (t_size : Int32) (t_lines : Int32) (t_fault : Int32) (t_points : Int32) (t_cases : Int32) (t_start : Int32) (t_end : Int32) (t_bytes : (Nat → Int32)) (t_values : (Nat → Int32)) (t_words : (Nat → Int32)) (Q : Int32 → Int32 → Int32 → Int32 → Int32 → Int32 → Int32 → (Nat → Int32) → (Nat → Int32) → Prop) : Prop := ∃ n_30 : Nat, L_Text_readAll_30 x1 x2 t_size t_bytes Q n_30 1 0 0 (-1) x1 x2 t_start 0 t_values t_words
abbrev rm_Text_readAll : Room := { frames := 7, cells := 0, slots := 0, locals := 149 }
def cs_Text_readAll (g : GE) (a_t a_t_bytes a_t_values a_t_words : Nat) (t_size : Int32) (t_lines : Int32) (t_fault : Int32) (t_points : Int32) (t_cases : Int32) (t_start : Int32) (t_end : Int32) (t_bytes : (Nat → Int32)) (t_values : (Nat → Int32)) (t_words : (Nat → Int32)) : va_W := [oc a_t 8 [.ref a_t_bytes, .int t_size, .ref a_t_words, .ref a_t_values, .int t_lines, .int t_fault, .int t_points, .int t_cases, .int t_start, .int t_end], ai g a_t_bytes 200 t_bytes, ai g a_t_values 24 t_values, ai g a_t_words 8 t_words]
set_option maxHeartbeats 4000000 in
set_option maxRecDepth 100000 in
theorem c_Text_readAll (l : Launch) (g : GE) (a_t a_t_bytes a_t_values a_t_words : Nat) (t_size : Int32) (t_lines : Int32) (t_fault : Int32) (t_points : Int32) (t_cases : Int32) (t_start : Int32) (t_end : Int32) (t_bytes : (Nat → Int32)) (t_values : (Nat → Int32)) (t_words : (Nat → Int32)) (x1 : Int32) (x2 : Int32) (Q : Int32 → Int32 → Int32 → Int32 → Int32 → Int32 → Int32 → (Nat → Int32) → (Nat → Int32) → Prop) (h : P_Text_readAll x1 x2 t_size t_lines t_fault t_points t_cases t_start t_end t_bytes t_values t_words Q) : Cti l g yX8_readAll cX8_readAll 5 (some .int) rm_Text_readAll [.ref a_t, .int x1, .int x2] (cs_Text_readAll g a_t a_t_bytes a_t_values a_t_words t_size t_lines t_fault t_points t_cases t_start t_end t_bytes t_values t_words) (S := Int32 × Int32 × Int32 × Int32 × Int32 × Int32 × (Nat → Int32) × (Nat → Int32)) (fun r u => Q r u.1 u.2.1 u.2.2.1 u.2.2.2.1 u.2.2.2.2.1 u.2.2.2.2.2.1 u.2.2.2.2.2.2.1 u.2.2.2.2.2.2.2) (fun u => (cs_Text_readAll g a_t a_t_bytes a_t_values a_t_words t_size (u.1) (u.2.1) (u.2.2.1) (u.2.2.2.1) (u.2.2.2.2.1) (u.2.2.2.2.2.1) t_bytes (u.2.2.2.2.2.2.1) (u.2.2.2.2.2.2.2))) := by
  refine meetI rfl (Nat.le_of_ble_eq_true rfl) ⟨rfl, rfl⟩ ?_
  intro p e s m args below meth c A Qf ls C hret hw hl
  have hx := C.1
  have hb := C.2.1
  have hown := C.2.2.2.1
  have hts := C.2.2.2.2.1
  have hE := C.2.2.2.2.2.1
  have hl : lv_has ls 5 [(0, .ref a_t), (1, .int x1), (2, .int x2)] := hl
  have hB_Text_readAll_74 : ∀ (t_lines : Int32) (t_fault : Int32) (t_points : Int32) (t_cases : Int32) (t_start : Int32) (t_end : Int32) (t_values : (Nat → Int32)) (t_words : (Nat → Int32)), B_Text_readAll_74 x1 x2 t_size t_bytes Q t_lines t_fault t_points t_cases t_start t_end t_values t_words → Wat p l e rm_Text_readAll s m args below meth c A Qf g 5 (cs_Text_readAll g a_t a_t_bytes a_t_values a_t_words t_size t_lines t_fault t_points t_cases t_start t_end t_bytes t_values t_words) [(0, .ref a_t)] 74 [] := by
    intro t_lines t_fault t_points t_cases t_start t_end t_values t_words h H locs ls hw hl
    refine lv_aload_n hx hb dX8_readAll_74 rfl (lv_at hl 0 rfl) ?_
    refine G_RX8_34 C hw 0 rfl dX8_readAll_75 ?_
    exact hret (t_lines, t_fault, t_points, t_cases, t_start, t_end, t_values, t_words) h hw dX8_readAll_78 rfl
  have hB_Text_readAll_67 : ∀ (N_30 : Int32 → Int32 → Int32 → Int32 → Int32 → Int32 → Int32 → Int32 → (Nat → Int32) → (Nat → Int32) → Prop) (hN_30 : ∀ (x3 : Int32) (x4 : Int32) (t_lines : Int32) (t_fault : Int32) (t_points : Int32) (t_cases : Int32) (t_start : Int32) (t_end : Int32) (t_values : (Nat → Int32)) (t_words : (Nat → Int32)), N_30 x3 x4 t_lines t_fault t_points t_cases t_start t_end t_values t_words → Wat p l e rm_Text_readAll s m args below meth c A Qf g 5 (cs_Text_readAll g a_t a_t_bytes a_t_values a_t_words t_size t_lines t_fault t_points t_cases t_start t_end t_bytes t_values t_words) [(0, .ref a_t), (3, .int x3), (4, .int x4)] 30 []) (x4 : Int32) (k0 : Int32) (t_lines : Int32) (t_fault : Int32) (t_points : Int32) (t_cases : Int32) (t_start : Int32) (t_end : Int32) (t_values : (Nat → Int32)) (t_words : (Nat → Int32)), B_Text_readAll_67 x1 x2 t_size t_bytes Q N_30 x4 k0 t_lines t_fault t_points t_cases t_start t_end t_values t_words → Wat p l e rm_Text_readAll s m args below meth c A Qf g 5 (cs_Text_readAll g a_t a_t_bytes a_t_values a_t_words t_size t_lines t_fault t_points t_cases t_start t_end t_bytes t_values t_words) [(0, .ref a_t), (4, .int x4)] 67 [.int k0] := by
    intro N_30 hN_30 x4 k0 t_lines t_fault t_points t_cases t_start t_end t_values t_words h H locs ls hw hl
    refine lv_istore_n (lv' := [(3, .int k0), (0, .ref a_t), (4, .int x4)]) hx hb dX8_readAll_67 rfl hl (by decide) rfl (fun ls hl => ?_)
    refine lv_iinc (v := x4 + 1) (lv' := [(4, .int (x4 + 1)), (3, .int k0), (0, .ref a_t)]) hx hb dX8_readAll_68 hl (k := 2) rfl rfl (by decide) rfl (fun ls hl => ?_)
    refine lv_goto (tgt := 30) hx hb dX8_readAll_71 (by decide) ?_
    exact hN_30 k0 (x4 + 1) t_lines t_fault t_points t_cases t_start t_end t_values t_words h _ _ _ hw (lv_sub hl [2, 1, 0] rfl)
  have hB_Text_readAll_66 : ∀ (N_30 : Int32 → Int32 → Int32 → Int32 → Int32 → Int32 → Int32 → Int32 → (Nat → Int32) → (Nat → Int32) → Prop) (hN_30 : ∀ (x3 : Int32) (x4 : Int32) (t_lines : Int32) (t_fault : Int32) (t_points : Int32) (t_cases : Int32) (t_start : Int32) (t_end : Int32) (t_values : (Nat → Int32)) (t_words : (Nat → Int32)), N_30 x3 x4 t_lines t_fault t_points t_cases t_start t_end t_values t_words → Wat p l e rm_Text_readAll s m args below meth c A Qf g 5 (cs_Text_readAll g a_t a_t_bytes a_t_values a_t_words t_size t_lines t_fault t_points t_cases t_start t_end t_bytes t_values t_words) [(0, .ref a_t), (3, .int x3), (4, .int x4)] 30 []) (x4 : Int32) (t_lines : Int32) (t_fault : Int32) (t_points : Int32) (t_cases : Int32) (t_start : Int32) (t_end : Int32) (t_values : (Nat → Int32)) (t_words : (Nat → Int32)), B_Text_readAll_66 x1 x2 t_size t_bytes Q N_30 x4 t_lines t_fault t_points t_cases t_start t_end t_values t_words → Wat p l e rm_Text_readAll s m args below meth c A Qf g 5 (cs_Text_readAll g a_t a_t_bytes a_t_values a_t_words t_size t_lines t_fault t_points t_cases t_start t_end t_bytes t_values t_words) [(0, .ref a_t), (4, .int x4)] 66 [] := by
    intro N_30 hN_30 x4 t_lines t_fault t_points t_cases t_start t_end t_values t_words h H locs ls hw hl
    refine lv_iconst (v := 0) hx hb dX8_readAll_66 (by decide) ?_
    exact hB_Text_readAll_67 N_30 hN_30 x4 0 t_lines t_fault t_points t_cases t_start t_end t_values t_words h _ _ _ hw (lv_sub hl [0, 1] rfl)
  have hL_Text_readAll_30 : ∀ (n : Nat) (x3 : Int32) (x4 : Int32) (t_lines : Int32) (t_fault : Int32) (t_points : Int32) (t_cases : Int32) (t_start : Int32) (t_end : Int32) (t_values : (Nat → Int32)) (t_words : (Nat → Int32)), L_Text_readAll_30 x1 x2 t_size t_bytes Q n x3 x4 t_lines t_fault t_points t_cases t_start t_end t_values t_words → Wat p l e rm_Text_readAll s m args below meth c A Qf g 5 (cs_Text_readAll g a_t a_t_bytes a_t_values a_t_words t_size t_lines t_fault t_points t_cases t_start t_end t_bytes t_values t_words) [(0, .ref a_t), (3, .int x3), (4, .int x4)] 30 [] := by
    intro n
    induction n with
    | zero => intro x3 x4 t_lines t_fault t_points t_cases t_start t_end t_values t_words h; exact absurd h id
    | succ n ih =>
      intro x3 x4 t_lines t_fault t_points t_cases t_start t_end t_values t_words h H locs ls hw hl
      rw [L_Text_readAll_30] at h
      refine lv_iload hx hb dX8_readAll_30 (lv_at hl 2 rfl) ?_
      refine lv_bipush (v := 8) hx hb dX8_readAll_32 (by decide) ?_
      refine lv_icmp_ge (tgt := 74) hx hb dX8_readAll_34 (by decide) (fun c_34 => ?_) (fun c_34 => ?_)
      · have h := h.1 c_34
        exact hB_Text_readAll_74 t_lines t_fault t_points t_cases t_start t_end t_values t_words h _ _ _ hw (lv_sub hl [0] rfl)
      · have h := h.2 c_34
        refine lv_iload_n hx hb dX8_readAll_37 rfl (lv_at hl 1 rfl) ?_
        refine lv_if_eq (tgt := 74) hx hb dX8_readAll_38 (by decide) (fun c_38 => ?_) (fun c_38 => ?_)
        · have h := h.1 c_38
          exact hB_Text_readAll_74 t_lines t_fault t_points t_cases t_start t_end t_values t_words h _ _ _ hw (lv_sub hl [0] rfl)
        · have h := h.2 c_38
          refine lv_aload_n hx hb dX8_readAll_41 rfl (lv_at hl 0 rfl) ?_
          refine lv_iload hx hb dX8_readAll_42 (lv_at hl 2 rfl) ?_
          refine callVv (As := [.int x4]) (rest := []) (W2 := fun u => (cs_Text_readAll g a_t a_t_bytes a_t_values a_t_words t_size (u.1) (u.2.1) (u.2.2.1) (u.2.2.2.1) (u.2.2.2.2.1) (u.2.2.2.2.2.1) t_bytes (u.2.2.2.2.2.2.1) (u.2.2.2.2.2.2.2))) C hw hl (c_Text_readLine l g a_t a_t_bytes a_t_values a_t_words t_size t_lines t_fault t_points t_cases t_start t_end t_bytes t_values t_words x4 _ h) tw_372 kk_X8_readLine rfl ⟨rfl, rfl⟩ ⟨by decide, by decide⟩ (Nat.le_of_ble_eq_true rfl) 0 rfl rfl rfl [0, 1, 2, 3] [] [0, 1, 2, 3] rfl rfl rfl rfl rfl rfl (fun u => rfl) rfl dX8_readAll_44 (fun u H locs h hw => ?_)
          obtain ⟨t_lines_1, t_fault_2, t_points_3, t_cases_4, t_start_5, t_end_6, t_values_7, t_words_8⟩ := u
          have hw : Wd g A s (cs_Text_readAll g a_t a_t_bytes a_t_values a_t_words t_size t_lines_1 t_fault_2 t_points_3 t_cases_4 t_start_5 t_end_6 t_bytes t_values_7 t_words_8) H locs := hw
          refine lv_aload_n hx hb dX8_readAll_47 rfl (lv_at hl 0 rfl) ?_
          refine G_RX8_34 C hw 0 rfl dX8_readAll_48 ?_
          refine lv_iconst (v := (-1)) hx hb dX8_readAll_51 (by decide) ?_
          refine lv_icmp_ne (tgt := 66) hx hb dX8_readAll_52 (by decide) (fun c_52 => ?_) (fun c_52 => ?_)
          · have h := h.1 c_52
            exact hB_Text_readAll_66 (L_Text_readAll_30 x1 x2 t_size t_bytes Q n) ih x4 t_lines_1 t_fault_2 t_points_3 t_cases_4 t_start_5 t_end_6 t_values_7 t_words_8 h _ _ _ hw (lv_sub hl [0, 2] rfl)
          · have h := h.2 c_52
            refine lv_aload_n hx hb dX8_readAll_55 rfl (lv_at hl 0 rfl) ?_
            refine callVi (As := []) (rest := []) (W2 := fun u => (cs_Text_readAll g a_t a_t_bytes a_t_values a_t_words t_size t_lines_1 (u.1) t_points_3 t_cases_4 (u.2.1) (u.2.2) t_bytes t_values_7 t_words_8)) C hw hl (c_Text_goesOn l g a_t a_t_bytes a_t_words a_t_values t_size t_lines_1 t_fault_2 t_points_3 t_cases_4 t_start_5 t_end_6 t_bytes _ h) tw_472 kk_X8_goesOn rfl ⟨rfl, rfl⟩ ⟨by decide, by decide⟩ (Nat.le_of_ble_eq_true rfl) 0 rfl rfl rfl [0, 1] [2, 3] [2, 3, 0, 1] rfl rfl rfl rfl rfl rfl (fun u => rfl) rfl dX8_readAll_56 (fun r_9 u H locs h hw => ?_)
            obtain ⟨t_fault_10, t_start_11, t_end_12⟩ := u
            have hw : Wd g A s (cs_Text_readAll g a_t a_t_bytes a_t_values a_t_words t_size t_lines_1 t_fault_10 t_points_3 t_cases_4 t_start_11 t_end_12 t_bytes t_values_7 t_words_8) H locs := hw
            refine lv_if_eq (tgt := 66) hx hb dX8_readAll_59 (by decide) (fun c_59 => ?_) (fun c_59 => ?_)
            · have h := h.1 c_59
              exact hB_Text_readAll_66 (L_Text_readAll_30 x1 x2 t_size t_bytes Q n) ih x4 t_lines_1 t_fault_10 t_points_3 t_cases_4 t_start_11 t_end_12 t_values_7 t_words_8 h _ _ _ hw (lv_sub hl [0, 2] rfl)
            · have h := h.2 c_59
              refine lv_iconst (v := 1) hx hb dX8_readAll_62 (by decide) ?_
              refine lv_goto (tgt := 67) hx hb dX8_readAll_63 (by decide) ?_
              exact hB_Text_readAll_67 (L_Text_readAll_30 x1 x2 t_size t_bytes Q n) ih x4 1 t_lines_1 t_fault_10 t_points_3 t_cases_4 t_start_11 t_end_12 t_values_7 t_words_8 h _ _ _ hw (lv_sub hl [0, 2] rfl)
  refine lv_aload_n hx hb dX8_readAll_0 rfl (lv_at hl 0 rfl) ?_
  refine lv_iload_n hx hb dX8_readAll_1 rfl (lv_at hl 1 rfl) ?_
  refine U_RX8_28 (ws2 := (cs_Text_readAll g a_t a_t_bytes a_t_values a_t_words t_size t_lines t_fault x1 t_cases t_start t_end t_bytes t_values t_words)) C hw 0 rfl rfl rfl rfl dX8_readAll_2 (fun H locs hw => ?_)
  refine lv_aload_n hx hb dX8_readAll_5 rfl (lv_at hl 0 rfl) ?_
  refine lv_iload_n hx hb dX8_readAll_6 rfl (lv_at hl 2 rfl) ?_
  refine U_RX8_31 (ws2 := (cs_Text_readAll g a_t a_t_bytes a_t_values a_t_words t_size t_lines t_fault x1 x2 t_start t_end t_bytes t_values t_words)) C hw 0 rfl rfl rfl rfl dX8_readAll_7 (fun H locs hw => ?_)
  refine lv_aload_n hx hb dX8_readAll_10 rfl (lv_at hl 0 rfl) ?_
  refine lv_iconst (v := 0) hx hb dX8_readAll_11 (by decide) ?_
  refine U_RX8_25 (ws2 := (cs_Text_readAll g a_t a_t_bytes a_t_values a_t_words t_size 0 t_fault x1 x2 t_start t_end t_bytes t_values t_words)) C hw 0 rfl rfl rfl rfl dX8_readAll_12 (fun H locs hw => ?_)
  refine lv_aload_n hx hb dX8_readAll_15 rfl (lv_at hl 0 rfl) ?_
  refine lv_iconst (v := (-1)) hx hb dX8_readAll_16 (by decide) ?_
  refine U_RX8_34 (ws2 := (cs_Text_readAll g a_t a_t_bytes a_t_values a_t_words t_size 0 (-1) x1 x2 t_start t_end t_bytes t_values t_words)) C hw 0 rfl rfl rfl rfl dX8_readAll_17 (fun H locs hw => ?_)
  refine lv_aload_n hx hb dX8_readAll_20 rfl (lv_at hl 0 rfl) ?_
  refine lv_iconst (v := 0) hx hb dX8_readAll_21 (by decide) ?_
  refine U_RX8_37 (ws2 := (cs_Text_readAll g a_t a_t_bytes a_t_values a_t_words t_size 0 (-1) x1 x2 t_start 0 t_bytes t_values t_words)) C hw 0 rfl rfl rfl rfl dX8_readAll_22 (fun H locs hw => ?_)
  refine lv_iconst (v := 1) hx hb dX8_readAll_25 (by decide) ?_
  refine lv_istore_n (lv' := [(3, .int 1), (0, .ref a_t), (1, .int x1), (2, .int x2)]) hx hb dX8_readAll_26 rfl hl (by decide) rfl (fun ls hl => ?_)
  refine lv_iconst (v := 0) hx hb dX8_readAll_27 (by decide) ?_
  refine lv_istore (lv' := [(4, .int 0), (3, .int 1), (0, .ref a_t), (1, .int x1), (2, .int x2)]) hx hb dX8_readAll_28 hl (by decide) rfl (fun ls hl => ?_)
  obtain ⟨n_30, h⟩ := h
  exact hL_Text_readAll_30 n_30 1 0 0 (-1) x1 x2 t_start 0 t_values t_words h _ _ _ hw (lv_sub hl [2, 1, 0] rfl)
def P_Text_lines (t_lines : Int32) (Q : Int32 → Prop) : Prop := Q t_lines
abbrev rm_Text_lines : Room := { frames := 0, cells := 0, slots := 0, locals := 0 }
def cs_Text_lines (g : GE) (a_t a_t_bytes a_t_words a_t_values : Nat) (t_size : Int32) (t_lines : Int32) (t_fault : Int32) (t_points : Int32) (t_cases : Int32) (t_start : Int32) (t_end : Int32) : va_W := [oc a_t 8 [.ref a_t_bytes, .int t_size, .ref a_t_words, .ref a_t_values, .int t_lines, .int t_fault, .int t_points, .int t_cases, .int t_start, .int t_end]]
set_option maxHeartbeats 4000000 in
set_option maxRecDepth 100000 in
theorem c_Text_lines (l : Launch) (g : GE) (a_t a_t_bytes a_t_words a_t_values : Nat) (t_size : Int32) (t_lines : Int32) (t_fault : Int32) (t_points : Int32) (t_cases : Int32) (t_start : Int32) (t_end : Int32) (Q : Int32 → Prop) (h : P_Text_lines t_lines Q) : Cti l g yX8_lines cX8_lines 1 (some .int) rm_Text_lines [.ref a_t] (cs_Text_lines g a_t a_t_bytes a_t_words a_t_values t_size t_lines t_fault t_points t_cases t_start t_end) (S := Unit) (fun r u => Q r) (fun _ => (cs_Text_lines g a_t a_t_bytes a_t_words a_t_values t_size t_lines t_fault t_points t_cases t_start t_end)) := by
  refine meetI rfl (Nat.le_of_ble_eq_true rfl) ⟨rfl, rfl⟩ ?_
  intro p e s m args below meth c A Qf ls C hret hw hl
  have hx := C.1
  have hb := C.2.1
  have hown := C.2.2.2.1
  have hts := C.2.2.2.2.1
  have hE := C.2.2.2.2.2.1
  have hl : lv_has ls 1 [(0, .ref a_t)] := hl
  refine lv_aload_n hx hb dX8_lines_0 rfl (lv_at hl 0 rfl) ?_
  refine G_RX8_25 C hw 0 rfl dX8_lines_1 ?_
  exact hret () h hw dX8_lines_4 rfl
def B_Text_value_29 (x1 : Int32) (x2 : Int32) (t_values : (Nat → Int32)) (Q : Int32 → Prop) (k0 : Int32) : Prop := Q k0
def B_Text_value_28 (x1 : Int32) (x2 : Int32) (t_values : (Nat → Int32)) (Q : Int32 → Prop) : Prop := B_Text_value_29 x1 x2 t_values Q 0
def P_Text_value (x1 : Int32) (x2 : Int32) (t_values : (Nat → Int32)) (Q : Int32 → Prop) : Prop := ∀ x3_1 : Int32, x3_1 = ((x1 * 3) + x2) → (x3_1 < 0 → B_Text_value_28 x1 x2 t_values Q) ∧ (¬ x3_1 < 0 → ((nI 24) ≤ x3_1 → B_Text_value_28 x1 x2 t_values Q) ∧ (¬ (nI 24) ≤ x3_1 → vp_in x3_1 24 ∧ (B_Text_value_29 x1 x2 t_values Q (t_values x3_1.toNatClampNeg))))
abbrev rm_Text_value : Room := { frames := 0, cells := 0, slots := 0, locals := 0 }
def cs_Text_value (g : GE) (a_t a_t_values a_t_bytes a_t_words : Nat) (t_size : Int32) (t_lines : Int32) (t_fault : Int32) (t_points : Int32) (t_cases : Int32) (t_start : Int32) (t_end : Int32) (t_values : (Nat → Int32)) : va_W := [oc a_t 8 [.ref a_t_bytes, .int t_size, .ref a_t_words, .ref a_t_values, .int t_lines, .int t_fault, .int t_points, .int t_cases, .int t_start, .int t_end], ai g a_t_values 24 t_values]
set_option maxHeartbeats 4000000 in
set_option maxRecDepth 100000 in
theorem c_Text_value (l : Launch) (g : GE) (a_t a_t_values a_t_bytes a_t_words : Nat) (t_size : Int32) (t_lines : Int32) (t_fault : Int32) (t_points : Int32) (t_cases : Int32) (t_start : Int32) (t_end : Int32) (t_values : (Nat → Int32)) (x1 : Int32) (x2 : Int32) (Q : Int32 → Prop) (h : P_Text_value x1 x2 t_values Q) : Cti l g yX8_value cX8_value 4 (some .int) rm_Text_value [.ref a_t, .int x1, .int x2] (cs_Text_value g a_t a_t_values a_t_bytes a_t_words t_size t_lines t_fault t_points t_cases t_start t_end t_values) (S := Unit) (fun r u => Q r) (fun _ => (cs_Text_value g a_t a_t_values a_t_bytes a_t_words t_size t_lines t_fault t_points t_cases t_start t_end t_values)) := by
  refine meetI rfl (Nat.le_of_ble_eq_true rfl) ⟨rfl, rfl⟩ ?_
  intro p e s m args below meth c A Qf ls C hret hw hl
  have hx := C.1
  have hb := C.2.1
  have hown := C.2.2.2.1
  have hts := C.2.2.2.2.1
  have hE := C.2.2.2.2.2.1
  have hl : lv_has ls 4 [(0, .ref a_t), (1, .int x1), (2, .int x2)] := hl
  have hB_Text_value_29 : ∀ (k0 : Int32), B_Text_value_29 x1 x2 t_values Q k0 → Wat p l e rm_Text_value s m args below meth c A Qf g 4 (cs_Text_value g a_t a_t_values a_t_bytes a_t_words t_size t_lines t_fault t_points t_cases t_start t_end t_values) [] 29 [.int k0] := by
    intro k0 h H locs ls hw hl
    exact hret () h hw dX8_value_29 rfl
  have hB_Text_value_28 : B_Text_value_28 x1 x2 t_values Q → Wat p l e rm_Text_value s m args below meth c A Qf g 4 (cs_Text_value g a_t a_t_values a_t_bytes a_t_words t_size t_lines t_fault t_points t_cases t_start t_end t_values) [] 28 [] := by
    intro  h H locs ls hw hl
    refine lv_iconst (v := 0) hx hb dX8_value_28 (by decide) ?_
    exact hB_Text_value_29 0 h _ _ _ hw (lv_sub hl [] rfl)
  refine lv_iload_n hx hb dX8_value_0 rfl (lv_at hl 1 rfl) ?_
  refine lv_iconst (v := 3) hx hb dX8_value_1 (by decide) ?_
  refine lv_imul hx hb dX8_value_2 ?_
  refine lv_iload_n hx hb dX8_value_3 rfl (lv_at hl 2 rfl) ?_
  refine lv_iadd hx hb dX8_value_4 ?_
  refine lv_topi (fun x3_1 ex3_1 => ?_)
  have h := h x3_1 ex3_1
  refine lv_istore_n (lv' := [(3, .int x3_1), (0, .ref a_t), (1, .int x1), (2, .int x2)]) hx hb dX8_value_5 rfl hl (by decide) rfl (fun ls hl => ?_)
  refine lv_iload_n hx hb dX8_value_6 rfl (lv_at hl 0 rfl) ?_
  refine lv_if_lt (tgt := 28) hx hb dX8_value_7 (by decide) (fun c_7 => ?_) (fun c_7 => ?_)
  · have h := h.1 c_7
    exact hB_Text_value_28  h _ _ _ hw (lv_sub hl [] rfl)
  · have h := h.2 c_7
    refine lv_iload_n hx hb dX8_value_10 rfl (lv_at hl 0 rfl) ?_
    refine lv_aload_n hx hb dX8_value_11 rfl (lv_at hl 1 rfl) ?_
    refine G_RX8_18 C hw 0 rfl dX8_value_12 ?_
    refine alnI C hw 1 rfl dX8_value_15 ?_
    refine lv_icmp_ge (tgt := 28) hx hb dX8_value_16 (by decide) (fun c_16 => ?_) (fun c_16 => ?_)
    · have h := h.1 c_16
      exact hB_Text_value_28  h _ _ _ hw (lv_sub hl [] rfl)
    · have h := h.2 c_16
      refine lv_aload_n hx hb dX8_value_19 rfl (lv_at hl 1 rfl) ?_
      refine G_RX8_18 C hw 0 rfl dX8_value_20 ?_
      refine lv_iload_n hx hb dX8_value_23 rfl (lv_at hl 0 rfl) ?_
      refine aldI C hw 1 rfl h.1 dX8_value_24 ?_
      have h := h.2
      refine lv_goto (tgt := 29) hx hb dX8_value_25 (by decide) ?_
      exact hB_Text_value_29 (t_values x3_1.toNatClampNeg) h _ _ _ hw (lv_sub hl [] rfl)
def B_Text_word_23 (x1 : Int32) (t_words : (Nat → Int32)) (Q : Int32 → Prop) (k0 : Int32) : Prop := Q k0
def B_Text_word_22 (x1 : Int32) (t_words : (Nat → Int32)) (Q : Int32 → Prop) : Prop := B_Text_word_23 x1 t_words Q (-1)
def P_Text_word (x1 : Int32) (t_words : (Nat → Int32)) (Q : Int32 → Prop) : Prop := (x1 < 0 → B_Text_word_22 x1 t_words Q) ∧ (¬ x1 < 0 → ((nI 8) ≤ x1 → B_Text_word_22 x1 t_words Q) ∧ (¬ (nI 8) ≤ x1 → vp_in x1 8 ∧ (B_Text_word_23 x1 t_words Q (t_words x1.toNatClampNeg))))
abbrev rm_Text_word : Room := { frames := 0, cells := 0, slots := 0, locals := 0 }
def cs_Text_word (g : GE) (a_t a_t_words a_t_bytes a_t_values : Nat) (t_size : Int32) (t_lines : Int32) (t_fault : Int32) (t_points : Int32) (t_cases : Int32) (t_start : Int32) (t_end : Int32) (t_words : (Nat → Int32)) : va_W := [oc a_t 8 [.ref a_t_bytes, .int t_size, .ref a_t_words, .ref a_t_values, .int t_lines, .int t_fault, .int t_points, .int t_cases, .int t_start, .int t_end], ai g a_t_words 8 t_words]
set_option maxHeartbeats 4000000 in
set_option maxRecDepth 100000 in
theorem c_Text_word (l : Launch) (g : GE) (a_t a_t_words a_t_bytes a_t_values : Nat) (t_size : Int32) (t_lines : Int32) (t_fault : Int32) (t_points : Int32) (t_cases : Int32) (t_start : Int32) (t_end : Int32) (t_words : (Nat → Int32)) (x1 : Int32) (Q : Int32 → Prop) (h : P_Text_word x1 t_words Q) : Cti l g yX8_word cX8_word 2 (some .int) rm_Text_word [.ref a_t, .int x1] (cs_Text_word g a_t a_t_words a_t_bytes a_t_values t_size t_lines t_fault t_points t_cases t_start t_end t_words) (S := Unit) (fun r u => Q r) (fun _ => (cs_Text_word g a_t a_t_words a_t_bytes a_t_values t_size t_lines t_fault t_points t_cases t_start t_end t_words)) := by
  refine meetI rfl (Nat.le_of_ble_eq_true rfl) ⟨rfl, rfl⟩ ?_
  intro p e s m args below meth c A Qf ls C hret hw hl
  have hx := C.1
  have hb := C.2.1
  have hown := C.2.2.2.1
  have hts := C.2.2.2.2.1
  have hE := C.2.2.2.2.2.1
  have hl : lv_has ls 2 [(0, .ref a_t), (1, .int x1)] := hl
  have hB_Text_word_23 : ∀ (k0 : Int32), B_Text_word_23 x1 t_words Q k0 → Wat p l e rm_Text_word s m args below meth c A Qf g 2 (cs_Text_word g a_t a_t_words a_t_bytes a_t_values t_size t_lines t_fault t_points t_cases t_start t_end t_words) [] 23 [.int k0] := by
    intro k0 h H locs ls hw hl
    exact hret () h hw dX8_word_23 rfl
  have hB_Text_word_22 : B_Text_word_22 x1 t_words Q → Wat p l e rm_Text_word s m args below meth c A Qf g 2 (cs_Text_word g a_t a_t_words a_t_bytes a_t_values t_size t_lines t_fault t_points t_cases t_start t_end t_words) [] 22 [] := by
    intro  h H locs ls hw hl
    refine lv_iconst (v := (-1)) hx hb dX8_word_22 (by decide) ?_
    exact hB_Text_word_23 (-1) h _ _ _ hw (lv_sub hl [] rfl)
  refine lv_iload_n hx hb dX8_word_0 rfl (lv_at hl 1 rfl) ?_
  refine lv_if_lt (tgt := 22) hx hb dX8_word_1 (by decide) (fun c_1 => ?_) (fun c_1 => ?_)
  · have h := h.1 c_1
    exact hB_Text_word_22  h _ _ _ hw (lv_sub hl [] rfl)
  · have h := h.2 c_1
    refine lv_iload_n hx hb dX8_word_4 rfl (lv_at hl 1 rfl) ?_
    refine lv_aload_n hx hb dX8_word_5 rfl (lv_at hl 0 rfl) ?_
    refine G_RX8_15 C hw 0 rfl dX8_word_6 ?_
    refine alnI C hw 1 rfl dX8_word_9 ?_
    refine lv_icmp_ge (tgt := 22) hx hb dX8_word_10 (by decide) (fun c_10 => ?_) (fun c_10 => ?_)
    · have h := h.1 c_10
      exact hB_Text_word_22  h _ _ _ hw (lv_sub hl [] rfl)
    · have h := h.2 c_10
      refine lv_aload_n hx hb dX8_word_13 rfl (lv_at hl 0 rfl) ?_
      refine G_RX8_15 C hw 0 rfl dX8_word_14 ?_
      refine lv_iload_n hx hb dX8_word_17 rfl (lv_at hl 1 rfl) ?_
      refine aldI C hw 1 rfl h.1 dX8_word_18 ?_
      have h := h.2
      refine lv_goto (tgt := 23) hx hb dX8_word_19 (by decide) ?_
      exact hB_Text_word_23 (t_words x1.toNatClampNeg) h _ _ _ hw (lv_sub hl [] rfl)
def B_Text_append_32 (x1 : Int32) (Q : Int32 → (Nat → Int32) → Prop) (t_size : Int32) (t_bytes : (Nat → Int32)) : Prop := Q t_size t_bytes
def P_Text_append (x1 : Int32) (t_size : Int32) (t_bytes : (Nat → Int32)) (Q : Int32 → (Nat → Int32) → Prop) : Prop := ((nI 200) ≤ t_size → B_Text_append_32 x1 Q t_size t_bytes) ∧ (¬ (nI 200) ≤ t_size → vp_in t_size 200 ∧ (∀ t_size_1 : Int32, t_size_1 = (t_size + 1) → B_Text_append_32 x1 Q t_size_1 (upd t_bytes t_size.toNatClampNeg x1)))
abbrev rm_Text_append : Room := { frames := 0, cells := 0, slots := 0, locals := 0 }
def cs_Text_append (g : GE) (a_t a_t_bytes a_t_words a_t_values : Nat) (t_size : Int32) (t_lines : Int32) (t_fault : Int32) (t_points : Int32) (t_cases : Int32) (t_start : Int32) (t_end : Int32) (t_bytes : (Nat → Int32)) : va_W := [oc a_t 8 [.ref a_t_bytes, .int t_size, .ref a_t_words, .ref a_t_values, .int t_lines, .int t_fault, .int t_points, .int t_cases, .int t_start, .int t_end], ai g a_t_bytes 200 t_bytes]
set_option maxHeartbeats 4000000 in
set_option maxRecDepth 100000 in
theorem c_Text_append (l : Launch) (g : GE) (a_t a_t_bytes a_t_words a_t_values : Nat) (t_size : Int32) (t_lines : Int32) (t_fault : Int32) (t_points : Int32) (t_cases : Int32) (t_start : Int32) (t_end : Int32) (t_bytes : (Nat → Int32)) (x1 : Int32) (Q : Int32 → (Nat → Int32) → Prop) (h : P_Text_append x1 t_size t_bytes Q) : Ctv l g yX8_append cX8_append 2 none rm_Text_append [.ref a_t, .int x1] (cs_Text_append g a_t a_t_bytes a_t_words a_t_values t_size t_lines t_fault t_points t_cases t_start t_end t_bytes) (S := Int32 × (Nat → Int32)) (fun u => Q u.1 u.2) (fun u => (cs_Text_append g a_t a_t_bytes a_t_words a_t_values (u.1) t_lines t_fault t_points t_cases t_start t_end (u.2))) := by
  refine meetV rfl (Nat.le_of_ble_eq_true rfl) ⟨rfl, rfl⟩ ?_
  intro p e s m args below meth c A Qf ls C hret hw hl
  have hx := C.1
  have hb := C.2.1
  have hown := C.2.2.2.1
  have hts := C.2.2.2.2.1
  have hE := C.2.2.2.2.2.1
  have hl : lv_has ls 2 [(0, .ref a_t), (1, .int x1)] := hl
  have hB_Text_append_32 : ∀ (t_size : Int32) (t_bytes : (Nat → Int32)), B_Text_append_32 x1 Q t_size t_bytes → Wat p l e rm_Text_append s m args below meth c A Qf g 2 (cs_Text_append g a_t a_t_bytes a_t_words a_t_values t_size t_lines t_fault t_points t_cases t_start t_end t_bytes) [] 32 [] := by
    intro t_size t_bytes h H locs ls hw hl
    exact hret (t_size, t_bytes) h hw dX8_append_32
  refine lv_aload_n hx hb dX8_append_0 rfl (lv_at hl 0 rfl) ?_
  refine G_RX8_21 C hw 0 rfl dX8_append_1 ?_
  refine lv_aload_n hx hb dX8_append_4 rfl (lv_at hl 0 rfl) ?_
  refine G_RX8_9 C hw 0 rfl dX8_append_5 ?_
  refine alnI C hw 1 rfl dX8_append_8 ?_
  refine lv_icmp_ge (tgt := 32) hx hb dX8_append_9 (by decide) (fun c_9 => ?_) (fun c_9 => ?_)
  · have h := h.1 c_9
    exact hB_Text_append_32 t_size t_bytes h _ _ _ hw (lv_sub hl [] rfl)
  · have h := h.2 c_9
    refine lv_aload_n hx hb dX8_append_12 rfl (lv_at hl 0 rfl) ?_
    refine G_RX8_9 C hw 0 rfl dX8_append_13 ?_
    refine lv_aload_n hx hb dX8_append_16 rfl (lv_at hl 0 rfl) ?_
    refine G_RX8_21 C hw 0 rfl dX8_append_17 ?_
    refine lv_iload_n hx hb dX8_append_20 rfl (lv_at hl 1 rfl) ?_
    refine astI (ws2 := (cs_Text_append g a_t a_t_bytes a_t_words a_t_values t_size t_lines t_fault t_points t_cases t_start t_end (upd t_bytes t_size.toNatClampNeg x1))) C hw 1 rfl h.1 rfl dX8_append_21 (fun H locs hw => ?_)
    have h := h.2
    refine lv_aload_n hx hb dX8_append_22 rfl (lv_at hl 0 rfl) ?_
    refine lv_dup hx hb dX8_append_23 rfl ?_
    refine G_RX8_21 C hw 0 rfl dX8_append_24 ?_
    refine lv_iconst (v := 1) hx hb dX8_append_27 (by decide) ?_
    refine lv_iadd hx hb dX8_append_28 ?_
    refine lv_topi (fun t_size_1 et_size_1 => ?_)
    have h := h t_size_1 et_size_1
    refine U_RX8_21 (ws2 := (cs_Text_append g a_t a_t_bytes a_t_words a_t_values t_size_1 t_lines t_fault t_points t_cases t_start t_end (upd t_bytes t_size.toNatClampNeg x1))) C hw 0 rfl rfl rfl rfl dX8_append_29 (fun H locs hw => ?_)
    exact hB_Text_append_32 t_size_1 (upd t_bytes t_size.toNatClampNeg x1) h _ _ _ hw (lv_sub hl [] rfl)
