def B_Scale_hasPoint_17 (x1 : Int32) (t_points : Int32) (Q : Int32 → Prop) (k0 : Int32) : Prop := narrow .boolean (.int k0) = .int k0 ∧ Q k0 
def B_Scale_hasPoint_16 (x1 : Int32) (t_points : Int32) (Q : Int32 → Prop) : Prop := B_Scale_hasPoint_17 x1 t_points Q 0
def P_Scale_hasPoint (x1 : Int32) (t_points : Int32) (Q : Int32 → Prop) : Prop := (x1 < 0 → B_Scale_hasPoint_16 x1 t_points Q) ∧ (¬ x1 < 0 → (t_points ≤ x1 → B_Scale_hasPoint_16 x1 t_points Q) ∧ (¬ t_points ≤ x1 → B_Scale_hasPoint_17 x1 t_points Q 1))
abbrev rm_Scale_hasPoint : Room := { frames := 0, cells := 0, slots := 0, locals := 0 }
def cs_Scale_hasPoint (g : GE) (a_t a_t_each a_t_sums : Nat) (t_points : Int32) : va_W := [oc a_t 6 [.ref a_t_each, .ref a_t_sums, .int t_points]]
set_option maxHeartbeats 4000000 in
set_option maxRecDepth 100000 in
theorem c_Scale_hasPoint (l : Launch) (g : GE) (a_t a_t_each a_t_sums : Nat) (t_points : Int32) (x1 : Int32) (Q : Int32 → Prop) (h : P_Scale_hasPoint x1 t_points Q) : Cti l g yX6_hasPoint cX6_hasPoint 2 (some .boolean) rm_Scale_hasPoint [.ref a_t, .int x1] (cs_Scale_hasPoint g a_t a_t_each a_t_sums t_points) (S := Unit) (fun r u => Q r) (fun _ => (cs_Scale_hasPoint g a_t a_t_each a_t_sums t_points)) := by
  refine meetI rfl (Nat.le_of_ble_eq_true rfl) ⟨rfl, rfl⟩ ?_
  intro p e s m args below meth c A Qf ls C hret hw hl
  have hx := C.1
  have hb := C.2.1
  have hown := C.2.2.2.1
  have hts := C.2.2.2.2.1
  have hE := C.2.2.2.2.2.1
  have hl : lv_has ls 2 [(0, .ref a_t), (1, .int x1)] := hl
  have hB_Scale_hasPoint_17 : ∀ (k0 : Int32), B_Scale_hasPoint_17 x1 t_points Q k0 → Wat p l e rm_Scale_hasPoint s m args below meth c A Qf g 2 (cs_Scale_hasPoint g a_t a_t_each a_t_sums t_points) [] 17 [.int k0] := by
    intro k0 h H locs ls hw hl
    exact hret () h.2 hw dX6_hasPoint_17 h.1
  have hB_Scale_hasPoint_16 : B_Scale_hasPoint_16 x1 t_points Q → Wat p l e rm_Scale_hasPoint s m args below meth c A Qf g 2 (cs_Scale_hasPoint g a_t a_t_each a_t_sums t_points) [] 16 [] := by
    intro  h H locs ls hw hl
    refine lv_iconst (v := 0) hx hb dX6_hasPoint_16 (by decide) ?_
    exact hB_Scale_hasPoint_17 0 h _ _ _ hw (lv_sub hl [] rfl)
  refine lv_iload_n hx hb dX6_hasPoint_0 rfl (lv_at hl 1 rfl) ?_
  refine lv_if_lt (tgt := 16) hx hb dX6_hasPoint_1 (by decide) (fun c_1 => ?_) (fun c_1 => ?_)
  · have h := h.1 c_1
    exact hB_Scale_hasPoint_16  h _ _ _ hw (lv_sub hl [] rfl)
  · have h := h.2 c_1
    refine lv_iload_n hx hb dX6_hasPoint_4 rfl (lv_at hl 1 rfl) ?_
    refine lv_aload_n hx hb dX6_hasPoint_5 rfl (lv_at hl 0 rfl) ?_
    refine G_RX6_24 C hw 0 rfl dX6_hasPoint_6 ?_
    refine lv_icmp_ge (tgt := 16) hx hb dX6_hasPoint_9 (by decide) (fun c_9 => ?_) (fun c_9 => ?_)
    · have h := h.1 c_9
      exact hB_Scale_hasPoint_16  h _ _ _ hw (lv_sub hl [] rfl)
    · have h := h.2 c_9
      refine lv_iconst (v := 1) hx hb dX6_hasPoint_12 (by decide) ?_
      refine lv_goto (tgt := 17) hx hb dX6_hasPoint_13 (by decide) ?_
      exact hB_Scale_hasPoint_17 1 h _ _ _ hw (lv_sub hl [] rfl)
def B_Scale_put_76 (x1 : Int32) (x2 : Int32) (t_points : Int32) (Q : (Nat → Int32) → (Nat → Int32) → Prop) (N_49 : Int32 → Int32 → Int32 → (Nat → Int32) → (Nat → Int32) → Prop) (x3 : Int32) (x4 : Int32) (x5 : Int32) (t_each : (Nat → Int32)) (t_sums : (Nat → Int32)) : Prop := N_49 x3 x4 (x5 + 1) t_each t_sums
def L_Scale_put_49 (x1 : Int32) (x2 : Int32) (t_points : Int32) (Q : (Nat → Int32) → (Nat → Int32) → Prop) : Nat → Int32 → Int32 → Int32 → (Nat → Int32) → (Nat → Int32) → Prop
  | 0 => fun _ _ _ _ _ => False
  | n + 1 => fun x3 x4 x5 t_each t_sums => (x4 ≤ x5 → Q t_each t_sums) ∧ (¬ x4 ≤ x5 → P_LC_holds x5 x1 (fun r_1 => (r_1 = 0 → B_Scale_put_76 x1 x2 t_points Q (L_Scale_put_49 x1 x2 t_points Q n) x3 x4 x5 t_each t_sums) ∧ (¬ r_1 = 0 → vp_in x5 1024 ∧ (vp_in x5 1024 ∧ (B_Scale_put_76 x1 x2 t_points Q (L_Scale_put_49 x1 x2 t_points Q n) x3 x4 x5 t_each (upd t_sums x5.toNatClampNeg ((t_sums x5.toNatClampNeg) + x3)))))))
def P_Scale_put (x1 : Int32) (x2 : Int32) (t_points : Int32) (t_each : (Nat → Int32)) (t_sums : (Nat → Int32)) (Q : (Nat → Int32) → (Nat → Int32) → Prop) : Prop := P_Scale_hasPoint x1 t_points (fun r_2 => (¬ r_2 = 0 → vp_in x1 10 ∧ (∀ x3_3 : Int32, x3_3 = (x2 - (t_each x1.toNatClampNeg)) → (¬ x3_3 = 0 → vp_in x1 10 ∧ (∀ x4_4 : Int32, x4_4 = (if (nI 1024) < (1 <<< (t_points &&& 31)) then (nI 1024) else (1 <<< (t_points &&& 31))) → ∃ n_49 : Nat, L_Scale_put_49 x1 x2 t_points Q n_49 x3_3 x4_4 0 (upd t_each x1.toNatClampNeg x2) t_sums)) ∧ (x3_3 = 0 → Q t_each t_sums))) ∧ (r_2 = 0 → Q t_each t_sums))
abbrev rm_Scale_put : Room := { frames := 1, cells := 0, slots := 0, locals := 23 }
def cs_Scale_put (g : GE) (a_t a_t_each a_t_sums : Nat) (t_points : Int32) (t_each : (Nat → Int32)) (t_sums : (Nat → Int32)) : va_W := [oc a_t 6 [.ref a_t_each, .ref a_t_sums, .int t_points], ai g a_t_each 10 t_each, ai g a_t_sums 1024 t_sums]
set_option maxHeartbeats 4000000 in
set_option maxRecDepth 100000 in
theorem c_Scale_put (l : Launch) (g : GE) (a_t a_t_each a_t_sums : Nat) (t_points : Int32) (t_each : (Nat → Int32)) (t_sums : (Nat → Int32)) (x1 : Int32) (x2 : Int32) (Q : (Nat → Int32) → (Nat → Int32) → Prop) (h : P_Scale_put x1 x2 t_points t_each t_sums Q) : Ctv l g yX6_put cX6_put 6 none rm_Scale_put [.ref a_t, .int x1, .int x2] (cs_Scale_put g a_t a_t_each a_t_sums t_points t_each t_sums) (S := (Nat → Int32) × (Nat → Int32)) (fun u => Q u.1 u.2) (fun u => (cs_Scale_put g a_t a_t_each a_t_sums t_points (u.1) (u.2))) := by
  refine meetV rfl (Nat.le_of_ble_eq_true rfl) ⟨rfl, rfl⟩ ?_
  intro p e s m args below meth c A Qf ls C hret hw hl
  have hx := C.1
  have hb := C.2.1
  have hown := C.2.2.2.1
  have hts := C.2.2.2.2.1
  have hE := C.2.2.2.2.2.1
  have hl : lv_has ls 6 [(0, .ref a_t), (1, .int x1), (2, .int x2)] := hl
  have hB_Scale_put_76 : ∀ (N_49 : Int32 → Int32 → Int32 → (Nat → Int32) → (Nat → Int32) → Prop) (hN_49 : ∀ (x3 : Int32) (x4 : Int32) (x5 : Int32) (t_each : (Nat → Int32)) (t_sums : (Nat → Int32)), N_49 x3 x4 x5 t_each t_sums → Wat p l e rm_Scale_put s m args below meth c A Qf g 6 (cs_Scale_put g a_t a_t_each a_t_sums t_points t_each t_sums) [(0, .ref a_t), (1, .int x1), (3, .int x3), (4, .int x4), (5, .int x5)] 49 []) (x3 : Int32) (x4 : Int32) (x5 : Int32) (t_each : (Nat → Int32)) (t_sums : (Nat → Int32)), B_Scale_put_76 x1 x2 t_points Q N_49 x3 x4 x5 t_each t_sums → Wat p l e rm_Scale_put s m args below meth c A Qf g 6 (cs_Scale_put g a_t a_t_each a_t_sums t_points t_each t_sums) [(0, .ref a_t), (1, .int x1), (3, .int x3), (4, .int x4), (5, .int x5)] 76 [] := by
    intro N_49 hN_49 x3 x4 x5 t_each t_sums h H locs ls hw hl
    refine lv_iinc (v := x5 + 1) (lv' := [(5, .int (x5 + 1)), (0, .ref a_t), (1, .int x1), (3, .int x3), (4, .int x4)]) hx hb dX6_put_76 hl (k := 4) rfl rfl (by decide) rfl (fun ls hl => ?_)
    refine lv_goto (tgt := 49) hx hb dX6_put_79 (by decide) ?_
    exact hN_49 x3 x4 (x5 + 1) t_each t_sums h _ _ _ hw (lv_sub hl [1, 2, 3, 4, 0] rfl)
  have hL_Scale_put_49 : ∀ (n : Nat) (x3 : Int32) (x4 : Int32) (x5 : Int32) (t_each : (Nat → Int32)) (t_sums : (Nat → Int32)), L_Scale_put_49 x1 x2 t_points Q n x3 x4 x5 t_each t_sums → Wat p l e rm_Scale_put s m args below meth c A Qf g 6 (cs_Scale_put g a_t a_t_each a_t_sums t_points t_each t_sums) [(0, .ref a_t), (1, .int x1), (3, .int x3), (4, .int x4), (5, .int x5)] 49 [] := by
    intro n
    induction n with
    | zero => intro x3 x4 x5 t_each t_sums h; exact absurd h id
    | succ n ih =>
      intro x3 x4 x5 t_each t_sums h H locs ls hw hl
      rw [L_Scale_put_49] at h
      refine lv_iload hx hb dX6_put_49 (lv_at hl 4 rfl) ?_
      refine lv_iload hx hb dX6_put_51 (lv_at hl 3 rfl) ?_
      refine lv_icmp_ge (tgt := 82) hx hb dX6_put_53 (by decide) (fun c_53 => ?_) (fun c_53 => ?_)
      · have h := h.1 c_53
        exact hret (t_each, t_sums) h hw dX6_put_82
      · have h := h.2 c_53
        refine lv_iload hx hb dX6_put_56 (lv_at hl 4 rfl) ?_
        refine lv_iload_n hx hb dX6_put_58 rfl (lv_at hl 1 rfl) ?_
        refine callNi (As := [.int x5, .int x1]) (rest := []) C hw hl (c_LC_holds l g x5 x1 _ h) (nest_in hE tn_102 rfl) kk_X9_holds rfl ⟨rfl, rfl⟩ ⟨by decide, by decide⟩ (Nat.le_of_ble_eq_true rfl) rfl dX6_put_59 (fun r_1 u H locs h hw => ?_)
        refine lv_if_eq (tgt := 76) hx hb dX6_put_62 (by decide) (fun c_62 => ?_) (fun c_62 => ?_)
        · have h := h.1 c_62
          exact hB_Scale_put_76 (L_Scale_put_49 x1 x2 t_points Q n) ih x3 x4 x5 t_each t_sums h _ _ _ hw (lv_sub hl [0, 1, 2, 3, 4] rfl)
        · have h := h.2 c_62
          refine lv_aload_n hx hb dX6_put_65 rfl (lv_at hl 0 rfl) ?_
          refine G_RX6_15 C hw 0 rfl dX6_put_66 ?_
          refine lv_iload hx hb dX6_put_69 (lv_at hl 4 rfl) ?_
          refine lv_dup2_11 hx hb dX6_put_71 rfl rfl ?_
          refine aldI C hw 2 rfl h.1 dX6_put_72 ?_
          have h := h.2
          refine lv_iload_n hx hb dX6_put_73 rfl (lv_at hl 2 rfl) ?_
          refine lv_iadd hx hb dX6_put_74 ?_
          refine astI (ws2 := (cs_Scale_put g a_t a_t_each a_t_sums t_points t_each (upd t_sums x5.toNatClampNeg ((t_sums x5.toNatClampNeg) + x3)))) C hw 2 rfl h.1 rfl dX6_put_75 (fun H locs hw => ?_)
          have h := h.2
          exact hB_Scale_put_76 (L_Scale_put_49 x1 x2 t_points Q n) ih x3 x4 x5 t_each (upd t_sums x5.toNatClampNeg ((t_sums x5.toNatClampNeg) + x3)) h _ _ _ hw (lv_sub hl [0, 1, 2, 3, 4] rfl)
  refine lv_aload_n hx hb dX6_put_0 rfl (lv_at hl 0 rfl) ?_
  refine lv_iload_n hx hb dX6_put_1 rfl (lv_at hl 1 rfl) ?_
  refine callVi (As := [.int x1]) (rest := []) (W2 := fun _ => (cs_Scale_put g a_t a_t_each a_t_sums t_points t_each t_sums)) C hw hl (c_Scale_hasPoint l g a_t a_t_each a_t_sums t_points x1 _ h) tw_151 kk_X6_hasPoint rfl ⟨rfl, rfl⟩ ⟨by decide, by decide⟩ (Nat.le_of_ble_eq_true rfl) 0 rfl rfl rfl [0] [1, 2] [2, 0, 1] rfl rfl rfl rfl rfl rfl (fun u => rfl) rfl dX6_put_2 (fun r_2 u H locs h hw => ?_)
  refine lv_if_ne (tgt := 9) hx hb dX6_put_5 (by decide) (fun c_5 => ?_) (fun c_5 => ?_)
  · have h := h.1 c_5
    refine lv_iload_n hx hb dX6_put_9 rfl (lv_at hl 2 rfl) ?_
    refine lv_aload_n hx hb dX6_put_10 rfl (lv_at hl 0 rfl) ?_
    refine G_RX6_9 C hw 0 rfl dX6_put_11 ?_
    refine lv_iload_n hx hb dX6_put_14 rfl (lv_at hl 1 rfl) ?_
    refine aldI C hw 1 rfl h.1 dX6_put_15 ?_
    have h := h.2
    refine lv_isub hx hb dX6_put_16 ?_
    refine lv_topi (fun x3_3 ex3_3 => ?_)
    have h := h x3_3 ex3_3
    refine lv_istore_n (lv' := [(3, .int x3_3), (0, .ref a_t), (1, .int x1), (2, .int x2)]) hx hb dX6_put_17 rfl hl (by decide) rfl (fun ls hl => ?_)
    refine lv_iload_n hx hb dX6_put_18 rfl (lv_at hl 0 rfl) ?_
    refine lv_if_ne (tgt := 23) hx hb dX6_put_19 (by decide) (fun c_19 => ?_) (fun c_19 => ?_)
    · have h := h.1 c_19
      refine lv_aload_n hx hb dX6_put_23 rfl (lv_at hl 1 rfl) ?_
      refine G_RX6_9 C hw 0 rfl dX6_put_24 ?_
      refine lv_iload_n hx hb dX6_put_27 rfl (lv_at hl 2 rfl) ?_
      refine lv_iload_n hx hb dX6_put_28 rfl (lv_at hl 3 rfl) ?_
      refine astI (ws2 := (cs_Scale_put g a_t a_t_each a_t_sums t_points (upd t_each x1.toNatClampNeg x2) t_sums)) C hw 1 rfl h.1 rfl dX6_put_29 (fun H locs hw => ?_)
      have h := h.2
      refine lv_iconst (v := 1) hx hb dX6_put_30 (by decide) ?_
      refine lv_aload_n hx hb dX6_put_31 rfl (lv_at hl 1 rfl) ?_
      refine G_RX6_24 C hw 0 rfl dX6_put_32 ?_
      refine lv_ishl hx hb dX6_put_35 ?_
      refine lv_aload_n hx hb dX6_put_36 rfl (lv_at hl 1 rfl) ?_
      refine G_RX6_15 C hw 0 rfl dX6_put_37 ?_
      refine alnI C hw 2 rfl dX6_put_40 ?_
      refine mmin C hl tw_143 kmmin ⟨Nat.le_of_ble_eq_true rfl, Nat.le_of_ble_eq_true rfl⟩ dX6_put_41 ?_
      refine lv_topi (fun x4_4 ex4_4 => ?_)
      have h := h x4_4 ex4_4
      refine lv_istore (lv' := [(4, .int x4_4), (3, .int x3_3), (0, .ref a_t), (1, .int x1), (2, .int x2)]) hx hb dX6_put_44 hl (by decide) rfl (fun ls hl => ?_)
      refine lv_iconst (v := 0) hx hb dX6_put_46 (by decide) ?_
      refine lv_istore (lv' := [(5, .int 0), (4, .int x4_4), (3, .int x3_3), (0, .ref a_t), (1, .int x1), (2, .int x2)]) hx hb dX6_put_47 hl (by decide) rfl (fun ls hl => ?_)
      obtain ⟨n_49, h⟩ := h
      exact hL_Scale_put_49 n_49 x3_3 x4_4 0 (upd t_each x1.toNatClampNeg x2) t_sums h _ _ _ hw (lv_sub hl [3, 4, 2, 1, 0] rfl)
    · have h := h.2 c_19
      exact hret (t_each, t_sums) h hw dX6_put_22
  · have h := h.2 c_5
    exact hret (t_each, t_sums) h hw dX6_put_8
def L_Scale_fill_31 (x1 : Int32) (x2 : Int32) (Q : Int32 → (Nat → Int32) → (Nat → Int32) → Prop) : Nat → Int32 → Int32 → (Nat → Int32) → (Nat → Int32) → Prop
  | 0 => fun _ _ _ _ => False
  | n + 1 => fun x3 t_points t_each t_sums => (t_points ≤ x3 → Q t_points t_each t_sums) ∧ (¬ t_points ≤ x3 → P_Scale_put x3 x2 t_points t_each t_sums (fun t_each_1 t_sums_2 => (L_Scale_fill_31 x1 x2 Q n) (x3 + 1) t_points t_each_1 t_sums_2))
def P_Scale_fill (x1 : Int32) (x2 : Int32) (t_points : Int32) (t_each : (Nat → Int32)) (t_sums : (Nat → Int32)) (Q : Int32 → (Nat → Int32) → (Nat → Int32) → Prop) : Prop := ∀ t_points_3 : Int32, t_points_3 = (if (nI 10) < x1 then (nI 10) else x1) → P_Arrays_fill 0 10 t_each (fun t_each_4 => P_Arrays_fill 0 1024 t_sums (fun t_sums_5 => ∃ n_31 : Nat, L_Scale_fill_31 x1 x2 Q n_31 0 t_points_3 t_each_4 t_sums_5))
abbrev rm_Scale_fill : Room := { frames := 2, cells := 0, slots := 0, locals := 48 }
def cs_Scale_fill (g : GE) (a_t a_t_each a_t_sums : Nat) (t_points : Int32) (t_each : (Nat → Int32)) (t_sums : (Nat → Int32)) : va_W := [oc a_t 6 [.ref a_t_each, .ref a_t_sums, .int t_points], ai g a_t_each 10 t_each, ai g a_t_sums 1024 t_sums]
set_option maxHeartbeats 4000000 in
set_option maxRecDepth 100000 in
theorem c_Scale_fill (l : Launch) (g : GE) (a_t a_t_each a_t_sums : Nat) (t_points : Int32) (t_each : (Nat → Int32)) (t_sums : (Nat → Int32)) (x1 : Int32) (x2 : Int32) (Q : Int32 → (Nat → Int32) → (Nat → Int32) → Prop) (h : P_Scale_fill x1 x2 t_points t_each t_sums Q) : Ctv l g yX6_fill cX6_fill 4 none rm_Scale_fill [.ref a_t, .int x1, .int x2] (cs_Scale_fill g a_t a_t_each a_t_sums t_points t_each t_sums) (S := Int32 × (Nat → Int32) × (Nat → Int32)) (fun u => Q u.1 u.2.1 u.2.2) (fun u => (cs_Scale_fill g a_t a_t_each a_t_sums (u.1) (u.2.1) (u.2.2))) := by
  refine meetV rfl (Nat.le_of_ble_eq_true rfl) ⟨rfl, rfl⟩ ?_
  intro p e s m args below meth c A Qf ls C hret hw hl
  have hx := C.1
  have hb := C.2.1
  have hown := C.2.2.2.1
  have hts := C.2.2.2.2.1
  have hE := C.2.2.2.2.2.1
  have hl : lv_has ls 4 [(0, .ref a_t), (1, .int x1), (2, .int x2)] := hl
  have hL_Scale_fill_31 : ∀ (n : Nat) (x3 : Int32) (t_points : Int32) (t_each : (Nat → Int32)) (t_sums : (Nat → Int32)), L_Scale_fill_31 x1 x2 Q n x3 t_points t_each t_sums → Wat p l e rm_Scale_fill s m args below meth c A Qf g 4 (cs_Scale_fill g a_t a_t_each a_t_sums t_points t_each t_sums) [(0, .ref a_t), (2, .int x2), (3, .int x3)] 31 [] := by
    intro n
    induction n with
    | zero => intro x3 t_points t_each t_sums h; exact absurd h id
    | succ n ih =>
      intro x3 t_points t_each t_sums h H locs ls hw hl
      rw [L_Scale_fill_31] at h
      refine lv_iload_n hx hb dX6_fill_31 rfl (lv_at hl 2 rfl) ?_
      refine lv_aload_n hx hb dX6_fill_32 rfl (lv_at hl 0 rfl) ?_
      refine G_RX6_24 C hw 0 rfl dX6_fill_33 ?_
      refine lv_icmp_ge (tgt := 51) hx hb dX6_fill_36 (by decide) (fun c_36 => ?_) (fun c_36 => ?_)
      · have h := h.1 c_36
        exact hret (t_points, t_each, t_sums) h hw dX6_fill_51
      · have h := h.2 c_36
        refine lv_aload_n hx hb dX6_fill_39 rfl (lv_at hl 0 rfl) ?_
        refine lv_iload_n hx hb dX6_fill_40 rfl (lv_at hl 2 rfl) ?_
        refine lv_iload_n hx hb dX6_fill_41 rfl (lv_at hl 1 rfl) ?_
        refine callVv (As := [.int x3, .int x2]) (rest := []) (W2 := fun u => (cs_Scale_fill g a_t a_t_each a_t_sums t_points (u.1) (u.2))) C hw hl (c_Scale_put l g a_t a_t_each a_t_sums t_points t_each t_sums x3 x2 _ h) tw_147 kk_X6_put rfl ⟨rfl, rfl⟩ ⟨by decide, by decide⟩ (Nat.le_of_ble_eq_true rfl) 0 rfl rfl rfl [0, 1, 2] [] [0, 1, 2] rfl rfl rfl rfl rfl rfl (fun u => rfl) rfl dX6_fill_42 (fun u H locs h hw => ?_)
        obtain ⟨t_each_1, t_sums_2⟩ := u
        have hw : Wd g A s (cs_Scale_fill g a_t a_t_each a_t_sums t_points t_each_1 t_sums_2) H locs := hw
        refine lv_iinc (v := x3 + 1) (lv' := [(3, .int (x3 + 1)), (0, .ref a_t), (2, .int x2)]) hx hb dX6_fill_45 hl (k := 2) rfl rfl (by decide) rfl (fun ls hl => ?_)
        refine lv_goto (tgt := 31) hx hb dX6_fill_48 (by decide) ?_
        exact ih (x3 + 1) t_points t_each_1 t_sums_2 h _ _ _ hw (lv_sub hl [1, 2, 0] rfl)
  refine lv_aload_n hx hb dX6_fill_0 rfl (lv_at hl 0 rfl) ?_
  refine lv_iload_n hx hb dX6_fill_1 rfl (lv_at hl 1 rfl) ?_
  refine lv_aload_n hx hb dX6_fill_2 rfl (lv_at hl 0 rfl) ?_
  refine G_RX6_9 C hw 0 rfl dX6_fill_3 ?_
  refine alnI C hw 1 rfl dX6_fill_6 ?_
  refine mmin C hl tw_143 kmmin ⟨Nat.le_of_ble_eq_true rfl, Nat.le_of_ble_eq_true rfl⟩ dX6_fill_7 ?_
  refine lv_topi (fun t_points_3 et_points_3 => ?_)
  have h := h t_points_3 et_points_3
  refine U_RX6_24 (ws2 := (cs_Scale_fill g a_t a_t_each a_t_sums t_points_3 t_each t_sums)) C hw 0 rfl rfl rfl rfl dX6_fill_10 (fun H locs hw => ?_)
  refine lv_aload_n hx hb dX6_fill_13 rfl (lv_at hl 0 rfl) ?_
  refine G_RX6_9 C hw 0 rfl dX6_fill_14 ?_
  refine lv_iconst (v := 0) hx hb dX6_fill_17 (by decide) ?_
  refine callSv (As := [.ref a_t_each, .int 0]) (rest := []) (W2 := fun u => (cs_Scale_fill g a_t a_t_each a_t_sums t_points_3 u t_sums)) C hw hl (c_Arrays_fill l g a_t_each 10 t_each 0 _ h) tw_144 kk_J7_fill_53178 rfl ⟨rfl, rfl⟩ ⟨by decide, by decide⟩ (Nat.le_of_ble_eq_true rfl) [1] [0, 2] [0, 2, 1] rfl rfl rfl rfl rfl rfl (fun u => rfl) rfl dX6_fill_18 (fun u H locs h hw => ?_)
  obtain ⟨t_each_4, rfl⟩ : ∃ z, z = u := ⟨_, rfl⟩
  have hw : Wd g A s (cs_Scale_fill g a_t a_t_each a_t_sums t_points_3 t_each_4 t_sums) H locs := hw
  refine lv_aload_n hx hb dX6_fill_21 rfl (lv_at hl 0 rfl) ?_
  refine G_RX6_15 C hw 0 rfl dX6_fill_22 ?_
  refine lv_iconst (v := 0) hx hb dX6_fill_25 (by decide) ?_
  refine callSv (As := [.ref a_t_sums, .int 0]) (rest := []) (W2 := fun u => (cs_Scale_fill g a_t a_t_each a_t_sums t_points_3 t_each_4 u)) C hw hl (c_Arrays_fill l g a_t_sums 1024 t_sums 0 _ h) tw_144 kk_J7_fill_53178 rfl ⟨rfl, rfl⟩ ⟨by decide, by decide⟩ (Nat.le_of_ble_eq_true rfl) [2] [0, 1] [0, 1, 2] rfl rfl rfl rfl rfl rfl (fun u => rfl) rfl dX6_fill_26 (fun u H locs h hw => ?_)
  obtain ⟨t_sums_5, rfl⟩ : ∃ z, z = u := ⟨_, rfl⟩
  have hw : Wd g A s (cs_Scale_fill g a_t a_t_each a_t_sums t_points_3 t_each_4 t_sums_5) H locs := hw
  refine lv_iconst (v := 0) hx hb dX6_fill_29 (by decide) ?_
  refine lv_istore_n (lv' := [(3, .int 0), (0, .ref a_t), (1, .int x1), (2, .int x2)]) hx hb dX6_fill_30 rfl hl (by decide) rfl (fun ls hl => ?_)
  obtain ⟨n_31, h⟩ := h
  exact hL_Scale_fill_31 n_31 0 t_points_3 t_each_4 t_sums_5 h _ _ _ hw (lv_sub hl [1, 3, 0] rfl)
def B_Scale_at_18 (x1 : Int32) (t_points : Int32) (t_each : (Nat → Int32)) (Q : Int32 → Prop) (k0 : Int32) : Prop := Q k0
def P_Scale_at (x1 : Int32) (t_points : Int32) (t_each : (Nat → Int32)) (Q : Int32 → Prop) : Prop := P_Scale_hasPoint x1 t_points (fun r_1 => (r_1 = 0 → B_Scale_at_18 x1 t_points t_each Q 0) ∧ (¬ r_1 = 0 → vp_in x1 10 ∧ (B_Scale_at_18 x1 t_points t_each Q (t_each x1.toNatClampNeg))))
abbrev rm_Scale_at : Room := { frames := 1, cells := 0, slots := 0, locals := 21 }
def cs_Scale_at (g : GE) (a_t a_t_each a_t_sums : Nat) (t_points : Int32) (t_each : (Nat → Int32)) : va_W := [oc a_t 6 [.ref a_t_each, .ref a_t_sums, .int t_points], ai g a_t_each 10 t_each]
set_option maxHeartbeats 4000000 in
set_option maxRecDepth 100000 in
theorem c_Scale_at (l : Launch) (g : GE) (a_t a_t_each a_t_sums : Nat) (t_points : Int32) (t_each : (Nat → Int32)) (x1 : Int32) (Q : Int32 → Prop) (h : P_Scale_at x1 t_points t_each Q) : Cti l g yX6_at cX6_at 2 (some .int) rm_Scale_at [.ref a_t, .int x1] (cs_Scale_at g a_t a_t_each a_t_sums t_points t_each) (S := Unit) (fun r u => Q r) (fun _ => (cs_Scale_at g a_t a_t_each a_t_sums t_points t_each)) := by
  refine meetI rfl (Nat.le_of_ble_eq_true rfl) ⟨rfl, rfl⟩ ?_
  intro p e s m args below meth c A Qf ls C hret hw hl
  have hx := C.1
  have hb := C.2.1
  have hown := C.2.2.2.1
  have hts := C.2.2.2.2.1
  have hE := C.2.2.2.2.2.1
  have hl : lv_has ls 2 [(0, .ref a_t), (1, .int x1)] := hl
  have hB_Scale_at_18 : ∀ (k0 : Int32), B_Scale_at_18 x1 t_points t_each Q k0 → Wat p l e rm_Scale_at s m args below meth c A Qf g 2 (cs_Scale_at g a_t a_t_each a_t_sums t_points t_each) [] 18 [.int k0] := by
    intro k0 h H locs ls hw hl
    exact hret () h hw dX6_at_18 rfl
  refine lv_aload_n hx hb dX6_at_0 rfl (lv_at hl 0 rfl) ?_
  refine lv_iload_n hx hb dX6_at_1 rfl (lv_at hl 1 rfl) ?_
  refine callVi (As := [.int x1]) (rest := []) (W2 := fun _ => (cs_Scale_at g a_t a_t_each a_t_sums t_points t_each)) C hw hl (c_Scale_hasPoint l g a_t a_t_each a_t_sums t_points x1 _ h) tw_151 kk_X6_hasPoint rfl ⟨rfl, rfl⟩ ⟨by decide, by decide⟩ (Nat.le_of_ble_eq_true rfl) 0 rfl rfl rfl [0] [1] [1, 0] rfl rfl rfl rfl rfl rfl (fun u => rfl) rfl dX6_at_2 (fun r_1 u H locs h hw => ?_)
  refine lv_if_eq (tgt := 17) hx hb dX6_at_5 (by decide) (fun c_5 => ?_) (fun c_5 => ?_)
  · have h := h.1 c_5
    refine lv_iconst (v := 0) hx hb dX6_at_17 (by decide) ?_
    exact hB_Scale_at_18 0 h _ _ _ hw (lv_sub hl [] rfl)
  · have h := h.2 c_5
    refine lv_aload_n hx hb dX6_at_8 rfl (lv_at hl 0 rfl) ?_
    refine G_RX6_9 C hw 0 rfl dX6_at_9 ?_
    refine lv_iload_n hx hb dX6_at_12 rfl (lv_at hl 1 rfl) ?_
    refine aldI C hw 1 rfl h.1 dX6_at_13 ?_
    have h := h.2
    refine lv_goto (tgt := 18) hx hb dX6_at_14 (by decide) ?_
    exact hB_Scale_at_18 (t_each x1.toNatClampNeg) h _ _ _ hw (lv_sub hl [] rfl)
def B_Scale_together_23 (x1 : Int32) (t_sums : (Nat → Int32)) (Q : Int32 → Prop) (k0 : Int32) : Prop := Q k0
def B_Scale_together_22 (x1 : Int32) (t_sums : (Nat → Int32)) (Q : Int32 → Prop) : Prop := B_Scale_together_23 x1 t_sums Q 0
def P_Scale_together (x1 : Int32) (t_sums : (Nat → Int32)) (Q : Int32 → Prop) : Prop := (x1 < 0 → B_Scale_together_22 x1 t_sums Q) ∧ (¬ x1 < 0 → ((nI 1024) ≤ x1 → B_Scale_together_22 x1 t_sums Q) ∧ (¬ (nI 1024) ≤ x1 → vp_in x1 1024 ∧ (B_Scale_together_23 x1 t_sums Q (t_sums x1.toNatClampNeg))))
abbrev rm_Scale_together : Room := { frames := 0, cells := 0, slots := 0, locals := 0 }
def cs_Scale_together (g : GE) (a_t a_t_sums a_t_each : Nat) (t_points : Int32) (t_sums : (Nat → Int32)) : va_W := [oc a_t 6 [.ref a_t_each, .ref a_t_sums, .int t_points], ai g a_t_sums 1024 t_sums]
set_option maxHeartbeats 4000000 in
set_option maxRecDepth 100000 in
theorem c_Scale_together (l : Launch) (g : GE) (a_t a_t_sums a_t_each : Nat) (t_points : Int32) (t_sums : (Nat → Int32)) (x1 : Int32) (Q : Int32 → Prop) (h : P_Scale_together x1 t_sums Q) : Cti l g yX6_together cX6_together 2 (some .int) rm_Scale_together [.ref a_t, .int x1] (cs_Scale_together g a_t a_t_sums a_t_each t_points t_sums) (S := Unit) (fun r u => Q r) (fun _ => (cs_Scale_together g a_t a_t_sums a_t_each t_points t_sums)) := by
  refine meetI rfl (Nat.le_of_ble_eq_true rfl) ⟨rfl, rfl⟩ ?_
  intro p e s m args below meth c A Qf ls C hret hw hl
  have hx := C.1
  have hb := C.2.1
  have hown := C.2.2.2.1
  have hts := C.2.2.2.2.1
  have hE := C.2.2.2.2.2.1
  have hl : lv_has ls 2 [(0, .ref a_t), (1, .int x1)] := hl
  have hB_Scale_together_23 : ∀ (k0 : Int32), B_Scale_together_23 x1 t_sums Q k0 → Wat p l e rm_Scale_together s m args below meth c A Qf g 2 (cs_Scale_together g a_t a_t_sums a_t_each t_points t_sums) [] 23 [.int k0] := by
    intro k0 h H locs ls hw hl
    exact hret () h hw dX6_together_23 rfl
  have hB_Scale_together_22 : B_Scale_together_22 x1 t_sums Q → Wat p l e rm_Scale_together s m args below meth c A Qf g 2 (cs_Scale_together g a_t a_t_sums a_t_each t_points t_sums) [] 22 [] := by
    intro  h H locs ls hw hl
    refine lv_iconst (v := 0) hx hb dX6_together_22 (by decide) ?_
    exact hB_Scale_together_23 0 h _ _ _ hw (lv_sub hl [] rfl)
  refine lv_iload_n hx hb dX6_together_0 rfl (lv_at hl 1 rfl) ?_
  refine lv_if_lt (tgt := 22) hx hb dX6_together_1 (by decide) (fun c_1 => ?_) (fun c_1 => ?_)
  · have h := h.1 c_1
    exact hB_Scale_together_22  h _ _ _ hw (lv_sub hl [] rfl)
  · have h := h.2 c_1
    refine lv_iload_n hx hb dX6_together_4 rfl (lv_at hl 1 rfl) ?_
    refine lv_aload_n hx hb dX6_together_5 rfl (lv_at hl 0 rfl) ?_
    refine G_RX6_15 C hw 0 rfl dX6_together_6 ?_
    refine alnI C hw 1 rfl dX6_together_9 ?_
    refine lv_icmp_ge (tgt := 22) hx hb dX6_together_10 (by decide) (fun c_10 => ?_) (fun c_10 => ?_)
    · have h := h.1 c_10
      exact hB_Scale_together_22  h _ _ _ hw (lv_sub hl [] rfl)
    · have h := h.2 c_10
      refine lv_aload_n hx hb dX6_together_13 rfl (lv_at hl 0 rfl) ?_
      refine G_RX6_15 C hw 0 rfl dX6_together_14 ?_
      refine lv_iload_n hx hb dX6_together_17 rfl (lv_at hl 1 rfl) ?_
      refine aldI C hw 1 rfl h.1 dX6_together_18 ?_
      have h := h.2
      refine lv_goto (tgt := 23) hx hb dX6_together_19 (by decide) ?_
      exact hB_Scale_together_23 (t_sums x1.toNatClampNeg) h _ _ _ hw (lv_sub hl [] rfl)
