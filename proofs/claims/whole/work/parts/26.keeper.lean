def B_Keeper_deadCases_35 (t_court_points : Int32) (t_court_by : (Nat → Int32)) (t_court_roll_size : Int32) (Q : Int32 → Prop) (N_4 : Int32 → Int32 → Prop) (x1 : Int32) (x2 : Int32) : Prop := N_4 x1 (x2 + 1)
def L_Keeper_deadCases_4 (t_court_points : Int32) (t_court_by : (Nat → Int32)) (t_court_roll_size : Int32) (Q : Int32 → Prop) : Nat → Int32 → Int32 → Prop
  | 0 => fun _ _ => False
  | n + 1 => fun x1 x2 => P_Court_deedCount t_court_points (fun r_1 => (r_1 ≤ x2 → P_Roll_allCases t_court_roll_size (fun r_2 => Q (r_2 &&& (x1 ^^^ (-1))))) ∧ (¬ r_1 ≤ x2 → P_Court_byWhich x2 t_court_by (fun r_3 => (r_3 = (-1) → B_Keeper_deadCases_35 t_court_points t_court_by t_court_roll_size Q (L_Keeper_deadCases_4 t_court_points t_court_by t_court_roll_size Q n) x1 x2) ∧ (¬ r_3 = (-1) → ∀ x1_4 : Int32, x1_4 = (x1 ||| (1 <<< (r_3 &&& 31))) → B_Keeper_deadCases_35 t_court_points t_court_by t_court_roll_size Q (L_Keeper_deadCases_4 t_court_points t_court_by t_court_roll_size Q n) x1_4 x2))))
def P_Keeper_deadCases (t_court_points : Int32) (t_court_by : (Nat → Int32)) (t_court_roll_size : Int32) (Q : Int32 → Prop) : Prop := ∃ n_4 : Nat, L_Keeper_deadCases_4 t_court_points t_court_by t_court_roll_size Q n_4 0 0
abbrev rm_Keeper_deadCases : Room := { frames := 1, cells := 0, slots := 0, locals := 21 }
def cs_Keeper_deadCases (g : GE) (a_t a_t_court a_t_court_by a_t_court_roll a_t_court_weights a_t_court_costs a_t_court_judgments a_t_court_roll_deeds a_t_court_roll_firstJudgments a_t_court_roll_years a_t_court_roll_pardoned a_t_court_roll_elders : Nat) (t_witness : Int32) (t_court_points : Int32) (t_court_allJudged : Int32) (t_court_by : (Nat → Int32)) (t_court_roll_size : Int32) : va_W := [oc a_t 3 [.ref a_t_court, .int t_witness], oc a_t_court 0 [.ref a_t_court_weights, .ref a_t_court_costs, .ref a_t_court_roll, .int t_court_points, .ref a_t_court_by, .ref a_t_court_judgments, .int t_court_allJudged], ai g a_t_court_by 1024 t_court_by, oc a_t_court_roll 5 [.ref a_t_court_roll_deeds, .ref a_t_court_roll_firstJudgments, .ref a_t_court_roll_years, .ref a_t_court_roll_pardoned, .ref a_t_court_roll_elders, .int t_court_roll_size]]
set_option maxHeartbeats 4000000 in
set_option maxRecDepth 100000 in
theorem c_Keeper_deadCases (l : Launch) (g : GE) (a_t a_t_court a_t_court_by a_t_court_roll a_t_court_weights a_t_court_costs a_t_court_judgments a_t_court_roll_deeds a_t_court_roll_firstJudgments a_t_court_roll_years a_t_court_roll_pardoned a_t_court_roll_elders : Nat) (t_witness : Int32) (t_court_points : Int32) (t_court_allJudged : Int32) (t_court_by : (Nat → Int32)) (t_court_roll_size : Int32) (Q : Int32 → Prop) (h : P_Keeper_deadCases t_court_points t_court_by t_court_roll_size Q) : Cti l g yX3_deadCases cX3_deadCases 4 (some .int) rm_Keeper_deadCases [.ref a_t] (cs_Keeper_deadCases g a_t a_t_court a_t_court_by a_t_court_roll a_t_court_weights a_t_court_costs a_t_court_judgments a_t_court_roll_deeds a_t_court_roll_firstJudgments a_t_court_roll_years a_t_court_roll_pardoned a_t_court_roll_elders t_witness t_court_points t_court_allJudged t_court_by t_court_roll_size) (S := Unit) (fun r u => Q r) (fun _ => (cs_Keeper_deadCases g a_t a_t_court a_t_court_by a_t_court_roll a_t_court_weights a_t_court_costs a_t_court_judgments a_t_court_roll_deeds a_t_court_roll_firstJudgments a_t_court_roll_years a_t_court_roll_pardoned a_t_court_roll_elders t_witness t_court_points t_court_allJudged t_court_by t_court_roll_size)) := by
  refine meetI rfl (Nat.le_of_ble_eq_true rfl) ⟨rfl, rfl⟩ ?_
  intro p e s m args below meth c A Qf ls C hret hw hl
  have hx := C.1
  have hb := C.2.1
  have hown := C.2.2.2.1
  have hts := C.2.2.2.2.1
  have hE := C.2.2.2.2.2.1
  have hl : lv_has ls 4 [(0, .ref a_t)] := hl
  have hB_Keeper_deadCases_35 : ∀ (N_4 : Int32 → Int32 → Prop) (hN_4 : ∀ (x1 : Int32) (x2 : Int32), N_4 x1 x2 → Wat p l e rm_Keeper_deadCases s m args below meth c A Qf g 4 (cs_Keeper_deadCases g a_t a_t_court a_t_court_by a_t_court_roll a_t_court_weights a_t_court_costs a_t_court_judgments a_t_court_roll_deeds a_t_court_roll_firstJudgments a_t_court_roll_years a_t_court_roll_pardoned a_t_court_roll_elders t_witness t_court_points t_court_allJudged t_court_by t_court_roll_size) [(0, .ref a_t), (1, .int x1), (2, .int x2)] 4 []) (x1 : Int32) (x2 : Int32), B_Keeper_deadCases_35 t_court_points t_court_by t_court_roll_size Q N_4 x1 x2 → Wat p l e rm_Keeper_deadCases s m args below meth c A Qf g 4 (cs_Keeper_deadCases g a_t a_t_court a_t_court_by a_t_court_roll a_t_court_weights a_t_court_costs a_t_court_judgments a_t_court_roll_deeds a_t_court_roll_firstJudgments a_t_court_roll_years a_t_court_roll_pardoned a_t_court_roll_elders t_witness t_court_points t_court_allJudged t_court_by t_court_roll_size) [(0, .ref a_t), (1, .int x1), (2, .int x2)] 35 [] := by
    intro N_4 hN_4 x1 x2 h H locs ls hw hl
    refine lv_iinc (v := x2 + 1) (lv' := [(2, .int (x2 + 1)), (0, .ref a_t), (1, .int x1)]) hx hb dX3_deadCases_35 hl (k := 2) rfl rfl (by decide) rfl (fun ls hl => ?_)
    refine lv_goto (tgt := 4) hx hb dX3_deadCases_38 (by decide) ?_
    exact hN_4 x1 (x2 + 1) h _ _ _ hw (lv_sub hl [1, 2, 0] rfl)
  have hL_Keeper_deadCases_4 : ∀ (n : Nat) (x1 : Int32) (x2 : Int32), L_Keeper_deadCases_4 t_court_points t_court_by t_court_roll_size Q n x1 x2 → Wat p l e rm_Keeper_deadCases s m args below meth c A Qf g 4 (cs_Keeper_deadCases g a_t a_t_court a_t_court_by a_t_court_roll a_t_court_weights a_t_court_costs a_t_court_judgments a_t_court_roll_deeds a_t_court_roll_firstJudgments a_t_court_roll_years a_t_court_roll_pardoned a_t_court_roll_elders t_witness t_court_points t_court_allJudged t_court_by t_court_roll_size) [(0, .ref a_t), (1, .int x1), (2, .int x2)] 4 [] := by
    intro n
    induction n with
    | zero => intro x1 x2 h; exact absurd h id
    | succ n ih =>
      intro x1 x2 h H locs ls hw hl
      rw [L_Keeper_deadCases_4] at h
      refine lv_iload_n hx hb dX3_deadCases_4 rfl (lv_at hl 2 rfl) ?_
      refine lv_aload_n hx hb dX3_deadCases_5 rfl (lv_at hl 0 rfl) ?_
      refine G_RX3_9 C hw 0 rfl dX3_deadCases_6 ?_
      refine callVi (As := []) (rest := [.int x2]) (W2 := fun _ => (cs_Keeper_deadCases g a_t a_t_court a_t_court_by a_t_court_roll a_t_court_weights a_t_court_costs a_t_court_judgments a_t_court_roll_deeds a_t_court_roll_firstJudgments a_t_court_roll_years a_t_court_roll_pardoned a_t_court_roll_elders t_witness t_court_points t_court_allJudged t_court_by t_court_roll_size)) C hw hl (c_Court_deedCount l g a_t_court a_t_court_weights a_t_court_costs a_t_court_roll a_t_court_by a_t_court_judgments t_court_points t_court_allJudged _ h) tw_719 kk_X0_deedCount rfl ⟨rfl, rfl⟩ ⟨by decide, by decide⟩ (Nat.le_of_ble_eq_true rfl) 1 rfl rfl rfl [1] [0, 2, 3] [0, 3, 1, 2] rfl rfl rfl rfl rfl rfl (fun u => rfl) rfl dX3_deadCases_9 (fun r_1 u H locs h hw => ?_)
      refine lv_icmp_ge (tgt := 41) hx hb dX3_deadCases_12 (by decide) (fun c_12 => ?_) (fun c_12 => ?_)
      · have h := h.1 c_12
        refine lv_aload_n hx hb dX3_deadCases_41 rfl (lv_at hl 0 rfl) ?_
        refine G_RX3_9 C hw 0 rfl dX3_deadCases_42 ?_
        refine G_RX3_25 C hw 1 rfl dX3_deadCases_45 ?_
        refine callVi (As := []) (rest := []) (W2 := fun _ => (cs_Keeper_deadCases g a_t a_t_court a_t_court_by a_t_court_roll a_t_court_weights a_t_court_costs a_t_court_judgments a_t_court_roll_deeds a_t_court_roll_firstJudgments a_t_court_roll_years a_t_court_roll_pardoned a_t_court_roll_elders t_witness t_court_points t_court_allJudged t_court_by t_court_roll_size)) C hw hl (c_Roll_allCases l g a_t_court_roll a_t_court_roll_deeds a_t_court_roll_firstJudgments a_t_court_roll_years a_t_court_roll_pardoned a_t_court_roll_elders t_court_roll_size _ h) tw_721 kk_X5_allCases rfl ⟨rfl, rfl⟩ ⟨by decide, by decide⟩ (Nat.le_of_ble_eq_true rfl) 3 rfl rfl rfl [3] [0, 1, 2] [0, 1, 2, 3] rfl rfl rfl rfl rfl rfl (fun u => rfl) rfl dX3_deadCases_48 (fun r_2 u H locs h hw => ?_)
        refine lv_iload_n hx hb dX3_deadCases_51 rfl (lv_at hl 1 rfl) ?_
        refine lv_iconst (v := (-1)) hx hb dX3_deadCases_52 (by decide) ?_
        refine lv_ixor hx hb dX3_deadCases_53 ?_
        refine lv_iand hx hb dX3_deadCases_54 ?_
        exact hret () h hw dX3_deadCases_55 rfl
      · have h := h.2 c_12
        refine lv_aload_n hx hb dX3_deadCases_15 rfl (lv_at hl 0 rfl) ?_
        refine G_RX3_9 C hw 0 rfl dX3_deadCases_16 ?_
        refine lv_iload_n hx hb dX3_deadCases_19 rfl (lv_at hl 2 rfl) ?_
        refine callVi (As := [.int x2]) (rest := []) (W2 := fun _ => (cs_Keeper_deadCases g a_t a_t_court a_t_court_by a_t_court_roll a_t_court_weights a_t_court_costs a_t_court_judgments a_t_court_roll_deeds a_t_court_roll_firstJudgments a_t_court_roll_years a_t_court_roll_pardoned a_t_court_roll_elders t_witness t_court_points t_court_allJudged t_court_by t_court_roll_size)) C hw hl (c_Court_byWhich l g a_t_court a_t_court_by a_t_court_weights a_t_court_costs a_t_court_roll a_t_court_judgments t_court_points t_court_allJudged t_court_by x2 _ h) tw_720 kk_X0_byWhich rfl ⟨rfl, rfl⟩ ⟨by decide, by decide⟩ (Nat.le_of_ble_eq_true rfl) 1 rfl rfl rfl [1, 2] [0, 3] [0, 2, 3, 1] rfl rfl rfl rfl rfl rfl (fun u => rfl) rfl dX3_deadCases_20 (fun r_3 u H locs h hw => ?_)
        refine lv_istore_n (lv' := [(3, .int r_3), (0, .ref a_t), (1, .int x1), (2, .int x2)]) hx hb dX3_deadCases_23 rfl hl (by decide) rfl (fun ls hl => ?_)
        refine lv_iload_n hx hb dX3_deadCases_24 rfl (lv_at hl 0 rfl) ?_
        refine lv_iconst (v := (-1)) hx hb dX3_deadCases_25 (by decide) ?_
        refine lv_icmp_eq (tgt := 35) hx hb dX3_deadCases_26 (by decide) (fun c_26 => ?_) (fun c_26 => ?_)
        · have h := h.1 c_26
          exact hB_Keeper_deadCases_35 (L_Keeper_deadCases_4 t_court_points t_court_by t_court_roll_size Q n) ih x1 x2 h _ _ _ hw (lv_sub hl [1, 2, 3] rfl)
        · have h := h.2 c_26
          refine lv_iload_n hx hb dX3_deadCases_29 rfl (lv_at hl 2 rfl) ?_
          refine lv_iconst (v := 1) hx hb dX3_deadCases_30 (by decide) ?_
          refine lv_iload_n hx hb dX3_deadCases_31 rfl (lv_at hl 0 rfl) ?_
          refine lv_ishl hx hb dX3_deadCases_32 ?_
          refine lv_ior hx hb dX3_deadCases_33 ?_
          refine lv_topi (fun x1_4 ex1_4 => ?_)
          have h := h x1_4 ex1_4
          refine lv_istore_n (lv' := [(1, .int x1_4), (3, .int r_3), (0, .ref a_t), (2, .int x2)]) hx hb dX3_deadCases_34 rfl hl (by decide) rfl (fun ls hl => ?_)
          exact hB_Keeper_deadCases_35 (L_Keeper_deadCases_4 t_court_points t_court_by t_court_roll_size Q n) ih x1_4 x2 h _ _ _ hw (lv_sub hl [2, 0, 3] rfl)
  refine lv_iconst (v := 0) hx hb dX3_deadCases_0 (by decide) ?_
  refine lv_istore_n (lv' := [(1, .int 0), (0, .ref a_t)]) hx hb dX3_deadCases_1 rfl hl (by decide) rfl (fun ls hl => ?_)
  refine lv_iconst (v := 0) hx hb dX3_deadCases_2 (by decide) ?_
  refine lv_istore_n (lv' := [(2, .int 0), (1, .int 0), (0, .ref a_t)]) hx hb dX3_deadCases_3 rfl hl (by decide) rfl (fun ls hl => ?_)
  obtain ⟨n_4, h⟩ := h
  exact hL_Keeper_deadCases_4 n_4 0 0 h _ _ _ hw (lv_sub hl [2, 1, 0] rfl)
def L_Keeper_judgesAlike_18 (x1 : Int32) (t_court_points : Int32) (t_court_judgments : (Nat → Int32)) (t_court_roll_size : Int32) (t_court_roll_deeds : (Nat → Int32)) (t_court_roll_elders : (Nat → Int32)) (t_court_roll_firstJudgments : (Nat → Int32)) (t_court_roll_pardoned : (Nat → Int32)) (t_court_weights_sums : (Nat → Int32)) (Q : Int32 → Int32 → Prop) : Nat → Int32 → Int32 → Int32 → Int32 → Prop
  | 0 => fun _ _ _ _ => False
  | n + 1 => fun x2 x3 x4 t_witness => (x2 < x4 → Q 1 t_witness) ∧ (¬ x2 < x4 → ∀ x5_1 : Int32, x5_1 = ((x3 + x4) &&& x2) → P_Roll_likest x5_1 x1 t_court_roll_size t_court_roll_deeds t_court_roll_elders t_court_weights_sums (fun r_2 => P_Roll_judgmentOf r_2 t_court_roll_size t_court_roll_firstJudgments t_court_roll_pardoned (fun r_3 => P_Court_judgmentOf x5_1 t_court_judgments (fun r_4 => (r_3 = r_4 → (L_Keeper_judgesAlike_18 x1 t_court_points t_court_judgments t_court_roll_size t_court_roll_deeds t_court_roll_elders t_court_roll_firstJudgments t_court_roll_pardoned t_court_weights_sums Q n) x2 x3 (x4 + 1) t_witness) ∧ (¬ r_3 = r_4 → Q 0 x5_1)))))
def P_Keeper_judgesAlike (x1 : Int32) (t_witness : Int32) (t_court_points : Int32) (t_court_judgments : (Nat → Int32)) (t_court_roll_size : Int32) (t_court_roll_deeds : (Nat → Int32)) (t_court_roll_elders : (Nat → Int32)) (t_court_roll_firstJudgments : (Nat → Int32)) (t_court_roll_pardoned : (Nat → Int32)) (t_court_weights_sums : (Nat → Int32)) (Q : Int32 → Int32 → Prop) : Prop := P_Court_deedCount t_court_points (fun r_5 => ∀ x2_6 : Int32, x2_6 = (r_5 - 1) → ∃ n_18 : Nat, L_Keeper_judgesAlike_18 x1 t_court_points t_court_judgments t_court_roll_size t_court_roll_deeds t_court_roll_elders t_court_roll_firstJudgments t_court_roll_pardoned t_court_weights_sums Q n_18 x2_6 t_witness 0 t_witness)
abbrev rm_Keeper_judgesAlike : Room := { frames := 2, cells := 0, slots := 0, locals := 48 }
def cs_Keeper_judgesAlike (g : GE) (a_t a_t_court a_t_court_judgments a_t_court_roll a_t_court_weights a_t_court_roll_deeds a_t_court_roll_elders a_t_court_roll_firstJudgments a_t_court_roll_pardoned a_t_court_weights_sums a_t_court_costs a_t_court_by a_t_court_roll_years a_t_court_weights_each : Nat) (t_witness : Int32) (t_court_points : Int32) (t_court_allJudged : Int32) (t_court_judgments : (Nat → Int32)) (t_court_roll_size : Int32) (t_court_weights_points : Int32) (t_court_roll_deeds : (Nat → Int32)) (t_court_roll_elders : (Nat → Int32)) (t_court_roll_firstJudgments : (Nat → Int32)) (t_court_roll_pardoned : (Nat → Int32)) (t_court_weights_sums : (Nat → Int32)) : va_W := [oc a_t 3 [.ref a_t_court, .int t_witness], oc a_t_court 0 [.ref a_t_court_weights, .ref a_t_court_costs, .ref a_t_court_roll, .int t_court_points, .ref a_t_court_by, .ref a_t_court_judgments, .int t_court_allJudged], ai g a_t_court_judgments 1024 t_court_judgments, oc a_t_court_roll 5 [.ref a_t_court_roll_deeds, .ref a_t_court_roll_firstJudgments, .ref a_t_court_roll_years, .ref a_t_court_roll_pardoned, .ref a_t_court_roll_elders, .int t_court_roll_size], oc a_t_court_weights 6 [.ref a_t_court_weights_each, .ref a_t_court_weights_sums, .int t_court_weights_points], ai g a_t_court_roll_deeds 12 t_court_roll_deeds, ai g a_t_court_roll_elders 12 t_court_roll_elders, ai g a_t_court_roll_firstJudgments 12 t_court_roll_firstJudgments, az g a_t_court_roll_pardoned 12 t_court_roll_pardoned, ai g a_t_court_weights_sums 1024 t_court_weights_sums]
set_option maxHeartbeats 4000000 in
set_option maxRecDepth 100000 in
theorem c_Keeper_judgesAlike (l : Launch) (g : GE) (a_t a_t_court a_t_court_judgments a_t_court_roll a_t_court_weights a_t_court_roll_deeds a_t_court_roll_elders a_t_court_roll_firstJudgments a_t_court_roll_pardoned a_t_court_weights_sums a_t_court_costs a_t_court_by a_t_court_roll_years a_t_court_weights_each : Nat) (t_witness : Int32) (t_court_points : Int32) (t_court_allJudged : Int32) (t_court_judgments : (Nat → Int32)) (t_court_roll_size : Int32) (t_court_weights_points : Int32) (t_court_roll_deeds : (Nat → Int32)) (t_court_roll_elders : (Nat → Int32)) (t_court_roll_firstJudgments : (Nat → Int32)) (t_court_roll_pardoned : (Nat → Int32)) (t_court_weights_sums : (Nat → Int32)) (x1 : Int32) (Q : Int32 → Int32 → Prop) (h : P_Keeper_judgesAlike x1 t_witness t_court_points t_court_judgments t_court_roll_size t_court_roll_deeds t_court_roll_elders t_court_roll_firstJudgments t_court_roll_pardoned t_court_weights_sums Q) : Cti l g yX3_judgesAlike cX3_judgesAlike 7 (some .boolean) rm_Keeper_judgesAlike [.ref a_t, .int x1] (cs_Keeper_judgesAlike g a_t a_t_court a_t_court_judgments a_t_court_roll a_t_court_weights a_t_court_roll_deeds a_t_court_roll_elders a_t_court_roll_firstJudgments a_t_court_roll_pardoned a_t_court_weights_sums a_t_court_costs a_t_court_by a_t_court_roll_years a_t_court_weights_each t_witness t_court_points t_court_allJudged t_court_judgments t_court_roll_size t_court_weights_points t_court_roll_deeds t_court_roll_elders t_court_roll_firstJudgments t_court_roll_pardoned t_court_weights_sums) (S := Int32) (fun r u => Q r u) (fun u => (cs_Keeper_judgesAlike g a_t a_t_court a_t_court_judgments a_t_court_roll a_t_court_weights a_t_court_roll_deeds a_t_court_roll_elders a_t_court_roll_firstJudgments a_t_court_roll_pardoned a_t_court_weights_sums a_t_court_costs a_t_court_by a_t_court_roll_years a_t_court_weights_each u t_court_points t_court_allJudged t_court_judgments t_court_roll_size t_court_weights_points t_court_roll_deeds t_court_roll_elders t_court_roll_firstJudgments t_court_roll_pardoned t_court_weights_sums)) := by
  refine meetI rfl (Nat.le_of_ble_eq_true rfl) ⟨rfl, rfl⟩ ?_
  intro p e s m args below meth c A Qf ls C hret hw hl
  have hx := C.1
  have hb := C.2.1
  have hown := C.2.2.2.1
  have hts := C.2.2.2.2.1
  have hE := C.2.2.2.2.2.1
  have hl : lv_has ls 7 [(0, .ref a_t), (1, .int x1)] := hl
  have hL_Keeper_judgesAlike_18 : ∀ (n : Nat) (x2 : Int32) (x3 : Int32) (x4 : Int32) (t_witness : Int32), L_Keeper_judgesAlike_18 x1 t_court_points t_court_judgments t_court_roll_size t_court_roll_deeds t_court_roll_elders t_court_roll_firstJudgments t_court_roll_pardoned t_court_weights_sums Q n x2 x3 x4 t_witness → Wat p l e rm_Keeper_judgesAlike s m args below meth c A Qf g 7 (cs_Keeper_judgesAlike g a_t a_t_court a_t_court_judgments a_t_court_roll a_t_court_weights a_t_court_roll_deeds a_t_court_roll_elders a_t_court_roll_firstJudgments a_t_court_roll_pardoned a_t_court_weights_sums a_t_court_costs a_t_court_by a_t_court_roll_years a_t_court_weights_each t_witness t_court_points t_court_allJudged t_court_judgments t_court_roll_size t_court_weights_points t_court_roll_deeds t_court_roll_elders t_court_roll_firstJudgments t_court_roll_pardoned t_court_weights_sums) [(0, .ref a_t), (1, .int x1), (2, .int x2), (3, .int x3), (4, .int x4)] 18 [] := by
    intro n
    induction n with
    | zero => intro x2 x3 x4 t_witness h; exact absurd h id
    | succ n ih =>
      intro x2 x3 x4 t_witness h H locs ls hw hl
      rw [L_Keeper_judgesAlike_18] at h
      refine lv_iload hx hb dX3_judgesAlike_18 (lv_at hl 4 rfl) ?_
      refine lv_iload_n hx hb dX3_judgesAlike_20 rfl (lv_at hl 2 rfl) ?_
      refine lv_icmp_gt (tgt := 92) hx hb dX3_judgesAlike_21 (by decide) (fun c_21 => ?_) (fun c_21 => ?_)
      · have h := h.1 c_21
        refine lv_iconst (v := 1) hx hb dX3_judgesAlike_92 (by decide) ?_
        exact hret (t_witness) h hw dX3_judgesAlike_93 rfl
      · have h := h.2 c_21
        refine lv_iload_n hx hb dX3_judgesAlike_24 rfl (lv_at hl 3 rfl) ?_
        refine lv_iload hx hb dX3_judgesAlike_25 (lv_at hl 4 rfl) ?_
        refine lv_iadd hx hb dX3_judgesAlike_27 ?_
        refine lv_iload_n hx hb dX3_judgesAlike_28 rfl (lv_at hl 2 rfl) ?_
        refine lv_iand hx hb dX3_judgesAlike_29 ?_
        refine lv_topi (fun x5_1 ex5_1 => ?_)
        have h := h x5_1 ex5_1
        refine lv_istore (lv' := [(5, .int x5_1), (0, .ref a_t), (1, .int x1), (2, .int x2), (3, .int x3), (4, .int x4)]) hx hb dX3_judgesAlike_30 hl (by decide) rfl (fun ls hl => ?_)
        refine lv_aload_n hx hb dX3_judgesAlike_32 rfl (lv_at hl 1 rfl) ?_
        refine G_RX3_9 C hw 0 rfl dX3_judgesAlike_33 ?_
        refine G_RX3_25 C hw 1 rfl dX3_judgesAlike_36 ?_
        refine lv_iload hx hb dX3_judgesAlike_39 (lv_at hl 0 rfl) ?_
        refine lv_iload_n hx hb dX3_judgesAlike_41 rfl (lv_at hl 2 rfl) ?_
        refine lv_aload_n hx hb dX3_judgesAlike_42 rfl (lv_at hl 1 rfl) ?_
        refine G_RX3_9 C hw 0 rfl dX3_judgesAlike_43 ?_
        refine G_RX3_50 C hw 1 rfl dX3_judgesAlike_46 ?_
        refine callVi (As := [.int x5_1, .int x1, .ref a_t_court_weights]) (rest := []) (W2 := fun _ => (cs_Keeper_judgesAlike g a_t a_t_court a_t_court_judgments a_t_court_roll a_t_court_weights a_t_court_roll_deeds a_t_court_roll_elders a_t_court_roll_firstJudgments a_t_court_roll_pardoned a_t_court_weights_sums a_t_court_costs a_t_court_by a_t_court_roll_years a_t_court_weights_each t_witness t_court_points t_court_allJudged t_court_judgments t_court_roll_size t_court_weights_points t_court_roll_deeds t_court_roll_elders t_court_roll_firstJudgments t_court_roll_pardoned t_court_weights_sums)) C hw hl (c_Roll_likest l g a_t_court_roll a_t_court_roll_deeds a_t_court_roll_elders a_t_court_weights a_t_court_weights_sums a_t_court_roll_firstJudgments a_t_court_roll_years a_t_court_roll_pardoned a_t_court_weights_each t_court_roll_size t_court_roll_deeds t_court_roll_elders t_court_weights_points t_court_weights_sums x5_1 x1 _ h) tw_736 kk_X5_likest rfl ⟨rfl, rfl⟩ ⟨by decide, by decide⟩ (Nat.le_of_ble_eq_true rfl) 3 rfl rfl rfl [3, 5, 6, 4, 9] [0, 1, 2, 7, 8] [0, 1, 2, 5, 8, 6, 7, 3, 4, 9] rfl rfl rfl rfl rfl rfl (fun u => rfl) rfl dX3_judgesAlike_49 (fun r_2 u H locs h hw => ?_)
        refine lv_istore (lv' := [(6, .int r_2), (5, .int x5_1), (0, .ref a_t), (1, .int x1), (2, .int x2), (3, .int x3), (4, .int x4)]) hx hb dX3_judgesAlike_52 hl (by decide) rfl (fun ls hl => ?_)
        refine lv_aload_n hx hb dX3_judgesAlike_54 rfl (lv_at hl 2 rfl) ?_
        refine G_RX3_9 C hw 0 rfl dX3_judgesAlike_55 ?_
        refine G_RX3_25 C hw 1 rfl dX3_judgesAlike_58 ?_
        refine lv_iload hx hb dX3_judgesAlike_61 (lv_at hl 0 rfl) ?_
        refine callVi (As := [.int r_2]) (rest := []) (W2 := fun _ => (cs_Keeper_judgesAlike g a_t a_t_court a_t_court_judgments a_t_court_roll a_t_court_weights a_t_court_roll_deeds a_t_court_roll_elders a_t_court_roll_firstJudgments a_t_court_roll_pardoned a_t_court_weights_sums a_t_court_costs a_t_court_by a_t_court_roll_years a_t_court_weights_each t_witness t_court_points t_court_allJudged t_court_judgments t_court_roll_size t_court_weights_points t_court_roll_deeds t_court_roll_elders t_court_roll_firstJudgments t_court_roll_pardoned t_court_weights_sums)) C hw hl (c_Roll_judgmentOf l g a_t_court_roll a_t_court_roll_firstJudgments a_t_court_roll_pardoned a_t_court_roll_deeds a_t_court_roll_years a_t_court_roll_elders t_court_roll_size t_court_roll_firstJudgments t_court_roll_pardoned r_2 _ h) tw_737 kk_X5_judgmentOf rfl ⟨rfl, rfl⟩ ⟨by decide, by decide⟩ (Nat.le_of_ble_eq_true rfl) 3 rfl rfl rfl [3, 7, 8] [0, 1, 2, 4, 5, 6, 9] [0, 1, 2, 7, 3, 4, 5, 8, 9, 6] rfl rfl rfl rfl rfl rfl (fun u => rfl) rfl dX3_judgesAlike_63 (fun r_3 u H locs h hw => ?_)
        refine lv_aload_n hx hb dX3_judgesAlike_66 rfl (lv_at hl 2 rfl) ?_
        refine G_RX3_9 C hw 0 rfl dX3_judgesAlike_67 ?_
        refine lv_iload hx hb dX3_judgesAlike_70 (lv_at hl 1 rfl) ?_
        refine callVi (As := [.int x5_1]) (rest := [.int r_3]) (W2 := fun _ => (cs_Keeper_judgesAlike g a_t a_t_court a_t_court_judgments a_t_court_roll a_t_court_weights a_t_court_roll_deeds a_t_court_roll_elders a_t_court_roll_firstJudgments a_t_court_roll_pardoned a_t_court_weights_sums a_t_court_costs a_t_court_by a_t_court_roll_years a_t_court_weights_each t_witness t_court_points t_court_allJudged t_court_judgments t_court_roll_size t_court_weights_points t_court_roll_deeds t_court_roll_elders t_court_roll_firstJudgments t_court_roll_pardoned t_court_weights_sums)) C hw hl (c_Court_judgmentOf l g a_t_court a_t_court_judgments a_t_court_weights a_t_court_costs a_t_court_roll a_t_court_by t_court_points t_court_allJudged t_court_judgments x5_1 _ h) tw_738 kk_X0_judgmentOf rfl ⟨rfl, rfl⟩ ⟨by decide, by decide⟩ (Nat.le_of_ble_eq_true rfl) 1 rfl rfl rfl [1, 2] [0, 3, 4, 5, 6, 7, 8, 9] [0, 8, 9, 1, 2, 3, 4, 5, 6, 7] rfl rfl rfl rfl rfl rfl (fun u => rfl) rfl dX3_judgesAlike_72 (fun r_4 u H locs h hw => ?_)
        refine lv_icmp_eq (tgt := 86) hx hb dX3_judgesAlike_75 (by decide) (fun c_75 => ?_) (fun c_75 => ?_)
        · have h := h.1 c_75
          refine lv_iinc (v := x4 + 1) (lv' := [(4, .int (x4 + 1)), (6, .int r_2), (5, .int x5_1), (0, .ref a_t), (1, .int x1), (2, .int x2), (3, .int x3)]) hx hb dX3_judgesAlike_86 hl (k := 6) rfl rfl (by decide) rfl (fun ls hl => ?_)
          refine lv_goto (tgt := 18) hx hb dX3_judgesAlike_89 (by decide) ?_
          exact ih x2 x3 (x4 + 1) t_witness h _ _ _ hw (lv_sub hl [3, 4, 5, 6, 0] rfl)
        · have h := h.2 c_75
          refine lv_aload_n hx hb dX3_judgesAlike_78 rfl (lv_at hl 2 rfl) ?_
          refine lv_iload hx hb dX3_judgesAlike_79 (lv_at hl 1 rfl) ?_
          refine U_RX3_46 (ws2 := (cs_Keeper_judgesAlike g a_t a_t_court a_t_court_judgments a_t_court_roll a_t_court_weights a_t_court_roll_deeds a_t_court_roll_elders a_t_court_roll_firstJudgments a_t_court_roll_pardoned a_t_court_weights_sums a_t_court_costs a_t_court_by a_t_court_roll_years a_t_court_weights_each x5_1 t_court_points t_court_allJudged t_court_judgments t_court_roll_size t_court_weights_points t_court_roll_deeds t_court_roll_elders t_court_roll_firstJudgments t_court_roll_pardoned t_court_weights_sums)) C hw 0 rfl rfl rfl rfl dX3_judgesAlike_81 (fun H locs hw => ?_)
          refine lv_iconst (v := 0) hx hb dX3_judgesAlike_84 (by decide) ?_
          exact hret (x5_1) h hw dX3_judgesAlike_85 rfl
  refine lv_aload_n hx hb dX3_judgesAlike_0 rfl (lv_at hl 0 rfl) ?_
  refine G_RX3_9 C hw 0 rfl dX3_judgesAlike_1 ?_
  refine callVi (As := []) (rest := []) (W2 := fun _ => (cs_Keeper_judgesAlike g a_t a_t_court a_t_court_judgments a_t_court_roll a_t_court_weights a_t_court_roll_deeds a_t_court_roll_elders a_t_court_roll_firstJudgments a_t_court_roll_pardoned a_t_court_weights_sums a_t_court_costs a_t_court_by a_t_court_roll_years a_t_court_weights_each t_witness t_court_points t_court_allJudged t_court_judgments t_court_roll_size t_court_weights_points t_court_roll_deeds t_court_roll_elders t_court_roll_firstJudgments t_court_roll_pardoned t_court_weights_sums)) C hw hl (c_Court_deedCount l g a_t_court a_t_court_weights a_t_court_costs a_t_court_roll a_t_court_by a_t_court_judgments t_court_points t_court_allJudged _ h) tw_719 kk_X0_deedCount rfl ⟨rfl, rfl⟩ ⟨by decide, by decide⟩ (Nat.le_of_ble_eq_true rfl) 1 rfl rfl rfl [1] [0, 2, 3, 4, 5, 6, 7, 8, 9] [0, 9, 1, 2, 3, 4, 5, 6, 7, 8] rfl rfl rfl rfl rfl rfl (fun u => rfl) rfl dX3_judgesAlike_4 (fun r_5 u H locs h hw => ?_)
  refine lv_iconst (v := 1) hx hb dX3_judgesAlike_7 (by decide) ?_
  refine lv_isub hx hb dX3_judgesAlike_8 ?_
  refine lv_topi (fun x2_6 ex2_6 => ?_)
  have h := h x2_6 ex2_6
  refine lv_istore_n (lv' := [(2, .int x2_6), (0, .ref a_t), (1, .int x1)]) hx hb dX3_judgesAlike_9 rfl hl (by decide) rfl (fun ls hl => ?_)
  refine lv_aload_n hx hb dX3_judgesAlike_10 rfl (lv_at hl 1 rfl) ?_
  refine G_RX3_46 C hw 0 rfl dX3_judgesAlike_11 ?_
  refine lv_istore_n (lv' := [(3, .int t_witness), (2, .int x2_6), (0, .ref a_t), (1, .int x1)]) hx hb dX3_judgesAlike_14 rfl hl (by decide) rfl (fun ls hl => ?_)
  refine lv_iconst (v := 0) hx hb dX3_judgesAlike_15 (by decide) ?_
  refine lv_istore (lv' := [(4, .int 0), (3, .int t_witness), (2, .int x2_6), (0, .ref a_t), (1, .int x1)]) hx hb dX3_judgesAlike_16 hl (by decide) rfl (fun ls hl => ?_)
  obtain ⟨n_18, h⟩ := h
  exact hL_Keeper_judgesAlike_18 n_18 x2_6 t_witness 0 t_witness h _ _ _ hw (lv_sub hl [3, 4, 2, 1, 0] rfl)
def B_Keeper_fewestCases_52 (t_court_points : Int32) (t_court_judgments : (Nat → Int32)) (t_court_roll_size : Int32) (t_court_roll_deeds : (Nat → Int32)) (t_court_roll_elders : (Nat → Int32)) (t_court_roll_firstJudgments : (Nat → Int32)) (t_court_roll_pardoned : (Nat → Int32)) (t_court_weights_sums : (Nat → Int32)) (Q : Int32 → Int32 → Prop) (N_13 : Int32 → Int32 → Int32 → Prop) (N_29 : Int32 → Int32 → Int32 → Int32 → Prop) (x1 : Int32) (x2 : Int32) (x3 : Int32) (t_witness : Int32) : Prop := N_29 x1 x2 (x3 + 1) t_witness
def L_Keeper_fewestCases_29 (t_court_points : Int32) (t_court_judgments : (Nat → Int32)) (t_court_roll_size : Int32) (t_court_roll_deeds : (Nat → Int32)) (t_court_roll_elders : (Nat → Int32)) (t_court_roll_firstJudgments : (Nat → Int32)) (t_court_roll_pardoned : (Nat → Int32)) (t_court_weights_sums : (Nat → Int32)) (Q : Int32 → Int32 → Prop) (N_13 : Int32 → Int32 → Int32 → Prop) : Nat → Int32 → Int32 → Int32 → Int32 → Prop
  | 0 => fun _ _ _ _ => False
  | n + 1 => fun x1 x2 x3 t_witness => (x1 ≤ x3 → N_13 x1 (x2 + 1) t_witness) ∧ (¬ x1 ≤ x3 → P_Integer_bitCount x3 (fun r_1 => (¬ r_1 = x2 → B_Keeper_fewestCases_52 t_court_points t_court_judgments t_court_roll_size t_court_roll_deeds t_court_roll_elders t_court_roll_firstJudgments t_court_roll_pardoned t_court_weights_sums Q N_13 (L_Keeper_fewestCases_29 t_court_points t_court_judgments t_court_roll_size t_court_roll_deeds t_court_roll_elders t_court_roll_firstJudgments t_court_roll_pardoned t_court_weights_sums Q N_13 n) x1 x2 x3 t_witness) ∧ (r_1 = x2 → P_Keeper_judgesAlike x3 t_witness t_court_points t_court_judgments t_court_roll_size t_court_roll_deeds t_court_roll_elders t_court_roll_firstJudgments t_court_roll_pardoned t_court_weights_sums (fun r_2 t_witness_3 => (r_2 = 0 → B_Keeper_fewestCases_52 t_court_points t_court_judgments t_court_roll_size t_court_roll_deeds t_court_roll_elders t_court_roll_firstJudgments t_court_roll_pardoned t_court_weights_sums Q N_13 (L_Keeper_fewestCases_29 t_court_points t_court_judgments t_court_roll_size t_court_roll_deeds t_court_roll_elders t_court_roll_firstJudgments t_court_roll_pardoned t_court_weights_sums Q N_13 n) x1 x2 x3 t_witness_3) ∧ (¬ r_2 = 0 → Q x3 t_witness_3)))))
def L_Keeper_fewestCases_13 (t_court_points : Int32) (t_court_judgments : (Nat → Int32)) (t_court_roll_size : Int32) (t_court_roll_deeds : (Nat → Int32)) (t_court_roll_elders : (Nat → Int32)) (t_court_roll_firstJudgments : (Nat → Int32)) (t_court_roll_pardoned : (Nat → Int32)) (t_court_weights_sums : (Nat → Int32)) (Q : Int32 → Int32 → Prop) : Nat → Int32 → Int32 → Int32 → Prop
  | 0 => fun _ _ _ => False
  | n + 1 => fun x1 x2 t_witness => P_Roll_size t_court_roll_size (fun r_4 => (r_4 ≤ x2 → Q x1 t_witness) ∧ (¬ r_4 ≤ x2 → ∃ n_29 : Nat, L_Keeper_fewestCases_29 t_court_points t_court_judgments t_court_roll_size t_court_roll_deeds t_court_roll_elders t_court_roll_firstJudgments t_court_roll_pardoned t_court_weights_sums Q (L_Keeper_fewestCases_13 t_court_points t_court_judgments t_court_roll_size t_court_roll_deeds t_court_roll_elders t_court_roll_firstJudgments t_court_roll_pardoned t_court_weights_sums Q n) n_29 x1 x2 0 t_witness))
def P_Keeper_fewestCases (t_witness : Int32) (t_court_points : Int32) (t_court_judgments : (Nat → Int32)) (t_court_roll_size : Int32) (t_court_roll_deeds : (Nat → Int32)) (t_court_roll_elders : (Nat → Int32)) (t_court_roll_firstJudgments : (Nat → Int32)) (t_court_roll_pardoned : (Nat → Int32)) (t_court_weights_sums : (Nat → Int32)) (Q : Int32 → Int32 → Prop) : Prop := P_Roll_allCases t_court_roll_size (fun r_5 => ∃ n_13 : Nat, L_Keeper_fewestCases_13 t_court_points t_court_judgments t_court_roll_size t_court_roll_deeds t_court_roll_elders t_court_roll_firstJudgments t_court_roll_pardoned t_court_weights_sums Q n_13 r_5 0 t_witness)
abbrev rm_Keeper_fewestCases : Room := { frames := 3, cells := 0, slots := 0, locals := 74 }
def cs_Keeper_fewestCases (g : GE) (a_t a_t_court a_t_court_judgments a_t_court_roll a_t_court_weights a_t_court_roll_deeds a_t_court_roll_elders a_t_court_roll_firstJudgments a_t_court_roll_pardoned a_t_court_weights_sums a_t_court_costs a_t_court_by a_t_court_roll_years a_t_court_weights_each : Nat) (t_witness : Int32) (t_court_points : Int32) (t_court_allJudged : Int32) (t_court_judgments : (Nat → Int32)) (t_court_roll_size : Int32) (t_court_weights_points : Int32) (t_court_roll_deeds : (Nat → Int32)) (t_court_roll_elders : (Nat → Int32)) (t_court_roll_firstJudgments : (Nat → Int32)) (t_court_roll_pardoned : (Nat → Int32)) (t_court_weights_sums : (Nat → Int32)) : va_W := [oc a_t 3 [.ref a_t_court, .int t_witness], oc a_t_court 0 [.ref a_t_court_weights, .ref a_t_court_costs, .ref a_t_court_roll, .int t_court_points, .ref a_t_court_by, .ref a_t_court_judgments, .int t_court_allJudged], ai g a_t_court_judgments 1024 t_court_judgments, oc a_t_court_roll 5 [.ref a_t_court_roll_deeds, .ref a_t_court_roll_firstJudgments, .ref a_t_court_roll_years, .ref a_t_court_roll_pardoned, .ref a_t_court_roll_elders, .int t_court_roll_size], oc a_t_court_weights 6 [.ref a_t_court_weights_each, .ref a_t_court_weights_sums, .int t_court_weights_points], ai g a_t_court_roll_deeds 12 t_court_roll_deeds, ai g a_t_court_roll_elders 12 t_court_roll_elders, ai g a_t_court_roll_firstJudgments 12 t_court_roll_firstJudgments, az g a_t_court_roll_pardoned 12 t_court_roll_pardoned, ai g a_t_court_weights_sums 1024 t_court_weights_sums]
set_option maxHeartbeats 4000000 in
set_option maxRecDepth 100000 in
theorem c_Keeper_fewestCases (l : Launch) (g : GE) (a_t a_t_court a_t_court_judgments a_t_court_roll a_t_court_weights a_t_court_roll_deeds a_t_court_roll_elders a_t_court_roll_firstJudgments a_t_court_roll_pardoned a_t_court_weights_sums a_t_court_costs a_t_court_by a_t_court_roll_years a_t_court_weights_each : Nat) (t_witness : Int32) (t_court_points : Int32) (t_court_allJudged : Int32) (t_court_judgments : (Nat → Int32)) (t_court_roll_size : Int32) (t_court_weights_points : Int32) (t_court_roll_deeds : (Nat → Int32)) (t_court_roll_elders : (Nat → Int32)) (t_court_roll_firstJudgments : (Nat → Int32)) (t_court_roll_pardoned : (Nat → Int32)) (t_court_weights_sums : (Nat → Int32)) (Q : Int32 → Int32 → Prop) (h : P_Keeper_fewestCases t_witness t_court_points t_court_judgments t_court_roll_size t_court_roll_deeds t_court_roll_elders t_court_roll_firstJudgments t_court_roll_pardoned t_court_weights_sums Q) : Cti l g yX3_fewestCases cX3_fewestCases 4 (some .int) rm_Keeper_fewestCases [.ref a_t] (cs_Keeper_fewestCases g a_t a_t_court a_t_court_judgments a_t_court_roll a_t_court_weights a_t_court_roll_deeds a_t_court_roll_elders a_t_court_roll_firstJudgments a_t_court_roll_pardoned a_t_court_weights_sums a_t_court_costs a_t_court_by a_t_court_roll_years a_t_court_weights_each t_witness t_court_points t_court_allJudged t_court_judgments t_court_roll_size t_court_weights_points t_court_roll_deeds t_court_roll_elders t_court_roll_firstJudgments t_court_roll_pardoned t_court_weights_sums) (S := Int32) (fun r u => Q r u) (fun u => (cs_Keeper_fewestCases g a_t a_t_court a_t_court_judgments a_t_court_roll a_t_court_weights a_t_court_roll_deeds a_t_court_roll_elders a_t_court_roll_firstJudgments a_t_court_roll_pardoned a_t_court_weights_sums a_t_court_costs a_t_court_by a_t_court_roll_years a_t_court_weights_each u t_court_points t_court_allJudged t_court_judgments t_court_roll_size t_court_weights_points t_court_roll_deeds t_court_roll_elders t_court_roll_firstJudgments t_court_roll_pardoned t_court_weights_sums)) := by
  refine meetI rfl (Nat.le_of_ble_eq_true rfl) ⟨rfl, rfl⟩ ?_
  intro p e s m args below meth c A Qf ls C hret hw hl
  have hx := C.1
  have hb := C.2.1
  have hown := C.2.2.2.1
  have hts := C.2.2.2.2.1
  have hE := C.2.2.2.2.2.1
  have hl : lv_has ls 4 [(0, .ref a_t)] := hl
  have hB_Keeper_fewestCases_52 : ∀ (N_13 : Int32 → Int32 → Int32 → Prop) (hN_13 : ∀ (x1 : Int32) (x2 : Int32) (t_witness : Int32), N_13 x1 x2 t_witness → Wat p l e rm_Keeper_fewestCases s m args below meth c A Qf g 4 (cs_Keeper_fewestCases g a_t a_t_court a_t_court_judgments a_t_court_roll a_t_court_weights a_t_court_roll_deeds a_t_court_roll_elders a_t_court_roll_firstJudgments a_t_court_roll_pardoned a_t_court_weights_sums a_t_court_costs a_t_court_by a_t_court_roll_years a_t_court_weights_each t_witness t_court_points t_court_allJudged t_court_judgments t_court_roll_size t_court_weights_points t_court_roll_deeds t_court_roll_elders t_court_roll_firstJudgments t_court_roll_pardoned t_court_weights_sums) [(0, .ref a_t), (1, .int x1), (2, .int x2)] 13 []) (N_29 : Int32 → Int32 → Int32 → Int32 → Prop) (hN_29 : ∀ (x1 : Int32) (x2 : Int32) (x3 : Int32) (t_witness : Int32), N_29 x1 x2 x3 t_witness → Wat p l e rm_Keeper_fewestCases s m args below meth c A Qf g 4 (cs_Keeper_fewestCases g a_t a_t_court a_t_court_judgments a_t_court_roll a_t_court_weights a_t_court_roll_deeds a_t_court_roll_elders a_t_court_roll_firstJudgments a_t_court_roll_pardoned a_t_court_weights_sums a_t_court_costs a_t_court_by a_t_court_roll_years a_t_court_weights_each t_witness t_court_points t_court_allJudged t_court_judgments t_court_roll_size t_court_weights_points t_court_roll_deeds t_court_roll_elders t_court_roll_firstJudgments t_court_roll_pardoned t_court_weights_sums) [(0, .ref a_t), (1, .int x1), (2, .int x2), (3, .int x3)] 29 []) (x1 : Int32) (x2 : Int32) (x3 : Int32) (t_witness : Int32), B_Keeper_fewestCases_52 t_court_points t_court_judgments t_court_roll_size t_court_roll_deeds t_court_roll_elders t_court_roll_firstJudgments t_court_roll_pardoned t_court_weights_sums Q N_13 N_29 x1 x2 x3 t_witness → Wat p l e rm_Keeper_fewestCases s m args below meth c A Qf g 4 (cs_Keeper_fewestCases g a_t a_t_court a_t_court_judgments a_t_court_roll a_t_court_weights a_t_court_roll_deeds a_t_court_roll_elders a_t_court_roll_firstJudgments a_t_court_roll_pardoned a_t_court_weights_sums a_t_court_costs a_t_court_by a_t_court_roll_years a_t_court_weights_each t_witness t_court_points t_court_allJudged t_court_judgments t_court_roll_size t_court_weights_points t_court_roll_deeds t_court_roll_elders t_court_roll_firstJudgments t_court_roll_pardoned t_court_weights_sums) [(0, .ref a_t), (1, .int x1), (2, .int x2), (3, .int x3)] 52 [] := by
    intro N_13 hN_13 N_29 hN_29 x1 x2 x3 t_witness h H locs ls hw hl
    refine lv_iinc (v := x3 + 1) (lv' := [(3, .int (x3 + 1)), (0, .ref a_t), (1, .int x1), (2, .int x2)]) hx hb dX3_fewestCases_52 hl (k := 3) rfl rfl (by decide) rfl (fun ls hl => ?_)
    refine lv_goto (tgt := 29) hx hb dX3_fewestCases_55 (by decide) ?_
    exact hN_29 x1 x2 (x3 + 1) t_witness h _ _ _ hw (lv_sub hl [1, 2, 3, 0] rfl)
  have hL_Keeper_fewestCases_29 : ∀ (N_13 : Int32 → Int32 → Int32 → Prop) (hN_13 : ∀ (x1 : Int32) (x2 : Int32) (t_witness : Int32), N_13 x1 x2 t_witness → Wat p l e rm_Keeper_fewestCases s m args below meth c A Qf g 4 (cs_Keeper_fewestCases g a_t a_t_court a_t_court_judgments a_t_court_roll a_t_court_weights a_t_court_roll_deeds a_t_court_roll_elders a_t_court_roll_firstJudgments a_t_court_roll_pardoned a_t_court_weights_sums a_t_court_costs a_t_court_by a_t_court_roll_years a_t_court_weights_each t_witness t_court_points t_court_allJudged t_court_judgments t_court_roll_size t_court_weights_points t_court_roll_deeds t_court_roll_elders t_court_roll_firstJudgments t_court_roll_pardoned t_court_weights_sums) [(0, .ref a_t), (1, .int x1), (2, .int x2)] 13 []) (n : Nat) (x1 : Int32) (x2 : Int32) (x3 : Int32) (t_witness : Int32), L_Keeper_fewestCases_29 t_court_points t_court_judgments t_court_roll_size t_court_roll_deeds t_court_roll_elders t_court_roll_firstJudgments t_court_roll_pardoned t_court_weights_sums Q N_13 n x1 x2 x3 t_witness → Wat p l e rm_Keeper_fewestCases s m args below meth c A Qf g 4 (cs_Keeper_fewestCases g a_t a_t_court a_t_court_judgments a_t_court_roll a_t_court_weights a_t_court_roll_deeds a_t_court_roll_elders a_t_court_roll_firstJudgments a_t_court_roll_pardoned a_t_court_weights_sums a_t_court_costs a_t_court_by a_t_court_roll_years a_t_court_weights_each t_witness t_court_points t_court_allJudged t_court_judgments t_court_roll_size t_court_weights_points t_court_roll_deeds t_court_roll_elders t_court_roll_firstJudgments t_court_roll_pardoned t_court_weights_sums) [(0, .ref a_t), (1, .int x1), (2, .int x2), (3, .int x3)] 29 [] := by
    intro N_13 hN_13 n
    induction n with
    | zero => intro x1 x2 x3 t_witness h; exact absurd h id
    | succ n ih =>
      intro x1 x2 x3 t_witness h H locs ls hw hl
      rw [L_Keeper_fewestCases_29] at h
      refine lv_iload_n hx hb dX3_fewestCases_29 rfl (lv_at hl 3 rfl) ?_
      refine lv_iload_n hx hb dX3_fewestCases_30 rfl (lv_at hl 1 rfl) ?_
      refine lv_icmp_ge (tgt := 58) hx hb dX3_fewestCases_31 (by decide) (fun c_31 => ?_) (fun c_31 => ?_)
      · have h := h.1 c_31
        refine lv_iinc (v := x2 + 1) (lv' := [(2, .int (x2 + 1)), (0, .ref a_t), (1, .int x1), (3, .int x3)]) hx hb dX3_fewestCases_58 hl (k := 2) rfl rfl (by decide) rfl (fun ls hl => ?_)
        refine lv_goto (tgt := 13) hx hb dX3_fewestCases_61 (by decide) ?_
        exact hN_13 x1 (x2 + 1) t_witness h _ _ _ hw (lv_sub hl [1, 2, 0] rfl)
      · have h := h.2 c_31
        refine lv_iload_n hx hb dX3_fewestCases_34 rfl (lv_at hl 3 rfl) ?_
        refine callSi (As := [.int x3]) (rest := []) C hw hl (c_Integer_bitCount l g x3 _ h) tw_731 kk_J6_bitCount_0f7a4 rfl ⟨rfl, rfl⟩ ⟨by decide, by decide⟩ (Nat.le_of_ble_eq_true rfl) rfl dX3_fewestCases_35 (fun r_1 u H locs h hw => ?_)
        refine lv_iload_n hx hb dX3_fewestCases_38 rfl (lv_at hl 2 rfl) ?_
        refine lv_icmp_ne (tgt := 52) hx hb dX3_fewestCases_39 (by decide) (fun c_39 => ?_) (fun c_39 => ?_)
        · have h := h.1 c_39
          exact hB_Keeper_fewestCases_52 N_13 hN_13 (L_Keeper_fewestCases_29 t_court_points t_court_judgments t_court_roll_size t_court_roll_deeds t_court_roll_elders t_court_roll_firstJudgments t_court_roll_pardoned t_court_weights_sums Q N_13 n) ih x1 x2 x3 t_witness h _ _ _ hw (lv_sub hl [0, 1, 2, 3] rfl)
        · have h := h.2 c_39
          refine lv_aload_n hx hb dX3_fewestCases_42 rfl (lv_at hl 0 rfl) ?_
          refine lv_iload_n hx hb dX3_fewestCases_43 rfl (lv_at hl 3 rfl) ?_
          refine callVi (As := [.int x3]) (rest := []) (W2 := fun u => (cs_Keeper_fewestCases g a_t a_t_court a_t_court_judgments a_t_court_roll a_t_court_weights a_t_court_roll_deeds a_t_court_roll_elders a_t_court_roll_firstJudgments a_t_court_roll_pardoned a_t_court_weights_sums a_t_court_costs a_t_court_by a_t_court_roll_years a_t_court_weights_each u t_court_points t_court_allJudged t_court_judgments t_court_roll_size t_court_weights_points t_court_roll_deeds t_court_roll_elders t_court_roll_firstJudgments t_court_roll_pardoned t_court_weights_sums)) C hw hl (c_Keeper_judgesAlike l g a_t a_t_court a_t_court_judgments a_t_court_roll a_t_court_weights a_t_court_roll_deeds a_t_court_roll_elders a_t_court_roll_firstJudgments a_t_court_roll_pardoned a_t_court_weights_sums a_t_court_costs a_t_court_by a_t_court_roll_years a_t_court_weights_each t_witness t_court_points t_court_allJudged t_court_judgments t_court_roll_size t_court_weights_points t_court_roll_deeds t_court_roll_elders t_court_roll_firstJudgments t_court_roll_pardoned t_court_weights_sums x3 _ h) tw_732 kk_X3_judgesAlike rfl ⟨rfl, rfl⟩ ⟨by decide, by decide⟩ (Nat.le_of_ble_eq_true rfl) 0 rfl rfl rfl [0, 1, 2, 3, 4, 5, 6, 7, 8, 9] [] [0, 1, 2, 3, 4, 5, 6, 7, 8, 9] rfl rfl rfl rfl rfl rfl (fun u => rfl) rfl dX3_fewestCases_44 (fun r_2 u H locs h hw => ?_)
          obtain ⟨t_witness_3, rfl⟩ : ∃ z, z = u := ⟨_, rfl⟩
          have hw : Wd g A s (cs_Keeper_fewestCases g a_t a_t_court a_t_court_judgments a_t_court_roll a_t_court_weights a_t_court_roll_deeds a_t_court_roll_elders a_t_court_roll_firstJudgments a_t_court_roll_pardoned a_t_court_weights_sums a_t_court_costs a_t_court_by a_t_court_roll_years a_t_court_weights_each t_witness_3 t_court_points t_court_allJudged t_court_judgments t_court_roll_size t_court_weights_points t_court_roll_deeds t_court_roll_elders t_court_roll_firstJudgments t_court_roll_pardoned t_court_weights_sums) H locs := hw
          refine lv_if_eq (tgt := 52) hx hb dX3_fewestCases_47 (by decide) (fun c_47 => ?_) (fun c_47 => ?_)
          · have h := h.1 c_47
            exact hB_Keeper_fewestCases_52 N_13 hN_13 (L_Keeper_fewestCases_29 t_court_points t_court_judgments t_court_roll_size t_court_roll_deeds t_court_roll_elders t_court_roll_firstJudgments t_court_roll_pardoned t_court_weights_sums Q N_13 n) ih x1 x2 x3 t_witness_3 h _ _ _ hw (lv_sub hl [0, 1, 2, 3] rfl)
          · have h := h.2 c_47
            refine lv_iload_n hx hb dX3_fewestCases_50 rfl (lv_at hl 3 rfl) ?_
            exact hret (t_witness_3) h hw dX3_fewestCases_51 rfl
  have hL_Keeper_fewestCases_13 : ∀ (n : Nat) (x1 : Int32) (x2 : Int32) (t_witness : Int32), L_Keeper_fewestCases_13 t_court_points t_court_judgments t_court_roll_size t_court_roll_deeds t_court_roll_elders t_court_roll_firstJudgments t_court_roll_pardoned t_court_weights_sums Q n x1 x2 t_witness → Wat p l e rm_Keeper_fewestCases s m args below meth c A Qf g 4 (cs_Keeper_fewestCases g a_t a_t_court a_t_court_judgments a_t_court_roll a_t_court_weights a_t_court_roll_deeds a_t_court_roll_elders a_t_court_roll_firstJudgments a_t_court_roll_pardoned a_t_court_weights_sums a_t_court_costs a_t_court_by a_t_court_roll_years a_t_court_weights_each t_witness t_court_points t_court_allJudged t_court_judgments t_court_roll_size t_court_weights_points t_court_roll_deeds t_court_roll_elders t_court_roll_firstJudgments t_court_roll_pardoned t_court_weights_sums) [(0, .ref a_t), (1, .int x1), (2, .int x2)] 13 [] := by
    intro n
    induction n with
    | zero => intro x1 x2 t_witness h; exact absurd h id
    | succ n ih =>
      intro x1 x2 t_witness h H locs ls hw hl
      rw [L_Keeper_fewestCases_13] at h
      refine lv_iload_n hx hb dX3_fewestCases_13 rfl (lv_at hl 2 rfl) ?_
      refine lv_aload_n hx hb dX3_fewestCases_14 rfl (lv_at hl 0 rfl) ?_
      refine G_RX3_9 C hw 0 rfl dX3_fewestCases_15 ?_
      refine G_RX3_25 C hw 1 rfl dX3_fewestCases_18 ?_
      refine callVi (As := []) (rest := [.int x2]) (W2 := fun _ => (cs_Keeper_fewestCases g a_t a_t_court a_t_court_judgments a_t_court_roll a_t_court_weights a_t_court_roll_deeds a_t_court_roll_elders a_t_court_roll_firstJudgments a_t_court_roll_pardoned a_t_court_weights_sums a_t_court_costs a_t_court_by a_t_court_roll_years a_t_court_weights_each t_witness t_court_points t_court_allJudged t_court_judgments t_court_roll_size t_court_weights_points t_court_roll_deeds t_court_roll_elders t_court_roll_firstJudgments t_court_roll_pardoned t_court_weights_sums)) C hw hl (c_Roll_size l g a_t_court_roll a_t_court_roll_deeds a_t_court_roll_firstJudgments a_t_court_roll_years a_t_court_roll_pardoned a_t_court_roll_elders t_court_roll_size _ h) tw_730 kk_X5_size rfl ⟨rfl, rfl⟩ ⟨by decide, by decide⟩ (Nat.le_of_ble_eq_true rfl) 3 rfl rfl rfl [3] [0, 1, 2, 4, 5, 6, 7, 8, 9] [0, 1, 2, 9, 3, 4, 5, 6, 7, 8] rfl rfl rfl rfl rfl rfl (fun u => rfl) rfl dX3_fewestCases_21 (fun r_4 u H locs h hw => ?_)
      refine lv_icmp_ge (tgt := 64) hx hb dX3_fewestCases_24 (by decide) (fun c_24 => ?_) (fun c_24 => ?_)
      · have h := h.1 c_24
        refine lv_iload_n hx hb dX3_fewestCases_64 rfl (lv_at hl 1 rfl) ?_
        exact hret (t_witness) h hw dX3_fewestCases_65 rfl
      · have h := h.2 c_24
        refine lv_iconst (v := 0) hx hb dX3_fewestCases_27 (by decide) ?_
        refine lv_istore_n (lv' := [(3, .int 0), (0, .ref a_t), (1, .int x1), (2, .int x2)]) hx hb dX3_fewestCases_28 rfl hl (by decide) rfl (fun ls hl => ?_)
        obtain ⟨n_29, h⟩ := h
        exact hL_Keeper_fewestCases_29 (L_Keeper_fewestCases_13 t_court_points t_court_judgments t_court_roll_size t_court_roll_deeds t_court_roll_elders t_court_roll_firstJudgments t_court_roll_pardoned t_court_weights_sums Q n) ih n_29 x1 x2 0 t_witness h _ _ _ hw (lv_sub hl [1, 2, 3, 0] rfl)
  refine lv_aload_n hx hb dX3_fewestCases_0 rfl (lv_at hl 0 rfl) ?_
  refine G_RX3_9 C hw 0 rfl dX3_fewestCases_1 ?_
  refine G_RX3_25 C hw 1 rfl dX3_fewestCases_4 ?_
  refine callVi (As := []) (rest := []) (W2 := fun _ => (cs_Keeper_fewestCases g a_t a_t_court a_t_court_judgments a_t_court_roll a_t_court_weights a_t_court_roll_deeds a_t_court_roll_elders a_t_court_roll_firstJudgments a_t_court_roll_pardoned a_t_court_weights_sums a_t_court_costs a_t_court_by a_t_court_roll_years a_t_court_weights_each t_witness t_court_points t_court_allJudged t_court_judgments t_court_roll_size t_court_weights_points t_court_roll_deeds t_court_roll_elders t_court_roll_firstJudgments t_court_roll_pardoned t_court_weights_sums)) C hw hl (c_Roll_allCases l g a_t_court_roll a_t_court_roll_deeds a_t_court_roll_firstJudgments a_t_court_roll_years a_t_court_roll_pardoned a_t_court_roll_elders t_court_roll_size _ h) tw_721 kk_X5_allCases rfl ⟨rfl, rfl⟩ ⟨by decide, by decide⟩ (Nat.le_of_ble_eq_true rfl) 3 rfl rfl rfl [3] [0, 1, 2, 4, 5, 6, 7, 8, 9] [0, 1, 2, 9, 3, 4, 5, 6, 7, 8] rfl rfl rfl rfl rfl rfl (fun u => rfl) rfl dX3_fewestCases_7 (fun r_5 u H locs h hw => ?_)
  refine lv_istore_n (lv' := [(1, .int r_5), (0, .ref a_t)]) hx hb dX3_fewestCases_10 rfl hl (by decide) rfl (fun ls hl => ?_)
  refine lv_iconst (v := 0) hx hb dX3_fewestCases_11 (by decide) ?_
  refine lv_istore_n (lv' := [(2, .int 0), (1, .int r_5), (0, .ref a_t)]) hx hb dX3_fewestCases_12 rfl hl (by decide) rfl (fun ls hl => ?_)
  obtain ⟨n_13, h⟩ := h
  exact hL_Keeper_fewestCases_13 n_13 r_5 0 t_witness h _ _ _ hw (lv_sub hl [2, 1, 0] rfl)
def B_Keeper_turningPoints_44 (x1 : Int32) (t_court_points : Int32) (t_court_judgments : (Nat → Int32)) (Q : Int32 → Prop) (N_4 : Int32 → Int32 → Prop) (x2 : Int32) (x3 : Int32) : Prop := N_4 x2 (x3 + 1)
def L_Keeper_turningPoints_4 (x1 : Int32) (t_court_points : Int32) (t_court_judgments : (Nat → Int32)) (Q : Int32 → Prop) : Nat → Int32 → Int32 → Prop
  | 0 => fun _ _ => False
  | n + 1 => fun x2 x3 => P_Court_points t_court_points (fun r_1 => (r_1 ≤ x3 → Q x2) ∧ (¬ r_1 ≤ x3 → P_Court_judgmentOf (x1 ^^^ (1 <<< (x3 &&& 31))) t_court_judgments (fun r_2 => P_Court_judgmentOf x1 t_court_judgments (fun r_3 => (r_2 = r_3 → B_Keeper_turningPoints_44 x1 t_court_points t_court_judgments Q (L_Keeper_turningPoints_4 x1 t_court_points t_court_judgments Q n) x2 x3) ∧ (¬ r_2 = r_3 → ∀ x2_4 : Int32, x2_4 = (x2 ||| (1 <<< (x3 &&& 31))) → B_Keeper_turningPoints_44 x1 t_court_points t_court_judgments Q (L_Keeper_turningPoints_4 x1 t_court_points t_court_judgments Q n) x2_4 x3)))))
def P_Keeper_turningPoints (x1 : Int32) (t_court_points : Int32) (t_court_judgments : (Nat → Int32)) (Q : Int32 → Prop) : Prop := ∃ n_4 : Nat, L_Keeper_turningPoints_4 x1 t_court_points t_court_judgments Q n_4 0 0
abbrev rm_Keeper_turningPoints : Room := { frames := 1, cells := 0, slots := 0, locals := 21 }
def cs_Keeper_turningPoints (g : GE) (a_t a_t_court a_t_court_judgments a_t_court_weights a_t_court_costs a_t_court_roll a_t_court_by : Nat) (t_witness : Int32) (t_court_points : Int32) (t_court_allJudged : Int32) (t_court_judgments : (Nat → Int32)) : va_W := [oc a_t 3 [.ref a_t_court, .int t_witness], oc a_t_court 0 [.ref a_t_court_weights, .ref a_t_court_costs, .ref a_t_court_roll, .int t_court_points, .ref a_t_court_by, .ref a_t_court_judgments, .int t_court_allJudged], ai g a_t_court_judgments 1024 t_court_judgments]
set_option maxHeartbeats 4000000 in
set_option maxRecDepth 100000 in
theorem c_Keeper_turningPoints (l : Launch) (g : GE) (a_t a_t_court a_t_court_judgments a_t_court_weights a_t_court_costs a_t_court_roll a_t_court_by : Nat) (t_witness : Int32) (t_court_points : Int32) (t_court_allJudged : Int32) (t_court_judgments : (Nat → Int32)) (x1 : Int32) (Q : Int32 → Prop) (h : P_Keeper_turningPoints x1 t_court_points t_court_judgments Q) : Cti l g yX3_turningPoints cX3_turningPoints 4 (some .int) rm_Keeper_turningPoints [.ref a_t, .int x1] (cs_Keeper_turningPoints g a_t a_t_court a_t_court_judgments a_t_court_weights a_t_court_costs a_t_court_roll a_t_court_by t_witness t_court_points t_court_allJudged t_court_judgments) (S := Unit) (fun r u => Q r) (fun _ => (cs_Keeper_turningPoints g a_t a_t_court a_t_court_judgments a_t_court_weights a_t_court_costs a_t_court_roll a_t_court_by t_witness t_court_points t_court_allJudged t_court_judgments)) := by
  refine meetI rfl (Nat.le_of_ble_eq_true rfl) ⟨rfl, rfl⟩ ?_
  intro p e s m args below meth c A Qf ls C hret hw hl
  have hx := C.1
  have hb := C.2.1
  have hown := C.2.2.2.1
  have hts := C.2.2.2.2.1
  have hE := C.2.2.2.2.2.1
  have hl : lv_has ls 4 [(0, .ref a_t), (1, .int x1)] := hl
  have hB_Keeper_turningPoints_44 : ∀ (N_4 : Int32 → Int32 → Prop) (hN_4 : ∀ (x2 : Int32) (x3 : Int32), N_4 x2 x3 → Wat p l e rm_Keeper_turningPoints s m args below meth c A Qf g 4 (cs_Keeper_turningPoints g a_t a_t_court a_t_court_judgments a_t_court_weights a_t_court_costs a_t_court_roll a_t_court_by t_witness t_court_points t_court_allJudged t_court_judgments) [(0, .ref a_t), (1, .int x1), (2, .int x2), (3, .int x3)] 4 []) (x2 : Int32) (x3 : Int32), B_Keeper_turningPoints_44 x1 t_court_points t_court_judgments Q N_4 x2 x3 → Wat p l e rm_Keeper_turningPoints s m args below meth c A Qf g 4 (cs_Keeper_turningPoints g a_t a_t_court a_t_court_judgments a_t_court_weights a_t_court_costs a_t_court_roll a_t_court_by t_witness t_court_points t_court_allJudged t_court_judgments) [(0, .ref a_t), (1, .int x1), (2, .int x2), (3, .int x3)] 44 [] := by
    intro N_4 hN_4 x2 x3 h H locs ls hw hl
    refine lv_iinc (v := x3 + 1) (lv' := [(3, .int (x3 + 1)), (0, .ref a_t), (1, .int x1), (2, .int x2)]) hx hb dX3_turningPoints_44 hl (k := 3) rfl rfl (by decide) rfl (fun ls hl => ?_)
    refine lv_goto (tgt := 4) hx hb dX3_turningPoints_47 (by decide) ?_
    exact hN_4 x2 (x3 + 1) h _ _ _ hw (lv_sub hl [1, 2, 3, 0] rfl)
  have hL_Keeper_turningPoints_4 : ∀ (n : Nat) (x2 : Int32) (x3 : Int32), L_Keeper_turningPoints_4 x1 t_court_points t_court_judgments Q n x2 x3 → Wat p l e rm_Keeper_turningPoints s m args below meth c A Qf g 4 (cs_Keeper_turningPoints g a_t a_t_court a_t_court_judgments a_t_court_weights a_t_court_costs a_t_court_roll a_t_court_by t_witness t_court_points t_court_allJudged t_court_judgments) [(0, .ref a_t), (1, .int x1), (2, .int x2), (3, .int x3)] 4 [] := by
    intro n
    induction n with
    | zero => intro x2 x3 h; exact absurd h id
    | succ n ih =>
      intro x2 x3 h H locs ls hw hl
      rw [L_Keeper_turningPoints_4] at h
      refine lv_iload_n hx hb dX3_turningPoints_4 rfl (lv_at hl 3 rfl) ?_
      refine lv_aload_n hx hb dX3_turningPoints_5 rfl (lv_at hl 0 rfl) ?_
      refine G_RX3_9 C hw 0 rfl dX3_turningPoints_6 ?_
      refine callVi (As := []) (rest := [.int x3]) (W2 := fun _ => (cs_Keeper_turningPoints g a_t a_t_court a_t_court_judgments a_t_court_weights a_t_court_costs a_t_court_roll a_t_court_by t_witness t_court_points t_court_allJudged t_court_judgments)) C hw hl (c_Court_points l g a_t_court a_t_court_weights a_t_court_costs a_t_court_roll a_t_court_by a_t_court_judgments t_court_points t_court_allJudged _ h) tw_750 kk_X0_points rfl ⟨rfl, rfl⟩ ⟨by decide, by decide⟩ (Nat.le_of_ble_eq_true rfl) 1 rfl rfl rfl [1] [0, 2] [0, 2, 1] rfl rfl rfl rfl rfl rfl (fun u => rfl) rfl dX3_turningPoints_9 (fun r_1 u H locs h hw => ?_)
      refine lv_icmp_ge (tgt := 50) hx hb dX3_turningPoints_12 (by decide) (fun c_12 => ?_) (fun c_12 => ?_)
      · have h := h.1 c_12
        refine lv_iload_n hx hb dX3_turningPoints_50 rfl (lv_at hl 2 rfl) ?_
        exact hret () h hw dX3_turningPoints_51 rfl
      · have h := h.2 c_12
        refine lv_aload_n hx hb dX3_turningPoints_15 rfl (lv_at hl 0 rfl) ?_
        refine G_RX3_9 C hw 0 rfl dX3_turningPoints_16 ?_
        refine lv_iload_n hx hb dX3_turningPoints_19 rfl (lv_at hl 1 rfl) ?_
        refine lv_iconst (v := 1) hx hb dX3_turningPoints_20 (by decide) ?_
        refine lv_iload_n hx hb dX3_turningPoints_21 rfl (lv_at hl 3 rfl) ?_
        refine lv_ishl hx hb dX3_turningPoints_22 ?_
        refine lv_ixor hx hb dX3_turningPoints_23 ?_
        refine callVi (As := [.int (x1 ^^^ (1 <<< (x3 &&& 31)))]) (rest := []) (W2 := fun _ => (cs_Keeper_turningPoints g a_t a_t_court a_t_court_judgments a_t_court_weights a_t_court_costs a_t_court_roll a_t_court_by t_witness t_court_points t_court_allJudged t_court_judgments)) C hw hl (c_Court_judgmentOf l g a_t_court a_t_court_judgments a_t_court_weights a_t_court_costs a_t_court_roll a_t_court_by t_court_points t_court_allJudged t_court_judgments (x1 ^^^ (1 <<< (x3 &&& 31))) _ h) tw_738 kk_X0_judgmentOf rfl ⟨rfl, rfl⟩ ⟨by decide, by decide⟩ (Nat.le_of_ble_eq_true rfl) 1 rfl rfl rfl [1, 2] [0] [0, 1, 2] rfl rfl rfl rfl rfl rfl (fun u => rfl) rfl dX3_turningPoints_24 (fun r_2 u H locs h hw => ?_)
        refine lv_aload_n hx hb dX3_turningPoints_27 rfl (lv_at hl 0 rfl) ?_
        refine G_RX3_9 C hw 0 rfl dX3_turningPoints_28 ?_
        refine lv_iload_n hx hb dX3_turningPoints_31 rfl (lv_at hl 1 rfl) ?_
        refine callVi (As := [.int x1]) (rest := [.int r_2]) (W2 := fun _ => (cs_Keeper_turningPoints g a_t a_t_court a_t_court_judgments a_t_court_weights a_t_court_costs a_t_court_roll a_t_court_by t_witness t_court_points t_court_allJudged t_court_judgments)) C hw hl (c_Court_judgmentOf l g a_t_court a_t_court_judgments a_t_court_weights a_t_court_costs a_t_court_roll a_t_court_by t_court_points t_court_allJudged t_court_judgments x1 _ h) tw_738 kk_X0_judgmentOf rfl ⟨rfl, rfl⟩ ⟨by decide, by decide⟩ (Nat.le_of_ble_eq_true rfl) 1 rfl rfl rfl [1, 2] [0] [0, 1, 2] rfl rfl rfl rfl rfl rfl (fun u => rfl) rfl dX3_turningPoints_32 (fun r_3 u H locs h hw => ?_)
        refine lv_icmp_eq (tgt := 44) hx hb dX3_turningPoints_35 (by decide) (fun c_35 => ?_) (fun c_35 => ?_)
        · have h := h.1 c_35
          exact hB_Keeper_turningPoints_44 (L_Keeper_turningPoints_4 x1 t_court_points t_court_judgments Q n) ih x2 x3 h _ _ _ hw (lv_sub hl [0, 1, 2, 3] rfl)
        · have h := h.2 c_35
          refine lv_iload_n hx hb dX3_turningPoints_38 rfl (lv_at hl 2 rfl) ?_
          refine lv_iconst (v := 1) hx hb dX3_turningPoints_39 (by decide) ?_
          refine lv_iload_n hx hb dX3_turningPoints_40 rfl (lv_at hl 3 rfl) ?_
          refine lv_ishl hx hb dX3_turningPoints_41 ?_
          refine lv_ior hx hb dX3_turningPoints_42 ?_
          refine lv_topi (fun x2_4 ex2_4 => ?_)
          have h := h x2_4 ex2_4
          refine lv_istore_n (lv' := [(2, .int x2_4), (0, .ref a_t), (1, .int x1), (3, .int x3)]) hx hb dX3_turningPoints_43 rfl hl (by decide) rfl (fun ls hl => ?_)
          exact hB_Keeper_turningPoints_44 (L_Keeper_turningPoints_4 x1 t_court_points t_court_judgments Q n) ih x2_4 x3 h _ _ _ hw (lv_sub hl [1, 2, 0, 3] rfl)
  refine lv_iconst (v := 0) hx hb dX3_turningPoints_0 (by decide) ?_
  refine lv_istore_n (lv' := [(2, .int 0), (0, .ref a_t), (1, .int x1)]) hx hb dX3_turningPoints_1 rfl hl (by decide) rfl (fun ls hl => ?_)
  refine lv_iconst (v := 0) hx hb dX3_turningPoints_2 (by decide) ?_
  refine lv_istore_n (lv' := [(3, .int 0), (2, .int 0), (0, .ref a_t), (1, .int x1)]) hx hb dX3_turningPoints_3 rfl hl (by decide) rfl (fun ls hl => ?_)
  obtain ⟨n_4, h⟩ := h
  exact hL_Keeper_turningPoints_4 n_4 0 0 h _ _ _ hw (lv_sub hl [2, 3, 1, 0] rfl)
def B_Keeper_likely_94 (x1 : Int32) (x2 : Int32) (x3 : Int32) (x4 : Int32) (t_court_points : Int32) (t_court_judgments : (Nat → Int32)) (Q : Int64 → Prop) (N_12 : Int32 → Int64 → Int32 → Prop) (x5 : Int32) (x6 : Int64) (x8 : Int32) : Prop := N_12 x5 x6 (x8 + 1)
def B_Keeper_likely_40 (x1 : Int32) (x2 : Int32) (x3 : Int32) (x4 : Int32) (t_court_points : Int32) (t_court_judgments : (Nat → Int32)) (Q : Int64 → Prop) (N_12 : Int32 → Int64 → Int32 → Prop) (x5 : Int32) (x6 : Int64) (x8 : Int32) (k0 : Int32) : Prop := (k0 = 0 → B_Keeper_likely_94 x1 x2 x3 x4 t_court_points t_court_judgments Q N_12 x5 x6 x8) ∧ (¬ k0 = 0 → P_Court_judgmentOf x8 t_court_judgments (fun r_1 => (¬ r_1 = x4 → B_Keeper_likely_94 x1 x2 x3 x4 t_court_points t_court_judgments Q N_12 x5 x6 x8) ∧ (r_1 = x4 → P_Integer_bitCount (x8 &&& x2) (fun r_2 => P_LC_power x3 r_2 (fun r_3 => P_LC_power (10 - x3) (x5 - r_2) (fun r_4 => ∀ x6_5 : Int64, x6_5 = (x6 + (r_3 * r_4)) → B_Keeper_likely_94 x1 x2 x3 x4 t_court_points t_court_judgments Q N_12 x5 x6_5 x8))))))
def L_Keeper_likely_12 (x1 : Int32) (x2 : Int32) (x3 : Int32) (x4 : Int32) (t_court_points : Int32) (t_court_judgments : (Nat → Int32)) (Q : Int64 → Prop) : Nat → Int32 → Int64 → Int32 → Prop
  | 0 => fun _ _ _ => False
  | n + 1 => fun x5 x6 x8 => P_Court_deedCount t_court_points (fun r_6 => (r_6 ≤ x8 → Q x6) ∧ (¬ r_6 ≤ x8 → (¬ ((x1 ^^^ x8) &&& (x2 ^^^ (-1))) = 0 → B_Keeper_likely_40 x1 x2 x3 x4 t_court_points t_court_judgments Q (L_Keeper_likely_12 x1 x2 x3 x4 t_court_points t_court_judgments Q n) x5 x6 x8 0) ∧ (((x1 ^^^ x8) &&& (x2 ^^^ (-1))) = 0 → B_Keeper_likely_40 x1 x2 x3 x4 t_court_points t_court_judgments Q (L_Keeper_likely_12 x1 x2 x3 x4 t_court_points t_court_judgments Q n) x5 x6 x8 1)))
def P_Keeper_likely (x1 : Int32) (x2 : Int32) (x3 : Int32) (x4 : Int32) (t_court_points : Int32) (t_court_judgments : (Nat → Int32)) (Q : Int64 → Prop) : Prop := P_Integer_bitCount x2 (fun r_7 => ∃ n_12 : Nat, L_Keeper_likely_12 x1 x2 x3 x4 t_court_points t_court_judgments Q n_12 r_7 0 0)
abbrev rm_Keeper_likely : Room := { frames := 1, cells := 0, slots := 0, locals := 24 }
def cs_Keeper_likely (g : GE) (a_t a_t_court a_t_court_judgments a_t_court_weights a_t_court_costs a_t_court_roll a_t_court_by : Nat) (t_witness : Int32) (t_court_points : Int32) (t_court_allJudged : Int32) (t_court_judgments : (Nat → Int32)) : va_W := [oc a_t 3 [.ref a_t_court, .int t_witness], oc a_t_court 0 [.ref a_t_court_weights, .ref a_t_court_costs, .ref a_t_court_roll, .int t_court_points, .ref a_t_court_by, .ref a_t_court_judgments, .int t_court_allJudged], ai g a_t_court_judgments 1024 t_court_judgments]
set_option maxHeartbeats 4000000 in
set_option maxRecDepth 100000 in
theorem c_Keeper_likely (l : Launch) (g : GE) (a_t a_t_court a_t_court_judgments a_t_court_weights a_t_court_costs a_t_court_roll a_t_court_by : Nat) (t_witness : Int32) (t_court_points : Int32) (t_court_allJudged : Int32) (t_court_judgments : (Nat → Int32)) (x1 : Int32) (x2 : Int32) (x3 : Int32) (x4 : Int32) (Q : Int64 → Prop) (h : P_Keeper_likely x1 x2 x3 x4 t_court_points t_court_judgments Q) : Ctl l g yX3_likely cX3_likely 11 (some .long) rm_Keeper_likely [.ref a_t, .int x1, .int x2, .int x3, .int x4] (cs_Keeper_likely g a_t a_t_court a_t_court_judgments a_t_court_weights a_t_court_costs a_t_court_roll a_t_court_by t_witness t_court_points t_court_allJudged t_court_judgments) (S := Unit) (fun r u => Q r) (fun _ => (cs_Keeper_likely g a_t a_t_court a_t_court_judgments a_t_court_weights a_t_court_costs a_t_court_roll a_t_court_by t_witness t_court_points t_court_allJudged t_court_judgments)) := by
  refine meetL rfl (Nat.le_of_ble_eq_true rfl) ⟨rfl, rfl⟩ ?_
  intro p e s m args below meth c A Qf ls C hret hw hl
  have hx := C.1
  have hb := C.2.1
  have hown := C.2.2.2.1
  have hts := C.2.2.2.2.1
  have hE := C.2.2.2.2.2.1
  have hl : lv_has ls 11 [(0, .ref a_t), (1, .int x1), (2, .int x2), (3, .int x3), (4, .int x4)] := hl
  have hB_Keeper_likely_94 : ∀ (N_12 : Int32 → Int64 → Int32 → Prop) (hN_12 : ∀ (x5 : Int32) (x6 : Int64) (x8 : Int32), N_12 x5 x6 x8 → Wat p l e rm_Keeper_likely s m args below meth c A Qf g 11 (cs_Keeper_likely g a_t a_t_court a_t_court_judgments a_t_court_weights a_t_court_costs a_t_court_roll a_t_court_by t_witness t_court_points t_court_allJudged t_court_judgments) [(0, .ref a_t), (1, .int x1), (2, .int x2), (3, .int x3), (4, .int x4), (5, .int x5), (6, .long x6), (8, .int x8)] 12 []) (x5 : Int32) (x6 : Int64) (x8 : Int32), B_Keeper_likely_94 x1 x2 x3 x4 t_court_points t_court_judgments Q N_12 x5 x6 x8 → Wat p l e rm_Keeper_likely s m args below meth c A Qf g 11 (cs_Keeper_likely g a_t a_t_court a_t_court_judgments a_t_court_weights a_t_court_costs a_t_court_roll a_t_court_by t_witness t_court_points t_court_allJudged t_court_judgments) [(0, .ref a_t), (1, .int x1), (2, .int x2), (3, .int x3), (4, .int x4), (5, .int x5), (6, .long x6), (8, .int x8)] 94 [] := by
    intro N_12 hN_12 x5 x6 x8 h H locs ls hw hl
    refine lv_iinc (v := x8 + 1) (lv' := [(8, .int (x8 + 1)), (0, .ref a_t), (1, .int x1), (2, .int x2), (3, .int x3), (4, .int x4), (5, .int x5), (6, .long x6)]) hx hb dX3_likely_94 hl (k := 7) rfl rfl (by decide) rfl (fun ls hl => ?_)
    refine lv_goto (tgt := 12) hx hb dX3_likely_97 (by decide) ?_
    exact hN_12 x5 x6 (x8 + 1) h _ _ _ hw (lv_sub hl [1, 2, 3, 4, 5, 6, 7, 0] rfl)
  have hB_Keeper_likely_40 : ∀ (N_12 : Int32 → Int64 → Int32 → Prop) (hN_12 : ∀ (x5 : Int32) (x6 : Int64) (x8 : Int32), N_12 x5 x6 x8 → Wat p l e rm_Keeper_likely s m args below meth c A Qf g 11 (cs_Keeper_likely g a_t a_t_court a_t_court_judgments a_t_court_weights a_t_court_costs a_t_court_roll a_t_court_by t_witness t_court_points t_court_allJudged t_court_judgments) [(0, .ref a_t), (1, .int x1), (2, .int x2), (3, .int x3), (4, .int x4), (5, .int x5), (6, .long x6), (8, .int x8)] 12 []) (x5 : Int32) (x6 : Int64) (x8 : Int32) (k0 : Int32), B_Keeper_likely_40 x1 x2 x3 x4 t_court_points t_court_judgments Q N_12 x5 x6 x8 k0 → Wat p l e rm_Keeper_likely s m args below meth c A Qf g 11 (cs_Keeper_likely g a_t a_t_court a_t_court_judgments a_t_court_weights a_t_court_costs a_t_court_roll a_t_court_by t_witness t_court_points t_court_allJudged t_court_judgments) [(0, .ref a_t), (1, .int x1), (2, .int x2), (3, .int x3), (4, .int x4), (5, .int x5), (6, .long x6), (8, .int x8)] 40 [.int k0] := by
    intro N_12 hN_12 x5 x6 x8 k0 h H locs ls hw hl
    refine lv_istore (lv' := [(9, .int k0), (0, .ref a_t), (1, .int x1), (2, .int x2), (3, .int x3), (4, .int x4), (5, .int x5), (6, .long x6), (8, .int x8)]) hx hb dX3_likely_40 hl (by decide) rfl (fun ls hl => ?_)
    refine lv_iload hx hb dX3_likely_42 (lv_at hl 0 rfl) ?_
    refine lv_if_eq (tgt := 94) hx hb dX3_likely_44 (by decide) (fun c_44 => ?_) (fun c_44 => ?_)
    · have h := h.1 c_44
      exact hB_Keeper_likely_94 N_12 hN_12 x5 x6 x8 h _ _ _ hw (lv_sub hl [1, 2, 3, 4, 5, 6, 7, 8] rfl)
    · have h := h.2 c_44
      refine lv_aload_n hx hb dX3_likely_47 rfl (lv_at hl 1 rfl) ?_
      refine G_RX3_9 C hw 0 rfl dX3_likely_48 ?_
      refine lv_iload hx hb dX3_likely_51 (lv_at hl 8 rfl) ?_
      refine callVi (As := [.int x8]) (rest := []) (W2 := fun _ => (cs_Keeper_likely g a_t a_t_court a_t_court_judgments a_t_court_weights a_t_court_costs a_t_court_roll a_t_court_by t_witness t_court_points t_court_allJudged t_court_judgments)) C hw hl (c_Court_judgmentOf l g a_t_court a_t_court_judgments a_t_court_weights a_t_court_costs a_t_court_roll a_t_court_by t_court_points t_court_allJudged t_court_judgments x8 _ h) tw_738 kk_X0_judgmentOf rfl ⟨rfl, rfl⟩ ⟨by decide, by decide⟩ (Nat.le_of_ble_eq_true rfl) 1 rfl rfl rfl [1, 2] [0] [0, 1, 2] rfl rfl rfl rfl rfl rfl (fun u => rfl) rfl dX3_likely_53 (fun r_1 u H locs h hw => ?_)
      refine lv_iload hx hb dX3_likely_56 (lv_at hl 5 rfl) ?_
      refine lv_icmp_ne (tgt := 94) hx hb dX3_likely_58 (by decide) (fun c_58 => ?_) (fun c_58 => ?_)
      · have h := h.1 c_58
        exact hB_Keeper_likely_94 N_12 hN_12 x5 x6 x8 h _ _ _ hw (lv_sub hl [1, 2, 3, 4, 5, 6, 7, 8] rfl)
      · have h := h.2 c_58
        refine lv_iload hx hb dX3_likely_61 (lv_at hl 8 rfl) ?_
        refine lv_iload_n hx hb dX3_likely_63 rfl (lv_at hl 3 rfl) ?_
        refine lv_iand hx hb dX3_likely_64 ?_
        refine callSi (As := [.int (x8 &&& x2)]) (rest := []) C hw hl (c_Integer_bitCount l g (x8 &&& x2) _ h) tw_731 kk_J6_bitCount_0f7a4 rfl ⟨rfl, rfl⟩ ⟨by decide, by decide⟩ (Nat.le_of_ble_eq_true rfl) rfl dX3_likely_65 (fun r_2 u H locs h hw => ?_)
        refine lv_istore (lv' := [(10, .int r_2), (9, .int k0), (0, .ref a_t), (1, .int x1), (2, .int x2), (3, .int x3), (4, .int x4), (5, .int x5), (6, .long x6), (8, .int x8)]) hx hb dX3_likely_68 hl (by decide) rfl (fun ls hl => ?_)
        refine lv_lload hx hb dX3_likely_70 (lv_at hl 8 rfl) ?_
        refine lv_iload_n hx hb dX3_likely_72 rfl (lv_at hl 5 rfl) ?_
        refine lv_iload hx hb dX3_likely_73 (lv_at hl 0 rfl) ?_
        refine callNl (As := [.int x3, .int r_2]) (rest := [.long x6]) C hw hl (c_LC_power l g x3 r_2 _ h) (nest_in hE tn_708 rfl) kk_X9_power rfl ⟨rfl, rfl⟩ ⟨by decide, by decide⟩ (Nat.le_of_ble_eq_true rfl) rfl dX3_likely_75 (fun r_3 u H locs h hw => ?_)
        refine lv_bipush (v := 10) hx hb dX3_likely_78 (by decide) ?_
        refine lv_iload_n hx hb dX3_likely_80 rfl (lv_at hl 5 rfl) ?_
        refine lv_isub hx hb dX3_likely_81 ?_
        refine lv_iload hx hb dX3_likely_82 (lv_at hl 7 rfl) ?_
        refine lv_iload hx hb dX3_likely_84 (lv_at hl 0 rfl) ?_
        refine lv_isub hx hb dX3_likely_86 ?_
        refine callNl (As := [.int (10 - x3), .int (x5 - r_2)]) (rest := [.long r_3, .long x6]) C hw hl (c_LC_power l g (10 - x3) (x5 - r_2) _ h) (nest_in hE tn_708 rfl) kk_X9_power rfl ⟨rfl, rfl⟩ ⟨by decide, by decide⟩ (Nat.le_of_ble_eq_true rfl) rfl dX3_likely_87 (fun r_4 u H locs h hw => ?_)
        refine lv_lmul hx hb dX3_likely_90 ?_
        refine lv_ladd hx hb dX3_likely_91 ?_
        refine lv_topl (fun x6_5 ex6_5 => ?_)
        have h := h x6_5 ex6_5
        refine lv_lstore (lv' := [(6, .long x6_5), (10, .int r_2), (9, .int k0), (0, .ref a_t), (1, .int x1), (2, .int x2), (3, .int x3), (4, .int x4), (5, .int x5), (8, .int x8)]) hx hb dX3_likely_92 hl (by decide) rfl (fun ls hl => ?_)
        exact hB_Keeper_likely_94 N_12 hN_12 x5 x6_5 x8 h _ _ _ hw (lv_sub hl [3, 4, 5, 6, 7, 8, 0, 9] rfl)
  have hL_Keeper_likely_12 : ∀ (n : Nat) (x5 : Int32) (x6 : Int64) (x8 : Int32), L_Keeper_likely_12 x1 x2 x3 x4 t_court_points t_court_judgments Q n x5 x6 x8 → Wat p l e rm_Keeper_likely s m args below meth c A Qf g 11 (cs_Keeper_likely g a_t a_t_court a_t_court_judgments a_t_court_weights a_t_court_costs a_t_court_roll a_t_court_by t_witness t_court_points t_court_allJudged t_court_judgments) [(0, .ref a_t), (1, .int x1), (2, .int x2), (3, .int x3), (4, .int x4), (5, .int x5), (6, .long x6), (8, .int x8)] 12 [] := by
    intro n
    induction n with
    | zero => intro x5 x6 x8 h; exact absurd h id
    | succ n ih =>
      intro x5 x6 x8 h H locs ls hw hl
      rw [L_Keeper_likely_12] at h
      refine lv_iload hx hb dX3_likely_12 (lv_at hl 7 rfl) ?_
      refine lv_aload_n hx hb dX3_likely_14 rfl (lv_at hl 0 rfl) ?_
      refine G_RX3_9 C hw 0 rfl dX3_likely_15 ?_
      refine callVi (As := []) (rest := [.int x8]) (W2 := fun _ => (cs_Keeper_likely g a_t a_t_court a_t_court_judgments a_t_court_weights a_t_court_costs a_t_court_roll a_t_court_by t_witness t_court_points t_court_allJudged t_court_judgments)) C hw hl (c_Court_deedCount l g a_t_court a_t_court_weights a_t_court_costs a_t_court_roll a_t_court_by a_t_court_judgments t_court_points t_court_allJudged _ h) tw_719 kk_X0_deedCount rfl ⟨rfl, rfl⟩ ⟨by decide, by decide⟩ (Nat.le_of_ble_eq_true rfl) 1 rfl rfl rfl [1] [0, 2] [0, 2, 1] rfl rfl rfl rfl rfl rfl (fun u => rfl) rfl dX3_likely_18 (fun r_6 u H locs h hw => ?_)
      refine lv_icmp_ge (tgt := 100) hx hb dX3_likely_21 (by decide) (fun c_21 => ?_) (fun c_21 => ?_)
      · have h := h.1 c_21
        refine lv_lload hx hb dX3_likely_100 (lv_at hl 6 rfl) ?_
        exact hret () h hw dX3_likely_102
      · have h := h.2 c_21
        refine lv_iload_n hx hb dX3_likely_24 rfl (lv_at hl 1 rfl) ?_
        refine lv_iload hx hb dX3_likely_25 (lv_at hl 7 rfl) ?_
        refine lv_ixor hx hb dX3_likely_27 ?_
        refine lv_iload_n hx hb dX3_likely_28 rfl (lv_at hl 2 rfl) ?_
        refine lv_iconst (v := (-1)) hx hb dX3_likely_29 (by decide) ?_
        refine lv_ixor hx hb dX3_likely_30 ?_
        refine lv_iand hx hb dX3_likely_31 ?_
        refine lv_if_ne (tgt := 39) hx hb dX3_likely_32 (by decide) (fun c_32 => ?_) (fun c_32 => ?_)
        · have h := h.1 c_32
          refine lv_iconst (v := 0) hx hb dX3_likely_39 (by decide) ?_
          exact hB_Keeper_likely_40 (L_Keeper_likely_12 x1 x2 x3 x4 t_court_points t_court_judgments Q n) ih x5 x6 x8 0 h _ _ _ hw (lv_sub hl [0, 1, 2, 3, 4, 5, 6, 7] rfl)
        · have h := h.2 c_32
          refine lv_iconst (v := 1) hx hb dX3_likely_35 (by decide) ?_
          refine lv_goto (tgt := 40) hx hb dX3_likely_36 (by decide) ?_
          exact hB_Keeper_likely_40 (L_Keeper_likely_12 x1 x2 x3 x4 t_court_points t_court_judgments Q n) ih x5 x6 x8 1 h _ _ _ hw (lv_sub hl [0, 1, 2, 3, 4, 5, 6, 7] rfl)
  refine lv_iload_n hx hb dX3_likely_0 rfl (lv_at hl 2 rfl) ?_
  refine callSi (As := [.int x2]) (rest := []) C hw hl (c_Integer_bitCount l g x2 _ h) tw_731 kk_J6_bitCount_0f7a4 rfl ⟨rfl, rfl⟩ ⟨by decide, by decide⟩ (Nat.le_of_ble_eq_true rfl) rfl dX3_likely_1 (fun r_7 u H locs h hw => ?_)
  refine lv_istore (lv' := [(5, .int r_7), (0, .ref a_t), (1, .int x1), (2, .int x2), (3, .int x3), (4, .int x4)]) hx hb dX3_likely_4 hl (by decide) rfl (fun ls hl => ?_)
  refine lv_lconst (v := 0) hx hb dX3_likely_6 (by decide) ?_
  refine lv_lstore (lv' := [(6, .long 0), (5, .int r_7), (0, .ref a_t), (1, .int x1), (2, .int x2), (3, .int x3), (4, .int x4)]) hx hb dX3_likely_7 hl (by decide) rfl (fun ls hl => ?_)
  refine lv_iconst (v := 0) hx hb dX3_likely_9 (by decide) ?_
  refine lv_istore (lv' := [(8, .int 0), (6, .long 0), (5, .int r_7), (0, .ref a_t), (1, .int x1), (2, .int x2), (3, .int x3), (4, .int x4)]) hx hb dX3_likely_10 hl (by decide) rfl (fun ls hl => ?_)
  obtain ⟨n_12, h⟩ := h
  exact hL_Keeper_likely_12 n_12 r_7 0 0 h _ _ _ hw (lv_sub hl [3, 4, 5, 6, 7, 2, 1, 0] rfl)
def B_Examiner_forgedCases_45 (t_court_roll_size : Int32) (t_court_roll_deeds : (Nat → Int32)) (t_court_roll_elders : (Nat → Int32)) (t_court_roll_firstJudgments : (Nat → Int32)) (t_court_weights_sums : (Nat → Int32)) (Q : Int32 → Prop) (N_12 : Int32 → Int32 → Prop) (x2 : Int32) (x3 : Int32) : Prop := N_12 x2 (x3 + 1)
def L_Examiner_forgedCases_12 (t_court_roll_size : Int32) (t_court_roll_deeds : (Nat → Int32)) (t_court_roll_elders : (Nat → Int32)) (t_court_roll_firstJudgments : (Nat → Int32)) (t_court_weights_sums : (Nat → Int32)) (Q : Int32 → Prop) : Nat → Int32 → Int32 → Prop
  | 0 => fun _ _ => False
  | n + 1 => fun x2 x3 => P_Roll_size t_court_roll_size (fun r_1 => (r_1 ≤ x3 → Q x2) ∧ (¬ r_1 ≤ x3 → P_Roll_allCases t_court_roll_size (fun r_2 => P_Roll_follows x3 r_2 t_court_roll_size t_court_roll_deeds t_court_roll_elders t_court_roll_firstJudgments t_court_weights_sums (fun r_3 => (¬ r_3 = 0 → B_Examiner_forgedCases_45 t_court_roll_size t_court_roll_deeds t_court_roll_elders t_court_roll_firstJudgments t_court_weights_sums Q (L_Examiner_forgedCases_12 t_court_roll_size t_court_roll_deeds t_court_roll_elders t_court_roll_firstJudgments t_court_weights_sums Q n) x2 x3) ∧ (r_3 = 0 → ∀ x2_4 : Int32, x2_4 = (x2 ||| (1 <<< (x3 &&& 31))) → B_Examiner_forgedCases_45 t_court_roll_size t_court_roll_deeds t_court_roll_elders t_court_roll_firstJudgments t_court_weights_sums Q (L_Examiner_forgedCases_12 t_court_roll_size t_court_roll_deeds t_court_roll_elders t_court_roll_firstJudgments t_court_weights_sums Q n) x2_4 x3)))))
def P_Examiner_forgedCases (t_court_roll_size : Int32) (t_court_roll_deeds : (Nat → Int32)) (t_court_roll_elders : (Nat → Int32)) (t_court_roll_firstJudgments : (Nat → Int32)) (t_court_weights_sums : (Nat → Int32)) (Q : Int32 → Prop) : Prop := ∃ n_12 : Nat, L_Examiner_forgedCases_12 t_court_roll_size t_court_roll_deeds t_court_roll_elders t_court_roll_firstJudgments t_court_weights_sums Q n_12 0 0
abbrev rm_Examiner_forgedCases : Room := { frames := 3, cells := 0, slots := 0, locals := 72 }
def cs_Examiner_forgedCases (g : GE) (a_t a_t_court a_t_court_roll a_t_court_weights a_t_court_roll_deeds a_t_court_roll_elders a_t_court_roll_firstJudgments a_t_court_weights_sums a_t_court_costs a_t_court_by a_t_court_judgments a_t_court_roll_years a_t_court_roll_pardoned a_t_court_weights_each : Nat) (t_court_points : Int32) (t_court_allJudged : Int32) (t_court_roll_size : Int32) (t_court_weights_points : Int32) (t_court_roll_deeds : (Nat → Int32)) (t_court_roll_elders : (Nat → Int32)) (t_court_roll_firstJudgments : (Nat → Int32)) (t_court_weights_sums : (Nat → Int32)) : va_W := [oc a_t 1 [.ref a_t_court], oc a_t_court 0 [.ref a_t_court_weights, .ref a_t_court_costs, .ref a_t_court_roll, .int t_court_points, .ref a_t_court_by, .ref a_t_court_judgments, .int t_court_allJudged], oc a_t_court_roll 5 [.ref a_t_court_roll_deeds, .ref a_t_court_roll_firstJudgments, .ref a_t_court_roll_years, .ref a_t_court_roll_pardoned, .ref a_t_court_roll_elders, .int t_court_roll_size], oc a_t_court_weights 6 [.ref a_t_court_weights_each, .ref a_t_court_weights_sums, .int t_court_weights_points], ai g a_t_court_roll_deeds 12 t_court_roll_deeds, ai g a_t_court_roll_elders 12 t_court_roll_elders, ai g a_t_court_roll_firstJudgments 12 t_court_roll_firstJudgments, ai g a_t_court_weights_sums 1024 t_court_weights_sums]
set_option maxHeartbeats 4000000 in
set_option maxRecDepth 100000 in
theorem c_Examiner_forgedCases (l : Launch) (g : GE) (a_t a_t_court a_t_court_roll a_t_court_weights a_t_court_roll_deeds a_t_court_roll_elders a_t_court_roll_firstJudgments a_t_court_weights_sums a_t_court_costs a_t_court_by a_t_court_judgments a_t_court_roll_years a_t_court_roll_pardoned a_t_court_weights_each : Nat) (t_court_points : Int32) (t_court_allJudged : Int32) (t_court_roll_size : Int32) (t_court_weights_points : Int32) (t_court_roll_deeds : (Nat → Int32)) (t_court_roll_elders : (Nat → Int32)) (t_court_roll_firstJudgments : (Nat → Int32)) (t_court_weights_sums : (Nat → Int32)) (Q : Int32 → Prop) (h : P_Examiner_forgedCases t_court_roll_size t_court_roll_deeds t_court_roll_elders t_court_roll_firstJudgments t_court_weights_sums Q) : Cti l g yX1_forgedCases cX1_forgedCases 4 (some .int) rm_Examiner_forgedCases [.ref a_t] (cs_Examiner_forgedCases g a_t a_t_court a_t_court_roll a_t_court_weights a_t_court_roll_deeds a_t_court_roll_elders a_t_court_roll_firstJudgments a_t_court_weights_sums a_t_court_costs a_t_court_by a_t_court_judgments a_t_court_roll_years a_t_court_roll_pardoned a_t_court_weights_each t_court_points t_court_allJudged t_court_roll_size t_court_weights_points t_court_roll_deeds t_court_roll_elders t_court_roll_firstJudgments t_court_weights_sums) (S := Unit) (fun r u => Q r) (fun _ => (cs_Examiner_forgedCases g a_t a_t_court a_t_court_roll a_t_court_weights a_t_court_roll_deeds a_t_court_roll_elders a_t_court_roll_firstJudgments a_t_court_weights_sums a_t_court_costs a_t_court_by a_t_court_judgments a_t_court_roll_years a_t_court_roll_pardoned a_t_court_weights_each t_court_points t_court_allJudged t_court_roll_size t_court_weights_points t_court_roll_deeds t_court_roll_elders t_court_roll_firstJudgments t_court_weights_sums)) := by
  refine meetI rfl (Nat.le_of_ble_eq_true rfl) ⟨rfl, rfl⟩ ?_
  intro p e s m args below meth c A Qf ls C hret hw hl
  have hx := C.1
  have hb := C.2.1
  have hown := C.2.2.2.1
  have hts := C.2.2.2.2.1
  have hE := C.2.2.2.2.2.1
  have hl : lv_has ls 4 [(0, .ref a_t)] := hl
  have hB_Examiner_forgedCases_45 : ∀ (N_12 : Int32 → Int32 → Prop) (hN_12 : ∀ (x2 : Int32) (x3 : Int32), N_12 x2 x3 → Wat p l e rm_Examiner_forgedCases s m args below meth c A Qf g 4 (cs_Examiner_forgedCases g a_t a_t_court a_t_court_roll a_t_court_weights a_t_court_roll_deeds a_t_court_roll_elders a_t_court_roll_firstJudgments a_t_court_weights_sums a_t_court_costs a_t_court_by a_t_court_judgments a_t_court_roll_years a_t_court_roll_pardoned a_t_court_weights_each t_court_points t_court_allJudged t_court_roll_size t_court_weights_points t_court_roll_deeds t_court_roll_elders t_court_roll_firstJudgments t_court_weights_sums) [(0, .ref a_t), (1, .ref a_t_court_roll), (2, .int x2), (3, .int x3)] 12 []) (x2 : Int32) (x3 : Int32), B_Examiner_forgedCases_45 t_court_roll_size t_court_roll_deeds t_court_roll_elders t_court_roll_firstJudgments t_court_weights_sums Q N_12 x2 x3 → Wat p l e rm_Examiner_forgedCases s m args below meth c A Qf g 4 (cs_Examiner_forgedCases g a_t a_t_court a_t_court_roll a_t_court_weights a_t_court_roll_deeds a_t_court_roll_elders a_t_court_roll_firstJudgments a_t_court_weights_sums a_t_court_costs a_t_court_by a_t_court_judgments a_t_court_roll_years a_t_court_roll_pardoned a_t_court_weights_each t_court_points t_court_allJudged t_court_roll_size t_court_weights_points t_court_roll_deeds t_court_roll_elders t_court_roll_firstJudgments t_court_weights_sums) [(0, .ref a_t), (1, .ref a_t_court_roll), (2, .int x2), (3, .int x3)] 45 [] := by
    intro N_12 hN_12 x2 x3 h H locs ls hw hl
    refine lv_iinc (v := x3 + 1) (lv' := [(3, .int (x3 + 1)), (0, .ref a_t), (1, .ref a_t_court_roll), (2, .int x2)]) hx hb dX1_forgedCases_45 hl (k := 3) rfl rfl (by decide) rfl (fun ls hl => ?_)
    refine lv_goto (tgt := 12) hx hb dX1_forgedCases_48 (by decide) ?_
    exact hN_12 x2 (x3 + 1) h _ _ _ hw (lv_sub hl [1, 2, 3, 0] rfl)
  have hL_Examiner_forgedCases_12 : ∀ (n : Nat) (x2 : Int32) (x3 : Int32), L_Examiner_forgedCases_12 t_court_roll_size t_court_roll_deeds t_court_roll_elders t_court_roll_firstJudgments t_court_weights_sums Q n x2 x3 → Wat p l e rm_Examiner_forgedCases s m args below meth c A Qf g 4 (cs_Examiner_forgedCases g a_t a_t_court a_t_court_roll a_t_court_weights a_t_court_roll_deeds a_t_court_roll_elders a_t_court_roll_firstJudgments a_t_court_weights_sums a_t_court_costs a_t_court_by a_t_court_judgments a_t_court_roll_years a_t_court_roll_pardoned a_t_court_weights_each t_court_points t_court_allJudged t_court_roll_size t_court_weights_points t_court_roll_deeds t_court_roll_elders t_court_roll_firstJudgments t_court_weights_sums) [(0, .ref a_t), (1, .ref a_t_court_roll), (2, .int x2), (3, .int x3)] 12 [] := by
    intro n
    induction n with
    | zero => intro x2 x3 h; exact absurd h id
    | succ n ih =>
      intro x2 x3 h H locs ls hw hl
      rw [L_Examiner_forgedCases_12] at h
      refine lv_iload_n hx hb dX1_forgedCases_12 rfl (lv_at hl 3 rfl) ?_
      refine lv_aload_n hx hb dX1_forgedCases_13 rfl (lv_at hl 1 rfl) ?_
      refine callVi (As := []) (rest := [.int x3]) (W2 := fun _ => (cs_Examiner_forgedCases g a_t a_t_court a_t_court_roll a_t_court_weights a_t_court_roll_deeds a_t_court_roll_elders a_t_court_roll_firstJudgments a_t_court_weights_sums a_t_court_costs a_t_court_by a_t_court_judgments a_t_court_roll_years a_t_court_roll_pardoned a_t_court_weights_each t_court_points t_court_allJudged t_court_roll_size t_court_weights_points t_court_roll_deeds t_court_roll_elders t_court_roll_firstJudgments t_court_weights_sums)) C hw hl (c_Roll_size l g a_t_court_roll a_t_court_roll_deeds a_t_court_roll_firstJudgments a_t_court_roll_years a_t_court_roll_pardoned a_t_court_roll_elders t_court_roll_size _ h) tw_779 kk_X5_size rfl ⟨rfl, rfl⟩ ⟨by decide, by decide⟩ (Nat.le_of_ble_eq_true rfl) 2 rfl rfl rfl [2] [0, 1, 3, 4, 5, 6, 7] [0, 1, 7, 2, 3, 4, 5, 6] rfl rfl rfl rfl rfl rfl (fun u => rfl) rfl dX1_forgedCases_14 (fun r_1 u H locs h hw => ?_)
      refine lv_icmp_ge (tgt := 51) hx hb dX1_forgedCases_17 (by decide) (fun c_17 => ?_) (fun c_17 => ?_)
      · have h := h.1 c_17
        refine lv_iload_n hx hb dX1_forgedCases_51 rfl (lv_at hl 2 rfl) ?_
        exact hret () h hw dX1_forgedCases_52 rfl
      · have h := h.2 c_17
        refine lv_aload_n hx hb dX1_forgedCases_20 rfl (lv_at hl 1 rfl) ?_
        refine lv_iload_n hx hb dX1_forgedCases_21 rfl (lv_at hl 3 rfl) ?_
        refine lv_aload_n hx hb dX1_forgedCases_22 rfl (lv_at hl 1 rfl) ?_
        refine callVi (As := []) (rest := [.int x3, .ref a_t_court_roll]) (W2 := fun _ => (cs_Examiner_forgedCases g a_t a_t_court a_t_court_roll a_t_court_weights a_t_court_roll_deeds a_t_court_roll_elders a_t_court_roll_firstJudgments a_t_court_weights_sums a_t_court_costs a_t_court_by a_t_court_judgments a_t_court_roll_years a_t_court_roll_pardoned a_t_court_weights_each t_court_points t_court_allJudged t_court_roll_size t_court_weights_points t_court_roll_deeds t_court_roll_elders t_court_roll_firstJudgments t_court_weights_sums)) C hw hl (c_Roll_allCases l g a_t_court_roll a_t_court_roll_deeds a_t_court_roll_firstJudgments a_t_court_roll_years a_t_court_roll_pardoned a_t_court_roll_elders t_court_roll_size _ h) tw_780 kk_X5_allCases rfl ⟨rfl, rfl⟩ ⟨by decide, by decide⟩ (Nat.le_of_ble_eq_true rfl) 2 rfl rfl rfl [2] [0, 1, 3, 4, 5, 6, 7] [0, 1, 7, 2, 3, 4, 5, 6] rfl rfl rfl rfl rfl rfl (fun u => rfl) rfl dX1_forgedCases_23 (fun r_2 u H locs h hw => ?_)
        refine lv_aload_n hx hb dX1_forgedCases_26 rfl (lv_at hl 0 rfl) ?_
        refine G_RX1_9 C hw 0 rfl dX1_forgedCases_27 ?_
        refine G_RX1_30 C hw 1 rfl dX1_forgedCases_30 ?_
        refine callVi (As := [.int x3, .int r_2, .ref a_t_court_weights]) (rest := []) (W2 := fun _ => (cs_Examiner_forgedCases g a_t a_t_court a_t_court_roll a_t_court_weights a_t_court_roll_deeds a_t_court_roll_elders a_t_court_roll_firstJudgments a_t_court_weights_sums a_t_court_costs a_t_court_by a_t_court_judgments a_t_court_roll_years a_t_court_roll_pardoned a_t_court_weights_each t_court_points t_court_allJudged t_court_roll_size t_court_weights_points t_court_roll_deeds t_court_roll_elders t_court_roll_firstJudgments t_court_weights_sums)) C hw hl (c_Roll_follows l g a_t_court_roll a_t_court_roll_deeds a_t_court_roll_elders a_t_court_roll_firstJudgments a_t_court_weights a_t_court_weights_sums a_t_court_roll_years a_t_court_roll_pardoned a_t_court_weights_each t_court_roll_size t_court_roll_deeds t_court_roll_elders t_court_roll_firstJudgments t_court_weights_points t_court_weights_sums x3 r_2 _ h) tw_781 kk_X5_follows rfl ⟨rfl, rfl⟩ ⟨by decide, by decide⟩ (Nat.le_of_ble_eq_true rfl) 2 rfl rfl rfl [2, 4, 5, 6, 3, 7] [0, 1] [0, 1, 2, 6, 3, 4, 5, 7] rfl rfl rfl rfl rfl rfl (fun u => rfl) rfl dX1_forgedCases_33 (fun r_3 u H locs h hw => ?_)
        refine lv_if_ne (tgt := 45) hx hb dX1_forgedCases_36 (by decide) (fun c_36 => ?_) (fun c_36 => ?_)
        · have h := h.1 c_36
          exact hB_Examiner_forgedCases_45 (L_Examiner_forgedCases_12 t_court_roll_size t_court_roll_deeds t_court_roll_elders t_court_roll_firstJudgments t_court_weights_sums Q n) ih x2 x3 h _ _ _ hw (lv_sub hl [0, 1, 2, 3] rfl)
        · have h := h.2 c_36
          refine lv_iload_n hx hb dX1_forgedCases_39 rfl (lv_at hl 2 rfl) ?_
          refine lv_iconst (v := 1) hx hb dX1_forgedCases_40 (by decide) ?_
          refine lv_iload_n hx hb dX1_forgedCases_41 rfl (lv_at hl 3 rfl) ?_
          refine lv_ishl hx hb dX1_forgedCases_42 ?_
          refine lv_ior hx hb dX1_forgedCases_43 ?_
          refine lv_topi (fun x2_4 ex2_4 => ?_)
          have h := h x2_4 ex2_4
          refine lv_istore_n (lv' := [(2, .int x2_4), (0, .ref a_t), (1, .ref a_t_court_roll), (3, .int x3)]) hx hb dX1_forgedCases_44 rfl hl (by decide) rfl (fun ls hl => ?_)
          exact hB_Examiner_forgedCases_45 (L_Examiner_forgedCases_12 t_court_roll_size t_court_roll_deeds t_court_roll_elders t_court_roll_firstJudgments t_court_weights_sums Q n) ih x2_4 x3 h _ _ _ hw (lv_sub hl [1, 2, 0, 3] rfl)
  refine lv_aload_n hx hb dX1_forgedCases_0 rfl (lv_at hl 0 rfl) ?_
  refine G_RX1_9 C hw 0 rfl dX1_forgedCases_1 ?_
  refine G_RX1_15 C hw 1 rfl dX1_forgedCases_4 ?_
  refine lv_astore_n (lv' := [(1, .ref a_t_court_roll), (0, .ref a_t)]) hx hb dX1_forgedCases_7 rfl hl (by decide) rfl (fun ls hl => ?_)
  refine lv_iconst (v := 0) hx hb dX1_forgedCases_8 (by decide) ?_
  refine lv_istore_n (lv' := [(2, .int 0), (1, .ref a_t_court_roll), (0, .ref a_t)]) hx hb dX1_forgedCases_9 rfl hl (by decide) rfl (fun ls hl => ?_)
  refine lv_iconst (v := 0) hx hb dX1_forgedCases_10 (by decide) ?_
  refine lv_istore_n (lv' := [(3, .int 0), (2, .int 0), (1, .ref a_t_court_roll), (0, .ref a_t)]) hx hb dX1_forgedCases_11 rfl hl (by decide) rfl (fun ls hl => ?_)
  obtain ⟨n_12, h⟩ := h
  exact hL_Examiner_forgedCases_12 n_12 0 0 h _ _ _ hw (lv_sub hl [3, 2, 1, 0] rfl)
def B_Examiner_fewestLeftOut_69 (t_court_roll_size : Int32) (t_court_roll_deeds : (Nat → Int32)) (t_court_roll_elders : (Nat → Int32)) (t_court_roll_firstJudgments : (Nat → Int32)) (t_court_weights_sums : (Nat → Int32)) (Q : Int32 → Prop) (N_13 : Int32 → Int32 → Prop) (N_29 : Int32 → Int32 → Int32 → Prop) (x1 : Int32) (x2 : Int32) (x3 : Int32) : Prop := N_29 x1 x2 (x3 + 1)
def L_Examiner_fewestLeftOut_29 (t_court_roll_size : Int32) (t_court_roll_deeds : (Nat → Int32)) (t_court_roll_elders : (Nat → Int32)) (t_court_roll_firstJudgments : (Nat → Int32)) (t_court_weights_sums : (Nat → Int32)) (Q : Int32 → Prop) (N_13 : Int32 → Int32 → Prop) : Nat → Int32 → Int32 → Int32 → Prop
  | 0 => fun _ _ _ => False
  | n + 1 => fun x1 x2 x3 => (x1 ≤ x3 → N_13 x1 (x2 + 1)) ∧ (¬ x1 ≤ x3 → P_Integer_bitCount x3 (fun r_1 => (¬ r_1 = x2 → B_Examiner_fewestLeftOut_69 t_court_roll_size t_court_roll_deeds t_court_roll_elders t_court_roll_firstJudgments t_court_weights_sums Q N_13 (L_Examiner_fewestLeftOut_29 t_court_roll_size t_court_roll_deeds t_court_roll_elders t_court_roll_firstJudgments t_court_weights_sums Q N_13 n) x1 x2 x3) ∧ (r_1 = x2 → P_Roll_allFollow (x1 &&& (x3 ^^^ (-1))) t_court_roll_size t_court_roll_deeds t_court_roll_elders t_court_roll_firstJudgments t_court_weights_sums (fun r_2 => (r_2 = 0 → B_Examiner_fewestLeftOut_69 t_court_roll_size t_court_roll_deeds t_court_roll_elders t_court_roll_firstJudgments t_court_weights_sums Q N_13 (L_Examiner_fewestLeftOut_29 t_court_roll_size t_court_roll_deeds t_court_roll_elders t_court_roll_firstJudgments t_court_weights_sums Q N_13 n) x1 x2 x3) ∧ (¬ r_2 = 0 → Q x3)))))
def L_Examiner_fewestLeftOut_13 (t_court_roll_size : Int32) (t_court_roll_deeds : (Nat → Int32)) (t_court_roll_elders : (Nat → Int32)) (t_court_roll_firstJudgments : (Nat → Int32)) (t_court_weights_sums : (Nat → Int32)) (Q : Int32 → Prop) : Nat → Int32 → Int32 → Prop
  | 0 => fun _ _ => False
  | n + 1 => fun x1 x2 => P_Roll_size t_court_roll_size (fun r_3 => (r_3 ≤ x2 → Q x1) ∧ (¬ r_3 ≤ x2 → ∃ n_29 : Nat, L_Examiner_fewestLeftOut_29 t_court_roll_size t_court_roll_deeds t_court_roll_elders t_court_roll_firstJudgments t_court_weights_sums Q (L_Examiner_fewestLeftOut_13 t_court_roll_size t_court_roll_deeds t_court_roll_elders t_court_roll_firstJudgments t_court_weights_sums Q n) n_29 x1 x2 0))
def P_Examiner_fewestLeftOut (t_court_roll_size : Int32) (t_court_roll_deeds : (Nat → Int32)) (t_court_roll_elders : (Nat → Int32)) (t_court_roll_firstJudgments : (Nat → Int32)) (t_court_weights_sums : (Nat → Int32)) (Q : Int32 → Prop) : Prop := P_Roll_allCases t_court_roll_size (fun r_4 => ∃ n_13 : Nat, L_Examiner_fewestLeftOut_13 t_court_roll_size t_court_roll_deeds t_court_roll_elders t_court_roll_firstJudgments t_court_weights_sums Q n_13 r_4 0)
abbrev rm_Examiner_fewestLeftOut : Room := { frames := 4, cells := 0, slots := 0, locals := 95 }
def cs_Examiner_fewestLeftOut (g : GE) (a_t a_t_court a_t_court_roll a_t_court_weights a_t_court_roll_deeds a_t_court_roll_elders a_t_court_roll_firstJudgments a_t_court_weights_sums a_t_court_costs a_t_court_by a_t_court_judgments a_t_court_roll_years a_t_court_roll_pardoned a_t_court_weights_each : Nat) (t_court_points : Int32) (t_court_allJudged : Int32) (t_court_roll_size : Int32) (t_court_weights_points : Int32) (t_court_roll_deeds : (Nat → Int32)) (t_court_roll_elders : (Nat → Int32)) (t_court_roll_firstJudgments : (Nat → Int32)) (t_court_weights_sums : (Nat → Int32)) : va_W := [oc a_t 1 [.ref a_t_court], oc a_t_court 0 [.ref a_t_court_weights, .ref a_t_court_costs, .ref a_t_court_roll, .int t_court_points, .ref a_t_court_by, .ref a_t_court_judgments, .int t_court_allJudged], oc a_t_court_roll 5 [.ref a_t_court_roll_deeds, .ref a_t_court_roll_firstJudgments, .ref a_t_court_roll_years, .ref a_t_court_roll_pardoned, .ref a_t_court_roll_elders, .int t_court_roll_size], oc a_t_court_weights 6 [.ref a_t_court_weights_each, .ref a_t_court_weights_sums, .int t_court_weights_points], ai g a_t_court_roll_deeds 12 t_court_roll_deeds, ai g a_t_court_roll_elders 12 t_court_roll_elders, ai g a_t_court_roll_firstJudgments 12 t_court_roll_firstJudgments, ai g a_t_court_weights_sums 1024 t_court_weights_sums]
set_option maxHeartbeats 4000000 in
set_option maxRecDepth 100000 in
theorem c_Examiner_fewestLeftOut (l : Launch) (g : GE) (a_t a_t_court a_t_court_roll a_t_court_weights a_t_court_roll_deeds a_t_court_roll_elders a_t_court_roll_firstJudgments a_t_court_weights_sums a_t_court_costs a_t_court_by a_t_court_judgments a_t_court_roll_years a_t_court_roll_pardoned a_t_court_weights_each : Nat) (t_court_points : Int32) (t_court_allJudged : Int32) (t_court_roll_size : Int32) (t_court_weights_points : Int32) (t_court_roll_deeds : (Nat → Int32)) (t_court_roll_elders : (Nat → Int32)) (t_court_roll_firstJudgments : (Nat → Int32)) (t_court_weights_sums : (Nat → Int32)) (Q : Int32 → Prop) (h : P_Examiner_fewestLeftOut t_court_roll_size t_court_roll_deeds t_court_roll_elders t_court_roll_firstJudgments t_court_weights_sums Q) : Cti l g yX1_fewestLeftOut cX1_fewestLeftOut 4 (some .int) rm_Examiner_fewestLeftOut [.ref a_t] (cs_Examiner_fewestLeftOut g a_t a_t_court a_t_court_roll a_t_court_weights a_t_court_roll_deeds a_t_court_roll_elders a_t_court_roll_firstJudgments a_t_court_weights_sums a_t_court_costs a_t_court_by a_t_court_judgments a_t_court_roll_years a_t_court_roll_pardoned a_t_court_weights_each t_court_points t_court_allJudged t_court_roll_size t_court_weights_points t_court_roll_deeds t_court_roll_elders t_court_roll_firstJudgments t_court_weights_sums) (S := Unit) (fun r u => Q r) (fun _ => (cs_Examiner_fewestLeftOut g a_t a_t_court a_t_court_roll a_t_court_weights a_t_court_roll_deeds a_t_court_roll_elders a_t_court_roll_firstJudgments a_t_court_weights_sums a_t_court_costs a_t_court_by a_t_court_judgments a_t_court_roll_years a_t_court_roll_pardoned a_t_court_weights_each t_court_points t_court_allJudged t_court_roll_size t_court_weights_points t_court_roll_deeds t_court_roll_elders t_court_roll_firstJudgments t_court_weights_sums)) := by
  refine meetI rfl (Nat.le_of_ble_eq_true rfl) ⟨rfl, rfl⟩ ?_
  intro p e s m args below meth c A Qf ls C hret hw hl
  have hx := C.1
  have hb := C.2.1
  have hown := C.2.2.2.1
  have hts := C.2.2.2.2.1
  have hE := C.2.2.2.2.2.1
  have hl : lv_has ls 4 [(0, .ref a_t)] := hl
  have hB_Examiner_fewestLeftOut_69 : ∀ (N_13 : Int32 → Int32 → Prop) (hN_13 : ∀ (x1 : Int32) (x2 : Int32), N_13 x1 x2 → Wat p l e rm_Examiner_fewestLeftOut s m args below meth c A Qf g 4 (cs_Examiner_fewestLeftOut g a_t a_t_court a_t_court_roll a_t_court_weights a_t_court_roll_deeds a_t_court_roll_elders a_t_court_roll_firstJudgments a_t_court_weights_sums a_t_court_costs a_t_court_by a_t_court_judgments a_t_court_roll_years a_t_court_roll_pardoned a_t_court_weights_each t_court_points t_court_allJudged t_court_roll_size t_court_weights_points t_court_roll_deeds t_court_roll_elders t_court_roll_firstJudgments t_court_weights_sums) [(0, .ref a_t), (1, .int x1), (2, .int x2)] 13 []) (N_29 : Int32 → Int32 → Int32 → Prop) (hN_29 : ∀ (x1 : Int32) (x2 : Int32) (x3 : Int32), N_29 x1 x2 x3 → Wat p l e rm_Examiner_fewestLeftOut s m args below meth c A Qf g 4 (cs_Examiner_fewestLeftOut g a_t a_t_court a_t_court_roll a_t_court_weights a_t_court_roll_deeds a_t_court_roll_elders a_t_court_roll_firstJudgments a_t_court_weights_sums a_t_court_costs a_t_court_by a_t_court_judgments a_t_court_roll_years a_t_court_roll_pardoned a_t_court_weights_each t_court_points t_court_allJudged t_court_roll_size t_court_weights_points t_court_roll_deeds t_court_roll_elders t_court_roll_firstJudgments t_court_weights_sums) [(0, .ref a_t), (1, .int x1), (2, .int x2), (3, .int x3)] 29 []) (x1 : Int32) (x2 : Int32) (x3 : Int32), B_Examiner_fewestLeftOut_69 t_court_roll_size t_court_roll_deeds t_court_roll_elders t_court_roll_firstJudgments t_court_weights_sums Q N_13 N_29 x1 x2 x3 → Wat p l e rm_Examiner_fewestLeftOut s m args below meth c A Qf g 4 (cs_Examiner_fewestLeftOut g a_t a_t_court a_t_court_roll a_t_court_weights a_t_court_roll_deeds a_t_court_roll_elders a_t_court_roll_firstJudgments a_t_court_weights_sums a_t_court_costs a_t_court_by a_t_court_judgments a_t_court_roll_years a_t_court_roll_pardoned a_t_court_weights_each t_court_points t_court_allJudged t_court_roll_size t_court_weights_points t_court_roll_deeds t_court_roll_elders t_court_roll_firstJudgments t_court_weights_sums) [(0, .ref a_t), (1, .int x1), (2, .int x2), (3, .int x3)] 69 [] := by
    intro N_13 hN_13 N_29 hN_29 x1 x2 x3 h H locs ls hw hl
    refine lv_iinc (v := x3 + 1) (lv' := [(3, .int (x3 + 1)), (0, .ref a_t), (1, .int x1), (2, .int x2)]) hx hb dX1_fewestLeftOut_69 hl (k := 3) rfl rfl (by decide) rfl (fun ls hl => ?_)
    refine lv_goto (tgt := 29) hx hb dX1_fewestLeftOut_72 (by decide) ?_
    exact hN_29 x1 x2 (x3 + 1) h _ _ _ hw (lv_sub hl [1, 2, 3, 0] rfl)
  have hL_Examiner_fewestLeftOut_29 : ∀ (N_13 : Int32 → Int32 → Prop) (hN_13 : ∀ (x1 : Int32) (x2 : Int32), N_13 x1 x2 → Wat p l e rm_Examiner_fewestLeftOut s m args below meth c A Qf g 4 (cs_Examiner_fewestLeftOut g a_t a_t_court a_t_court_roll a_t_court_weights a_t_court_roll_deeds a_t_court_roll_elders a_t_court_roll_firstJudgments a_t_court_weights_sums a_t_court_costs a_t_court_by a_t_court_judgments a_t_court_roll_years a_t_court_roll_pardoned a_t_court_weights_each t_court_points t_court_allJudged t_court_roll_size t_court_weights_points t_court_roll_deeds t_court_roll_elders t_court_roll_firstJudgments t_court_weights_sums) [(0, .ref a_t), (1, .int x1), (2, .int x2)] 13 []) (n : Nat) (x1 : Int32) (x2 : Int32) (x3 : Int32), L_Examiner_fewestLeftOut_29 t_court_roll_size t_court_roll_deeds t_court_roll_elders t_court_roll_firstJudgments t_court_weights_sums Q N_13 n x1 x2 x3 → Wat p l e rm_Examiner_fewestLeftOut s m args below meth c A Qf g 4 (cs_Examiner_fewestLeftOut g a_t a_t_court a_t_court_roll a_t_court_weights a_t_court_roll_deeds a_t_court_roll_elders a_t_court_roll_firstJudgments a_t_court_weights_sums a_t_court_costs a_t_court_by a_t_court_judgments a_t_court_roll_years a_t_court_roll_pardoned a_t_court_weights_each t_court_points t_court_allJudged t_court_roll_size t_court_weights_points t_court_roll_deeds t_court_roll_elders t_court_roll_firstJudgments t_court_weights_sums) [(0, .ref a_t), (1, .int x1), (2, .int x2), (3, .int x3)] 29 [] := by
    intro N_13 hN_13 n
    induction n with
    | zero => intro x1 x2 x3 h; exact absurd h id
    | succ n ih =>
      intro x1 x2 x3 h H locs ls hw hl
      rw [L_Examiner_fewestLeftOut_29] at h
      refine lv_iload_n hx hb dX1_fewestLeftOut_29 rfl (lv_at hl 3 rfl) ?_
      refine lv_iload_n hx hb dX1_fewestLeftOut_30 rfl (lv_at hl 1 rfl) ?_
      refine lv_icmp_ge (tgt := 75) hx hb dX1_fewestLeftOut_31 (by decide) (fun c_31 => ?_) (fun c_31 => ?_)
      · have h := h.1 c_31
        refine lv_iinc (v := x2 + 1) (lv' := [(2, .int (x2 + 1)), (0, .ref a_t), (1, .int x1), (3, .int x3)]) hx hb dX1_fewestLeftOut_75 hl (k := 2) rfl rfl (by decide) rfl (fun ls hl => ?_)
        refine lv_goto (tgt := 13) hx hb dX1_fewestLeftOut_78 (by decide) ?_
        exact hN_13 x1 (x2 + 1) h _ _ _ hw (lv_sub hl [1, 2, 0] rfl)
      · have h := h.2 c_31
        refine lv_iload_n hx hb dX1_fewestLeftOut_34 rfl (lv_at hl 3 rfl) ?_
        refine callSi (As := [.int x3]) (rest := []) C hw hl (c_Integer_bitCount l g x3 _ h) tw_800 kk_J6_bitCount_0f7a4 rfl ⟨rfl, rfl⟩ ⟨by decide, by decide⟩ (Nat.le_of_ble_eq_true rfl) rfl dX1_fewestLeftOut_35 (fun r_1 u H locs h hw => ?_)
        refine lv_iload_n hx hb dX1_fewestLeftOut_38 rfl (lv_at hl 2 rfl) ?_
        refine lv_icmp_ne (tgt := 69) hx hb dX1_fewestLeftOut_39 (by decide) (fun c_39 => ?_) (fun c_39 => ?_)
        · have h := h.1 c_39
          exact hB_Examiner_fewestLeftOut_69 N_13 hN_13 (L_Examiner_fewestLeftOut_29 t_court_roll_size t_court_roll_deeds t_court_roll_elders t_court_roll_firstJudgments t_court_weights_sums Q N_13 n) ih x1 x2 x3 h _ _ _ hw (lv_sub hl [0, 1, 2, 3] rfl)
        · have h := h.2 c_39
          refine lv_aload_n hx hb dX1_fewestLeftOut_42 rfl (lv_at hl 0 rfl) ?_
          refine G_RX1_9 C hw 0 rfl dX1_fewestLeftOut_43 ?_
          refine G_RX1_15 C hw 1 rfl dX1_fewestLeftOut_46 ?_
          refine lv_iload_n hx hb dX1_fewestLeftOut_49 rfl (lv_at hl 1 rfl) ?_
          refine lv_iload_n hx hb dX1_fewestLeftOut_50 rfl (lv_at hl 3 rfl) ?_
          refine lv_iconst (v := (-1)) hx hb dX1_fewestLeftOut_51 (by decide) ?_
          refine lv_ixor hx hb dX1_fewestLeftOut_52 ?_
          refine lv_iand hx hb dX1_fewestLeftOut_53 ?_
          refine lv_aload_n hx hb dX1_fewestLeftOut_54 rfl (lv_at hl 0 rfl) ?_
          refine G_RX1_9 C hw 0 rfl dX1_fewestLeftOut_55 ?_
          refine G_RX1_30 C hw 1 rfl dX1_fewestLeftOut_58 ?_
          refine callVi (As := [.int (x1 &&& (x3 ^^^ (-1))), .ref a_t_court_weights]) (rest := []) (W2 := fun _ => (cs_Examiner_fewestLeftOut g a_t a_t_court a_t_court_roll a_t_court_weights a_t_court_roll_deeds a_t_court_roll_elders a_t_court_roll_firstJudgments a_t_court_weights_sums a_t_court_costs a_t_court_by a_t_court_judgments a_t_court_roll_years a_t_court_roll_pardoned a_t_court_weights_each t_court_points t_court_allJudged t_court_roll_size t_court_weights_points t_court_roll_deeds t_court_roll_elders t_court_roll_firstJudgments t_court_weights_sums)) C hw hl (c_Roll_allFollow l g a_t_court_roll a_t_court_roll_deeds a_t_court_roll_elders a_t_court_roll_firstJudgments a_t_court_weights a_t_court_weights_sums a_t_court_roll_years a_t_court_roll_pardoned a_t_court_weights_each t_court_roll_size t_court_roll_deeds t_court_roll_elders t_court_roll_firstJudgments t_court_weights_points t_court_weights_sums (x1 &&& (x3 ^^^ (-1))) _ h) tw_801 kk_X5_allFollow rfl ⟨rfl, rfl⟩ ⟨by decide, by decide⟩ (Nat.le_of_ble_eq_true rfl) 2 rfl rfl rfl [2, 4, 5, 6, 3, 7] [0, 1] [0, 1, 2, 6, 3, 4, 5, 7] rfl rfl rfl rfl rfl rfl (fun u => rfl) rfl dX1_fewestLeftOut_61 (fun r_2 u H locs h hw => ?_)
          refine lv_if_eq (tgt := 69) hx hb dX1_fewestLeftOut_64 (by decide) (fun c_64 => ?_) (fun c_64 => ?_)
          · have h := h.1 c_64
            exact hB_Examiner_fewestLeftOut_69 N_13 hN_13 (L_Examiner_fewestLeftOut_29 t_court_roll_size t_court_roll_deeds t_court_roll_elders t_court_roll_firstJudgments t_court_weights_sums Q N_13 n) ih x1 x2 x3 h _ _ _ hw (lv_sub hl [0, 1, 2, 3] rfl)
          · have h := h.2 c_64
            refine lv_iload_n hx hb dX1_fewestLeftOut_67 rfl (lv_at hl 3 rfl) ?_
            exact hret () h hw dX1_fewestLeftOut_68 rfl
  have hL_Examiner_fewestLeftOut_13 : ∀ (n : Nat) (x1 : Int32) (x2 : Int32), L_Examiner_fewestLeftOut_13 t_court_roll_size t_court_roll_deeds t_court_roll_elders t_court_roll_firstJudgments t_court_weights_sums Q n x1 x2 → Wat p l e rm_Examiner_fewestLeftOut s m args below meth c A Qf g 4 (cs_Examiner_fewestLeftOut g a_t a_t_court a_t_court_roll a_t_court_weights a_t_court_roll_deeds a_t_court_roll_elders a_t_court_roll_firstJudgments a_t_court_weights_sums a_t_court_costs a_t_court_by a_t_court_judgments a_t_court_roll_years a_t_court_roll_pardoned a_t_court_weights_each t_court_points t_court_allJudged t_court_roll_size t_court_weights_points t_court_roll_deeds t_court_roll_elders t_court_roll_firstJudgments t_court_weights_sums) [(0, .ref a_t), (1, .int x1), (2, .int x2)] 13 [] := by
    intro n
    induction n with
    | zero => intro x1 x2 h; exact absurd h id
    | succ n ih =>
      intro x1 x2 h H locs ls hw hl
      rw [L_Examiner_fewestLeftOut_13] at h
      refine lv_iload_n hx hb dX1_fewestLeftOut_13 rfl (lv_at hl 2 rfl) ?_
      refine lv_aload_n hx hb dX1_fewestLeftOut_14 rfl (lv_at hl 0 rfl) ?_
      refine G_RX1_9 C hw 0 rfl dX1_fewestLeftOut_15 ?_
      refine G_RX1_15 C hw 1 rfl dX1_fewestLeftOut_18 ?_
      refine callVi (As := []) (rest := [.int x2]) (W2 := fun _ => (cs_Examiner_fewestLeftOut g a_t a_t_court a_t_court_roll a_t_court_weights a_t_court_roll_deeds a_t_court_roll_elders a_t_court_roll_firstJudgments a_t_court_weights_sums a_t_court_costs a_t_court_by a_t_court_judgments a_t_court_roll_years a_t_court_roll_pardoned a_t_court_weights_each t_court_points t_court_allJudged t_court_roll_size t_court_weights_points t_court_roll_deeds t_court_roll_elders t_court_roll_firstJudgments t_court_weights_sums)) C hw hl (c_Roll_size l g a_t_court_roll a_t_court_roll_deeds a_t_court_roll_firstJudgments a_t_court_roll_years a_t_court_roll_pardoned a_t_court_roll_elders t_court_roll_size _ h) tw_779 kk_X5_size rfl ⟨rfl, rfl⟩ ⟨by decide, by decide⟩ (Nat.le_of_ble_eq_true rfl) 2 rfl rfl rfl [2] [0, 1, 3, 4, 5, 6, 7] [0, 1, 7, 2, 3, 4, 5, 6] rfl rfl rfl rfl rfl rfl (fun u => rfl) rfl dX1_fewestLeftOut_21 (fun r_3 u H locs h hw => ?_)
      refine lv_icmp_ge (tgt := 81) hx hb dX1_fewestLeftOut_24 (by decide) (fun c_24 => ?_) (fun c_24 => ?_)
      · have h := h.1 c_24
        refine lv_iload_n hx hb dX1_fewestLeftOut_81 rfl (lv_at hl 1 rfl) ?_
        exact hret () h hw dX1_fewestLeftOut_82 rfl
      · have h := h.2 c_24
        refine lv_iconst (v := 0) hx hb dX1_fewestLeftOut_27 (by decide) ?_
        refine lv_istore_n (lv' := [(3, .int 0), (0, .ref a_t), (1, .int x1), (2, .int x2)]) hx hb dX1_fewestLeftOut_28 rfl hl (by decide) rfl (fun ls hl => ?_)
        obtain ⟨n_29, h⟩ := h
        exact hL_Examiner_fewestLeftOut_29 (L_Examiner_fewestLeftOut_13 t_court_roll_size t_court_roll_deeds t_court_roll_elders t_court_roll_firstJudgments t_court_weights_sums Q n) ih n_29 x1 x2 0 h _ _ _ hw (lv_sub hl [1, 2, 3, 0] rfl)
  refine lv_aload_n hx hb dX1_fewestLeftOut_0 rfl (lv_at hl 0 rfl) ?_
  refine G_RX1_9 C hw 0 rfl dX1_fewestLeftOut_1 ?_
  refine G_RX1_15 C hw 1 rfl dX1_fewestLeftOut_4 ?_
  refine callVi (As := []) (rest := []) (W2 := fun _ => (cs_Examiner_fewestLeftOut g a_t a_t_court a_t_court_roll a_t_court_weights a_t_court_roll_deeds a_t_court_roll_elders a_t_court_roll_firstJudgments a_t_court_weights_sums a_t_court_costs a_t_court_by a_t_court_judgments a_t_court_roll_years a_t_court_roll_pardoned a_t_court_weights_each t_court_points t_court_allJudged t_court_roll_size t_court_weights_points t_court_roll_deeds t_court_roll_elders t_court_roll_firstJudgments t_court_weights_sums)) C hw hl (c_Roll_allCases l g a_t_court_roll a_t_court_roll_deeds a_t_court_roll_firstJudgments a_t_court_roll_years a_t_court_roll_pardoned a_t_court_roll_elders t_court_roll_size _ h) tw_780 kk_X5_allCases rfl ⟨rfl, rfl⟩ ⟨by decide, by decide⟩ (Nat.le_of_ble_eq_true rfl) 2 rfl rfl rfl [2] [0, 1, 3, 4, 5, 6, 7] [0, 1, 7, 2, 3, 4, 5, 6] rfl rfl rfl rfl rfl rfl (fun u => rfl) rfl dX1_fewestLeftOut_7 (fun r_4 u H locs h hw => ?_)
  refine lv_istore_n (lv' := [(1, .int r_4), (0, .ref a_t)]) hx hb dX1_fewestLeftOut_10 rfl hl (by decide) rfl (fun ls hl => ?_)
  refine lv_iconst (v := 0) hx hb dX1_fewestLeftOut_11 (by decide) ?_
  refine lv_istore_n (lv' := [(2, .int 0), (1, .int r_4), (0, .ref a_t)]) hx hb dX1_fewestLeftOut_12 rfl hl (by decide) rfl (fun ls hl => ?_)
  obtain ⟨n_13, h⟩ := h
  exact hL_Examiner_fewestLeftOut_13 n_13 r_4 0 h _ _ _ hw (lv_sub hl [2, 1, 0] rfl)
def P_Examiner_hangsTogether (t_court_roll_size : Int32) (t_court_roll_deeds : (Nat → Int32)) (t_court_roll_elders : (Nat → Int32)) (t_court_roll_firstJudgments : (Nat → Int32)) (t_court_weights_sums : (Nat → Int32)) (Q : Int32 → Prop) : Prop := P_Roll_allCases t_court_roll_size (fun r_1 => P_Roll_allFollow r_1 t_court_roll_size t_court_roll_deeds t_court_roll_elders t_court_roll_firstJudgments t_court_weights_sums (fun r_2 => narrow .boolean (.int r_2) = .int r_2 ∧ Q r_2 ))
abbrev rm_Examiner_hangsTogether : Room := { frames := 4, cells := 0, slots := 0, locals := 95 }
def cs_Examiner_hangsTogether (g : GE) (a_t a_t_court a_t_court_roll a_t_court_weights a_t_court_roll_deeds a_t_court_roll_elders a_t_court_roll_firstJudgments a_t_court_weights_sums a_t_court_costs a_t_court_by a_t_court_judgments a_t_court_roll_years a_t_court_roll_pardoned a_t_court_weights_each : Nat) (t_court_points : Int32) (t_court_allJudged : Int32) (t_court_roll_size : Int32) (t_court_weights_points : Int32) (t_court_roll_deeds : (Nat → Int32)) (t_court_roll_elders : (Nat → Int32)) (t_court_roll_firstJudgments : (Nat → Int32)) (t_court_weights_sums : (Nat → Int32)) : va_W := [oc a_t 1 [.ref a_t_court], oc a_t_court 0 [.ref a_t_court_weights, .ref a_t_court_costs, .ref a_t_court_roll, .int t_court_points, .ref a_t_court_by, .ref a_t_court_judgments, .int t_court_allJudged], oc a_t_court_roll 5 [.ref a_t_court_roll_deeds, .ref a_t_court_roll_firstJudgments, .ref a_t_court_roll_years, .ref a_t_court_roll_pardoned, .ref a_t_court_roll_elders, .int t_court_roll_size], oc a_t_court_weights 6 [.ref a_t_court_weights_each, .ref a_t_court_weights_sums, .int t_court_weights_points], ai g a_t_court_roll_deeds 12 t_court_roll_deeds, ai g a_t_court_roll_elders 12 t_court_roll_elders, ai g a_t_court_roll_firstJudgments 12 t_court_roll_firstJudgments, ai g a_t_court_weights_sums 1024 t_court_weights_sums]
set_option maxHeartbeats 4000000 in
set_option maxRecDepth 100000 in
theorem c_Examiner_hangsTogether (l : Launch) (g : GE) (a_t a_t_court a_t_court_roll a_t_court_weights a_t_court_roll_deeds a_t_court_roll_elders a_t_court_roll_firstJudgments a_t_court_weights_sums a_t_court_costs a_t_court_by a_t_court_judgments a_t_court_roll_years a_t_court_roll_pardoned a_t_court_weights_each : Nat) (t_court_points : Int32) (t_court_allJudged : Int32) (t_court_roll_size : Int32) (t_court_weights_points : Int32) (t_court_roll_deeds : (Nat → Int32)) (t_court_roll_elders : (Nat → Int32)) (t_court_roll_firstJudgments : (Nat → Int32)) (t_court_weights_sums : (Nat → Int32)) (Q : Int32 → Prop) (h : P_Examiner_hangsTogether t_court_roll_size t_court_roll_deeds t_court_roll_elders t_court_roll_firstJudgments t_court_weights_sums Q) : Cti l g yX1_hangsTogether cX1_hangsTogether 1 (some .boolean) rm_Examiner_hangsTogether [.ref a_t] (cs_Examiner_hangsTogether g a_t a_t_court a_t_court_roll a_t_court_weights a_t_court_roll_deeds a_t_court_roll_elders a_t_court_roll_firstJudgments a_t_court_weights_sums a_t_court_costs a_t_court_by a_t_court_judgments a_t_court_roll_years a_t_court_roll_pardoned a_t_court_weights_each t_court_points t_court_allJudged t_court_roll_size t_court_weights_points t_court_roll_deeds t_court_roll_elders t_court_roll_firstJudgments t_court_weights_sums) (S := Unit) (fun r u => Q r) (fun _ => (cs_Examiner_hangsTogether g a_t a_t_court a_t_court_roll a_t_court_weights a_t_court_roll_deeds a_t_court_roll_elders a_t_court_roll_firstJudgments a_t_court_weights_sums a_t_court_costs a_t_court_by a_t_court_judgments a_t_court_roll_years a_t_court_roll_pardoned a_t_court_weights_each t_court_points t_court_allJudged t_court_roll_size t_court_weights_points t_court_roll_deeds t_court_roll_elders t_court_roll_firstJudgments t_court_weights_sums)) := by
  refine meetI rfl (Nat.le_of_ble_eq_true rfl) ⟨rfl, rfl⟩ ?_
  intro p e s m args below meth c A Qf ls C hret hw hl
  have hx := C.1
  have hb := C.2.1
  have hown := C.2.2.2.1
  have hts := C.2.2.2.2.1
  have hE := C.2.2.2.2.2.1
  have hl : lv_has ls 1 [(0, .ref a_t)] := hl
  refine lv_aload_n hx hb dX1_hangsTogether_0 rfl (lv_at hl 0 rfl) ?_
  refine G_RX1_9 C hw 0 rfl dX1_hangsTogether_1 ?_
  refine G_RX1_15 C hw 1 rfl dX1_hangsTogether_4 ?_
  refine lv_aload_n hx hb dX1_hangsTogether_7 rfl (lv_at hl 0 rfl) ?_
  refine G_RX1_9 C hw 0 rfl dX1_hangsTogether_8 ?_
  refine G_RX1_15 C hw 1 rfl dX1_hangsTogether_11 ?_
  refine callVi (As := []) (rest := [.ref a_t_court_roll]) (W2 := fun _ => (cs_Examiner_hangsTogether g a_t a_t_court a_t_court_roll a_t_court_weights a_t_court_roll_deeds a_t_court_roll_elders a_t_court_roll_firstJudgments a_t_court_weights_sums a_t_court_costs a_t_court_by a_t_court_judgments a_t_court_roll_years a_t_court_roll_pardoned a_t_court_weights_each t_court_points t_court_allJudged t_court_roll_size t_court_weights_points t_court_roll_deeds t_court_roll_elders t_court_roll_firstJudgments t_court_weights_sums)) C hw hl (c_Roll_allCases l g a_t_court_roll a_t_court_roll_deeds a_t_court_roll_firstJudgments a_t_court_roll_years a_t_court_roll_pardoned a_t_court_roll_elders t_court_roll_size _ h) tw_780 kk_X5_allCases rfl ⟨rfl, rfl⟩ ⟨by decide, by decide⟩ (Nat.le_of_ble_eq_true rfl) 2 rfl rfl rfl [2] [0, 1, 3, 4, 5, 6, 7] [0, 1, 7, 2, 3, 4, 5, 6] rfl rfl rfl rfl rfl rfl (fun u => rfl) rfl dX1_hangsTogether_14 (fun r_1 u H locs h hw => ?_)
  refine lv_aload_n hx hb dX1_hangsTogether_17 rfl (lv_at hl 0 rfl) ?_
  refine G_RX1_9 C hw 0 rfl dX1_hangsTogether_18 ?_
  refine G_RX1_30 C hw 1 rfl dX1_hangsTogether_21 ?_
  refine callVi (As := [.int r_1, .ref a_t_court_weights]) (rest := []) (W2 := fun _ => (cs_Examiner_hangsTogether g a_t a_t_court a_t_court_roll a_t_court_weights a_t_court_roll_deeds a_t_court_roll_elders a_t_court_roll_firstJudgments a_t_court_weights_sums a_t_court_costs a_t_court_by a_t_court_judgments a_t_court_roll_years a_t_court_roll_pardoned a_t_court_weights_each t_court_points t_court_allJudged t_court_roll_size t_court_weights_points t_court_roll_deeds t_court_roll_elders t_court_roll_firstJudgments t_court_weights_sums)) C hw hl (c_Roll_allFollow l g a_t_court_roll a_t_court_roll_deeds a_t_court_roll_elders a_t_court_roll_firstJudgments a_t_court_weights a_t_court_weights_sums a_t_court_roll_years a_t_court_roll_pardoned a_t_court_weights_each t_court_roll_size t_court_roll_deeds t_court_roll_elders t_court_roll_firstJudgments t_court_weights_points t_court_weights_sums r_1 _ h) tw_801 kk_X5_allFollow rfl ⟨rfl, rfl⟩ ⟨by decide, by decide⟩ (Nat.le_of_ble_eq_true rfl) 2 rfl rfl rfl [2, 4, 5, 6, 3, 7] [0, 1] [0, 1, 2, 6, 3, 4, 5, 7] rfl rfl rfl rfl rfl rfl (fun u => rfl) rfl dX1_hangsTogether_24 (fun r_2 u H locs h hw => ?_)
  exact hret () h.2 hw dX1_hangsTogether_27 h.1
def B_Examiner_countHanging_23 (t_court_points : Int32) (t_court_roll_size : Int32) (t_court_roll_deeds : (Nat → Int32)) (t_court_roll_elders : (Nat → Int32)) (t_court_roll_firstJudgments : (Nat → Int32)) (t_court_weights_sums : (Nat → Int32)) (Q : Int32 → Prop) (k0 : Int32) : Prop := Q k0
def P_Examiner_countHanging (t_court_points : Int32) (t_court_roll_size : Int32) (t_court_roll_deeds : (Nat → Int32)) (t_court_roll_elders : (Nat → Int32)) (t_court_roll_firstJudgments : (Nat → Int32)) (t_court_weights_sums : (Nat → Int32)) (Q : Int32 → Prop) : Prop := P_Examiner_hangsTogether t_court_roll_size t_court_roll_deeds t_court_roll_elders t_court_roll_firstJudgments t_court_weights_sums (fun r_1 => (r_1 = 0 → B_Examiner_countHanging_23 t_court_points t_court_roll_size t_court_roll_deeds t_court_roll_elders t_court_roll_firstJudgments t_court_weights_sums Q 0) ∧ (¬ r_1 = 0 → P_Court_points t_court_points (fun r_2 => P_LC_power 3 r_2 (fun r_3 => B_Examiner_countHanging_23 t_court_points t_court_roll_size t_court_roll_deeds t_court_roll_elders t_court_roll_firstJudgments t_court_weights_sums Q (r_3.toInt32)))))
abbrev rm_Examiner_countHanging : Room := { frames := 5, cells := 0, slots := 0, locals := 115 }
def cs_Examiner_countHanging (g : GE) (a_t a_t_court a_t_court_roll a_t_court_weights a_t_court_roll_deeds a_t_court_roll_elders a_t_court_roll_firstJudgments a_t_court_weights_sums a_t_court_costs a_t_court_by a_t_court_judgments a_t_court_roll_years a_t_court_roll_pardoned a_t_court_weights_each : Nat) (t_court_points : Int32) (t_court_allJudged : Int32) (t_court_roll_size : Int32) (t_court_weights_points : Int32) (t_court_roll_deeds : (Nat → Int32)) (t_court_roll_elders : (Nat → Int32)) (t_court_roll_firstJudgments : (Nat → Int32)) (t_court_weights_sums : (Nat → Int32)) : va_W := [oc a_t 1 [.ref a_t_court], oc a_t_court 0 [.ref a_t_court_weights, .ref a_t_court_costs, .ref a_t_court_roll, .int t_court_points, .ref a_t_court_by, .ref a_t_court_judgments, .int t_court_allJudged], oc a_t_court_roll 5 [.ref a_t_court_roll_deeds, .ref a_t_court_roll_firstJudgments, .ref a_t_court_roll_years, .ref a_t_court_roll_pardoned, .ref a_t_court_roll_elders, .int t_court_roll_size], oc a_t_court_weights 6 [.ref a_t_court_weights_each, .ref a_t_court_weights_sums, .int t_court_weights_points], ai g a_t_court_roll_deeds 12 t_court_roll_deeds, ai g a_t_court_roll_elders 12 t_court_roll_elders, ai g a_t_court_roll_firstJudgments 12 t_court_roll_firstJudgments, ai g a_t_court_weights_sums 1024 t_court_weights_sums]
set_option maxHeartbeats 4000000 in
set_option maxRecDepth 100000 in
theorem c_Examiner_countHanging (l : Launch) (g : GE) (a_t a_t_court a_t_court_roll a_t_court_weights a_t_court_roll_deeds a_t_court_roll_elders a_t_court_roll_firstJudgments a_t_court_weights_sums a_t_court_costs a_t_court_by a_t_court_judgments a_t_court_roll_years a_t_court_roll_pardoned a_t_court_weights_each : Nat) (t_court_points : Int32) (t_court_allJudged : Int32) (t_court_roll_size : Int32) (t_court_weights_points : Int32) (t_court_roll_deeds : (Nat → Int32)) (t_court_roll_elders : (Nat → Int32)) (t_court_roll_firstJudgments : (Nat → Int32)) (t_court_weights_sums : (Nat → Int32)) (Q : Int32 → Prop) (h : P_Examiner_countHanging t_court_points t_court_roll_size t_court_roll_deeds t_court_roll_elders t_court_roll_firstJudgments t_court_weights_sums Q) : Cti l g yX1_countHanging cX1_countHanging 1 (some .int) rm_Examiner_countHanging [.ref a_t] (cs_Examiner_countHanging g a_t a_t_court a_t_court_roll a_t_court_weights a_t_court_roll_deeds a_t_court_roll_elders a_t_court_roll_firstJudgments a_t_court_weights_sums a_t_court_costs a_t_court_by a_t_court_judgments a_t_court_roll_years a_t_court_roll_pardoned a_t_court_weights_each t_court_points t_court_allJudged t_court_roll_size t_court_weights_points t_court_roll_deeds t_court_roll_elders t_court_roll_firstJudgments t_court_weights_sums) (S := Unit) (fun r u => Q r) (fun _ => (cs_Examiner_countHanging g a_t a_t_court a_t_court_roll a_t_court_weights a_t_court_roll_deeds a_t_court_roll_elders a_t_court_roll_firstJudgments a_t_court_weights_sums a_t_court_costs a_t_court_by a_t_court_judgments a_t_court_roll_years a_t_court_roll_pardoned a_t_court_weights_each t_court_points t_court_allJudged t_court_roll_size t_court_weights_points t_court_roll_deeds t_court_roll_elders t_court_roll_firstJudgments t_court_weights_sums)) := by
  refine meetI rfl (Nat.le_of_ble_eq_true rfl) ⟨rfl, rfl⟩ ?_
  intro p e s m args below meth c A Qf ls C hret hw hl
  have hx := C.1
  have hb := C.2.1
  have hown := C.2.2.2.1
  have hts := C.2.2.2.2.1
  have hE := C.2.2.2.2.2.1
  have hl : lv_has ls 1 [(0, .ref a_t)] := hl
  have hB_Examiner_countHanging_23 : ∀ (k0 : Int32), B_Examiner_countHanging_23 t_court_points t_court_roll_size t_court_roll_deeds t_court_roll_elders t_court_roll_firstJudgments t_court_weights_sums Q k0 → Wat p l e rm_Examiner_countHanging s m args below meth c A Qf g 1 (cs_Examiner_countHanging g a_t a_t_court a_t_court_roll a_t_court_weights a_t_court_roll_deeds a_t_court_roll_elders a_t_court_roll_firstJudgments a_t_court_weights_sums a_t_court_costs a_t_court_by a_t_court_judgments a_t_court_roll_years a_t_court_roll_pardoned a_t_court_weights_each t_court_points t_court_allJudged t_court_roll_size t_court_weights_points t_court_roll_deeds t_court_roll_elders t_court_roll_firstJudgments t_court_weights_sums) [] 23 [.int k0] := by
    intro k0 h H locs ls hw hl
    exact hret () h hw dX1_countHanging_23 rfl
  refine lv_aload_n hx hb dX1_countHanging_0 rfl (lv_at hl 0 rfl) ?_
  refine callVi (As := []) (rest := []) (W2 := fun _ => (cs_Examiner_countHanging g a_t a_t_court a_t_court_roll a_t_court_weights a_t_court_roll_deeds a_t_court_roll_elders a_t_court_roll_firstJudgments a_t_court_weights_sums a_t_court_costs a_t_court_by a_t_court_judgments a_t_court_roll_years a_t_court_roll_pardoned a_t_court_weights_each t_court_points t_court_allJudged t_court_roll_size t_court_weights_points t_court_roll_deeds t_court_roll_elders t_court_roll_firstJudgments t_court_weights_sums)) C hw hl (c_Examiner_hangsTogether l g a_t a_t_court a_t_court_roll a_t_court_weights a_t_court_roll_deeds a_t_court_roll_elders a_t_court_roll_firstJudgments a_t_court_weights_sums a_t_court_costs a_t_court_by a_t_court_judgments a_t_court_roll_years a_t_court_roll_pardoned a_t_court_weights_each t_court_points t_court_allJudged t_court_roll_size t_court_weights_points t_court_roll_deeds t_court_roll_elders t_court_roll_firstJudgments t_court_weights_sums _ h) tw_814 kk_X1_hangsTogether rfl ⟨rfl, rfl⟩ ⟨by decide, by decide⟩ (Nat.le_of_ble_eq_true rfl) 0 rfl rfl rfl [0, 1, 2, 3, 4, 5, 6, 7] [] [0, 1, 2, 3, 4, 5, 6, 7] rfl rfl rfl rfl rfl rfl (fun u => rfl) rfl dX1_countHanging_1 (fun r_1 u H locs h hw => ?_)
  refine lv_if_eq (tgt := 22) hx hb dX1_countHanging_4 (by decide) (fun c_4 => ?_) (fun c_4 => ?_)
  · have h := h.1 c_4
    refine lv_iconst (v := 0) hx hb dX1_countHanging_22 (by decide) ?_
    exact hB_Examiner_countHanging_23 0 h _ _ _ hw (lv_sub hl [] rfl)
  · have h := h.2 c_4
    refine lv_iconst (v := 3) hx hb dX1_countHanging_7 (by decide) ?_
    refine lv_aload_n hx hb dX1_countHanging_8 rfl (lv_at hl 0 rfl) ?_
    refine G_RX1_9 C hw 0 rfl dX1_countHanging_9 ?_
    refine callVi (As := []) (rest := [.int 3]) (W2 := fun _ => (cs_Examiner_countHanging g a_t a_t_court a_t_court_roll a_t_court_weights a_t_court_roll_deeds a_t_court_roll_elders a_t_court_roll_firstJudgments a_t_court_weights_sums a_t_court_costs a_t_court_by a_t_court_judgments a_t_court_roll_years a_t_court_roll_pardoned a_t_court_weights_each t_court_points t_court_allJudged t_court_roll_size t_court_weights_points t_court_roll_deeds t_court_roll_elders t_court_roll_firstJudgments t_court_weights_sums)) C hw hl (c_Court_points l g a_t_court a_t_court_weights a_t_court_costs a_t_court_roll a_t_court_by a_t_court_judgments t_court_points t_court_allJudged _ h) tw_818 kk_X0_points rfl ⟨rfl, rfl⟩ ⟨by decide, by decide⟩ (Nat.le_of_ble_eq_true rfl) 1 rfl rfl rfl [1] [0, 2, 3, 4, 5, 6, 7] [0, 7, 1, 2, 3, 4, 5, 6] rfl rfl rfl rfl rfl rfl (fun u => rfl) rfl dX1_countHanging_12 (fun r_2 u H locs h hw => ?_)
    refine callNl (As := [.int 3, .int r_2]) (rest := []) C hw hl (c_LC_power l g 3 r_2 _ h) (nest_in hE tn_766 rfl) kk_X9_power rfl ⟨rfl, rfl⟩ ⟨by decide, by decide⟩ (Nat.le_of_ble_eq_true rfl) rfl dX1_countHanging_15 (fun r_3 u H locs h hw => ?_)
    refine lv_l2i hx hb dX1_countHanging_18 rfl ?_
    refine lv_goto (tgt := 23) hx hb dX1_countHanging_19 (by decide) ?_
    exact hB_Examiner_countHanging_23 (r_3.toInt32) h _ _ _ hw (lv_sub hl [] rfl)
def B_Examiner_firstHanging_12 (t_court_roll_size : Int32) (t_court_roll_deeds : (Nat → Int32)) (t_court_roll_elders : (Nat → Int32)) (t_court_roll_firstJudgments : (Nat → Int32)) (t_court_weights_sums : (Nat → Int32)) (Q : Int32 → Prop) (k0 : Int32) : Prop := Q k0
def P_Examiner_firstHanging (t_court_roll_size : Int32) (t_court_roll_deeds : (Nat → Int32)) (t_court_roll_elders : (Nat → Int32)) (t_court_roll_firstJudgments : (Nat → Int32)) (t_court_weights_sums : (Nat → Int32)) (Q : Int32 → Prop) : Prop := P_Examiner_hangsTogether t_court_roll_size t_court_roll_deeds t_court_roll_elders t_court_roll_firstJudgments t_court_weights_sums (fun r_1 => (r_1 = 0 → B_Examiner_firstHanging_12 t_court_roll_size t_court_roll_deeds t_court_roll_elders t_court_roll_firstJudgments t_court_weights_sums Q (-1)) ∧ (¬ r_1 = 0 → B_Examiner_firstHanging_12 t_court_roll_size t_court_roll_deeds t_court_roll_elders t_court_roll_firstJudgments t_court_weights_sums Q 0))
abbrev rm_Examiner_firstHanging : Room := { frames := 5, cells := 0, slots := 0, locals := 115 }
def cs_Examiner_firstHanging (g : GE) (a_t a_t_court a_t_court_roll a_t_court_weights a_t_court_roll_deeds a_t_court_roll_elders a_t_court_roll_firstJudgments a_t_court_weights_sums a_t_court_costs a_t_court_by a_t_court_judgments a_t_court_roll_years a_t_court_roll_pardoned a_t_court_weights_each : Nat) (t_court_points : Int32) (t_court_allJudged : Int32) (t_court_roll_size : Int32) (t_court_weights_points : Int32) (t_court_roll_deeds : (Nat → Int32)) (t_court_roll_elders : (Nat → Int32)) (t_court_roll_firstJudgments : (Nat → Int32)) (t_court_weights_sums : (Nat → Int32)) : va_W := [oc a_t 1 [.ref a_t_court], oc a_t_court 0 [.ref a_t_court_weights, .ref a_t_court_costs, .ref a_t_court_roll, .int t_court_points, .ref a_t_court_by, .ref a_t_court_judgments, .int t_court_allJudged], oc a_t_court_roll 5 [.ref a_t_court_roll_deeds, .ref a_t_court_roll_firstJudgments, .ref a_t_court_roll_years, .ref a_t_court_roll_pardoned, .ref a_t_court_roll_elders, .int t_court_roll_size], oc a_t_court_weights 6 [.ref a_t_court_weights_each, .ref a_t_court_weights_sums, .int t_court_weights_points], ai g a_t_court_roll_deeds 12 t_court_roll_deeds, ai g a_t_court_roll_elders 12 t_court_roll_elders, ai g a_t_court_roll_firstJudgments 12 t_court_roll_firstJudgments, ai g a_t_court_weights_sums 1024 t_court_weights_sums]
set_option maxHeartbeats 4000000 in
set_option maxRecDepth 100000 in
theorem c_Examiner_firstHanging (l : Launch) (g : GE) (a_t a_t_court a_t_court_roll a_t_court_weights a_t_court_roll_deeds a_t_court_roll_elders a_t_court_roll_firstJudgments a_t_court_weights_sums a_t_court_costs a_t_court_by a_t_court_judgments a_t_court_roll_years a_t_court_roll_pardoned a_t_court_weights_each : Nat) (t_court_points : Int32) (t_court_allJudged : Int32) (t_court_roll_size : Int32) (t_court_weights_points : Int32) (t_court_roll_deeds : (Nat → Int32)) (t_court_roll_elders : (Nat → Int32)) (t_court_roll_firstJudgments : (Nat → Int32)) (t_court_weights_sums : (Nat → Int32)) (Q : Int32 → Prop) (h : P_Examiner_firstHanging t_court_roll_size t_court_roll_deeds t_court_roll_elders t_court_roll_firstJudgments t_court_weights_sums Q) : Cti l g yX1_firstHanging cX1_firstHanging 1 (some .int) rm_Examiner_firstHanging [.ref a_t] (cs_Examiner_firstHanging g a_t a_t_court a_t_court_roll a_t_court_weights a_t_court_roll_deeds a_t_court_roll_elders a_t_court_roll_firstJudgments a_t_court_weights_sums a_t_court_costs a_t_court_by a_t_court_judgments a_t_court_roll_years a_t_court_roll_pardoned a_t_court_weights_each t_court_points t_court_allJudged t_court_roll_size t_court_weights_points t_court_roll_deeds t_court_roll_elders t_court_roll_firstJudgments t_court_weights_sums) (S := Unit) (fun r u => Q r) (fun _ => (cs_Examiner_firstHanging g a_t a_t_court a_t_court_roll a_t_court_weights a_t_court_roll_deeds a_t_court_roll_elders a_t_court_roll_firstJudgments a_t_court_weights_sums a_t_court_costs a_t_court_by a_t_court_judgments a_t_court_roll_years a_t_court_roll_pardoned a_t_court_weights_each t_court_points t_court_allJudged t_court_roll_size t_court_weights_points t_court_roll_deeds t_court_roll_elders t_court_roll_firstJudgments t_court_weights_sums)) := by
  refine meetI rfl (Nat.le_of_ble_eq_true rfl) ⟨rfl, rfl⟩ ?_
  intro p e s m args below meth c A Qf ls C hret hw hl
  have hx := C.1
  have hb := C.2.1
  have hown := C.2.2.2.1
  have hts := C.2.2.2.2.1
  have hE := C.2.2.2.2.2.1
  have hl : lv_has ls 1 [(0, .ref a_t)] := hl
  have hB_Examiner_firstHanging_12 : ∀ (k0 : Int32), B_Examiner_firstHanging_12 t_court_roll_size t_court_roll_deeds t_court_roll_elders t_court_roll_firstJudgments t_court_weights_sums Q k0 → Wat p l e rm_Examiner_firstHanging s m args below meth c A Qf g 1 (cs_Examiner_firstHanging g a_t a_t_court a_t_court_roll a_t_court_weights a_t_court_roll_deeds a_t_court_roll_elders a_t_court_roll_firstJudgments a_t_court_weights_sums a_t_court_costs a_t_court_by a_t_court_judgments a_t_court_roll_years a_t_court_roll_pardoned a_t_court_weights_each t_court_points t_court_allJudged t_court_roll_size t_court_weights_points t_court_roll_deeds t_court_roll_elders t_court_roll_firstJudgments t_court_weights_sums) [] 12 [.int k0] := by
    intro k0 h H locs ls hw hl
    exact hret () h hw dX1_firstHanging_12 rfl
  refine lv_aload_n hx hb dX1_firstHanging_0 rfl (lv_at hl 0 rfl) ?_
  refine callVi (As := []) (rest := []) (W2 := fun _ => (cs_Examiner_firstHanging g a_t a_t_court a_t_court_roll a_t_court_weights a_t_court_roll_deeds a_t_court_roll_elders a_t_court_roll_firstJudgments a_t_court_weights_sums a_t_court_costs a_t_court_by a_t_court_judgments a_t_court_roll_years a_t_court_roll_pardoned a_t_court_weights_each t_court_points t_court_allJudged t_court_roll_size t_court_weights_points t_court_roll_deeds t_court_roll_elders t_court_roll_firstJudgments t_court_weights_sums)) C hw hl (c_Examiner_hangsTogether l g a_t a_t_court a_t_court_roll a_t_court_weights a_t_court_roll_deeds a_t_court_roll_elders a_t_court_roll_firstJudgments a_t_court_weights_sums a_t_court_costs a_t_court_by a_t_court_judgments a_t_court_roll_years a_t_court_roll_pardoned a_t_court_weights_each t_court_points t_court_allJudged t_court_roll_size t_court_weights_points t_court_roll_deeds t_court_roll_elders t_court_roll_firstJudgments t_court_weights_sums _ h) tw_814 kk_X1_hangsTogether rfl ⟨rfl, rfl⟩ ⟨by decide, by decide⟩ (Nat.le_of_ble_eq_true rfl) 0 rfl rfl rfl [0, 1, 2, 3, 4, 5, 6, 7] [] [0, 1, 2, 3, 4, 5, 6, 7] rfl rfl rfl rfl rfl rfl (fun u => rfl) rfl dX1_firstHanging_1 (fun r_1 u H locs h hw => ?_)
  refine lv_if_eq (tgt := 11) hx hb dX1_firstHanging_4 (by decide) (fun c_4 => ?_) (fun c_4 => ?_)
  · have h := h.1 c_4
    refine lv_iconst (v := (-1)) hx hb dX1_firstHanging_11 (by decide) ?_
    exact hB_Examiner_firstHanging_12 (-1) h _ _ _ hw (lv_sub hl [] rfl)
  · have h := h.2 c_4
    refine lv_iconst (v := 0) hx hb dX1_firstHanging_7 (by decide) ?_
    refine lv_goto (tgt := 12) hx hb dX1_firstHanging_8 (by decide) ?_
    exact hB_Examiner_firstHanging_12 0 h _ _ _ hw (lv_sub hl [] rfl)
