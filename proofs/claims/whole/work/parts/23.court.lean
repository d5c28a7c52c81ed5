def P_Court_points (t_points : Int32) (Q : Int32 → Prop) : Prop := Q t_points
abbrev rm_Court_points : Room := { frames := 0, cells := 0, slots := 0, locals := 0 }
def cs_Court_points (g : GE) (a_t a_t_weights a_t_costs a_t_roll a_t_by a_t_judgments : Nat) (t_points : Int32) (t_allJudged : Int32) : va_W := [oc a_t 0 [.ref a_t_weights, .ref a_t_costs, .ref a_t_roll, .int t_points, .ref a_t_by, .ref a_t_judgments, .int t_allJudged]]
set_option maxHeartbeats 4000000 in
set_option maxRecDepth 100000 in
theorem c_Court_points (l : Launch) (g : GE) (a_t a_t_weights a_t_costs a_t_roll a_t_by a_t_judgments : Nat) (t_points : Int32) (t_allJudged : Int32) (Q : Int32 → Prop) (h : P_Court_points t_points Q) : Cti l g yX0_points cX0_points 1 (some .int) rm_Court_points [.ref a_t] (cs_Court_points g a_t a_t_weights a_t_costs a_t_roll a_t_by a_t_judgments t_points t_allJudged) (S := Unit) (fun r u => Q r) (fun _ => (cs_Court_points g a_t a_t_weights a_t_costs a_t_roll a_t_by a_t_judgments t_points t_allJudged)) := by
  refine meetI rfl (Nat.le_of_ble_eq_true rfl) ⟨rfl, rfl⟩ ?_
  intro p e s m args below meth c A Qf ls C hret hw hl
  have hx := C.1
  have hb := C.2.1
  have hown := C.2.2.2.1
  have hts := C.2.2.2.2.1
  have hE := C.2.2.2.2.2.1
  have hl : lv_has ls 1 [(0, .ref a_t)] := hl
  refine lv_aload_n hx hb dX0_points_0 rfl (lv_at hl 0 rfl) ?_
  refine G_RX0_48 C hw 0 rfl dX0_points_1 ?_
  exact hret () h hw dX0_points_4 rfl
def P_Court_setWeight (x1 : Int32) (x2 : Int32) (t_allJudged : Int32) (t_weights_points : Int32) (t_weights_each : (Nat → Int32)) (t_weights_sums : (Nat → Int32)) (Q : Int32 → (Nat → Int32) → (Nat → Int32) → Prop) : Prop := P_Scale_put x1 x2 t_weights_points t_weights_each t_weights_sums (fun t_weights_each_1 t_weights_sums_2 => Q 0 t_weights_each_1 t_weights_sums_2)
abbrev rm_Court_setWeight : Room := { frames := 2, cells := 0, slots := 0, locals := 48 }
def cs_Court_setWeight (g : GE) (a_t a_t_weights a_t_weights_each a_t_weights_sums a_t_costs a_t_roll a_t_by a_t_judgments : Nat) (t_points : Int32) (t_allJudged : Int32) (t_weights_points : Int32) (t_weights_each : (Nat → Int32)) (t_weights_sums : (Nat → Int32)) : va_W := [oc a_t 0 [.ref a_t_weights, .ref a_t_costs, .ref a_t_roll, .int t_points, .ref a_t_by, .ref a_t_judgments, .int t_allJudged], oc a_t_weights 6 [.ref a_t_weights_each, .ref a_t_weights_sums, .int t_weights_points], ai g a_t_weights_each 10 t_weights_each, ai g a_t_weights_sums 1024 t_weights_sums]
set_option maxHeartbeats 4000000 in
set_option maxRecDepth 100000 in
theorem c_Court_setWeight (l : Launch) (g : GE) (a_t a_t_weights a_t_weights_each a_t_weights_sums a_t_costs a_t_roll a_t_by a_t_judgments : Nat) (t_points : Int32) (t_allJudged : Int32) (t_weights_points : Int32) (t_weights_each : (Nat → Int32)) (t_weights_sums : (Nat → Int32)) (x1 : Int32) (x2 : Int32) (Q : Int32 → (Nat → Int32) → (Nat → Int32) → Prop) (h : P_Court_setWeight x1 x2 t_allJudged t_weights_points t_weights_each t_weights_sums Q) : Ctv l g yX0_setWeight cX0_setWeight 3 none rm_Court_setWeight [.ref a_t, .int x1, .int x2] (cs_Court_setWeight g a_t a_t_weights a_t_weights_each a_t_weights_sums a_t_costs a_t_roll a_t_by a_t_judgments t_points t_allJudged t_weights_points t_weights_each t_weights_sums) (S := Int32 × (Nat → Int32) × (Nat → Int32)) (fun u => Q u.1 u.2.1 u.2.2) (fun u => (cs_Court_setWeight g a_t a_t_weights a_t_weights_each a_t_weights_sums a_t_costs a_t_roll a_t_by a_t_judgments t_points (u.1) t_weights_points (u.2.1) (u.2.2))) := by
  refine meetV rfl (Nat.le_of_ble_eq_true rfl) ⟨rfl, rfl⟩ ?_
  intro p e s m args below meth c A Qf ls C hret hw hl
  have hx := C.1
  have hb := C.2.1
  have hown := C.2.2.2.1
  have hts := C.2.2.2.2.1
  have hE := C.2.2.2.2.2.1
  have hl : lv_has ls 3 [(0, .ref a_t), (1, .int x1), (2, .int x2)] := hl
  refine lv_aload_n hx hb dX0_setWeight_0 rfl (lv_at hl 0 rfl) ?_
  refine G_RX0_12 C hw 0 rfl dX0_setWeight_1 ?_
  refine lv_iload_n hx hb dX0_setWeight_4 rfl (lv_at hl 1 rfl) ?_
  refine lv_iload_n hx hb dX0_setWeight_5 rfl (lv_at hl 2 rfl) ?_
  refine callVv (As := [.int x1, .int x2]) (rest := []) (W2 := fun u => (cs_Court_setWeight g a_t a_t_weights a_t_weights_each a_t_weights_sums a_t_costs a_t_roll a_t_by a_t_judgments t_points t_allJudged t_weights_points (u.1) (u.2))) C hw hl (c_Scale_put l g a_t_weights a_t_weights_each a_t_weights_sums t_weights_points t_weights_each t_weights_sums x1 x2 _ h) tw_502 kk_X6_put rfl ⟨rfl, rfl⟩ ⟨by decide, by decide⟩ (Nat.le_of_ble_eq_true rfl) 1 rfl rfl rfl [1, 2, 3] [0] [0, 1, 2, 3] rfl rfl rfl rfl rfl rfl (fun u => rfl) rfl dX0_setWeight_6 (fun u H locs h hw => ?_)
  obtain ⟨t_weights_each_1, t_weights_sums_2⟩ := u
  have hw : Wd g A s (cs_Court_setWeight g a_t a_t_weights a_t_weights_each a_t_weights_sums a_t_costs a_t_roll a_t_by a_t_judgments t_points t_allJudged t_weights_points t_weights_each_1 t_weights_sums_2) H locs := hw
  refine lv_aload_n hx hb dX0_setWeight_9 rfl (lv_at hl 0 rfl) ?_
  refine lv_iconst (v := 0) hx hb dX0_setWeight_10 (by decide) ?_
  refine U_RX0_59 (ws2 := (cs_Court_setWeight g a_t a_t_weights a_t_weights_each a_t_weights_sums a_t_costs a_t_roll a_t_by a_t_judgments t_points 0 t_weights_points t_weights_each_1 t_weights_sums_2)) C hw 0 rfl rfl rfl rfl dX0_setWeight_11 (fun H locs hw => ?_)
  exact hret (0, t_weights_each_1, t_weights_sums_2) h hw dX0_setWeight_14
def P_Court_addCase (x1 : Int32) (x2 : Int32) (x3 : Int32) (t_allJudged : Int32) (t_roll_size : Int32) (t_roll_deeds : (Nat → Int32)) (t_roll_elders : (Nat → Int32)) (t_roll_firstJudgments : (Nat → Int32)) (t_roll_pardoned : (Nat → Int32)) (t_roll_years : (Nat → Int32)) (Q : Int32 → Int32 → (Nat → Int32) → (Nat → Int32) → (Nat → Int32) → (Nat → Int32) → (Nat → Int32) → Prop) : Prop := P_Roll_append x1 x2 x3 t_roll_size t_roll_deeds t_roll_elders t_roll_firstJudgments t_roll_pardoned t_roll_years (fun t_roll_size_1 t_roll_deeds_2 t_roll_elders_3 t_roll_firstJudgments_4 t_roll_pardoned_5 t_roll_years_6 => Q 0 t_roll_size_1 t_roll_deeds_2 t_roll_elders_3 t_roll_firstJudgments_4 t_roll_pardoned_5 t_roll_years_6)
abbrev rm_Court_addCase : Room := { frames := 2, cells := 0, slots := 0, locals := 45 }
def cs_Court_addCase (g : GE) (a_t a_t_roll a_t_roll_deeds a_t_roll_elders a_t_roll_firstJudgments a_t_roll_pardoned a_t_roll_years a_t_weights a_t_costs a_t_by a_t_judgments : Nat) (t_points : Int32) (t_allJudged : Int32) (t_roll_size : Int32) (t_roll_deeds : (Nat → Int32)) (t_roll_elders : (Nat → Int32)) (t_roll_firstJudgments : (Nat → Int32)) (t_roll_pardoned : (Nat → Int32)) (t_roll_years : (Nat → Int32)) : va_W := [oc a_t 0 [.ref a_t_weights, .ref a_t_costs, .ref a_t_roll, .int t_points, .ref a_t_by, .ref a_t_judgments, .int t_allJudged], oc a_t_roll 5 [.ref a_t_roll_deeds, .ref a_t_roll_firstJudgments, .ref a_t_roll_years, .ref a_t_roll_pardoned, .ref a_t_roll_elders, .int t_roll_size], ai g a_t_roll_deeds 12 t_roll_deeds, ai g a_t_roll_elders 12 t_roll_elders, ai g a_t_roll_firstJudgments 12 t_roll_firstJudgments, az g a_t_roll_pardoned 12 t_roll_pardoned, ai g a_t_roll_years 12 t_roll_years]
set_option maxHeartbeats 4000000 in
set_option maxRecDepth 100000 in
theorem c_Court_addCase (l : Launch) (g : GE) (a_t a_t_roll a_t_roll_deeds a_t_roll_elders a_t_roll_firstJudgments a_t_roll_pardoned a_t_roll_years a_t_weights a_t_costs a_t_by a_t_judgments : Nat) (t_points : Int32) (t_allJudged : Int32) (t_roll_size : Int32) (t_roll_deeds : (Nat → Int32)) (t_roll_elders : (Nat → Int32)) (t_roll_firstJudgments : (Nat → Int32)) (t_roll_pardoned : (Nat → Int32)) (t_roll_years : (Nat → Int32)) (x1 : Int32) (x2 : Int32) (x3 : Int32) (Q : Int32 → Int32 → (Nat → Int32) → (Nat → Int32) → (Nat → Int32) → (Nat → Int32) → (Nat → Int32) → Prop) (h : P_Court_addCase x1 x2 x3 t_allJudged t_roll_size t_roll_deeds t_roll_elders t_roll_firstJudgments t_roll_pardoned t_roll_years Q) : Ctv l g yX0_addCase cX0_addCase 4 none rm_Court_addCase [.ref a_t, .int x1, .int x2, .int x3] (cs_Court_addCase g a_t a_t_roll a_t_roll_deeds a_t_roll_elders a_t_roll_firstJudgments a_t_roll_pardoned a_t_roll_years a_t_weights a_t_costs a_t_by a_t_judgments t_points t_allJudged t_roll_size t_roll_deeds t_roll_elders t_roll_firstJudgments t_roll_pardoned t_roll_years) (S := Int32 × Int32 × (Nat → Int32) × (Nat → Int32) × (Nat → Int32) × (Nat → Int32) × (Nat → Int32)) (fun u => Q u.1 u.2.1 u.2.2.1 u.2.2.2.1 u.2.2.2.2.1 u.2.2.2.2.2.1 u.2.2.2.2.2.2) (fun u => (cs_Court_addCase g a_t a_t_roll a_t_roll_deeds a_t_roll_elders a_t_roll_firstJudgments a_t_roll_pardoned a_t_roll_years a_t_weights a_t_costs a_t_by a_t_judgments t_points (u.1) (u.2.1) (u.2.2.1) (u.2.2.2.1) (u.2.2.2.2.1) (u.2.2.2.2.2.1) (u.2.2.2.2.2.2))) := by
  refine meetV rfl (Nat.le_of_ble_eq_true rfl) ⟨rfl, rfl⟩ ?_
  intro p e s m args below meth c A Qf ls C hret hw hl
  have hx := C.1
  have hb := C.2.1
  have hown := C.2.2.2.1
  have hts := C.2.2.2.2.1
  have hE := C.2.2.2.2.2.1
  have hl : lv_has ls 4 [(0, .ref a_t), (1, .int x1), (2, .int x2), (3, .int x3)] := hl
  refine lv_aload_n hx hb dX0_addCase_0 rfl (lv_at hl 0 rfl) ?_
  refine G_RX0_24 C hw 0 rfl dX0_addCase_1 ?_
  refine lv_iload_n hx hb dX0_addCase_4 rfl (lv_at hl 1 rfl) ?_
  refine lv_iload_n hx hb dX0_addCase_5 rfl (lv_at hl 2 rfl) ?_
  refine lv_iload_n hx hb dX0_addCase_6 rfl (lv_at hl 3 rfl) ?_
  refine callVv (As := [.int x1, .int x2, .int x3]) (rest := []) (W2 := fun u => (cs_Court_addCase g a_t a_t_roll a_t_roll_deeds a_t_roll_elders a_t_roll_firstJudgments a_t_roll_pardoned a_t_roll_years a_t_weights a_t_costs a_t_by a_t_judgments t_points t_allJudged (u.1) (u.2.1) (u.2.2.1) (u.2.2.2.1) (u.2.2.2.2.1) (u.2.2.2.2.2))) C hw hl (c_Roll_append l g a_t_roll a_t_roll_deeds a_t_roll_elders a_t_roll_firstJudgments a_t_roll_pardoned a_t_roll_years t_roll_size t_roll_deeds t_roll_elders t_roll_firstJudgments t_roll_pardoned t_roll_years x1 x2 x3 _ h) tw_508 kk_X5_append rfl ⟨rfl, rfl⟩ ⟨by decide, by decide⟩ (Nat.le_of_ble_eq_true rfl) 1 rfl rfl rfl [1, 2, 3, 4, 5, 6] [0] [0, 1, 2, 3, 4, 5, 6] rfl rfl rfl rfl rfl rfl (fun u => rfl) rfl dX0_addCase_7 (fun u H locs h hw => ?_)
  obtain ⟨t_roll_size_1, t_roll_deeds_2, t_roll_elders_3, t_roll_firstJudgments_4, t_roll_pardoned_5, t_roll_years_6⟩ := u
  have hw : Wd g A s (cs_Court_addCase g a_t a_t_roll a_t_roll_deeds a_t_roll_elders a_t_roll_firstJudgments a_t_roll_pardoned a_t_roll_years a_t_weights a_t_costs a_t_by a_t_judgments t_points t_allJudged t_roll_size_1 t_roll_deeds_2 t_roll_elders_3 t_roll_firstJudgments_4 t_roll_pardoned_5 t_roll_years_6) H locs := hw
  refine lv_aload_n hx hb dX0_addCase_10 rfl (lv_at hl 0 rfl) ?_
  refine lv_iconst (v := 0) hx hb dX0_addCase_11 (by decide) ?_
  refine U_RX0_59 (ws2 := (cs_Court_addCase g a_t a_t_roll a_t_roll_deeds a_t_roll_elders a_t_roll_firstJudgments a_t_roll_pardoned a_t_roll_years a_t_weights a_t_costs a_t_by a_t_judgments t_points 0 t_roll_size_1 t_roll_deeds_2 t_roll_elders_3 t_roll_firstJudgments_4 t_roll_pardoned_5 t_roll_years_6)) C hw 0 rfl rfl rfl rfl dX0_addCase_12 (fun H locs hw => ?_)
  exact hret (0, t_roll_size_1, t_roll_deeds_2, t_roll_elders_3, t_roll_firstJudgments_4, t_roll_pardoned_5, t_roll_years_6) h hw dX0_addCase_15
def P_Court_setPardoned (x1 : Int32) (x2 : Int32) (t_allJudged : Int32) (t_roll_size : Int32) (t_roll_pardoned : (Nat → Int32)) (Q : Int32 → (Nat → Int32) → Prop) : Prop := P_Roll_setPardoned x1 x2 t_roll_size t_roll_pardoned (fun t_roll_pardoned_1 => Q 0 t_roll_pardoned_1)
abbrev rm_Court_setPardoned : Room := { frames := 2, cells := 0, slots := 0, locals := 43 }
def cs_Court_setPardoned (g : GE) (a_t a_t_roll a_t_roll_pardoned a_t_weights a_t_costs a_t_by a_t_judgments a_t_roll_deeds a_t_roll_firstJudgments a_t_roll_years a_t_roll_elders : Nat) (t_points : Int32) (t_allJudged : Int32) (t_roll_size : Int32) (t_roll_pardoned : (Nat → Int32)) : va_W := [oc a_t 0 [.ref a_t_weights, .ref a_t_costs, .ref a_t_roll, .int t_points, .ref a_t_by, .ref a_t_judgments, .int t_allJudged], oc a_t_roll 5 [.ref a_t_roll_deeds, .ref a_t_roll_firstJudgments, .ref a_t_roll_years, .ref a_t_roll_pardoned, .ref a_t_roll_elders, .int t_roll_size], az g a_t_roll_pardoned 12 t_roll_pardoned]
set_option maxHeartbeats 4000000 in
set_option maxRecDepth 100000 in
theorem c_Court_setPardoned (l : Launch) (g : GE) (a_t a_t_roll a_t_roll_pardoned a_t_weights a_t_costs a_t_by a_t_judgments a_t_roll_deeds a_t_roll_firstJudgments a_t_roll_years a_t_roll_elders : Nat) (t_points : Int32) (t_allJudged : Int32) (t_roll_size : Int32) (t_roll_pardoned : (Nat → Int32)) (x1 : Int32) (x2 : Int32) (Q : Int32 → (Nat → Int32) → Prop) (h : P_Court_setPardoned x1 x2 t_allJudged t_roll_size t_roll_pardoned Q) : Ctv l g yX0_setPardoned cX0_setPardoned 3 none rm_Court_setPardoned [.ref a_t, .int x1, .int x2] (cs_Court_setPardoned g a_t a_t_roll a_t_roll_pardoned a_t_weights a_t_costs a_t_by a_t_judgments a_t_roll_deeds a_t_roll_firstJudgments a_t_roll_years a_t_roll_elders t_points t_allJudged t_roll_size t_roll_pardoned) (S := Int32 × (Nat → Int32)) (fun u => Q u.1 u.2) (fun u => (cs_Court_setPardoned g a_t a_t_roll a_t_roll_pardoned a_t_weights a_t_costs a_t_by a_t_judgments a_t_roll_deeds a_t_roll_firstJudgments a_t_roll_years a_t_roll_elders t_points (u.1) t_roll_size (u.2))) := by
  refine meetV rfl (Nat.le_of_ble_eq_true rfl) ⟨rfl, rfl⟩ ?_
  intro p e s m args below meth c A Qf ls C hret hw hl
  have hx := C.1
  have hb := C.2.1
  have hown := C.2.2.2.1
  have hts := C.2.2.2.2.1
  have hE := C.2.2.2.2.2.1
  have hl : lv_has ls 3 [(0, .ref a_t), (1, .int x1), (2, .int x2)] := hl
  refine lv_aload_n hx hb dX0_setPardoned_0 rfl (lv_at hl 0 rfl) ?_
  refine G_RX0_24 C hw 0 rfl dX0_setPardoned_1 ?_
  refine lv_iload_n hx hb dX0_setPardoned_4 rfl (lv_at hl 1 rfl) ?_
  refine lv_iload_n hx hb dX0_setPardoned_5 rfl (lv_at hl 2 rfl) ?_
  refine callVv (As := [.int x1, .int x2]) (rest := []) (W2 := fun u => (cs_Court_setPardoned g a_t a_t_roll a_t_roll_pardoned a_t_weights a_t_costs a_t_by a_t_judgments a_t_roll_deeds a_t_roll_firstJudgments a_t_roll_years a_t_roll_elders t_points t_allJudged t_roll_size u)) C hw hl (c_Roll_setPardoned l g a_t_roll a_t_roll_pardoned a_t_roll_deeds a_t_roll_firstJudgments a_t_roll_years a_t_roll_elders t_roll_size t_roll_pardoned x1 x2 _ h) tw_520 kk_X5_setPardoned rfl ⟨rfl, rfl⟩ ⟨by decide, by decide⟩ (Nat.le_of_ble_eq_true rfl) 1 rfl rfl rfl [1, 2] [0] [0, 1, 2] rfl rfl rfl rfl rfl rfl (fun u => rfl) rfl dX0_setPardoned_6 (fun u H locs h hw => ?_)
  obtain ⟨t_roll_pardoned_1, rfl⟩ : ∃ z, z = u := ⟨_, rfl⟩
  have hw : Wd g A s (cs_Court_setPardoned g a_t a_t_roll a_t_roll_pardoned a_t_weights a_t_costs a_t_by a_t_judgments a_t_roll_deeds a_t_roll_firstJudgments a_t_roll_years a_t_roll_elders t_points t_allJudged t_roll_size t_roll_pardoned_1) H locs := hw
  refine lv_aload_n hx hb dX0_setPardoned_9 rfl (lv_at hl 0 rfl) ?_
  refine lv_iconst (v := 0) hx hb dX0_setPardoned_10 (by decide) ?_
  refine U_RX0_59 (ws2 := (cs_Court_setPardoned g a_t a_t_roll a_t_roll_pardoned a_t_weights a_t_costs a_t_by a_t_judgments a_t_roll_deeds a_t_roll_firstJudgments a_t_roll_years a_t_roll_elders t_points 0 t_roll_size t_roll_pardoned_1)) C hw 0 rfl rfl rfl rfl dX0_setPardoned_11 (fun H locs hw => ?_)
  exact hret (0, t_roll_pardoned_1) h hw dX0_setPardoned_14
def P_Court_dropCase (x1 : Int32) (t_allJudged : Int32) (t_roll_size : Int32) (t_roll_deeds : (Nat → Int32)) (t_roll_elders : (Nat → Int32)) (t_roll_firstJudgments : (Nat → Int32)) (t_roll_pardoned : (Nat → Int32)) (t_roll_years : (Nat → Int32)) (Q : Int32 → Int32 → (Nat → Int32) → (Nat → Int32) → (Nat → Int32) → (Nat → Int32) → (Nat → Int32) → Prop) : Prop := P_Roll_remove x1 t_roll_size t_roll_deeds t_roll_elders t_roll_firstJudgments t_roll_pardoned t_roll_years (fun t_roll_size_1 t_roll_deeds_2 t_roll_elders_3 t_roll_firstJudgments_4 t_roll_pardoned_5 t_roll_years_6 => Q 0 t_roll_size_1 t_roll_deeds_2 t_roll_elders_3 t_roll_firstJudgments_4 t_roll_pardoned_5 t_roll_years_6)
abbrev rm_Court_dropCase : Room := { frames := 2, cells := 0, slots := 0, locals := 45 }
def cs_Court_dropCase (g : GE) (a_t a_t_roll a_t_roll_deeds a_t_roll_elders a_t_roll_firstJudgments a_t_roll_pardoned a_t_roll_years a_t_weights a_t_costs a_t_by a_t_judgments : Nat) (t_points : Int32) (t_allJudged : Int32) (t_roll_size : Int32) (t_roll_deeds : (Nat → Int32)) (t_roll_elders : (Nat → Int32)) (t_roll_firstJudgments : (Nat → Int32)) (t_roll_pardoned : (Nat → Int32)) (t_roll_years : (Nat → Int32)) : va_W := [oc a_t 0 [.ref a_t_weights, .ref a_t_costs, .ref a_t_roll, .int t_points, .ref a_t_by, .ref a_t_judgments, .int t_allJudged], oc a_t_roll 5 [.ref a_t_roll_deeds, .ref a_t_roll_firstJudgments, .ref a_t_roll_years, .ref a_t_roll_pardoned, .ref a_t_roll_elders, .int t_roll_size], ai g a_t_roll_deeds 12 t_roll_deeds, ai g a_t_roll_elders 12 t_roll_elders, ai g a_t_roll_firstJudgments 12 t_roll_firstJudgments, az g a_t_roll_pardoned 12 t_roll_pardoned, ai g a_t_roll_years 12 t_roll_years]
set_option maxHeartbeats 4000000 in
set_option maxRecDepth 100000 in
theorem c_Court_dropCase (l : Launch) (g : GE) (a_t a_t_roll a_t_roll_deeds a_t_roll_elders a_t_roll_firstJudgments a_t_roll_pardoned a_t_roll_years a_t_weights a_t_costs a_t_by a_t_judgments : Nat) (t_points : Int32) (t_allJudged : Int32) (t_roll_size : Int32) (t_roll_deeds : (Nat → Int32)) (t_roll_elders : (Nat → Int32)) (t_roll_firstJudgments : (Nat → Int32)) (t_roll_pardoned : (Nat → Int32)) (t_roll_years : (Nat → Int32)) (x1 : Int32) (Q : Int32 → Int32 → (Nat → Int32) → (Nat → Int32) → (Nat → Int32) → (Nat → Int32) → (Nat → Int32) → Prop) (h : P_Court_dropCase x1 t_allJudged t_roll_size t_roll_deeds t_roll_elders t_roll_firstJudgments t_roll_pardoned t_roll_years Q) : Ctv l g yX0_dropCase cX0_dropCase 2 none rm_Court_dropCase [.ref a_t, .int x1] (cs_Court_dropCase g a_t a_t_roll a_t_roll_deeds a_t_roll_elders a_t_roll_firstJudgments a_t_roll_pardoned a_t_roll_years a_t_weights a_t_costs a_t_by a_t_judgments t_points t_allJudged t_roll_size t_roll_deeds t_roll_elders t_roll_firstJudgments t_roll_pardoned t_roll_years) (S := Int32 × Int32 × (Nat → Int32) × (Nat → Int32) × (Nat → Int32) × (Nat → Int32) × (Nat → Int32)) (fun u => Q u.1 u.2.1 u.2.2.1 u.2.2.2.1 u.2.2.2.2.1 u.2.2.2.2.2.1 u.2.2.2.2.2.2) (fun u => (cs_Court_dropCase g a_t a_t_roll a_t_roll_deeds a_t_roll_elders a_t_roll_firstJudgments a_t_roll_pardoned a_t_roll_years a_t_weights a_t_costs a_t_by a_t_judgments t_points (u.1) (u.2.1) (u.2.2.1) (u.2.2.2.1) (u.2.2.2.2.1) (u.2.2.2.2.2.1) (u.2.2.2.2.2.2))) := by
  refine meetV rfl (Nat.le_of_ble_eq_true rfl) ⟨rfl, rfl⟩ ?_
  intro p e s m args below meth c A Qf ls C hret hw hl
  have hx := C.1
  have hb := C.2.1
  have hown := C.2.2.2.1
  have hts := C.2.2.2.2.1
  have hE := C.2.2.2.2.2.1
  have hl : lv_has ls 2 [(0, .ref a_t), (1, .int x1)] := hl
  refine lv_aload_n hx hb dX0_dropCase_0 rfl (lv_at hl 0 rfl) ?_
  refine G_RX0_24 C hw 0 rfl dX0_dropCase_1 ?_
  refine lv_iload_n hx hb dX0_dropCase_4 rfl (lv_at hl 1 rfl) ?_
  refine callVv (As := [.int x1]) (rest := []) (W2 := fun u => (cs_Court_dropCase g a_t a_t_roll a_t_roll_deeds a_t_roll_elders a_t_roll_firstJudgments a_t_roll_pardoned a_t_roll_years a_t_weights a_t_costs a_t_by a_t_judgments t_points t_allJudged (u.1) (u.2.1) (u.2.2.1) (u.2.2.2.1) (u.2.2.2.2.1) (u.2.2.2.2.2))) C hw hl (c_Roll_remove l g a_t_roll a_t_roll_deeds a_t_roll_elders a_t_roll_firstJudgments a_t_roll_pardoned a_t_roll_years t_roll_size t_roll_deeds t_roll_elders t_roll_firstJudgments t_roll_pardoned t_roll_years x1 _ h) tw_532 kk_X5_remove rfl ⟨rfl, rfl⟩ ⟨by decide, by decide⟩ (Nat.le_of_ble_eq_true rfl) 1 rfl rfl rfl [1, 2, 3, 4, 5, 6] [0] [0, 1, 2, 3, 4, 5, 6] rfl rfl rfl rfl rfl rfl (fun u => rfl) rfl dX0_dropCase_5 (fun u H locs h hw => ?_)
  obtain ⟨t_roll_size_1, t_roll_deeds_2, t_roll_elders_3, t_roll_firstJudgments_4, t_roll_pardoned_5, t_roll_years_6⟩ := u
  have hw : Wd g A s (cs_Court_dropCase g a_t a_t_roll a_t_roll_deeds a_t_roll_elders a_t_roll_firstJudgments a_t_roll_pardoned a_t_roll_years a_t_weights a_t_costs a_t_by a_t_judgments t_points t_allJudged t_roll_size_1 t_roll_deeds_2 t_roll_elders_3 t_roll_firstJudgments_4 t_roll_pardoned_5 t_roll_years_6) H locs := hw
  refine lv_aload_n hx hb dX0_dropCase_8 rfl (lv_at hl 0 rfl) ?_
  refine lv_iconst (v := 0) hx hb dX0_dropCase_9 (by decide) ?_
  refine U_RX0_59 (ws2 := (cs_Court_dropCase g a_t a_t_roll a_t_roll_deeds a_t_roll_elders a_t_roll_firstJudgments a_t_roll_pardoned a_t_roll_years a_t_weights a_t_costs a_t_by a_t_judgments t_points 0 t_roll_size_1 t_roll_deeds_2 t_roll_elders_3 t_roll_firstJudgments_4 t_roll_pardoned_5 t_roll_years_6)) C hw 0 rfl rfl rfl rfl dX0_dropCase_10 (fun H locs hw => ?_)
  exact hret (0, t_roll_size_1, t_roll_deeds_2, t_roll_elders_3, t_roll_firstJudgments_4, t_roll_pardoned_5, t_roll_years_6) h hw dX0_dropCase_13
def P_Court_found (x1 : Int32) (t_points : Int32) (t_allJudged : Int32) (t_costs_points : Int32) (t_roll_size : Int32) (t_weights_points : Int32) (t_costs_each : (Nat → Int32)) (t_costs_sums : (Nat → Int32)) (t_weights_each : (Nat → Int32)) (t_weights_sums : (Nat → Int32)) (Q : Int32 → Int32 → Int32 → Int32 → Int32 → (Nat → Int32) → (Nat → Int32) → (Nat → Int32) → (Nat → Int32) → Prop) : Prop := ∀ t_points_1 : Int32, t_points_1 = (if 1 < (if 10 < x1 then 10 else x1) then (if 10 < x1 then 10 else x1) else 1) → P_Scale_fill t_points_1 1 t_weights_points t_weights_each t_weights_sums (fun t_weights_points_2 t_weights_each_3 t_weights_sums_4 => P_Scale_fill t_points_1 1 t_costs_points t_costs_each t_costs_sums (fun t_costs_points_5 t_costs_each_6 t_costs_sums_7 => P_Roll_clear t_roll_size (fun t_roll_size_8 => Q t_points_1 0 t_costs_points_5 t_roll_size_8 t_weights_points_2 t_costs_each_6 t_costs_sums_7 t_weights_each_3 t_weights_sums_4)))
abbrev rm_Court_found : Room := { frames := 3, cells := 0, slots := 0, locals := 71 }
def cs_Court_found (g : GE) (a_t a_t_costs a_t_roll a_t_weights a_t_costs_each a_t_costs_sums a_t_weights_each a_t_weights_sums a_t_by a_t_judgments a_t_roll_deeds a_t_roll_firstJudgments a_t_roll_years a_t_roll_pardoned a_t_roll_elders : Nat) (t_points : Int32) (t_allJudged : Int32) (t_costs_points : Int32) (t_roll_size : Int32) (t_weights_points : Int32) (t_costs_each : (Nat → Int32)) (t_costs_sums : (Nat → Int32)) (t_weights_each : (Nat → Int32)) (t_weights_sums : (Nat → Int32)) : va_W := [oc a_t 0 [.ref a_t_weights, .ref a_t_costs, .ref a_t_roll, .int t_points, .ref a_t_by, .ref a_t_judgments, .int t_allJudged], oc a_t_costs 6 [.ref a_t_costs_each, .ref a_t_costs_sums, .int t_costs_points], oc a_t_roll 5 [.ref a_t_roll_deeds, .ref a_t_roll_firstJudgments, .ref a_t_roll_years, .ref a_t_roll_pardoned, .ref a_t_roll_elders, .int t_roll_size], oc a_t_weights 6 [.ref a_t_weights_each, .ref a_t_weights_sums, .int t_weights_points], ai g a_t_costs_each 10 t_costs_each, ai g a_t_costs_sums 1024 t_costs_sums, ai g a_t_weights_each 10 t_weights_each, ai g a_t_weights_sums 1024 t_weights_sums]
set_option maxHeartbeats 4000000 in
set_option maxRecDepth 100000 in
theorem c_Court_found (l : Launch) (g : GE) (a_t a_t_costs a_t_roll a_t_weights a_t_costs_each a_t_costs_sums a_t_weights_each a_t_weights_sums a_t_by a_t_judgments a_t_roll_deeds a_t_roll_firstJudgments a_t_roll_years a_t_roll_pardoned a_t_roll_elders : Nat) (t_points : Int32) (t_allJudged : Int32) (t_costs_points : Int32) (t_roll_size : Int32) (t_weights_points : Int32) (t_costs_each : (Nat → Int32)) (t_costs_sums : (Nat → Int32)) (t_weights_each : (Nat → Int32)) (t_weights_sums : (Nat → Int32)) (x1 : Int32) (Q : Int32 → Int32 → Int32 → Int32 → Int32 → (Nat → Int32) → (Nat → Int32) → (Nat → Int32) → (Nat → Int32) → Prop) (h : P_Court_found x1 t_points t_allJudged t_costs_points t_roll_size t_weights_points t_costs_each t_costs_sums t_weights_each t_weights_sums Q) : Ctv l g yX0_found cX0_found 2 none rm_Court_found [.ref a_t, .int x1] (cs_Court_found g a_t a_t_costs a_t_roll a_t_weights a_t_costs_each a_t_costs_sums a_t_weights_each a_t_weights_sums a_t_by a_t_judgments a_t_roll_deeds a_t_roll_firstJudgments a_t_roll_years a_t_roll_pardoned a_t_roll_elders t_points t_allJudged t_costs_points t_roll_size t_weights_points t_costs_each t_costs_sums t_weights_each t_weights_sums) (S := Int32 × Int32 × Int32 × Int32 × Int32 × (Nat → Int32) × (Nat → Int32) × (Nat → Int32) × (Nat → Int32)) (fun u => Q u.1 u.2.1 u.2.2.1 u.2.2.2.1 u.2.2.2.2.1 u.2.2.2.2.2.1 u.2.2.2.2.2.2.1 u.2.2.2.2.2.2.2.1 u.2.2.2.2.2.2.2.2) (fun u => (cs_Court_found g a_t a_t_costs a_t_roll a_t_weights a_t_costs_each a_t_costs_sums a_t_weights_each a_t_weights_sums a_t_by a_t_judgments a_t_roll_deeds a_t_roll_firstJudgments a_t_roll_years a_t_roll_pardoned a_t_roll_elders (u.1) (u.2.1) (u.2.2.1) (u.2.2.2.1) (u.2.2.2.2.1) (u.2.2.2.2.2.1) (u.2.2.2.2.2.2.1) (u.2.2.2.2.2.2.2.1) (u.2.2.2.2.2.2.2.2))) := by
  refine meetV rfl (Nat.le_of_ble_eq_true rfl) ⟨rfl, rfl⟩ ?_
  intro p e s m args below meth c A Qf ls C hret hw hl
  have hx := C.1
  have hb := C.2.1
  have hown := C.2.2.2.1
  have hts := C.2.2.2.2.1
  have hE := C.2.2.2.2.2.1
  have hl : lv_has ls 2 [(0, .ref a_t), (1, .int x1)] := hl
  refine lv_aload_n hx hb dX0_found_0 rfl (lv_at hl 0 rfl) ?_
  refine lv_iconst (v := 1) hx hb dX0_found_1 (by decide) ?_
  refine lv_iload_n hx hb dX0_found_2 rfl (lv_at hl 1 rfl) ?_
  refine lv_bipush (v := 10) hx hb dX0_found_3 (by decide) ?_
  refine mmin C hl tw_133 kmmin ⟨Nat.le_of_ble_eq_true rfl, Nat.le_of_ble_eq_true rfl⟩ dX0_found_5 ?_
  refine mmax C hl tw_136 kmmax ⟨Nat.le_of_ble_eq_true rfl, Nat.le_of_ble_eq_true rfl⟩ dX0_found_8 ?_
  refine lv_topi (fun t_points_1 et_points_1 => ?_)
  have h := h t_points_1 et_points_1
  refine U_RX0_48 (ws2 := (cs_Court_found g a_t a_t_costs a_t_roll a_t_weights a_t_costs_each a_t_costs_sums a_t_weights_each a_t_weights_sums a_t_by a_t_judgments a_t_roll_deeds a_t_roll_firstJudgments a_t_roll_years a_t_roll_pardoned a_t_roll_elders t_points_1 t_allJudged t_costs_points t_roll_size t_weights_points t_costs_each t_costs_sums t_weights_each t_weights_sums)) C hw 0 rfl rfl rfl rfl dX0_found_11 (fun H locs hw => ?_)
  refine lv_aload_n hx hb dX0_found_14 rfl (lv_at hl 0 rfl) ?_
  refine G_RX0_12 C hw 0 rfl dX0_found_15 ?_
  refine lv_aload_n hx hb dX0_found_18 rfl (lv_at hl 0 rfl) ?_
  refine G_RX0_48 C hw 0 rfl dX0_found_19 ?_
  refine lv_iconst (v := 1) hx hb dX0_found_22 (by decide) ?_
  refine callVv (As := [.int t_points_1, .int 1]) (rest := []) (W2 := fun u => (cs_Court_found g a_t a_t_costs a_t_roll a_t_weights a_t_costs_each a_t_costs_sums a_t_weights_each a_t_weights_sums a_t_by a_t_judgments a_t_roll_deeds a_t_roll_firstJudgments a_t_roll_years a_t_roll_pardoned a_t_roll_elders t_points_1 t_allJudged t_costs_points t_roll_size (u.1) t_costs_each t_costs_sums (u.2.1) (u.2.2))) C hw hl (c_Scale_fill l g a_t_weights a_t_weights_each a_t_weights_sums t_weights_points t_weights_each t_weights_sums t_points_1 1 _ h) tw_139 kk_X6_fill rfl ⟨rfl, rfl⟩ ⟨by decide, by decide⟩ (Nat.le_of_ble_eq_true rfl) 3 rfl rfl rfl [3, 6, 7] [0, 1, 2, 4, 5] [0, 1, 2, 5, 3, 4, 6, 7] rfl rfl rfl rfl rfl rfl (fun u => rfl) rfl dX0_found_23 (fun u H locs h hw => ?_)
  obtain ⟨t_weights_points_2, t_weights_each_3, t_weights_sums_4⟩ := u
  have hw : Wd g A s (cs_Court_found g a_t a_t_costs a_t_roll a_t_weights a_t_costs_each a_t_costs_sums a_t_weights_each a_t_weights_sums a_t_by a_t_judgments a_t_roll_deeds a_t_roll_firstJudgments a_t_roll_years a_t_roll_pardoned a_t_roll_elders t_points_1 t_allJudged t_costs_points t_roll_size t_weights_points_2 t_costs_each t_costs_sums t_weights_each_3 t_weights_sums_4) H locs := hw
  refine lv_aload_n hx hb dX0_found_26 rfl (lv_at hl 0 rfl) ?_
  refine G_RX0_18 C hw 0 rfl dX0_found_27 ?_
  refine lv_aload_n hx hb dX0_found_30 rfl (lv_at hl 0 rfl) ?_
  refine G_RX0_48 C hw 0 rfl dX0_found_31 ?_
  refine lv_iconst (v := 1) hx hb dX0_found_34 (by decide) ?_
  refine callVv (As := [.int t_points_1, .int 1]) (rest := []) (W2 := fun u => (cs_Court_found g a_t a_t_costs a_t_roll a_t_weights a_t_costs_each a_t_costs_sums a_t_weights_each a_t_weights_sums a_t_by a_t_judgments a_t_roll_deeds a_t_roll_firstJudgments a_t_roll_years a_t_roll_pardoned a_t_roll_elders t_points_1 t_allJudged (u.1) t_roll_size t_weights_points_2 (u.2.1) (u.2.2) t_weights_each_3 t_weights_sums_4)) C hw hl (c_Scale_fill l g a_t_costs a_t_costs_each a_t_costs_sums t_costs_points t_costs_each t_costs_sums t_points_1 1 _ h) tw_139 kk_X6_fill rfl ⟨rfl, rfl⟩ ⟨by decide, by decide⟩ (Nat.le_of_ble_eq_true rfl) 1 rfl rfl rfl [1, 4, 5] [0, 2, 3, 6, 7] [0, 5, 1, 2, 6, 7, 3, 4] rfl rfl rfl rfl rfl rfl (fun u => rfl) rfl dX0_found_35 (fun u H locs h hw => ?_)
  obtain ⟨t_costs_points_5, t_costs_each_6, t_costs_sums_7⟩ := u
  have hw : Wd g A s (cs_Court_found g a_t a_t_costs a_t_roll a_t_weights a_t_costs_each a_t_costs_sums a_t_weights_each a_t_weights_sums a_t_by a_t_judgments a_t_roll_deeds a_t_roll_firstJudgments a_t_roll_years a_t_roll_pardoned a_t_roll_elders t_points_1 t_allJudged t_costs_points_5 t_roll_size t_weights_points_2 t_costs_each_6 t_costs_sums_7 t_weights_each_3 t_weights_sums_4) H locs := hw
  refine lv_aload_n hx hb dX0_found_38 rfl (lv_at hl 0 rfl) ?_
  refine G_RX0_24 C hw 0 rfl dX0_found_39 ?_
  refine callVv (As := []) (rest := []) (W2 := fun u => (cs_Court_found g a_t a_t_costs a_t_roll a_t_weights a_t_costs_each a_t_costs_sums a_t_weights_each a_t_weights_sums a_t_by a_t_judgments a_t_roll_deeds a_t_roll_firstJudgments a_t_roll_years a_t_roll_pardoned a_t_roll_elders t_points_1 t_allJudged t_costs_points_5 u t_weights_points_2 t_costs_each_6 t_costs_sums_7 t_weights_each_3 t_weights_sums_4)) C hw hl (c_Roll_clear l g a_t_roll a_t_roll_deeds a_t_roll_firstJudgments a_t_roll_years a_t_roll_pardoned a_t_roll_elders t_roll_size _ h) tw_158 kk_X5_clear rfl ⟨rfl, rfl⟩ ⟨by decide, by decide⟩ (Nat.le_of_ble_eq_true rfl) 2 rfl rfl rfl [2] [0, 1, 3, 4, 5, 6, 7] [0, 1, 7, 2, 3, 4, 5, 6] rfl rfl rfl rfl rfl rfl (fun u => rfl) rfl dX0_found_42 (fun u H locs h hw => ?_)
  obtain ⟨t_roll_size_8, rfl⟩ : ∃ z, z = u := ⟨_, rfl⟩
  have hw : Wd g A s (cs_Court_found g a_t a_t_costs a_t_roll a_t_weights a_t_costs_each a_t_costs_sums a_t_weights_each a_t_weights_sums a_t_by a_t_judgments a_t_roll_deeds a_t_roll_firstJudgments a_t_roll_years a_t_roll_pardoned a_t_roll_elders t_points_1 t_allJudged t_costs_points_5 t_roll_size_8 t_weights_points_2 t_costs_each_6 t_costs_sums_7 t_weights_each_3 t_weights_sums_4) H locs := hw
  refine lv_aload_n hx hb dX0_found_45 rfl (lv_at hl 0 rfl) ?_
  refine lv_iconst (v := 0) hx hb dX0_found_46 (by decide) ?_
  refine U_RX0_59 (ws2 := (cs_Court_found g a_t a_t_costs a_t_roll a_t_weights a_t_costs_each a_t_costs_sums a_t_weights_each a_t_weights_sums a_t_by a_t_judgments a_t_roll_deeds a_t_roll_firstJudgments a_t_roll_years a_t_roll_pardoned a_t_roll_elders t_points_1 0 t_costs_points_5 t_roll_size_8 t_weights_points_2 t_costs_each_6 t_costs_sums_7 t_weights_each_3 t_weights_sums_4)) C hw 0 rfl rfl rfl rfl dX0_found_47 (fun H locs hw => ?_)
  exact hret (t_points_1, 0, t_costs_points_5, t_roll_size_8, t_weights_points_2, t_costs_each_6, t_costs_sums_7, t_weights_each_3, t_weights_sums_4) h hw dX0_found_50
def B_Court_isPoint_17 (x1 : Int32) (t_points : Int32) (Q : Int32 → Prop) (k0 : Int32) : Prop := narrow .boolean (.int k0) = .int k0 ∧ Q k0 
def B_Court_isPoint_16 (x1 : Int32) (t_points : Int32) (Q : Int32 → Prop) : Prop := B_Court_isPoint_17 x1 t_points Q 0
def P_Court_isPoint (x1 : Int32) (t_points : Int32) (Q : Int32 → Prop) : Prop := (x1 < 0 → B_Court_isPoint_16 x1 t_points Q) ∧ (¬ x1 < 0 → (t_points ≤ x1 → B_Court_isPoint_16 x1 t_points Q) ∧ (¬ t_points ≤ x1 → B_Court_isPoint_17 x1 t_points Q 1))
abbrev rm_Court_isPoint : Room := { frames := 0, cells := 0, slots := 0, locals := 0 }
def cs_Court_isPoint (g : GE) (a_t a_t_weights a_t_costs a_t_roll a_t_by a_t_judgments : Nat) (t_points : Int32) (t_allJudged : Int32) : va_W := [oc a_t 0 [.ref a_t_weights, .ref a_t_costs, .ref a_t_roll, .int t_points, .ref a_t_by, .ref a_t_judgments, .int t_allJudged]]
set_option maxHeartbeats 4000000 in
set_option maxRecDepth 100000 in
theorem c_Court_isPoint (l : Launch) (g : GE) (a_t a_t_weights a_t_costs a_t_roll a_t_by a_t_judgments : Nat) (t_points : Int32) (t_allJudged : Int32) (x1 : Int32) (Q : Int32 → Prop) (h : P_Court_isPoint x1 t_points Q) : Cti l g yX0_isPoint cX0_isPoint 2 (some .boolean) rm_Court_isPoint [.ref a_t, .int x1] (cs_Court_isPoint g a_t a_t_weights a_t_costs a_t_roll a_t_by a_t_judgments t_points t_allJudged) (S := Unit) (fun r u => Q r) (fun _ => (cs_Court_isPoint g a_t a_t_weights a_t_costs a_t_roll a_t_by a_t_judgments t_points t_allJudged)) := by
  refine meetI rfl (Nat.le_of_ble_eq_true rfl) ⟨rfl, rfl⟩ ?_
  intro p e s m args below meth c A Qf ls C hret hw hl
  have hx := C.1
  have hb := C.2.1
  have hown := C.2.2.2.1
  have hts := C.2.2.2.2.1
  have hE := C.2.2.2.2.2.1
  have hl : lv_has ls 2 [(0, .ref a_t), (1, .int x1)] := hl
  have hB_Court_isPoint_17 : ∀ (k0 : Int32), B_Court_isPoint_17 x1 t_points Q k0 → Wat p l e rm_Court_isPoint s m args below meth c A Qf g 2 (cs_Court_isPoint g a_t a_t_weights a_t_costs a_t_roll a_t_by a_t_judgments t_points t_allJudged) [] 17 [.int k0] := by
    intro k0 h H locs ls hw hl
    exact hret () h.2 hw dX0_isPoint_17 h.1
  have hB_Court_isPoint_16 : B_Court_isPoint_16 x1 t_points Q → Wat p l e rm_Court_isPoint s m args below meth c A Qf g 2 (cs_Court_isPoint g a_t a_t_weights a_t_costs a_t_roll a_t_by a_t_judgments t_points t_allJudged) [] 16 [] := by
    intro  h H locs ls hw hl
    refine lv_iconst (v := 0) hx hb dX0_isPoint_16 (by decide) ?_
    exact hB_Court_isPoint_17 0 h _ _ _ hw (lv_sub hl [] rfl)
  refine lv_iload_n hx hb dX0_isPoint_0 rfl (lv_at hl 1 rfl) ?_
  refine lv_if_lt (tgt := 16) hx hb dX0_isPoint_1 (by decide) (fun c_1 => ?_) (fun c_1 => ?_)
  · have h := h.1 c_1
    exact hB_Court_isPoint_16  h _ _ _ hw (lv_sub hl [] rfl)
  · have h := h.2 c_1
    refine lv_iload_n hx hb dX0_isPoint_4 rfl (lv_at hl 1 rfl) ?_
    refine lv_aload_n hx hb dX0_isPoint_5 rfl (lv_at hl 0 rfl) ?_
    refine G_RX0_48 C hw 0 rfl dX0_isPoint_6 ?_
    refine lv_icmp_ge (tgt := 16) hx hb dX0_isPoint_9 (by decide) (fun c_9 => ?_) (fun c_9 => ?_)
    · have h := h.1 c_9
      exact hB_Court_isPoint_16  h _ _ _ hw (lv_sub hl [] rfl)
    · have h := h.2 c_9
      refine lv_iconst (v := 1) hx hb dX0_isPoint_12 (by decide) ?_
      refine lv_goto (tgt := 17) hx hb dX0_isPoint_13 (by decide) ?_
      exact hB_Court_isPoint_17 1 h _ _ _ hw (lv_sub hl [] rfl)
def P_Court_deedCount (t_points : Int32) (Q : Int32 → Prop) : Prop := Q (1 <<< (t_points &&& 31))
abbrev rm_Court_deedCount : Room := { frames := 0, cells := 0, slots := 0, locals := 0 }
def cs_Court_deedCount (g : GE) (a_t a_t_weights a_t_costs a_t_roll a_t_by a_t_judgments : Nat) (t_points : Int32) (t_allJudged : Int32) : va_W := [oc a_t 0 [.ref a_t_weights, .ref a_t_costs, .ref a_t_roll, .int t_points, .ref a_t_by, .ref a_t_judgments, .int t_allJudged]]
set_option maxHeartbeats 4000000 in
set_option maxRecDepth 100000 in
theorem c_Court_deedCount (l : Launch) (g : GE) (a_t a_t_weights a_t_costs a_t_roll a_t_by a_t_judgments : Nat) (t_points : Int32) (t_allJudged : Int32) (Q : Int32 → Prop) (h : P_Court_deedCount t_points Q) : Cti l g yX0_deedCount cX0_deedCount 1 (some .int) rm_Court_deedCount [.ref a_t] (cs_Court_deedCount g a_t a_t_weights a_t_costs a_t_roll a_t_by a_t_judgments t_points t_allJudged) (S := Unit) (fun r u => Q r) (fun _ => (cs_Court_deedCount g a_t a_t_weights a_t_costs a_t_roll a_t_by a_t_judgments t_points t_allJudged)) := by
  refine meetI rfl (Nat.le_of_ble_eq_true rfl) ⟨rfl, rfl⟩ ?_
  intro p e s m args below meth c A Qf ls C hret hw hl
  have hx := C.1
  have hb := C.2.1
  have hown := C.2.2.2.1
  have hts := C.2.2.2.2.1
  have hE := C.2.2.2.2.2.1
  have hl : lv_has ls 1 [(0, .ref a_t)] := hl
  refine lv_iconst (v := 1) hx hb dX0_deedCount_0 (by decide) ?_
  refine lv_aload_n hx hb dX0_deedCount_1 rfl (lv_at hl 0 rfl) ?_
  refine G_RX0_48 C hw 0 rfl dX0_deedCount_2 ?_
  refine lv_ishl hx hb dX0_deedCount_5 ?_
  exact hret () h hw dX0_deedCount_6 rfl
def B_Court_isDeed_17 (x1 : Int32) (t_points : Int32) (Q : Int32 → Prop) (k0 : Int32) : Prop := narrow .boolean (.int k0) = .int k0 ∧ Q k0 
def B_Court_isDeed_16 (x1 : Int32) (t_points : Int32) (Q : Int32 → Prop) : Prop := B_Court_isDeed_17 x1 t_points Q 0
def P_Court_isDeed (x1 : Int32) (t_points : Int32) (Q : Int32 → Prop) : Prop := (x1 < 0 → B_Court_isDeed_16 x1 t_points Q) ∧ (¬ x1 < 0 → P_Court_deedCount t_points (fun r_1 => (r_1 ≤ x1 → B_Court_isDeed_16 x1 t_points Q) ∧ (¬ r_1 ≤ x1 → B_Court_isDeed_17 x1 t_points Q 1)))
abbrev rm_Court_isDeed : Room := { frames := 1, cells := 0, slots := 0, locals := 20 }
def cs_Court_isDeed (g : GE) (a_t a_t_weights a_t_costs a_t_roll a_t_by a_t_judgments : Nat) (t_points : Int32) (t_allJudged : Int32) : va_W := [oc a_t 0 [.ref a_t_weights, .ref a_t_costs, .ref a_t_roll, .int t_points, .ref a_t_by, .ref a_t_judgments, .int t_allJudged]]
set_option maxHeartbeats 4000000 in
set_option maxRecDepth 100000 in
theorem c_Court_isDeed (l : Launch) (g : GE) (a_t a_t_weights a_t_costs a_t_roll a_t_by a_t_judgments : Nat) (t_points : Int32) (t_allJudged : Int32) (x1 : Int32) (Q : Int32 → Prop) (h : P_Court_isDeed x1 t_points Q) : Cti l g yX0_isDeed cX0_isDeed 2 (some .boolean) rm_Court_isDeed [.ref a_t, .int x1] (cs_Court_isDeed g a_t a_t_weights a_t_costs a_t_roll a_t_by a_t_judgments t_points t_allJudged) (S := Unit) (fun r u => Q r) (fun _ => (cs_Court_isDeed g a_t a_t_weights a_t_costs a_t_roll a_t_by a_t_judgments t_points t_allJudged)) := by
  refine meetI rfl (Nat.le_of_ble_eq_true rfl) ⟨rfl, rfl⟩ ?_
  intro p e s m args below meth c A Qf ls C hret hw hl
  have hx := C.1
  have hb := C.2.1
  have hown := C.2.2.2.1
  have hts := C.2.2.2.2.1
  have hE := C.2.2.2.2.2.1
  have hl : lv_has ls 2 [(0, .ref a_t), (1, .int x1)] := hl
  have hB_Court_isDeed_17 : ∀ (k0 : Int32), B_Court_isDeed_17 x1 t_points Q k0 → Wat p l e rm_Court_isDeed s m args below meth c A Qf g 2 (cs_Court_isDeed g a_t a_t_weights a_t_costs a_t_roll a_t_by a_t_judgments t_points t_allJudged) [] 17 [.int k0] := by
    intro k0 h H locs ls hw hl
    exact hret () h.2 hw dX0_isDeed_17 h.1
  have hB_Court_isDeed_16 : B_Court_isDeed_16 x1 t_points Q → Wat p l e rm_Court_isDeed s m args below meth c A Qf g 2 (cs_Court_isDeed g a_t a_t_weights a_t_costs a_t_roll a_t_by a_t_judgments t_points t_allJudged) [] 16 [] := by
    intro  h H locs ls hw hl
    refine lv_iconst (v := 0) hx hb dX0_isDeed_16 (by decide) ?_
    exact hB_Court_isDeed_17 0 h _ _ _ hw (lv_sub hl [] rfl)
  refine lv_iload_n hx hb dX0_isDeed_0 rfl (lv_at hl 1 rfl) ?_
  refine lv_if_lt (tgt := 16) hx hb dX0_isDeed_1 (by decide) (fun c_1 => ?_) (fun c_1 => ?_)
  · have h := h.1 c_1
    exact hB_Court_isDeed_16  h _ _ _ hw (lv_sub hl [] rfl)
  · have h := h.2 c_1
    refine lv_iload_n hx hb dX0_isDeed_4 rfl (lv_at hl 1 rfl) ?_
    refine lv_aload_n hx hb dX0_isDeed_5 rfl (lv_at hl 0 rfl) ?_
    refine callVi (As := []) (rest := [.int x1]) (W2 := fun _ => (cs_Court_isDeed g a_t a_t_weights a_t_costs a_t_roll a_t_by a_t_judgments t_points t_allJudged)) C hw hl (c_Court_deedCount l g a_t a_t_weights a_t_costs a_t_roll a_t_by a_t_judgments t_points t_allJudged _ h) tw_591 kk_X0_deedCount rfl ⟨rfl, rfl⟩ ⟨by decide, by decide⟩ (Nat.le_of_ble_eq_true rfl) 0 rfl rfl rfl [0] [] [0] rfl rfl rfl rfl rfl rfl (fun u => rfl) rfl dX0_isDeed_6 (fun r_1 u H locs h hw => ?_)
    refine lv_icmp_ge (tgt := 16) hx hb dX0_isDeed_9 (by decide) (fun c_9 => ?_) (fun c_9 => ?_)
    · have h := h.1 c_9
      exact hB_Court_isDeed_16  h _ _ _ hw (lv_sub hl [] rfl)
    · have h := h.2 c_9
      refine lv_iconst (v := 1) hx hb dX0_isDeed_12 (by decide) ?_
      refine lv_goto (tgt := 17) hx hb dX0_isDeed_13 (by decide) ?_
      exact hB_Court_isDeed_17 1 h _ _ _ hw (lv_sub hl [] rfl)
def P_Court_likestCase (x1 : Int32) (t_roll_size : Int32) (t_roll_deeds : (Nat → Int32)) (t_roll_elders : (Nat → Int32)) (t_weights_sums : (Nat → Int32)) (Q : Int32 → Prop) : Prop := P_Roll_allCases t_roll_size (fun r_1 => P_Roll_likest x1 r_1 t_roll_size t_roll_deeds t_roll_elders t_weights_sums (fun r_2 => Q r_2))
abbrev rm_Court_likestCase : Room := { frames := 2, cells := 0, slots := 0, locals := 48 }
def cs_Court_likestCase (g : GE) (a_t a_t_roll a_t_weights a_t_roll_deeds a_t_roll_elders a_t_weights_sums a_t_costs a_t_by a_t_judgments a_t_roll_firstJudgments a_t_roll_years a_t_roll_pardoned a_t_weights_each : Nat) (t_points : Int32) (t_allJudged : Int32) (t_roll_size : Int32) (t_weights_points : Int32) (t_roll_deeds : (Nat → Int32)) (t_roll_elders : (Nat → Int32)) (t_weights_sums : (Nat → Int32)) : va_W := [oc a_t 0 [.ref a_t_weights, .ref a_t_costs, .ref a_t_roll, .int t_points, .ref a_t_by, .ref a_t_judgments, .int t_allJudged], oc a_t_roll 5 [.ref a_t_roll_deeds, .ref a_t_roll_firstJudgments, .ref a_t_roll_years, .ref a_t_roll_pardoned, .ref a_t_roll_elders, .int t_roll_size], oc a_t_weights 6 [.ref a_t_weights_each, .ref a_t_weights_sums, .int t_weights_points], ai g a_t_roll_deeds 12 t_roll_deeds, ai g a_t_roll_elders 12 t_roll_elders, ai g a_t_weights_sums 1024 t_weights_sums]
set_option maxHeartbeats 4000000 in
set_option maxRecDepth 100000 in
theorem c_Court_likestCase (l : Launch) (g : GE) (a_t a_t_roll a_t_weights a_t_roll_deeds a_t_roll_elders a_t_weights_sums a_t_costs a_t_by a_t_judgments a_t_roll_firstJudgments a_t_roll_years a_t_roll_pardoned a_t_weights_each : Nat) (t_points : Int32) (t_allJudged : Int32) (t_roll_size : Int32) (t_weights_points : Int32) (t_roll_deeds : (Nat → Int32)) (t_roll_elders : (Nat → Int32)) (t_weights_sums : (Nat → Int32)) (x1 : Int32) (Q : Int32 → Prop) (h : P_Court_likestCase x1 t_roll_size t_roll_deeds t_roll_elders t_weights_sums Q) : Cti l g yX0_likestCase cX0_likestCase 2 (some .int) rm_Court_likestCase [.ref a_t, .int x1] (cs_Court_likestCase g a_t a_t_roll a_t_weights a_t_roll_deeds a_t_roll_elders a_t_weights_sums a_t_costs a_t_by a_t_judgments a_t_roll_firstJudgments a_t_roll_years a_t_roll_pardoned a_t_weights_each t_points t_allJudged t_roll_size t_weights_points t_roll_deeds t_roll_elders t_weights_sums) (S := Unit) (fun r u => Q r) (fun _ => (cs_Court_likestCase g a_t a_t_roll a_t_weights a_t_roll_deeds a_t_roll_elders a_t_weights_sums a_t_costs a_t_by a_t_judgments a_t_roll_firstJudgments a_t_roll_years a_t_roll_pardoned a_t_weights_each t_points t_allJudged t_roll_size t_weights_points t_roll_deeds t_roll_elders t_weights_sums)) := by
  refine meetI rfl (Nat.le_of_ble_eq_true rfl) ⟨rfl, rfl⟩ ?_
  intro p e s m args below meth c A Qf ls C hret hw hl
  have hx := C.1
  have hb := C.2.1
  have hown := C.2.2.2.1
  have hts := C.2.2.2.2.1
  have hE := C.2.2.2.2.2.1
  have hl : lv_has ls 2 [(0, .ref a_t), (1, .int x1)] := hl
  refine lv_aload_n hx hb dX0_likestCase_0 rfl (lv_at hl 0 rfl) ?_
  refine G_RX0_24 C hw 0 rfl dX0_likestCase_1 ?_
  refine lv_iload_n hx hb dX0_likestCase_4 rfl (lv_at hl 1 rfl) ?_
  refine lv_aload_n hx hb dX0_likestCase_5 rfl (lv_at hl 0 rfl) ?_
  refine G_RX0_24 C hw 0 rfl dX0_likestCase_6 ?_
  refine callVi (As := []) (rest := [.int x1, .ref a_t_roll]) (W2 := fun _ => (cs_Court_likestCase g a_t a_t_roll a_t_weights a_t_roll_deeds a_t_roll_elders a_t_weights_sums a_t_costs a_t_by a_t_judgments a_t_roll_firstJudgments a_t_roll_years a_t_roll_pardoned a_t_weights_each t_points t_allJudged t_roll_size t_weights_points t_roll_deeds t_roll_elders t_weights_sums)) C hw hl (c_Roll_allCases l g a_t_roll a_t_roll_deeds a_t_roll_firstJudgments a_t_roll_years a_t_roll_pardoned a_t_roll_elders t_roll_size _ h) tw_599 kk_X5_allCases rfl ⟨rfl, rfl⟩ ⟨by decide, by decide⟩ (Nat.le_of_ble_eq_true rfl) 1 rfl rfl rfl [1] [0, 2, 3, 4, 5] [0, 5, 1, 2, 3, 4] rfl rfl rfl rfl rfl rfl (fun u => rfl) rfl dX0_likestCase_9 (fun r_1 u H locs h hw => ?_)
  refine lv_aload_n hx hb dX0_likestCase_12 rfl (lv_at hl 0 rfl) ?_
  refine G_RX0_12 C hw 0 rfl dX0_likestCase_13 ?_
  refine callVi (As := [.int x1, .int r_1, .ref a_t_weights]) (rest := []) (W2 := fun _ => (cs_Court_likestCase g a_t a_t_roll a_t_weights a_t_roll_deeds a_t_roll_elders a_t_weights_sums a_t_costs a_t_by a_t_judgments a_t_roll_firstJudgments a_t_roll_years a_t_roll_pardoned a_t_weights_each t_points t_allJudged t_roll_size t_weights_points t_roll_deeds t_roll_elders t_weights_sums)) C hw hl (c_Roll_likest l g a_t_roll a_t_roll_deeds a_t_roll_elders a_t_weights a_t_weights_sums a_t_roll_firstJudgments a_t_roll_years a_t_roll_pardoned a_t_weights_each t_roll_size t_roll_deeds t_roll_elders t_weights_points t_weights_sums x1 r_1 _ h) tw_603 kk_X5_likest rfl ⟨rfl, rfl⟩ ⟨by decide, by decide⟩ (Nat.le_of_ble_eq_true rfl) 1 rfl rfl rfl [1, 3, 4, 2, 5] [0] [0, 1, 4, 2, 3, 5] rfl rfl rfl rfl rfl rfl (fun u => rfl) rfl dX0_likestCase_16 (fun r_2 u H locs h hw => ?_)
  exact hret () h hw dX0_likestCase_19 rfl
def P_Court_likeness (x1 : Int32) (x2 : Int32) (t_points : Int32) (t_roll_size : Int32) (t_roll_deeds : (Nat → Int32)) (t_weights_sums : (Nat → Int32)) (Q : Int32 → Prop) : Prop := P_Court_deedCount t_points (fun r_1 => P_Scale_together (r_1 - 1) t_weights_sums (fun r_2 => P_Roll_deedOf x2 t_roll_size t_roll_deeds (fun r_3 => P_Scale_together (x1 ^^^ r_3) t_weights_sums (fun r_4 => Q (r_2 - r_4)))))
abbrev rm_Court_likeness : Room := { frames := 1, cells := 0, slots := 0, locals := 21 }
def cs_Court_likeness (g : GE) (a_t a_t_roll a_t_weights a_t_roll_deeds a_t_weights_sums a_t_costs a_t_by a_t_judgments a_t_roll_firstJudgments a_t_roll_years a_t_roll_pardoned a_t_roll_elders a_t_weights_each : Nat) (t_points : Int32) (t_allJudged : Int32) (t_roll_size : Int32) (t_weights_points : Int32) (t_roll_deeds : (Nat → Int32)) (t_weights_sums : (Nat → Int32)) : va_W := [oc a_t 0 [.ref a_t_weights, .ref a_t_costs, .ref a_t_roll, .int t_points, .ref a_t_by, .ref a_t_judgments, .int t_allJudged], oc a_t_roll 5 [.ref a_t_roll_deeds, .ref a_t_roll_firstJudgments, .ref a_t_roll_years, .ref a_t_roll_pardoned, .ref a_t_roll_elders, .int t_roll_size], oc a_t_weights 6 [.ref a_t_weights_each, .ref a_t_weights_sums, .int t_weights_points], ai g a_t_roll_deeds 12 t_roll_deeds, ai g a_t_weights_sums 1024 t_weights_sums]
set_option maxHeartbeats 4000000 in
set_option maxRecDepth 100000 in
theorem c_Court_likeness (l : Launch) (g : GE) (a_t a_t_roll a_t_weights a_t_roll_deeds a_t_weights_sums a_t_costs a_t_by a_t_judgments a_t_roll_firstJudgments a_t_roll_years a_t_roll_pardoned a_t_roll_elders a_t_weights_each : Nat) (t_points : Int32) (t_allJudged : Int32) (t_roll_size : Int32) (t_weights_points : Int32) (t_roll_deeds : (Nat → Int32)) (t_weights_sums : (Nat → Int32)) (x1 : Int32) (x2 : Int32) (Q : Int32 → Prop) (h : P_Court_likeness x1 x2 t_points t_roll_size t_roll_deeds t_weights_sums Q) : Cti l g yX0_likeness cX0_likeness 3 (some .int) rm_Court_likeness [.ref a_t, .int x1, .int x2] (cs_Court_likeness g a_t a_t_roll a_t_weights a_t_roll_deeds a_t_weights_sums a_t_costs a_t_by a_t_judgments a_t_roll_firstJudgments a_t_roll_years a_t_roll_pardoned a_t_roll_elders a_t_weights_each t_points t_allJudged t_roll_size t_weights_points t_roll_deeds t_weights_sums) (S := Unit) (fun r u => Q r) (fun _ => (cs_Court_likeness g a_t a_t_roll a_t_weights a_t_roll_deeds a_t_weights_sums a_t_costs a_t_by a_t_judgments a_t_roll_firstJudgments a_t_roll_years a_t_roll_pardoned a_t_roll_elders a_t_weights_each t_points t_allJudged t_roll_size t_weights_points t_roll_deeds t_weights_sums)) := by
  refine meetI rfl (Nat.le_of_ble_eq_true rfl) ⟨rfl, rfl⟩ ?_
  intro p e s m args below meth c A Qf ls C hret hw hl
  have hx := C.1
  have hb := C.2.1
  have hown := C.2.2.2.1
  have hts := C.2.2.2.2.1
  have hE := C.2.2.2.2.2.1
  have hl : lv_has ls 3 [(0, .ref a_t), (1, .int x1), (2, .int x2)] := hl
  refine lv_aload_n hx hb dX0_likeness_0 rfl (lv_at hl 0 rfl) ?_
  refine G_RX0_12 C hw 0 rfl dX0_likeness_1 ?_
  refine lv_aload_n hx hb dX0_likeness_4 rfl (lv_at hl 0 rfl) ?_
  refine callVi (As := []) (rest := [.ref a_t_weights]) (W2 := fun _ => (cs_Court_likeness g a_t a_t_roll a_t_weights a_t_roll_deeds a_t_weights_sums a_t_costs a_t_by a_t_judgments a_t_roll_firstJudgments a_t_roll_years a_t_roll_pardoned a_t_roll_elders a_t_weights_each t_points t_allJudged t_roll_size t_weights_points t_roll_deeds t_weights_sums)) C hw hl (c_Court_deedCount l g a_t a_t_weights a_t_costs a_t_roll a_t_by a_t_judgments t_points t_allJudged _ h) tw_591 kk_X0_deedCount rfl ⟨rfl, rfl⟩ ⟨by decide, by decide⟩ (Nat.le_of_ble_eq_true rfl) 0 rfl rfl rfl [0] [1, 2, 3, 4] [4, 0, 1, 2, 3] rfl rfl rfl rfl rfl rfl (fun u => rfl) rfl dX0_likeness_5 (fun r_1 u H locs h hw => ?_)
  refine lv_iconst (v := 1) hx hb dX0_likeness_8 (by decide) ?_
  refine lv_isub hx hb dX0_likeness_9 ?_
  refine callVi (As := [.int (r_1 - 1)]) (rest := []) (W2 := fun _ => (cs_Court_likeness g a_t a_t_roll a_t_weights a_t_roll_deeds a_t_weights_sums a_t_costs a_t_by a_t_judgments a_t_roll_firstJudgments a_t_roll_years a_t_roll_pardoned a_t_roll_elders a_t_weights_each t_points t_allJudged t_roll_size t_weights_points t_roll_deeds t_weights_sums)) C hw hl (c_Scale_together l g a_t_weights a_t_weights_sums a_t_weights_each t_weights_points t_weights_sums (r_1 - 1) _ h) tw_616 kk_X6_together rfl ⟨rfl, rfl⟩ ⟨by decide, by decide⟩ (Nat.le_of_ble_eq_true rfl) 2 rfl rfl rfl [2, 4] [0, 1, 3] [0, 1, 3, 2, 4] rfl rfl rfl rfl rfl rfl (fun u => rfl) rfl dX0_likeness_10 (fun r_2 u H locs h hw => ?_)
  refine lv_aload_n hx hb dX0_likeness_13 rfl (lv_at hl 0 rfl) ?_
  refine G_RX0_12 C hw 0 rfl dX0_likeness_14 ?_
  refine lv_iload_n hx hb dX0_likeness_17 rfl (lv_at hl 1 rfl) ?_
  refine lv_aload_n hx hb dX0_likeness_18 rfl (lv_at hl 0 rfl) ?_
  refine G_RX0_24 C hw 0 rfl dX0_likeness_19 ?_
  refine lv_iload_n hx hb dX0_likeness_22 rfl (lv_at hl 2 rfl) ?_
  refine callVi (As := [.int x2]) (rest := [.int x1, .ref a_t_weights, .int r_2]) (W2 := fun _ => (cs_Court_likeness g a_t a_t_roll a_t_weights a_t_roll_deeds a_t_weights_sums a_t_costs a_t_by a_t_judgments a_t_roll_firstJudgments a_t_roll_years a_t_roll_pardoned a_t_roll_elders a_t_weights_each t_points t_allJudged t_roll_size t_weights_points t_roll_deeds t_weights_sums)) C hw hl (c_Roll_deedOf l g a_t_roll a_t_roll_deeds a_t_roll_firstJudgments a_t_roll_years a_t_roll_pardoned a_t_roll_elders t_roll_size t_roll_deeds x2 _ h) tw_617 kk_X5_deedOf rfl ⟨rfl, rfl⟩ ⟨by decide, by decide⟩ (Nat.le_of_ble_eq_true rfl) 1 rfl rfl rfl [1, 3] [0, 2, 4] [0, 3, 1, 4, 2] rfl rfl rfl rfl rfl rfl (fun u => rfl) rfl dX0_likeness_23 (fun r_3 u H locs h hw => ?_)
  refine lv_ixor hx hb dX0_likeness_26 ?_
  refine callVi (As := [.int (x1 ^^^ r_3)]) (rest := [.int r_2]) (W2 := fun _ => (cs_Court_likeness g a_t a_t_roll a_t_weights a_t_roll_deeds a_t_weights_sums a_t_costs a_t_by a_t_judgments a_t_roll_firstJudgments a_t_roll_years a_t_roll_pardoned a_t_roll_elders a_t_weights_each t_points t_allJudged t_roll_size t_weights_points t_roll_deeds t_weights_sums)) C hw hl (c_Scale_together l g a_t_weights a_t_weights_sums a_t_weights_each t_weights_points t_weights_sums (x1 ^^^ r_3) _ h) tw_616 kk_X6_together rfl ⟨rfl, rfl⟩ ⟨by decide, by decide⟩ (Nat.le_of_ble_eq_true rfl) 2 rfl rfl rfl [2, 4] [0, 1, 3] [0, 1, 3, 2, 4] rfl rfl rfl rfl rfl rfl (fun u => rfl) rfl dX0_likeness_27 (fun r_4 u H locs h hw => ?_)
  refine lv_isub hx hb dX0_likeness_30 ?_
  exact hret () h hw dX0_likeness_31 rfl
def L_Court_judgeAll_31 (t_points : Int32) (t_roll_size : Int32) (t_roll_deeds : (Nat → Int32)) (t_roll_elders : (Nat → Int32)) (t_roll_firstJudgments : (Nat → Int32)) (t_roll_pardoned : (Nat → Int32)) (t_weights_sums : (Nat → Int32)) (Q : Int32 → (Nat → Int32) → (Nat → Int32) → Prop) : Nat → Int32 → Int32 → Int32 → (Nat → Int32) → (Nat → Int32) → Prop
  | 0 => fun _ _ _ _ _ => False
  | n + 1 => fun x1 x2 t_allJudged t_by t_judgments => (x1 ≤ x2 → Q 1 t_by t_judgments) ∧ (¬ x1 ≤ x2 → P_Court_likestCase x2 t_roll_size t_roll_deeds t_roll_elders t_weights_sums (fun r_1 => vp_in x2 1024 ∧ (vp_in x2 1024 ∧ (P_Roll_judgmentOf ((upd t_by x2.toNatClampNeg r_1) x2.toNatClampNeg) t_roll_size t_roll_firstJudgments t_roll_pardoned (fun r_2 => vp_in x2 1024 ∧ ((L_Court_judgeAll_31 t_points t_roll_size t_roll_deeds t_roll_elders t_roll_firstJudgments t_roll_pardoned t_weights_sums Q n) x1 (x2 + 1) t_allJudged (upd t_by x2.toNatClampNeg r_1) (upd t_judgments x2.toNatClampNeg r_2)))))))
def P_Court_judgeAll (t_points : Int32) (t_allJudged : Int32) (t_by : (Nat → Int32)) (t_judgments : (Nat → Int32)) (t_roll_size : Int32) (t_roll_deeds : (Nat → Int32)) (t_roll_elders : (Nat → Int32)) (t_roll_firstJudgments : (Nat → Int32)) (t_roll_pardoned : (Nat → Int32)) (t_weights_sums : (Nat → Int32)) (Q : Int32 → (Nat → Int32) → (Nat → Int32) → Prop) : Prop := (t_allJudged = 0 → P_Court_deedCount t_points (fun r_3 => ∀ x1_4 : Int32, x1_4 = (if (if (nI 1024) < (nI 1024) then (nI 1024) else (nI 1024)) < r_3 then (if (nI 1024) < (nI 1024) then (nI 1024) else (nI 1024)) else r_3) → ∃ n_31 : Nat, L_Court_judgeAll_31 t_points t_roll_size t_roll_deeds t_roll_elders t_roll_firstJudgments t_roll_pardoned t_weights_sums Q n_31 x1_4 0 t_allJudged t_by t_judgments)) ∧ (¬ t_allJudged = 0 → Q t_allJudged t_by t_judgments)
abbrev rm_Court_judgeAll : Room := { frames := 3, cells := 0, slots := 0, locals := 69 }
def cs_Court_judgeAll (g : GE) (a_t a_t_by a_t_judgments a_t_roll a_t_weights a_t_roll_deeds a_t_roll_elders a_t_roll_firstJudgments a_t_roll_pardoned a_t_weights_sums a_t_costs a_t_roll_years a_t_weights_each : Nat) (t_points : Int32) (t_allJudged : Int32) (t_by : (Nat → Int32)) (t_judgments : (Nat → Int32)) (t_roll_size : Int32) (t_weights_points : Int32) (t_roll_deeds : (Nat → Int32)) (t_roll_elders : (Nat → Int32)) (t_roll_firstJudgments : (Nat → Int32)) (t_roll_pardoned : (Nat → Int32)) (t_weights_sums : (Nat → Int32)) : va_W := [oc a_t 0 [.ref a_t_weights, .ref a_t_costs, .ref a_t_roll, .int t_points, .ref a_t_by, .ref a_t_judgments, .int t_allJudged], ai g a_t_by 1024 t_by, ai g a_t_judgments 1024 t_judgments, oc a_t_roll 5 [.ref a_t_roll_deeds, .ref a_t_roll_firstJudgments, .ref a_t_roll_years, .ref a_t_roll_pardoned, .ref a_t_roll_elders, .int t_roll_size], oc a_t_weights 6 [.ref a_t_weights_each, .ref a_t_weights_sums, .int t_weights_points], ai g a_t_roll_deeds 12 t_roll_deeds, ai g a_t_roll_elders 12 t_roll_elders, ai g a_t_roll_firstJudgments 12 t_roll_firstJudgments, az g a_t_roll_pardoned 12 t_roll_pardoned, ai g a_t_weights_sums 1024 t_weights_sums]
set_option maxHeartbeats 4000000 in
set_option maxRecDepth 100000 in
theorem c_Court_judgeAll (l : Launch) (g : GE) (a_t a_t_by a_t_judgments a_t_roll a_t_weights a_t_roll_deeds a_t_roll_elders a_t_roll_firstJudgments a_t_roll_pardoned a_t_weights_sums a_t_costs a_t_roll_years a_t_weights_each : Nat) (t_points : Int32) (t_allJudged : Int32) (t_by : (Nat → Int32)) (t_judgments : (Nat → Int32)) (t_roll_size : Int32) (t_weights_points : Int32) (t_roll_deeds : (Nat → Int32)) (t_roll_elders : (Nat → Int32)) (t_roll_firstJudgments : (Nat → Int32)) (t_roll_pardoned : (Nat → Int32)) (t_weights_sums : (Nat → Int32)) (Q : Int32 → (Nat → Int32) → (Nat → Int32) → Prop) (h : P_Court_judgeAll t_points t_allJudged t_by t_judgments t_roll_size t_roll_deeds t_roll_elders t_roll_firstJudgments t_roll_pardoned t_weights_sums Q) : Ctv l g yX0_judgeAll cX0_judgeAll 3 none rm_Court_judgeAll [.ref a_t] (cs_Court_judgeAll g a_t a_t_by a_t_judgments a_t_roll a_t_weights a_t_roll_deeds a_t_roll_elders a_t_roll_firstJudgments a_t_roll_pardoned a_t_weights_sums a_t_costs a_t_roll_years a_t_weights_each t_points t_allJudged t_by t_judgments t_roll_size t_weights_points t_roll_deeds t_roll_elders t_roll_firstJudgments t_roll_pardoned t_weights_sums) (S := Int32 × (Nat → Int32) × (Nat → Int32)) (fun u => Q u.1 u.2.1 u.2.2) (fun u => (cs_Court_judgeAll g a_t a_t_by a_t_judgments a_t_roll a_t_weights a_t_roll_deeds a_t_roll_elders a_t_roll_firstJudgments a_t_roll_pardoned a_t_weights_sums a_t_costs a_t_roll_years a_t_weights_each t_points (u.1) (u.2.1) (u.2.2) t_roll_size t_weights_points t_roll_deeds t_roll_elders t_roll_firstJudgments t_roll_pardoned t_weights_sums)) := by
  refine meetV rfl (Nat.le_of_ble_eq_true rfl) ⟨rfl, rfl⟩ ?_
  intro p e s m args below meth c A Qf ls C hret hw hl
  have hx := C.1
  have hb := C.2.1
  have hown := C.2.2.2.1
  have hts := C.2.2.2.2.1
  have hE := C.2.2.2.2.2.1
  have hl : lv_has ls 3 [(0, .ref a_t)] := hl
  have hL_Court_judgeAll_31 : ∀ (n : Nat) (x1 : Int32) (x2 : Int32) (t_allJudged : Int32) (t_by : (Nat → Int32)) (t_judgments : (Nat → Int32)), L_Court_judgeAll_31 t_points t_roll_size t_roll_deeds t_roll_elders t_roll_firstJudgments t_roll_pardoned t_weights_sums Q n x1 x2 t_allJudged t_by t_judgments → Wat p l e rm_Court_judgeAll s m args below meth c A Qf g 3 (cs_Court_judgeAll g a_t a_t_by a_t_judgments a_t_roll a_t_weights a_t_roll_deeds a_t_roll_elders a_t_roll_firstJudgments a_t_roll_pardoned a_t_weights_sums a_t_costs a_t_roll_years a_t_weights_each t_points t_allJudged t_by t_judgments t_roll_size t_weights_points t_roll_deeds t_roll_elders t_roll_firstJudgments t_roll_pardoned t_weights_sums) [(0, .ref a_t), (1, .int x1), (2, .int x2)] 31 [] := by
    intro n
    induction n with
    | zero => intro x1 x2 t_allJudged t_by t_judgments h; exact absurd h id
    | succ n ih =>
      intro x1 x2 t_allJudged t_by t_judgments h H locs ls hw hl
      rw [L_Court_judgeAll_31] at h
      refine lv_iload_n hx hb dX0_judgeAll_31 rfl (lv_at hl 2 rfl) ?_
      refine lv_iload_n hx hb dX0_judgeAll_32 rfl (lv_at hl 1 rfl) ?_
      refine lv_icmp_ge (tgt := 72) hx hb dX0_judgeAll_33 (by decide) (fun c_33 => ?_) (fun c_33 => ?_)
      · have h := h.1 c_33
        refine lv_aload_n hx hb dX0_judgeAll_72 rfl (lv_at hl 0 rfl) ?_
        refine lv_iconst (v := 1) hx hb dX0_judgeAll_73 (by decide) ?_
        refine U_RX0_59 (ws2 := (cs_Court_judgeAll g a_t a_t_by a_t_judgments a_t_roll a_t_weights a_t_roll_deeds a_t_roll_elders a_t_roll_firstJudgments a_t_roll_pardoned a_t_weights_sums a_t_costs a_t_roll_years a_t_weights_each t_points 1 t_by t_judgments t_roll_size t_weights_points t_roll_deeds t_roll_elders t_roll_firstJudgments t_roll_pardoned t_weights_sums)) C hw 0 rfl rfl rfl rfl dX0_judgeAll_74 (fun H locs hw => ?_)
        exact hret (1, t_by, t_judgments) h hw dX0_judgeAll_77
      · have h := h.2 c_33
        refine lv_aload_n hx hb dX0_judgeAll_36 rfl (lv_at hl 0 rfl) ?_
        refine G_RX0_28 C hw 0 rfl dX0_judgeAll_37 ?_
        refine lv_iload_n hx hb dX0_judgeAll_40 rfl (lv_at hl 2 rfl) ?_
        refine lv_aload_n hx hb dX0_judgeAll_41 rfl (lv_at hl 0 rfl) ?_
        refine lv_iload_n hx hb dX0_judgeAll_42 rfl (lv_at hl 2 rfl) ?_
        refine callVi (As := [.int x2]) (rest := [.int x2, .ref a_t_by]) (W2 := fun _ => (cs_Court_judgeAll g a_t a_t_by a_t_judgments a_t_roll a_t_weights a_t_roll_deeds a_t_roll_elders a_t_roll_firstJudgments a_t_roll_pardoned a_t_weights_sums a_t_costs a_t_roll_years a_t_weights_each t_points t_allJudged t_by t_judgments t_roll_size t_weights_points t_roll_deeds t_roll_elders t_roll_firstJudgments t_roll_pardoned t_weights_sums)) C hw hl (c_Court_likestCase l g a_t a_t_roll a_t_weights a_t_roll_deeds a_t_roll_elders a_t_weights_sums a_t_costs a_t_by a_t_judgments a_t_roll_firstJudgments a_t_roll_years a_t_roll_pardoned a_t_weights_each t_points t_allJudged t_roll_size t_weights_points t_roll_deeds t_roll_elders t_weights_sums x2 _ h) tw_645 kk_X0_likestCase rfl ⟨rfl, rfl⟩ ⟨by decide, by decide⟩ (Nat.le_of_ble_eq_true rfl) 0 rfl rfl rfl [0, 3, 4, 5, 6, 9] [1, 2, 7, 8] [4, 0, 1, 5, 6, 7, 8, 2, 3, 9] rfl rfl rfl rfl rfl rfl (fun u => rfl) rfl dX0_judgeAll_43 (fun r_1 u H locs h hw => ?_)
        refine astI (ws2 := (cs_Court_judgeAll g a_t a_t_by a_t_judgments a_t_roll a_t_weights a_t_roll_deeds a_t_roll_elders a_t_roll_firstJudgments a_t_roll_pardoned a_t_weights_sums a_t_costs a_t_roll_years a_t_weights_each t_points t_allJudged (upd t_by x2.toNatClampNeg r_1) t_judgments t_roll_size t_weights_points t_roll_deeds t_roll_elders t_roll_firstJudgments t_roll_pardoned t_weights_sums)) C hw 1 rfl h.1 rfl dX0_judgeAll_46 (fun H locs hw => ?_)
        have h := h.2
        refine lv_aload_n hx hb dX0_judgeAll_47 rfl (lv_at hl 0 rfl) ?_
        refine G_RX0_32 C hw 0 rfl dX0_judgeAll_48 ?_
        refine lv_iload_n hx hb dX0_judgeAll_51 rfl (lv_at hl 2 rfl) ?_
        refine lv_aload_n hx hb dX0_judgeAll_52 rfl (lv_at hl 0 rfl) ?_
        refine G_RX0_24 C hw 0 rfl dX0_judgeAll_53 ?_
        refine lv_aload_n hx hb dX0_judgeAll_56 rfl (lv_at hl 0 rfl) ?_
        refine G_RX0_28 C hw 0 rfl dX0_judgeAll_57 ?_
        refine lv_iload_n hx hb dX0_judgeAll_60 rfl (lv_at hl 2 rfl) ?_
        refine aldI C hw 1 rfl h.1 dX0_judgeAll_61 ?_
        have h := h.2
        refine callVi (As := [.int ((upd t_by x2.toNatClampNeg r_1) x2.toNatClampNeg)]) (rest := [.int x2, .ref a_t_judgments]) (W2 := fun _ => (cs_Court_judgeAll g a_t a_t_by a_t_judgments a_t_roll a_t_weights a_t_roll_deeds a_t_roll_elders a_t_roll_firstJudgments a_t_roll_pardoned a_t_weights_sums a_t_costs a_t_roll_years a_t_weights_each t_points t_allJudged (upd t_by x2.toNatClampNeg r_1) t_judgments t_roll_size t_weights_points t_roll_deeds t_roll_elders t_roll_firstJudgments t_roll_pardoned t_weights_sums)) C hw hl (c_Roll_judgmentOf l g a_t_roll a_t_roll_firstJudgments a_t_roll_pardoned a_t_roll_deeds a_t_roll_years a_t_roll_elders t_roll_size t_roll_firstJudgments t_roll_pardoned ((upd t_by x2.toNatClampNeg r_1) x2.toNatClampNeg) _ h) tw_646 kk_X5_judgmentOf rfl ⟨rfl, rfl⟩ ⟨by decide, by decide⟩ (Nat.le_of_ble_eq_true rfl) 3 rfl rfl rfl [3, 7, 8] [0, 1, 2, 4, 5, 6, 9] [0, 1, 2, 7, 3, 4, 5, 8, 9, 6] rfl rfl rfl rfl rfl rfl (fun u => rfl) rfl dX0_judgeAll_62 (fun r_2 u H locs h hw => ?_)
        refine astI (ws2 := (cs_Court_judgeAll g a_t a_t_by a_t_judgments a_t_roll a_t_weights a_t_roll_deeds a_t_roll_elders a_t_roll_firstJudgments a_t_roll_pardoned a_t_weights_sums a_t_costs a_t_roll_years a_t_weights_each t_points t_allJudged (upd t_by x2.toNatClampNeg r_1) (upd t_judgments x2.toNatClampNeg r_2) t_roll_size t_weights_points t_roll_deeds t_roll_elders t_roll_firstJudgments t_roll_pardoned t_weights_sums)) C hw 2 rfl h.1 rfl dX0_judgeAll_65 (fun H locs hw => ?_)
        have h := h.2
        refine lv_iinc (v := x2 + 1) (lv' := [(2, .int (x2 + 1)), (0, .ref a_t), (1, .int x1)]) hx hb dX0_judgeAll_66 hl (k := 2) rfl rfl (by decide) rfl (fun ls hl => ?_)
        refine lv_goto (tgt := 31) hx hb dX0_judgeAll_69 (by decide) ?_
        exact ih x1 (x2 + 1) t_allJudged (upd t_by x2.toNatClampNeg r_1) (upd t_judgments x2.toNatClampNeg r_2) h _ _ _ hw (lv_sub hl [1, 2, 0] rfl)
  refine lv_aload_n hx hb dX0_judgeAll_0 rfl (lv_at hl 0 rfl) ?_
  refine G_RX0_59 C hw 0 rfl dX0_judgeAll_1 ?_
  refine lv_if_eq (tgt := 8) hx hb dX0_judgeAll_4 (by decide) (fun c_4 => ?_) (fun c_4 => ?_)
  · have h := h.1 c_4
    refine lv_aload_n hx hb dX0_judgeAll_8 rfl (lv_at hl 0 rfl) ?_
    refine callVi (As := []) (rest := []) (W2 := fun _ => (cs_Court_judgeAll g a_t a_t_by a_t_judgments a_t_roll a_t_weights a_t_roll_deeds a_t_roll_elders a_t_roll_firstJudgments a_t_roll_pardoned a_t_weights_sums a_t_costs a_t_roll_years a_t_weights_each t_points t_allJudged t_by t_judgments t_roll_size t_weights_points t_roll_deeds t_roll_elders t_roll_firstJudgments t_roll_pardoned t_weights_sums)) C hw hl (c_Court_deedCount l g a_t a_t_weights a_t_costs a_t_roll a_t_by a_t_judgments t_points t_allJudged _ h) tw_591 kk_X0_deedCount rfl ⟨rfl, rfl⟩ ⟨by decide, by decide⟩ (Nat.le_of_ble_eq_true rfl) 0 rfl rfl rfl [0] [1, 2, 3, 4, 5, 6, 7, 8, 9] [9, 0, 1, 2, 3, 4, 5, 6, 7, 8] rfl rfl rfl rfl rfl rfl (fun u => rfl) rfl dX0_judgeAll_9 (fun r_3 u H locs h hw => ?_)
    refine lv_aload_n hx hb dX0_judgeAll_12 rfl (lv_at hl 0 rfl) ?_
    refine G_RX0_28 C hw 0 rfl dX0_judgeAll_13 ?_
    refine alnI C hw 1 rfl dX0_judgeAll_16 ?_
    refine lv_aload_n hx hb dX0_judgeAll_17 rfl (lv_at hl 0 rfl) ?_
    refine G_RX0_32 C hw 0 rfl dX0_judgeAll_18 ?_
    refine alnI C hw 2 rfl dX0_judgeAll_21 ?_
    refine mmin C hl tw_133 kmmin ⟨Nat.le_of_ble_eq_true rfl, Nat.le_of_ble_eq_true rfl⟩ dX0_judgeAll_22 ?_
    refine mmin C hl tw_133 kmmin ⟨Nat.le_of_ble_eq_true rfl, Nat.le_of_ble_eq_true rfl⟩ dX0_judgeAll_25 ?_
    refine lv_topi (fun x1_4 ex1_4 => ?_)
    have h := h x1_4 ex1_4
    refine lv_istore_n (lv' := [(1, .int x1_4), (0, .ref a_t)]) hx hb dX0_judgeAll_28 rfl hl (by decide) rfl (fun ls hl => ?_)
    refine lv_iconst (v := 0) hx hb dX0_judgeAll_29 (by decide) ?_
    refine lv_istore_n (lv' := [(2, .int 0), (1, .int x1_4), (0, .ref a_t)]) hx hb dX0_judgeAll_30 rfl hl (by decide) rfl (fun ls hl => ?_)
    obtain ⟨n_31, h⟩ := h
    exact hL_Court_judgeAll_31 n_31 x1_4 0 t_allJudged t_by t_judgments h _ _ _ hw (lv_sub hl [2, 1, 0] rfl)
  · have h := h.2 c_4
    exact hret (t_allJudged, t_by, t_judgments) h hw dX0_judgeAll_7
def B_Court_judgmentOf_23 (x1 : Int32) (t_judgments : (Nat → Int32)) (Q : Int32 → Prop) (k0 : Int32) : Prop := Q k0
def B_Court_judgmentOf_22 (x1 : Int32) (t_judgments : (Nat → Int32)) (Q : Int32 → Prop) : Prop := B_Court_judgmentOf_23 x1 t_judgments Q (-1)
def P_Court_judgmentOf (x1 : Int32) (t_judgments : (Nat → Int32)) (Q : Int32 → Prop) : Prop := (x1 < 0 → B_Court_judgmentOf_22 x1 t_judgments Q) ∧ (¬ x1 < 0 → ((nI 1024) ≤ x1 → B_Court_judgmentOf_22 x1 t_judgments Q) ∧ (¬ (nI 1024) ≤ x1 → vp_in x1 1024 ∧ (B_Court_judgmentOf_23 x1 t_judgments Q (t_judgments x1.toNatClampNeg))))
abbrev rm_Court_judgmentOf : Room := { frames := 0, cells := 0, slots := 0, locals := 0 }
def cs_Court_judgmentOf (g : GE) (a_t a_t_judgments a_t_weights a_t_costs a_t_roll a_t_by : Nat) (t_points : Int32) (t_allJudged : Int32) (t_judgments : (Nat → Int32)) : va_W := [oc a_t 0 [.ref a_t_weights, .ref a_t_costs, .ref a_t_roll, .int t_points, .ref a_t_by, .ref a_t_judgments, .int t_allJudged], ai g a_t_judgments 1024 t_judgments]
set_option maxHeartbeats 4000000 in
set_option maxRecDepth 100000 in
theorem c_Court_judgmentOf (l : Launch) (g : GE) (a_t a_t_judgments a_t_weights a_t_costs a_t_roll a_t_by : Nat) (t_points : Int32) (t_allJudged : Int32) (t_judgments : (Nat → Int32)) (x1 : Int32) (Q : Int32 → Prop) (h : P_Court_judgmentOf x1 t_judgments Q) : Cti l g yX0_judgmentOf cX0_judgmentOf 2 (some .int) rm_Court_judgmentOf [.ref a_t, .int x1] (cs_Court_judgmentOf g a_t a_t_judgments a_t_weights a_t_costs a_t_roll a_t_by t_points t_allJudged t_judgments) (S := Unit) (fun r u => Q r) (fun _ => (cs_Court_judgmentOf g a_t a_t_judgments a_t_weights a_t_costs a_t_roll a_t_by t_points t_allJudged t_judgments)) := by
  refine meetI rfl (Nat.le_of_ble_eq_true rfl) ⟨rfl, rfl⟩ ?_
  intro p e s m args below meth c A Qf ls C hret hw hl
  have hx := C.1
  have hb := C.2.1
  have hown := C.2.2.2.1
  have hts := C.2.2.2.2.1
  have hE := C.2.2.2.2.2.1
  have hl : lv_has ls 2 [(0, .ref a_t), (1, .int x1)] := hl
  have hB_Court_judgmentOf_23 : ∀ (k0 : Int32), B_Court_judgmentOf_23 x1 t_judgments Q k0 → Wat p l e rm_Court_judgmentOf s m args below meth c A Qf g 2 (cs_Court_judgmentOf g a_t a_t_judgments a_t_weights a_t_costs a_t_roll a_t_by t_points t_allJudged t_judgments) [] 23 [.int k0] := by
    intro k0 h H locs ls hw hl
    exact hret () h hw dX0_judgmentOf_23 rfl
  have hB_Court_judgmentOf_22 : B_Court_judgmentOf_22 x1 t_judgments Q → Wat p l e rm_Court_judgmentOf s m args below meth c A Qf g 2 (cs_Court_judgmentOf g a_t a_t_judgments a_t_weights a_t_costs a_t_roll a_t_by t_points t_allJudged t_judgments) [] 22 [] := by
    intro  h H locs ls hw hl
    refine lv_iconst (v := (-1)) hx hb dX0_judgmentOf_22 (by decide) ?_
    exact hB_Court_judgmentOf_23 (-1) h _ _ _ hw (lv_sub hl [] rfl)
  refine lv_iload_n hx hb dX0_judgmentOf_0 rfl (lv_at hl 1 rfl) ?_
  refine lv_if_lt (tgt := 22) hx hb dX0_judgmentOf_1 (by decide) (fun c_1 => ?_) (fun c_1 => ?_)
  · have h := h.1 c_1
    exact hB_Court_judgmentOf_22  h _ _ _ hw (lv_sub hl [] rfl)
  · have h := h.2 c_1
    refine lv_iload_n hx hb dX0_judgmentOf_4 rfl (lv_at hl 1 rfl) ?_
    refine lv_aload_n hx hb dX0_judgmentOf_5 rfl (lv_at hl 0 rfl) ?_
    refine G_RX0_32 C hw 0 rfl dX0_judgmentOf_6 ?_
    refine alnI C hw 1 rfl dX0_judgmentOf_9 ?_
    refine lv_icmp_ge (tgt := 22) hx hb dX0_judgmentOf_10 (by decide) (fun c_10 => ?_) (fun c_10 => ?_)
    · have h := h.1 c_10
      exact hB_Court_judgmentOf_22  h _ _ _ hw (lv_sub hl [] rfl)
    · have h := h.2 c_10
      refine lv_aload_n hx hb dX0_judgmentOf_13 rfl (lv_at hl 0 rfl) ?_
      refine G_RX0_32 C hw 0 rfl dX0_judgmentOf_14 ?_
      refine lv_iload_n hx hb dX0_judgmentOf_17 rfl (lv_at hl 1 rfl) ?_
      refine aldI C hw 1 rfl h.1 dX0_judgmentOf_18 ?_
      have h := h.2
      refine lv_goto (tgt := 23) hx hb dX0_judgmentOf_19 (by decide) ?_
      exact hB_Court_judgmentOf_23 (t_judgments x1.toNatClampNeg) h _ _ _ hw (lv_sub hl [] rfl)
def B_Court_byWhich_23 (x1 : Int32) (t_by : (Nat → Int32)) (Q : Int32 → Prop) (k0 : Int32) : Prop := Q k0
def B_Court_byWhich_22 (x1 : Int32) (t_by : (Nat → Int32)) (Q : Int32 → Prop) : Prop := B_Court_byWhich_23 x1 t_by Q (-1)
def P_Court_byWhich (x1 : Int32) (t_by : (Nat → Int32)) (Q : Int32 → Prop) : Prop := (x1 < 0 → B_Court_byWhich_22 x1 t_by Q) ∧ (¬ x1 < 0 → ((nI 1024) ≤ x1 → B_Court_byWhich_22 x1 t_by Q) ∧ (¬ (nI 1024) ≤ x1 → vp_in x1 1024 ∧ (B_Court_byWhich_23 x1 t_by Q (t_by x1.toNatClampNeg))))
abbrev rm_Court_byWhich : Room := { frames := 0, cells := 0, slots := 0, locals := 0 }
def cs_Court_byWhich (g : GE) (a_t a_t_by a_t_weights a_t_costs a_t_roll a_t_judgments : Nat) (t_points : Int32) (t_allJudged : Int32) (t_by : (Nat → Int32)) : va_W := [oc a_t 0 [.ref a_t_weights, .ref a_t_costs, .ref a_t_roll, .int t_points, .ref a_t_by, .ref a_t_judgments, .int t_allJudged], ai g a_t_by 1024 t_by]
set_option maxHeartbeats 4000000 in
set_option maxRecDepth 100000 in
theorem c_Court_byWhich (l : Launch) (g : GE) (a_t a_t_by a_t_weights a_t_costs a_t_roll a_t_judgments : Nat) (t_points : Int32) (t_allJudged : Int32) (t_by : (Nat → Int32)) (x1 : Int32) (Q : Int32 → Prop) (h : P_Court_byWhich x1 t_by Q) : Cti l g yX0_byWhich cX0_byWhich 2 (some .int) rm_Court_byWhich [.ref a_t, .int x1] (cs_Court_byWhich g a_t a_t_by a_t_weights a_t_costs a_t_roll a_t_judgments t_points t_allJudged t_by) (S := Unit) (fun r u => Q r) (fun _ => (cs_Court_byWhich g a_t a_t_by a_t_weights a_t_costs a_t_roll a_t_judgments t_points t_allJudged t_by)) := by
  refine meetI rfl (Nat.le_of_ble_eq_true rfl) ⟨rfl, rfl⟩ ?_
  intro p e s m args below meth c A Qf ls C hret hw hl
  have hx := C.1
  have hb := C.2.1
  have hown := C.2.2.2.1
  have hts := C.2.2.2.2.1
  have hE := C.2.2.2.2.2.1
  have hl : lv_has ls 2 [(0, .ref a_t), (1, .int x1)] := hl
  have hB_Court_byWhich_23 : ∀ (k0 : Int32), B_Court_byWhich_23 x1 t_by Q k0 → Wat p l e rm_Court_byWhich s m args below meth c A Qf g 2 (cs_Court_byWhich g a_t a_t_by a_t_weights a_t_costs a_t_roll a_t_judgments t_points t_allJudged t_by) [] 23 [.int k0] := by
    intro k0 h H locs ls hw hl
    exact hret () h hw dX0_byWhich_23 rfl
  have hB_Court_byWhich_22 : B_Court_byWhich_22 x1 t_by Q → Wat p l e rm_Court_byWhich s m args below meth c A Qf g 2 (cs_Court_byWhich g a_t a_t_by a_t_weights a_t_costs a_t_roll a_t_judgments t_points t_allJudged t_by) [] 22 [] := by
    intro  h H locs ls hw hl
    refine lv_iconst (v := (-1)) hx hb dX0_byWhich_22 (by decide) ?_
    exact hB_Court_byWhich_23 (-1) h _ _ _ hw (lv_sub hl [] rfl)
  refine lv_iload_n hx hb dX0_byWhich_0 rfl (lv_at hl 1 rfl) ?_
  refine lv_if_lt (tgt := 22) hx hb dX0_byWhich_1 (by decide) (fun c_1 => ?_) (fun c_1 => ?_)
  · have h := h.1 c_1
    exact hB_Court_byWhich_22  h _ _ _ hw (lv_sub hl [] rfl)
  · have h := h.2 c_1
    refine lv_iload_n hx hb dX0_byWhich_4 rfl (lv_at hl 1 rfl) ?_
    refine lv_aload_n hx hb dX0_byWhich_5 rfl (lv_at hl 0 rfl) ?_
    refine G_RX0_28 C hw 0 rfl dX0_byWhich_6 ?_
    refine alnI C hw 1 rfl dX0_byWhich_9 ?_
    refine lv_icmp_ge (tgt := 22) hx hb dX0_byWhich_10 (by decide) (fun c_10 => ?_) (fun c_10 => ?_)
    · have h := h.1 c_10
      exact hB_Court_byWhich_22  h _ _ _ hw (lv_sub hl [] rfl)
    · have h := h.2 c_10
      refine lv_aload_n hx hb dX0_byWhich_13 rfl (lv_at hl 0 rfl) ?_
      refine G_RX0_28 C hw 0 rfl dX0_byWhich_14 ?_
      refine lv_iload_n hx hb dX0_byWhich_17 rfl (lv_at hl 1 rfl) ?_
      refine aldI C hw 1 rfl h.1 dX0_byWhich_18 ?_
      have h := h.2
      refine lv_goto (tgt := 23) hx hb dX0_byWhich_19 (by decide) ?_
      exact hB_Court_byWhich_23 (t_by x1.toNatClampNeg) h _ _ _ hw (lv_sub hl [] rfl)
def B_Court_takesSuits_24 (t_points : Int32) (t_roll_size : Int32) (Q : Int32 → Prop) (k0 : Int32) : Prop := narrow .boolean (.int k0) = .int k0 ∧ Q k0 
def B_Court_takesSuits_23 (t_points : Int32) (t_roll_size : Int32) (Q : Int32 → Prop) : Prop := B_Court_takesSuits_24 t_points t_roll_size Q 0
def P_Court_takesSuits (t_points : Int32) (t_roll_size : Int32) (Q : Int32 → Prop) : Prop := (6 < t_points → B_Court_takesSuits_23 t_points t_roll_size Q) ∧ (¬ 6 < t_points → P_Roll_isEmpty t_roll_size (fun r_1 => (¬ r_1 = 0 → B_Court_takesSuits_23 t_points t_roll_size Q) ∧ (r_1 = 0 → B_Court_takesSuits_24 t_points t_roll_size Q 1)))
abbrev rm_Court_takesSuits : Room := { frames := 1, cells := 0, slots := 0, locals := 20 }
def cs_Court_takesSuits (g : GE) (a_t a_t_roll a_t_weights a_t_costs a_t_by a_t_judgments a_t_roll_deeds a_t_roll_firstJudgments a_t_roll_years a_t_roll_pardoned a_t_roll_elders : Nat) (t_points : Int32) (t_allJudged : Int32) (t_roll_size : Int32) : va_W := [oc a_t 0 [.ref a_t_weights, .ref a_t_costs, .ref a_t_roll, .int t_points, .ref a_t_by, .ref a_t_judgments, .int t_allJudged], oc a_t_roll 5 [.ref a_t_roll_deeds, .ref a_t_roll_firstJudgments, .ref a_t_roll_years, .ref a_t_roll_pardoned, .ref a_t_roll_elders, .int t_roll_size]]
set_option maxHeartbeats 4000000 in
set_option maxRecDepth 100000 in
theorem c_Court_takesSuits (l : Launch) (g : GE) (a_t a_t_roll a_t_weights a_t_costs a_t_by a_t_judgments a_t_roll_deeds a_t_roll_firstJudgments a_t_roll_years a_t_roll_pardoned a_t_roll_elders : Nat) (t_points : Int32) (t_allJudged : Int32) (t_roll_size : Int32) (Q : Int32 → Prop) (h : P_Court_takesSuits t_points t_roll_size Q) : Cti l g yX0_takesSuits cX0_takesSuits 1 (some .boolean) rm_Court_takesSuits [.ref a_t] (cs_Court_takesSuits g a_t a_t_roll a_t_weights a_t_costs a_t_by a_t_judgments a_t_roll_deeds a_t_roll_firstJudgments a_t_roll_years a_t_roll_pardoned a_t_roll_elders t_points t_allJudged t_roll_size) (S := Unit) (fun r u => Q r) (fun _ => (cs_Court_takesSuits g a_t a_t_roll a_t_weights a_t_costs a_t_by a_t_judgments a_t_roll_deeds a_t_roll_firstJudgments a_t_roll_years a_t_roll_pardoned a_t_roll_elders t_points t_allJudged t_roll_size)) := by
  refine meetI rfl (Nat.le_of_ble_eq_true rfl) ⟨rfl, rfl⟩ ?_
  intro p e s m args below meth c A Qf ls C hret hw hl
  have hx := C.1
  have hb := C.2.1
  have hown := C.2.2.2.1
  have hts := C.2.2.2.2.1
  have hE := C.2.2.2.2.2.1
  have hl : lv_has ls 1 [(0, .ref a_t)] := hl
  have hB_Court_takesSuits_24 : ∀ (k0 : Int32), B_Court_takesSuits_24 t_points t_roll_size Q k0 → Wat p l e rm_Court_takesSuits s m args below meth c A Qf g 1 (cs_Court_takesSuits g a_t a_t_roll a_t_weights a_t_costs a_t_by a_t_judgments a_t_roll_deeds a_t_roll_firstJudgments a_t_roll_years a_t_roll_pardoned a_t_roll_elders t_points t_allJudged t_roll_size) [] 24 [.int k0] := by
    intro k0 h H locs ls hw hl
    exact hret () h.2 hw dX0_takesSuits_24 h.1
  have hB_Court_takesSuits_23 : B_Court_takesSuits_23 t_points t_roll_size Q → Wat p l e rm_Court_takesSuits s m args below meth c A Qf g 1 (cs_Court_takesSuits g a_t a_t_roll a_t_weights a_t_costs a_t_by a_t_judgments a_t_roll_deeds a_t_roll_firstJudgments a_t_roll_years a_t_roll_pardoned a_t_roll_elders t_points t_allJudged t_roll_size) [] 23 [] := by
    intro  h H locs ls hw hl
    refine lv_iconst (v := 0) hx hb dX0_takesSuits_23 (by decide) ?_
    exact hB_Court_takesSuits_24 0 h _ _ _ hw (lv_sub hl [] rfl)
  refine lv_aload_n hx hb dX0_takesSuits_0 rfl (lv_at hl 0 rfl) ?_
  refine G_RX0_48 C hw 0 rfl dX0_takesSuits_1 ?_
  refine lv_bipush (v := 6) hx hb dX0_takesSuits_4 (by decide) ?_
  refine lv_icmp_gt (tgt := 23) hx hb dX0_takesSuits_6 (by decide) (fun c_6 => ?_) (fun c_6 => ?_)
  · have h := h.1 c_6
    exact hB_Court_takesSuits_23  h _ _ _ hw (lv_sub hl [] rfl)
  · have h := h.2 c_6
    refine lv_aload_n hx hb dX0_takesSuits_9 rfl (lv_at hl 0 rfl) ?_
    refine G_RX0_24 C hw 0 rfl dX0_takesSuits_10 ?_
    refine callVi (As := []) (rest := []) (W2 := fun _ => (cs_Court_takesSuits g a_t a_t_roll a_t_weights a_t_costs a_t_by a_t_judgments a_t_roll_deeds a_t_roll_firstJudgments a_t_roll_years a_t_roll_pardoned a_t_roll_elders t_points t_allJudged t_roll_size)) C hw hl (c_Roll_isEmpty l g a_t_roll a_t_roll_deeds a_t_roll_firstJudgments a_t_roll_years a_t_roll_pardoned a_t_roll_elders t_roll_size _ h) tw_676 kk_X5_isEmpty rfl ⟨rfl, rfl⟩ ⟨by decide, by decide⟩ (Nat.le_of_ble_eq_true rfl) 1 rfl rfl rfl [1] [0] [0, 1] rfl rfl rfl rfl rfl rfl (fun u => rfl) rfl dX0_takesSuits_13 (fun r_1 u H locs h hw => ?_)
    refine lv_if_ne (tgt := 23) hx hb dX0_takesSuits_16 (by decide) (fun c_16 => ?_) (fun c_16 => ?_)
    · have h := h.1 c_16
      exact hB_Court_takesSuits_23  h _ _ _ hw (lv_sub hl [] rfl)
    · have h := h.2 c_16
      refine lv_iconst (v := 1) hx hb dX0_takesSuits_19 (by decide) ?_
      refine lv_goto (tgt := 24) hx hb dX0_takesSuits_20 (by decide) ?_
      exact hB_Court_takesSuits_24 1 h _ _ _ hw (lv_sub hl [] rfl)
def P_Court_unlikeness (x1 : Int32) (t_by : (Nat → Int32)) (t_roll_size : Int32) (t_roll_deeds : (Nat → Int32)) (t_weights_sums : (Nat → Int32)) (Q : Int32 → Prop) : Prop := P_Court_byWhich x1 t_by (fun r_1 => P_Roll_deedOf r_1 t_roll_size t_roll_deeds (fun r_2 => P_Scale_together (x1 ^^^ r_2) t_weights_sums (fun r_3 => Q r_3)))
abbrev rm_Court_unlikeness : Room := { frames := 1, cells := 0, slots := 0, locals := 21 }
def cs_Court_unlikeness (g : GE) (a_t a_t_by a_t_roll a_t_weights a_t_roll_deeds a_t_weights_sums a_t_costs a_t_judgments a_t_roll_firstJudgments a_t_roll_years a_t_roll_pardoned a_t_roll_elders a_t_weights_each : Nat) (t_points : Int32) (t_allJudged : Int32) (t_by : (Nat → Int32)) (t_roll_size : Int32) (t_weights_points : Int32) (t_roll_deeds : (Nat → Int32)) (t_weights_sums : (Nat → Int32)) : va_W := [oc a_t 0 [.ref a_t_weights, .ref a_t_costs, .ref a_t_roll, .int t_points, .ref a_t_by, .ref a_t_judgments, .int t_allJudged], ai g a_t_by 1024 t_by, oc a_t_roll 5 [.ref a_t_roll_deeds, .ref a_t_roll_firstJudgments, .ref a_t_roll_years, .ref a_t_roll_pardoned, .ref a_t_roll_elders, .int t_roll_size], oc a_t_weights 6 [.ref a_t_weights_each, .ref a_t_weights_sums, .int t_weights_points], ai g a_t_roll_deeds 12 t_roll_deeds, ai g a_t_weights_sums 1024 t_weights_sums]
set_option maxHeartbeats 4000000 in
set_option maxRecDepth 100000 in
theorem c_Court_unlikeness (l : Launch) (g : GE) (a_t a_t_by a_t_roll a_t_weights a_t_roll_deeds a_t_weights_sums a_t_costs a_t_judgments a_t_roll_firstJudgments a_t_roll_years a_t_roll_pardoned a_t_roll_elders a_t_weights_each : Nat) (t_points : Int32) (t_allJudged : Int32) (t_by : (Nat → Int32)) (t_roll_size : Int32) (t_weights_points : Int32) (t_roll_deeds : (Nat → Int32)) (t_weights_sums : (Nat → Int32)) (x1 : Int32) (Q : Int32 → Prop) (h : P_Court_unlikeness x1 t_by t_roll_size t_roll_deeds t_weights_sums Q) : Cti l g yX0_unlikeness cX0_unlikeness 2 (some .int) rm_Court_unlikeness [.ref a_t, .int x1] (cs_Court_unlikeness g a_t a_t_by a_t_roll a_t_weights a_t_roll_deeds a_t_weights_sums a_t_costs a_t_judgments a_t_roll_firstJudgments a_t_roll_years a_t_roll_pardoned a_t_roll_elders a_t_weights_each t_points t_allJudged t_by t_roll_size t_weights_points t_roll_deeds t_weights_sums) (S := Unit) (fun r u => Q r) (fun _ => (cs_Court_unlikeness g a_t a_t_by a_t_roll a_t_weights a_t_roll_deeds a_t_weights_sums a_t_costs a_t_judgments a_t_roll_firstJudgments a_t_roll_years a_t_roll_pardoned a_t_roll_elders a_t_weights_each t_points t_allJudged t_by t_roll_size t_weights_points t_roll_deeds t_weights_sums)) := by
  refine meetI rfl (Nat.le_of_ble_eq_true rfl) ⟨rfl, rfl⟩ ?_
  intro p e s m args below meth c A Qf ls C hret hw hl
  have hx := C.1
  have hb := C.2.1
  have hown := C.2.2.2.1
  have hts := C.2.2.2.2.1
  have hE := C.2.2.2.2.2.1
  have hl : lv_has ls 2 [(0, .ref a_t), (1, .int x1)] := hl
  refine lv_aload_n hx hb dX0_unlikeness_0 rfl (lv_at hl 0 rfl) ?_
  refine G_RX0_12 C hw 0 rfl dX0_unlikeness_1 ?_
  refine lv_iload_n hx hb dX0_unlikeness_4 rfl (lv_at hl 1 rfl) ?_
  refine lv_aload_n hx hb dX0_unlikeness_5 rfl (lv_at hl 0 rfl) ?_
  refine G_RX0_24 C hw 0 rfl dX0_unlikeness_6 ?_
  refine lv_aload_n hx hb dX0_unlikeness_9 rfl (lv_at hl 0 rfl) ?_
  refine lv_iload_n hx hb dX0_unlikeness_10 rfl (lv_at hl 1 rfl) ?_
  refine callVi (As := [.int x1]) (rest := [.ref a_t_roll, .int x1, .ref a_t_weights]) (W2 := fun _ => (cs_Court_unlikeness g a_t a_t_by a_t_roll a_t_weights a_t_roll_deeds a_t_weights_sums a_t_costs a_t_judgments a_t_roll_firstJudgments a_t_roll_years a_t_roll_pardoned a_t_roll_elders a_t_weights_each t_points t_allJudged t_by t_roll_size t_weights_points t_roll_deeds t_weights_sums)) C hw hl (c_Court_byWhich l g a_t a_t_by a_t_weights a_t_costs a_t_roll a_t_judgments t_points t_allJudged t_by x1 _ h) tw_689 kk_X0_byWhich rfl ⟨rfl, rfl⟩ ⟨by decide, by decide⟩ (Nat.le_of_ble_eq_true rfl) 0 rfl rfl rfl [0, 1] [2, 3, 4, 5] [4, 5, 0, 1, 2, 3] rfl rfl rfl rfl rfl rfl (fun u => rfl) rfl dX0_unlikeness_11 (fun r_1 u H locs h hw => ?_)
  refine callVi (As := [.int r_1]) (rest := [.int x1, .ref a_t_weights]) (W2 := fun _ => (cs_Court_unlikeness g a_t a_t_by a_t_roll a_t_weights a_t_roll_deeds a_t_weights_sums a_t_costs a_t_judgments a_t_roll_firstJudgments a_t_roll_years a_t_roll_pardoned a_t_roll_elders a_t_weights_each t_points t_allJudged t_by t_roll_size t_weights_points t_roll_deeds t_weights_sums)) C hw hl (c_Roll_deedOf l g a_t_roll a_t_roll_deeds a_t_roll_firstJudgments a_t_roll_years a_t_roll_pardoned a_t_roll_elders t_roll_size t_roll_deeds r_1 _ h) tw_617 kk_X5_deedOf rfl ⟨rfl, rfl⟩ ⟨by decide, by decide⟩ (Nat.le_of_ble_eq_true rfl) 2 rfl rfl rfl [2, 4] [0, 1, 3, 5] [0, 1, 4, 2, 5, 3] rfl rfl rfl rfl rfl rfl (fun u => rfl) rfl dX0_unlikeness_14 (fun r_2 u H locs h hw => ?_)
  refine lv_ixor hx hb dX0_unlikeness_17 ?_
  refine callVi (As := [.int (x1 ^^^ r_2)]) (rest := []) (W2 := fun _ => (cs_Court_unlikeness g a_t a_t_by a_t_roll a_t_weights a_t_roll_deeds a_t_weights_sums a_t_costs a_t_judgments a_t_roll_firstJudgments a_t_roll_years a_t_roll_pardoned a_t_roll_elders a_t_weights_each t_points t_allJudged t_by t_roll_size t_weights_points t_roll_deeds t_weights_sums)) C hw hl (c_Scale_together l g a_t_weights a_t_weights_sums a_t_weights_each t_weights_points t_weights_sums (x1 ^^^ r_2) _ h) tw_616 kk_X6_together rfl ⟨rfl, rfl⟩ ⟨by decide, by decide⟩ (Nat.le_of_ble_eq_true rfl) 3 rfl rfl rfl [3, 5] [0, 1, 2, 4] [0, 1, 2, 4, 3, 5] rfl rfl rfl rfl rfl rfl (fun u => rfl) rfl dX0_unlikeness_18 (fun r_3 u H locs h hw => ?_)
  exact hret () h hw dX0_unlikeness_21 rfl
def P_Court_takeCases (t_allJudged : Int32) (t_roll_size : Int32) (t_roll_deeds : (Nat → Int32)) (t_roll_elders : (Nat → Int32)) (t_roll_firstJudgments : (Nat → Int32)) (t_roll_pardoned : (Nat → Int32)) (t_roll_years : (Nat → Int32)) (a1_size : Int32) (a1_deeds : (Nat → Int32)) (a1_firstJudgments : (Nat → Int32)) (a1_pardoned : (Nat → Int32)) (a1_years : (Nat → Int32)) (Q : Int32 → Int32 → (Nat → Int32) → (Nat → Int32) → (Nat → Int32) → (Nat → Int32) → (Nat → Int32) → Prop) : Prop := P_Roll_copyFrom t_roll_size t_roll_deeds t_roll_elders t_roll_firstJudgments t_roll_pardoned t_roll_years a1_size a1_deeds a1_firstJudgments a1_pardoned a1_years (fun t_roll_size_1 t_roll_deeds_2 t_roll_elders_3 t_roll_firstJudgments_4 t_roll_pardoned_5 t_roll_years_6 => Q 0 t_roll_size_1 t_roll_deeds_2 t_roll_elders_3 t_roll_firstJudgments_4 t_roll_pardoned_5 t_roll_years_6)
abbrev rm_Court_takeCases : Room := { frames := 2, cells := 0, slots := 0, locals := 45 }
def cs_Court_takeCases (g : GE) (a_t a_t_roll a_t_roll_deeds a_t_roll_elders a_t_roll_firstJudgments a_t_roll_pardoned a_t_roll_years a_a1 a_a1_deeds a_a1_firstJudgments a_a1_pardoned a_a1_years a_t_weights a_t_costs a_t_by a_t_judgments a_a1_elders : Nat) (t_points : Int32) (t_allJudged : Int32) (t_roll_size : Int32) (t_roll_deeds : (Nat → Int32)) (t_roll_elders : (Nat → Int32)) (t_roll_firstJudgments : (Nat → Int32)) (t_roll_pardoned : (Nat → Int32)) (t_roll_years : (Nat → Int32)) (a1_size : Int32) (a1_deeds : (Nat → Int32)) (a1_firstJudgments : (Nat → Int32)) (a1_pardoned : (Nat → Int32)) (a1_years : (Nat → Int32)) : va_W := [oc a_t 0 [.ref a_t_weights, .ref a_t_costs, .ref a_t_roll, .int t_points, .ref a_t_by, .ref a_t_judgments, .int t_allJudged], oc a_t_roll 5 [.ref a_t_roll_deeds, .ref a_t_roll_firstJudgments, .ref a_t_roll_years, .ref a_t_roll_pardoned, .ref a_t_roll_elders, .int t_roll_size], ai g a_t_roll_deeds 12 t_roll_deeds, ai g a_t_roll_elders 12 t_roll_elders, ai g a_t_roll_firstJudgments 12 t_roll_firstJudgments, az g a_t_roll_pardoned 12 t_roll_pardoned, ai g a_t_roll_years 12 t_roll_years, oc a_a1 5 [.ref a_a1_deeds, .ref a_a1_firstJudgments, .ref a_a1_years, .ref a_a1_pardoned, .ref a_a1_elders, .int a1_size], ai g a_a1_deeds 12 a1_deeds, ai g a_a1_firstJudgments 12 a1_firstJudgments, az g a_a1_pardoned 12 a1_pardoned, ai g a_a1_years 12 a1_years]
set_option maxHeartbeats 4000000 in
set_option maxRecDepth 100000 in
theorem c_Court_takeCases (l : Launch) (g : GE) (a_t a_t_roll a_t_roll_deeds a_t_roll_elders a_t_roll_firstJudgments a_t_roll_pardoned a_t_roll_years a_a1 a_a1_deeds a_a1_firstJudgments a_a1_pardoned a_a1_years a_t_weights a_t_costs a_t_by a_t_judgments a_a1_elders : Nat) (t_points : Int32) (t_allJudged : Int32) (t_roll_size : Int32) (t_roll_deeds : (Nat → Int32)) (t_roll_elders : (Nat → Int32)) (t_roll_firstJudgments : (Nat → Int32)) (t_roll_pardoned : (Nat → Int32)) (t_roll_years : (Nat → Int32)) (a1_size : Int32) (a1_deeds : (Nat → Int32)) (a1_firstJudgments : (Nat → Int32)) (a1_pardoned : (Nat → Int32)) (a1_years : (Nat → Int32)) (Q : Int32 → Int32 → (Nat → Int32) → (Nat → Int32) → (Nat → Int32) → (Nat → Int32) → (Nat → Int32) → Prop) (h : P_Court_takeCases t_allJudged t_roll_size t_roll_deeds t_roll_elders t_roll_firstJudgments t_roll_pardoned t_roll_years a1_size a1_deeds a1_firstJudgments a1_pardoned a1_years Q) : Ctv l g yX0_takeCases cX0_takeCases 2 none rm_Court_takeCases [.ref a_t, .ref a_a1] (cs_Court_takeCases g a_t a_t_roll a_t_roll_deeds a_t_roll_elders a_t_roll_firstJudgments a_t_roll_pardoned a_t_roll_years a_a1 a_a1_deeds a_a1_firstJudgments a_a1_pardoned a_a1_years a_t_weights a_t_costs a_t_by a_t_judgments a_a1_elders t_points t_allJudged t_roll_size t_roll_deeds t_roll_elders t_roll_firstJudgments t_roll_pardoned t_roll_years a1_size a1_deeds a1_firstJudgments a1_pardoned a1_years) (S := Int32 × Int32 × (Nat → Int32) × (Nat → Int32) × (Nat → Int32) × (Nat → Int32) × (Nat → Int32)) (fun u => Q u.1 u.2.1 u.2.2.1 u.2.2.2.1 u.2.2.2.2.1 u.2.2.2.2.2.1 u.2.2.2.2.2.2) (fun u => (cs_Court_takeCases g a_t a_t_roll a_t_roll_deeds a_t_roll_elders a_t_roll_firstJudgments a_t_roll_pardoned a_t_roll_years a_a1 a_a1_deeds a_a1_firstJudgments a_a1_pardoned a_a1_years a_t_weights a_t_costs a_t_by a_t_judgments a_a1_elders t_points (u.1) (u.2.1) (u.2.2.1) (u.2.2.2.1) (u.2.2.2.2.1) (u.2.2.2.2.2.1) (u.2.2.2.2.2.2) a1_size a1_deeds a1_firstJudgments a1_pardoned a1_years)) := by
  refine meetV rfl (Nat.le_of_ble_eq_true rfl) ⟨rfl, rfl⟩ ?_
  intro p e s m args below meth c A Qf ls C hret hw hl
  have hx := C.1
  have hb := C.2.1
  have hown := C.2.2.2.1
  have hts := C.2.2.2.2.1
  have hE := C.2.2.2.2.2.1
  have hl : lv_has ls 2 [(0, .ref a_t), (1, .ref a_a1)] := hl
  refine lv_aload_n hx hb dX0_takeCases_0 rfl (lv_at hl 0 rfl) ?_
  refine G_RX0_24 C hw 0 rfl dX0_takeCases_1 ?_
  refine lv_aload_n hx hb dX0_takeCases_4 rfl (lv_at hl 1 rfl) ?_
  refine callVv (As := [.ref a_a1]) (rest := []) (W2 := fun u => (cs_Court_takeCases g a_t a_t_roll a_t_roll_deeds a_t_roll_elders a_t_roll_firstJudgments a_t_roll_pardoned a_t_roll_years a_a1 a_a1_deeds a_a1_firstJudgments a_a1_pardoned a_a1_years a_t_weights a_t_costs a_t_by a_t_judgments a_a1_elders t_points t_allJudged (u.1) (u.2.1) (u.2.2.1) (u.2.2.2.1) (u.2.2.2.2.1) (u.2.2.2.2.2) a1_size a1_deeds a1_firstJudgments a1_pardoned a1_years)) C hw hl (c_Roll_copyFrom l g a_t_roll a_t_roll_deeds a_t_roll_elders a_t_roll_firstJudgments a_t_roll_pardoned a_t_roll_years a_a1 a_a1_deeds a_a1_firstJudgments a_a1_pardoned a_a1_years a_a1_elders t_roll_size t_roll_deeds t_roll_elders t_roll_firstJudgments t_roll_pardoned t_roll_years a1_size a1_deeds a1_firstJudgments a1_pardoned a1_years _ h) tw_895 kk_X5_copyFrom rfl ⟨rfl, rfl⟩ ⟨by decide, by decide⟩ (Nat.le_of_ble_eq_true rfl) 1 rfl rfl rfl [1, 2, 3, 4, 5, 6, 7, 8, 9, 10, 11] [0] [0, 1, 2, 3, 4, 5, 6, 7, 8, 9, 10, 11] rfl rfl rfl rfl rfl rfl (fun u => rfl) rfl dX0_takeCases_5 (fun u H locs h hw => ?_)
  obtain ⟨t_roll_size_1, t_roll_deeds_2, t_roll_elders_3, t_roll_firstJudgments_4, t_roll_pardoned_5, t_roll_years_6⟩ := u
  have hw : Wd g A s (cs_Court_takeCases g a_t a_t_roll a_t_roll_deeds a_t_roll_elders a_t_roll_firstJudgments a_t_roll_pardoned a_t_roll_years a_a1 a_a1_deeds a_a1_firstJudgments a_a1_pardoned a_a1_years a_t_weights a_t_costs a_t_by a_t_judgments a_a1_elders t_points t_allJudged t_roll_size_1 t_roll_deeds_2 t_roll_elders_3 t_roll_firstJudgments_4 t_roll_pardoned_5 t_roll_years_6 a1_size a1_deeds a1_firstJudgments a1_pardoned a1_years) H locs := hw
  refine lv_aload_n hx hb dX0_takeCases_8 rfl (lv_at hl 0 rfl) ?_
  refine lv_iconst (v := 0) hx hb dX0_takeCases_9 (by decide) ?_
  refine U_RX0_59 (ws2 := (cs_Court_takeCases g a_t a_t_roll a_t_roll_deeds a_t_roll_elders a_t_roll_firstJudgments a_t_roll_pardoned a_t_roll_years a_a1 a_a1_deeds a_a1_firstJudgments a_a1_pardoned a_a1_years a_t_weights a_t_costs a_t_by a_t_judgments a_a1_elders t_points 0 t_roll_size_1 t_roll_deeds_2 t_roll_elders_3 t_roll_firstJudgments_4 t_roll_pardoned_5 t_roll_years_6 a1_size a1_deeds a1_firstJudgments a1_pardoned a1_years)) C hw 0 rfl rfl rfl rfl dX0_takeCases_10 (fun H locs hw => ?_)
  exact hret (0, t_roll_size_1, t_roll_deeds_2, t_roll_elders_3, t_roll_firstJudgments_4, t_roll_pardoned_5, t_roll_years_6) h hw dX0_takeCases_13
