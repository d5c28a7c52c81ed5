def B_Surveyor_unlikePairs_64 (t_court_points : Int32) (t_court_judgments : (Nat → Int32)) (Q : Int32 → Prop) (N_4 : Int32 → Int32 → Prop) (N_17 : Int32 → Int32 → Int32 → Prop) (x1 : Int32) (x2 : Int32) (x3 : Int32) : Prop := N_17 x1 x2 (x3 + 1)
def L_Surveyor_unlikePairs_17 (t_court_points : Int32) (t_court_judgments : (Nat → Int32)) (Q : Int32 → Prop) (N_4 : Int32 → Int32 → Prop) : Nat → Int32 → Int32 → Int32 → Prop
  | 0 => fun _ _ _ => False
  | n + 1 => fun x1 x2 x3 => P_Court_points t_court_points (fun r_1 => (r_1 ≤ x3 → N_4 x1 (x2 + 1)) ∧ (¬ r_1 ≤ x3 → ∀ x4_2 : Int32, x4_2 = (x2 ||| (1 <<< (x3 &&& 31))) → (x4_2 = x2 → B_Surveyor_unlikePairs_64 t_court_points t_court_judgments Q N_4 (L_Surveyor_unlikePairs_17 t_court_points t_court_judgments Q N_4 n) x1 x2 x3) ∧ (¬ x4_2 = x2 → P_Court_judgmentOf x4_2 t_court_judgments (fun r_3 => P_Court_judgmentOf x2 t_court_judgments (fun r_4 => (r_3 = r_4 → B_Surveyor_unlikePairs_64 t_court_points t_court_judgments Q N_4 (L_Surveyor_unlikePairs_17 t_court_points t_court_judgments Q N_4 n) x1 x2 x3) ∧ (¬ r_3 = r_4 → B_Surveyor_unlikePairs_64 t_court_points t_court_judgments Q N_4 (L_Surveyor_unlikePairs_17 t_court_points t_court_judgments Q N_4 n) (x1 + 1) x2 x3))))))
def L_Surveyor_unlikePairs_4 (t_court_points : Int32) (t_court_judgments : (Nat → Int32)) (Q : Int32 → Prop) : Nat → Int32 → Int32 → Prop
  | 0 => fun _ _ => False
  | n + 1 => fun x1 x2 => P_Court_deedCount t_court_points (fun r_5 => (r_5 ≤ x2 → Q x1) ∧ (¬ r_5 ≤ x2 → ∃ n_17 : Nat, L_Surveyor_unlikePairs_17 t_court_points t_court_judgments Q (L_Surveyor_unlikePairs_4 t_court_points t_court_judgments Q n) n_17 x1 x2 0))
def P_Surveyor_unlikePairs (t_court_points : Int32) (t_court_judgments : (Nat → Int32)) (Q : Int32 → Prop) : Prop := ∃ n_4 : Nat, L_Surveyor_unlikePairs_4 t_court_points t_court_judgments Q n_4 0 0
abbrev rm_Surveyor_unlikePairs : Room := { frames := 1, cells := 0, slots := 0, locals := 21 }
def cs_Surveyor_unlikePairs (g : GE) (a_t a_t_court a_t_court_judgments a_t_queue a_t_reached a_t_court_weights a_t_court_costs a_t_court_roll a_t_court_by : Nat) (t_queued : Int32) (t_partCount : Int32) (t_greatestPart : Int32) (t_court_points : Int32) (t_court_allJudged : Int32) (t_court_judgments : (Nat → Int32)) : va_W := [oc a_t 7 [.ref a_t_court, .ref a_t_queue, .ref a_t_reached, .int t_queued, .int t_partCount, .int t_greatestPart], oc a_t_court 0 [.ref a_t_court_weights, .ref a_t_court_costs, .ref a_t_court_roll, .int t_court_points, .ref a_t_court_by, .ref a_t_court_judgments, .int t_court_allJudged], ai g a_t_court_judgments 1024 t_court_judgments]
set_option maxHeartbeats 4000000 in
set_option maxRecDepth 100000 in
theorem c_Surveyor_unlikePairs (l : Launch) (g : GE) (a_t a_t_court a_t_court_judgments a_t_queue a_t_reached a_t_court_weights a_t_court_costs a_t_court_roll a_t_court_by : Nat) (t_queued : Int32) (t_partCount : Int32) (t_greatestPart : Int32) (t_court_points : Int32) (t_court_allJudged : Int32) (t_court_judgments : (Nat → Int32)) (Q : Int32 → Prop) (h : P_Surveyor_unlikePairs t_court_points t_court_judgments Q) : Cti l g yX7_unlikePairs cX7_unlikePairs 5 (some .int) rm_Surveyor_unlikePairs [.ref a_t] (cs_Surveyor_unlikePairs g a_t a_t_court a_t_court_judgments a_t_queue a_t_reached a_t_court_weights a_t_court_costs a_t_court_roll a_t_court_by t_queued t_partCount t_greatestPart t_court_points t_court_allJudged t_court_judgments) (S := Unit) (fun r u => Q r) (fun _ => (cs_Surveyor_unlikePairs g a_t a_t_court a_t_court_judgments a_t_queue a_t_reached a_t_court_weights a_t_court_costs a_t_court_roll a_t_court_by t_queued t_partCount t_greatestPart t_court_points t_court_allJudged t_court_judgments)) := by
  refine meetI rfl (Nat.le_of_ble_eq_true rfl) ⟨rfl, rfl⟩ ?_
  intro p e s m args below meth c A Qf ls C hret hw hl
  have hx := C.1
  have hb := C.2.1
  have hown := C.2.2.2.1
  have hts := C.2.2.2.2.1
  have hE := C.2.2.2.2.2.1
  have hl : lv_has ls 5 [(0, .ref a_t)] := hl
  have hB_Surveyor_unlikePairs_64 : ∀ (N_4 : Int32 → Int32 → Prop) (hN_4 : ∀ (x1 : Int32) (x2 : Int32), N_4 x1 x2 → Wat p l e rm_Surveyor_unlikePairs s m args below meth c A Qf g 5 (cs_Surveyor_unlikePairs g a_t a_t_court a_t_court_judgments a_t_queue a_t_reached a_t_court_weights a_t_court_costs a_t_court_roll a_t_court_by t_queued t_partCount t_greatestPart t_court_points t_court_allJudged t_court_judgments) [(0, .ref a_t), (1, .int x1), (2, .int x2)] 4 []) (N_17 : Int32 → Int32 → Int32 → Prop) (hN_17 : ∀ (x1 : Int32) (x2 : Int32) (x3 : Int32), N_17 x1 x2 x3 → Wat p l e rm_Surveyor_unlikePairs s m args below meth c A Qf g 5 (cs_Surveyor_unlikePairs g a_t a_t_court a_t_court_judgments a_t_queue a_t_reached a_t_court_weights a_t_court_costs a_t_court_roll a_t_court_by t_queued t_partCount t_greatestPart t_court_points t_court_allJudged t_court_judgments) [(0, .ref a_t), (1, .int x1), (2, .int x2), (3, .int x3)] 17 []) (x1 : Int32) (x2 : Int32) (x3 : Int32), B_Surveyor_unlikePairs_64 t_court_points t_court_judgments Q N_4 N_17 x1 x2 x3 → Wat p l e rm_Surveyor_unlikePairs s m args below meth c A Qf g 5 (cs_Surveyor_unlikePairs g a_t a_t_court a_t_court_judgments a_t_queue a_t_reached a_t_court_weights a_t_court_costs a_t_court_roll a_t_court_by t_queued t_partCount t_greatestPart t_court_points t_court_allJudged t_court_judgments) [(0, .ref a_t), (1, .int x1), (2, .int x2), (3, .int x3)] 64 [] := by
    intro N_4 hN_4 N_17 hN_17 x1 x2 x3 h H locs ls hw hl
    refine lv_iinc (v := x3 + 1) (lv' := [(3, .int (x3 + 1)), (0, .ref a_t), (1, .int x1), (2, .int x2)]) hx hb dX7_unlikePairs_64 hl (k := 3) rfl rfl (by decide) rfl (fun ls hl => ?_)
    refine lv_goto (tgt := 17) hx hb dX7_unlikePairs_67 (by decide) ?_
    exact hN_17 x1 x2 (x3 + 1) h _ _ _ hw (lv_sub hl [1, 2, 3, 0] rfl)
  have hL_Surveyor_unlikePairs_17 : ∀ (N_4 : Int32 → Int32 → Prop) (hN_4 : ∀ (x1 : Int32) (x2 : Int32), N_4 x1 x2 → Wat p l e rm_Surveyor_unlikePairs s m args below meth c A Qf g 5 (cs_Surveyor_unlikePairs g a_t a_t_court a_t_court_judgments a_t_queue a_t_reached a_t_court_weights a_t_court_costs a_t_court_roll a_t_court_by t_queued t_partCount t_greatestPart t_court_points t_court_allJudged t_court_judgments) [(0, .ref a_t), (1, .int x1), (2, .int x2)] 4 []) (n : Nat) (x1 : Int32) (x2 : Int32) (x3 : Int32), L_Surveyor_unlikePairs_17 t_court_points t_court_judgments Q N_4 n x1 x2 x3 → Wat p l e rm_Surveyor_unlikePairs s m args below meth c A Qf g 5 (cs_Surveyor_unlikePairs g a_t a_t_court a_t_court_judgments a_t_queue a_t_reached a_t_court_weights a_t_court_costs a_t_court_roll a_t_court_by t_queued t_partCount t_greatestPart t_court_points t_court_allJudged t_court_judgments) [(0, .ref a_t), (1, .int x1), (2, .int x2), (3, .int x3)] 17 [] := by
    intro N_4 hN_4 n
    induction n with
    | zero => intro x1 x2 x3 h; exact absurd h id
    | succ n ih =>
      intro x1 x2 x3 h H locs ls hw hl
      rw [L_Surveyor_unlikePairs_17] at h
      refine lv_iload_n hx hb dX7_unlikePairs_17 rfl (lv_at hl 3 rfl) ?_
      refine lv_aload_n hx hb dX7_unlikePairs_18 rfl (lv_at hl 0 rfl) ?_
      refine G_RX7_18 C hw 0 rfl dX7_unlikePairs_19 ?_
      refine callVi (As := []) (rest := [.int x3]) (W2 := fun _ => (cs_Surveyor_unlikePairs g a_t a_t_court a_t_court_judgments a_t_queue a_t_reached a_t_court_weights a_t_court_costs a_t_court_roll a_t_court_by t_queued t_partCount t_greatestPart t_court_points t_court_allJudged t_court_judgments)) C hw hl (c_Court_points l g a_t_court a_t_court_weights a_t_court_costs a_t_court_roll a_t_court_by a_t_court_judgments t_court_points t_court_allJudged _ h) tw_833 kk_X0_points rfl ⟨rfl, rfl⟩ ⟨by decide, by decide⟩ (Nat.le_of_ble_eq_true rfl) 1 rfl rfl rfl [1] [0, 2] [0, 2, 1] rfl rfl rfl rfl rfl rfl (fun u => rfl) rfl dX7_unlikePairs_22 (fun r_1 u H locs h hw => ?_)
      refine lv_icmp_ge (tgt := 70) hx hb dX7_unlikePairs_25 (by decide) (fun c_25 => ?_) (fun c_25 => ?_)
      · have h := h.1 c_25
        refine lv_iinc (v := x2 + 1) (lv' := [(2, .int (x2 + 1)), (0, .ref a_t), (1, .int x1), (3, .int x3)]) hx hb dX7_unlikePairs_70 hl (k := 2) rfl rfl (by decide) rfl (fun ls hl => ?_)
        refine lv_goto (tgt := 4) hx hb dX7_unlikePairs_73 (by decide) ?_
        exact hN_4 x1 (x2 + 1) h _ _ _ hw (lv_sub hl [1, 2, 0] rfl)
      · have h := h.2 c_25
        refine lv_iload_n hx hb dX7_unlikePairs_28 rfl (lv_at hl 2 rfl) ?_
        refine lv_iconst (v := 1) hx hb dX7_unlikePairs_29 (by decide) ?_
        refine lv_iload_n hx hb dX7_unlikePairs_30 rfl (lv_at hl 3 rfl) ?_
        refine lv_ishl hx hb dX7_unlikePairs_31 ?_
        refine lv_ior hx hb dX7_unlikePairs_32 ?_
        refine lv_topi (fun x4_2 ex4_2 => ?_)
        have h := h x4_2 ex4_2
        refine lv_istore (lv' := [(4, .int x4_2), (0, .ref a_t), (1, .int x1), (2, .int x2), (3, .int x3)]) hx hb dX7_unlikePairs_33 hl (by decide) rfl (fun ls hl => ?_)
        refine lv_iload hx hb dX7_unlikePairs_35 (lv_at hl 0 rfl) ?_
        refine lv_iload_n hx hb dX7_unlikePairs_37 rfl (lv_at hl 3 rfl) ?_
        refine lv_icmp_eq (tgt := 64) hx hb dX7_unlikePairs_38 (by decide) (fun c_38 => ?_) (fun c_38 => ?_)
        · have h := h.1 c_38
          exact hB_Surveyor_unlikePairs_64 N_4 hN_4 (L_Surveyor_unlikePairs_17 t_court_points t_court_judgments Q N_4 n) ih x1 x2 x3 h _ _ _ hw (lv_sub hl [1, 2, 3, 4] rfl)
        · have h := h.2 c_38
          refine lv_aload_n hx hb dX7_unlikePairs_41 rfl (lv_at hl 1 rfl) ?_
          refine G_RX7_18 C hw 0 rfl dX7_unlikePairs_42 ?_
          refine lv_iload hx hb dX7_unlikePairs_45 (lv_at hl 0 rfl) ?_
          refine callVi (As := [.int x4_2]) (rest := []) (W2 := fun _ => (cs_Surveyor_unlikePairs g a_t a_t_court a_t_court_judgments a_t_queue a_t_reached a_t_court_weights a_t_court_costs a_t_court_roll a_t_court_by t_queued t_partCount t_greatestPart t_court_points t_court_allJudged t_court_judgments)) C hw hl (c_Court_judgmentOf l g a_t_court a_t_court_judgments a_t_court_weights a_t_court_costs a_t_court_roll a_t_court_by t_court_points t_court_allJudged t_court_judgments x4_2 _ h) tw_834 kk_X0_judgmentOf rfl ⟨rfl, rfl⟩ ⟨by decide, by decide⟩ (Nat.le_of_ble_eq_true rfl) 1 rfl rfl rfl [1, 2] [0] [0, 1, 2] rfl rfl rfl rfl rfl rfl (fun u => rfl) rfl dX7_unlikePairs_47 (fun r_3 u H locs h hw => ?_)
          refine lv_aload_n hx hb dX7_unlikePairs_50 rfl (lv_at hl 1 rfl) ?_
          refine G_RX7_18 C hw 0 rfl dX7_unlikePairs_51 ?_
          refine lv_iload_n hx hb dX7_unlikePairs_54 rfl (lv_at hl 3 rfl) ?_
          refine callVi (As := [.int x2]) (rest := [.int r_3]) (W2 := fun _ => (cs_Surveyor_unlikePairs g a_t a_t_court a_t_court_judgments a_t_queue a_t_reached a_t_court_weights a_t_court_costs a_t_court_roll a_t_court_by t_queued t_partCount t_greatestPart t_court_points t_court_allJudged t_court_judgments)) C hw hl (c_Court_judgmentOf l g a_t_court a_t_court_judgments a_t_court_weights a_t_court_costs a_t_court_roll a_t_court_by t_court_points t_court_allJudged t_court_judgments x2 _ h) tw_834 kk_X0_judgmentOf rfl ⟨rfl, rfl⟩ ⟨by decide, by decide⟩ (Nat.le_of_ble_eq_true rfl) 1 rfl rfl rfl [1, 2] [0] [0, 1, 2] rfl rfl rfl rfl rfl rfl (fun u => rfl) rfl dX7_unlikePairs_55 (fun r_4 u H locs h hw => ?_)
          refine lv_icmp_eq (tgt := 64) hx hb dX7_unlikePairs_58 (by decide) (fun c_58 => ?_) (fun c_58 => ?_)
          · have h := h.1 c_58
            exact hB_Surveyor_unlikePairs_64 N_4 hN_4 (L_Surveyor_unlikePairs_17 t_court_points t_court_judgments Q N_4 n) ih x1 x2 x3 h _ _ _ hw (lv_sub hl [1, 2, 3, 4] rfl)
          · have h := h.2 c_58
            refine lv_iinc (v := x1 + 1) (lv' := [(1, .int (x1 + 1)), (4, .int x4_2), (0, .ref a_t), (2, .int x2), (3, .int x3)]) hx hb dX7_unlikePairs_61 hl (k := 2) rfl rfl (by decide) rfl (fun ls hl => ?_)
            exact hB_Surveyor_unlikePairs_64 N_4 hN_4 (L_Surveyor_unlikePairs_17 t_court_points t_court_judgments Q N_4 n) ih (x1 + 1) x2 x3 h _ _ _ hw (lv_sub hl [2, 0, 3, 4] rfl)
  have hL_Surveyor_unlikePairs_4 : ∀ (n : Nat) (x1 : Int32) (x2 : Int32), L_Surveyor_unlikePairs_4 t_court_points t_court_judgments Q n x1 x2 → Wat p l e rm_Surveyor_unlikePairs s m args below meth c A Qf g 5 (cs_Surveyor_unlikePairs g a_t a_t_court a_t_court_judgments a_t_queue a_t_reached a_t_court_weights a_t_court_costs a_t_court_roll a_t_court_by t_queued t_partCount t_greatestPart t_court_points t_court_allJudged t_court_judgments) [(0, .ref a_t), (1, .int x1), (2, .int x2)] 4 [] := by
    intro n
    induction n with
    | zero => intro x1 x2 h; exact absurd h id
    | succ n ih =>
      intro x1 x2 h H locs ls hw hl
      rw [L_Surveyor_unlikePairs_4] at h
      refine lv_iload_n hx hb dX7_unlikePairs_4 rfl (lv_at hl 2 rfl) ?_
      refine lv_aload_n hx hb dX7_unlikePairs_5 rfl (lv_at hl 0 rfl) ?_
      refine G_RX7_18 C hw 0 rfl dX7_unlikePairs_6 ?_
      refine callVi (As := []) (rest := [.int x2]) (W2 := fun _ => (cs_Surveyor_unlikePairs g a_t a_t_court a_t_court_judgments a_t_queue a_t_reached a_t_court_weights a_t_court_costs a_t_court_roll a_t_court_by t_queued t_partCount t_greatestPart t_court_points t_court_allJudged t_court_judgments)) C hw hl (c_Court_deedCount l g a_t_court a_t_court_weights a_t_court_costs a_t_court_roll a_t_court_by a_t_court_judgments t_court_points t_court_allJudged _ h) tw_832 kk_X0_deedCount rfl ⟨rfl, rfl⟩ ⟨by decide, by decide⟩ (Nat.le_of_ble_eq_true rfl) 1 rfl rfl rfl [1] [0, 2] [0, 2, 1] rfl rfl rfl rfl rfl rfl (fun u => rfl) rfl dX7_unlikePairs_9 (fun r_5 u H locs h hw => ?_)
      refine lv_icmp_ge (tgt := 76) hx hb dX7_unlikePairs_12 (by decide) (fun c_12 => ?_) (fun c_12 => ?_)
      · have h := h.1 c_12
        refine lv_iload_n hx hb dX7_unlikePairs_76 rfl (lv_at hl 1 rfl) ?_
        exact hret () h hw dX7_unlikePairs_77 rfl
      · have h := h.2 c_12
        refine lv_iconst (v := 0) hx hb dX7_unlikePairs_15 (by decide) ?_
        refine lv_istore_n (lv' := [(3, .int 0), (0, .ref a_t), (1, .int x1), (2, .int x2)]) hx hb dX7_unlikePairs_16 rfl hl (by decide) rfl (fun ls hl => ?_)
        obtain ⟨n_17, h⟩ := h
        exact hL_Surveyor_unlikePairs_17 (L_Surveyor_unlikePairs_4 t_court_points t_court_judgments Q n) ih n_17 x1 x2 0 h _ _ _ hw (lv_sub hl [1, 2, 3, 0] rfl)
  refine lv_iconst (v := 0) hx hb dX7_unlikePairs_0 (by decide) ?_
  refine lv_istore_n (lv' := [(1, .int 0), (0, .ref a_t)]) hx hb dX7_unlikePairs_1 rfl hl (by decide) rfl (fun ls hl => ?_)
  refine lv_iconst (v := 0) hx hb dX7_unlikePairs_2 (by decide) ?_
  refine lv_istore_n (lv' := [(2, .int 0), (1, .int 0), (0, .ref a_t)]) hx hb dX7_unlikePairs_3 rfl hl (by decide) rfl (fun ls hl => ?_)
  obtain ⟨n_4, h⟩ := h
  exact hL_Surveyor_unlikePairs_4 n_4 0 0 h _ _ _ hw (lv_sub hl [2, 1, 0] rfl)
def B_Surveyor_reach_32 (x1 : Int32) (x2 : Int32) (t_court_points : Int32) (t_court_judgments : (Nat → Int32)) (Q : Int32 → (Nat → Int32) → (Nat → Int32) → Prop) (t_queued : Int32) (t_queue : (Nat → Int32)) (t_reached : (Nat → Int32)) : Prop := Q t_queued t_queue t_reached
def B_Surveyor_reach_81 (x1 : Int32) (x2 : Int32) (t_court_points : Int32) (t_court_judgments : (Nat → Int32)) (Q : Int32 → (Nat → Int32) → (Nat → Int32) → Prop) (t_queued : Int32) (t_queue : (Nat → Int32)) (t_reached : (Nat → Int32)) : Prop := Q t_queued t_queue t_reached
def P_Surveyor_reach (x1 : Int32) (x2 : Int32) (t_queued : Int32) (t_court_points : Int32) (t_queue : (Nat → Int32)) (t_reached : (Nat → Int32)) (t_court_judgments : (Nat → Int32)) (Q : Int32 → (Nat → Int32) → (Nat → Int32) → Prop) : Prop := P_Court_isDeed x1 t_court_points (fun r_1 => (r_1 = 0 → B_Surveyor_reach_32 x1 x2 t_court_points t_court_judgments Q t_queued t_queue t_reached) ∧ (¬ r_1 = 0 → ((nI 1024) ≤ t_queued → B_Surveyor_reach_32 x1 x2 t_court_points t_court_judgments Q t_queued t_queue t_reached) ∧ (¬ (nI 1024) ≤ t_queued → (x1 < (nI 1024) → vp_in x1 1024 ∧ ((¬ (t_reached x1.toNatClampNeg) = 0 → B_Surveyor_reach_81 x1 x2 t_court_points t_court_judgments Q t_queued t_queue t_reached) ∧ ((t_reached x1.toNatClampNeg) = 0 → P_Court_judgmentOf x1 t_court_judgments (fun r_2 => (¬ r_2 = x2 → B_Surveyor_reach_81 x1 x2 t_court_points t_court_judgments Q t_queued t_queue t_reached) ∧ (r_2 = x2 → vp_in x1 1024 ∧ (vp_in t_queued 1024 ∧ (∀ t_queued_3 : Int32, t_queued_3 = (t_queued + 1) → B_Surveyor_reach_81 x1 x2 t_court_points t_court_judgments Q t_queued_3 (upd t_queue t_queued.toNatClampNeg x1) (upd t_reached x1.toNatClampNeg 1)))))))) ∧ (¬ x1 < (nI 1024) → B_Surveyor_reach_32 x1 x2 t_court_points t_court_judgments Q t_queued t_queue t_reached))))
abbrev rm_Surveyor_reach : Room := { frames := 2, cells := 0, slots := 0, locals := 41 }
def cs_Surveyor_reach (g : GE) (a_t a_t_court a_t_queue a_t_reached a_t_court_judgments a_t_court_weights a_t_court_costs a_t_court_roll a_t_court_by : Nat) (t_queued : Int32) (t_partCount : Int32) (t_greatestPart : Int32) (t_court_points : Int32) (t_court_allJudged : Int32) (t_queue : (Nat → Int32)) (t_reached : (Nat → Int32)) (t_court_judgments : (Nat → Int32)) : va_W := [oc a_t 7 [.ref a_t_court, .ref a_t_queue, .ref a_t_reached, .int t_queued, .int t_partCount, .int t_greatestPart], oc a_t_court 0 [.ref a_t_court_weights, .ref a_t_court_costs, .ref a_t_court_roll, .int t_court_points, .ref a_t_court_by, .ref a_t_court_judgments, .int t_court_allJudged], ai g a_t_queue 1024 t_queue, ai g a_t_reached 1024 t_reached, ai g a_t_court_judgments 1024 t_court_judgments]
set_option maxHeartbeats 4000000 in
set_option maxRecDepth 100000 in
theorem c_Surveyor_reach (l : Launch) (g : GE) (a_t a_t_court a_t_queue a_t_reached a_t_court_judgments a_t_court_weights a_t_court_costs a_t_court_roll a_t_court_by : Nat) (t_queued : Int32) (t_partCount : Int32) (t_greatestPart : Int32) (t_court_points : Int32) (t_court_allJudged : Int32) (t_queue : (Nat → Int32)) (t_reached : (Nat → Int32)) (t_court_judgments : (Nat → Int32)) (x1 : Int32) (x2 : Int32) (Q : Int32 → (Nat → Int32) → (Nat → Int32) → Prop) (h : P_Surveyor_reach x1 x2 t_queued t_court_points t_queue t_reached t_court_judgments Q) : Ctv l g yX7_reach cX7_reach 3 none rm_Surveyor_reach [.ref a_t, .int x1, .int x2] (cs_Surveyor_reach g a_t a_t_court a_t_queue a_t_reached a_t_court_judgments a_t_court_weights a_t_court_costs a_t_court_roll a_t_court_by t_queued t_partCount t_greatestPart t_court_points t_court_allJudged t_queue t_reached t_court_judgments) (S := Int32 × (Nat → Int32) × (Nat → Int32)) (fun u => Q u.1 u.2.1 u.2.2) (fun u => (cs_Surveyor_reach g a_t a_t_court a_t_queue a_t_reached a_t_court_judgments a_t_court_weights a_t_court_costs a_t_court_roll a_t_court_by (u.1) t_partCount t_greatestPart t_court_points t_court_allJudged (u.2.1) (u.2.2) t_court_judgments)) := by
  refine meetV rfl (Nat.le_of_ble_eq_true rfl) ⟨rfl, rfl⟩ ?_
  intro p e s m args below meth c A Qf ls C hret hw hl
  have hx := C.1
  have hb := C.2.1
  have hown := C.2.2.2.1
  have hts := C.2.2.2.2.1
  have hE := C.2.2.2.2.2.1
  have hl : lv_has ls 3 [(0, .ref a_t), (1, .int x1), (2, .int x2)] := hl
  have hB_Surveyor_reach_32 : ∀ (t_queued : Int32) (t_queue : (Nat → Int32)) (t_reached : (Nat → Int32)), B_Surveyor_reach_32 x1 x2 t_court_points t_court_judgments Q t_queued t_queue t_reached → Wat p l e rm_Surveyor_reach s m args below meth c A Qf g 3 (cs_Surveyor_reach g a_t a_t_court a_t_queue a_t_reached a_t_court_judgments a_t_court_weights a_t_court_costs a_t_court_roll a_t_court_by t_queued t_partCount t_greatestPart t_court_points t_court_allJudged t_queue t_reached t_court_judgments) [] 32 [] := by
    intro t_queued t_queue t_reached h H locs ls hw hl
    exact hret (t_queued, t_queue, t_reached) h hw dX7_reach_32
  have hB_Surveyor_reach_81 : ∀ (t_queued : Int32) (t_queue : (Nat → Int32)) (t_reached : (Nat → Int32)), B_Surveyor_reach_81 x1 x2 t_court_points t_court_judgments Q t_queued t_queue t_reached → Wat p l e rm_Surveyor_reach s m args below meth c A Qf g 3 (cs_Surveyor_reach g a_t a_t_court a_t_queue a_t_reached a_t_court_judgments a_t_court_weights a_t_court_costs a_t_court_roll a_t_court_by t_queued t_partCount t_greatestPart t_court_points t_court_allJudged t_queue t_reached t_court_judgments) [] 81 [] := by
    intro t_queued t_queue t_reached h H locs ls hw hl
    exact hret (t_queued, t_queue, t_reached) h hw dX7_reach_81
  refine lv_aload_n hx hb dX7_reach_0 rfl (lv_at hl 0 rfl) ?_
  refine G_RX7_18 C hw 0 rfl dX7_reach_1 ?_
  refine lv_iload_n hx hb dX7_reach_4 rfl (lv_at hl 1 rfl) ?_
  refine callVi (As := [.int x1]) (rest := []) (W2 := fun _ => (cs_Surveyor_reach g a_t a_t_court a_t_queue a_t_reached a_t_court_judgments a_t_court_weights a_t_court_costs a_t_court_roll a_t_court_by t_queued t_partCount t_greatestPart t_court_points t_court_allJudged t_queue t_reached t_court_judgments)) C hw hl (c_Court_isDeed l g a_t_court a_t_court_weights a_t_court_costs a_t_court_roll a_t_court_by a_t_court_judgments t_court_points t_court_allJudged x1 _ h) tw_848 kk_X0_isDeed rfl ⟨rfl, rfl⟩ ⟨by decide, by decide⟩ (Nat.le_of_ble_eq_true rfl) 1 rfl rfl rfl [1] [0, 2, 3, 4] [0, 4, 1, 2, 3] rfl rfl rfl rfl rfl rfl (fun u => rfl) rfl dX7_reach_5 (fun r_1 u H locs h hw => ?_)
  refine lv_if_eq (tgt := 32) hx hb dX7_reach_8 (by decide) (fun c_8 => ?_) (fun c_8 => ?_)
  · have h := h.1 c_8
    exact hB_Surveyor_reach_32 t_queued t_queue t_reached h _ _ _ hw (lv_sub hl [] rfl)
  · have h := h.2 c_8
    refine lv_aload_n hx hb dX7_reach_11 rfl (lv_at hl 0 rfl) ?_
    refine G_RX7_51 C hw 0 rfl dX7_reach_12 ?_
    refine lv_aload_n hx hb dX7_reach_15 rfl (lv_at hl 0 rfl) ?_
    refine G_RX7_9 C hw 0 rfl dX7_reach_16 ?_
    refine alnI C hw 2 rfl dX7_reach_19 ?_
    refine lv_icmp_ge (tgt := 32) hx hb dX7_reach_20 (by decide) (fun c_20 => ?_) (fun c_20 => ?_)
    · have h := h.1 c_20
      exact hB_Surveyor_reach_32 t_queued t_queue t_reached h _ _ _ hw (lv_sub hl [] rfl)
    · have h := h.2 c_20
      refine lv_iload_n hx hb dX7_reach_23 rfl (lv_at hl 1 rfl) ?_
      refine lv_aload_n hx hb dX7_reach_24 rfl (lv_at hl 0 rfl) ?_
      refine G_RX7_15 C hw 0 rfl dX7_reach_25 ?_
      refine alnI C hw 3 rfl dX7_reach_28 ?_
      refine lv_icmp_lt (tgt := 33) hx hb dX7_reach_29 (by decide) (fun c_29 => ?_) (fun c_29 => ?_)
      · have h := h.1 c_29
        refine lv_aload_n hx hb dX7_reach_33 rfl (lv_at hl 0 rfl) ?_
        refine G_RX7_15 C hw 0 rfl dX7_reach_34 ?_
        refine lv_iload_n hx hb dX7_reach_37 rfl (lv_at hl 1 rfl) ?_
        refine aldI C hw 3 rfl h.1 dX7_reach_38 ?_
        have h := h.2
        refine lv_if_ne (tgt := 81) hx hb dX7_reach_39 (by decide) (fun c_39 => ?_) (fun c_39 => ?_)
        · have h := h.1 c_39
          exact hB_Surveyor_reach_81 t_queued t_queue t_reached h _ _ _ hw (lv_sub hl [] rfl)
        · have h := h.2 c_39
          refine lv_aload_n hx hb dX7_reach_42 rfl (lv_at hl 0 rfl) ?_
          refine G_RX7_18 C hw 0 rfl dX7_reach_43 ?_
          refine lv_iload_n hx hb dX7_reach_46 rfl (lv_at hl 1 rfl) ?_
          refine callVi (As := [.int x1]) (rest := []) (W2 := fun _ => (cs_Surveyor_reach g a_t a_t_court a_t_queue a_t_reached a_t_court_judgments a_t_court_weights a_t_court_costs a_t_court_roll a_t_court_by t_queued t_partCount t_greatestPart t_court_points t_court_allJudged t_queue t_reached t_court_judgments)) C hw hl (c_Court_judgmentOf l g a_t_court a_t_court_judgments a_t_court_weights a_t_court_costs a_t_court_roll a_t_court_by t_court_points t_court_allJudged t_court_judgments x1 _ h) tw_834 kk_X0_judgmentOf rfl ⟨rfl, rfl⟩ ⟨by decide, by decide⟩ (Nat.le_of_ble_eq_true rfl) 1 rfl rfl rfl [1, 4] [0, 2, 3] [0, 3, 1, 2, 4] rfl rfl rfl rfl rfl rfl (fun u => rfl) rfl dX7_reach_47 (fun r_2 u H locs h hw => ?_)
          refine lv_iload_n hx hb dX7_reach_50 rfl (lv_at hl 2 rfl) ?_
          refine lv_icmp_ne (tgt := 81) hx hb dX7_reach_51 (by decide) (fun c_51 => ?_) (fun c_51 => ?_)
          · have h := h.1 c_51
            exact hB_Surveyor_reach_81 t_queued t_queue t_reached h _ _ _ hw (lv_sub hl [] rfl)
          · have h := h.2 c_51
            refine lv_aload_n hx hb dX7_reach_54 rfl (lv_at hl 0 rfl) ?_
            refine G_RX7_15 C hw 0 rfl dX7_reach_55 ?_
            refine lv_iload_n hx hb dX7_reach_58 rfl (lv_at hl 1 rfl) ?_
            refine lv_iconst (v := 1) hx hb dX7_reach_59 (by decide) ?_
            refine astI (ws2 := (cs_Surveyor_reach g a_t a_t_court a_t_queue a_t_reached a_t_court_judgments a_t_court_weights a_t_court_costs a_t_court_roll a_t_court_by t_queued t_partCount t_greatestPart t_court_points t_court_allJudged t_queue (upd t_reached x1.toNatClampNeg 1) t_court_judgments)) C hw 3 rfl h.1 rfl dX7_reach_60 (fun H locs hw => ?_)
            have h := h.2
            refine lv_aload_n hx hb dX7_reach_61 rfl (lv_at hl 0 rfl) ?_
            refine G_RX7_9 C hw 0 rfl dX7_reach_62 ?_
            refine lv_aload_n hx hb dX7_reach_65 rfl (lv_at hl 0 rfl) ?_
            refine G_RX7_51 C hw 0 rfl dX7_reach_66 ?_
            refine lv_iload_n hx hb dX7_reach_69 rfl (lv_at hl 1 rfl) ?_
            refine astI (ws2 := (cs_Surveyor_reach g a_t a_t_court a_t_queue a_t_reached a_t_court_judgments a_t_court_weights a_t_court_costs a_t_court_roll a_t_court_by t_queued t_partCount t_greatestPart t_court_points t_court_allJudged (upd t_queue t_queued.toNatClampNeg x1) (upd t_reached x1.toNatClampNeg 1) t_court_judgments)) C hw 2 rfl h.1 rfl dX7_reach_70 (fun H locs hw => ?_)
            have h := h.2
            refine lv_aload_n hx hb dX7_reach_71 rfl (lv_at hl 0 rfl) ?_
            refine lv_dup hx hb dX7_reach_72 rfl ?_
            refine G_RX7_51 C hw 0 rfl dX7_reach_73 ?_
            refine lv_iconst (v := 1) hx hb dX7_reach_76 (by decide) ?_
            refine lv_iadd hx hb dX7_reach_77 ?_
            refine lv_topi (fun t_queued_3 et_queued_3 => ?_)
            have h := h t_queued_3 et_queued_3
            refine U_RX7_51 (ws2 := (cs_Surveyor_reach g a_t a_t_court a_t_queue a_t_reached a_t_court_judgments a_t_court_weights a_t_court_costs a_t_court_roll a_t_court_by t_queued_3 t_partCount t_greatestPart t_court_points t_court_allJudged (upd t_queue t_queued.toNatClampNeg x1) (upd t_reached x1.toNatClampNeg 1) t_court_judgments)) C hw 0 rfl rfl rfl rfl dX7_reach_78 (fun H locs hw => ?_)
            exact hB_Surveyor_reach_81 t_queued_3 (upd t_queue t_queued.toNatClampNeg x1) (upd t_reached x1.toNatClampNeg 1) h _ _ _ hw (lv_sub hl [] rfl)
      · have h := h.2 c_29
        exact hB_Surveyor_reach_32 t_queued t_queue t_reached h _ _ _ hw (lv_sub hl [] rfl)
def B_Surveyor_partSize_59 (x1 : Int32) (t_court_points : Int32) (t_court_judgments : (Nat → Int32)) (Q : Int32 → Int32 → (Nat → Int32) → (Nat → Int32) → Prop) (t_queued : Int32) (t_queue : (Nat → Int32)) (t_reached : (Nat → Int32)) : Prop := Q t_queued t_queued t_queue t_reached
def L_Surveyor_partSize_21 (x1 : Int32) (t_court_points : Int32) (t_court_judgments : (Nat → Int32)) (Q : Int32 → Int32 → (Nat → Int32) → (Nat → Int32) → Prop) (N_2 : Int32 → Int32 → (Nat → Int32) → (Nat → Int32) → Prop) : Nat → Int32 → Int32 → Int32 → (Nat → Int32) → (Nat → Int32) → Prop
  | 0 => fun _ _ _ _ _ => False
  | n + 1 => fun x2 x3 t_queued t_queue t_reached => P_Court_points t_court_points (fun r_1 => (r_1 ≤ x3 → N_2 (x2 + 1) t_queued t_queue t_reached) ∧ (¬ r_1 ≤ x3 → vp_in x2 1024 ∧ (P_Surveyor_reach ((t_queue x2.toNatClampNeg) ^^^ (1 <<< (x3 &&& 31))) x1 t_queued t_court_points t_queue t_reached t_court_judgments (fun t_queued_2 t_queue_3 t_reached_4 => (L_Surveyor_partSize_21 x1 t_court_points t_court_judgments Q N_2 n) x2 (x3 + 1) t_queued_2 t_queue_3 t_reached_4))))
def L_Surveyor_partSize_2 (x1 : Int32) (t_court_points : Int32) (t_court_judgments : (Nat → Int32)) (Q : Int32 → Int32 → (Nat → Int32) → (Nat → Int32) → Prop) : Nat → Int32 → Int32 → (Nat → Int32) → (Nat → Int32) → Prop
  | 0 => fun _ _ _ _ => False
  | n + 1 => fun x2 t_queued t_queue t_reached => (t_queued ≤ x2 → B_Surveyor_partSize_59 x1 t_court_points t_court_judgments Q t_queued t_queue t_reached) ∧ (¬ t_queued ≤ x2 → ((nI 1024) ≤ x2 → B_Surveyor_partSize_59 x1 t_court_points t_court_judgments Q t_queued t_queue t_reached) ∧ (¬ (nI 1024) ≤ x2 → ∃ n_21 : Nat, L_Surveyor_partSize_21 x1 t_court_points t_court_judgments Q (L_Surveyor_partSize_2 x1 t_court_points t_court_judgments Q n) n_21 x2 0 t_queued t_queue t_reached))
def P_Surveyor_partSize (x1 : Int32) (t_queued : Int32) (t_court_points : Int32) (t_queue : (Nat → Int32)) (t_reached : (Nat → Int32)) (t_court_judgments : (Nat → Int32)) (Q : Int32 → Int32 → (Nat → Int32) → (Nat → Int32) → Prop) : Prop := ∃ n_2 : Nat, L_Surveyor_partSize_2 x1 t_court_points t_court_judgments Q n_2 0 t_queued t_queue t_reached
abbrev rm_Surveyor_partSize : Room := { frames := 3, cells := 0, slots := 0, locals := 63 }
def cs_Surveyor_partSize (g : GE) (a_t a_t_court a_t_queue a_t_reached a_t_court_judgments a_t_court_weights a_t_court_costs a_t_court_roll a_t_court_by : Nat) (t_queued : Int32) (t_partCount : Int32) (t_greatestPart : Int32) (t_court_points : Int32) (t_court_allJudged : Int32) (t_queue : (Nat → Int32)) (t_reached : (Nat → Int32)) (t_court_judgments : (Nat → Int32)) : va_W := [oc a_t 7 [.ref a_t_court, .ref a_t_queue, .ref a_t_reached, .int t_queued, .int t_partCount, .int t_greatestPart], oc a_t_court 0 [.ref a_t_court_weights, .ref a_t_court_costs, .ref a_t_court_roll, .int t_court_points, .ref a_t_court_by, .ref a_t_court_judgments, .int t_court_allJudged], ai g a_t_queue 1024 t_queue, ai g a_t_reached 1024 t_reached, ai g a_t_court_judgments 1024 t_court_judgments]
set_option maxHeartbeats 4000000 in
set_option maxRecDepth 100000 in
theorem c_Surveyor_partSize (l : Launch) (g : GE) (a_t a_t_court a_t_queue a_t_reached a_t_court_judgments a_t_court_weights a_t_court_costs a_t_court_roll a_t_court_by : Nat) (t_queued : Int32) (t_partCount : Int32) (t_greatestPart : Int32) (t_court_points : Int32) (t_court_allJudged : Int32) (t_queue : (Nat → Int32)) (t_reached : (Nat → Int32)) (t_court_judgments : (Nat → Int32)) (x1 : Int32) (Q : Int32 → Int32 → (Nat → Int32) → (Nat → Int32) → Prop) (h : P_Surveyor_partSize x1 t_queued t_court_points t_queue t_reached t_court_judgments Q) : Cti l g yX7_partSize cX7_partSize 4 (some .int) rm_Surveyor_partSize [.ref a_t, .int x1] (cs_Surveyor_partSize g a_t a_t_court a_t_queue a_t_reached a_t_court_judgments a_t_court_weights a_t_court_costs a_t_court_roll a_t_court_by t_queued t_partCount t_greatestPart t_court_points t_court_allJudged t_queue t_reached t_court_judgments) (S := Int32 × (Nat → Int32) × (Nat → Int32)) (fun r u => Q r u.1 u.2.1 u.2.2) (fun u => (cs_Surveyor_partSize g a_t a_t_court a_t_queue a_t_reached a_t_court_judgments a_t_court_weights a_t_court_costs a_t_court_roll a_t_court_by (u.1) t_partCount t_greatestPart t_court_points t_court_allJudged (u.2.1) (u.2.2) t_court_judgments)) := by
  refine meetI rfl (Nat.le_of_ble_eq_true rfl) ⟨rfl, rfl⟩ ?_
  intro p e s m args below meth c A Qf ls C hret hw hl
  have hx := C.1
  have hb := C.2.1
  have hown := C.2.2.2.1
  have hts := C.2.2.2.2.1
  have hE := C.2.2.2.2.2.1
  have hl : lv_has ls 4 [(0, .ref a_t), (1, .int x1)] := hl
  have hB_Surveyor_partSize_59 : ∀ (t_queued : Int32) (t_queue : (Nat → Int32)) (t_reached : (Nat → Int32)), B_Surveyor_partSize_59 x1 t_court_points t_court_judgments Q t_queued t_queue t_reached → Wat p l e rm_Surveyor_partSize s m args below meth c A Qf g 4 (cs_Surveyor_partSize g a_t a_t_court a_t_queue a_t_reached a_t_court_judgments a_t_court_weights a_t_court_costs a_t_court_roll a_t_court_by t_queued t_partCount t_greatestPart t_court_points t_court_allJudged t_queue t_reached t_court_judgments) [(0, .ref a_t)] 59 [] := by
    intro t_queued t_queue t_reached h H locs ls hw hl
    refine lv_aload_n hx hb dX7_partSize_59 rfl (lv_at hl 0 rfl) ?_
    refine G_RX7_51 C hw 0 rfl dX7_partSize_60 ?_
    exact hret (t_queued, t_queue, t_reached) h hw dX7_partSize_63 rfl
  have hL_Surveyor_partSize_21 : ∀ (N_2 : Int32 → Int32 → (Nat → Int32) → (Nat → Int32) → Prop) (hN_2 : ∀ (x2 : Int32) (t_queued : Int32) (t_queue : (Nat → Int32)) (t_reached : (Nat → Int32)), N_2 x2 t_queued t_queue t_reached → Wat p l e rm_Surveyor_partSize s m args below meth c A Qf g 4 (cs_Surveyor_partSize g a_t a_t_court a_t_queue a_t_reached a_t_court_judgments a_t_court_weights a_t_court_costs a_t_court_roll a_t_court_by t_queued t_partCount t_greatestPart t_court_points t_court_allJudged t_queue t_reached t_court_judgments) [(0, .ref a_t), (1, .int x1), (2, .int x2)] 2 []) (n : Nat) (x2 : Int32) (x3 : Int32) (t_queued : Int32) (t_queue : (Nat → Int32)) (t_reached : (Nat → Int32)), L_Surveyor_partSize_21 x1 t_court_points t_court_judgments Q N_2 n x2 x3 t_queued t_queue t_reached → Wat p l e rm_Surveyor_partSize s m args below meth c A Qf g 4 (cs_Surveyor_partSize g a_t a_t_court a_t_queue a_t_reached a_t_court_judgments a_t_court_weights a_t_court_costs a_t_court_roll a_t_court_by t_queued t_partCount t_greatestPart t_court_points t_court_allJudged t_queue t_reached t_court_judgments) [(0, .ref a_t), (1, .int x1), (2, .int x2), (3, .int x3)] 21 [] := by
    intro N_2 hN_2 n
    induction n with
    | zero => intro x2 x3 t_queued t_queue t_reached h; exact absurd h id
    | succ n ih =>
      intro x2 x3 t_queued t_queue t_reached h H locs ls hw hl
      rw [L_Surveyor_partSize_21] at h
      refine lv_iload_n hx hb dX7_partSize_21 rfl (lv_at hl 3 rfl) ?_
      refine lv_aload_n hx hb dX7_partSize_22 rfl (lv_at hl 0 rfl) ?_
      refine G_RX7_18 C hw 0 rfl dX7_partSize_23 ?_
      refine callVi (As := []) (rest := [.int x3]) (W2 := fun _ => (cs_Surveyor_partSize g a_t a_t_court a_t_queue a_t_reached a_t_court_judgments a_t_court_weights a_t_court_costs a_t_court_roll a_t_court_by t_queued t_partCount t_greatestPart t_court_points t_court_allJudged t_queue t_reached t_court_judgments)) C hw hl (c_Court_points l g a_t_court a_t_court_weights a_t_court_costs a_t_court_roll a_t_court_by a_t_court_judgments t_court_points t_court_allJudged _ h) tw_833 kk_X0_points rfl ⟨rfl, rfl⟩ ⟨by decide, by decide⟩ (Nat.le_of_ble_eq_true rfl) 1 rfl rfl rfl [1] [0, 2, 3, 4] [0, 4, 1, 2, 3] rfl rfl rfl rfl rfl rfl (fun u => rfl) rfl dX7_partSize_26 (fun r_1 u H locs h hw => ?_)
      refine lv_icmp_ge (tgt := 53) hx hb dX7_partSize_29 (by decide) (fun c_29 => ?_) (fun c_29 => ?_)
      · have h := h.1 c_29
        refine lv_iinc (v := x2 + 1) (lv' := [(2, .int (x2 + 1)), (0, .ref a_t), (1, .int x1), (3, .int x3)]) hx hb dX7_partSize_53 hl (k := 2) rfl rfl (by decide) rfl (fun ls hl => ?_)
        refine lv_goto (tgt := 2) hx hb dX7_partSize_56 (by decide) ?_
        exact hN_2 (x2 + 1) t_queued t_queue t_reached h _ _ _ hw (lv_sub hl [1, 2, 0] rfl)
      · have h := h.2 c_29
        refine lv_aload_n hx hb dX7_partSize_32 rfl (lv_at hl 0 rfl) ?_
        refine lv_aload_n hx hb dX7_partSize_33 rfl (lv_at hl 0 rfl) ?_
        refine G_RX7_9 C hw 0 rfl dX7_partSize_34 ?_
        refine lv_iload_n hx hb dX7_partSize_37 rfl (lv_at hl 2 rfl) ?_
        refine aldI C hw 2 rfl h.1 dX7_partSize_38 ?_
        have h := h.2
        refine lv_iconst (v := 1) hx hb dX7_partSize_39 (by decide) ?_
        refine lv_iload_n hx hb dX7_partSize_40 rfl (lv_at hl 3 rfl) ?_
        refine lv_ishl hx hb dX7_partSize_41 ?_
        refine lv_ixor hx hb dX7_partSize_42 ?_
        refine lv_iload_n hx hb dX7_partSize_43 rfl (lv_at hl 1 rfl) ?_
        refine callVv (As := [.int ((t_queue x2.toNatClampNeg) ^^^ (1 <<< (x3 &&& 31))), .int x1]) (rest := []) (W2 := fun u => (cs_Surveyor_partSize g a_t a_t_court a_t_queue a_t_reached a_t_court_judgments a_t_court_weights a_t_court_costs a_t_court_roll a_t_court_by (u.1) t_partCount t_greatestPart t_court_points t_court_allJudged (u.2.1) (u.2.2) t_court_judgments)) C hw hl (c_Surveyor_reach l g a_t a_t_court a_t_queue a_t_reached a_t_court_judgments a_t_court_weights a_t_court_costs a_t_court_roll a_t_court_by t_queued t_partCount t_greatestPart t_court_points t_court_allJudged t_queue t_reached t_court_judgments ((t_queue x2.toNatClampNeg) ^^^ (1 <<< (x3 &&& 31))) x1 _ h) tw_844 kk_X7_reach rfl ⟨rfl, rfl⟩ ⟨by decide, by decide⟩ (Nat.le_of_ble_eq_true rfl) 0 rfl rfl rfl [0, 1, 2, 3, 4] [] [0, 1, 2, 3, 4] rfl rfl rfl rfl rfl rfl (fun u => rfl) rfl dX7_partSize_44 (fun u H locs h hw => ?_)
        obtain ⟨t_queued_2, t_queue_3, t_reached_4⟩ := u
        have hw : Wd g A s (cs_Surveyor_partSize g a_t a_t_court a_t_queue a_t_reached a_t_court_judgments a_t_court_weights a_t_court_costs a_t_court_roll a_t_court_by t_queued_2 t_partCount t_greatestPart t_court_points t_court_allJudged t_queue_3 t_reached_4 t_court_judgments) H locs := hw
        refine lv_iinc (v := x3 + 1) (lv' := [(3, .int (x3 + 1)), (0, .ref a_t), (1, .int x1), (2, .int x2)]) hx hb dX7_partSize_47 hl (k := 3) rfl rfl (by decide) rfl (fun ls hl => ?_)
        refine lv_goto (tgt := 21) hx hb dX7_partSize_50 (by decide) ?_
        exact ih x2 (x3 + 1) t_queued_2 t_queue_3 t_reached_4 h _ _ _ hw (lv_sub hl [1, 2, 3, 0] rfl)
  have hL_Surveyor_partSize_2 : ∀ (n : Nat) (x2 : Int32) (t_queued : Int32) (t_queue : (Nat → Int32)) (t_reached : (Nat → Int32)), L_Surveyor_partSize_2 x1 t_court_points t_court_judgments Q n x2 t_queued t_queue t_reached → Wat p l e rm_Surveyor_partSize s m args below meth c A Qf g 4 (cs_Surveyor_partSize g a_t a_t_court a_t_queue a_t_reached a_t_court_judgments a_t_court_weights a_t_court_costs a_t_court_roll a_t_court_by t_queued t_partCount t_greatestPart t_court_points t_court_allJudged t_queue t_reached t_court_judgments) [(0, .ref a_t), (1, .int x1), (2, .int x2)] 2 [] := by
    intro n
    induction n with
    | zero => intro x2 t_queued t_queue t_reached h; exact absurd h id
    | succ n ih =>
      intro x2 t_queued t_queue t_reached h H locs ls hw hl
      rw [L_Surveyor_partSize_2] at h
      refine lv_iload_n hx hb dX7_partSize_2 rfl (lv_at hl 2 rfl) ?_
      refine lv_aload_n hx hb dX7_partSize_3 rfl (lv_at hl 0 rfl) ?_
      refine G_RX7_51 C hw 0 rfl dX7_partSize_4 ?_
      refine lv_icmp_ge (tgt := 59) hx hb dX7_partSize_7 (by decide) (fun c_7 => ?_) (fun c_7 => ?_)
      · have h := h.1 c_7
        exact hB_Surveyor_partSize_59 t_queued t_queue t_reached h _ _ _ hw (lv_sub hl [0] rfl)
      · have h := h.2 c_7
        refine lv_iload_n hx hb dX7_partSize_10 rfl (lv_at hl 2 rfl) ?_
        refine lv_aload_n hx hb dX7_partSize_11 rfl (lv_at hl 0 rfl) ?_
        refine G_RX7_9 C hw 0 rfl dX7_partSize_12 ?_
        refine alnI C hw 2 rfl dX7_partSize_15 ?_
        refine lv_icmp_ge (tgt := 59) hx hb dX7_partSize_16 (by decide) (fun c_16 => ?_) (fun c_16 => ?_)
        · have h := h.1 c_16
          exact hB_Surveyor_partSize_59 t_queued t_queue t_reached h _ _ _ hw (lv_sub hl [0] rfl)
        · have h := h.2 c_16
          refine lv_iconst (v := 0) hx hb dX7_partSize_19 (by decide) ?_
          refine lv_istore_n (lv' := [(3, .int 0), (0, .ref a_t), (1, .int x1), (2, .int x2)]) hx hb dX7_partSize_20 rfl hl (by decide) rfl (fun ls hl => ?_)
          obtain ⟨n_21, h⟩ := h
          exact hL_Surveyor_partSize_21 (L_Surveyor_partSize_2 x1 t_court_points t_court_judgments Q n) ih n_21 x2 0 t_queued t_queue t_reached h _ _ _ hw (lv_sub hl [1, 2, 3, 0] rfl)
  refine lv_iconst (v := 0) hx hb dX7_partSize_0 (by decide) ?_
  refine lv_istore_n (lv' := [(2, .int 0), (0, .ref a_t), (1, .int x1)]) hx hb dX7_partSize_1 rfl hl (by decide) rfl (fun ls hl => ?_)
  obtain ⟨n_2, h⟩ := h
  exact hL_Surveyor_partSize_2 n_2 0 t_queued t_queue t_reached h _ _ _ hw (lv_sub hl [1, 2, 0] rfl)
def B_Surveyor_survey_75 (x1 : Int32) (t_court_points : Int32) (t_court_judgments : (Nat → Int32)) (Q : Int32 → Int32 → Int32 → (Nat → Int32) → (Nat → Int32) → Prop) (N_20 : Int32 → Int32 → Int32 → Int32 → (Nat → Int32) → (Nat → Int32) → Prop) (x2 : Int32) (t_queued : Int32) (t_partCount : Int32) (t_greatestPart : Int32) (t_queue : (Nat → Int32)) (t_reached : (Nat → Int32)) : Prop := N_20 (x2 + 1) t_queued t_partCount t_greatestPart t_queue t_reached
def L_Surveyor_survey_20 (x1 : Int32) (t_court_points : Int32) (t_court_judgments : (Nat → Int32)) (Q : Int32 → Int32 → Int32 → (Nat → Int32) → (Nat → Int32) → Prop) : Nat → Int32 → Int32 → Int32 → Int32 → (Nat → Int32) → (Nat → Int32) → Prop
  | 0 => fun _ _ _ _ _ _ => False
  | n + 1 => fun x2 t_queued t_partCount t_greatestPart t_queue t_reached => P_Court_deedCount t_court_points (fun r_1 => (r_1 ≤ x2 → Q t_queued t_partCount t_greatestPart t_queue t_reached) ∧ (¬ r_1 ≤ x2 → P_Surveyor_reach x2 x1 0 t_court_points t_queue t_reached t_court_judgments (fun t_queued_2 t_queue_3 t_reached_4 => (t_queued_2 ≤ 0 → B_Surveyor_survey_75 x1 t_court_points t_court_judgments Q (L_Surveyor_survey_20 x1 t_court_points t_court_judgments Q n) x2 t_queued_2 t_partCount t_greatestPart t_queue_3 t_reached_4) ∧ (¬ t_queued_2 ≤ 0 → ∀ t_partCount_5 : Int32, t_partCount_5 = (t_partCount + 1) → P_Surveyor_partSize x1 t_queued_2 t_court_points t_queue_3 t_reached_4 t_court_judgments (fun r_6 t_queued_7 t_queue_8 t_reached_9 => ∀ t_greatestPart_10 : Int32, t_greatestPart_10 = (if t_greatestPart < r_6 then r_6 else t_greatestPart) → B_Surveyor_survey_75 x1 t_court_points t_court_judgments Q (L_Surveyor_survey_20 x1 t_court_points t_court_judgments Q n) x2 t_queued_7 t_partCount_5 t_greatestPart_10 t_queue_8 t_reached_9)))))
def P_Surveyor_survey (x1 : Int32) (t_queued : Int32) (t_partCount : Int32) (t_greatestPart : Int32) (t_court_points : Int32) (t_queue : (Nat → Int32)) (t_reached : (Nat → Int32)) (t_court_judgments : (Nat → Int32)) (Q : Int32 → Int32 → Int32 → (Nat → Int32) → (Nat → Int32) → Prop) : Prop := P_Arrays_fill 0 1024 t_reached (fun t_reached_11 => ∃ n_20 : Nat, L_Surveyor_survey_20 x1 t_court_points t_court_judgments Q n_20 0 t_queued 0 0 t_queue t_reached_11)
abbrev rm_Surveyor_survey : Room := { frames := 4, cells := 0, slots := 0, locals := 86 }
def cs_Surveyor_survey (g : GE) (a_t a_t_court a_t_queue a_t_reached a_t_court_judgments a_t_court_weights a_t_court_costs a_t_court_roll a_t_court_by : Nat) (t_queued : Int32) (t_partCount : Int32) (t_greatestPart : Int32) (t_court_points : Int32) (t_court_allJudged : Int32) (t_queue : (Nat → Int32)) (t_reached : (Nat → Int32)) (t_court_judgments : (Nat → Int32)) : va_W := [oc a_t 7 [.ref a_t_court, .ref a_t_queue, .ref a_t_reached, .int t_queued, .int t_partCount, .int t_greatestPart], oc a_t_court 0 [.ref a_t_court_weights, .ref a_t_court_costs, .ref a_t_court_roll, .int t_court_points, .ref a_t_court_by, .ref a_t_court_judgments, .int t_court_allJudged], ai g a_t_queue 1024 t_queue, ai g a_t_reached 1024 t_reached, ai g a_t_court_judgments 1024 t_court_judgments]
set_option maxHeartbeats 4000000 in
set_option maxRecDepth 100000 in
theorem c_Surveyor_survey (l : Launch) (g : GE) (a_t a_t_court a_t_queue a_t_reached a_t_court_judgments a_t_court_weights a_t_court_costs a_t_court_roll a_t_court_by : Nat) (t_queued : Int32) (t_partCount : Int32) (t_greatestPart : Int32) (t_court_points : Int32) (t_court_allJudged : Int32) (t_queue : (Nat → Int32)) (t_reached : (Nat → Int32)) (t_court_judgments : (Nat → Int32)) (x1 : Int32) (Q : Int32 → Int32 → Int32 → (Nat → Int32) → (Nat → Int32) → Prop) (h : P_Surveyor_survey x1 t_queued t_partCount t_greatestPart t_court_points t_queue t_reached t_court_judgments Q) : Ctv l g yX7_survey cX7_survey 3 none rm_Surveyor_survey [.ref a_t, .int x1] (cs_Surveyor_survey g a_t a_t_court a_t_queue a_t_reached a_t_court_judgments a_t_court_weights a_t_court_costs a_t_court_roll a_t_court_by t_queued t_partCount t_greatestPart t_court_points t_court_allJudged t_queue t_reached t_court_judgments) (S := Int32 × Int32 × Int32 × (Nat → Int32) × (Nat → Int32)) (fun u => Q u.1 u.2.1 u.2.2.1 u.2.2.2.1 u.2.2.2.2) (fun u => (cs_Surveyor_survey g a_t a_t_court a_t_queue a_t_reached a_t_court_judgments a_t_court_weights a_t_court_costs a_t_court_roll a_t_court_by (u.1) (u.2.1) (u.2.2.1) t_court_points t_court_allJudged (u.2.2.2.1) (u.2.2.2.2) t_court_judgments)) := by
  refine meetV rfl (Nat.le_of_ble_eq_true rfl) ⟨rfl, rfl⟩ ?_
  intro p e s m args below meth c A Qf ls C hret hw hl
  have hx := C.1
  have hb := C.2.1
  have hown := C.2.2.2.1
  have hts := C.2.2.2.2.1
  have hE := C.2.2.2.2.2.1
  have hl : lv_has ls 3 [(0, .ref a_t), (1, .int x1)] := hl
  have hB_Surveyor_survey_75 : ∀ (N_20 : Int32 → Int32 → Int32 → Int32 → (Nat → Int32) → (Nat → Int32) → Prop) (hN_20 : ∀ (x2 : Int32) (t_queued : Int32) (t_partCount : Int32) (t_greatestPart : Int32) (t_queue : (Nat → Int32)) (t_reached : (Nat → Int32)), N_20 x2 t_queued t_partCount t_greatestPart t_queue t_reached → Wat p l e rm_Surveyor_survey s m args below meth c A Qf g 3 (cs_Surveyor_survey g a_t a_t_court a_t_queue a_t_reached a_t_court_judgments a_t_court_weights a_t_court_costs a_t_court_roll a_t_court_by t_queued t_partCount t_greatestPart t_court_points t_court_allJudged t_queue t_reached t_court_judgments) [(0, .ref a_t), (1, .int x1), (2, .int x2)] 20 []) (x2 : Int32) (t_queued : Int32) (t_partCount : Int32) (t_greatestPart : Int32) (t_queue : (Nat → Int32)) (t_reached : (Nat → Int32)), B_Surveyor_survey_75 x1 t_court_points t_court_judgments Q N_20 x2 t_queued t_partCount t_greatestPart t_queue t_reached → Wat p l e rm_Surveyor_survey s m args below meth c A Qf g 3 (cs_Surveyor_survey g a_t a_t_court a_t_queue a_t_reached a_t_court_judgments a_t_court_weights a_t_court_costs a_t_court_roll a_t_court_by t_queued t_partCount t_greatestPart t_court_points t_court_allJudged t_queue t_reached t_court_judgments) [(0, .ref a_t), (1, .int x1), (2, .int x2)] 75 [] := by
    intro N_20 hN_20 x2 t_queued t_partCount t_greatestPart t_queue t_reached h H locs ls hw hl
    refine lv_iinc (v := x2 + 1) (lv' := [(2, .int (x2 + 1)), (0, .ref a_t), (1, .int x1)]) hx hb dX7_survey_75 hl (k := 2) rfl rfl (by decide) rfl (fun ls hl => ?_)
    refine lv_goto (tgt := 20) hx hb dX7_survey_78 (by decide) ?_
    exact hN_20 (x2 + 1) t_queued t_partCount t_greatestPart t_queue t_reached h _ _ _ hw (lv_sub hl [1, 2, 0] rfl)
  have hL_Surveyor_survey_20 : ∀ (n : Nat) (x2 : Int32) (t_queued : Int32) (t_partCount : Int32) (t_greatestPart : Int32) (t_queue : (Nat → Int32)) (t_reached : (Nat → Int32)), L_Surveyor_survey_20 x1 t_court_points t_court_judgments Q n x2 t_queued t_partCount t_greatestPart t_queue t_reached → Wat p l e rm_Surveyor_survey s m args below meth c A Qf g 3 (cs_Surveyor_survey g a_t a_t_court a_t_queue a_t_reached a_t_court_judgments a_t_court_weights a_t_court_costs a_t_court_roll a_t_court_by t_queued t_partCount t_greatestPart t_court_points t_court_allJudged t_queue t_reached t_court_judgments) [(0, .ref a_t), (1, .int x1), (2, .int x2)] 20 [] := by
    intro n
    induction n with
    | zero => intro x2 t_queued t_partCount t_greatestPart t_queue t_reached h; exact absurd h id
    | succ n ih =>
      intro x2 t_queued t_partCount t_greatestPart t_queue t_reached h H locs ls hw hl
      rw [L_Surveyor_survey_20] at h
      refine lv_iload_n hx hb dX7_survey_20 rfl (lv_at hl 2 rfl) ?_
      refine lv_aload_n hx hb dX7_survey_21 rfl (lv_at hl 0 rfl) ?_
      refine G_RX7_18 C hw 0 rfl dX7_survey_22 ?_
      refine callVi (As := []) (rest := [.int x2]) (W2 := fun _ => (cs_Surveyor_survey g a_t a_t_court a_t_queue a_t_reached a_t_court_judgments a_t_court_weights a_t_court_costs a_t_court_roll a_t_court_by t_queued t_partCount t_greatestPart t_court_points t_court_allJudged t_queue t_reached t_court_judgments)) C hw hl (c_Court_deedCount l g a_t_court a_t_court_weights a_t_court_costs a_t_court_roll a_t_court_by a_t_court_judgments t_court_points t_court_allJudged _ h) tw_832 kk_X0_deedCount rfl ⟨rfl, rfl⟩ ⟨by decide, by decide⟩ (Nat.le_of_ble_eq_true rfl) 1 rfl rfl rfl [1] [0, 2, 3, 4] [0, 4, 1, 2, 3] rfl rfl rfl rfl rfl rfl (fun u => rfl) rfl dX7_survey_25 (fun r_1 u H locs h hw => ?_)
      refine lv_icmp_ge (tgt := 81) hx hb dX7_survey_28 (by decide) (fun c_28 => ?_) (fun c_28 => ?_)
      · have h := h.1 c_28
        exact hret (t_queued, t_partCount, t_greatestPart, t_queue, t_reached) h hw dX7_survey_81
      · have h := h.2 c_28
        refine lv_aload_n hx hb dX7_survey_31 rfl (lv_at hl 0 rfl) ?_
        refine lv_iconst (v := 0) hx hb dX7_survey_32 (by decide) ?_
        refine U_RX7_51 (ws2 := (cs_Surveyor_survey g a_t a_t_court a_t_queue a_t_reached a_t_court_judgments a_t_court_weights a_t_court_costs a_t_court_roll a_t_court_by 0 t_partCount t_greatestPart t_court_points t_court_allJudged t_queue t_reached t_court_judgments)) C hw 0 rfl rfl rfl rfl dX7_survey_33 (fun H locs hw => ?_)
        refine lv_aload_n hx hb dX7_survey_36 rfl (lv_at hl 0 rfl) ?_
        refine lv_iload_n hx hb dX7_survey_37 rfl (lv_at hl 2 rfl) ?_
        refine lv_iload_n hx hb dX7_survey_38 rfl (lv_at hl 1 rfl) ?_
        refine callVv (As := [.int x2, .int x1]) (rest := []) (W2 := fun u => (cs_Surveyor_survey g a_t a_t_court a_t_queue a_t_reached a_t_court_judgments a_t_court_weights a_t_court_costs a_t_court_roll a_t_court_by (u.1) t_partCount t_greatestPart t_court_points t_court_allJudged (u.2.1) (u.2.2) t_court_judgments)) C hw hl (c_Surveyor_reach l g a_t a_t_court a_t_queue a_t_reached a_t_court_judgments a_t_court_weights a_t_court_costs a_t_court_roll a_t_court_by 0 t_partCount t_greatestPart t_court_points t_court_allJudged t_queue t_reached t_court_judgments x2 x1 _ h) tw_844 kk_X7_reach rfl ⟨rfl, rfl⟩ ⟨by decide, by decide⟩ (Nat.le_of_ble_eq_true rfl) 0 rfl rfl rfl [0, 1, 2, 3, 4] [] [0, 1, 2, 3, 4] rfl rfl rfl rfl rfl rfl (fun u => rfl) rfl dX7_survey_39 (fun u H locs h hw => ?_)
        obtain ⟨t_queued_2, t_queue_3, t_reached_4⟩ := u
        have hw : Wd g A s (cs_Surveyor_survey g a_t a_t_court a_t_queue a_t_reached a_t_court_judgments a_t_court_weights a_t_court_costs a_t_court_roll a_t_court_by t_queued_2 t_partCount t_greatestPart t_court_points t_court_allJudged t_queue_3 t_reached_4 t_court_judgments) H locs := hw
        refine lv_aload_n hx hb dX7_survey_42 rfl (lv_at hl 0 rfl) ?_
        refine G_RX7_51 C hw 0 rfl dX7_survey_43 ?_
        refine lv_if_le (tgt := 75) hx hb dX7_survey_46 (by decide) (fun c_46 => ?_) (fun c_46 => ?_)
        · have h := h.1 c_46
          exact hB_Surveyor_survey_75 (L_Surveyor_survey_20 x1 t_court_points t_court_judgments Q n) ih x2 t_queued_2 t_partCount t_greatestPart t_queue_3 t_reached_4 h _ _ _ hw (lv_sub hl [0, 1, 2] rfl)
        · have h := h.2 c_46
          refine lv_aload_n hx hb dX7_survey_49 rfl (lv_at hl 0 rfl) ?_
          refine lv_dup hx hb dX7_survey_50 rfl ?_
          refine G_RX7_22 C hw 0 rfl dX7_survey_51 ?_
          refine lv_iconst (v := 1) hx hb dX7_survey_54 (by decide) ?_
          refine lv_iadd hx hb dX7_survey_55 ?_
          refine lv_topi (fun t_partCount_5 et_partCount_5 => ?_)
          have h := h t_partCount_5 et_partCount_5
          refine U_RX7_22 (ws2 := (cs_Surveyor_survey g a_t a_t_court a_t_queue a_t_reached a_t_court_judgments a_t_court_weights a_t_court_costs a_t_court_roll a_t_court_by t_queued_2 t_partCount_5 t_greatestPart t_court_points t_court_allJudged t_queue_3 t_reached_4 t_court_judgments)) C hw 0 rfl rfl rfl rfl dX7_survey_56 (fun H locs hw => ?_)
          refine lv_aload_n hx hb dX7_survey_59 rfl (lv_at hl 0 rfl) ?_
          refine lv_aload_n hx hb dX7_survey_60 rfl (lv_at hl 0 rfl) ?_
          refine G_RX7_26 C hw 0 rfl dX7_survey_61 ?_
          refine lv_aload_n hx hb dX7_survey_64 rfl (lv_at hl 0 rfl) ?_
          refine lv_iload_n hx hb dX7_survey_65 rfl (lv_at hl 1 rfl) ?_
          refine callVi (As := [.int x1]) (rest := [.int t_greatestPart, .ref a_t]) (W2 := fun u => (cs_Surveyor_survey g a_t a_t_court a_t_queue a_t_reached a_t_court_judgments a_t_court_weights a_t_court_costs a_t_court_roll a_t_court_by (u.1) t_partCount_5 t_greatestPart t_court_points t_court_allJudged (u.2.1) (u.2.2) t_court_judgments)) C hw hl (c_Surveyor_partSize l g a_t a_t_court a_t_queue a_t_reached a_t_court_judgments a_t_court_weights a_t_court_costs a_t_court_roll a_t_court_by t_queued_2 t_partCount_5 t_greatestPart t_court_points t_court_allJudged t_queue_3 t_reached_4 t_court_judgments x1 _ h) tw_849 kk_X7_partSize rfl ⟨rfl, rfl⟩ ⟨by decide, by decide⟩ (Nat.le_of_ble_eq_true rfl) 0 rfl rfl rfl [0, 1, 2, 3, 4] [] [0, 1, 2, 3, 4] rfl rfl rfl rfl rfl rfl (fun u => rfl) rfl dX7_survey_66 (fun r_6 u H locs h hw => ?_)
          obtain ⟨t_queued_7, t_queue_8, t_reached_9⟩ := u
          have hw : Wd g A s (cs_Surveyor_survey g a_t a_t_court a_t_queue a_t_reached a_t_court_judgments a_t_court_weights a_t_court_costs a_t_court_roll a_t_court_by t_queued_7 t_partCount_5 t_greatestPart t_court_points t_court_allJudged t_queue_8 t_reached_9 t_court_judgments) H locs := hw
          refine mmax C hl tw_853 kmmax ⟨Nat.le_of_ble_eq_true rfl, Nat.le_of_ble_eq_true rfl⟩ dX7_survey_69 ?_
          refine lv_topi (fun t_greatestPart_10 et_greatestPart_10 => ?_)
          have h := h t_greatestPart_10 et_greatestPart_10
          refine U_RX7_26 (ws2 := (cs_Surveyor_survey g a_t a_t_court a_t_queue a_t_reached a_t_court_judgments a_t_court_weights a_t_court_costs a_t_court_roll a_t_court_by t_queued_7 t_partCount_5 t_greatestPart_10 t_court_points t_court_allJudged t_queue_8 t_reached_9 t_court_judgments)) C hw 0 rfl rfl rfl rfl dX7_survey_72 (fun H locs hw => ?_)
          exact hB_Surveyor_survey_75 (L_Surveyor_survey_20 x1 t_court_points t_court_judgments Q n) ih x2 t_queued_7 t_partCount_5 t_greatestPart_10 t_queue_8 t_reached_9 h _ _ _ hw (lv_sub hl [0, 1, 2] rfl)
  refine lv_aload_n hx hb dX7_survey_0 rfl (lv_at hl 0 rfl) ?_
  refine lv_iconst (v := 0) hx hb dX7_survey_1 (by decide) ?_
  refine U_RX7_22 (ws2 := (cs_Surveyor_survey g a_t a_t_court a_t_queue a_t_reached a_t_court_judgments a_t_court_weights a_t_court_costs a_t_court_roll a_t_court_by t_queued 0 t_greatestPart t_court_points t_court_allJudged t_queue t_reached t_court_judgments)) C hw 0 rfl rfl rfl rfl dX7_survey_2 (fun H locs hw => ?_)
  refine lv_aload_n hx hb dX7_survey_5 rfl (lv_at hl 0 rfl) ?_
  refine lv_iconst (v := 0) hx hb dX7_survey_6 (by decide) ?_
  refine U_RX7_26 (ws2 := (cs_Surveyor_survey g a_t a_t_court a_t_queue a_t_reached a_t_court_judgments a_t_court_weights a_t_court_costs a_t_court_roll a_t_court_by t_queued 0 0 t_court_points t_court_allJudged t_queue t_reached t_court_judgments)) C hw 0 rfl rfl rfl rfl dX7_survey_7 (fun H locs hw => ?_)
  refine lv_aload_n hx hb dX7_survey_10 rfl (lv_at hl 0 rfl) ?_
  refine G_RX7_15 C hw 0 rfl dX7_survey_11 ?_
  refine lv_iconst (v := 0) hx hb dX7_survey_14 (by decide) ?_
  refine callSv (As := [.ref a_t_reached, .int 0]) (rest := []) (W2 := fun u => (cs_Surveyor_survey g a_t a_t_court a_t_queue a_t_reached a_t_court_judgments a_t_court_weights a_t_court_costs a_t_court_roll a_t_court_by t_queued 0 0 t_court_points t_court_allJudged t_queue u t_court_judgments)) C hw hl (c_Arrays_fill l g a_t_reached 1024 t_reached 0 _ h) tw_843 kk_J7_fill_53178 rfl ⟨rfl, rfl⟩ ⟨by decide, by decide⟩ (Nat.le_of_ble_eq_true rfl) [3] [0, 1, 2, 4] [0, 1, 2, 4, 3] rfl rfl rfl rfl rfl rfl (fun u => rfl) rfl dX7_survey_15 (fun u H locs h hw => ?_)
  obtain ⟨t_reached_11, rfl⟩ : ∃ z, z = u := ⟨_, rfl⟩
  have hw : Wd g A s (cs_Surveyor_survey g a_t a_t_court a_t_queue a_t_reached a_t_court_judgments a_t_court_weights a_t_court_costs a_t_court_roll a_t_court_by t_queued 0 0 t_court_points t_court_allJudged t_queue t_reached_11 t_court_judgments) H locs := hw
  refine lv_iconst (v := 0) hx hb dX7_survey_18 (by decide) ?_
  refine lv_istore_n (lv' := [(2, .int 0), (0, .ref a_t), (1, .int x1)]) hx hb dX7_survey_19 rfl hl (by decide) rfl (fun ls hl => ?_)
  obtain ⟨n_20, h⟩ := h
  exact hL_Surveyor_survey_20 n_20 0 t_queued 0 0 t_queue t_reached_11 h _ _ _ hw (lv_sub hl [1, 2, 0] rfl)
def P_Surveyor_partCount (t_partCount : Int32) (Q : Int32 → Prop) : Prop := Q t_partCount
abbrev rm_Surveyor_partCount : Room := { frames := 0, cells := 0, slots := 0, locals := 0 }
def cs_Surveyor_partCount (g : GE) (a_t a_t_court a_t_queue a_t_reached : Nat) (t_queued : Int32) (t_partCount : Int32) (t_greatestPart : Int32) : va_W := [oc a_t 7 [.ref a_t_court, .ref a_t_queue, .ref a_t_reached, .int t_queued, .int t_partCount, .int t_greatestPart]]
set_option maxHeartbeats 4000000 in
set_option maxRecDepth 100000 in
theorem c_Surveyor_partCount (l : Launch) (g : GE) (a_t a_t_court a_t_queue a_t_reached : Nat) (t_queued : Int32) (t_partCount : Int32) (t_greatestPart : Int32) (Q : Int32 → Prop) (h : P_Surveyor_partCount t_partCount Q) : Cti l g yX7_partCount cX7_partCount 1 (some .int) rm_Surveyor_partCount [.ref a_t] (cs_Surveyor_partCount g a_t a_t_court a_t_queue a_t_reached t_queued t_partCount t_greatestPart) (S := Unit) (fun r u => Q r) (fun _ => (cs_Surveyor_partCount g a_t a_t_court a_t_queue a_t_reached t_queued t_partCount t_greatestPart)) := by
  refine meetI rfl (Nat.le_of_ble_eq_true rfl) ⟨rfl, rfl⟩ ?_
  intro p e s m args below meth c A Qf ls C hret hw hl
  have hx := C.1
  have hb := C.2.1
  have hown := C.2.2.2.1
  have hts := C.2.2.2.2.1
  have hE := C.2.2.2.2.2.1
  have hl : lv_has ls 1 [(0, .ref a_t)] := hl
  refine lv_aload_n hx hb dX7_partCount_0 rfl (lv_at hl 0 rfl) ?_
  refine G_RX7_22 C hw 0 rfl dX7_partCount_1 ?_
  exact hret () h hw dX7_partCount_4 rfl
def P_Surveyor_greatestPart (t_greatestPart : Int32) (Q : Int32 → Prop) : Prop := Q t_greatestPart
abbrev rm_Surveyor_greatestPart : Room := { frames := 0, cells := 0, slots := 0, locals := 0 }
def cs_Surveyor_greatestPart (g : GE) (a_t a_t_court a_t_queue a_t_reached : Nat) (t_queued : Int32) (t_partCount : Int32) (t_greatestPart : Int32) : va_W := [oc a_t 7 [.ref a_t_court, .ref a_t_queue, .ref a_t_reached, .int t_queued, .int t_partCount, .int t_greatestPart]]
set_option maxHeartbeats 4000000 in
set_option maxRecDepth 100000 in
theorem c_Surveyor_greatestPart (l : Launch) (g : GE) (a_t a_t_court a_t_queue a_t_reached : Nat) (t_queued : Int32) (t_partCount : Int32) (t_greatestPart : Int32) (Q : Int32 → Prop) (h : P_Surveyor_greatestPart t_greatestPart Q) : Cti l g yX7_greatestPart cX7_greatestPart 1 (some .int) rm_Surveyor_greatestPart [.ref a_t] (cs_Surveyor_greatestPart g a_t a_t_court a_t_queue a_t_reached t_queued t_partCount t_greatestPart) (S := Unit) (fun r u => Q r) (fun _ => (cs_Surveyor_greatestPart g a_t a_t_court a_t_queue a_t_reached t_queued t_partCount t_greatestPart)) := by
  refine meetI rfl (Nat.le_of_ble_eq_true rfl) ⟨rfl, rfl⟩ ?_
  intro p e s m args below meth c A Qf ls C hret hw hl
  have hx := C.1
  have hb := C.2.1
  have hown := C.2.2.2.1
  have hts := C.2.2.2.2.1
  have hE := C.2.2.2.2.2.1
  have hl : lv_has ls 1 [(0, .ref a_t)] := hl
  refine lv_aload_n hx hb dX7_greatestPart_0 rfl (lv_at hl 0 rfl) ?_
  refine G_RX7_26 C hw 0 rfl dX7_greatestPart_1 ?_
  exact hret () h hw dX7_greatestPart_4 rfl
def B_Surveyor_judgedBy_30 (x1 : Int32) (t_court_points : Int32) (t_court_by : (Nat → Int32)) (Q : Int32 → Prop) (N_4 : Int32 → Int32 → Prop) (x2 : Int32) (x3 : Int32) : Prop := N_4 x2 (x3 + 1)
def L_Surveyor_judgedBy_4 (x1 : Int32) (t_court_points : Int32) (t_court_by : (Nat → Int32)) (Q : Int32 → Prop) : Nat → Int32 → Int32 → Prop
  | 0 => fun _ _ => False
  | n + 1 => fun x2 x3 => P_Court_deedCount t_court_points (fun r_1 => (r_1 ≤ x3 → Q x2) ∧ (¬ r_1 ≤ x3 → P_Court_byWhich x3 t_court_by (fun r_2 => (¬ r_2 = x1 → B_Surveyor_judgedBy_30 x1 t_court_points t_court_by Q (L_Surveyor_judgedBy_4 x1 t_court_points t_court_by Q n) x2 x3) ∧ (r_2 = x1 → B_Surveyor_judgedBy_30 x1 t_court_points t_court_by Q (L_Surveyor_judgedBy_4 x1 t_court_points t_court_by Q n) (x2 + 1) x3))))
def P_Surveyor_judgedBy (x1 : Int32) (t_court_points : Int32) (t_court_by : (Nat → Int32)) (Q : Int32 → Prop) : Prop := ∃ n_4 : Nat, L_Surveyor_judgedBy_4 x1 t_court_points t_court_by Q n_4 0 0
abbrev rm_Surveyor_judgedBy : Room := { frames := 1, cells := 0, slots := 0, locals := 21 }
def cs_Surveyor_judgedBy (g : GE) (a_t a_t_court a_t_court_by a_t_queue a_t_reached a_t_court_weights a_t_court_costs a_t_court_roll a_t_court_judgments : Nat) (t_queued : Int32) (t_partCount : Int32) (t_greatestPart : Int32) (t_court_points : Int32) (t_court_allJudged : Int32) (t_court_by : (Nat → Int32)) : va_W := [oc a_t 7 [.ref a_t_court, .ref a_t_queue, .ref a_t_reached, .int t_queued, .int t_partCount, .int t_greatestPart], oc a_t_court 0 [.ref a_t_court_weights, .ref a_t_court_costs, .ref a_t_court_roll, .int t_court_points, .ref a_t_court_by, .ref a_t_court_judgments, .int t_court_allJudged], ai g a_t_court_by 1024 t_court_by]
set_option maxHeartbeats 4000000 in
set_option maxRecDepth 100000 in
theorem c_Surveyor_judgedBy (l : Launch) (g : GE) (a_t a_t_court a_t_court_by a_t_queue a_t_reached a_t_court_weights a_t_court_costs a_t_court_roll a_t_court_judgments : Nat) (t_queued : Int32) (t_partCount : Int32) (t_greatestPart : Int32) (t_court_points : Int32) (t_court_allJudged : Int32) (t_court_by : (Nat → Int32)) (x1 : Int32) (Q : Int32 → Prop) (h : P_Surveyor_judgedBy x1 t_court_points t_court_by Q) : Cti l g yX7_judgedBy cX7_judgedBy 4 (some .int) rm_Surveyor_judgedBy [.ref a_t, .int x1] (cs_Surveyor_judgedBy g a_t a_t_court a_t_court_by a_t_queue a_t_reached a_t_court_weights a_t_court_costs a_t_court_roll a_t_court_judgments t_queued t_partCount t_greatestPart t_court_points t_court_allJudged t_court_by) (S := Unit) (fun r u => Q r) (fun _ => (cs_Surveyor_judgedBy g a_t a_t_court a_t_court_by a_t_queue a_t_reached a_t_court_weights a_t_court_costs a_t_court_roll a_t_court_judgments t_queued t_partCount t_greatestPart t_court_points t_court_allJudged t_court_by)) := by
  refine meetI rfl (Nat.le_of_ble_eq_true rfl) ⟨rfl, rfl⟩ ?_
  intro p e s m args below meth c A Qf ls C hret hw hl
  have hx := C.1
  have hb := C.2.1
  have hown := C.2.2.2.1
  have hts := C.2.2.2.2.1
  have hE := C.2.2.2.2.2.1
  have hl : lv_has ls 4 [(0, .ref a_t), (1, .int x1)] := hl
  have hB_Surveyor_judgedBy_30 : ∀ (N_4 : Int32 → Int32 → Prop) (hN_4 : ∀ (x2 : Int32) (x3 : Int32), N_4 x2 x3 → Wat p l e rm_Surveyor_judgedBy s m args below meth c A Qf g 4 (cs_Surveyor_judgedBy g a_t a_t_court a_t_court_by a_t_queue a_t_reached a_t_court_weights a_t_court_costs a_t_court_roll a_t_court_judgments t_queued t_partCount t_greatestPart t_court_points t_court_allJudged t_court_by) [(0, .ref a_t), (1, .int x1), (2, .int x2), (3, .int x3)] 4 []) (x2 : Int32) (x3 : Int32), B_Surveyor_judgedBy_30 x1 t_court_points t_court_by Q N_4 x2 x3 → Wat p l e rm_Surveyor_judgedBy s m args below meth c A Qf g 4 (cs_Surveyor_judgedBy g a_t a_t_court a_t_court_by a_t_queue a_t_reached a_t_court_weights a_t_court_costs a_t_court_roll a_t_court_judgments t_queued t_partCount t_greatestPart t_court_points t_court_allJudged t_court_by) [(0, .ref a_t), (1, .int x1), (2, .int x2), (3, .int x3)] 30 [] := by
    intro N_4 hN_4 x2 x3 h H locs ls hw hl
    refine lv_iinc (v := x3 + 1) (lv' := [(3, .int (x3 + 1)), (0, .ref a_t), (1, .int x1), (2, .int x2)]) hx hb dX7_judgedBy_30 hl (k := 3) rfl rfl (by decide) rfl (fun ls hl => ?_)
    refine lv_goto (tgt := 4) hx hb dX7_judgedBy_33 (by decide) ?_
    exact hN_4 x2 (x3 + 1) h _ _ _ hw (lv_sub hl [1, 2, 3, 0] rfl)
  have hL_Surveyor_judgedBy_4 : ∀ (n : Nat) (x2 : Int32) (x3 : Int32), L_Surveyor_judgedBy_4 x1 t_court_points t_court_by Q n x2 x3 → Wat p l e rm_Surveyor_judgedBy s m args below meth c A Qf g 4 (cs_Surveyor_judgedBy g a_t a_t_court a_t_court_by a_t_queue a_t_reached a_t_court_weights a_t_court_costs a_t_court_roll a_t_court_judgments t_queued t_partCount t_greatestPart t_court_points t_court_allJudged t_court_by) [(0, .ref a_t), (1, .int x1), (2, .int x2), (3, .int x3)] 4 [] := by
    intro n
    induction n with
    | zero => intro x2 x3 h; exact absurd h id
    | succ n ih =>
      intro x2 x3 h H locs ls hw hl
      rw [L_Surveyor_judgedBy_4] at h
      refine lv_iload_n hx hb dX7_judgedBy_4 rfl (lv_at hl 3 rfl) ?_
      refine lv_aload_n hx hb dX7_judgedBy_5 rfl (lv_at hl 0 rfl) ?_
      refine G_RX7_18 C hw 0 rfl dX7_judgedBy_6 ?_
      refine callVi (As := []) (rest := [.int x3]) (W2 := fun _ => (cs_Surveyor_judgedBy g a_t a_t_court a_t_court_by a_t_queue a_t_reached a_t_court_weights a_t_court_costs a_t_court_roll a_t_court_judgments t_queued t_partCount t_greatestPart t_court_points t_court_allJudged t_court_by)) C hw hl (c_Court_deedCount l g a_t_court a_t_court_weights a_t_court_costs a_t_court_roll a_t_court_by a_t_court_judgments t_court_points t_court_allJudged _ h) tw_832 kk_X0_deedCount rfl ⟨rfl, rfl⟩ ⟨by decide, by decide⟩ (Nat.le_of_ble_eq_true rfl) 1 rfl rfl rfl [1] [0, 2] [0, 2, 1] rfl rfl rfl rfl rfl rfl (fun u => rfl) rfl dX7_judgedBy_9 (fun r_1 u H locs h hw => ?_)
      refine lv_icmp_ge (tgt := 36) hx hb dX7_judgedBy_12 (by decide) (fun c_12 => ?_) (fun c_12 => ?_)
      · have h := h.1 c_12
        refine lv_iload_n hx hb dX7_judgedBy_36 rfl (lv_at hl 2 rfl) ?_
        exact hret () h hw dX7_judgedBy_37 rfl
      · have h := h.2 c_12
        refine lv_aload_n hx hb dX7_judgedBy_15 rfl (lv_at hl 0 rfl) ?_
        refine G_RX7_18 C hw 0 rfl dX7_judgedBy_16 ?_
        refine lv_iload_n hx hb dX7_judgedBy_19 rfl (lv_at hl 3 rfl) ?_
        refine callVi (As := [.int x3]) (rest := []) (W2 := fun _ => (cs_Surveyor_judgedBy g a_t a_t_court a_t_court_by a_t_queue a_t_reached a_t_court_weights a_t_court_costs a_t_court_roll a_t_court_judgments t_queued t_partCount t_greatestPart t_court_points t_court_allJudged t_court_by)) C hw hl (c_Court_byWhich l g a_t_court a_t_court_by a_t_court_weights a_t_court_costs a_t_court_roll a_t_court_judgments t_court_points t_court_allJudged t_court_by x3 _ h) tw_870 kk_X0_byWhich rfl ⟨rfl, rfl⟩ ⟨by decide, by decide⟩ (Nat.le_of_ble_eq_true rfl) 1 rfl rfl rfl [1, 2] [0] [0, 1, 2] rfl rfl rfl rfl rfl rfl (fun u => rfl) rfl dX7_judgedBy_20 (fun r_2 u H locs h hw => ?_)
        refine lv_iload_n hx hb dX7_judgedBy_23 rfl (lv_at hl 1 rfl) ?_
        refine lv_icmp_ne (tgt := 30) hx hb dX7_judgedBy_24 (by decide) (fun c_24 => ?_) (fun c_24 => ?_)
        · have h := h.1 c_24
          exact hB_Surveyor_judgedBy_30 (L_Surveyor_judgedBy_4 x1 t_court_points t_court_by Q n) ih x2 x3 h _ _ _ hw (lv_sub hl [0, 1, 2, 3] rfl)
        · have h := h.2 c_24
          refine lv_iinc (v := x2 + 1) (lv' := [(2, .int (x2 + 1)), (0, .ref a_t), (1, .int x1), (3, .int x3)]) hx hb dX7_judgedBy_27 hl (k := 2) rfl rfl (by decide) rfl (fun ls hl => ?_)
          exact hB_Surveyor_judgedBy_30 (L_Surveyor_judgedBy_4 x1 t_court_points t_court_by Q n) ih (x2 + 1) x3 h _ _ _ hw (lv_sub hl [1, 2, 0, 3] rfl)
  refine lv_iconst (v := 0) hx hb dX7_judgedBy_0 (by decide) ?_
  refine lv_istore_n (lv' := [(2, .int 0), (0, .ref a_t), (1, .int x1)]) hx hb dX7_judgedBy_1 rfl hl (by decide) rfl (fun ls hl => ?_)
  refine lv_iconst (v := 0) hx hb dX7_judgedBy_2 (by decide) ?_
  refine lv_istore_n (lv' := [(3, .int 0), (2, .int 0), (0, .ref a_t), (1, .int x1)]) hx hb dX7_judgedBy_3 rfl hl (by decide) rfl (fun ls hl => ?_)
  obtain ⟨n_4, h⟩ := h
  exact hL_Surveyor_judgedBy_4 n_4 0 0 h _ _ _ hw (lv_sub hl [2, 3, 1, 0] rfl)
