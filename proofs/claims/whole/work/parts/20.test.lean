theorem dX9_holds_0 : decode cX9_holds 0 = .ok (.iload_n 0, 1) := by decide +kernel
theorem dX9_holds_1 : decode cX9_holds 1 = .ok (.iload_n 1, 1) := by decide +kernel
theorem dX9_holds_2 : decode cX9_holds 2 = .ok (.ishr, 1) := by decide +kernel
theorem dX9_holds_3 : decode cX9_holds 3 = .ok (.iconst 1, 1) := by decide +kernel
theorem dX9_holds_4 : decode cX9_holds 4 = .ok (.iand, 1) := by decide +kernel
theorem dX9_holds_5 : decode cX9_holds 5 = .ok (.ifCond .eq 7, 3) := by decide +kernel
theorem dX9_holds_8 : decode cX9_holds 8 = .ok (.iconst 1, 1) := by decide +kernel
theorem dX9_holds_9 : decode cX9_holds 9 = .ok (.goto 4, 3) := by decide +kernel
theorem dX9_holds_12 : decode cX9_holds 12 = .ok (.iconst 0, 1) := by decide +kernel
theorem dX9_holds_13 : decode cX9_holds 13 = .ok (.ireturn, 1) := by decide +kernel
theorem dX6_hasPoint_0 : decode cX6_hasPoint 0 = .ok (.iload_n 1, 1) := by decide +kernel
theorem dX6_hasPoint_1 : decode cX6_hasPoint 1 = .ok (.ifCond .lt 15, 3) := by decide +kernel
theorem dX6_hasPoint_4 : decode cX6_hasPoint 4 = .ok (.iload_n 1, 1) := by decide +kernel
theorem dX6_hasPoint_5 : decode cX6_hasPoint 5 = .ok (.aload_n 0, 1) := by decide +kernel
theorem dX6_hasPoint_6 : decode cX6_hasPoint 6 = .ok (.getfield 24, 3) := by decide +kernel
theorem dX6_hasPoint_9 : decode cX6_hasPoint 9 = .ok (.if_icmp .ge 7, 3) := by decide +kernel
theorem dX6_hasPoint_12 : decode cX6_hasPoint 12 = .ok (.iconst 1, 1) := by decide +kernel
theorem dX6_hasPoint_13 : decode cX6_hasPoint 13 = .ok (.goto 4, 3) := by decide +kernel
theorem dX6_hasPoint_16 : decode cX6_hasPoint 16 = .ok (.iconst 0, 1) := by decide +kernel
theorem dX6_hasPoint_17 : decode cX6_hasPoint 17 = .ok (.ireturn, 1) := by decide +kernel
theorem dX6_put_0 : decode cX6_put 0 = .ok (.aload_n 0, 1) := by decide +kernel
theorem dX6_put_1 : decode cX6_put 1 = .ok (.iload_n 1, 1) := by decide +kernel
theorem dX6_put_2 : decode cX6_put 2 = .ok (.invokevirtual 38, 3) := by decide +kernel
theorem dX6_put_5 : decode cX6_put 5 = .ok (.ifCond .ne 4, 3) := by decide +kernel
theorem dX6_put_8 : decode cX6_put 8 = .ok (.return_, 1) := by decide +kernel
theorem dX6_put_9 : decode cX6_put 9 = .ok (.iload_n 2, 1) := by decide +kernel
theorem dX6_put_10 : decode cX6_put 10 = .ok (.aload_n 0, 1) := by decide +kernel
theorem dX6_put_11 : decode cX6_put 11 = .ok (.getfield 9, 3) := by decide +kernel
theorem dX6_put_14 : decode cX6_put 14 = .ok (.iload_n 1, 1) := by decide +kernel
theorem dX6_put_15 : decode cX6_put 15 = .ok (.iaload, 1) := by decide +kernel
theorem dX6_put_16 : decode cX6_put 16 = .ok (.isub, 1) := by decide +kernel
theorem dX6_put_17 : decode cX6_put 17 = .ok (.istore_n 3, 1) := by decide +kernel
theorem dX6_put_18 : decode cX6_put 18 = .ok (.iload_n 3, 1) := by decide +kernel
theorem dX6_put_19 : decode cX6_put 19 = .ok (.ifCond .ne 4, 3) := by decide +kernel
theorem dX6_put_22 : decode cX6_put 22 = .ok (.return_, 1) := by decide +kernel
theorem dX6_put_23 : decode cX6_put 23 = .ok (.aload_n 0, 1) := by decide +kernel
theorem dX6_put_24 : decode cX6_put 24 = .ok (.getfield 9, 3) := by decide +kernel
theorem dX6_put_27 : decode cX6_put 27 = .ok (.iload_n 1, 1) := by decide +kernel
theorem dX6_put_28 : decode cX6_put 28 = .ok (.iload_n 2, 1) := by decide +kernel
theorem dX6_put_29 : decode cX6_put 29 = .ok (.iastore, 1) := by decide +kernel
theorem dX6_put_30 : decode cX6_put 30 = .ok (.iconst 1, 1) := by decide +kernel
theorem dX6_put_31 : decode cX6_put 31 = .ok (.aload_n 0, 1) := by decide +kernel
theorem dX6_put_32 : decode cX6_put 32 = .ok (.getfield 24, 3) := by decide +kernel
theorem dX6_put_35 : decode cX6_put 35 = .ok (.ishl, 1) := by decide +kernel
theorem dX6_put_36 : decode cX6_put 36 = .ok (.aload_n 0, 1) := by decide +kernel
theorem dX6_put_37 : decode cX6_put 37 = .ok (.getfield 15, 3) := by decide +kernel
theorem dX6_put_40 : decode cX6_put 40 = .ok (.arraylength, 1) := by decide +kernel
theorem dX6_put_41 : decode cX6_put 41 = .ok (.invokestatic 18, 3) := by decide +kernel
theorem dX6_put_44 : decode cX6_put 44 = .ok (.istore 4, 2) := by decide +kernel
theorem dX6_put_46 : decode cX6_put 46 = .ok (.iconst 0, 1) := by decide +kernel
theorem dX6_put_47 : decode cX6_put 47 = .ok (.istore 5, 2) := by decide +kernel
theorem dX6_put_49 : decode cX6_put 49 = .ok (.iload 5, 2) := by decide +kernel
theorem dX6_put_51 : decode cX6_put 51 = .ok (.iload 4, 2) := by decide +kernel
theorem dX6_put_53 : decode cX6_put 53 = .ok (.if_icmp .ge 29, 3) := by decide +kernel
theorem dX6_put_56 : decode cX6_put 56 = .ok (.iload 5, 2) := by decide +kernel
theorem dX6_put_58 : decode cX6_put 58 = .ok (.iload_n 1, 1) := by decide +kernel
theorem dX6_put_59 : decode cX6_put 59 = .ok (.invokestatic 42, 3) := by decide +kernel
theorem dX6_put_62 : decode cX6_put 62 = .ok (.ifCond .eq 14, 3) := by decide +kernel
theorem dX6_put_65 : decode cX6_put 65 = .ok (.aload_n 0, 1) := by decide +kernel
theorem dX6_put_66 : decode cX6_put 66 = .ok (.getfield 15, 3) := by decide +kernel
theorem dX6_put_69 : decode cX6_put 69 = .ok (.iload 5, 2) := by decide +kernel
theorem dX6_put_71 : decode cX6_put 71 = .ok (.dup2, 1) := by decide +kernel
theorem dX6_put_72 : decode cX6_put 72 = .ok (.iaload, 1) := by decide +kernel
theorem dX6_put_73 : decode cX6_put 73 = .ok (.iload_n 3, 1) := by decide +kernel
theorem dX6_put_74 : decode cX6_put 74 = .ok (.iadd, 1) := by decide +kernel
theorem dX6_put_75 : decode cX6_put 75 = .ok (.iastore, 1) := by decide +kernel
theorem dX6_put_76 : decode cX6_put 76 = .ok (.iinc 5 1, 3) := by decide +kernel
theorem dX6_put_79 : decode cX6_put 79 = .ok (.goto (-30), 3) := by decide +kernel
theorem dX6_put_82 : decode cX6_put 82 = .ok (.return_, 1) := by decide +kernel
theorem tw_54 : Cond.initialized RX9 ∈ TBg := TBg_of 54 (by decide +kernel) (by decide +kernel)
theorem tw_56 : Cond.initialized RX6 ∈ TBg := TBg_of 56 (by decide +kernel) (by decide +kernel)
theorem tw_58 : Cond.initialized "java/lang/Math" ∈ TBg := TBg_of 58 (by decide +kernel) (by decide +kernel)
theorem tw_92 : Cond.fieldLink RX6 9 "LikestCase$Scale" "each" "[I" ∈ TBg := TBg_of 92 (by decide +kernel) (by decide +kernel)
theorem tw_93 : Cond.fieldLink RX6 15 "LikestCase$Scale" "sums" "[I" ∈ TBg := TBg_of 93 (by decide +kernel) (by decide +kernel)
theorem tw_94 : Cond.fieldLink RX6 24 "LikestCase$Scale" "points" "I" ∈ TBg := TBg_of 94 (by decide +kernel) (by decide +kernel)
theorem tw_134 : Cond.static Lib.Math.min.name ∈ TBg := TBg_of 134 (by decide +kernel) (by decide +kernel)
theorem tw_135 : Cond.code Lib.Math.min.name Lib.Math.min.code 2 (some .int) ∈ TBg := TBg_of 135 (by decide +kernel) (by decide +kernel)
theorem tw_143 : Cond.methodLink RX6 18 Lib.Math.min.name ∈ TBg := TBg_of 143 (by decide +kernel) (by decide +kernel)
theorem tw_151 : Cond.methodLink RX6 38 yX6_hasPoint ∈ TBg := TBg_of 151 (by decide +kernel) (by decide +kernel)
theorem tw_152 : Cond.instanceMethod yX6_hasPoint ∈ TBg := TBg_of 152 (by decide +kernel) (by decide +kernel)
theorem tw_153 : Cond.selects RX6 yX6_hasPoint yX6_hasPoint ∈ TBg := TBg_of 153 (by decide +kernel) (by decide +kernel)
theorem tw_154 : Cond.code yX6_hasPoint cX6_hasPoint 2 (some .boolean) ∈ TBg := TBg_of 154 (by decide +kernel) (by decide +kernel)
theorem tw_156 : Cond.static yX9_holds ∈ TBg := TBg_of 156 (by decide +kernel) (by decide +kernel)
theorem tw_157 : Cond.code yX9_holds cX9_holds 2 (some .boolean) ∈ TBg := TBg_of 157 (by decide +kernel) (by decide +kernel)
theorem tn_102 : Cond.methodLinkNest RX6 42 yX9_holds "LikestCase" ∈ tables_1 := List.mem_of_getElem? (i := 102) (by decide +kernel)
theorem in_RX6 : ∀ w ∈ u_ws RX6 TX6 3, w ∈ TBg := fun w hw => by
  have h1 : (u_ws RX6 TX6 3).all (fun w => decide (w ∈ lw_tbl) && goodWord w) = true := by decide +kernel
  have h2 := List.all_eq_true.mp h1 w hw
  simp only [Bool.and_eq_true, decide_eq_true_eq] at h2
  exact List.mem_filter.mpr h2
theorem kk_X6_hasPoint : KV yX6_hasPoint cX6_hasPoint 2 (some .boolean) 1 := ⟨tw_152, tw_153, tw_56, tw_154, by decide, by decide, by decide +kernel⟩
theorem kk_X9_holds : KS yX9_holds cX9_holds 2 (some .boolean) 2 := ⟨tw_156, tw_54, tw_157, by decide, by decide, by decide +kernel⟩
theorem kmmin : Cond.static Lib.Math.min.name ∈ TBg ∧ Cond.initialized "java/lang/Math" ∈ TBg ∧ Cond.code Lib.Math.min.name Lib.Math.min.code 2 (some .int) ∈ TBg := ⟨tw_134, tw_58, tw_135⟩
section GP
variable {p : Program} {l : Launch} {e : Env} {R : Room} {s : State} {m : MethodId} {args : Array Value} {below : List Frame} {meth : Method} {c : Code} {H : Heap} {locs : List Loc} {cells slots : Nat} {Q : State → Prop}
variable {cc : ByteArray} {pc nL : Nat} {ls : Array Slot} {rest : List Value} {g : GE} {A : Nat → Prop} {ws ws2 : va_W}
theorem G_RX6_9 (C : Cx p s m args c cc nL RX6 g A) (hw : Wd g A s ws H locs) (q0 : Nat) {a : Nat} {v0 v1 v2 : Value} (he : ws[q0]? = some (a, .inr (6, [v0, v1, v2]))) (hdg : decode cc pc = .ok (.getfield 9, 3)) (kk : W p l e R s m args below meth c H locs cells slots Q (F0 m (pc + 3) ls (v0 :: rest))) : W p l e R s m args below meth c H locs cells slots Q (F0 m pc ls (.ref a :: rest)) :=
  va_get (ref := "LikestCase$Scale") (C := RX6) (T := TX6) (N := 3) C.1 C.2.1 C.2.2.2.2.1 in_RX6 C.2.2.2.1 C.2.2.2.2.2.1.1 hw.1 q0 he rfl 0 (by decide) (C.2.2.2.2.1 _ tw_92) (fun _ h => h) rfl hdg kk
theorem G_RX6_15 (C : Cx p s m args c cc nL RX6 g A) (hw : Wd g A s ws H locs) (q0 : Nat) {a : Nat} {v0 v1 v2 : Value} (he : ws[q0]? = some (a, .inr (6, [v0, v1, v2]))) (hdg : decode cc pc = .ok (.getfield 15, 3)) (kk : W p l e R s m args below meth c H locs cells slots Q (F0 m (pc + 3) ls (v1 :: rest))) : W p l e R s m args below meth c H locs cells slots Q (F0 m pc ls (.ref a :: rest)) :=
  va_get (ref := "LikestCase$Scale") (C := RX6) (T := TX6) (N := 3) C.1 C.2.1 C.2.2.2.2.1 in_RX6 C.2.2.2.1 C.2.2.2.2.2.1.1 hw.1 q0 he rfl 1 (by decide) (C.2.2.2.2.1 _ tw_93) (fun _ h => h) rfl hdg kk
theorem G_RX6_24 (C : Cx p s m args c cc nL RX6 g A) (hw : Wd g A s ws H locs) (q0 : Nat) {a : Nat} {v0 v1 v2 : Value} (he : ws[q0]? = some (a, .inr (6, [v0, v1, v2]))) (hdg : decode cc pc = .ok (.getfield 24, 3)) (kk : W p l e R s m args below meth c H locs cells slots Q (F0 m (pc + 3) ls (v2 :: rest))) : W p l e R s m args below meth c H locs cells slots Q (F0 m pc ls (.ref a :: rest)) :=
  va_get (ref := "LikestCase$Scale") (C := RX6) (T := TX6) (N := 3) C.1 C.2.1 C.2.2.2.2.1 in_RX6 C.2.2.2.1 C.2.2.2.2.2.1.1 hw.1 q0 he rfl 2 (by decide) (C.2.2.2.2.1 _ tw_94) (fun _ h => h) rfl hdg kk
end GP
def B_LC_holds_13 (x0 : Int32) (x1 : Int32) (Q : Int32 → Prop) (k0 : Int32) : Prop := narrow .boolean (.int k0) = .int k0 ∧ Q k0 
def P_LC_holds (x0 : Int32) (x1 : Int32) (Q : Int32 → Prop) : Prop := (((x0 >>> (x1 &&& 31)) &&& 1) = 0 → B_LC_holds_13 x0 x1 Q 0) ∧ (¬ ((x0 >>> (x1 &&& 31)) &&& 1) = 0 → B_LC_holds_13 x0 x1 Q 1)
abbrev rm_LC_holds : Room := { frames := 0, cells := 0, slots := 0, locals := 0 }
set_option maxHeartbeats 4000000 in
set_option maxRecDepth 100000 in
theorem c_LC_holds (l : Launch) (g : GE) (x0 : Int32) (x1 : Int32) (Q : Int32 → Prop) (h : P_LC_holds x0 x1 Q) : Cti l g yX9_holds cX9_holds 2 (some .boolean) rm_LC_holds [.int x0, .int x1] [] (S := Unit) (fun r u => Q r) (fun _ => []) := by
  refine meetI rfl (Nat.le_of_ble_eq_true rfl) ⟨rfl, rfl⟩ ?_
  intro p e s m args below meth c A Qf ls C hret hw hl
  have hx := C.1
  have hb := C.2.1
  have hown := C.2.2.2.1
  have hts := C.2.2.2.2.1
  have hE := C.2.2.2.2.2.1
  have hl : lv_has ls 2 [(0, .int x0), (1, .int x1)] := hl
  have hB_LC_holds_13 : ∀ (k0 : Int32), B_LC_holds_13 x0 x1 Q k0 → Wat p l e rm_LC_holds s m args below meth c A Qf g 2 [] [] 13 [.int k0] := by
    intro k0 h H locs ls hw hl
    exact hret () h.2 hw dX9_holds_13 h.1
  refine lv_iload_n hx hb dX9_holds_0 rfl (lv_at hl 0 rfl) ?_
  refine lv_iload_n hx hb dX9_holds_1 rfl (lv_at hl 1 rfl) ?_
  refine lv_ishr hx hb dX9_holds_2 ?_
  refine lv_iconst (v := 1) hx hb dX9_holds_3 (by decide) ?_
  refine lv_iand hx hb dX9_holds_4 ?_
  refine lv_if_eq (tgt := 12) hx hb dX9_holds_5 (by decide) (fun c_5 => ?_) (fun c_5 => ?_)
  · have h := h.1 c_5
    refine lv_iconst (v := 0) hx hb dX9_holds_12 (by decide) ?_
    exact hB_LC_holds_13 0 h _ _ _ hw (lv_sub hl [] rfl)
  · have h := h.2 c_5
    refine lv_iconst (v := 1) hx hb dX9_holds_8 (by decide) ?_
    refine lv_goto (tgt := 13) hx hb dX9_holds_9 (by decide) ?_
    exact hB_LC_holds_13 1 h _ _ _ hw (lv_sub hl [] rfl)
def B_Scale_hasPoint_17 (x1 : Int32) (t_points : Int32) (Q : Int32 → Prop) (k0 : Int32) : Prop := narrow .boolean (.int k0) = .int k0 ∧ Q k0 
def B_Scale_hasPoint_16 (x1 : Int32) (t_points : Int32) (Q : Int32 → Prop) : Prop := B_Scale_hasPoint_17 x1 t_points Q 0
def P_Scale_hasPoint (x1 : Int32) (t_points : Int32) (Q : Int32 → Prop) : Prop := (x1 < 0 → B_Scale_hasPoint_16 x1 t_points Q) ∧ (¬ x1 < 0 → (t_points ≤ x1 → B_Scale_hasPoint_16 x1 t_points Q) ∧ (¬ t_points ≤ x1 → B_Scale_hasPoint_17 x1 t_points Q 1))
abbrev rm_Scale_hasPoint : Room := { frames := 0, cells := 0, slots := 0, locals := 0 }
def cs_Scale_hasPoint (g : GE) (a_t a_t_each a_t_sums : Nat) (t_points : Int32) : va_W := [oc a_t 6 [.ref a_t_each, .ref a_t_sums, .int t_points]]
set_option maxHeartbeats 4000000 in
set_option maxRecDepth 100000 in
theorem c_Scale_hasPoint (l : Launch) (g : GE) (a_t a_t_each a_t_sums : Nat) (t_points : Int32) (x1 : Int32) (Q : Int32 → Prop) (h : P_Scale_hasPoint x1 t_points Q) : Cti l g yX6_hasPoint cX6_hasPoint 2 (some .boolean) rm_Scale_hasPoint [.ref a_t, .int x1] (cs_Scale_hasPoint g a_t a_t_each a_t_sums t_points) (S := Unit) (fun r u => Q r) (fun _ => (cs_Scale_hasPoint g a_t a_t_each a_t_sums t_points)) := by
  refine meetI rfl (Nat.le_of_ble_eq_true rfl) ⟨rfl, rfl⟩ ?_
  intro p e s m args below meth c A Qf ls C hret hw hl
  have hx := C.1
  have hb := C.2.1
  have hown := C.2.2.2.1
  have hts := C.2.2.2.2.1
  have hE := C.2.2.2.2.2.1
  have hl : lv_has ls 2 [(0, .ref a_t), (1, .int x1)] := hl
  have hB_Scale_hasPoint_17 : ∀ (k0 : Int32), B_Scale_hasPoint_17 x1 t_points Q k0 → Wat p l e rm_Scale_hasPoint s m args below meth c A Qf g 2 (cs_Scale_hasPoint g a_t a_t_each a_t_sums t_points) [] 17 [.int k0] := by
    intro k0 h H locs ls hw hl
    exact hret () h.2 hw dX6_hasPoint_17 h.1
  have hB_Scale_hasPoint_16 : B_Scale_hasPoint_16 x1 t_points Q → Wat p l e rm_Scale_hasPoint s m args below meth c A Qf g 2 (cs_Scale_hasPoint g a_t a_t_each a_t_sums t_points) [] 16 [] := by
    intro  h H locs ls hw hl
    refine lv_iconst (v := 0) hx hb dX6_hasPoint_16 (by decide) ?_
    exact hB_Scale_hasPoint_17 0 h _ _ _ hw (lv_sub hl [] rfl)
  refine lv_iload_n hx hb dX6_hasPoint_0 rfl (lv_at hl 1 rfl) ?_
  refine lv_if_lt (tgt := 16) hx hb dX6_hasPoint_1 (by decide) (fun c_1 => ?_) (fun c_1 => ?_)
  · have h := h.1 c_1
    exact hB_Scale_hasPoint_16  h _ _ _ hw (lv_sub hl [] rfl)
  · have h := h.2 c_1
    refine lv_iload_n hx hb dX6_hasPoint_4 rfl (lv_at hl 1 rfl) ?_
    refine lv_aload_n hx hb dX6_hasPoint_5 rfl (lv_at hl 0 rfl) ?_
    refine G_RX6_24 C hw 0 rfl dX6_hasPoint_6 ?_
    refine lv_icmp_ge (tgt := 16) hx hb dX6_hasPoint_9 (by decide) (fun c_9 => ?_) (fun c_9 => ?_)
    · have h := h.1 c_9
      exact hB_Scale_hasPoint_16  h _ _ _ hw (lv_sub hl [] rfl)
    · have h := h.2 c_9
      refine lv_iconst (v := 1) hx hb dX6_hasPoint_12 (by decide) ?_
      refine lv_goto (tgt := 17) hx hb dX6_hasPoint_13 (by decide) ?_
      exact hB_Scale_hasPoint_17 1 h _ _ _ hw (lv_sub hl [] rfl)
def B_Scale_put_76 (x1 : Int32) (x2 : Int32) (t_points : Int32) (Q : (Nat → Int32) → (Nat → Int32) → Prop) (N_49 : Int32 → Int32 → Int32 → (Nat → Int32) → (Nat → Int32) → Prop) (x3 : Int32) (x4 : Int32) (x5 : Int32) (t_each : (Nat → Int32)) (t_sums : (Nat → Int32)) : Prop := N_49 x3 x4 (x5 + 1) t_each t_sums
def L_Scale_put_49 (x1 : Int32) (x2 : Int32) (t_points : Int32) (Q : (Nat → Int32) → (Nat → Int32) → Prop) : Nat → Int32 → Int32 → Int32 → (Nat → Int32) → (Nat → Int32) → Prop
  | 0 => fun _ _ _ _ _ => False
  | n + 1 => fun x3 x4 x5 t_each t_sums => (x4 ≤ x5 → Q t_each t_sums) ∧ (¬ x4 ≤ x5 → P_LC_holds x5 x1 (fun r_1 => (r_1 = 0 → B_Scale_put_76 x1 x2 t_points Q (L_Scale_put_49 x1 x2 t_points Q n) x3 x4 x5 t_each t_sums) ∧ (¬ r_1 = 0 → vp_in x5 1024 ∧ (vp_in x5 1024 ∧ (B_Scale_put_76 x1 x2 t_points Q (L_Scale_put_49 x1 x2 t_points Q n) x3 x4 x5 t_each (upd t_sums x5.toNatClampNeg ((t_sums x5.toNatClampNeg) + x3)))))))
def P_Scale_put (x1 : Int32) (x2 : Int32) (t_points : Int32) (t_each : (Nat → Int32)) (t_sums : (Nat → Int32)) (Q : (Nat → Int32) → (Nat → Int32) → Prop) : Prop := P_Scale_hasPoint x1 t_points (fun r_2 => (¬ r_2 = 0 → vp_in x1 10 ∧ (∀ x3_3 : Int32, x3_3 = (x2 - (t_each x1.toNatClampNeg)) → (¬ x3_3 = 0 → vp_in x1 10 ∧ (∀ x4_4 : Int32, x4_4 = (if (nI 1024) < (1 <<< (t_points &&& 31)) then (nI 1024) else (1 <<< (t_points &&& 31))) → ∃ n : Nat, L_Scale_put_49 x1 x2 t_points Q n x3_3 x4_4 0 (upd t_each x1.toNatClampNeg x2) t_sums)) ∧ (x3_3 = 0 → Q t_each t_sums))) ∧ (r_2 = 0 → Q t_each t_sums))
abbrev rm_Scale_put : Room := { frames := 1, cells := 0, slots := 0, locals := 23 }
def cs_Scale_put (g : GE) (a_t a_t_each a_t_sums : Nat) (t_points : Int32) (t_each : (Nat → Int32)) (t_sums : (Nat → Int32)) : va_W := [oc a_t 6 [.ref a_t_each, .ref a_t_sums, .int t_points], ai g a_t_each 10 t_each, ai g a_t_sums 1024 t_sums]
set_option maxHeartbeats 4000000 in
set_option maxRecDepth 100000 in
theorem c_Scale_put (l : Launch) (g : GE) (a_t a_t_each a_t_sums : Nat) (t_points : Int32) (t_each : (Nat → Int32)) (t_sums : (Nat → Int32)) (x1 : Int32) (x2 : Int32) (Q : (Nat → Int32) → (Nat → Int32) → Prop) (h : P_Scale_put x1 x2 t_points t_each t_sums Q) : Ctv l g yX6_put cX6_put 6 none rm_Scale_put [.ref a_t, .int x1, .int x2] (cs_Scale_put g a_t a_t_each a_t_sums t_points t_each t_sums) (S := (Nat → Int32) × (Nat → Int32)) (fun u => Q u.1 u.2) (fun u => (cs_Scale_put g a_t a_t_each a_t_sums t_points (u.1) (u.2))) := by
  refine meetV rfl (Nat.le_of_ble_eq_true rfl) ⟨rfl, rfl⟩ ?_
  intro p e s m args below meth c A Qf ls C hret hw hl
  have hx := C.1
  have hb := C.2.1
  have hown := C.2.2.2.1
  have hts := C.2.2.2.2.1
  have hE := C.2.2.2.2.2.1
  have hl : lv_has ls 6 [(0, .ref a_t), (1, .int x1), (2, .int x2)] := hl
  have hB_Scale_put_76 : ∀ (N_49 : Int32 → Int32 → Int32 → (Nat → Int32) → (Nat → Int32) → Prop) (hN_49 : ∀ (x3 : Int32) (x4 : Int32) (x5 : Int32) (t_each : (Nat → Int32)) (t_sums : (Nat → Int32)), N_49 x3 x4 x5 t_each t_sums → Wat p l e rm_Scale_put s m args below meth c A Qf g 6 (cs_Scale_put g a_t a_t_each a_t_sums t_points t_each t_sums) [(0, .ref a_t), (1, .int x1), (3, .int x3), (4, .int x4), (5, .int x5)] 49 []) (x3 : Int32) (x4 : Int32) (x5 : Int32) (t_each : (Nat → Int32)) (t_sums : (Nat → Int32)), B_Scale_put_76 x1 x2 t_points Q N_49 x3 x4 x5 t_each t_sums → Wat p l e rm_Scale_put s m args below meth c A Qf g 6 (cs_Scale_put g a_t a_t_each a_t_sums t_points t_each t_sums) [(0, .ref a_t), (1, .int x1), (3, .int x3), (4, .int x4), (5, .int x5)] 76 [] := by
    intro N_49 hN_49 x3 x4 x5 t_each t_sums h H locs ls hw hl
    refine lv_iinc (v := x5 + 1) (lv' := [(5, .int (x5 + 1)), (0, .ref a_t), (1, .int x1), (3, .int x3), (4, .int x4)]) hx hb dX6_put_76 hl (k := 4) rfl rfl (by decide) rfl (fun ls hl => ?_)
    refine lv_goto (tgt := 49) hx hb dX6_put_79 (by decide) ?_
    exact hN_49 x3 x4 (x5 + 1) t_each t_sums h _ _ _ hw (lv_sub hl [1, 2, 3, 4, 0] rfl)
  have hL_Scale_put_49 : ∀ (n : Nat) (x3 : Int32) (x4 : Int32) (x5 : Int32) (t_each : (Nat → Int32)) (t_sums : (Nat → Int32)), L_Scale_put_49 x1 x2 t_points Q n x3 x4 x5 t_each t_sums → Wat p l e rm_Scale_put s m args below meth c A Qf g 6 (cs_Scale_put g a_t a_t_each a_t_sums t_points t_each t_sums) [(0, .ref a_t), (1, .int x1), (3, .int x3), (4, .int x4), (5, .int x5)] 49 [] := by
    intro n
    induction n with
    | zero => intro x3 x4 x5 t_each t_sums h; exact absurd h id
    | succ n ih =>
      intro x3 x4 x5 t_each t_sums h H locs ls hw hl
      refine lv_iload hx hb dX6_put_49 (lv_at hl 4 rfl) ?_
      refine lv_iload hx hb dX6_put_51 (lv_at hl 3 rfl) ?_
      refine lv_icmp_ge (tgt := 82) hx hb dX6_put_53 (by decide) (fun c_53 => ?_) (fun c_53 => ?_)
      · have h := h.1 c_53
        exact hret (t_each, t_sums) h hw dX6_put_82
      · have h := h.2 c_53
        refine lv_iload hx hb dX6_put_56 (lv_at hl 4 rfl) ?_
        refine lv_iload_n hx hb dX6_put_58 rfl (lv_at hl 1 rfl) ?_
        refine callNi (As := [.int x5, .int x1]) (rest := []) C hw hl (c_LC_holds l g x5 x1 _ h) (nest_in hE tn_102 rfl) kk_X9_holds rfl ⟨rfl, rfl⟩ ⟨by decide, by decide⟩ (by decide) rfl dX6_put_59 (fun r_1 u H locs h hw => ?_)
        refine lv_if_eq (tgt := 76) hx hb dX6_put_62 (by decide) (fun c_62 => ?_) (fun c_62 => ?_)
        · have h := h.1 c_62
          exact hB_Scale_put_76 (L_Scale_put_49 x1 x2 t_points Q n) ih x3 x4 x5 t_each t_sums h _ _ _ hw (lv_sub hl [0, 1, 2, 3, 4] rfl)
        · have h := h.2 c_62
          refine lv_aload_n hx hb dX6_put_65 rfl (lv_at hl 0 rfl) ?_
          refine G_RX6_15 C hw 0 rfl dX6_put_66 ?_
          refine lv_iload hx hb dX6_put_69 (lv_at hl 4 rfl) ?_
          refine lv_dup2_11 hx hb dX6_put_71 rfl rfl ?_
          refine aldI C hw 2 rfl h.1 dX6_put_72 ?_
          have h := h.2
          refine lv_iload_n hx hb dX6_put_73 rfl (lv_at hl 2 rfl) ?_
          refine lv_iadd hx hb dX6_put_74 ?_
          refine astI (ws2 := (cs_Scale_put g a_t a_t_each a_t_sums t_points t_each (upd t_sums x5.toNatClampNeg ((t_sums x5.toNatClampNeg) + x3)))) C hw 2 rfl h.1 rfl dX6_put_75 (fun H locs hw => ?_)
          have h := h.2
          exact hB_Scale_put_76 (L_Scale_put_49 x1 x2 t_points Q n) ih x3 x4 x5 t_each (upd t_sums x5.toNatClampNeg ((t_sums x5.toNatClampNeg) + x3)) h _ _ _ hw (lv_sub hl [0, 1, 2, 3, 4] rfl)
  refine lv_aload_n hx hb dX6_put_0 rfl (lv_at hl 0 rfl) ?_
  refine lv_iload_n hx hb dX6_put_1 rfl (lv_at hl 1 rfl) ?_
  refine callVi (As := [.int x1]) (rest := []) (W2 := fun _ => (cs_Scale_put g a_t a_t_each a_t_sums t_points t_each t_sums)) C hw hl (c_Scale_hasPoint l g a_t a_t_each a_t_sums t_points x1 _ h) tw_151 kk_X6_hasPoint rfl ⟨rfl, rfl⟩ ⟨by decide, by decide⟩ (by decide) 0 rfl rfl rfl [0] [1, 2] [2, 0, 1] rfl rfl rfl rfl rfl rfl (fun u => rfl) rfl dX6_put_2 (fun r_2 u H locs h hw => ?_)
  refine lv_if_ne (tgt := 9) hx hb dX6_put_5 (by decide) (fun c_5 => ?_) (fun c_5 => ?_)
  · have h := h.1 c_5
    refine lv_iload_n hx hb dX6_put_9 rfl (lv_at hl 2 rfl) ?_
    refine lv_aload_n hx hb dX6_put_10 rfl (lv_at hl 0 rfl) ?_
    refine G_RX6_9 C hw 0 rfl dX6_put_11 ?_
    refine lv_iload_n hx hb dX6_put_14 rfl (lv_at hl 1 rfl) ?_
    refine aldI C hw 1 rfl h.1 dX6_put_15 ?_
    have h := h.2
    refine lv_isub hx hb dX6_put_16 ?_
    refine lv_topi (fun x3_3 ex3_3 => ?_)
    have h := h x3_3 ex3_3
    refine lv_istore_n (lv' := [(3, .int x3_3), (0, .ref a_t), (1, .int x1), (2, .int x2)]) hx hb dX6_put_17 rfl hl (by decide) rfl (fun ls hl => ?_)
    refine lv_iload_n hx hb dX6_put_18 rfl (lv_at hl 0 rfl) ?_
    refine lv_if_ne (tgt := 23) hx hb dX6_put_19 (by decide) (fun c_19 => ?_) (fun c_19 => ?_)
    · have h := h.1 c_19
      refine lv_aload_n hx hb dX6_put_23 rfl (lv_at hl 1 rfl) ?_
      refine G_RX6_9 C hw 0 rfl dX6_put_24 ?_
      refine lv_iload_n hx hb dX6_put_27 rfl (lv_at hl 2 rfl) ?_
      refine lv_iload_n hx hb dX6_put_28 rfl (lv_at hl 3 rfl) ?_
      refine astI (ws2 := (cs_Scale_put g a_t a_t_each a_t_sums t_points (upd t_each x1.toNatClampNeg x2) t_sums)) C hw 1 rfl h.1 rfl dX6_put_29 (fun H locs hw => ?_)
      have h := h.2
      refine lv_iconst (v := 1) hx hb dX6_put_30 (by decide) ?_
      refine lv_aload_n hx hb dX6_put_31 rfl (lv_at hl 1 rfl) ?_
      refine G_RX6_24 C hw 0 rfl dX6_put_32 ?_
      refine lv_ishl hx hb dX6_put_35 ?_
      refine lv_aload_n hx hb dX6_put_36 rfl (lv_at hl 1 rfl) ?_
      refine G_RX6_15 C hw 0 rfl dX6_put_37 ?_
      refine alnI C hw 2 rfl dX6_put_40 ?_
      refine mmin C hl tw_143 kmmin ⟨by decide, by decide⟩ dX6_put_41 ?_
      refine lv_topi (fun x4_4 ex4_4 => ?_)
      have h := h x4_4 ex4_4
      refine lv_istore (lv' := [(4, .int x4_4), (3, .int x3_3), (0, .ref a_t), (1, .int x1), (2, .int x2)]) hx hb dX6_put_44 hl (by decide) rfl (fun ls hl => ?_)
      refine lv_iconst (v := 0) hx hb dX6_put_46 (by decide) ?_
      refine lv_istore (lv' := [(5, .int 0), (4, .int x4_4), (3, .int x3_3), (0, .ref a_t), (1, .int x1), (2, .int x2)]) hx hb dX6_put_47 hl (by decide) rfl (fun ls hl => ?_)
      obtain ⟨n, h⟩ := h
      exact hL_Scale_put_49 n x3_3 x4_4 0 (upd t_each x1.toNatClampNeg x2) t_sums h _ _ _ hw (lv_sub hl [3, 4, 2, 1, 0] rfl)
    · have h := h.2 c_19
      exact hret (t_each, t_sums) h hw dX6_put_22
  · have h := h.2 c_5
    exact hret (t_each, t_sums) h hw dX6_put_8

