/-! THE CLAIM: the law from its entry -/
theorem tl_cl9 : Cond.classLink RL 7 RX9 ∈ TBg := TBg_of 72 (by decide +kernel) (by decide +kernel)
theorem tl_in9 : Cond.instantiable RX9 8 ∈ TBg := TBg_of 73 (by decide +kernel) (by decide +kernel)
theorem tl_ml9 : Cond.methodLink RL 9 yX9_init ∈ TBg := TBg_of 74 (by decide +kernel) (by decide +kernel)
theorem tl_im9 : Cond.instanceMethod yX9_init ∈ TBg := TBg_of 75 (by decide +kernel) (by decide +kernel)
theorem tl_co9 : Cond.code yX9_init cX9_init 1 none ∈ TBg := TBg_of 76 (by decide +kernel) (by decide +kernel)
theorem tl_cl10 : Cond.classLink RL 10 RX10 ∈ TBg := TBg_of 900 (by decide +kernel) (by decide +kernel)
theorem tl_in10 : Cond.instantiable RX10 28 ∈ TBg := TBg_of 901 (by decide +kernel) (by decide +kernel)
theorem tl_ml10 : Cond.methodLink RL 12 yX10_init ∈ TBg := TBg_of 902 (by decide +kernel) (by decide +kernel)
theorem tl_im10 : Cond.instanceMethod yX10_init ∈ TBg := TBg_of 903 (by decide +kernel) (by decide +kernel)
theorem tl_co10 : Cond.code yX10_init cX10_init 1 none ∈ TBg := TBg_of 904 (by decide +kernel) (by decide +kernel)
theorem ki9 : KI yX9_init cX9_init 1 0 := ⟨tl_im9, tw_54, tl_co9, by decide, by decide, by decide +kernel, rfl⟩
theorem ki10 : KI yX10_init cX10_init 1 0 := ⟨tl_im10, tw_66, tl_co10, by decide, by decide, by decide +kernel, rfl⟩
theorem fx1 : ∀ i, i < 6 → Cond.exactly (Term.string RX8 ([88, 94, 96, 98, 100, 102].getD i 0)) "java/lang/String" ∈ flatC (Jvm.Cond.and given_1 narrow_1) := by decide +kernel
theorem fx2 : ∀ i, i < 6 → Cond.eq (Term.field (Term.string RX8 ([88, 94, 96, 98, 100, 102].getD i 0)) "java/lang/String" "coder" "B") (Term.int 0) ∈ flatC (Jvm.Cond.and given_1 narrow_1) := by decide +kernel
theorem fx3 : ∀ i, i < 6 → Cond.arrayOf (Term.field (Term.string RX8 ([88, 94, 96, 98, 100, 102].getD i 0)) "java/lang/String" "value" "[B") FieldType.byte ∈ flatC (Jvm.Cond.and given_1 narrow_1) := by decide +kernel
theorem fx4 : ∀ i, i < 6 → Cond.eq (Term.length (Term.field (Term.string RX8 ([88, 94, 96, 98, 100, 102].getD i 0)) "java/lang/String" "value" "[B")) (Term.int (Int32.ofNat (lenJ.getD i 0))) ∈ flatC (Jvm.Cond.and given_1 narrow_1) := by decide +kernel
theorem fx5 : ∀ i, i < 6 → ∀ j, j < lenJ.getD i 0 → Cond.eq (Term.elem (Term.field (Term.string RX8 ([88, 94, 96, 98, 100, 102].getD i 0)) "java/lang/String" "value" "[B") (Term.int (Int32.ofNat j))) (Term.int ((bytJ.getD i []).getD j 0)) ∈ flatC (Jvm.Cond.and given_1 narrow_1) := by decide +kernel
theorem fx6 : ∀ i, i < 6 → ∀ j, j < 6 → i ≠ j → Cond.not (Cond.eq (Term.string RX8 ([88, 94, 96, 98, 100, 102].getD i 0)) (Term.string RX8 ([88, 94, 96, 98, 100, 102].getD j 0))) ∈ flatC (Jvm.Cond.and given_1 narrow_1) ∨ Cond.not (Cond.eq (Term.string RX8 ([88, 94, 96, 98, 100, 102].getD j 0)) (Term.string RX8 ([88, 94, 96, 98, 100, 102].getD i 0))) ∈ flatC (Jvm.Cond.and given_1 narrow_1) := by decide +kernel
theorem fx7 : Cond.eq (Term.static "java/lang/String" "COMPACT_STRINGS" "Z") (Term.int 1) ∈ flatC (Jvm.Cond.and given_1 narrow_1) := by decide +kernel
theorem fx8 : Cond.isRef (Term.static "jdk/internal/util/Preconditions" "SIOOBE_FORMATTER" "Ljava/util/function/BiFunction;") ∈ flatC (Jvm.Cond.and given_1 narrow_1) := by decide +kernel
theorem fy0 : Cond.stringRef RX8 88 "land" ∈ lw_tbl := List.mem_of_getElem? (i := 393) (by decide +kernel)
theorem fy1 : Cond.stringRef RX8 94 "weight" ∈ lw_tbl := List.mem_of_getElem? (i := 446) (by decide +kernel)
theorem fy2 : Cond.stringRef RX8 96 "cost" ∈ lw_tbl := List.mem_of_getElem? (i := 447) (by decide +kernel)
theorem fy3 : Cond.stringRef RX8 98 "case" ∈ lw_tbl := List.mem_of_getElem? (i := 448) (by decide +kernel)
theorem fy4 : Cond.stringRef RX8 100 "pardon" ∈ lw_tbl := List.mem_of_getElem? (i := 449) (by decide +kernel)
theorem fy5 : Cond.stringRef RX8 102 "drop" ∈ lw_tbl := List.mem_of_getElem? (i := 450) (by decide +kernel)
theorem fz1 : Cond.laysStatic "java/lang/String" "COMPACT_STRINGS" "Z" ∈ lw_tbl := List.mem_of_getElem? (i := 407) (by decide +kernel)
theorem fz2 : Cond.laysStatic "jdk/internal/util/Preconditions" "SIOOBE_FORMATTER" "Ljava/util/function/BiFunction;" ∈ lw_tbl := List.mem_of_getElem? (i := 423) (by decide +kernel)
theorem env_of {s : State} {b : Nat} (hts : ∀ w ∈ lw_tbl, w.before #[Value.ref b] s = true) (hgv : (Jvm.Cond.and given_1 narrow_1).before #[Value.ref b] s = true) : ∃ g : GE, EV g s ∧ EH g (fun q : Nat => s.heap.size ≤ q) s s.heap := by
  have htT : ∀ w ∈ TBg, w.before #[Value.ref b] s = true := fun w h => hts w (TBg_tbl h)
  obtain ⟨c0, i0, k0⟩ := u_known (C := RX0) (T := TX0) (N := 7) (n := 7) htT in_RX0 (htT _ tw_81)
  obtain ⟨c1, i1, k1⟩ := u_known (C := RX1) (T := TX1) (N := 1) (n := 1) htT in_RX1 (htT _ tw_257)
  obtain ⟨c2, i2, k2⟩ := u_known (C := RX2) (T := TX2) (N := 2) (n := 2) htT in_RX2 (htT _ tw_292)
  obtain ⟨c3, i3, k3⟩ := u_known (C := RX3) (T := TX3) (N := 2) (n := 2) htT in_RX3 (htT _ tw_244)
  obtain ⟨c4, i4, k4⟩ := u_known (C := RX4) (T := TX4) (N := 2) (n := 2) htT in_RX4 (htT _ tw_231)
  obtain ⟨c5, i5, k5⟩ := u_known (C := RX5) (T := TX5) (N := 6) (n := 6) htT in_RX5 (htT _ tw_104)
  obtain ⟨c6, i6, k6⟩ := u_known (C := RX6) (T := TX6) (N := 3) (n := 3) htT in_RX6 (htT _ tw_87)
  obtain ⟨c7, i7, k7⟩ := u_known (C := RX7) (T := TX7) (N := 6) (n := 6) htT in_RX7 (htT _ tw_267)
  obtain ⟨c8, i8, k8⟩ := u_known (C := RX8) (T := TX8) (N := 10) (n := 10) htT in_RX8 (htT _ tw_194)
  obtain ⟨c9, i9, k9⟩ := u_known (C := RX9) (T := TX9) (N := 8) (n := 8) htT in_RX9 (htT _ tl_in9)
  obtain ⟨c10, i10, k10⟩ := u_known (C := RX10) (T := TX10) (N := 28) (n := 28) htT in_RX10 (htT _ tl_in10)
  obtain ⟨cI, kI, oI, fI, gI, hI⟩ := Cond.arrayClass_spec (htT _ tw_arrI)
  obtain ⟨cZ, kZ, oZ, fZ, gZ, hZ⟩ := Cond.arrayClass_spec (htT _ tw_arrZ)
  have hs := flat_of_before _ hgv
  have hA : ∀ a : Nat, a < s.heap.size → ¬ (fun q : Nat => s.heap.size ≤ q) a := fun a h => Nat.not_le.mpr h
  obtain ⟨adK, adV, hS, hE⟩ := vk_Sof (args := #[Value.ref b]) (s := s) (N := 6) (tm := fun i => (Term.string RX8 ([88, 94, 96, 98, 100, 102].getD i 0))) (len := lenJ) (byt := bytJ) (A := fun q : Nat => s.heap.size ≤ q) (by decide) (fun i hi => hs _ (fx1 i hi)) (fun i hi => hs _ (fx2 i hi)) (fun i hi => hs _ (fx3 i hi)) (fun i hi => hs _ (fx4 i hi)) (fun i hi j hj => hs _ (fx5 i hi j hj)) (fun i j hi hj h => (fx6 i hi j hj h).imp (hs _) (hs _)) hA
  refine ⟨((fun k => [c0, c1, c2, c3, c4, c5, c6, c7, c8, c9, c10].getD k c0, fun k => [i0, i1, i2, i3, i4, i5, i6, i7, i8, i9, i10].getD k i0), (cI, cZ), adK, adV), ⟨⟨fun k q hq => ?_, fun k q hq => ?_⟩, ?_, ?_⟩, hS, ?_, ?_⟩
  · match k, hq with
    | 0, hq => cases hq; exact k0
    | 1, hq => cases hq; exact k1
    | 2, hq => cases hq; exact k2
    | 3, hq => cases hq; exact k3
    | 4, hq => cases hq; exact k4
    | 5, hq => cases hq; exact k5
    | 6, hq => cases hq; exact k6
    | 7, hq => cases hq; exact k7
    | 8, hq => cases hq; exact k8
    | 9, hq => cases hq; exact k9
    | 10, hq => cases hq; exact k10
    | k + 11, hq => exact absurd (show k + 11 < 11 from (List.getElem?_eq_some_iff.mp hq).1) (by omega)
  · match k, hq with
    | 0, hq => cases hq; exact ⟨fun n z => ⟨fun k h => (by cases h), kI, gI, oI, hI⟩, fI⟩
    | 1, hq => cases hq; exact ⟨fun n z => ⟨fun k h => (by cases h), kZ, gZ, oZ, hZ⟩, fZ⟩
    | k + 2, hq => exact absurd (show k + 2 < 2 from (List.getElem?_eq_some_iff.mp hq).1) (by omega)
  · intro w hw hn
    have h1 := hts w (show w ∈ k2_sels lw_privs ++ tables_1 from List.mem_append_right _ hw)
    cases w <;> first | exact va_Nw.of rfl h1 | (simp [isNest] at hn)
  · intro i k tx hi
    match i, hi with
    | 0, hi => cases hi; exact vk_R.of (hts _ fy0) (hE 0 (by decide))
    | 1, hi => cases hi; exact vk_R.of (hts _ fy1) (hE 1 (by decide))
    | 2, hi => cases hi; exact vk_R.of (hts _ fy2) (hE 2 (by decide))
    | 3, hi => cases hi; exact vk_R.of (hts _ fy3) (hE 3 (by decide))
    | 4, hi => cases hi; exact vk_R.of (hts _ fy4) (hE 4 (by decide))
    | 5, hi => cases hi; exact vk_R.of (hts _ fy5) (hE 5 (by decide))
    | i + 6, hi => exact absurd (show i + 6 < 6 from (List.getElem?_eq_some_iff.mp hi).1) (by omega)
  · exact va_Zof (hts _ fz1) (htT _ tw_67) (va_eqt (hs _ fx7)) hA
  · exact va_Zqof (hts _ fz2) (htT _ tw_69) (hs _ fx8) hA
set_option maxHeartbeats 4000000 in
set_option maxRecDepth 100000 in
theorem whole_start {p : Program} {e : Env} {s : State} {m : MethodId} {below : List Frame} {meth : Method} {c : Code} (l : Launch) {b L : Nat} {xs : Nat → Int32} (hL : L ≤ 384) (C0 : lw_At p s m meth c b L xs) : W p l e room_1 s m #[Value.ref b] below meth c s.heap [] 0 0 (lw_Z below #[Value.ref b] s) (entryFrame m ([Value.ref b] : List Value).toArray 4) := by
  obtain ⟨hx, hb, hr, hml, hown, hts, hX, hbl, hlocks, hgv⟩ := C0
  obtain ⟨g, hEV, hEH⟩ := env_of hts hgv
  have C : Cx p s m #[Value.ref b] c cL_law 4 RL g (fun q : Nat => s.heap.size ≤ q) := ⟨hx, hb, hml, hown, fun w h => hts w (TBg_tbl h), hEV, hEH, fun _ h => h⟩
  have hw : Wd g (fun q : Nat => s.heap.size ≤ q) s [] s.heap [] := ⟨fun k q h => by simp at h, ⟨fun i j p q h => by simp at h, fun k q h => by simp at h⟩, va_S.rf⟩
  have h := law_init (xs := xs) hL
  have hl := lv_entry ([.ref b]) (n := 4) (Nat.le_of_ble_eq_true rfl)
  rw [lg_entry_eq]
  generalize (lg_sl ([.ref b]) ++ List.replicate (4 - (lg_sl ([.ref b])).length) Slot.unset).toArray = ls at hl ⊢
  have hl : lv_has ls 4 [(0, .ref b)] := hl
  refine nwO C hw (ci := 9) (fs := [.null, .null, .null, .null, .null, .null, .null, .null]) in_RX9 tyX9 tyX9_ok tl_cl9 tl_in9 tw_54 rfl (fun j hj => by rcases (show j = 0 ∨ j = 1 ∨ j = 2 ∨ j = 3 ∨ j = 4 ∨ j = 5 ∨ j = 6 ∨ j = 7 by omega) with rfl | rfl | rfl | rfl | rfl | rfl | rfl | rfl <;> rfl) (Nat.le_of_ble_eq_true rfl) (Nat.le_of_ble_eq_true rfl) dL_law_0 (fun q1 H hw => ?_)
  have hw : Wd g (fun q : Nat => s.heap.size ≤ q) s [oc q1 9 [.null, .null, .null, .null, .null, .null, .null, .null]] H _ := hw
  refine lv_dup hx hb dL_law_3 rfl ?_
  refine callIq (As := []) (rest := [.ref q1]) (W2 := fun u => [oc q1 9 [.ref u.1, .ref u.2.2.2.2.2.2.2.2.2.2.2.2.2.2.2.1, .ref u.2.2.2.2.2.2.2.2.2.2.2.2.2.2.2.2.2.2.2.1, .ref u.2.2.2.2.2.2.2.2.2.2.2.2.2.2.2.2.2.2.2.2.2.1, .ref u.2.2.2.2.2.2.2.2.2.2.2.2.2.2.2.2.2.2.2.2.2.2.1, .ref u.2.2.2.2.2.2.2.2.2.2.2.2.2.2.2.2.2.2.2.2.2.2.2.1, .ref u.2.2.2.2.2.2.2.2.2.2.2.2.2.2.2.2.2.2.2.2.2.2.2.2.2.2.1, .ref u.2.2.2.2.2.2.2.2.2.2.2.2.2.2.2.2.2.2.2.2.2.2.2.2.2.2.2.2.2.2.2.2.2.1], oc u.1 0 [.ref u.2.1, .ref u.2.2.2.2.1, .ref u.2.2.2.2.2.2.2.1, .int u.2.2.2.2.2.2.2.2.2.2.2.2.2.2.2.2.2.2.2.2.2.2.2.2.2.2.2.2.2.2.2.2.2.2.2.2.2.2.2.2.1, .ref u.2.2.2.2.2.2.2.2.2.2.2.2.2.1, .ref u.2.2.2.2.2.2.2.2.2.2.2.2.2.2.1, .int u.2.2.2.2.2.2.2.2.2.2.2.2.2.2.2.2.2.2.2.2.2.2.2.2.2.2.2.2.2.2.2.2.2.2.2.2.2.2.2.2.2.1], oc u.2.1 6 [.ref u.2.2.1, .ref u.2.2.2.1, .int u.2.2.2.2.2.2.2.2.2.2.2.2.2.2.2.2.2.2.2.2.2.2.2.2.2.2.2.2.2.2.2.2.2.2.2.2.2.2.2.2.2.2.2.2.1], ai g u.2.2.1 10 (u.2.2.2.2.2.2.2.2.2.2.2.2.2.2.2.2.2.2.2.2.2.2.2.2.2.2.2.2.2.2.2.2.2.2.2.2.2.2.2.2.2.2.2.2.2.2.2.1), ai g u.2.2.2.1 1024 (u.2.2.2.2.2.2.2.2.2.2.2.2.2.2.2.2.2.2.2.2.2.2.2.2.2.2.2.2.2.2.2.2.2.2.2.2.2.2.2.2.2.2.2.2.2.2.2.2), oc u.2.2.2.2.1 6 [.ref u.2.2.2.2.2.1, .ref u.2.2.2.2.2.2.1, .int u.2.2.2.2.2.2.2.2.2.2.2.2.2.2.2.2.2.2.2.2.2.2.2.2.2.2.2.2.2.2.2.2.2.2.2.2.2.2.2.2.2.2.1], ai g u.2.2.2.2.2.1 10 (u.2.2.2.2.2.2.2.2.2.2.2.2.2.2.2.2.2.2.2.2.2.2.2.2.2.2.2.2.2.2.2.2.2.2.2.2.2.2.2.2.2.2.2.2.2.1), ai g u.2.2.2.2.2.2.1 1024 (u.2.2.2.2.2.2.2.2.2.2.2.2.2.2.2.2.2.2.2.2.2.2.2.2.2.2.2.2.2.2.2.2.2.2.2.2.2.2.2.2.2.2.2.2.2.2.1), oc u.2.2.2.2.2.2.2.1 5 [.ref u.2.2.2.2.2.2.2.2.1, .ref u.2.2.2.2.2.2.2.2.2.1, .ref u.2.2.2.2.2.2.2.2.2.2.1, .ref u.2.2.2.2.2.2.2.2.2.2.2.1, .ref u.2.2.2.2.2.2.2.2.2.2.2.2.1, .int u.2.2.2.2.2.2.2.2.2.2.2.2.2.2.2.2.2.2.2.2.2.2.2.2.2.2.2.2.2.2.2.2.2.2.2.2.2.2.2.2.2.2.2.1], ai g u.2.2.2.2.2.2.2.2.1 12 (fun _ => 0), ai g u.2.2.2.2.2.2.2.2.2.1 12 (fun _ => 0), ai g u.2.2.2.2.2.2.2.2.2.2.1 12 (fun _ => 0), az g u.2.2.2.2.2.2.2.2.2.2.2.1 12 (fun _ => 0), ai g u.2.2.2.2.2.2.2.2.2.2.2.2.1 12 (fun _ => 0), ai g u.2.2.2.2.2.2.2.2.2.2.2.2.2.1 1024 (fun _ => 0), ai g u.2.2.2.2.2.2.2.2.2.2.2.2.2.2.1 1024 (fun _ => 0), oc u.2.2.2.2.2.2.2.2.2.2.2.2.2.2.2.1 8 [.ref u.2.2.2.2.2.2.2.2.2.2.2.2.2.2.2.2.1, .int 0, .ref u.2.2.2.2.2.2.2.2.2.2.2.2.2.2.2.2.2.1, .ref u.2.2.2.2.2.2.2.2.2.2.2.2.2.2.2.2.2.2.1, .int 0, .int 0, .int 0, .int 0, .int 0, .int 0], ai g u.2.2.2.2.2.2.2.2.2.2.2.2.2.2.2.2.1 200 (fun _ => 0), ai g u.2.2.2.2.2.2.2.2.2.2.2.2.2.2.2.2.2.1 8 (fun _ => 0), ai g u.2.2.2.2.2.2.2.2.2.2.2.2.2.2.2.2.2.2.1 24 (fun _ => 0), oc u.2.2.2.2.2.2.2.2.2.2.2.2.2.2.2.2.2.2.2.1 4 [.ref u.1, .ref u.2.2.2.2.2.2.2.2.2.2.2.2.2.2.2.2.2.2.2.2.1], ai g u.2.2.2.2.2.2.2.2.2.2.2.2.2.2.2.2.2.2.2.2.1 2 (fun _ => 0), oc u.2.2.2.2.2.2.2.2.2.2.2.2.2.2.2.2.2.2.2.2.2.1 3 [.ref u.1, .int 0], oc u.2.2.2.2.2.2.2.2.2.2.2.2.2.2.2.2.2.2.2.2.2.2.1 1 [.ref u.1], oc u.2.2.2.2.2.2.2.2.2.2.2.2.2.2.2.2.2.2.2.2.2.2.2.1 7 [.ref u.1, .ref u.2.2.2.2.2.2.2.2.2.2.2.2.2.2.2.2.2.2.2.2.2.2.2.2.1, .ref u.2.2.2.2.2.2.2.2.2.2.2.2.2.2.2.2.2.2.2.2.2.2.2.2.2.1, .int 0, .int 0, .int 0], ai g u.2.2.2.2.2.2.2.2.2.2.2.2.2.2.2.2.2.2.2.2.2.2.2.2.1 1024 (fun _ => 0), ai g u.2.2.2.2.2.2.2.2.2.2.2.2.2.2.2.2.2.2.2.2.2.2.2.2.2.1 1024 (fun _ => 0), oc u.2.2.2.2.2.2.2.2.2.2.2.2.2.2.2.2.2.2.2.2.2.2.2.2.2.2.1 2 [.ref u.2.2.2.2.2.2.2.2.2.2.2.2.2.2.2.2.2.2.2.2.2.2.2.2.2.2.2.1, .int 0], oc u.2.2.2.2.2.2.2.2.2.2.2.2.2.2.2.2.2.2.2.2.2.2.2.2.2.2.2.1 5 [.ref u.2.2.2.2.2.2.2.2.2.2.2.2.2.2.2.2.2.2.2.2.2.2.2.2.2.2.2.2.1, .ref u.2.2.2.2.2.2.2.2.2.2.2.2.2.2.2.2.2.2.2.2.2.2.2.2.2.2.2.2.2.1, .ref u.2.2.2.2.2.2.2.2.2.2.2.2.2.2.2.2.2.2.2.2.2.2.2.2.2.2.2.2.2.2.1, .ref u.2.2.2.2.2.2.2.2.2.2.2.2.2.2.2.2.2.2.2.2.2.2.2.2.2.2.2.2.2.2.2.1, .ref u.2.2.2.2.2.2.2.2.2.2.2.2.2.2.2.2.2.2.2.2.2.2.2.2.2.2.2.2.2.2.2.2.1, .int 0], ai g u.2.2.2.2.2.2.2.2.2.2.2.2.2.2.2.2.2.2.2.2.2.2.2.2.2.2.2.2.1 12 (fun _ => 0), ai g u.2.2.2.2.2.2.2.2.2.2.2.2.2.2.2.2.2.2.2.2.2.2.2.2.2.2.2.2.2.1 12 (fun _ => 0), ai g u.2.2.2.2.2.2.2.2.2.2.2.2.2.2.2.2.2.2.2.2.2.2.2.2.2.2.2.2.2.2.1 12 (fun _ => 0), az g u.2.2.2.2.2.2.2.2.2.2.2.2.2.2.2.2.2.2.2.2.2.2.2.2.2.2.2.2.2.2.2.1 12 (fun _ => 0), ai g u.2.2.2.2.2.2.2.2.2.2.2.2.2.2.2.2.2.2.2.2.2.2.2.2.2.2.2.2.2.2.2.2.1 12 (fun _ => 0), oc u.2.2.2.2.2.2.2.2.2.2.2.2.2.2.2.2.2.2.2.2.2.2.2.2.2.2.2.2.2.2.2.2.2.1 2 [.ref u.2.2.2.2.2.2.2.2.2.2.2.2.2.2.2.2.2.2.2.2.2.2.2.2.2.2.2.2.2.2.2.2.2.2.1, .int 0], oc u.2.2.2.2.2.2.2.2.2.2.2.2.2.2.2.2.2.2.2.2.2.2.2.2.2.2.2.2.2.2.2.2.2.2.1 5 [.ref u.2.2.2.2.2.2.2.2.2.2.2.2.2.2.2.2.2.2.2.2.2.2.2.2.2.2.2.2.2.2.2.2.2.2.2.1, .ref u.2.2.2.2.2.2.2.2.2.2.2.2.2.2.2.2.2.2.2.2.2.2.2.2.2.2.2.2.2.2.2.2.2.2.2.2.1, .ref u.2.2.2.2.2.2.2.2.2.2.2.2.2.2.2.2.2.2.2.2.2.2.2.2.2.2.2.2.2.2.2.2.2.2.2.2.2.1, .ref u.2.2.2.2.2.2.2.2.2.2.2.2.2.2.2.2.2.2.2.2.2.2.2.2.2.2.2.2.2.2.2.2.2.2.2.2.2.2.1, .ref u.2.2.2.2.2.2.2.2.2.2.2.2.2.2.2.2.2.2.2.2.2.2.2.2.2.2.2.2.2.2.2.2.2.2.2.2.2.2.2.1, .int 0], ai g u.2.2.2.2.2.2.2.2.2.2.2.2.2.2.2.2.2.2.2.2.2.2.2.2.2.2.2.2.2.2.2.2.2.2.2.1 12 (fun _ => 0), ai g u.2.2.2.2.2.2.2.2.2.2.2.2.2.2.2.2.2.2.2.2.2.2.2.2.2.2.2.2.2.2.2.2.2.2.2.2.1 12 (fun _ => 0), ai g u.2.2.2.2.2.2.2.2.2.2.2.2.2.2.2.2.2.2.2.2.2.2.2.2.2.2.2.2.2.2.2.2.2.2.2.2.2.1 12 (fun _ => 0), az g u.2.2.2.2.2.2.2.2.2.2.2.2.2.2.2.2.2.2.2.2.2.2.2.2.2.2.2.2.2.2.2.2.2.2.2.2.2.2.1 12 (fun _ => 0), ai g u.2.2.2.2.2.2.2.2.2.2.2.2.2.2.2.2.2.2.2.2.2.2.2.2.2.2.2.2.2.2.2.2.2.2.2.2.2.2.2.1 12 (fun _ => 0)]) C hw hl (c_LC_init l g q1 _ h) tl_ml9 ki9 rfl ⟨by decide, by decide⟩ ⟨(Nat.le_of_ble_eq_true rfl), (Nat.le_of_ble_eq_true rfl)⟩ (Nat.le_of_ble_eq_true rfl) [0] [] [0, 1, 2, 3, 4, 5, 6, 7, 8, 9, 10, 11, 12, 13, 14, 15, 16, 17, 18, 19, 20, 21, 22, 23, 24, 25, 26, 27, 28, 29, 30, 31, 32, 33, 34, 35, 36, 37, 38, 39, 40] rfl rfl rfl rfl rfl rfl (fun u => rfl) rfl dL_law_4 (fun u H locs h hw => ?_)
  obtain ⟨a0, a1, a2, a3, a4, a5, a6, a7, a8, a9, a10, a11, a12, a13, a14, a15, a16, a17, a18, a19, a20, a21, a22, a23, a24, a25, a26, a27, a28, a29, a30, a31, a32, a33, a34, a35, a36, a37, a38, a39, cp, aj, csp, rs, wsp, ce, cs, we, ws_⟩ := u
  have hw : Wd g (fun q : Nat => s.heap.size ≤ q) s [oc q1 9 [.ref a0, .ref a15, .ref a19, .ref a21, .ref a22, .ref a23, .ref a26, .ref a33], oc a0 0 [.ref a1, .ref a4, .ref a7, .int cp, .ref a13, .ref a14, .int aj], oc a1 6 [.ref a2, .ref a3, .int wsp], ai g a2 10 we, ai g a3 1024 ws_, oc a4 6 [.ref a5, .ref a6, .int csp], ai g a5 10 ce, ai g a6 1024 cs, oc a7 5 [.ref a8, .ref a9, .ref a10, .ref a11, .ref a12, .int rs], ai g a8 12 (fun _ => 0), ai g a9 12 (fun _ => 0), ai g a10 12 (fun _ => 0), az g a11 12 (fun _ => 0), ai g a12 12 (fun _ => 0), ai g a13 1024 (fun _ => 0), ai g a14 1024 (fun _ => 0), oc a15 8 [.ref a16, .int 0, .ref a17, .ref a18, .int 0, .int 0, .int 0, .int 0, .int 0, .int 0], ai g a16 200 (fun _ => 0), ai g a17 8 (fun _ => 0), ai g a18 24 (fun _ => 0), oc a19 4 [.ref a0, .ref a20], ai g a20 2 (fun _ => 0), oc a21 3 [.ref a0, .int 0], oc a22 1 [.ref a0], oc a23 7 [.ref a0, .ref a24, .ref a25, .int 0, .int 0, .int 0], ai g a24 1024 (fun _ => 0), ai g a25 1024 (fun _ => 0), oc a26 2 [.ref a27, .int 0], oc a27 5 [.ref a28, .ref a29, .ref a30, .ref a31, .ref a32, .int 0], ai g a28 12 (fun _ => 0), ai g a29 12 (fun _ => 0), ai g a30 12 (fun _ => 0), az g a31 12 (fun _ => 0), ai g a32 12 (fun _ => 0), oc a33 2 [.ref a34, .int 0], oc a34 5 [.ref a35, .ref a36, .ref a37, .ref a38, .ref a39, .int 0], ai g a35 12 (fun _ => 0), ai g a36 12 (fun _ => 0), ai g a37 12 (fun _ => 0), az g a38 12 (fun _ => 0), ai g a39 12 (fun _ => 0)] H _ := hw
  have h : P_Mo_init (fun mk_ mc mw => ∃ n, L_Law_18 L xs n 0 4 mk_ 0 0 0 0 0 0 0 0 0 0 0 0 0 0 mc (fun _ => 0) (fun _ => 0) (fun _ => 0) (fun _ => 0) (fun _ => 0) (fun _ => 0) (fun _ => 0) (fun _ => 0) (fun _ => 0) (fun _ => 0) mw cp aj 0 0 0 0 0 0 0 0 0 0 0 0 0 (fun _ => 0) csp (fun _ => 0) rs wsp 0 (fun _ => 0) 0 (fun _ => 0) (fun _ => 0) (fun _ => 0) (fun _ => 0) (fun _ => 0) ce cs (fun _ => 0) (fun _ => 0) (fun _ => 0) (fun _ => 0) (fun _ => 0) we ws_ (fun _ => 0) (fun _ => 0) (fun _ => 0) (fun _ => 0) (fun _ => 0) (fun _ => 0) (fun _ => 0) (fun _ => 0) (fun _ => 0) (fun _ => 0)) := h
  refine lv_astore_n (lv' := [(1, .ref q1), (0, .ref b)]) hx hb dL_law_7 rfl hl (by decide) rfl (fun ls hl => ?_)
  refine nwO C hw (ci := 10) (fs := [.int 0, .null, .null, .int 0, .null, .int 0, .null, .int 0, .int 0, .long 0, .int 0, .int 0, .int 0, .int 0, .int 0, .int 0, .int 0, .int 0, .null, .null, .null, .null, .null, .null, .null, .int 0, .int 0, .null]) in_RX10 tyX10 tyX10_ok tl_cl10 tl_in10 tw_66 rfl (fun j hj => by rcases (show j = 0 ∨ j = 1 ∨ j = 2 ∨ j = 3 ∨ j = 4 ∨ j = 5 ∨ j = 6 ∨ j = 7 ∨ j = 8 ∨ j = 9 ∨ j = 10 ∨ j = 11 ∨ j = 12 ∨ j = 13 ∨ j = 14 ∨ j = 15 ∨ j = 16 ∨ j = 17 ∨ j = 18 ∨ j = 19 ∨ j = 20 ∨ j = 21 ∨ j = 22 ∨ j = 23 ∨ j = 24 ∨ j = 25 ∨ j = 26 ∨ j = 27 by omega) with rfl | rfl | rfl | rfl | rfl | rfl | rfl | rfl | rfl | rfl | rfl | rfl | rfl | rfl | rfl | rfl | rfl | rfl | rfl | rfl | rfl | rfl | rfl | rfl | rfl | rfl | rfl | rfl <;> rfl) (Nat.le_of_ble_eq_true rfl) (Nat.le_of_ble_eq_true rfl) dL_law_8 (fun z1 H hw => ?_)
  have hw : Wd g (fun q : Nat => s.heap.size ≤ q) s [oc q1 9 [.ref a0, .ref a15, .ref a19, .ref a21, .ref a22, .ref a23, .ref a26, .ref a33], oc a0 0 [.ref a1, .ref a4, .ref a7, .int cp, .ref a13, .ref a14, .int aj], oc a1 6 [.ref a2, .ref a3, .int wsp], ai g a2 10 we, ai g a3 1024 ws_, oc a4 6 [.ref a5, .ref a6, .int csp], ai g a5 10 ce, ai g a6 1024 cs, oc a7 5 [.ref a8, .ref a9, .ref a10, .ref a11, .ref a12, .int rs], ai g a8 12 (fun _ => 0), ai g a9 12 (fun _ => 0), ai g a10 12 (fun _ => 0), az g a11 12 (fun _ => 0), ai g a12 12 (fun _ => 0), ai g a13 1024 (fun _ => 0), ai g a14 1024 (fun _ => 0), oc a15 8 [.ref a16, .int 0, .ref a17, .ref a18, .int 0, .int 0, .int 0, .int 0, .int 0, .int 0], ai g a16 200 (fun _ => 0), ai g a17 8 (fun _ => 0), ai g a18 24 (fun _ => 0), oc a19 4 [.ref a0, .ref a20], ai g a20 2 (fun _ => 0), oc a21 3 [.ref a0, .int 0], oc a22 1 [.ref a0], oc a23 7 [.ref a0, .ref a24, .ref a25, .int 0, .int 0, .int 0], ai g a24 1024 (fun _ => 0), ai g a25 1024 (fun _ => 0), oc a26 2 [.ref a27, .int 0], oc a27 5 [.ref a28, .ref a29, .ref a30, .ref a31, .ref a32, .int 0], ai g a28 12 (fun _ => 0), ai g a29 12 (fun _ => 0), ai g a30 12 (fun _ => 0), az g a31 12 (fun _ => 0), ai g a32 12 (fun _ => 0), oc a33 2 [.ref a34, .int 0], oc a34 5 [.ref a35, .ref a36, .ref a37, .ref a38, .ref a39, .int 0], ai g a35 12 (fun _ => 0), ai g a36 12 (fun _ => 0), ai g a37 12 (fun _ => 0), az g a38 12 (fun _ => 0), ai g a39 12 (fun _ => 0), oc z1 10 [.int 0, .null, .null, .int 0, .null, .int 0, .null, .int 0, .int 0, .long 0, .int 0, .int 0, .int 0, .int 0, .int 0, .int 0, .int 0, .int 0, .null, .null, .null, .null, .null, .null, .null, .int 0, .int 0, .null]] H _ := hw
  refine lv_dup hx hb dL_law_11 rfl ?_
  refine callIq (As := []) (rest := [.ref z1]) (W2 := fun u => [oc z1 10 [.int 4, .ref u.1, .ref u.2.1, .int u.2.2.2.2.2.2.2.2.2.2.2.2.1, .ref u.2.2.1, .int 0, .ref u.2.2.2.1, .int 0, .int 0, .long 0, .int 0, .int 0, .int 0, .int 0, .int 0, .int 0, .int 0, .int 0, .ref u.2.2.2.2.1, .ref u.2.2.2.2.2.1, .ref u.2.2.2.2.2.2.1, .ref u.2.2.2.2.2.2.2.1, .ref u.2.2.2.2.2.2.2.2.1, .ref u.2.2.2.2.2.2.2.2.2.1, .ref u.2.2.2.2.2.2.2.2.2.2.1, .int 0, .int 0, .ref u.2.2.2.2.2.2.2.2.2.2.2.1], ai g u.2.1 10 (u.2.2.2.2.2.2.2.2.2.2.2.2.2.1), ai g u.2.2.2.2.2.2.2.2.2.2.2.1 10 (fun _ => 0), ai g u.2.2.2.2.2.2.2.2.2.1 98 (fun _ => 0), az g u.2.2.2.2.2.2.2.2.2.2.1 2 (fun _ => 0), ai g u.2.2.2.2.2.2.1 1024 (fun _ => 0), ai g u.2.2.2.2.2.1 14336 (fun _ => 0), ai g u.2.2.2.2.2.2.2.2.1 1024 (fun _ => 0), ai g u.2.2.2.2.2.2.2.1 1024 (fun _ => 0), ai g u.2.2.1 56 (fun _ => 0), ai g u.2.2.2.2.1 32 (fun _ => 0), ai g u.2.2.2.1 200 (fun _ => 0), ai g u.1 10 (u.2.2.2.2.2.2.2.2.2.2.2.2.2.2), oc q1 9 [.ref a0, .ref a15, .ref a19, .ref a21, .ref a22, .ref a23, .ref a26, .ref a33], oc a0 0 [.ref a1, .ref a4, .ref a7, .int cp, .ref a13, .ref a14, .int aj], oc a22 1 [.ref a0], oc a26 2 [.ref a27, .int 0], oc a21 3 [.ref a0, .int 0], oc a19 4 [.ref a0, .ref a20], oc a33 2 [.ref a34, .int 0], oc a23 7 [.ref a0, .ref a24, .ref a25, .int 0, .int 0, .int 0], oc a15 8 [.ref a16, .int 0, .ref a17, .ref a18, .int 0, .int 0, .int 0, .int 0, .int 0, .int 0], ai g a13 1024 (fun _ => 0), oc a4 6 [.ref a5, .ref a6, .int csp], ai g a14 1024 (fun _ => 0), oc a7 5 [.ref a8, .ref a9, .ref a10, .ref a11, .ref a12, .int rs], oc a1 6 [.ref a2, .ref a3, .int wsp], oc a27 5 [.ref a28, .ref a29, .ref a30, .ref a31, .ref a32, .int 0], ai g a20 2 (fun _ => 0), oc a34 5 [.ref a35, .ref a36, .ref a37, .ref a38, .ref a39, .int 0], ai g a24 1024 (fun _ => 0), ai g a25 1024 (fun _ => 0), ai g a16 200 (fun _ => 0), ai g a18 24 (fun _ => 0), ai g a17 8 (fun _ => 0), ai g a5 10 ce, ai g a6 1024 cs, ai g a8 12 (fun _ => 0), ai g a12 12 (fun _ => 0), ai g a9 12 (fun _ => 0), az g a11 12 (fun _ => 0), ai g a10 12 (fun _ => 0), ai g a2 10 we, ai g a3 1024 ws_, ai g a28 12 (fun _ => 0), ai g a32 12 (fun _ => 0), ai g a29 12 (fun _ => 0), az g a31 12 (fun _ => 0), ai g a30 12 (fun _ => 0), ai g a35 12 (fun _ => 0), ai g a39 12 (fun _ => 0), ai g a36 12 (fun _ => 0), az g a38 12 (fun _ => 0), ai g a37 12 (fun _ => 0)]) C hw hl (c_Mo_init l g z1 _ h) tl_ml10 ki10 rfl ⟨by decide, by decide⟩ ⟨(Nat.le_of_ble_eq_true rfl), (Nat.le_of_ble_eq_true rfl)⟩ (Nat.le_of_ble_eq_true rfl) [41] [0, 1, 2, 3, 4, 5, 6, 7, 8, 9, 10, 11, 12, 13, 14, 15, 16, 17, 18, 19, 20, 21, 22, 23, 24, 25, 26, 27, 28, 29, 30, 31, 32, 33, 34, 35, 36, 37, 38, 39, 40] [41, 43, 53, 51, 52, 48, 47, 50, 49, 44, 46, 45, 42, 0, 1, 23, 27, 22, 20, 34, 24, 16, 14, 5, 15, 8, 2, 28, 21, 35, 25, 26, 17, 19, 18, 6, 7, 9, 13, 10, 12, 11, 3, 4, 29, 33, 30, 32, 31, 36, 40, 37, 39, 38] rfl rfl rfl rfl rfl rfl (fun u => rfl) rfl dL_law_12 (fun u H locs h hw => ?_)
  obtain ⟨z2, z3, z4, z5, z6, z7, z8, z9, z10, z11, z12, z13, mk_, mc, mw⟩ := u
  have h : ∃ n, L_Law_18 L xs n 0 4 mk_ 0 0 0 0 0 0 0 0 0 0 0 0 0 0 mc (fun _ => 0) (fun _ => 0) (fun _ => 0) (fun _ => 0) (fun _ => 0) (fun _ => 0) (fun _ => 0) (fun _ => 0) (fun _ => 0) (fun _ => 0) mw cp aj 0 0 0 0 0 0 0 0 0 0 0 0 0 (fun _ => 0) csp (fun _ => 0) rs wsp 0 (fun _ => 0) 0 (fun _ => 0) (fun _ => 0) (fun _ => 0) (fun _ => 0) (fun _ => 0) ce cs (fun _ => 0) (fun _ => 0) (fun _ => 0) (fun _ => 0) (fun _ => 0) we ws_ (fun _ => 0) (fun _ => 0) (fun _ => 0) (fun _ => 0) (fun _ => 0) (fun _ => 0) (fun _ => 0) (fun _ => 0) (fun _ => 0) (fun _ => 0) := h
  obtain ⟨n, h⟩ := h
  refine lv_astore_n (lv' := [(2, .ref z1), (1, .ref q1), (0, .ref b)]) hx hb dL_law_15 rfl hl (by decide) rfl (fun ls hl => ?_)
  refine lv_iconst (v := 0) hx hb dL_law_16 (by decide) ?_
  refine lv_istore_n (lv' := [(3, .int 0), (2, .ref z1), (1, .ref q1), (0, .ref b)]) hx hb dL_law_17 rfl hl (by decide) rfl (fun ls hl => ?_)
  exact law_loop l g hX hbl hr hlocks C z1 z3 z13 z11 z12 z8 z7 z10 z9 z4 z6 z5 z2 q1 a0 a22 a26 a21 a19 a33 a23 a15 a13 a4 a14 a7 a1 a27 a20 a34 a24 a25 a16 a18 a17 a5 a6 a8 a12 a9 a11 a10 a2 a3 a28 a32 a29 a31 a30 a35 a39 a36 a38 a37 n 0 4 mk_ 0 0 0 0 0 0 0 0 0 0 0 0 0 0 mc (fun _ => 0) (fun _ => 0) (fun _ => 0) (fun _ => 0) (fun _ => 0) (fun _ => 0) (fun _ => 0) (fun _ => 0) (fun _ => 0) (fun _ => 0) mw cp aj 0 0 0 0 0 0 0 0 0 0 0 0 0 (fun _ => 0) csp (fun _ => 0) rs wsp 0 (fun _ => 0) 0 (fun _ => 0) (fun _ => 0) (fun _ => 0) (fun _ => 0) (fun _ => 0) ce cs (fun _ => 0) (fun _ => 0) (fun _ => 0) (fun _ => 0) (fun _ => 0) we ws_ (fun _ => 0) (fun _ => 0) (fun _ => 0) (fun _ => 0) (fun _ => 0) (fun _ => 0) (fun _ => 0) (fun _ => 0) (fun _ => 0) (fun _ => 0) h H locs ls hw (lv_sub hl [3, 2, 1, 0] rfl)
set_option maxHeartbeats 4000000 in
theorem lw_walk (l : Launch) (b : Addr) (xs : List Int32) : MetFree l x (headSpec (Jvm.Cond.code x code maxLocals ret :: tables_1) room_1) (lw_P b xs) (fun _ _ _ _ _ => True) lw_Q := by
  refine MetFree.of_bodyS (code := code) (maxLocals := maxLocals) (ret := ret) (by decide) ?_ ?_
  · intro args s m h hn
    obtain ⟨meth, c, h1, h2, h3, h4, h5, h6, -, -⟩ := Cond.code_spec hn (atoms_spec (ws := Jvm.Cond.code x code maxLocals ret :: tables_1) h _ List.mem_cons_self)
    exact ⟨meth, c, h1, h2, h3, h4, h5, h6⟩
  · intro p e s m args below meth c s₁ B hml0 hP _
    obtain ⟨rfl, hx, hbd, hgv⟩ := hP
    obtain ⟨scr, harrAt, hlist, hof, hsmall⟩ := hx
    obtain ⟨hcb, hkn, -, -⟩ := State.arrayAt?_spec harrAt
    have hown : s.vm.findClass R_law = some m.cls := findClass_of_methodNamed B.named
    have hts0 : ∀ c ∈ (Jvm.Cond.code x code maxLocals ret :: tables_1), c.before #[Value.ref b] s = true := atoms_spec (ws := Jvm.Cond.code x code maxLocals ret :: tables_1) B.pre
    have hts : ∀ w ∈ lw_tbl, w.before #[Value.ref b] s = true := k2_hts_sels lw_privs (fun w hw => hts0 w (List.mem_cons_of_mem _ hw)) lw_privs_ok
    have hml : c.maxLocals = 4 := B.maxLocals_eq (hts0 _ List.mem_cons_self)
    have X₀ : Stand p l e room_1 s m #[Value.ref b] below meth c s₁ [] 0 0 := Stand.of_body B
    have hh0 : s₁.heap = s.heap := by rw [B.state]; rfl
    have hsz : scr.slots.size = xs.length := by rw [← Array.length_toList, hlist, List.length_map]
    have hval : ∀ j : Nat, j < xs.length → scr.slots[j]? = some (.int (xs.getD j 0)) := fun j hj => by
      rw [← Array.getElem?_toList, hlist]
      simp [hj]
    have hbl : b < s.heap.size := (Array.getElem?_eq_some_iff.mp hcb).1
    have hX : va_X b xs.length (fun j => xs.getD j 0) s s.heap := ⟨scr, hcb, hof, hkn, hsz, hval⟩
    have K : W p l e room_1 s m #[Value.ref b] below meth c s₁.heap [] 0 0 (lw_Z below #[Value.ref b] s) (entryFrame m ([Value.ref b] : List Value).toArray 4) := by
      rw [hh0]
      exact whole_start l hbd ⟨B.exec, B.bytes, B.returns, hml, hown, hts, hX, hbl, B.notSynchronized, hgv⟩
    obtain ⟨t, a1, o, b1, b2, b3⟩ := K s₁ rfl X₀
    exact ⟨t, o, a1, b1, b2, b3⟩
theorem lw_pre_spec {args : Array Value} {s : State} (h : (Jvm.Cond.and given_1 narrow_1).before args s = true) (hr : rest_1_c.before args s = true) : ∃ (b : Addr) (xs : List Int32), lw_P b xs args s := by
  have hs := flat_of_before _ h
  have hq := flat_of_before _ hr
  have hc : (Cond.count 1).before args s = true := hs _ (by decide +kernel)
  have harr : (Cond.arrayOf (.arg 0) .int).before args s = true := hs _ (by decide +kernel)
  have hle : (Cond.le (.length (.arg 0)) (.int 384)).before args s = true := hs _ (by decide +kernel)
  have hlen : (Cond.isInt (.length (.arg 0))).before args s = true := hq _ (by decide +kernel)
  have hall : (Cond.all (.arg 0) (.isInt (.elem (.arg 0) (.index 0)))).before args s = true := hq _ (by decide +kernel)
  obtain ⟨b, xs, hb, hx⟩ := State.ints_of_pre rfl harr hlen hall
  have hsm : xs.length < 2 ^ 31 := hx.choose_spec.2.2.2
  have hev : (Term.length (.arg 0)).eval args s none [] s = some (.int xs.length.toInt32) := hx.length_eval hb
  have hv := Cond.le_ints hev (show (Term.int 384).eval args s none [] s = some (.int 384) from rfl)
  have hd : xs.length.toInt32 ≤ 384 := by
    simpa [Cond.before, Cond.holds, hv] using hle
  have hN : xs.length ≤ 384 := (Int32.ofNat_le_ofNat hsm (by decide)).mp (show Int32.ofNat xs.length ≤ Int32.ofNat 384 from hd)
  exact ⟨b, xs, Cond.one_arg hc (show args[0]? = some (.ref b) from hb), hx, hN, h⟩
theorem lw_comes (l : Launch) : Comes l x (Jvm.Cond.code x code maxLocals ret :: tables_1) room_1 (fun tb e args s => Calls_1 tb e args s ∧ rest_1 tb e args s ∧ Pre_1 tb e args s)
    (fun _ _ args s o t => lw_Q args s o t) := by
  intro p e ha hc hk s m args below hf hfit hheap happ hpre
  obtain ⟨b, xs, hP⟩ := lw_pre_spec hpre.2.2 hpre.2.1
  obtain ⟨k, o, h1, h2, h3, hQ⟩ := lw_walk l b xs p e ha hc hk s m args below hf ((Spec.applies_iff_loose hf).mp happ).1 hP trivial
  exact ⟨k, o, h1, h2, h3, hQ⟩
theorem lw_frame {s t : State} {o : Outcome} {args : Array Value} (h : Framed s o t [] 54 24496) :
    Framed s o t (fieldLocs frame_1_writes args s ++ arrayLocs frame_1_arrays args s ++ staticLocs frame_1_statics s) 54 24496 := h
theorem lw_limb (L : Cond) (hL : ∀ (args : Array Value) (s t : State), L.after args s (.returned (some (.int 1))) t = true) :
    ArmFor flags0 classFile x code maxLocals ret World_1 tables_1 room_1 Calls_1 rest_1 Pre_1
      (fun tb e a s o t => postC L tb e a s o t ∧ Framed s o t (fieldLocs frame_1_writes a s ++ arrayLocs frame_1_arrays a s ++ staticLocs frame_1_statics s) 54 24496) := by
  intro l _ _ _ p e ha hc hk s m args below hf hfit hheap happ hpre
  obtain ⟨k, o, h1, h2, h3, rfl, hF⟩ := lw_comes l p e ha hc hk s m args below hf hfit hheap happ hpre
  exact ⟨k, _, h1, h2, h3, hL args s _, lw_frame hF⟩
theorem i_vc : Claimed_1_1 ∧ Claimed_1_2 := ⟨lw_limb limb_1_1 (fun args s t => by simp [limb_1_1, Cond.after, Cond.holds, Cond.value]), lw_limb limb_1_2 (fun args s t => Cond.after_iff.mpr (by
  first | (rw [show limb_1_2 = Cond.eq .result (.int 1) from rfl, Cond.eq_ints (x := 1) (y := 1) rfl rfl]; simp; done) | (simp [limb_1_2, Cond.value, Term.eval]; done)))⟩
