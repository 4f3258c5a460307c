/-! the constructors, walked. By program. -/
abbrev m_X0_init : Mt := (yX0_init, cX0_init, 1, none, 1)
theorem oy_X0_init : okY yX0_init 0 := ⟨by decide, by decide, by decide +kernel⟩
def zsX0 : List Value := [.int 0, .null, .null, .null, .null, .null, .int 0]
theorem zsX0_ok : ∀ j, j < 7 → defaultValue (tyX0 j) = vp_V zsX0 j := by
  intro j hj
  match j, hj with
  | 0, _ => rfl
  | 1, _ => rfl
  | 2, _ => rfl
  | 3, _ => rfl
  | 4, _ => rfl
  | 5, _ => rfl
  | 6, _ => rfl
  | j + 7, hj => exact absurd hj (by omega)
theorem qc_76 : (Jvm.Cond.methodLink "SkyStones$Code" (3 : Nat) ({ cls := "java/lang/Object", name := "<init>", desc := "()V" } : Jvm.MethodName) : Cond) ∈ wAll := wAll_of (List.mem_append_right _ (List.mem_of_getElem? (i := 76) (by decide +kernel))) (by decide +kernel)
theorem qc_63 : (Jvm.Cond.arrayClass Jvm.ClassFile.FieldType.int : Cond) ∈ wAll := wAll_of (List.mem_append_right _ (List.mem_of_getElem? (i := 63) (by decide +kernel))) (by decide +kernel)
def CSX0 (S : Shp) (h0 : Nat) (u : (Nat → Nat)) : va_W := (h0, .inr (0, [.int 0, .ref (u 0), .ref (u 1), .ref (u 2), .ref (u 3), .ref (u 4), .int 0])) :: ((((([] ++ [((u 0), .inl (sE S 0, 400, .inl fun _ => 0))]) ++ [((u 1), .inl (sE S 0, 400, .inl fun _ => 0))]) ++ [((u 2), .inl (sE S 0, 11, .inl fun _ => 0))]) ++ [((u 3), .inl (sE S 0, 11, .inl fun _ => 0))]) ++ [((u 4), .inl (sE S 0, 24, .inl fun _ => 0))])
set_option maxRecDepth 100000 in
set_option maxHeartbeats 4000000 in
theorem ci_X0 {S : Shp} : Ci (U := (Nat → Nat)) m_X0_init S 0 zsX0 [] (CSX0 S) 5 846 := by
  refine Ci.of (by decide +kernel) (fun h0 => (Nat.le_of_ble_eq_true rfl)) rfl (fun p l e s m args below meth c h0 ls X hin hr hlk hl W0 => ?_)
  have hA : ∀ q, s.heap.size ≤ q → va_A [(h0, .inr (0, zsX0))] s.heap.size q := fun q h => Or.inr h
  refine lv_aload_n X.1 X.2.1 dX0_init_0 rfl (lv_at hl 0 rfl) ?_
  refine nw_obj X qc_76 hl.1 (Nat.le_of_ble_eq_true rfl) (Nat.le_of_ble_eq_true rfl) dX0_init_1 ?_
  refine lv_aload_n X.1 X.2.1 dX0_init_4 rfl (lv_at hl 0 rfl) ?_
  refine lv_iconst (v := 0) X.1 X.2.1 dX0_init_5 (by decide) ?_
  refine nw_put (k := 0) X qi_0 tyX0_ok nmX0 rfl (by decide) qw_77 rfl (tyX0_ok 0 (by decide)) rfl rfl rfl W0 dX0_init_6 (fun H1 L1 W1 n1 => ?_)
  refine lv_aload_n X.1 X.2.1 dX0_init_9 rfl (lv_at hl 0 rfl) ?_
  refine lv_sipush (v := 400) X.1 X.2.1 dX0_init_10 (by decide) ?_
  refine nw_newa (atype := .int) (ty := .int) (N' := 400) (a0 := (400, .inl fun _ => 0)) 0 X hA qc_63 rfl rfl (fun _ => rfl) (by decide) (by decide) (Nat.le_of_ble_eq_true rfl) (Nat.le_of_ble_eq_true rfl) (Nat.le_of_ble_eq_true rfl) W1 dX0_init_13 (fun q2 H2 W2 => ?_)
  refine nw_putF (k := 1) X qi_0 tyX0_ok nmX0 rfl (by decide) qw_78 rfl hin rfl (tyX0_ok 1 (by decide)) rfl rfl n1 W2 dX0_init_15 (fun H3 L3 W3 n3 => ?_)
  refine lv_aload_n X.1 X.2.1 dX0_init_18 rfl (lv_at hl 0 rfl) ?_
  refine lv_sipush (v := 400) X.1 X.2.1 dX0_init_19 (by decide) ?_
  refine nw_newa (atype := .int) (ty := .int) (N' := 400) (a0 := (400, .inl fun _ => 0)) 0 X hA qc_63 rfl rfl (fun _ => rfl) (by decide) (by decide) (Nat.le_of_ble_eq_true rfl) (Nat.le_of_ble_eq_true rfl) (Nat.le_of_ble_eq_true rfl) W3 dX0_init_22 (fun q4 H4 W4 => ?_)
  refine nw_putF (k := 2) X qi_0 tyX0_ok nmX0 rfl (by decide) qw_79 rfl hin rfl (tyX0_ok 2 (by decide)) rfl rfl n3 W4 dX0_init_24 (fun H5 L5 W5 n5 => ?_)
  refine lv_aload_n X.1 X.2.1 dX0_init_27 rfl (lv_at hl 0 rfl) ?_
  refine lv_bipush (v := 11) X.1 X.2.1 dX0_init_28 (by decide) ?_
  refine nw_newa (atype := .int) (ty := .int) (N' := 11) (a0 := (11, .inl fun _ => 0)) 0 X hA qc_63 rfl rfl (fun _ => rfl) (by decide) (by decide) (Nat.le_of_ble_eq_true rfl) (Nat.le_of_ble_eq_true rfl) (Nat.le_of_ble_eq_true rfl) W5 dX0_init_30 (fun q6 H6 W6 => ?_)
  refine nw_putF (k := 3) X qi_0 tyX0_ok nmX0 rfl (by decide) qw_80 rfl hin rfl (tyX0_ok 3 (by decide)) rfl rfl n5 W6 dX0_init_32 (fun H7 L7 W7 n7 => ?_)
  refine lv_aload_n X.1 X.2.1 dX0_init_35 rfl (lv_at hl 0 rfl) ?_
  refine lv_bipush (v := 11) X.1 X.2.1 dX0_init_36 (by decide) ?_
  refine nw_newa (atype := .int) (ty := .int) (N' := 11) (a0 := (11, .inl fun _ => 0)) 0 X hA qc_63 rfl rfl (fun _ => rfl) (by decide) (by decide) (Nat.le_of_ble_eq_true rfl) (Nat.le_of_ble_eq_true rfl) (Nat.le_of_ble_eq_true rfl) W7 dX0_init_38 (fun q8 H8 W8 => ?_)
  refine nw_putF (k := 4) X qi_0 tyX0_ok nmX0 rfl (by decide) qw_81 rfl hin rfl (tyX0_ok 4 (by decide)) rfl rfl n7 W8 dX0_init_40 (fun H9 L9 W9 n9 => ?_)
  refine lv_aload_n X.1 X.2.1 dX0_init_43 rfl (lv_at hl 0 rfl) ?_
  refine lv_bipush (v := 24) X.1 X.2.1 dX0_init_44 (by decide) ?_
  refine nw_newa (atype := .int) (ty := .int) (N' := 24) (a0 := (24, .inl fun _ => 0)) 0 X hA qc_63 rfl rfl (fun _ => rfl) (by decide) (by decide) (Nat.le_of_ble_eq_true rfl) (Nat.le_of_ble_eq_true rfl) (Nat.le_of_ble_eq_true rfl) W9 dX0_init_46 (fun q10 H10 W10 => ?_)
  refine nw_putF (k := 5) X qi_0 tyX0_ok nmX0 rfl (by decide) qw_82 rfl hin rfl (tyX0_ok 5 (by decide)) rfl rfl n9 W10 dX0_init_48 (fun H11 L11 W11 n11 => ?_)
  refine lv_aload_n X.1 X.2.1 dX0_init_51 rfl (lv_at hl 0 rfl) ?_
  refine lv_iconst (v := 0) X.1 X.2.1 dX0_init_52 (by decide) ?_
  refine nw_put (k := 6) X qi_0 tyX0_ok nmX0 rfl (by decide) qw_83 rfl (tyX0_ok 6 (by decide)) rfl rfl n11 W11 dX0_init_53 (fun H12 L12 W12 n12 => ?_)
  exact nw_ret (U := (Nat → Nat)) (CS := CSX0 S) (fun n => ([q2, q4, q6, q8, q10] : List Nat).getD n 0) X hr hlk (Nat.le_of_ble_eq_true rfl) (Nat.le_of_ble_eq_true rfl) W12 dX0_init_56
abbrev m_X2_init : Mt := (yX2_init, cX2_init, 1, none, 1)
theorem oy_X2_init : okY yX2_init 0 := ⟨by decide, by decide, by decide +kernel⟩
def zsX2 : List Value := [.int 0, .null, .null, .null, .null, .null, .null, .null, .int 0, .null, .null]
theorem zsX2_ok : ∀ j, j < 11 → defaultValue (tyX2 j) = vp_V zsX2 j := by
  intro j hj
  match j, hj with
  | 0, _ => rfl
  | 1, _ => rfl
  | 2, _ => rfl
  | 3, _ => rfl
  | 4, _ => rfl
  | 5, _ => rfl
  | 6, _ => rfl
  | 7, _ => rfl
  | 8, _ => rfl
  | 9, _ => rfl
  | 10, _ => rfl
  | j + 11, hj => exact absurd hj (by omega)
theorem qc_261 : (Jvm.Cond.methodLink "SkyStones$Ground" (3 : Nat) ({ cls := "java/lang/Object", name := "<init>", desc := "()V" } : Jvm.MethodName) : Cond) ∈ wAll := wAll_of (List.mem_append_right _ (List.mem_of_getElem? (i := 261) (by decide +kernel))) (by decide +kernel)
theorem qc_308 : (Jvm.Cond.arrayClass Jvm.ClassFile.FieldType.boolean : Cond) ∈ wAll := wAll_of (List.mem_append_right _ (List.mem_of_getElem? (i := 308) (by decide +kernel))) (by decide +kernel)
def CSX2 (S : Shp) (h0 : Nat) (u : (Nat → Nat)) : va_W := (h0, .inr (1, [.int 0, .ref (u 0), .ref (u 1), .ref (u 2), .ref (u 3), .ref (u 4), .ref (u 5), .ref (u 6), .int 0, .ref (u 7), .ref (u 8)])) :: ((((((((([] ++ [((u 0), .inl (sE S 0, 14, .inl fun _ => 0))]) ++ [((u 1), .inl (sE S 0, 14, .inl fun _ => 0))]) ++ [((u 2), .inl (sE S 0, 14, .inl fun _ => 0))]) ++ [((u 3), .inl (sE S 0, 14, .inl fun _ => 0))]) ++ [((u 4), .inl (sE S 2, 14, .inl fun _ => 0))]) ++ [((u 5), .inl (sE S 2, 60, .inl fun _ => 0))]) ++ [((u 6), .inl (sE S 0, 9, .inl fun _ => 0))]) ++ [((u 7), .inl (sE S 0, 182, .inl fun _ => 0))]) ++ [((u 8), .inl (sE S 0, 182, .inl fun _ => 0))])
set_option maxRecDepth 100000 in
set_option maxHeartbeats 4000000 in
theorem ci_X2 {S : Shp} : Ci (U := (Nat → Nat)) m_X2_init S 1 zsX2 [] (CSX2 S) 9 503 := by
  refine Ci.of (by decide +kernel) (fun h0 => (Nat.le_of_ble_eq_true rfl)) rfl (fun p l e s m args below meth c h0 ls X hin hr hlk hl W0 => ?_)
  have hA : ∀ q, s.heap.size ≤ q → va_A [(h0, .inr (1, zsX2))] s.heap.size q := fun q h => Or.inr h
  refine lv_aload_n X.1 X.2.1 dX2_init_0 rfl (lv_at hl 0 rfl) ?_
  refine nw_obj X qc_261 hl.1 (Nat.le_of_ble_eq_true rfl) (Nat.le_of_ble_eq_true rfl) dX2_init_1 ?_
  refine lv_aload_n X.1 X.2.1 dX2_init_4 rfl (lv_at hl 0 rfl) ?_
  refine lv_iconst (v := 0) X.1 X.2.1 dX2_init_5 (by decide) ?_
  refine nw_put (k := 0) X qi_2 tyX2_ok nmX2 rfl (by decide) qw_262 rfl (tyX2_ok 0 (by decide)) rfl rfl rfl W0 dX2_init_6 (fun H1 L1 W1 n1 => ?_)
  refine lv_aload_n X.1 X.2.1 dX2_init_9 rfl (lv_at hl 0 rfl) ?_
  refine lv_bipush (v := 14) X.1 X.2.1 dX2_init_10 (by decide) ?_
  refine nw_newa (atype := .int) (ty := .int) (N' := 14) (a0 := (14, .inl fun _ => 0)) 0 X hA qc_63 rfl rfl (fun _ => rfl) (by decide) (by decide) (Nat.le_of_ble_eq_true rfl) (Nat.le_of_ble_eq_true rfl) (Nat.le_of_ble_eq_true rfl) W1 dX2_init_12 (fun q2 H2 W2 => ?_)
  refine nw_putF (k := 1) X qi_2 tyX2_ok nmX2 rfl (by decide) qw_264 rfl hin rfl (tyX2_ok 1 (by decide)) rfl rfl n1 W2 dX2_init_14 (fun H3 L3 W3 n3 => ?_)
  refine lv_aload_n X.1 X.2.1 dX2_init_17 rfl (lv_at hl 0 rfl) ?_
  refine lv_bipush (v := 14) X.1 X.2.1 dX2_init_18 (by decide) ?_
  refine nw_newa (atype := .int) (ty := .int) (N' := 14) (a0 := (14, .inl fun _ => 0)) 0 X hA qc_63 rfl rfl (fun _ => rfl) (by decide) (by decide) (Nat.le_of_ble_eq_true rfl) (Nat.le_of_ble_eq_true rfl) (Nat.le_of_ble_eq_true rfl) W3 dX2_init_20 (fun q4 H4 W4 => ?_)
  refine nw_putF (k := 2) X qi_2 tyX2_ok nmX2 rfl (by decide) qw_266 rfl hin rfl (tyX2_ok 2 (by decide)) rfl rfl n3 W4 dX2_init_22 (fun H5 L5 W5 n5 => ?_)
  refine lv_aload_n X.1 X.2.1 dX2_init_25 rfl (lv_at hl 0 rfl) ?_
  refine lv_bipush (v := 14) X.1 X.2.1 dX2_init_26 (by decide) ?_
  refine nw_newa (atype := .int) (ty := .int) (N' := 14) (a0 := (14, .inl fun _ => 0)) 0 X hA qc_63 rfl rfl (fun _ => rfl) (by decide) (by decide) (Nat.le_of_ble_eq_true rfl) (Nat.le_of_ble_eq_true rfl) (Nat.le_of_ble_eq_true rfl) W5 dX2_init_28 (fun q6 H6 W6 => ?_)
  refine nw_putF (k := 3) X qi_2 tyX2_ok nmX2 rfl (by decide) qw_268 rfl hin rfl (tyX2_ok 3 (by decide)) rfl rfl n5 W6 dX2_init_30 (fun H7 L7 W7 n7 => ?_)
  refine lv_aload_n X.1 X.2.1 dX2_init_33 rfl (lv_at hl 0 rfl) ?_
  refine lv_bipush (v := 14) X.1 X.2.1 dX2_init_34 (by decide) ?_
  refine nw_newa (atype := .int) (ty := .int) (N' := 14) (a0 := (14, .inl fun _ => 0)) 0 X hA qc_63 rfl rfl (fun _ => rfl) (by decide) (by decide) (Nat.le_of_ble_eq_true rfl) (Nat.le_of_ble_eq_true rfl) (Nat.le_of_ble_eq_true rfl) W7 dX2_init_36 (fun q8 H8 W8 => ?_)
  refine nw_putF (k := 4) X qi_2 tyX2_ok nmX2 rfl (by decide) qw_270 rfl hin rfl (tyX2_ok 4 (by decide)) rfl rfl n7 W8 dX2_init_38 (fun H9 L9 W9 n9 => ?_)
  refine lv_aload_n X.1 X.2.1 dX2_init_41 rfl (lv_at hl 0 rfl) ?_
  refine lv_bipush (v := 14) X.1 X.2.1 dX2_init_42 (by decide) ?_
  refine nw_newa (atype := .boolean) (ty := .boolean) (N' := 14) (a0 := (14, .inl fun _ => 0)) 2 X hA qc_308 rfl rfl (fun _ => rfl) (by decide) (by decide) (Nat.le_of_ble_eq_true rfl) (Nat.le_of_ble_eq_true rfl) (Nat.le_of_ble_eq_true rfl) W9 dX2_init_44 (fun q10 H10 W10 => ?_)
  refine nw_putF (k := 5) X qi_2 tyX2_ok nmX2 rfl (by decide) qw_272 rfl hin rfl (tyX2_ok 5 (by decide)) rfl rfl n9 W10 dX2_init_46 (fun H11 L11 W11 n11 => ?_)
  refine lv_aload_n X.1 X.2.1 dX2_init_49 rfl (lv_at hl 0 rfl) ?_
  refine lv_bipush (v := 60) X.1 X.2.1 dX2_init_50 (by decide) ?_
  refine nw_newa (atype := .boolean) (ty := .boolean) (N' := 60) (a0 := (60, .inl fun _ => 0)) 2 X hA qc_308 rfl rfl (fun _ => rfl) (by decide) (by decide) (Nat.le_of_ble_eq_true rfl) (Nat.le_of_ble_eq_true rfl) (Nat.le_of_ble_eq_true rfl) W11 dX2_init_52 (fun q12 H12 W12 => ?_)
  refine nw_putF (k := 6) X qi_2 tyX2_ok nmX2 rfl (by decide) qw_274 rfl hin rfl (tyX2_ok 6 (by decide)) rfl rfl n11 W12 dX2_init_54 (fun H13 L13 W13 n13 => ?_)
  refine lv_aload_n X.1 X.2.1 dX2_init_57 rfl (lv_at hl 0 rfl) ?_
  refine lv_bipush (v := 9) X.1 X.2.1 dX2_init_58 (by decide) ?_
  refine nw_newa (atype := .int) (ty := .int) (N' := 9) (a0 := (9, .inl fun _ => 0)) 0 X hA qc_63 rfl rfl (fun _ => rfl) (by decide) (by decide) (Nat.le_of_ble_eq_true rfl) (Nat.le_of_ble_eq_true rfl) (Nat.le_of_ble_eq_true rfl) W13 dX2_init_60 (fun q14 H14 W14 => ?_)
  refine nw_putF (k := 7) X qi_2 tyX2_ok nmX2 rfl (by decide) qw_275 rfl hin rfl (tyX2_ok 7 (by decide)) rfl rfl n13 W14 dX2_init_62 (fun H15 L15 W15 n15 => ?_)
  refine lv_aload_n X.1 X.2.1 dX2_init_65 rfl (lv_at hl 0 rfl) ?_
  refine lv_iconst (v := 0) X.1 X.2.1 dX2_init_66 (by decide) ?_
  refine nw_put (k := 8) X qi_2 tyX2_ok nmX2 rfl (by decide) qw_277 rfl (tyX2_ok 8 (by decide)) rfl rfl n15 W15 dX2_init_67 (fun H16 L16 W16 n16 => ?_)
  refine lv_aload_n X.1 X.2.1 dX2_init_70 rfl (lv_at hl 0 rfl) ?_
  refine lv_sipush (v := 182) X.1 X.2.1 dX2_init_71 (by decide) ?_
  refine nw_newa (atype := .int) (ty := .int) (N' := 182) (a0 := (182, .inl fun _ => 0)) 0 X hA qc_63 rfl rfl (fun _ => rfl) (by decide) (by decide) (Nat.le_of_ble_eq_true rfl) (Nat.le_of_ble_eq_true rfl) (Nat.le_of_ble_eq_true rfl) W16 dX2_init_74 (fun q17 H17 W17 => ?_)
  refine nw_putF (k := 9) X qi_2 tyX2_ok nmX2 rfl (by decide) qw_280 rfl hin rfl (tyX2_ok 9 (by decide)) rfl rfl n16 W17 dX2_init_76 (fun H18 L18 W18 n18 => ?_)
  refine lv_aload_n X.1 X.2.1 dX2_init_79 rfl (lv_at hl 0 rfl) ?_
  refine lv_sipush (v := 182) X.1 X.2.1 dX2_init_80 (by decide) ?_
  refine nw_newa (atype := .int) (ty := .int) (N' := 182) (a0 := (182, .inl fun _ => 0)) 0 X hA qc_63 rfl rfl (fun _ => rfl) (by decide) (by decide) (Nat.le_of_ble_eq_true rfl) (Nat.le_of_ble_eq_true rfl) (Nat.le_of_ble_eq_true rfl) W18 dX2_init_83 (fun q19 H19 W19 => ?_)
  refine nw_putF (k := 10) X qi_2 tyX2_ok nmX2 rfl (by decide) qw_282 rfl hin rfl (tyX2_ok 10 (by decide)) rfl rfl n18 W19 dX2_init_85 (fun H20 L20 W20 n20 => ?_)
  exact nw_ret (U := (Nat → Nat)) (CS := CSX2 S) (fun n => ([q2, q4, q6, q8, q10, q12, q14, q17, q19] : List Nat).getD n 0) X hr hlk (Nat.le_of_ble_eq_true rfl) (Nat.le_of_ble_eq_true rfl) W20 dX2_init_88
abbrev m_X3_init : Mt := (yX3_init, cX3_init, 1, none, 1)
theorem oy_X3_init : okY yX3_init 0 := ⟨by decide, by decide, by decide +kernel⟩
def zsX3 : List Value := [.null, .null]
theorem zsX3_ok : ∀ j, j < 2 → defaultValue (tyX3 j) = vp_V zsX3 j := by
  intro j hj
  match j, hj with
  | 0, _ => rfl
  | 1, _ => rfl
  | j + 2, hj => exact absurd hj (by omega)
theorem qc_382 : (Jvm.Cond.methodLink "SkyStones$Maker" (3 : Nat) ({ cls := "java/lang/Object", name := "<init>", desc := "()V" } : Jvm.MethodName) : Cond) ∈ wAll := wAll_of (List.mem_append_right _ (List.mem_of_getElem? (i := 382) (by decide +kernel))) (by decide +kernel)
def CSX3 (S : Shp) (h0 : Nat) (u : (Nat → Nat)) : va_W := (h0, .inr (2, [.ref (u 0), .ref (u 1)])) :: (([] ++ [((u 0), .inl (sE S 0, 14, .inl fun _ => 0))]) ++ [((u 1), .inl (sE S 0, 14, .inl fun _ => 0))])
set_option maxRecDepth 100000 in
set_option maxHeartbeats 4000000 in
theorem ci_X3 {S : Shp} : Ci (U := (Nat → Nat)) m_X3_init S 2 zsX3 [] (CSX3 S) 2 28 := by
  refine Ci.of (by decide +kernel) (fun h0 => (Nat.le_of_ble_eq_true rfl)) rfl (fun p l e s m args below meth c h0 ls X hin hr hlk hl W0 => ?_)
  have hA : ∀ q, s.heap.size ≤ q → va_A [(h0, .inr (2, zsX3))] s.heap.size q := fun q h => Or.inr h
  refine lv_aload_n X.1 X.2.1 dX3_init_0 rfl (lv_at hl 0 rfl) ?_
  refine nw_obj X qc_382 hl.1 (Nat.le_of_ble_eq_true rfl) (Nat.le_of_ble_eq_true rfl) dX3_init_1 ?_
  refine lv_aload_n X.1 X.2.1 dX3_init_4 rfl (lv_at hl 0 rfl) ?_
  refine lv_bipush (v := 14) X.1 X.2.1 dX3_init_5 (by decide) ?_
  refine nw_newa (atype := .int) (ty := .int) (N' := 14) (a0 := (14, .inl fun _ => 0)) 0 X hA qc_63 rfl rfl (fun _ => rfl) (by decide) (by decide) (Nat.le_of_ble_eq_true rfl) (Nat.le_of_ble_eq_true rfl) (Nat.le_of_ble_eq_true rfl) W0 dX3_init_7 (fun q1 H1 W1 => ?_)
  refine nw_putF (k := 0) X qi_3 tyX3_ok nmX3 rfl (by decide) qw_383 rfl hin rfl (tyX3_ok 0 (by decide)) rfl rfl rfl W1 dX3_init_9 (fun H2 L2 W2 n2 => ?_)
  refine lv_aload_n X.1 X.2.1 dX3_init_12 rfl (lv_at hl 0 rfl) ?_
  refine lv_bipush (v := 14) X.1 X.2.1 dX3_init_13 (by decide) ?_
  refine nw_newa (atype := .int) (ty := .int) (N' := 14) (a0 := (14, .inl fun _ => 0)) 0 X hA qc_63 rfl rfl (fun _ => rfl) (by decide) (by decide) (Nat.le_of_ble_eq_true rfl) (Nat.le_of_ble_eq_true rfl) (Nat.le_of_ble_eq_true rfl) W2 dX3_init_15 (fun q3 H3 W3 => ?_)
  refine nw_putF (k := 1) X qi_3 tyX3_ok nmX3 rfl (by decide) qw_385 rfl hin rfl (tyX3_ok 1 (by decide)) rfl rfl n2 W3 dX3_init_17 (fun H4 L4 W4 n4 => ?_)
  exact nw_ret (U := (Nat → Nat)) (CS := CSX3 S) (fun n => ([q1, q3] : List Nat).getD n 0) X hr hlk (Nat.le_of_ble_eq_true rfl) (Nat.le_of_ble_eq_true rfl) W4 dX3_init_20
abbrev m_X4_init : Mt := (yX4_init, cX4_init, 1, none, 1)
theorem oy_X4_init : okY yX4_init 0 := ⟨by decide, by decide, by decide +kernel⟩
def zsX4 : List Value := [.null, .null]
theorem zsX4_ok : ∀ j, j < 2 → defaultValue (tyX4 j) = vp_V zsX4 j := by
  intro j hj
  match j, hj with
  | 0, _ => rfl
  | 1, _ => rfl
  | j + 2, hj => exact absurd hj (by omega)
theorem qc_369 : (Jvm.Cond.methodLink "SkyStones$Pairing" (3 : Nat) ({ cls := "java/lang/Object", name := "<init>", desc := "()V" } : Jvm.MethodName) : Cond) ∈ wAll := wAll_of (List.mem_append_right _ (List.mem_of_getElem? (i := 369) (by decide +kernel))) (by decide +kernel)
def CSX4 (S : Shp) (h0 : Nat) (u : (Nat → Nat)) : va_W := (h0, .inr (3, [.ref (u 0), .ref (u 1)])) :: (([] ++ [((u 0), .inl (sE S 0, 14, .inl fun _ => 0))]) ++ [((u 1), .inl (sE S 0, 2048, .inl fun _ => 0))])
set_option maxRecDepth 100000 in
set_option maxHeartbeats 4000000 in
theorem ci_X4 {S : Shp} : Ci (U := (Nat → Nat)) m_X4_init S 3 zsX4 [] (CSX4 S) 2 2062 := by
  refine Ci.of (by decide +kernel) (fun h0 => (Nat.le_of_ble_eq_true rfl)) rfl (fun p l e s m args below meth c h0 ls X hin hr hlk hl W0 => ?_)
  have hA : ∀ q, s.heap.size ≤ q → va_A [(h0, .inr (3, zsX4))] s.heap.size q := fun q h => Or.inr h
  refine lv_aload_n X.1 X.2.1 dX4_init_0 rfl (lv_at hl 0 rfl) ?_
  refine nw_obj X qc_369 hl.1 (Nat.le_of_ble_eq_true rfl) (Nat.le_of_ble_eq_true rfl) dX4_init_1 ?_
  refine lv_aload_n X.1 X.2.1 dX4_init_4 rfl (lv_at hl 0 rfl) ?_
  refine lv_bipush (v := 14) X.1 X.2.1 dX4_init_5 (by decide) ?_
  refine nw_newa (atype := .int) (ty := .int) (N' := 14) (a0 := (14, .inl fun _ => 0)) 0 X hA qc_63 rfl rfl (fun _ => rfl) (by decide) (by decide) (Nat.le_of_ble_eq_true rfl) (Nat.le_of_ble_eq_true rfl) (Nat.le_of_ble_eq_true rfl) W0 dX4_init_7 (fun q1 H1 W1 => ?_)
  refine nw_putF (k := 0) X qi_4 tyX4_ok nmX4 rfl (by decide) qw_370 rfl hin rfl (tyX4_ok 0 (by decide)) rfl rfl rfl W1 dX4_init_9 (fun H2 L2 W2 n2 => ?_)
  refine lv_aload_n X.1 X.2.1 dX4_init_12 rfl (lv_at hl 0 rfl) ?_
  refine lv_sipush (v := 2048) X.1 X.2.1 dX4_init_13 (by decide) ?_
  refine nw_newa (atype := .int) (ty := .int) (N' := 2048) (a0 := (2048, .inl fun _ => 0)) 0 X hA qc_63 rfl rfl (fun _ => rfl) (by decide) (by decide) (Nat.le_of_ble_eq_true rfl) (Nat.le_of_ble_eq_true rfl) (Nat.le_of_ble_eq_true rfl) W2 dX4_init_16 (fun q3 H3 W3 => ?_)
  refine nw_putF (k := 1) X qi_4 tyX4_ok nmX4 rfl (by decide) qw_371 rfl hin rfl (tyX4_ok 1 (by decide)) rfl rfl n2 W3 dX4_init_18 (fun H4 L4 W4 n4 => ?_)
  exact nw_ret (U := (Nat → Nat)) (CS := CSX4 S) (fun n => ([q1, q3] : List Nat).getD n 0) X hr hlk (Nat.le_of_ble_eq_true rfl) (Nat.le_of_ble_eq_true rfl) W4 dX4_init_21
abbrev m_X5_init : Mt := (yX5_init, cX5_init, 3, none, 1)
theorem oy_X5_init : okY yX5_init 2 := ⟨by decide, by decide, by decide +kernel⟩
def zsX5 : List Value := [.int 0, .int 0, .null, .null, .int 0, .int 0, .int 0, .null, .null]
theorem zsX5_ok : ∀ j, j < 9 → defaultValue (tyX5 j) = vp_V zsX5 j := by
  intro j hj
  match j, hj with
  | 0, _ => rfl
  | 1, _ => rfl
  | 2, _ => rfl
  | 3, _ => rfl
  | 4, _ => rfl
  | 5, _ => rfl
  | 6, _ => rfl
  | 7, _ => rfl
  | 8, _ => rfl
  | j + 9, hj => exact absurd hj (by omega)
theorem qc_186 : (Jvm.Cond.methodLink "SkyStones$Reader" (3 : Nat) ({ cls := "java/lang/Object", name := "<init>", desc := "()V" } : Jvm.MethodName) : Cond) ∈ wAll := wAll_of (List.mem_append_right _ (List.mem_of_getElem? (i := 186) (by decide +kernel))) (by decide +kernel)
theorem qc_64 : (Jvm.Cond.arrayClass Jvm.ClassFile.FieldType.long : Cond) ∈ wAll := wAll_of (List.mem_append_right _ (List.mem_of_getElem? (i := 64) (by decide +kernel))) (by decide +kernel)
def CSX5 (S : Shp) (tp : Nat) (td : Nat) (h0 : Nat) (u : (Nat → Nat)) : va_W := (h0, .inr (4, [.int 0, .int (-1), .ref tp, .ref td, .int 0, .int 0, .int (-1), .ref (u 0), .ref (u 1)])) :: (([] ++ [((u 0), .inl (sE S 3, 14, .inr (.inl fun _ => 0)))]) ++ [((u 1), .inl (sE S 3, 5, .inr (.inl fun _ => 0)))])
set_option maxRecDepth 100000 in
set_option maxHeartbeats 4000000 in
theorem ci_X5 {S : Shp} {tp : Nat} {td : Nat} : Ci (U := (Nat → Nat)) m_X5_init S 4 zsX5 [.ref tp, .ref td] (CSX5 S tp td) 2 19 := by
  refine Ci.of (by decide +kernel) (fun h0 => (Nat.le_of_ble_eq_true rfl)) rfl (fun p l e s m args below meth c h0 ls X hin hr hlk hl W0 => ?_)
  have hA : ∀ q, s.heap.size ≤ q → va_A [(h0, .inr (4, zsX5))] s.heap.size q := fun q h => Or.inr h
  refine lv_aload_n X.1 X.2.1 dX5_init_0 rfl (lv_at hl 0 rfl) ?_
  refine nw_obj X qc_186 hl.1 (Nat.le_of_ble_eq_true rfl) (Nat.le_of_ble_eq_true rfl) dX5_init_1 ?_
  refine lv_aload_n X.1 X.2.1 dX5_init_4 rfl (lv_at hl 0 rfl) ?_
  refine lv_iconst (v := 0) X.1 X.2.1 dX5_init_5 (by decide) ?_
  refine nw_put (k := 0) X qi_5 tyX5_ok nmX5 rfl (by decide) qw_187 rfl (tyX5_ok 0 (by decide)) rfl rfl rfl W0 dX5_init_6 (fun H1 L1 W1 n1 => ?_)
  refine lv_aload_n X.1 X.2.1 dX5_init_9 rfl (lv_at hl 0 rfl) ?_
  refine lv_iconst (v := -1) X.1 X.2.1 dX5_init_10 (by decide) ?_
  refine nw_put (k := 1) X qi_5 tyX5_ok nmX5 rfl (by decide) qw_189 rfl (tyX5_ok 1 (by decide)) rfl rfl n1 W1 dX5_init_11 (fun H2 L2 W2 n2 => ?_)
  refine lv_aload_n X.1 X.2.1 dX5_init_14 rfl (lv_at hl 0 rfl) ?_
  refine lv_iconst (v := 0) X.1 X.2.1 dX5_init_15 (by decide) ?_
  refine nw_put (k := 4) X qi_5 tyX5_ok nmX5 rfl (by decide) qw_193 rfl (tyX5_ok 4 (by decide)) rfl rfl n2 W2 dX5_init_16 (fun H3 L3 W3 n3 => ?_)
  refine lv_aload_n X.1 X.2.1 dX5_init_19 rfl (lv_at hl 0 rfl) ?_
  refine lv_iconst (v := 0) X.1 X.2.1 dX5_init_20 (by decide) ?_
  refine nw_put (k := 5) X qi_5 tyX5_ok nmX5 rfl (by decide) qw_194 rfl (tyX5_ok 5 (by decide)) rfl rfl n3 W3 dX5_init_21 (fun H4 L4 W4 n4 => ?_)
  refine lv_aload_n X.1 X.2.1 dX5_init_24 rfl (lv_at hl 0 rfl) ?_
  refine lv_iconst (v := -1) X.1 X.2.1 dX5_init_25 (by decide) ?_
  refine nw_put (k := 6) X qi_5 tyX5_ok nmX5 rfl (by decide) qw_195 rfl (tyX5_ok 6 (by decide)) rfl rfl n4 W4 dX5_init_26 (fun H5 L5 W5 n5 => ?_)
  refine lv_aload_n X.1 X.2.1 dX5_init_29 rfl (lv_at hl 0 rfl) ?_
  refine lv_bipush (v := 14) X.1 X.2.1 dX5_init_30 (by decide) ?_
  refine nw_newa (atype := .long) (ty := .long) (N' := 14) (a0 := (14, .inr (.inl fun _ => 0))) 3 X hA qc_64 rfl rfl (fun _ => rfl) (by decide) (by decide) (Nat.le_of_ble_eq_true rfl) (Nat.le_of_ble_eq_true rfl) (Nat.le_of_ble_eq_true rfl) W5 dX5_init_32 (fun q6 H6 W6 => ?_)
  refine nw_putF (k := 7) X qi_5 tyX5_ok nmX5 rfl (by decide) qw_196 rfl hin rfl (tyX5_ok 7 (by decide)) rfl rfl n5 W6 dX5_init_34 (fun H7 L7 W7 n7 => ?_)
  refine lv_aload_n X.1 X.2.1 dX5_init_37 rfl (lv_at hl 0 rfl) ?_
  refine lv_iconst (v := 5) X.1 X.2.1 dX5_init_38 (by decide) ?_
  refine nw_newa (atype := .long) (ty := .long) (N' := 5) (a0 := (5, .inr (.inl fun _ => 0))) 3 X hA qc_64 rfl rfl (fun _ => rfl) (by decide) (by decide) (Nat.le_of_ble_eq_true rfl) (Nat.le_of_ble_eq_true rfl) (Nat.le_of_ble_eq_true rfl) W7 dX5_init_39 (fun q8 H8 W8 => ?_)
  refine nw_putF (k := 8) X qi_5 tyX5_ok nmX5 rfl (by decide) qw_197 rfl hin rfl (tyX5_ok 8 (by decide)) rfl rfl n7 W8 dX5_init_41 (fun H9 L9 W9 n9 => ?_)
  refine lv_aload_n X.1 X.2.1 dX5_init_44 rfl (lv_at hl 0 rfl) ?_
  refine lv_aload_n X.1 X.2.1 dX5_init_45 rfl (lv_at hl 1 rfl) ?_
  refine nw_putF (k := 2) X qi_5 tyX5_ok nmX5 rfl (by decide) qw_191 rfl hin rfl (tyX5_ok 2 (by decide)) rfl rfl n9 W9 dX5_init_46 (fun H10 L10 W10 n10 => ?_)
  refine lv_aload_n X.1 X.2.1 dX5_init_49 rfl (lv_at hl 0 rfl) ?_
  refine lv_aload_n X.1 X.2.1 dX5_init_50 rfl (lv_at hl 2 rfl) ?_
  refine nw_put (k := 3) X qi_5 tyX5_ok nmX5 rfl (by decide) qw_192 rfl (tyX5_ok 3 (by decide)) rfl rfl n10 W10 dX5_init_51 (fun H11 L11 W11 n11 => ?_)
  exact nw_ret (U := (Nat → Nat)) (CS := CSX5 S tp td) (fun n => ([q6, q8] : List Nat).getD n 0) X hr hlk (Nat.le_of_ble_eq_true rfl) (Nat.le_of_ble_eq_true rfl) W11 dX5_init_54
abbrev m_X6_init : Mt := (yX6_init, cX6_init, 1, none, 1)
theorem oy_X6_init : okY yX6_init 0 := ⟨by decide, by decide, by decide +kernel⟩
def zsX6 : List Value := [.int 0, .null, .null, .null]
theorem zsX6_ok : ∀ j, j < 4 → defaultValue (tyX6 j) = vp_V zsX6 j := by
  intro j hj
  match j, hj with
  | 0, _ => rfl
  | 1, _ => rfl
  | 2, _ => rfl
  | 3, _ => rfl
  | j + 4, hj => exact absurd hj (by omega)
theorem qc_314 : (Jvm.Cond.methodLink "SkyStones$Sky" (3 : Nat) ({ cls := "java/lang/Object", name := "<init>", desc := "()V" } : Jvm.MethodName) : Cond) ∈ wAll := wAll_of (List.mem_append_right _ (List.mem_of_getElem? (i := 314) (by decide +kernel))) (by decide +kernel)
def CSX6 (S : Shp) (h0 : Nat) (u : (Nat → Nat)) : va_W := (h0, .inr (5, [.int 0, .ref (u 0), .ref (u 1), .ref (u 2)])) :: ((([] ++ [((u 0), .inl (sE S 0, 5, .inl fun _ => 0))]) ++ [((u 1), .inl (sE S 0, 5, .inl fun _ => 0))]) ++ [((u 2), .inl (sE S 0, 9, .inl fun _ => 0))])
set_option maxRecDepth 100000 in
set_option maxHeartbeats 4000000 in
theorem ci_X6 {S : Shp} : Ci (U := (Nat → Nat)) m_X6_init S 5 zsX6 [] (CSX6 S) 3 19 := by
  refine Ci.of (by decide +kernel) (fun h0 => (Nat.le_of_ble_eq_true rfl)) rfl (fun p l e s m args below meth c h0 ls X hin hr hlk hl W0 => ?_)
  have hA : ∀ q, s.heap.size ≤ q → va_A [(h0, .inr (5, zsX6))] s.heap.size q := fun q h => Or.inr h
  refine lv_aload_n X.1 X.2.1 dX6_init_0 rfl (lv_at hl 0 rfl) ?_
  refine nw_obj X qc_314 hl.1 (Nat.le_of_ble_eq_true rfl) (Nat.le_of_ble_eq_true rfl) dX6_init_1 ?_
  refine lv_aload_n X.1 X.2.1 dX6_init_4 rfl (lv_at hl 0 rfl) ?_
  refine lv_iconst (v := 0) X.1 X.2.1 dX6_init_5 (by decide) ?_
  refine nw_put (k := 0) X qi_6 tyX6_ok nmX6 rfl (by decide) qw_315 rfl (tyX6_ok 0 (by decide)) rfl rfl rfl W0 dX6_init_6 (fun H1 L1 W1 n1 => ?_)
  refine lv_aload_n X.1 X.2.1 dX6_init_9 rfl (lv_at hl 0 rfl) ?_
  refine lv_iconst (v := 5) X.1 X.2.1 dX6_init_10 (by decide) ?_
  refine nw_newa (atype := .int) (ty := .int) (N' := 5) (a0 := (5, .inl fun _ => 0)) 0 X hA qc_63 rfl rfl (fun _ => rfl) (by decide) (by decide) (Nat.le_of_ble_eq_true rfl) (Nat.le_of_ble_eq_true rfl) (Nat.le_of_ble_eq_true rfl) W1 dX6_init_11 (fun q2 H2 W2 => ?_)
  refine nw_putF (k := 1) X qi_6 tyX6_ok nmX6 rfl (by decide) qw_318 rfl hin rfl (tyX6_ok 1 (by decide)) rfl rfl n1 W2 dX6_init_13 (fun H3 L3 W3 n3 => ?_)
  refine lv_aload_n X.1 X.2.1 dX6_init_16 rfl (lv_at hl 0 rfl) ?_
  refine lv_iconst (v := 5) X.1 X.2.1 dX6_init_17 (by decide) ?_
  refine nw_newa (atype := .int) (ty := .int) (N' := 5) (a0 := (5, .inl fun _ => 0)) 0 X hA qc_63 rfl rfl (fun _ => rfl) (by decide) (by decide) (Nat.le_of_ble_eq_true rfl) (Nat.le_of_ble_eq_true rfl) (Nat.le_of_ble_eq_true rfl) W3 dX6_init_18 (fun q4 H4 W4 => ?_)
  refine nw_putF (k := 2) X qi_6 tyX6_ok nmX6 rfl (by decide) qw_320 rfl hin rfl (tyX6_ok 2 (by decide)) rfl rfl n3 W4 dX6_init_20 (fun H5 L5 W5 n5 => ?_)
  refine lv_aload_n X.1 X.2.1 dX6_init_23 rfl (lv_at hl 0 rfl) ?_
  refine lv_bipush (v := 9) X.1 X.2.1 dX6_init_24 (by decide) ?_
  refine nw_newa (atype := .int) (ty := .int) (N' := 9) (a0 := (9, .inl fun _ => 0)) 0 X hA qc_63 rfl rfl (fun _ => rfl) (by decide) (by decide) (Nat.le_of_ble_eq_true rfl) (Nat.le_of_ble_eq_true rfl) (Nat.le_of_ble_eq_true rfl) W5 dX6_init_26 (fun q6 H6 W6 => ?_)
  refine nw_putF (k := 3) X qi_6 tyX6_ok nmX6 rfl (by decide) qw_321 rfl hin rfl (tyX6_ok 3 (by decide)) rfl rfl n5 W6 dX6_init_28 (fun H7 L7 W7 n7 => ?_)
  exact nw_ret (U := (Nat → Nat)) (CS := CSX6 S) (fun n => ([q2, q4, q6] : List Nat).getD n 0) X hr hlk (Nat.le_of_ble_eq_true rfl) (Nat.le_of_ble_eq_true rfl) W7 dX6_init_31
abbrev m_X7_init : Mt := (yX7_init, cX7_init, 1, none, 1)
theorem oy_X7_init : okY yX7_init 0 := ⟨by decide, by decide, by decide +kernel⟩
def zsX7 : List Value := [.int 0, .int 0, .null, .null, .null, .null, .null]
theorem zsX7_ok : ∀ j, j < 7 → defaultValue (tyX7 j) = vp_V zsX7 j := by
  intro j hj
  match j, hj with
  | 0, _ => rfl
  | 1, _ => rfl
  | 2, _ => rfl
  | 3, _ => rfl
  | 4, _ => rfl
  | 5, _ => rfl
  | 6, _ => rfl
  | j + 7, hj => exact absurd hj (by omega)
theorem qc_222 : (Jvm.Cond.methodLink "SkyStones$Survey" (3 : Nat) ({ cls := "java/lang/Object", name := "<init>", desc := "()V" } : Jvm.MethodName) : Cond) ∈ wAll := wAll_of (List.mem_append_right _ (List.mem_of_getElem? (i := 222) (by decide +kernel))) (by decide +kernel)
def CSX7 (S : Shp) (h0 : Nat) (u : (Nat → Nat)) : va_W := (h0, .inr (6, [.int 0, .int 0, .ref (u 0), .ref (u 1), .ref (u 2), .ref (u 3), .ref (u 4)])) :: ((((([] ++ [((u 0), .inl (sE S 0, 60, .inl fun _ => 0))]) ++ [((u 1), .inl (sE S 0, 60, .inl fun _ => 0))]) ++ [((u 2), .inl (sE S 0, 60, .inl fun _ => 0))]) ++ [((u 3), .inl (sE S 0, 60, .inl fun _ => 0))]) ++ [((u 4), .inl (sE S 0, 60, .inl fun _ => 0))])
set_option maxRecDepth 100000 in
set_option maxHeartbeats 4000000 in
theorem ci_X7 {S : Shp} : Ci (U := (Nat → Nat)) m_X7_init S 6 zsX7 [] (CSX7 S) 5 300 := by
  refine Ci.of (by decide +kernel) (fun h0 => (Nat.le_of_ble_eq_true rfl)) rfl (fun p l e s m args below meth c h0 ls X hin hr hlk hl W0 => ?_)
  have hA : ∀ q, s.heap.size ≤ q → va_A [(h0, .inr (6, zsX7))] s.heap.size q := fun q h => Or.inr h
  refine lv_aload_n X.1 X.2.1 dX7_init_0 rfl (lv_at hl 0 rfl) ?_
  refine nw_obj X qc_222 hl.1 (Nat.le_of_ble_eq_true rfl) (Nat.le_of_ble_eq_true rfl) dX7_init_1 ?_
  refine lv_aload_n X.1 X.2.1 dX7_init_4 rfl (lv_at hl 0 rfl) ?_
  refine lv_iconst (v := 0) X.1 X.2.1 dX7_init_5 (by decide) ?_
  refine nw_put (k := 0) X qi_7 tyX7_ok nmX7 rfl (by decide) qw_223 rfl (tyX7_ok 0 (by decide)) rfl rfl rfl W0 dX7_init_6 (fun H1 L1 W1 n1 => ?_)
  refine lv_aload_n X.1 X.2.1 dX7_init_9 rfl (lv_at hl 0 rfl) ?_
  refine lv_iconst (v := 0) X.1 X.2.1 dX7_init_10 (by decide) ?_
  refine nw_put (k := 1) X qi_7 tyX7_ok nmX7 rfl (by decide) qw_226 rfl (tyX7_ok 1 (by decide)) rfl rfl n1 W1 dX7_init_11 (fun H2 L2 W2 n2 => ?_)
  refine lv_aload_n X.1 X.2.1 dX7_init_14 rfl (lv_at hl 0 rfl) ?_
  refine lv_bipush (v := 60) X.1 X.2.1 dX7_init_15 (by decide) ?_
  refine nw_newa (atype := .int) (ty := .int) (N' := 60) (a0 := (60, .inl fun _ => 0)) 0 X hA qc_63 rfl rfl (fun _ => rfl) (by decide) (by decide) (Nat.le_of_ble_eq_true rfl) (Nat.le_of_ble_eq_true rfl) (Nat.le_of_ble_eq_true rfl) W2 dX7_init_17 (fun q3 H3 W3 => ?_)
  refine nw_putF (k := 2) X qi_7 tyX7_ok nmX7 rfl (by decide) qw_228 rfl hin rfl (tyX7_ok 2 (by decide)) rfl rfl n2 W3 dX7_init_19 (fun H4 L4 W4 n4 => ?_)
  refine lv_aload_n X.1 X.2.1 dX7_init_22 rfl (lv_at hl 0 rfl) ?_
  refine lv_bipush (v := 60) X.1 X.2.1 dX7_init_23 (by decide) ?_
  refine nw_newa (atype := .int) (ty := .int) (N' := 60) (a0 := (60, .inl fun _ => 0)) 0 X hA qc_63 rfl rfl (fun _ => rfl) (by decide) (by decide) (Nat.le_of_ble_eq_true rfl) (Nat.le_of_ble_eq_true rfl) (Nat.le_of_ble_eq_true rfl) W4 dX7_init_25 (fun q5 H5 W5 => ?_)
  refine nw_putF (k := 3) X qi_7 tyX7_ok nmX7 rfl (by decide) qw_231 rfl hin rfl (tyX7_ok 3 (by decide)) rfl rfl n4 W5 dX7_init_27 (fun H6 L6 W6 n6 => ?_)
  refine lv_aload_n X.1 X.2.1 dX7_init_30 rfl (lv_at hl 0 rfl) ?_
  refine lv_bipush (v := 60) X.1 X.2.1 dX7_init_31 (by decide) ?_
  refine nw_newa (atype := .int) (ty := .int) (N' := 60) (a0 := (60, .inl fun _ => 0)) 0 X hA qc_63 rfl rfl (fun _ => rfl) (by decide) (by decide) (Nat.le_of_ble_eq_true rfl) (Nat.le_of_ble_eq_true rfl) (Nat.le_of_ble_eq_true rfl) W6 dX7_init_33 (fun q7 H7 W7 => ?_)
  refine nw_putF (k := 4) X qi_7 tyX7_ok nmX7 rfl (by decide) qw_233 rfl hin rfl (tyX7_ok 4 (by decide)) rfl rfl n6 W7 dX7_init_35 (fun H8 L8 W8 n8 => ?_)
  refine lv_aload_n X.1 X.2.1 dX7_init_38 rfl (lv_at hl 0 rfl) ?_
  refine lv_bipush (v := 60) X.1 X.2.1 dX7_init_39 (by decide) ?_
  refine nw_newa (atype := .int) (ty := .int) (N' := 60) (a0 := (60, .inl fun _ => 0)) 0 X hA qc_63 rfl rfl (fun _ => rfl) (by decide) (by decide) (Nat.le_of_ble_eq_true rfl) (Nat.le_of_ble_eq_true rfl) (Nat.le_of_ble_eq_true rfl) W8 dX7_init_41 (fun q9 H9 W9 => ?_)
  refine nw_putF (k := 5) X qi_7 tyX7_ok nmX7 rfl (by decide) qw_235 rfl hin rfl (tyX7_ok 5 (by decide)) rfl rfl n8 W9 dX7_init_43 (fun H10 L10 W10 n10 => ?_)
  refine lv_aload_n X.1 X.2.1 dX7_init_46 rfl (lv_at hl 0 rfl) ?_
  refine lv_bipush (v := 60) X.1 X.2.1 dX7_init_47 (by decide) ?_
  refine nw_newa (atype := .int) (ty := .int) (N' := 60) (a0 := (60, .inl fun _ => 0)) 0 X hA qc_63 rfl rfl (fun _ => rfl) (by decide) (by decide) (Nat.le_of_ble_eq_true rfl) (Nat.le_of_ble_eq_true rfl) (Nat.le_of_ble_eq_true rfl) W10 dX7_init_49 (fun q11 H11 W11 => ?_)
  refine nw_putF (k := 6) X qi_7 tyX7_ok nmX7 rfl (by decide) qw_237 rfl hin rfl (tyX7_ok 6 (by decide)) rfl rfl n10 W11 dX7_init_51 (fun H12 L12 W12 n12 => ?_)
  exact nw_ret (U := (Nat → Nat)) (CS := CSX7 S) (fun n => ([q3, q5, q7, q9, q11] : List Nat).getD n 0) X hr hlk (Nat.le_of_ble_eq_true rfl) (Nat.le_of_ble_eq_true rfl) W12 dX7_init_54
abbrev m_X8_init : Mt := (yX8_init, cX8_init, 1, none, 1)
theorem oy_X8_init : okY yX8_init 0 := ⟨by decide, by decide, by decide +kernel⟩
def zsX8 : List Value := [.int 0, .null, .int 0, .null, .null, .null, .null]
theorem zsX8_ok : ∀ j, j < 7 → defaultValue (tyX8 j) = vp_V zsX8 j := by
  intro j hj
  match j, hj with
  | 0, _ => rfl
  | 1, _ => rfl
  | 2, _ => rfl
  | 3, _ => rfl
  | 4, _ => rfl
  | 5, _ => rfl
  | 6, _ => rfl
  | j + 7, hj => exact absurd hj (by omega)
theorem qc_34 : (Jvm.Cond.methodLink "SkyStones$Tape" (3 : Nat) ({ cls := "java/lang/Object", name := "<init>", desc := "()V" } : Jvm.MethodName) : Cond) ∈ wAll := wAll_of (List.mem_append_right _ (List.mem_of_getElem? (i := 34) (by decide +kernel))) (by decide +kernel)
theorem qc_62 : (Jvm.Cond.arrayClass Jvm.ClassFile.FieldType.byte : Cond) ∈ wAll := wAll_of (List.mem_append_right _ (List.mem_of_getElem? (i := 62) (by decide +kernel))) (by decide +kernel)
def CSX8 (S : Shp) (h0 : Nat) (u : (Nat → Nat)) : va_W := (h0, .inr (7, [.int 0, .ref (u 0), .int 0, .ref (u 1), .ref (u 2), .ref (u 3), .ref (u 4)])) :: ((((([] ++ [((u 0), .inl (sE S 1, 2000, .inl fun _ => 0))]) ++ [((u 1), .inl (sE S 0, 402, .inl fun _ => 0))]) ++ [((u 2), .inl (sE S 0, 402, .inl fun _ => 0))]) ++ [((u 3), .inl (sE S 0, 402, .inl fun _ => 0))]) ++ [((u 4), .inl (sE S 3, 402, .inr (.inl fun _ => 0)))])
set_option maxRecDepth 100000 in
set_option maxHeartbeats 4000000 in
theorem ci_X8 {S : Shp} : Ci (U := (Nat → Nat)) m_X8_init S 7 zsX8 [] (CSX8 S) 5 3608 := by
  refine Ci.of (by decide +kernel) (fun h0 => (Nat.le_of_ble_eq_true rfl)) rfl (fun p l e s m args below meth c h0 ls X hin hr hlk hl W0 => ?_)
  have hA : ∀ q, s.heap.size ≤ q → va_A [(h0, .inr (7, zsX8))] s.heap.size q := fun q h => Or.inr h
  refine lv_aload_n X.1 X.2.1 dX8_init_0 rfl (lv_at hl 0 rfl) ?_
  refine nw_obj X qc_34 hl.1 (Nat.le_of_ble_eq_true rfl) (Nat.le_of_ble_eq_true rfl) dX8_init_1 ?_
  refine lv_aload_n X.1 X.2.1 dX8_init_4 rfl (lv_at hl 0 rfl) ?_
  refine lv_iconst (v := 0) X.1 X.2.1 dX8_init_5 (by decide) ?_
  refine nw_put (k := 0) X qi_8 tyX8_ok nmX8 rfl (by decide) qw_35 rfl (tyX8_ok 0 (by decide)) rfl rfl rfl W0 dX8_init_6 (fun H1 L1 W1 n1 => ?_)
  refine lv_aload_n X.1 X.2.1 dX8_init_9 rfl (lv_at hl 0 rfl) ?_
  refine lv_sipush (v := 2000) X.1 X.2.1 dX8_init_10 (by decide) ?_
  refine nw_newa (atype := .byte) (ty := .byte) (N' := 2000) (a0 := (2000, .inl fun _ => 0)) 1 X hA qc_62 rfl rfl (fun _ => rfl) (by decide) (by decide) (Nat.le_of_ble_eq_true rfl) (Nat.le_of_ble_eq_true rfl) (Nat.le_of_ble_eq_true rfl) W1 dX8_init_13 (fun q2 H2 W2 => ?_)
  refine nw_putF (k := 1) X qi_8 tyX8_ok nmX8 rfl (by decide) qw_37 rfl hin rfl (tyX8_ok 1 (by decide)) rfl rfl n1 W2 dX8_init_15 (fun H3 L3 W3 n3 => ?_)
  refine lv_aload_n X.1 X.2.1 dX8_init_18 rfl (lv_at hl 0 rfl) ?_
  refine lv_iconst (v := 0) X.1 X.2.1 dX8_init_19 (by decide) ?_
  refine nw_put (k := 2) X qi_8 tyX8_ok nmX8 rfl (by decide) qw_38 rfl (tyX8_ok 2 (by decide)) rfl rfl n3 W3 dX8_init_20 (fun H4 L4 W4 n4 => ?_)
  refine lv_aload_n X.1 X.2.1 dX8_init_23 rfl (lv_at hl 0 rfl) ?_
  refine lv_sipush (v := 402) X.1 X.2.1 dX8_init_24 (by decide) ?_
  refine nw_newa (atype := .int) (ty := .int) (N' := 402) (a0 := (402, .inl fun _ => 0)) 0 X hA qc_63 rfl rfl (fun _ => rfl) (by decide) (by decide) (Nat.le_of_ble_eq_true rfl) (Nat.le_of_ble_eq_true rfl) (Nat.le_of_ble_eq_true rfl) W4 dX8_init_27 (fun q5 H5 W5 => ?_)
  refine nw_putF (k := 3) X qi_8 tyX8_ok nmX8 rfl (by decide) qw_39 rfl hin rfl (tyX8_ok 3 (by decide)) rfl rfl n4 W5 dX8_init_29 (fun H6 L6 W6 n6 => ?_)
  refine lv_aload_n X.1 X.2.1 dX8_init_32 rfl (lv_at hl 0 rfl) ?_
  refine lv_sipush (v := 402) X.1 X.2.1 dX8_init_33 (by decide) ?_
  refine nw_newa (atype := .int) (ty := .int) (N' := 402) (a0 := (402, .inl fun _ => 0)) 0 X hA qc_63 rfl rfl (fun _ => rfl) (by decide) (by decide) (Nat.le_of_ble_eq_true rfl) (Nat.le_of_ble_eq_true rfl) (Nat.le_of_ble_eq_true rfl) W6 dX8_init_36 (fun q7 H7 W7 => ?_)
  refine nw_putF (k := 4) X qi_8 tyX8_ok nmX8 rfl (by decide) qw_41 rfl hin rfl (tyX8_ok 4 (by decide)) rfl rfl n6 W7 dX8_init_38 (fun H8 L8 W8 n8 => ?_)
  refine lv_aload_n X.1 X.2.1 dX8_init_41 rfl (lv_at hl 0 rfl) ?_
  refine lv_sipush (v := 402) X.1 X.2.1 dX8_init_42 (by decide) ?_
  refine nw_newa (atype := .int) (ty := .int) (N' := 402) (a0 := (402, .inl fun _ => 0)) 0 X hA qc_63 rfl rfl (fun _ => rfl) (by decide) (by decide) (Nat.le_of_ble_eq_true rfl) (Nat.le_of_ble_eq_true rfl) (Nat.le_of_ble_eq_true rfl) W8 dX8_init_45 (fun q9 H9 W9 => ?_)
  refine nw_putF (k := 5) X qi_8 tyX8_ok nmX8 rfl (by decide) qw_43 rfl hin rfl (tyX8_ok 5 (by decide)) rfl rfl n8 W9 dX8_init_47 (fun H10 L10 W10 n10 => ?_)
  refine lv_aload_n X.1 X.2.1 dX8_init_50 rfl (lv_at hl 0 rfl) ?_
  refine lv_sipush (v := 402) X.1 X.2.1 dX8_init_51 (by decide) ?_
  refine nw_newa (atype := .long) (ty := .long) (N' := 402) (a0 := (402, .inr (.inl fun _ => 0))) 3 X hA qc_64 rfl rfl (fun _ => rfl) (by decide) (by decide) (Nat.le_of_ble_eq_true rfl) (Nat.le_of_ble_eq_true rfl) (Nat.le_of_ble_eq_true rfl) W10 dX8_init_54 (fun q11 H11 W11 => ?_)
  refine nw_putF (k := 6) X qi_8 tyX8_ok nmX8 rfl (by decide) qw_45 rfl hin rfl (tyX8_ok 6 (by decide)) rfl rfl n10 W11 dX8_init_56 (fun H12 L12 W12 n12 => ?_)
  exact nw_ret (U := (Nat → Nat)) (CS := CSX8 S) (fun n => ([q2, q5, q7, q9, q11] : List Nat).getD n 0) X hr hlk (Nat.le_of_ble_eq_true rfl) (Nat.le_of_ble_eq_true rfl) W12 dX8_init_59
abbrev m_X10_init : Mt := (yX10_init, cX10_init, 1, none, 1)
theorem oy_X10_init : okY yX10_init 0 := ⟨by decide, by decide, by decide +kernel⟩
def zsX10 : List Value := [.null, .null, .null, .null, .null, .int 0, .null, .null]
theorem zsX10_ok : ∀ j, j < 8 → defaultValue (tyX10 j) = vp_V zsX10 j := by
  intro j hj
  match j, hj with
  | 0, _ => rfl
  | 1, _ => rfl
  | 2, _ => rfl
  | 3, _ => rfl
  | 4, _ => rfl
  | 5, _ => rfl
  | 6, _ => rfl
  | 7, _ => rfl
  | j + 8, hj => exact absurd hj (by omega)
theorem qc_336 : (Jvm.Cond.methodLink "SkyStones$Turns" (3 : Nat) ({ cls := "java/lang/Object", name := "<init>", desc := "()V" } : Jvm.MethodName) : Cond) ∈ wAll := wAll_of (List.mem_append_right _ (List.mem_of_getElem? (i := 336) (by decide +kernel))) (by decide +kernel)
def CSX10 (S : Shp) (h0 : Nat) (u : (Nat → Nat)) : va_W := (h0, .inr (9, [.ref (u 0), .ref (u 1), .ref (u 2), .ref (u 3), .ref (u 4), .int 0, .ref (u 5), .ref (u 6)])) :: ((((((([] ++ [((u 0), .inl (sE S 0, 360, .inl fun _ => 0))]) ++ [((u 1), .inl (sE S 0, 360, .inl fun _ => 0))]) ++ [((u 2), .inl (sE S 0, 360, .inl fun _ => 0))]) ++ [((u 3), .inl (sE S 0, 360, .inl fun _ => 0))]) ++ [((u 4), .inl (sE S 0, 184, .inl fun _ => 0))]) ++ [((u 5), .inl (sE S 0, 360, .inl fun _ => 0))]) ++ [((u 6), .inl (sE S 0, 360, .inl fun _ => 0))])
set_option maxRecDepth 100000 in
set_option maxHeartbeats 4000000 in
theorem ci_X10 {S : Shp} : Ci (U := (Nat → Nat)) m_X10_init S 9 zsX10 [] (CSX10 S) 7 2344 := by
  refine Ci.of (by decide +kernel) (fun h0 => (Nat.le_of_ble_eq_true rfl)) rfl (fun p l e s m args below meth c h0 ls X hin hr hlk hl W0 => ?_)
  have hA : ∀ q, s.heap.size ≤ q → va_A [(h0, .inr (9, zsX10))] s.heap.size q := fun q h => Or.inr h
  refine lv_aload_n X.1 X.2.1 dX10_init_0 rfl (lv_at hl 0 rfl) ?_
  refine nw_obj X qc_336 hl.1 (Nat.le_of_ble_eq_true rfl) (Nat.le_of_ble_eq_true rfl) dX10_init_1 ?_
  refine lv_aload_n X.1 X.2.1 dX10_init_4 rfl (lv_at hl 0 rfl) ?_
  refine lv_sipush (v := 360) X.1 X.2.1 dX10_init_5 (by decide) ?_
  refine nw_newa (atype := .int) (ty := .int) (N' := 360) (a0 := (360, .inl fun _ => 0)) 0 X hA qc_63 rfl rfl (fun _ => rfl) (by decide) (by decide) (Nat.le_of_ble_eq_true rfl) (Nat.le_of_ble_eq_true rfl) (Nat.le_of_ble_eq_true rfl) W0 dX10_init_8 (fun q1 H1 W1 => ?_)
  refine nw_putF (k := 0) X qi_10 tyX10_ok nmX10 rfl (by decide) qw_337 rfl hin rfl (tyX10_ok 0 (by decide)) rfl rfl rfl W1 dX10_init_10 (fun H2 L2 W2 n2 => ?_)
  refine lv_aload_n X.1 X.2.1 dX10_init_13 rfl (lv_at hl 0 rfl) ?_
  refine lv_sipush (v := 360) X.1 X.2.1 dX10_init_14 (by decide) ?_
  refine nw_newa (atype := .int) (ty := .int) (N' := 360) (a0 := (360, .inl fun _ => 0)) 0 X hA qc_63 rfl rfl (fun _ => rfl) (by decide) (by decide) (Nat.le_of_ble_eq_true rfl) (Nat.le_of_ble_eq_true rfl) (Nat.le_of_ble_eq_true rfl) W2 dX10_init_17 (fun q3 H3 W3 => ?_)
  refine nw_putF (k := 1) X qi_10 tyX10_ok nmX10 rfl (by decide) qw_338 rfl hin rfl (tyX10_ok 1 (by decide)) rfl rfl n2 W3 dX10_init_19 (fun H4 L4 W4 n4 => ?_)
  refine lv_aload_n X.1 X.2.1 dX10_init_22 rfl (lv_at hl 0 rfl) ?_
  refine lv_sipush (v := 360) X.1 X.2.1 dX10_init_23 (by decide) ?_
  refine nw_newa (atype := .int) (ty := .int) (N' := 360) (a0 := (360, .inl fun _ => 0)) 0 X hA qc_63 rfl rfl (fun _ => rfl) (by decide) (by decide) (Nat.le_of_ble_eq_true rfl) (Nat.le_of_ble_eq_true rfl) (Nat.le_of_ble_eq_true rfl) W4 dX10_init_26 (fun q5 H5 W5 => ?_)
  refine nw_putF (k := 2) X qi_10 tyX10_ok nmX10 rfl (by decide) qw_340 rfl hin rfl (tyX10_ok 2 (by decide)) rfl rfl n4 W5 dX10_init_28 (fun H6 L6 W6 n6 => ?_)
  refine lv_aload_n X.1 X.2.1 dX10_init_31 rfl (lv_at hl 0 rfl) ?_
  refine lv_sipush (v := 360) X.1 X.2.1 dX10_init_32 (by decide) ?_
  refine nw_newa (atype := .int) (ty := .int) (N' := 360) (a0 := (360, .inl fun _ => 0)) 0 X hA qc_63 rfl rfl (fun _ => rfl) (by decide) (by decide) (Nat.le_of_ble_eq_true rfl) (Nat.le_of_ble_eq_true rfl) (Nat.le_of_ble_eq_true rfl) W6 dX10_init_35 (fun q7 H7 W7 => ?_)
  refine nw_putF (k := 3) X qi_10 tyX10_ok nmX10 rfl (by decide) qw_341 rfl hin rfl (tyX10_ok 3 (by decide)) rfl rfl n6 W7 dX10_init_37 (fun H8 L8 W8 n8 => ?_)
  refine lv_aload_n X.1 X.2.1 dX10_init_40 rfl (lv_at hl 0 rfl) ?_
  refine lv_sipush (v := 184) X.1 X.2.1 dX10_init_41 (by decide) ?_
  refine nw_newa (atype := .int) (ty := .int) (N' := 184) (a0 := (184, .inl fun _ => 0)) 0 X hA qc_63 rfl rfl (fun _ => rfl) (by decide) (by decide) (Nat.le_of_ble_eq_true rfl) (Nat.le_of_ble_eq_true rfl) (Nat.le_of_ble_eq_true rfl) W8 dX10_init_44 (fun q9 H9 W9 => ?_)
  refine nw_putF (k := 4) X qi_10 tyX10_ok nmX10 rfl (by decide) qw_343 rfl hin rfl (tyX10_ok 4 (by decide)) rfl rfl n8 W9 dX10_init_46 (fun H10 L10 W10 n10 => ?_)
  refine lv_aload_n X.1 X.2.1 dX10_init_49 rfl (lv_at hl 0 rfl) ?_
  refine lv_iconst (v := 0) X.1 X.2.1 dX10_init_50 (by decide) ?_
  refine nw_put (k := 5) X qi_10 tyX10_ok nmX10 rfl (by decide) qw_344 rfl (tyX10_ok 5 (by decide)) rfl rfl n10 W10 dX10_init_51 (fun H11 L11 W11 n11 => ?_)
  refine lv_aload_n X.1 X.2.1 dX10_init_54 rfl (lv_at hl 0 rfl) ?_
  refine lv_sipush (v := 360) X.1 X.2.1 dX10_init_55 (by decide) ?_
  refine nw_newa (atype := .int) (ty := .int) (N' := 360) (a0 := (360, .inl fun _ => 0)) 0 X hA qc_63 rfl rfl (fun _ => rfl) (by decide) (by decide) (Nat.le_of_ble_eq_true rfl) (Nat.le_of_ble_eq_true rfl) (Nat.le_of_ble_eq_true rfl) W11 dX10_init_58 (fun q12 H12 W12 => ?_)
  refine nw_putF (k := 6) X qi_10 tyX10_ok nmX10 rfl (by decide) qw_345 rfl hin rfl (tyX10_ok 6 (by decide)) rfl rfl n11 W12 dX10_init_60 (fun H13 L13 W13 n13 => ?_)
  refine lv_aload_n X.1 X.2.1 dX10_init_63 rfl (lv_at hl 0 rfl) ?_
  refine lv_sipush (v := 360) X.1 X.2.1 dX10_init_64 (by decide) ?_
  refine nw_newa (atype := .int) (ty := .int) (N' := 360) (a0 := (360, .inl fun _ => 0)) 0 X hA qc_63 rfl rfl (fun _ => rfl) (by decide) (by decide) (Nat.le_of_ble_eq_true rfl) (Nat.le_of_ble_eq_true rfl) (Nat.le_of_ble_eq_true rfl) W13 dX10_init_67 (fun q14 H14 W14 => ?_)
  refine nw_putF (k := 7) X qi_10 tyX10_ok nmX10 rfl (by decide) qw_346 rfl hin rfl (tyX10_ok 7 (by decide)) rfl rfl n13 W14 dX10_init_69 (fun H15 L15 W15 n15 => ?_)
  exact nw_ret (U := (Nat → Nat)) (CS := CSX10 S) (fun n => ([q1, q3, q5, q7, q9, q12, q14] : List Nat).getD n 0) X hr hlk (Nat.le_of_ble_eq_true rfl) (Nat.le_of_ble_eq_true rfl) W15 dX10_init_72
abbrev m_X9_init : Mt := (yX9_init, cX9_init, 1, none, 2)
theorem oy_X9_init : okY yX9_init 0 := ⟨by decide, by decide, by decide +kernel⟩
def zsX9 : List Value := [.int 0, .int 0, .null, .null, .null, .null, .int 0, .null, .int 0, .null, .null, .null, .int 0, .null, .int 0, .null]
theorem zsX9_ok : ∀ j, j < 16 → defaultValue (tyX9 j) = vp_V zsX9 j := by
  intro j hj
  match j, hj with
  | 0, _ => rfl
  | 1, _ => rfl
  | 2, _ => rfl
  | 3, _ => rfl
  | 4, _ => rfl
  | 5, _ => rfl
  | 6, _ => rfl
  | 7, _ => rfl
  | 8, _ => rfl
  | 9, _ => rfl
  | 10, _ => rfl
  | 11, _ => rfl
  | 12, _ => rfl
  | 13, _ => rfl
  | 14, _ => rfl
  | 15, _ => rfl
  | j + 16, hj => exact absurd hj (by omega)
theorem qc_70 : (Jvm.Cond.methodLink "SkyStones$Told" (3 : Nat) ({ cls := "java/lang/Object", name := "<init>", desc := "()V" } : Jvm.MethodName) : Cond) ∈ wAll := wAll_of (List.mem_append_right _ (List.mem_of_getElem? (i := 70) (by decide +kernel))) (by decide +kernel)
theorem qc_71 : (Jvm.Cond.classLink "SkyStones$Told" (58 : Nat) "SkyStones$Code" : Cond) ∈ wAll := wAll_of (List.mem_append_right _ (List.mem_of_getElem? (i := 71) (by decide +kernel))) (by decide +kernel)
theorem qc_72 : (Jvm.Cond.instantiable "SkyStones$Code" (7 : Nat) : Cond) ∈ wAll := wAll_of (List.mem_append_right _ (List.mem_of_getElem? (i := 72) (by decide +kernel))) (by decide +kernel)
theorem qc_74 : (Jvm.Cond.instanceMethod ({ cls := "SkyStones$Code", name := "<init>", desc := "()V" } : Jvm.MethodName) : Cond) ∈ wAll := wAll_of (List.mem_append_right _ (List.mem_of_getElem? (i := 74) (by decide +kernel))) (by decide +kernel)
set_option maxRecDepth 20000 in
theorem qc_75 : (Jvm.Cond.code ({ cls := "SkyStones$Code", name := "<init>", desc := "()V" } : Jvm.MethodName) prog_2_method_1_code (1 : Nat) (Option.none : Option Jvm.ClassFile.FieldType) : Cond) ∈ wAll := wAll_of (List.mem_append_right _ (show _ ∈ tables_1 from List.mem_append_left _ (List.mem_of_getElem? (i := 75) rfl))) rfl
def CSX9 (S : Shp) (h0 : Nat) (u : (Nat → Nat) × ((Nat → Nat))) : va_W := (h0, .inr (8, [.int 2, .int 0, .ref (u.1 0), .ref (u.1 1), .ref (u.1 2), .ref (u.1 3), .int 0, .ref (u.1 4), .int 0, .ref (u.1 5), .ref (u.1 6), .ref (u.1 7), .int 0, .ref (u.1 8), .int 0, .ref (u.1 9)])) :: (((((((((([] ++ [((u.1 0), .inl (sE S 0, 14, .inl fun _ => 0))]) ++ [((u.1 1), .inl (sE S 0, 14, .inl fun _ => 0))]) ++ [((u.1 2), .inl (sE S 0, 14, .inl fun _ => 0))]) ++ [((u.1 3), .inl (sE S 0, 14, .inl fun _ => 0))]) ++ [((u.1 4), .inl (sE S 0, 14, .inl fun _ => 0))]) ++ [((u.1 5), .inl (sE S 0, 12, .inl fun _ => 0))]) ++ [((u.1 6), .inl (sE S 0, 12, .inl fun _ => 0))]) ++ [((u.1 7), .inl (sE S 0, 12, .inl fun _ => 0))]) ++ [((u.1 8), .inl (sE S 0, 5, .inl fun _ => 0))]) ++ CSX0 S (u.1 9) u.2)
set_option maxRecDepth 100000 in
set_option maxHeartbeats 4000000 in
theorem ci_X9 {S : Shp} : Ci (U := (Nat → Nat) × ((Nat → Nat))) m_X9_init S 8 zsX9 [] (CSX9 S) 15 964 := by
  refine Ci.of (by decide +kernel) (fun h0 => (Nat.le_of_ble_eq_true rfl)) rfl (fun p l e s m args below meth c h0 ls X hin hr hlk hl W0 => ?_)
  have hA : ∀ q, s.heap.size ≤ q → va_A [(h0, .inr (8, zsX9))] s.heap.size q := fun q h => Or.inr h
  refine lv_aload_n X.1 X.2.1 dX9_init_0 rfl (lv_at hl 0 rfl) ?_
  refine nw_obj X qc_70 hl.1 (Nat.le_of_ble_eq_true rfl) (Nat.le_of_ble_eq_true rfl) dX9_init_1 ?_
  refine lv_aload_n X.1 X.2.1 dX9_init_4 rfl (lv_at hl 0 rfl) ?_
  refine lv_iconst (v := 2) X.1 X.2.1 dX9_init_5 (by decide) ?_
  refine nw_put (k := 0) X qi_9 tyX9_ok nmX9 rfl (by decide) qw_99 rfl (tyX9_ok 0 (by decide)) rfl rfl rfl W0 dX9_init_6 (fun H1 L1 W1 n1 => ?_)
  refine lv_aload_n X.1 X.2.1 dX9_init_9 rfl (lv_at hl 0 rfl) ?_
  refine lv_iconst (v := 0) X.1 X.2.1 dX9_init_10 (by decide) ?_
  refine nw_put (k := 1) X qi_9 tyX9_ok nmX9 rfl (by decide) qw_102 rfl (tyX9_ok 1 (by decide)) rfl rfl n1 W1 dX9_init_11 (fun H2 L2 W2 n2 => ?_)
  refine lv_aload_n X.1 X.2.1 dX9_init_14 rfl (lv_at hl 0 rfl) ?_
  refine lv_bipush (v := 14) X.1 X.2.1 dX9_init_15 (by decide) ?_
  refine nw_newa (atype := .int) (ty := .int) (N' := 14) (a0 := (14, .inl fun _ => 0)) 0 X hA qc_63 rfl rfl (fun _ => rfl) (by decide) (by decide) (Nat.le_of_ble_eq_true rfl) (Nat.le_of_ble_eq_true rfl) (Nat.le_of_ble_eq_true rfl) W2 dX9_init_17 (fun q3 H3 W3 => ?_)
  refine nw_putF (k := 2) X qi_9 tyX9_ok nmX9 rfl (by decide) qw_106 rfl hin rfl (tyX9_ok 2 (by decide)) rfl rfl n2 W3 dX9_init_19 (fun H4 L4 W4 n4 => ?_)
  refine lv_aload_n X.1 X.2.1 dX9_init_22 rfl (lv_at hl 0 rfl) ?_
  refine lv_bipush (v := 14) X.1 X.2.1 dX9_init_23 (by decide) ?_
  refine nw_newa (atype := .int) (ty := .int) (N' := 14) (a0 := (14, .inl fun _ => 0)) 0 X hA qc_63 rfl rfl (fun _ => rfl) (by decide) (by decide) (Nat.le_of_ble_eq_true rfl) (Nat.le_of_ble_eq_true rfl) (Nat.le_of_ble_eq_true rfl) W4 dX9_init_25 (fun q5 H5 W5 => ?_)
  refine nw_putF (k := 3) X qi_9 tyX9_ok nmX9 rfl (by decide) qw_109 rfl hin rfl (tyX9_ok 3 (by decide)) rfl rfl n4 W5 dX9_init_27 (fun H6 L6 W6 n6 => ?_)
  refine lv_aload_n X.1 X.2.1 dX9_init_30 rfl (lv_at hl 0 rfl) ?_
  refine lv_bipush (v := 14) X.1 X.2.1 dX9_init_31 (by decide) ?_
  refine nw_newa (atype := .int) (ty := .int) (N' := 14) (a0 := (14, .inl fun _ => 0)) 0 X hA qc_63 rfl rfl (fun _ => rfl) (by decide) (by decide) (Nat.le_of_ble_eq_true rfl) (Nat.le_of_ble_eq_true rfl) (Nat.le_of_ble_eq_true rfl) W6 dX9_init_33 (fun q7 H7 W7 => ?_)
  refine nw_putF (k := 4) X qi_9 tyX9_ok nmX9 rfl (by decide) qw_112 rfl hin rfl (tyX9_ok 4 (by decide)) rfl rfl n6 W7 dX9_init_35 (fun H8 L8 W8 n8 => ?_)
  refine lv_aload_n X.1 X.2.1 dX9_init_38 rfl (lv_at hl 0 rfl) ?_
  refine lv_bipush (v := 14) X.1 X.2.1 dX9_init_39 (by decide) ?_
  refine nw_newa (atype := .int) (ty := .int) (N' := 14) (a0 := (14, .inl fun _ => 0)) 0 X hA qc_63 rfl rfl (fun _ => rfl) (by decide) (by decide) (Nat.le_of_ble_eq_true rfl) (Nat.le_of_ble_eq_true rfl) (Nat.le_of_ble_eq_true rfl) W8 dX9_init_41 (fun q9 H9 W9 => ?_)
  refine nw_putF (k := 5) X qi_9 tyX9_ok nmX9 rfl (by decide) qw_115 rfl hin rfl (tyX9_ok 5 (by decide)) rfl rfl n8 W9 dX9_init_43 (fun H10 L10 W10 n10 => ?_)
  refine lv_aload_n X.1 X.2.1 dX9_init_46 rfl (lv_at hl 0 rfl) ?_
  refine lv_iconst (v := 0) X.1 X.2.1 dX9_init_47 (by decide) ?_
  refine nw_put (k := 6) X qi_9 tyX9_ok nmX9 rfl (by decide) qw_118 rfl (tyX9_ok 6 (by decide)) rfl rfl n10 W10 dX9_init_48 (fun H11 L11 W11 n11 => ?_)
  refine lv_aload_n X.1 X.2.1 dX9_init_51 rfl (lv_at hl 0 rfl) ?_
  refine lv_bipush (v := 14) X.1 X.2.1 dX9_init_52 (by decide) ?_
  refine nw_newa (atype := .int) (ty := .int) (N' := 14) (a0 := (14, .inl fun _ => 0)) 0 X hA qc_63 rfl rfl (fun _ => rfl) (by decide) (by decide) (Nat.le_of_ble_eq_true rfl) (Nat.le_of_ble_eq_true rfl) (Nat.le_of_ble_eq_true rfl) W11 dX9_init_54 (fun q12 H12 W12 => ?_)
  refine nw_putF (k := 7) X qi_9 tyX9_ok nmX9 rfl (by decide) qw_121 rfl hin rfl (tyX9_ok 7 (by decide)) rfl rfl n11 W12 dX9_init_56 (fun H13 L13 W13 n13 => ?_)
  refine lv_aload_n X.1 X.2.1 dX9_init_59 rfl (lv_at hl 0 rfl) ?_
  refine lv_iconst (v := 0) X.1 X.2.1 dX9_init_60 (by decide) ?_
  refine nw_put (k := 8) X qi_9 tyX9_ok nmX9 rfl (by decide) qw_124 rfl (tyX9_ok 8 (by decide)) rfl rfl n13 W13 dX9_init_61 (fun H14 L14 W14 n14 => ?_)
  refine lv_aload_n X.1 X.2.1 dX9_init_64 rfl (lv_at hl 0 rfl) ?_
  refine lv_bipush (v := 12) X.1 X.2.1 dX9_init_65 (by decide) ?_
  refine nw_newa (atype := .int) (ty := .int) (N' := 12) (a0 := (12, .inl fun _ => 0)) 0 X hA qc_63 rfl rfl (fun _ => rfl) (by decide) (by decide) (Nat.le_of_ble_eq_true rfl) (Nat.le_of_ble_eq_true rfl) (Nat.le_of_ble_eq_true rfl) W14 dX9_init_67 (fun q15 H15 W15 => ?_)
  refine nw_putF (k := 9) X qi_9 tyX9_ok nmX9 rfl (by decide) qw_127 rfl hin rfl (tyX9_ok 9 (by decide)) rfl rfl n14 W15 dX9_init_69 (fun H16 L16 W16 n16 => ?_)
  refine lv_aload_n X.1 X.2.1 dX9_init_72 rfl (lv_at hl 0 rfl) ?_
  refine lv_bipush (v := 12) X.1 X.2.1 dX9_init_73 (by decide) ?_
  refine nw_newa (atype := .int) (ty := .int) (N' := 12) (a0 := (12, .inl fun _ => 0)) 0 X hA qc_63 rfl rfl (fun _ => rfl) (by decide) (by decide) (Nat.le_of_ble_eq_true rfl) (Nat.le_of_ble_eq_true rfl) (Nat.le_of_ble_eq_true rfl) W16 dX9_init_75 (fun q17 H17 W17 => ?_)
  refine nw_putF (k := 10) X qi_9 tyX9_ok nmX9 rfl (by decide) qw_129 rfl hin rfl (tyX9_ok 10 (by decide)) rfl rfl n16 W17 dX9_init_77 (fun H18 L18 W18 n18 => ?_)
  refine lv_aload_n X.1 X.2.1 dX9_init_80 rfl (lv_at hl 0 rfl) ?_
  refine lv_bipush (v := 12) X.1 X.2.1 dX9_init_81 (by decide) ?_
  refine nw_newa (atype := .int) (ty := .int) (N' := 12) (a0 := (12, .inl fun _ => 0)) 0 X hA qc_63 rfl rfl (fun _ => rfl) (by decide) (by decide) (Nat.le_of_ble_eq_true rfl) (Nat.le_of_ble_eq_true rfl) (Nat.le_of_ble_eq_true rfl) W18 dX9_init_83 (fun q19 H19 W19 => ?_)
  refine nw_putF (k := 11) X qi_9 tyX9_ok nmX9 rfl (by decide) qw_131 rfl hin rfl (tyX9_ok 11 (by decide)) rfl rfl n18 W19 dX9_init_85 (fun H20 L20 W20 n20 => ?_)
  refine lv_aload_n X.1 X.2.1 dX9_init_88 rfl (lv_at hl 0 rfl) ?_
  refine lv_iconst (v := 0) X.1 X.2.1 dX9_init_89 (by decide) ?_
  refine nw_put (k := 12) X qi_9 tyX9_ok nmX9 rfl (by decide) qw_133 rfl (tyX9_ok 12 (by decide)) rfl rfl n20 W20 dX9_init_90 (fun H21 L21 W21 n21 => ?_)
  refine lv_aload_n X.1 X.2.1 dX9_init_93 rfl (lv_at hl 0 rfl) ?_
  refine lv_iconst (v := 5) X.1 X.2.1 dX9_init_94 (by decide) ?_
  refine nw_newa (atype := .int) (ty := .int) (N' := 5) (a0 := (5, .inl fun _ => 0)) 0 X hA qc_63 rfl rfl (fun _ => rfl) (by decide) (by decide) (Nat.le_of_ble_eq_true rfl) (Nat.le_of_ble_eq_true rfl) (Nat.le_of_ble_eq_true rfl) W21 dX9_init_95 (fun q22 H22 W22 => ?_)
  refine nw_putF (k := 13) X qi_9 tyX9_ok nmX9 rfl (by decide) qw_137 rfl hin rfl (tyX9_ok 13 (by decide)) rfl rfl n21 W22 dX9_init_97 (fun H23 L23 W23 n23 => ?_)
  refine lv_aload_n X.1 X.2.1 dX9_init_100 rfl (lv_at hl 0 rfl) ?_
  refine lv_iconst (v := 0) X.1 X.2.1 dX9_init_101 (by decide) ?_
  refine nw_put (k := 14) X qi_9 tyX9_ok nmX9 rfl (by decide) qw_140 rfl (tyX9_ok 14 (by decide)) rfl rfl n23 W23 dX9_init_102 (fun H24 L24 W24 n24 => ?_)
  refine lv_aload_n X.1 X.2.1 dX9_init_105 rfl (lv_at hl 0 rfl) ?_
  refine nw_new (ci := 0) (fs := zsX0) X hA qi_0 tyX0_ok qc_71 qc_72 qw_4 rfl zsX0_ok (Nat.le_of_ble_eq_true rfl) (Nat.le_of_ble_eq_true rfl) W24 dX9_init_106 (fun q25 H25 W25 => ?_)
  refine lv_dup X.1 X.2.1 dX9_init_109 rfl ?_
  refine nw_callN (As := []) (rest := [.ref q25, .ref h0]) X hA ci_X0 (List.mem_of_getElem? (i := 2) rfl) qc_74 qw_4 qc_75 oy_X0_init rfl ⟨(Nat.le_of_ble_eq_true rfl), (Nat.le_of_ble_eq_true rfl)⟩ ⟨(Nat.le_of_ble_eq_true rfl), (Nat.le_of_ble_eq_true rfl)⟩ rfl (Nat.le_of_ble_eq_true rfl) rfl hl.1 W25 dX9_init_110 (fun u26 H26 L26 W26 => ?_)
  refine nw_putF (k := 15) X qi_9 tyX9_ok nmX9 rfl (by decide) qw_144 rfl hin rfl (tyX9_ok 15 (by decide)) rfl rfl n24 W26 dX9_init_113 (fun H27 L27 W27 n27 => ?_)
  exact nw_ret (U := (Nat → Nat) × ((Nat → Nat))) (CS := CSX9 S) (fun n => ([q3, q5, q7, q9, q12, q15, q17, q19, q22, q25] : List Nat).getD n 0, u26) X hr hlk (Nat.le_of_ble_eq_true rfl) (Nat.le_of_ble_eq_true rfl) W27 dX9_init_116
abbrev m_X11_init : Mt := (yX11_init, cX11_init, 1, none, 3)
theorem oy_X11_init : okY yX11_init 0 := ⟨by decide, by decide, by decide +kernel⟩
def zsX11 : List Value := [.null, .null, .null, .null, .null, .null, .null, .null, .null, .null, .null, .null, .int 0, .null, .null, .null]
theorem zsX11_ok : ∀ j, j < 16 → defaultValue (tyX11 j) = vp_V zsX11 j := by
  intro j hj
  match j, hj with
  | 0, _ => rfl
  | 1, _ => rfl
  | 2, _ => rfl
  | 3, _ => rfl
  | 4, _ => rfl
  | 5, _ => rfl
  | 6, _ => rfl
  | 7, _ => rfl
  | 8, _ => rfl
  | 9, _ => rfl
  | 10, _ => rfl
  | 11, _ => rfl
  | 12, _ => rfl
  | 13, _ => rfl
  | 14, _ => rfl
  | 15, _ => rfl
  | j + 16, hj => exact absurd hj (by omega)
theorem qc_26 : (Jvm.Cond.methodLink "SkyStones" (3 : Nat) ({ cls := "java/lang/Object", name := "<init>", desc := "()V" } : Jvm.MethodName) : Cond) ∈ wAll := wAll_of (List.mem_append_right _ (List.mem_of_getElem? (i := 26) (by decide +kernel))) (by decide +kernel)
theorem qc_29 : (Jvm.Cond.classLink "SkyStones" (9 : Nat) "SkyStones$Tape" : Cond) ∈ wAll := wAll_of (List.mem_append_right _ (List.mem_of_getElem? (i := 29) (by decide +kernel))) (by decide +kernel)
theorem qc_30 : (Jvm.Cond.instantiable "SkyStones$Tape" (7 : Nat) : Cond) ∈ wAll := wAll_of (List.mem_append_right _ (List.mem_of_getElem? (i := 30) (by decide +kernel))) (by decide +kernel)
theorem qc_32 : (Jvm.Cond.instanceMethod ({ cls := "SkyStones$Tape", name := "<init>", desc := "()V" } : Jvm.MethodName) : Cond) ∈ wAll := wAll_of (List.mem_append_right _ (List.mem_of_getElem? (i := 32) (by decide +kernel))) (by decide +kernel)
set_option maxRecDepth 20000 in
theorem qc_33 : (Jvm.Cond.code ({ cls := "SkyStones$Tape", name := "<init>", desc := "()V" } : Jvm.MethodName) prog_10_method_1_code (1 : Nat) (Option.none : Option Jvm.ClassFile.FieldType) : Cond) ∈ wAll := wAll_of (List.mem_append_right _ (show _ ∈ tables_1 from List.mem_append_left _ (List.mem_of_getElem? (i := 33) rfl))) rfl
theorem qc_65 : (Jvm.Cond.classLink "SkyStones" (16 : Nat) "SkyStones$Told" : Cond) ∈ wAll := wAll_of (List.mem_append_right _ (List.mem_of_getElem? (i := 65) (by decide +kernel))) (by decide +kernel)
theorem qc_66 : (Jvm.Cond.instantiable "SkyStones$Told" (16 : Nat) : Cond) ∈ wAll := wAll_of (List.mem_append_right _ (List.mem_of_getElem? (i := 66) (by decide +kernel))) (by decide +kernel)
theorem qc_68 : (Jvm.Cond.instanceMethod ({ cls := "SkyStones$Told", name := "<init>", desc := "()V" } : Jvm.MethodName) : Cond) ∈ wAll := wAll_of (List.mem_append_right _ (List.mem_of_getElem? (i := 68) (by decide +kernel))) (by decide +kernel)
set_option maxRecDepth 20000 in
theorem qc_69 : (Jvm.Cond.code ({ cls := "SkyStones$Told", name := "<init>", desc := "()V" } : Jvm.MethodName) prog_11_method_1_code (1 : Nat) (Option.none : Option Jvm.ClassFile.FieldType) : Cond) ∈ wAll := wAll_of (List.mem_append_right _ (show _ ∈ tables_1 from List.mem_append_left _ (List.mem_of_getElem? (i := 69) rfl))) rfl
theorem qc_181 : (Jvm.Cond.classLink "SkyStones" (26 : Nat) "SkyStones$Reader" : Cond) ∈ wAll := wAll_of (List.mem_append_right _ (List.mem_of_getElem? (i := 181) (by decide +kernel))) (by decide +kernel)
theorem qc_182 : (Jvm.Cond.instantiable "SkyStones$Reader" (9 : Nat) : Cond) ∈ wAll := wAll_of (List.mem_append_right _ (List.mem_of_getElem? (i := 182) (by decide +kernel))) (by decide +kernel)
theorem qc_183 : (Jvm.Cond.methodLink "SkyStones" (28 : Nat) ({ cls := "SkyStones$Reader", name := "<init>", desc := "(LSkyStones$Tape;LSkyStones$Told;)V" } : Jvm.MethodName) : Cond) ∈ wAll := wAll_of (List.mem_append_right _ (List.mem_of_getElem? (i := 183) (by decide +kernel))) (by decide +kernel)
theorem qc_184 : (Jvm.Cond.instanceMethod ({ cls := "SkyStones$Reader", name := "<init>", desc := "(LSkyStones$Tape;LSkyStones$Told;)V" } : Jvm.MethodName) : Cond) ∈ wAll := wAll_of (List.mem_append_right _ (List.mem_of_getElem? (i := 184) (by decide +kernel))) (by decide +kernel)
set_option maxRecDepth 20000 in
theorem qc_185 : (Jvm.Cond.code ({ cls := "SkyStones$Reader", name := "<init>", desc := "(LSkyStones$Tape;LSkyStones$Told;)V" } : Jvm.MethodName) prog_7_method_1_code (3 : Nat) (Option.none : Option Jvm.ClassFile.FieldType) : Cond) ∈ wAll := wAll_of (List.mem_append_right _ (show _ ∈ tables_1 from List.mem_append_left _ (List.mem_of_getElem? (i := 185) rfl))) rfl
theorem qc_217 : (Jvm.Cond.classLink "SkyStones" (35 : Nat) "SkyStones$Survey" : Cond) ∈ wAll := wAll_of (List.mem_append_right _ (List.mem_of_getElem? (i := 217) (by decide +kernel))) (by decide +kernel)
theorem qc_218 : (Jvm.Cond.instantiable "SkyStones$Survey" (7 : Nat) : Cond) ∈ wAll := wAll_of (List.mem_append_right _ (List.mem_of_getElem? (i := 218) (by decide +kernel))) (by decide +kernel)
theorem qc_220 : (Jvm.Cond.instanceMethod ({ cls := "SkyStones$Survey", name := "<init>", desc := "()V" } : Jvm.MethodName) : Cond) ∈ wAll := wAll_of (List.mem_append_right _ (List.mem_of_getElem? (i := 220) (by decide +kernel))) (by decide +kernel)
set_option maxRecDepth 20000 in
theorem qc_221 : (Jvm.Cond.code ({ cls := "SkyStones$Survey", name := "<init>", desc := "()V" } : Jvm.MethodName) prog_9_method_1_code (1 : Nat) (Option.none : Option Jvm.ClassFile.FieldType) : Cond) ∈ wAll := wAll_of (List.mem_append_right _ (show _ ∈ tables_1 from List.mem_append_left _ (List.mem_of_getElem? (i := 221) rfl))) rfl
theorem qc_256 : (Jvm.Cond.classLink "SkyStones" (50 : Nat) "SkyStones$Ground" : Cond) ∈ wAll := wAll_of (List.mem_append_right _ (List.mem_of_getElem? (i := 256) (by decide +kernel))) (by decide +kernel)
theorem qc_257 : (Jvm.Cond.instantiable "SkyStones$Ground" (11 : Nat) : Cond) ∈ wAll := wAll_of (List.mem_append_right _ (List.mem_of_getElem? (i := 257) (by decide +kernel))) (by decide +kernel)
theorem qc_259 : (Jvm.Cond.instanceMethod ({ cls := "SkyStones$Ground", name := "<init>", desc := "()V" } : Jvm.MethodName) : Cond) ∈ wAll := wAll_of (List.mem_append_right _ (List.mem_of_getElem? (i := 259) (by decide +kernel))) (by decide +kernel)
set_option maxRecDepth 20000 in
theorem qc_260 : (Jvm.Cond.code ({ cls := "SkyStones$Ground", name := "<init>", desc := "()V" } : Jvm.MethodName) prog_4_method_1_code (1 : Nat) (Option.none : Option Jvm.ClassFile.FieldType) : Cond) ∈ wAll := wAll_of (List.mem_append_right _ (show _ ∈ tables_1 from List.mem_append_right _ (List.mem_append_left _ (List.mem_of_getElem? (i := 20) rfl)))) rfl
theorem qc_309 : (Jvm.Cond.classLink "SkyStones" (57 : Nat) "SkyStones$Sky" : Cond) ∈ wAll := wAll_of (List.mem_append_right _ (List.mem_of_getElem? (i := 309) (by decide +kernel))) (by decide +kernel)
theorem qc_310 : (Jvm.Cond.instantiable "SkyStones$Sky" (4 : Nat) : Cond) ∈ wAll := wAll_of (List.mem_append_right _ (List.mem_of_getElem? (i := 310) (by decide +kernel))) (by decide +kernel)
theorem qc_312 : (Jvm.Cond.instanceMethod ({ cls := "SkyStones$Sky", name := "<init>", desc := "()V" } : Jvm.MethodName) : Cond) ∈ wAll := wAll_of (List.mem_append_right _ (List.mem_of_getElem? (i := 312) (by decide +kernel))) (by decide +kernel)
set_option maxRecDepth 20000 in
theorem qc_313 : (Jvm.Cond.code ({ cls := "SkyStones$Sky", name := "<init>", desc := "()V" } : Jvm.MethodName) prog_8_method_1_code (1 : Nat) (Option.none : Option Jvm.ClassFile.FieldType) : Cond) ∈ wAll := wAll_of (List.mem_append_right _ (show _ ∈ tables_1 from List.mem_append_right _ (List.mem_append_left _ (List.mem_of_getElem? (i := 73) rfl)))) rfl
theorem qc_331 : (Jvm.Cond.classLink "SkyStones" (64 : Nat) "SkyStones$Turns" : Cond) ∈ wAll := wAll_of (List.mem_append_right _ (List.mem_of_getElem? (i := 331) (by decide +kernel))) (by decide +kernel)
theorem qc_332 : (Jvm.Cond.instantiable "SkyStones$Turns" (8 : Nat) : Cond) ∈ wAll := wAll_of (List.mem_append_right _ (List.mem_of_getElem? (i := 332) (by decide +kernel))) (by decide +kernel)
theorem qc_334 : (Jvm.Cond.instanceMethod ({ cls := "SkyStones$Turns", name := "<init>", desc := "()V" } : Jvm.MethodName) : Cond) ∈ wAll := wAll_of (List.mem_append_right _ (List.mem_of_getElem? (i := 334) (by decide +kernel))) (by decide +kernel)
set_option maxRecDepth 20000 in
theorem qc_335 : (Jvm.Cond.code ({ cls := "SkyStones$Turns", name := "<init>", desc := "()V" } : Jvm.MethodName) prog_12_method_1_code (1 : Nat) (Option.none : Option Jvm.ClassFile.FieldType) : Cond) ∈ wAll := wAll_of (List.mem_append_right _ (show _ ∈ tables_1 from List.mem_append_right _ (List.mem_append_left _ (List.mem_of_getElem? (i := 95) rfl)))) rfl
theorem qc_364 : (Jvm.Cond.classLink "SkyStones" (71 : Nat) "SkyStones$Pairing" : Cond) ∈ wAll := wAll_of (List.mem_append_right _ (List.mem_of_getElem? (i := 364) (by decide +kernel))) (by decide +kernel)
theorem qc_365 : (Jvm.Cond.instantiable "SkyStones$Pairing" (2 : Nat) : Cond) ∈ wAll := wAll_of (List.mem_append_right _ (List.mem_of_getElem? (i := 365) (by decide +kernel))) (by decide +kernel)
theorem qc_367 : (Jvm.Cond.instanceMethod ({ cls := "SkyStones$Pairing", name := "<init>", desc := "()V" } : Jvm.MethodName) : Cond) ∈ wAll := wAll_of (List.mem_append_right _ (List.mem_of_getElem? (i := 367) (by decide +kernel))) (by decide +kernel)
set_option maxRecDepth 20000 in
theorem qc_368 : (Jvm.Cond.code ({ cls := "SkyStones$Pairing", name := "<init>", desc := "()V" } : Jvm.MethodName) prog_6_method_1_code (1 : Nat) (Option.none : Option Jvm.ClassFile.FieldType) : Cond) ∈ wAll := wAll_of (List.mem_append_right _ (show _ ∈ tables_1 from List.mem_append_right _ (List.mem_append_left _ (List.mem_of_getElem? (i := 128) rfl)))) rfl
theorem qc_377 : (Jvm.Cond.classLink "SkyStones" (78 : Nat) "SkyStones$Maker" : Cond) ∈ wAll := wAll_of (List.mem_append_right _ (List.mem_of_getElem? (i := 377) (by decide +kernel))) (by decide +kernel)
theorem qc_378 : (Jvm.Cond.instantiable "SkyStones$Maker" (2 : Nat) : Cond) ∈ wAll := wAll_of (List.mem_append_right _ (List.mem_of_getElem? (i := 378) (by decide +kernel))) (by decide +kernel)
theorem qc_380 : (Jvm.Cond.instanceMethod ({ cls := "SkyStones$Maker", name := "<init>", desc := "()V" } : Jvm.MethodName) : Cond) ∈ wAll := wAll_of (List.mem_append_right _ (List.mem_of_getElem? (i := 380) (by decide +kernel))) (by decide +kernel)
set_option maxRecDepth 20000 in
theorem qc_381 : (Jvm.Cond.code ({ cls := "SkyStones$Maker", name := "<init>", desc := "()V" } : Jvm.MethodName) prog_5_method_1_code (1 : Nat) (Option.none : Option Jvm.ClassFile.FieldType) : Cond) ∈ wAll := wAll_of (List.mem_append_right _ (show _ ∈ tables_1 from List.mem_append_right _ (List.mem_append_left _ (List.mem_of_getElem? (i := 141) rfl)))) rfl
def CSX11 (S : Shp) (h0 : Nat) (u : (Nat → Nat) × ((Nat → Nat)) × ((Nat → Nat) × ((Nat → Nat))) × ((Nat → Nat) × ((Nat → Nat))) × ((Nat → Nat)) × ((Nat → Nat)) × ((Nat → Nat)) × ((Nat → Nat)) × ((Nat → Nat)) × ((Nat → Nat)) × ((Nat → Nat))) : va_W := (h0, .inr (10, [.ref (u.1 0), .ref (u.1 1), .ref (u.1 2), .ref (u.1 3), .ref (u.1 4), .ref (u.1 5), .ref (u.1 6), .ref (u.1 7), .ref (u.1 8), .ref (u.1 9), .ref (u.1 10), .ref (u.1 11), .int 0, .ref (u.1 12), .ref (u.1 13), .ref (u.1 14)])) :: ((((((((((((((([] ++ CSX8 S (u.1 0) u.2.1) ++ CSX9 S (u.1 1) u.2.2.1) ++ CSX9 S (u.1 2) u.2.2.2.1) ++ CSX5 S (u.1 0) (u.1 2) (u.1 3) u.2.2.2.2.1) ++ CSX7 S (u.1 4) u.2.2.2.2.2.1) ++ [((u.1 5), .inl (sE S 4, 3, .inr (.inr (.inr (.inr (fun _ => none))))))]) ++ [((u.1 6), .inl (sE S 5, 3, .inr (.inr (.inr (.inr (fun _ => none))))))]) ++ CSX2 S (u.1 7) u.2.2.2.2.2.2.1) ++ CSX6 S (u.1 8) u.2.2.2.2.2.2.2.1) ++ CSX10 S (u.1 9) u.2.2.2.2.2.2.2.2.1) ++ CSX4 S (u.1 10) u.2.2.2.2.2.2.2.2.2.1) ++ CSX3 S (u.1 11) u.2.2.2.2.2.2.2.2.2.2) ++ [((u.1 12), .inl (sE S 0, 6, .inl fun _ => 0))]) ++ [((u.1 13), .inl (sE S 0, 6, .inl fun _ => 0))]) ++ [((u.1 14), .inl (sE S 2, 2001, .inl fun _ => 0))])
set_option maxRecDepth 100000 in
set_option maxHeartbeats 4000000 in
theorem ci_X11 {S : Shp} : Ci (U := (Nat → Nat) × ((Nat → Nat)) × ((Nat → Nat) × ((Nat → Nat))) × ((Nat → Nat) × ((Nat → Nat))) × ((Nat → Nat)) × ((Nat → Nat)) × ((Nat → Nat)) × ((Nat → Nat)) × ((Nat → Nat)) × ((Nat → Nat)) × ((Nat → Nat))) m_X11_init S 10 zsX11 [] (CSX11 S) 80 12912 := by
  refine Ci.of (by decide +kernel) (fun h0 => (Nat.le_of_ble_eq_true rfl)) rfl (fun p l e s m args below meth c h0 ls X hin hr hlk hl W0 => ?_)
  have hA : ∀ q, s.heap.size ≤ q → va_A [(h0, .inr (10, zsX11))] s.heap.size q := fun q h => Or.inr h
  refine lv_aload_n X.1 X.2.1 dX11_init_0 rfl (lv_at hl 0 rfl) ?_
  refine nw_obj X qc_26 hl.1 (Nat.le_of_ble_eq_true rfl) (Nat.le_of_ble_eq_true rfl) dX11_init_1 ?_
  refine lv_aload_n X.1 X.2.1 dX11_init_4 rfl (lv_at hl 0 rfl) ?_
  refine nw_new (ci := 7) (fs := zsX8) X hA qi_8 tyX8_ok qc_29 qc_30 qw_2 rfl zsX8_ok (Nat.le_of_ble_eq_true rfl) (Nat.le_of_ble_eq_true rfl) W0 dX11_init_5 (fun q1 H1 W1 => ?_)
  refine lv_dup X.1 X.2.1 dX11_init_8 rfl ?_
  refine nw_callN (As := []) (rest := [.ref q1, .ref h0]) X hA ci_X8 (List.mem_of_getElem? (i := 0) rfl) qc_32 qw_2 qc_33 oy_X8_init rfl ⟨(Nat.le_of_ble_eq_true rfl), (Nat.le_of_ble_eq_true rfl)⟩ ⟨(Nat.le_of_ble_eq_true rfl), (Nat.le_of_ble_eq_true rfl)⟩ rfl (Nat.le_of_ble_eq_true rfl) rfl hl.1 W1 dX11_init_9 (fun u2 H2 L2 W2 => ?_)
  refine nw_putF (k := 0) X qi_11 tyX11_ok nmX11 rfl (by decide) qw_392 rfl hin rfl (tyX11_ok 0 (by decide)) rfl rfl rfl W2 dX11_init_12 (fun H3 L3 W3 n3 => ?_)
  refine lv_aload_n X.1 X.2.1 dX11_init_15 rfl (lv_at hl 0 rfl) ?_
  refine nw_new (ci := 8) (fs := zsX9) X hA qi_9 tyX9_ok qc_65 qc_66 qw_3 rfl zsX9_ok (Nat.le_of_ble_eq_true rfl) (Nat.le_of_ble_eq_true rfl) W3 dX11_init_16 (fun q4 H4 W4 => ?_)
  refine lv_dup X.1 X.2.1 dX11_init_19 rfl ?_
  refine nw_callN (As := []) (rest := [.ref q4, .ref h0]) X hA ci_X9 (List.mem_of_getElem? (i := 1) rfl) qc_68 qw_3 qc_69 oy_X9_init rfl ⟨(Nat.le_of_ble_eq_true rfl), (Nat.le_of_ble_eq_true rfl)⟩ ⟨(Nat.le_of_ble_eq_true rfl), (Nat.le_of_ble_eq_true rfl)⟩ rfl (Nat.le_of_ble_eq_true rfl) rfl hl.1 W4 dX11_init_20 (fun u5 H5 L5 W5 => ?_)
  refine nw_put (k := 1) X qi_11 tyX11_ok nmX11 rfl (by decide) qw_393 rfl (tyX11_ok 1 (by decide)) rfl rfl n3 W5 dX11_init_23 (fun H6 L6 W6 n6 => ?_)
  refine lv_aload_n X.1 X.2.1 dX11_init_26 rfl (lv_at hl 0 rfl) ?_
  refine nw_new (ci := 8) (fs := zsX9) X hA qi_9 tyX9_ok qc_65 qc_66 qw_3 rfl zsX9_ok (Nat.le_of_ble_eq_true rfl) (Nat.le_of_ble_eq_true rfl) W6 dX11_init_27 (fun q7 H7 W7 => ?_)
  refine lv_dup X.1 X.2.1 dX11_init_30 rfl ?_
  refine nw_callN (As := []) (rest := [.ref q7, .ref h0]) X hA ci_X9 (List.mem_of_getElem? (i := 1) rfl) qc_68 qw_3 qc_69 oy_X9_init rfl ⟨(Nat.le_of_ble_eq_true rfl), (Nat.le_of_ble_eq_true rfl)⟩ ⟨(Nat.le_of_ble_eq_true rfl), (Nat.le_of_ble_eq_true rfl)⟩ rfl (Nat.le_of_ble_eq_true rfl) rfl hl.1 W7 dX11_init_31 (fun u8 H8 L8 W8 => ?_)
  refine nw_put (k := 2) X qi_11 tyX11_ok nmX11 rfl (by decide) qw_394 rfl (tyX11_ok 2 (by decide)) rfl rfl n6 W8 dX11_init_34 (fun H9 L9 W9 n9 => ?_)
  refine lv_aload_n X.1 X.2.1 dX11_init_37 rfl (lv_at hl 0 rfl) ?_
  refine nw_new (ci := 4) (fs := zsX5) X hA qi_5 tyX5_ok qc_181 qc_182 qw_5 rfl zsX5_ok (Nat.le_of_ble_eq_true rfl) (Nat.le_of_ble_eq_true rfl) W9 dX11_init_38 (fun q10 H10 W10 => ?_)
  refine lv_dup X.1 X.2.1 dX11_init_41 rfl ?_
  refine lv_aload_n X.1 X.2.1 dX11_init_42 rfl (lv_at hl 0 rfl) ?_
  refine nw_get (k := 0) (v := .ref q1) X qi_11 rfl (by decide) qw_392 rfl W10 dX11_init_43 ?_
  refine lv_aload_n X.1 X.2.1 dX11_init_46 rfl (lv_at hl 0 rfl) ?_
  refine nw_get (k := 2) (v := .ref q7) X qi_11 rfl (by decide) qw_394 rfl W10 dX11_init_47 ?_
  refine nw_callI (As := [.ref q1, .ref q7]) (rest := [.ref q10, .ref h0]) X hA ci_X5 qc_183 qc_184 qw_5 qc_185 oy_X5_init rfl ⟨(Nat.le_of_ble_eq_true rfl), (Nat.le_of_ble_eq_true rfl)⟩ ⟨(Nat.le_of_ble_eq_true rfl), (Nat.le_of_ble_eq_true rfl)⟩ rfl (Nat.le_of_ble_eq_true rfl) rfl hl.1 W10 dX11_init_50 (fun u11 H11 L11 W11 => ?_)
  refine nw_putF (k := 3) X qi_11 tyX11_ok nmX11 rfl (by decide) qw_395 rfl hin rfl (tyX11_ok 3 (by decide)) rfl rfl n9 W11 dX11_init_53 (fun H12 L12 W12 n12 => ?_)
  refine lv_aload_n X.1 X.2.1 dX11_init_56 rfl (lv_at hl 0 rfl) ?_
  refine nw_new (ci := 6) (fs := zsX7) X hA qi_7 tyX7_ok qc_217 qc_218 qw_6 rfl zsX7_ok (Nat.le_of_ble_eq_true rfl) (Nat.le_of_ble_eq_true rfl) W12 dX11_init_57 (fun q13 H13 W13 => ?_)
  refine lv_dup X.1 X.2.1 dX11_init_60 rfl ?_
  refine nw_callN (As := []) (rest := [.ref q13, .ref h0]) X hA ci_X7 (List.mem_of_getElem? (i := 3) rfl) qc_220 qw_6 qc_221 oy_X7_init rfl ⟨(Nat.le_of_ble_eq_true rfl), (Nat.le_of_ble_eq_true rfl)⟩ ⟨(Nat.le_of_ble_eq_true rfl), (Nat.le_of_ble_eq_true rfl)⟩ rfl (Nat.le_of_ble_eq_true rfl) rfl hl.1 W13 dX11_init_61 (fun u14 H14 L14 W14 => ?_)
  refine nw_putF (k := 4) X qi_11 tyX11_ok nmX11 rfl (by decide) qw_396 rfl hin rfl (tyX11_ok 4 (by decide)) rfl rfl n12 W14 dX11_init_64 (fun H15 L15 W15 n15 => ?_)
  refine lv_aload_n X.1 X.2.1 dX11_init_67 rfl (lv_at hl 0 rfl) ?_
  refine lv_iconst (v := 3) X.1 X.2.1 dX11_init_68 (by decide) ?_
  refine nw_newq (N' := 3) 4 X hA qc_65 X.2.2.2.2.2.2.2.2.1 rfl (by decide) (by decide) (Nat.le_of_ble_eq_true rfl) (Nat.le_of_ble_eq_true rfl) (Nat.le_of_ble_eq_true rfl) W15 dX11_init_69 (fun q16 H16 W16 => ?_)
  refine nw_putF (k := 5) X qi_11 tyX11_ok nmX11 rfl (by decide) qw_397 rfl hin rfl (tyX11_ok 5 (by decide)) rfl rfl n15 W16 dX11_init_72 (fun H17 L17 W17 n17 => ?_)
  refine lv_aload_n X.1 X.2.1 dX11_init_75 rfl (lv_at hl 0 rfl) ?_
  refine lv_iconst (v := 3) X.1 X.2.1 dX11_init_76 (by decide) ?_
  refine nw_newq (N' := 3) 5 X hA qc_217 X.2.2.2.2.2.2.2.2.2 rfl (by decide) (by decide) (Nat.le_of_ble_eq_true rfl) (Nat.le_of_ble_eq_true rfl) (Nat.le_of_ble_eq_true rfl) W17 dX11_init_77 (fun q18 H18 W18 => ?_)
  refine nw_putF (k := 6) X qi_11 tyX11_ok nmX11 rfl (by decide) qw_398 rfl hin rfl (tyX11_ok 6 (by decide)) rfl rfl n17 W18 dX11_init_80 (fun H19 L19 W19 n19 => ?_)
  refine lv_aload_n X.1 X.2.1 dX11_init_83 rfl (lv_at hl 0 rfl) ?_
  refine nw_new (ci := 1) (fs := zsX2) X hA qi_2 tyX2_ok qc_256 qc_257 qw_7 rfl zsX2_ok (Nat.le_of_ble_eq_true rfl) (Nat.le_of_ble_eq_true rfl) W19 dX11_init_84 (fun q20 H20 W20 => ?_)
  refine lv_dup X.1 X.2.1 dX11_init_87 rfl ?_
  refine nw_callN (As := []) (rest := [.ref q20, .ref h0]) X hA ci_X2 (List.mem_of_getElem? (i := 4) rfl) qc_259 qw_7 qc_260 oy_X2_init rfl ⟨(Nat.le_of_ble_eq_true rfl), (Nat.le_of_ble_eq_true rfl)⟩ ⟨(Nat.le_of_ble_eq_true rfl), (Nat.le_of_ble_eq_true rfl)⟩ rfl (Nat.le_of_ble_eq_true rfl) rfl hl.1 W20 dX11_init_88 (fun u21 H21 L21 W21 => ?_)
  refine nw_putF (k := 7) X qi_11 tyX11_ok nmX11 rfl (by decide) qw_399 rfl hin rfl (tyX11_ok 7 (by decide)) rfl rfl n19 W21 dX11_init_91 (fun H22 L22 W22 n22 => ?_)
  refine lv_aload_n X.1 X.2.1 dX11_init_94 rfl (lv_at hl 0 rfl) ?_
  refine nw_new (ci := 5) (fs := zsX6) X hA qi_6 tyX6_ok qc_309 qc_310 qw_8 rfl zsX6_ok (Nat.le_of_ble_eq_true rfl) (Nat.le_of_ble_eq_true rfl) W22 dX11_init_95 (fun q23 H23 W23 => ?_)
  refine lv_dup X.1 X.2.1 dX11_init_98 rfl ?_
  refine nw_callN (As := []) (rest := [.ref q23, .ref h0]) X hA ci_X6 (List.mem_of_getElem? (i := 5) rfl) qc_312 qw_8 qc_313 oy_X6_init rfl ⟨(Nat.le_of_ble_eq_true rfl), (Nat.le_of_ble_eq_true rfl)⟩ ⟨(Nat.le_of_ble_eq_true rfl), (Nat.le_of_ble_eq_true rfl)⟩ rfl (Nat.le_of_ble_eq_true rfl) rfl hl.1 W23 dX11_init_99 (fun u24 H24 L24 W24 => ?_)
  refine nw_putF (k := 8) X qi_11 tyX11_ok nmX11 rfl (by decide) qw_400 rfl hin rfl (tyX11_ok 8 (by decide)) rfl rfl n22 W24 dX11_init_102 (fun H25 L25 W25 n25 => ?_)
  refine lv_aload_n X.1 X.2.1 dX11_init_105 rfl (lv_at hl 0 rfl) ?_
  refine nw_new (ci := 9) (fs := zsX10) X hA qi_10 tyX10_ok qc_331 qc_332 qw_9 rfl zsX10_ok (Nat.le_of_ble_eq_true rfl) (Nat.le_of_ble_eq_true rfl) W25 dX11_init_106 (fun q26 H26 W26 => ?_)
  refine lv_dup X.1 X.2.1 dX11_init_109 rfl ?_
  refine nw_callN (As := []) (rest := [.ref q26, .ref h0]) X hA ci_X10 (List.mem_of_getElem? (i := 6) rfl) qc_334 qw_9 qc_335 oy_X10_init rfl ⟨(Nat.le_of_ble_eq_true rfl), (Nat.le_of_ble_eq_true rfl)⟩ ⟨(Nat.le_of_ble_eq_true rfl), (Nat.le_of_ble_eq_true rfl)⟩ rfl (Nat.le_of_ble_eq_true rfl) rfl hl.1 W26 dX11_init_110 (fun u27 H27 L27 W27 => ?_)
  refine nw_putF (k := 9) X qi_11 tyX11_ok nmX11 rfl (by decide) qw_401 rfl hin rfl (tyX11_ok 9 (by decide)) rfl rfl n25 W27 dX11_init_113 (fun H28 L28 W28 n28 => ?_)
  refine lv_aload_n X.1 X.2.1 dX11_init_116 rfl (lv_at hl 0 rfl) ?_
  refine nw_new (ci := 3) (fs := zsX4) X hA qi_4 tyX4_ok qc_364 qc_365 qw_10 rfl zsX4_ok (Nat.le_of_ble_eq_true rfl) (Nat.le_of_ble_eq_true rfl) W28 dX11_init_117 (fun q29 H29 W29 => ?_)
  refine lv_dup X.1 X.2.1 dX11_init_120 rfl ?_
  refine nw_callN (As := []) (rest := [.ref q29, .ref h0]) X hA ci_X4 (List.mem_of_getElem? (i := 7) rfl) qc_367 qw_10 qc_368 oy_X4_init rfl ⟨(Nat.le_of_ble_eq_true rfl), (Nat.le_of_ble_eq_true rfl)⟩ ⟨(Nat.le_of_ble_eq_true rfl), (Nat.le_of_ble_eq_true rfl)⟩ rfl (Nat.le_of_ble_eq_true rfl) rfl hl.1 W29 dX11_init_121 (fun u30 H30 L30 W30 => ?_)
  refine nw_putF (k := 10) X qi_11 tyX11_ok nmX11 rfl (by decide) qw_402 rfl hin rfl (tyX11_ok 10 (by decide)) rfl rfl n28 W30 dX11_init_124 (fun H31 L31 W31 n31 => ?_)
  refine lv_aload_n X.1 X.2.1 dX11_init_127 rfl (lv_at hl 0 rfl) ?_
  refine nw_new (ci := 2) (fs := zsX3) X hA qi_3 tyX3_ok qc_377 qc_378 qw_11 rfl zsX3_ok (Nat.le_of_ble_eq_true rfl) (Nat.le_of_ble_eq_true rfl) W31 dX11_init_128 (fun q32 H32 W32 => ?_)
  refine lv_dup X.1 X.2.1 dX11_init_131 rfl ?_
  refine nw_callN (As := []) (rest := [.ref q32, .ref h0]) X hA ci_X3 (List.mem_of_getElem? (i := 8) rfl) qc_380 qw_11 qc_381 oy_X3_init rfl ⟨(Nat.le_of_ble_eq_true rfl), (Nat.le_of_ble_eq_true rfl)⟩ ⟨(Nat.le_of_ble_eq_true rfl), (Nat.le_of_ble_eq_true rfl)⟩ rfl (Nat.le_of_ble_eq_true rfl) rfl hl.1 W32 dX11_init_132 (fun u33 H33 L33 W33 => ?_)
  refine nw_putF (k := 11) X qi_11 tyX11_ok nmX11 rfl (by decide) qw_403 rfl hin rfl (tyX11_ok 11 (by decide)) rfl rfl n31 W33 dX11_init_135 (fun H34 L34 W34 n34 => ?_)
  refine lv_aload_n X.1 X.2.1 dX11_init_138 rfl (lv_at hl 0 rfl) ?_
  refine lv_iconst (v := 0) X.1 X.2.1 dX11_init_139 (by decide) ?_
  refine nw_put (k := 12) X qi_11 tyX11_ok nmX11 rfl (by decide) qw_404 rfl (tyX11_ok 12 (by decide)) rfl rfl n34 W34 dX11_init_140 (fun H35 L35 W35 n35 => ?_)
  refine lv_aload_n X.1 X.2.1 dX11_init_143 rfl (lv_at hl 0 rfl) ?_
  refine lv_bipush (v := 6) X.1 X.2.1 dX11_init_144 (by decide) ?_
  refine nw_newa (atype := .int) (ty := .int) (N' := 6) (a0 := (6, .inl fun _ => 0)) 0 X hA qc_63 rfl rfl (fun _ => rfl) (by decide) (by decide) (Nat.le_of_ble_eq_true rfl) (Nat.le_of_ble_eq_true rfl) (Nat.le_of_ble_eq_true rfl) W35 dX11_init_146 (fun q36 H36 W36 => ?_)
  refine nw_putF (k := 13) X qi_11 tyX11_ok nmX11 rfl (by decide) qw_405 rfl hin rfl (tyX11_ok 13 (by decide)) rfl rfl n35 W36 dX11_init_148 (fun H37 L37 W37 n37 => ?_)
  refine lv_aload_n X.1 X.2.1 dX11_init_151 rfl (lv_at hl 0 rfl) ?_
  refine lv_bipush (v := 6) X.1 X.2.1 dX11_init_152 (by decide) ?_
  refine nw_newa (atype := .int) (ty := .int) (N' := 6) (a0 := (6, .inl fun _ => 0)) 0 X hA qc_63 rfl rfl (fun _ => rfl) (by decide) (by decide) (Nat.le_of_ble_eq_true rfl) (Nat.le_of_ble_eq_true rfl) (Nat.le_of_ble_eq_true rfl) W37 dX11_init_154 (fun q38 H38 W38 => ?_)
  refine nw_putF (k := 14) X qi_11 tyX11_ok nmX11 rfl (by decide) qw_406 rfl hin rfl (tyX11_ok 14 (by decide)) rfl rfl n37 W38 dX11_init_156 (fun H39 L39 W39 n39 => ?_)
  refine lv_aload_n X.1 X.2.1 dX11_init_159 rfl (lv_at hl 0 rfl) ?_
  refine lv_sipush (v := 2001) X.1 X.2.1 dX11_init_160 (by decide) ?_
  refine nw_newa (atype := .boolean) (ty := .boolean) (N' := 2001) (a0 := (2001, .inl fun _ => 0)) 2 X hA qc_308 rfl rfl (fun _ => rfl) (by decide) (by decide) (Nat.le_of_ble_eq_true rfl) (Nat.le_of_ble_eq_true rfl) (Nat.le_of_ble_eq_true rfl) W39 dX11_init_163 (fun q40 H40 W40 => ?_)
  refine nw_putF (k := 15) X qi_11 tyX11_ok nmX11 rfl (by decide) qw_407 rfl hin rfl (tyX11_ok 15 (by decide)) rfl rfl n39 W40 dX11_init_165 (fun H41 L41 W41 n41 => ?_)
  exact nw_ret (U := (Nat → Nat) × ((Nat → Nat)) × ((Nat → Nat) × ((Nat → Nat))) × ((Nat → Nat) × ((Nat → Nat))) × ((Nat → Nat)) × ((Nat → Nat)) × ((Nat → Nat)) × ((Nat → Nat)) × ((Nat → Nat)) × ((Nat → Nat)) × ((Nat → Nat))) (CS := CSX11 S) (fun n => ([q1, q4, q7, q10, q13, q16, q18, q20, q23, q26, q29, q32, q36, q38, q40] : List Nat).getD n 0, u2, u5, u8, u11, u14, u21, u24, u27, u30, u33) X hr hlk (Nat.le_of_ble_eq_true rfl) (Nat.le_of_ble_eq_true rfl) W41 dX11_init_168
