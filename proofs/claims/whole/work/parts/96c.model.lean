/-! the model's constructor up to its begin, in pieces. By program. -/
abbrev m_X12_init : Mt := (yX12_init, cX12_init, 1, none, 1)
theorem oy_X12_init : okY yX12_init 0 := ⟨by decide, by decide, by decide +kernel⟩
def zsX12 : List Value := [.int 0, .null, .int 0, .null, .null, .null, .null, .int 0, .int 0, .int 0, .int 0, .int 0, .null, .null, .null, .null, .null, .null, .null, .null, .null, .null, .null, .null, .null, .null, .null, .null, .null, .null, .null, .null, .null, .null, .null, .null, .null, .null, .null, .null, .null, .null, .null, .null, .null, .null, .null, .null, .null, .int 0, .null, .null, .int 0, .null, .null, .int 0, .int 0, .null, .int 0, .int 0, .null, .null, .null, .null, .null, .null, .null, .null, .null, .int 0, .null, .null, .null, .null, .null, .null, .null, .null, .null, .null, .null]
theorem zsX12_ok : ∀ j, j < 81 → defaultValue (tyX12 j) = vp_V zsX12 j := by
  intro j hj
  match j, hj with
  | 0, _ => rfl
  | 1, _ => rfl
  | 2, _ => rfl
  | 3, _ => rfl
  | 4, _ => rfl
  | 5, _ => rfl
  | 6, _ => rfl
  | 7, _ => rfl
  | 8, _ => rfl
  | 9, _ => rfl
  | 10, _ => rfl
  | 11, _ => rfl
  | 12, _ => rfl
  | 13, _ => rfl
  | 14, _ => rfl
  | 15, _ => rfl
  | 16, _ => rfl
  | 17, _ => rfl
  | 18, _ => rfl
  | 19, _ => rfl
  | 20, _ => rfl
  | 21, _ => rfl
  | 22, _ => rfl
  | 23, _ => rfl
  | 24, _ => rfl
  | 25, _ => rfl
  | 26, _ => rfl
  | 27, _ => rfl
  | 28, _ => rfl
  | 29, _ => rfl
  | 30, _ => rfl
  | 31, _ => rfl
  | 32, _ => rfl
  | 33, _ => rfl
  | 34, _ => rfl
  | 35, _ => rfl
  | 36, _ => rfl
  | 37, _ => rfl
  | 38, _ => rfl
  | 39, _ => rfl
  | 40, _ => rfl
  | 41, _ => rfl
  | 42, _ => rfl
  | 43, _ => rfl
  | 44, _ => rfl
  | 45, _ => rfl
  | 46, _ => rfl
  | 47, _ => rfl
  | 48, _ => rfl
  | 49, _ => rfl
  | 50, _ => rfl
  | 51, _ => rfl
  | 52, _ => rfl
  | 53, _ => rfl
  | 54, _ => rfl
  | 55, _ => rfl
  | 56, _ => rfl
  | 57, _ => rfl
  | 58, _ => rfl
  | 59, _ => rfl
  | 60, _ => rfl
  | 61, _ => rfl
  | 62, _ => rfl
  | 63, _ => rfl
  | 64, _ => rfl
  | 65, _ => rfl
  | 66, _ => rfl
  | 67, _ => rfl
  | 68, _ => rfl
  | 69, _ => rfl
  | 70, _ => rfl
  | 71, _ => rfl
  | 72, _ => rfl
  | 73, _ => rfl
  | 74, _ => rfl
  | 75, _ => rfl
  | 76, _ => rfl
  | 77, _ => rfl
  | 78, _ => rfl
  | 79, _ => rfl
  | 80, _ => rfl
  | j + 81, hj => exact absurd hj (by omega)
theorem qc_1128 : (Jvm.Cond.methodLink "SkyStonesModel" (1 : Nat) ({ cls := "java/lang/Object", name := "<init>", desc := "()V" } : Jvm.MethodName) : Cond) ∈ wAll := wAll_of (List.mem_append_right _ (List.mem_of_getElem? (i := 1128) (by decide +kernel))) (by decide +kernel)
theorem qc_1129 : (Jvm.Cond.constant "SkyStonesModel" (205 : Nat) (70560 : Int32) : Cond) ∈ wAll := wAll_of (List.mem_append_right _ (List.mem_of_getElem? (i := 1129) (by decide +kernel))) (by decide +kernel)
def CSX12 (S : Shp) (h0 : Nat) (u : (Nat → Nat)) : va_W := (h0, .inr (11, [.int 0, .ref (u 0), .int 0, .ref (u 1), .ref (u 2), .ref (u 3), .ref (u 4), .int 0, .int 0, .int (-1), .int 0, .int 0, .ref (u 5), .ref (u 6), .ref (u 7), .ref (u 8), .ref (u 9), .ref (u 10), .ref (u 11), .ref (u 12), .ref (u 13), .ref (u 14), .ref (u 15), .ref (u 16), .ref (u 17), .ref (u 18), .ref (u 19), .ref (u 20), .ref (u 21), .ref (u 22), .ref (u 23), .ref (u 24), .ref (u 25), .ref (u 26), .ref (u 27), .ref (u 28), .ref (u 29), .ref (u 30), .ref (u 31), .ref (u 32), .ref (u 33), .ref (u 34), .ref (u 35), .ref (u 36), .ref (u 37), .ref (u 38), .ref (u 39), .ref (u 40), .ref (u 41), .int 0, .ref (u 42), .ref (u 43), .int 0, .ref (u 44), .ref (u 45), .int 0, .int 0, .ref (u 46), .int 0, .int 0, .ref (u 47), .ref (u 48), .ref (u 49), .ref (u 50), .ref (u 51), .ref (u 52), .ref (u 53), .ref (u 54), .ref (u 55), .int 0, .ref (u 56), .ref (u 57), .ref (u 58), .ref (u 59), .ref (u 60), .ref (u 61), .ref (u 62), .ref (u 63), .ref (u 64), .ref (u 65), .ref (u 66)])) :: ((((((((((((((((((((((((((((((((((((((((((((((((((((((((((((((((((([] ++ [((u 0), .inl (sE S 0, 2000, .inl fun _ => 0))]) ++ [((u 1), .inl (sE S 0, 2001, .inl fun _ => 0))]) ++ [((u 2), .inl (sE S 0, 2001, .inl fun _ => 0))]) ++ [((u 3), .inl (sE S 0, 2001, .inl fun _ => 0))]) ++ [((u 4), .inl (sE S 3, 2001, .inr (.inl fun _ => 0)))]) ++ [((u 5), .inl (sE S 2, 5, .inl fun _ => 0))]) ++ [((u 6), .inl (sE S 0, 5, .inl fun _ => 0))]) ++ [((u 7), .inl (sE S 0, 5, .inl fun _ => 0))]) ++ [((u 8), .inl (sE S 2, 70, .inl fun _ => 0))]) ++ [((u 9), .inl (sE S 0, 70, .inl fun _ => 0))]) ++ [((u 10), .inl (sE S 0, 70, .inl fun _ => 0))]) ++ [((u 11), .inl (sE S 0, 70, .inl fun _ => 0))]) ++ [((u 12), .inl (sE S 0, 70, .inl fun _ => 0))]) ++ [((u 13), .inl (sE S 0, 5, .inl fun _ => 0))]) ++ [((u 14), .inl (sE S 0, 40, .inl fun _ => 0))]) ++ [((u 15), .inl (sE S 0, 40, .inl fun _ => 0))]) ++ [((u 16), .inl (sE S 0, 5, .inl fun _ => 0))]) ++ [((u 17), .inl (sE S 0, 60, .inl fun _ => 0))]) ++ [((u 18), .inl (sE S 0, 60, .inl fun _ => 0))]) ++ [((u 19), .inl (sE S 0, 60, .inl fun _ => 0))]) ++ [((u 20), .inl (sE S 0, 5, .inl fun _ => 0))]) ++ [((u 21), .inl (sE S 0, 25, .inl fun _ => 0))]) ++ [((u 22), .inl (sE S 0, 25, .inl fun _ => 0))]) ++ [((u 23), .inl (sE S 0, 25, .inl fun _ => 0))]) ++ [((u 24), .inl (sE S 0, 5, .inl fun _ => 0))]) ++ [((u 25), .inl (sE S 0, 30, .inl fun _ => 0))]) ++ [((u 26), .inl (sE S 0, 30, .inl fun _ => 0))]) ++ [((u 27), .inl (sE S 0, 5, .inl fun _ => 0))]) ++ [((u 28), .inl (sE S 0, 2500, .inl fun _ => 0))]) ++ [((u 29), .inl (sE S 0, 2500, .inl fun _ => 0))]) ++ [((u 30), .inl (sE S 0, 5, .inl fun _ => 0))]) ++ [((u 31), .inl (sE S 2, 1000, .inl fun _ => 0))]) ++ [((u 32), .inl (sE S 0, 1000, .inl fun _ => 0))]) ++ [((u 33), .inl (sE S 0, 1000, .inl fun _ => 0))]) ++ [((u 34), .inl (sE S 0, 1000, .inl fun _ => 0))]) ++ [((u 35), .inl (sE S 0, 1000, .inl fun _ => 0))]) ++ [((u 36), .inl (sE S 0, 1000, .inl fun _ => 0))]) ++ [((u 37), .inl (sE S 0, 5, .inl fun _ => 0))]) ++ [((u 38), .inl (sE S 0, 300, .inl fun _ => 0))]) ++ [((u 39), .inl (sE S 0, 300, .inl fun _ => 0))]) ++ [((u 40), .inl (sE S 0, 300, .inl fun _ => 0))]) ++ [((u 41), .inl (sE S 0, 300, .inl fun _ => 0))]) ++ [((u 42), .inl (sE S 3, 20, .inr (.inl fun _ => 0)))]) ++ [((u 43), .inl (sE S 0, 20, .inl fun _ => 0))]) ++ [((u 44), .inl (sE S 0, 6, .inl fun _ => 0))]) ++ [((u 45), .inl (sE S 0, 6, .inl fun _ => 0))]) ++ [((u 46), .inl (sE S 0, 500, .inl fun _ => 0))]) ++ [((u 47), .inl (sE S 0, 14, .inl fun _ => 0))]) ++ [((u 48), .inl (sE S 0, 14, .inl fun _ => 0))]) ++ [((u 49), .inl (sE S 0, 14, .inl fun _ => 0))]) ++ [((u 50), .inl (sE S 2, 14, .inl fun _ => 0))]) ++ [((u 51), .inl (sE S 2, 196, .inl fun _ => 0))]) ++ [((u 52), .inl (sE S 0, 196, .inl fun _ => 0))]) ++ [((u 53), .inl (sE S 0, 196, .inl fun _ => 0))]) ++ [((u 54), .inl (sE S 2, 196, .inl fun _ => 0))]) ++ [((u 55), .inl (sE S 0, 9, .inl fun _ => 0))]) ++ [((u 56), .inl (sE S 0, 500, .inl fun _ => 0))]) ++ [((u 57), .inl (sE S 0, 5, .inl fun _ => 0))]) ++ [((u 58), .inl (sE S 0, 16384, .inl fun _ => 0))]) ++ [((u 59), .inl (sE S 0, 14, .inl fun _ => 0))]) ++ [((u 60), .inl (sE S 0, 360, .inl fun _ => 0))]) ++ [((u 61), .inl (sE S 0, 360, .inl fun _ => 0))]) ++ [((u 62), .inl (sE S 0, 200, .inl fun _ => 0))]) ++ [((u 63), .inl (sE S 0, 70560, .inl fun _ => 0))]) ++ [((u 64), .inl (sE S 2, 196, .inl fun _ => 0))]) ++ [((u 65), .inl (sE S 0, 14, .inl fun _ => 0))]) ++ [((u 66), .inl (sE S 0, 14, .inl fun _ => 0))])
theorem set_app {α : Type} {P L : List α} {n : Nat} {v : α} (hP : P.length = n) (k j : Nat) (hk : k = n + j) : (P ++ L).set k v = P ++ L.set j v := by
  subst hk
  rw [List.set_append_right _ _ (by omega)]
  congr 1
  rw [hP, Nat.add_sub_cancel_left]
set_option maxRecDepth 100000 in
set_option maxHeartbeats 1000000 in
theorem mk_X12_0 {S : Shp} {p : Program} {l : Launch} {e : Env} {s : State} {m : MethodId} {args : Array Value} {below : List Frame} {meth : Method} {c : Code} {h0 : Nat} {ls : Array Slot} {A : Nat → Prop} {Q : State → Prop} {H : Heap} {locs : List Loc} {P : List Value} {cs : va_W} (hA : ∀ q, s.heap.size ≤ q → A q) (X : Cg (my m_X12_init).cls (mb m_X12_init) (mn m_X12_init) (wI m_X12_init) S p s m args c) (hin : meth.name = "<init>") (hl : lv_has ls 1 [(0, .ref h0)]) (hP : P.length = 0) (W0 : Wd S A s.heap H locs ((h0, .inr (11, P ++ ([.int 0, .null, .int 0, .null, .null, .null, .null, .int 0, .int 0, .int 0, .int 0, .int 0, .null, .null, .null, .null, .null, .null, .null, .null, .null, .null, .null, .null, .null, .null, .null, .null, .null, .null, .null, .null, .null, .null, .null, .null, .null, .null, .null, .null, .null, .null, .null, .null, .null, .null, .null, .null, .null, .int 0, .null, .null, .int 0, .null, .null, .int 0, .int 0, .null, .int 0, .int 0, .null, .null, .null, .null, .null, .null, .null, .null, .null, .int 0, .null, .null, .null, .null, .null, .null, .null, .null, .null, .null, .null] : List Value))) :: cs))
    (kk : ∀ (q1 q2 q3 q4 q5 : Nat) (H1 : Heap) (L1 : List Loc), Wd S A s.heap H1 L1 ((h0, .inr (11, (P ++ ([.int 0, .ref q1, .int 0, .ref q2, .ref q3, .ref q4, .ref q5, .int 0, .int 0, .int (-1)] : List Value)) ++ ([.int 0, .int 0, .null, .null, .null, .null, .null, .null, .null, .null, .null, .null, .null, .null, .null, .null, .null, .null, .null, .null, .null, .null, .null, .null, .null, .null, .null, .null, .null, .null, .null, .null, .null, .null, .null, .null, .null, .null, .null, .int 0, .null, .null, .int 0, .null, .null, .int 0, .int 0, .null, .int 0, .int 0, .null, .null, .null, .null, .null, .null, .null, .null, .null, .int 0, .null, .null, .null, .null, .null, .null, .null, .null, .null, .null, .null] : List Value))) :: (((((cs ++ [(q1, .inl (sE S 0, 2000, .inl fun _ => 0))]) ++ [(q2, .inl (sE S 0, 2001, .inl fun _ => 0))]) ++ [(q3, .inl (sE S 0, 2001, .inl fun _ => 0))]) ++ [(q4, .inl (sE S 0, 2001, .inl fun _ => 0))]) ++ [(q5, .inl (sE S 3, 2001, .inr (.inl fun _ => 0)))])) → W p l e (rI m_X12_init 67 113007) s m args below meth c H1 L1 5 10004 Q (F0 m 54 ls [])) : W p l e (rI m_X12_init 67 113007) s m args below meth c H locs 0 0 Q (F0 m 4 ls []) := by
  have n0 : (P ++ ([.int 0, .null, .int 0, .null, .null, .null, .null, .int 0, .int 0, .int 0, .int 0, .int 0, .null, .null, .null, .null, .null, .null, .null, .null, .null, .null, .null, .null, .null, .null, .null, .null, .null, .null, .null, .null, .null, .null, .null, .null, .null, .null, .null, .null, .null, .null, .null, .null, .null, .null, .null, .null, .null, .int 0, .null, .null, .int 0, .null, .null, .int 0, .int 0, .null, .int 0, .int 0, .null, .null, .null, .null, .null, .null, .null, .null, .null, .int 0, .null, .null, .null, .null, .null, .null, .null, .null, .null, .null, .null] : List Value)).length = 81 := by rw [List.length_append, hP]; rfl
  refine lv_aload_n X.1 X.2.1 dX12_init_4 rfl (lv_at hl 0 rfl) ?_
  refine lv_sipush (v := 2000) X.1 X.2.1 dX12_init_5 (by decide) ?_
  refine nw_newa (atype := .int) (ty := .int) (N' := 2000) (a0 := (2000, .inl fun _ => 0)) 0 X hA qc_63 rfl rfl (fun _ => rfl) (by decide) (by decide) (Nat.le_of_ble_eq_true rfl) (Nat.le_of_ble_eq_true rfl) (Nat.le_of_ble_eq_true rfl) W0 dX12_init_8 (fun q1 H1 W1 => ?_)
  refine nw_putF (k := 1) X qi_12 tyX12_ok nmX12 rfl (by decide) qw_1135 rfl hin rfl (tyX12_ok 1 (by decide)) rfl rfl n0 W1 dX12_init_10 (fun H2 L2 W2 n2 => ?_)
  refine lv_aload_n X.1 X.2.1 dX12_init_13 rfl (lv_at hl 0 rfl) ?_
  refine lv_sipush (v := 2001) X.1 X.2.1 dX12_init_14 (by decide) ?_
  refine nw_newa (atype := .int) (ty := .int) (N' := 2001) (a0 := (2001, .inl fun _ => 0)) 0 X hA qc_63 rfl rfl (fun _ => rfl) (by decide) (by decide) (Nat.le_of_ble_eq_true rfl) (Nat.le_of_ble_eq_true rfl) (Nat.le_of_ble_eq_true rfl) W2 dX12_init_17 (fun q2 H3 W3 => ?_)
  refine nw_putF (k := 3) X qi_12 tyX12_ok nmX12 rfl (by decide) qw_1137 rfl hin rfl (tyX12_ok 3 (by decide)) rfl rfl n2 W3 dX12_init_19 (fun H4 L4 W4 n4 => ?_)
  refine lv_aload_n X.1 X.2.1 dX12_init_22 rfl (lv_at hl 0 rfl) ?_
  refine lv_sipush (v := 2001) X.1 X.2.1 dX12_init_23 (by decide) ?_
  refine nw_newa (atype := .int) (ty := .int) (N' := 2001) (a0 := (2001, .inl fun _ => 0)) 0 X hA qc_63 rfl rfl (fun _ => rfl) (by decide) (by decide) (Nat.le_of_ble_eq_true rfl) (Nat.le_of_ble_eq_true rfl) (Nat.le_of_ble_eq_true rfl) W4 dX12_init_26 (fun q3 H5 W5 => ?_)
  refine nw_putF (k := 4) X qi_12 tyX12_ok nmX12 rfl (by decide) qw_1138 rfl hin rfl (tyX12_ok 4 (by decide)) rfl rfl n4 W5 dX12_init_28 (fun H6 L6 W6 n6 => ?_)
  refine lv_aload_n X.1 X.2.1 dX12_init_31 rfl (lv_at hl 0 rfl) ?_
  refine lv_sipush (v := 2001) X.1 X.2.1 dX12_init_32 (by decide) ?_
  refine nw_newa (atype := .int) (ty := .int) (N' := 2001) (a0 := (2001, .inl fun _ => 0)) 0 X hA qc_63 rfl rfl (fun _ => rfl) (by decide) (by decide) (Nat.le_of_ble_eq_true rfl) (Nat.le_of_ble_eq_true rfl) (Nat.le_of_ble_eq_true rfl) W6 dX12_init_35 (fun q4 H7 W7 => ?_)
  refine nw_putF (k := 5) X qi_12 tyX12_ok nmX12 rfl (by decide) qw_1139 rfl hin rfl (tyX12_ok 5 (by decide)) rfl rfl n6 W7 dX12_init_37 (fun H8 L8 W8 n8 => ?_)
  refine lv_aload_n X.1 X.2.1 dX12_init_40 rfl (lv_at hl 0 rfl) ?_
  refine lv_sipush (v := 2001) X.1 X.2.1 dX12_init_41 (by decide) ?_
  refine nw_newa (atype := .long) (ty := .long) (N' := 2001) (a0 := (2001, .inr (.inl fun _ => 0))) 3 X hA qc_64 rfl rfl (fun _ => rfl) (by decide) (by decide) (Nat.le_of_ble_eq_true rfl) (Nat.le_of_ble_eq_true rfl) (Nat.le_of_ble_eq_true rfl) W8 dX12_init_44 (fun q5 H9 W9 => ?_)
  refine nw_putF (k := 6) X qi_12 tyX12_ok nmX12 rfl (by decide) qw_1140 rfl hin rfl (tyX12_ok 6 (by decide)) rfl rfl n8 W9 dX12_init_46 (fun H10 L10 W10 n10 => ?_)
  refine lv_aload_n X.1 X.2.1 dX12_init_49 rfl (lv_at hl 0 rfl) ?_
  refine lv_iconst (v := -1) X.1 X.2.1 dX12_init_50 (by decide) ?_
  refine nw_put (k := 9) X qi_12 tyX12_ok nmX12 rfl (by decide) qw_1143 rfl (tyX12_ok 9 (by decide)) rfl rfl n10 W10 dX12_init_51 (fun H11 L11 W11 n11 => ?_)
  have e : (((((((P ++ ([.int 0, .null, .int 0, .null, .null, .null, .null, .int 0, .int 0, .int 0, .int 0, .int 0, .null, .null, .null, .null, .null, .null, .null, .null, .null, .null, .null, .null, .null, .null, .null, .null, .null, .null, .null, .null, .null, .null, .null, .null, .null, .null, .null, .null, .null, .null, .null, .null, .null, .null, .null, .null, .null, .int 0, .null, .null, .int 0, .null, .null, .int 0, .int 0, .null, .int 0, .int 0, .null, .null, .null, .null, .null, .null, .null, .null, .null, .int 0, .null, .null, .null, .null, .null, .null, .null, .null, .null, .null, .null] : List Value)).set 1 (.ref q1)).set 3 (.ref q2)).set 4 (.ref q3)).set 5 (.ref q4)).set 6 (.ref q5)).set 9 (.int (-1))) = (P ++ ([.int 0, .ref q1, .int 0, .ref q2, .ref q3, .ref q4, .ref q5, .int 0, .int 0, .int (-1)] : List Value)) ++ ([.int 0, .int 0, .null, .null, .null, .null, .null, .null, .null, .null, .null, .null, .null, .null, .null, .null, .null, .null, .null, .null, .null, .null, .null, .null, .null, .null, .null, .null, .null, .null, .null, .null, .null, .null, .null, .null, .null, .null, .null, .int 0, .null, .null, .int 0, .null, .null, .int 0, .int 0, .null, .int 0, .int 0, .null, .null, .null, .null, .null, .null, .null, .null, .null, .int 0, .null, .null, .null, .null, .null, .null, .null, .null, .null, .null, .null] : List Value) := by
    rw [set_app hP 1 1 rfl, set_app hP 3 3 rfl, set_app hP 4 4 rfl, set_app hP 5 5 rfl, set_app hP 6 6 rfl, set_app hP 9 9 rfl, List.append_assoc]
    rfl
  rw [e] at W11
  exact W.widen (Nat.le_of_ble_eq_true rfl) (Nat.le_of_ble_eq_true rfl) (kk q1 q2 q3 q4 q5 _ _ W11)
set_option maxRecDepth 100000 in
set_option maxHeartbeats 1000000 in
theorem mk_X12_1 {S : Shp} {p : Program} {l : Launch} {e : Env} {s : State} {m : MethodId} {args : Array Value} {below : List Frame} {meth : Method} {c : Code} {h0 : Nat} {ls : Array Slot} {A : Nat → Prop} {Q : State → Prop} {H : Heap} {locs : List Loc} {P : List Value} {cs : va_W} (hA : ∀ q, s.heap.size ≤ q → A q) (X : Cg (my m_X12_init).cls (mb m_X12_init) (mn m_X12_init) (wI m_X12_init) S p s m args c) (hin : meth.name = "<init>") (hl : lv_has ls 1 [(0, .ref h0)]) (hP : P.length = 10) (W0 : Wd S A s.heap H locs ((h0, .inr (11, P ++ ([.int 0, .int 0, .null, .null, .null, .null, .null, .null, .null, .null, .null, .null, .null, .null, .null, .null, .null, .null, .null, .null, .null, .null, .null, .null, .null, .null, .null, .null, .null, .null, .null, .null, .null, .null, .null, .null, .null, .null, .null, .int 0, .null, .null, .int 0, .null, .null, .int 0, .int 0, .null, .int 0, .int 0, .null, .null, .null, .null, .null, .null, .null, .null, .null, .int 0, .null, .null, .null, .null, .null, .null, .null, .null, .null, .null, .null] : List Value))) :: cs))
    (kk : ∀ (q6 q7 q8 q9 q10 q11 : Nat) (H1 : Heap) (L1 : List Loc), Wd S A s.heap H1 L1 ((h0, .inr (11, (P ++ ([.int 0, .int 0, .ref q6, .ref q7, .ref q8, .ref q9, .ref q10, .ref q11] : List Value)) ++ ([.null, .null, .null, .null, .null, .null, .null, .null, .null, .null, .null, .null, .null, .null, .null, .null, .null, .null, .null, .null, .null, .null, .null, .null, .null, .null, .null, .null, .null, .null, .null, .int 0, .null, .null, .int 0, .null, .null, .int 0, .int 0, .null, .int 0, .int 0, .null, .null, .null, .null, .null, .null, .null, .null, .null, .int 0, .null, .null, .null, .null, .null, .null, .null, .null, .null, .null, .null] : List Value))) :: ((((((cs ++ [(q6, .inl (sE S 2, 5, .inl fun _ => 0))]) ++ [(q7, .inl (sE S 0, 5, .inl fun _ => 0))]) ++ [(q8, .inl (sE S 0, 5, .inl fun _ => 0))]) ++ [(q9, .inl (sE S 2, 70, .inl fun _ => 0))]) ++ [(q10, .inl (sE S 0, 70, .inl fun _ => 0))]) ++ [(q11, .inl (sE S 0, 70, .inl fun _ => 0))])) → W p l e (rI m_X12_init 67 113007) s m args below meth c H1 L1 11 10229 Q (F0 m 99 ls [])) : W p l e (rI m_X12_init 67 113007) s m args below meth c H locs 5 10004 Q (F0 m 54 ls []) := by
  have n0 : (P ++ ([.int 0, .int 0, .null, .null, .null, .null, .null, .null, .null, .null, .null, .null, .null, .null, .null, .null, .null, .null, .null, .null, .null, .null, .null, .null, .null, .null, .null, .null, .null, .null, .null, .null, .null, .null, .null, .null, .null, .null, .null, .int 0, .null, .null, .int 0, .null, .null, .int 0, .int 0, .null, .int 0, .int 0, .null, .null, .null, .null, .null, .null, .null, .null, .null, .int 0, .null, .null, .null, .null, .null, .null, .null, .null, .null, .null, .null] : List Value)).length = 81 := by rw [List.length_append, hP]; rfl
  refine lv_aload_n X.1 X.2.1 dX12_init_54 rfl (lv_at hl 0 rfl) ?_
  refine lv_iconst (v := 5) X.1 X.2.1 dX12_init_55 (by decide) ?_
  refine nw_newa (atype := .boolean) (ty := .boolean) (N' := 5) (a0 := (5, .inl fun _ => 0)) 2 X hA qc_308 rfl rfl (fun _ => rfl) (by decide) (by decide) (Nat.le_of_ble_eq_true rfl) (Nat.le_of_ble_eq_true rfl) (Nat.le_of_ble_eq_true rfl) W0 dX12_init_56 (fun q6 H1 W1 => ?_)
  refine nw_putF (k := 12) X qi_12 tyX12_ok nmX12 rfl (by decide) qw_1146 rfl hin rfl (tyX12_ok 12 (by decide)) rfl rfl n0 W1 dX12_init_58 (fun H2 L2 W2 n2 => ?_)
  refine lv_aload_n X.1 X.2.1 dX12_init_61 rfl (lv_at hl 0 rfl) ?_
  refine lv_iconst (v := 5) X.1 X.2.1 dX12_init_62 (by decide) ?_
  refine nw_newa (atype := .int) (ty := .int) (N' := 5) (a0 := (5, .inl fun _ => 0)) 0 X hA qc_63 rfl rfl (fun _ => rfl) (by decide) (by decide) (Nat.le_of_ble_eq_true rfl) (Nat.le_of_ble_eq_true rfl) (Nat.le_of_ble_eq_true rfl) W2 dX12_init_63 (fun q7 H3 W3 => ?_)
  refine nw_putF (k := 13) X qi_12 tyX12_ok nmX12 rfl (by decide) qw_1147 rfl hin rfl (tyX12_ok 13 (by decide)) rfl rfl n2 W3 dX12_init_65 (fun H4 L4 W4 n4 => ?_)
  refine lv_aload_n X.1 X.2.1 dX12_init_68 rfl (lv_at hl 0 rfl) ?_
  refine lv_iconst (v := 5) X.1 X.2.1 dX12_init_69 (by decide) ?_
  refine nw_newa (atype := .int) (ty := .int) (N' := 5) (a0 := (5, .inl fun _ => 0)) 0 X hA qc_63 rfl rfl (fun _ => rfl) (by decide) (by decide) (Nat.le_of_ble_eq_true rfl) (Nat.le_of_ble_eq_true rfl) (Nat.le_of_ble_eq_true rfl) W4 dX12_init_70 (fun q8 H5 W5 => ?_)
  refine nw_putF (k := 14) X qi_12 tyX12_ok nmX12 rfl (by decide) qw_1148 rfl hin rfl (tyX12_ok 14 (by decide)) rfl rfl n4 W5 dX12_init_72 (fun H6 L6 W6 n6 => ?_)
  refine lv_aload_n X.1 X.2.1 dX12_init_75 rfl (lv_at hl 0 rfl) ?_
  refine lv_bipush (v := 70) X.1 X.2.1 dX12_init_76 (by decide) ?_
  refine nw_newa (atype := .boolean) (ty := .boolean) (N' := 70) (a0 := (70, .inl fun _ => 0)) 2 X hA qc_308 rfl rfl (fun _ => rfl) (by decide) (by decide) (Nat.le_of_ble_eq_true rfl) (Nat.le_of_ble_eq_true rfl) (Nat.le_of_ble_eq_true rfl) W6 dX12_init_78 (fun q9 H7 W7 => ?_)
  refine nw_putF (k := 15) X qi_12 tyX12_ok nmX12 rfl (by decide) qw_1149 rfl hin rfl (tyX12_ok 15 (by decide)) rfl rfl n6 W7 dX12_init_80 (fun H8 L8 W8 n8 => ?_)
  refine lv_aload_n X.1 X.2.1 dX12_init_83 rfl (lv_at hl 0 rfl) ?_
  refine lv_bipush (v := 70) X.1 X.2.1 dX12_init_84 (by decide) ?_
  refine nw_newa (atype := .int) (ty := .int) (N' := 70) (a0 := (70, .inl fun _ => 0)) 0 X hA qc_63 rfl rfl (fun _ => rfl) (by decide) (by decide) (Nat.le_of_ble_eq_true rfl) (Nat.le_of_ble_eq_true rfl) (Nat.le_of_ble_eq_true rfl) W8 dX12_init_86 (fun q10 H9 W9 => ?_)
  refine nw_putF (k := 16) X qi_12 tyX12_ok nmX12 rfl (by decide) qw_1150 rfl hin rfl (tyX12_ok 16 (by decide)) rfl rfl n8 W9 dX12_init_88 (fun H10 L10 W10 n10 => ?_)
  refine lv_aload_n X.1 X.2.1 dX12_init_91 rfl (lv_at hl 0 rfl) ?_
  refine lv_bipush (v := 70) X.1 X.2.1 dX12_init_92 (by decide) ?_
  refine nw_newa (atype := .int) (ty := .int) (N' := 70) (a0 := (70, .inl fun _ => 0)) 0 X hA qc_63 rfl rfl (fun _ => rfl) (by decide) (by decide) (Nat.le_of_ble_eq_true rfl) (Nat.le_of_ble_eq_true rfl) (Nat.le_of_ble_eq_true rfl) W10 dX12_init_94 (fun q11 H11 W11 => ?_)
  refine nw_putF (k := 17) X qi_12 tyX12_ok nmX12 rfl (by decide) qw_1151 rfl hin rfl (tyX12_ok 17 (by decide)) rfl rfl n10 W11 dX12_init_96 (fun H12 L12 W12 n12 => ?_)
  have e : (((((((P ++ ([.int 0, .int 0, .null, .null, .null, .null, .null, .null, .null, .null, .null, .null, .null, .null, .null, .null, .null, .null, .null, .null, .null, .null, .null, .null, .null, .null, .null, .null, .null, .null, .null, .null, .null, .null, .null, .null, .null, .null, .null, .int 0, .null, .null, .int 0, .null, .null, .int 0, .int 0, .null, .int 0, .int 0, .null, .null, .null, .null, .null, .null, .null, .null, .null, .int 0, .null, .null, .null, .null, .null, .null, .null, .null, .null, .null, .null] : List Value)).set 12 (.ref q6)).set 13 (.ref q7)).set 14 (.ref q8)).set 15 (.ref q9)).set 16 (.ref q10)).set 17 (.ref q11)) = (P ++ ([.int 0, .int 0, .ref q6, .ref q7, .ref q8, .ref q9, .ref q10, .ref q11] : List Value)) ++ ([.null, .null, .null, .null, .null, .null, .null, .null, .null, .null, .null, .null, .null, .null, .null, .null, .null, .null, .null, .null, .null, .null, .null, .null, .null, .null, .null, .null, .null, .null, .null, .int 0, .null, .null, .int 0, .null, .null, .int 0, .int 0, .null, .int 0, .int 0, .null, .null, .null, .null, .null, .null, .null, .null, .null, .int 0, .null, .null, .null, .null, .null, .null, .null, .null, .null, .null, .null] : List Value) := by
    rw [set_app hP 12 2 rfl, set_app hP 13 3 rfl, set_app hP 14 4 rfl, set_app hP 15 5 rfl, set_app hP 16 6 rfl, set_app hP 17 7 rfl, List.append_assoc]
    rfl
  rw [e] at W12
  exact W.widen (Nat.le_of_ble_eq_true rfl) (Nat.le_of_ble_eq_true rfl) (kk q6 q7 q8 q9 q10 q11 _ _ W12)
set_option maxRecDepth 100000 in
set_option maxHeartbeats 1000000 in
theorem mk_X12_2 {S : Shp} {p : Program} {l : Launch} {e : Env} {s : State} {m : MethodId} {args : Array Value} {below : List Frame} {meth : Method} {c : Code} {h0 : Nat} {ls : Array Slot} {A : Nat → Prop} {Q : State → Prop} {H : Heap} {locs : List Loc} {P : List Value} {cs : va_W} (hA : ∀ q, s.heap.size ≤ q → A q) (X : Cg (my m_X12_init).cls (mb m_X12_init) (mn m_X12_init) (wI m_X12_init) S p s m args c) (hin : meth.name = "<init>") (hl : lv_has ls 1 [(0, .ref h0)]) (hP : P.length = 18) (W0 : Wd S A s.heap H locs ((h0, .inr (11, P ++ ([.null, .null, .null, .null, .null, .null, .null, .null, .null, .null, .null, .null, .null, .null, .null, .null, .null, .null, .null, .null, .null, .null, .null, .null, .null, .null, .null, .null, .null, .null, .null, .int 0, .null, .null, .int 0, .null, .null, .int 0, .int 0, .null, .int 0, .int 0, .null, .null, .null, .null, .null, .null, .null, .null, .null, .int 0, .null, .null, .null, .null, .null, .null, .null, .null, .null, .null, .null] : List Value))) :: cs))
    (kk : ∀ (q12 q13 q14 q15 q16 q17 : Nat) (H1 : Heap) (L1 : List Loc), Wd S A s.heap H1 L1 ((h0, .inr (11, (P ++ ([.ref q12, .ref q13, .ref q14, .ref q15, .ref q16, .ref q17] : List Value)) ++ ([.null, .null, .null, .null, .null, .null, .null, .null, .null, .null, .null, .null, .null, .null, .null, .null, .null, .null, .null, .null, .null, .null, .null, .null, .null, .int 0, .null, .null, .int 0, .null, .null, .int 0, .int 0, .null, .int 0, .int 0, .null, .null, .null, .null, .null, .null, .null, .null, .null, .int 0, .null, .null, .null, .null, .null, .null, .null, .null, .null, .null, .null] : List Value))) :: ((((((cs ++ [(q12, .inl (sE S 0, 70, .inl fun _ => 0))]) ++ [(q13, .inl (sE S 0, 70, .inl fun _ => 0))]) ++ [(q14, .inl (sE S 0, 5, .inl fun _ => 0))]) ++ [(q15, .inl (sE S 0, 40, .inl fun _ => 0))]) ++ [(q16, .inl (sE S 0, 40, .inl fun _ => 0))]) ++ [(q17, .inl (sE S 0, 5, .inl fun _ => 0))])) → W p l e (rI m_X12_init 67 113007) s m args below meth c H1 L1 17 10459 Q (F0 m 145 ls [])) : W p l e (rI m_X12_init 67 113007) s m args below meth c H locs 11 10229 Q (F0 m 99 ls []) := by
  have n0 : (P ++ ([.null, .null, .null, .null, .null, .null, .null, .null, .null, .null, .null, .null, .null, .null, .null, .null, .null, .null, .null, .null, .null, .null, .null, .null, .null, .null, .null, .null, .null, .null, .null, .int 0, .null, .null, .int 0, .null, .null, .int 0, .int 0, .null, .int 0, .int 0, .null, .null, .null, .null, .null, .null, .null, .null, .null, .int 0, .null, .null, .null, .null, .null, .null, .null, .null, .null, .null, .null] : List Value)).length = 81 := by rw [List.length_append, hP]; rfl
  refine lv_aload_n X.1 X.2.1 dX12_init_99 rfl (lv_at hl 0 rfl) ?_
  refine lv_bipush (v := 70) X.1 X.2.1 dX12_init_100 (by decide) ?_
  refine nw_newa (atype := .int) (ty := .int) (N' := 70) (a0 := (70, .inl fun _ => 0)) 0 X hA qc_63 rfl rfl (fun _ => rfl) (by decide) (by decide) (Nat.le_of_ble_eq_true rfl) (Nat.le_of_ble_eq_true rfl) (Nat.le_of_ble_eq_true rfl) W0 dX12_init_102 (fun q12 H1 W1 => ?_)
  refine nw_putF (k := 18) X qi_12 tyX12_ok nmX12 rfl (by decide) qw_1152 rfl hin rfl (tyX12_ok 18 (by decide)) rfl rfl n0 W1 dX12_init_104 (fun H2 L2 W2 n2 => ?_)
  refine lv_aload_n X.1 X.2.1 dX12_init_107 rfl (lv_at hl 0 rfl) ?_
  refine lv_bipush (v := 70) X.1 X.2.1 dX12_init_108 (by decide) ?_
  refine nw_newa (atype := .int) (ty := .int) (N' := 70) (a0 := (70, .inl fun _ => 0)) 0 X hA qc_63 rfl rfl (fun _ => rfl) (by decide) (by decide) (Nat.le_of_ble_eq_true rfl) (Nat.le_of_ble_eq_true rfl) (Nat.le_of_ble_eq_true rfl) W2 dX12_init_110 (fun q13 H3 W3 => ?_)
  refine nw_putF (k := 19) X qi_12 tyX12_ok nmX12 rfl (by decide) qw_1153 rfl hin rfl (tyX12_ok 19 (by decide)) rfl rfl n2 W3 dX12_init_112 (fun H4 L4 W4 n4 => ?_)
  refine lv_aload_n X.1 X.2.1 dX12_init_115 rfl (lv_at hl 0 rfl) ?_
  refine lv_iconst (v := 5) X.1 X.2.1 dX12_init_116 (by decide) ?_
  refine nw_newa (atype := .int) (ty := .int) (N' := 5) (a0 := (5, .inl fun _ => 0)) 0 X hA qc_63 rfl rfl (fun _ => rfl) (by decide) (by decide) (Nat.le_of_ble_eq_true rfl) (Nat.le_of_ble_eq_true rfl) (Nat.le_of_ble_eq_true rfl) W4 dX12_init_117 (fun q14 H5 W5 => ?_)
  refine nw_putF (k := 20) X qi_12 tyX12_ok nmX12 rfl (by decide) qw_1154 rfl hin rfl (tyX12_ok 20 (by decide)) rfl rfl n4 W5 dX12_init_119 (fun H6 L6 W6 n6 => ?_)
  refine lv_aload_n X.1 X.2.1 dX12_init_122 rfl (lv_at hl 0 rfl) ?_
  refine lv_bipush (v := 40) X.1 X.2.1 dX12_init_123 (by decide) ?_
  refine nw_newa (atype := .int) (ty := .int) (N' := 40) (a0 := (40, .inl fun _ => 0)) 0 X hA qc_63 rfl rfl (fun _ => rfl) (by decide) (by decide) (Nat.le_of_ble_eq_true rfl) (Nat.le_of_ble_eq_true rfl) (Nat.le_of_ble_eq_true rfl) W6 dX12_init_125 (fun q15 H7 W7 => ?_)
  refine nw_putF (k := 21) X qi_12 tyX12_ok nmX12 rfl (by decide) qw_1155 rfl hin rfl (tyX12_ok 21 (by decide)) rfl rfl n6 W7 dX12_init_127 (fun H8 L8 W8 n8 => ?_)
  refine lv_aload_n X.1 X.2.1 dX12_init_130 rfl (lv_at hl 0 rfl) ?_
  refine lv_bipush (v := 40) X.1 X.2.1 dX12_init_131 (by decide) ?_
  refine nw_newa (atype := .int) (ty := .int) (N' := 40) (a0 := (40, .inl fun _ => 0)) 0 X hA qc_63 rfl rfl (fun _ => rfl) (by decide) (by decide) (Nat.le_of_ble_eq_true rfl) (Nat.le_of_ble_eq_true rfl) (Nat.le_of_ble_eq_true rfl) W8 dX12_init_133 (fun q16 H9 W9 => ?_)
  refine nw_putF (k := 22) X qi_12 tyX12_ok nmX12 rfl (by decide) qw_1156 rfl hin rfl (tyX12_ok 22 (by decide)) rfl rfl n8 W9 dX12_init_135 (fun H10 L10 W10 n10 => ?_)
  refine lv_aload_n X.1 X.2.1 dX12_init_138 rfl (lv_at hl 0 rfl) ?_
  refine lv_iconst (v := 5) X.1 X.2.1 dX12_init_139 (by decide) ?_
  refine nw_newa (atype := .int) (ty := .int) (N' := 5) (a0 := (5, .inl fun _ => 0)) 0 X hA qc_63 rfl rfl (fun _ => rfl) (by decide) (by decide) (Nat.le_of_ble_eq_true rfl) (Nat.le_of_ble_eq_true rfl) (Nat.le_of_ble_eq_true rfl) W10 dX12_init_140 (fun q17 H11 W11 => ?_)
  refine nw_putF (k := 23) X qi_12 tyX12_ok nmX12 rfl (by decide) qw_1157 rfl hin rfl (tyX12_ok 23 (by decide)) rfl rfl n10 W11 dX12_init_142 (fun H12 L12 W12 n12 => ?_)
  have e : (((((((P ++ ([.null, .null, .null, .null, .null, .null, .null, .null, .null, .null, .null, .null, .null, .null, .null, .null, .null, .null, .null, .null, .null, .null, .null, .null, .null, .null, .null, .null, .null, .null, .null, .int 0, .null, .null, .int 0, .null, .null, .int 0, .int 0, .null, .int 0, .int 0, .null, .null, .null, .null, .null, .null, .null, .null, .null, .int 0, .null, .null, .null, .null, .null, .null, .null, .null, .null, .null, .null] : List Value)).set 18 (.ref q12)).set 19 (.ref q13)).set 20 (.ref q14)).set 21 (.ref q15)).set 22 (.ref q16)).set 23 (.ref q17)) = (P ++ ([.ref q12, .ref q13, .ref q14, .ref q15, .ref q16, .ref q17] : List Value)) ++ ([.null, .null, .null, .null, .null, .null, .null, .null, .null, .null, .null, .null, .null, .null, .null, .null, .null, .null, .null, .null, .null, .null, .null, .null, .null, .int 0, .null, .null, .int 0, .null, .null, .int 0, .int 0, .null, .int 0, .int 0, .null, .null, .null, .null, .null, .null, .null, .null, .null, .int 0, .null, .null, .null, .null, .null, .null, .null, .null, .null, .null, .null] : List Value) := by
    rw [set_app hP 18 0 rfl, set_app hP 19 1 rfl, set_app hP 20 2 rfl, set_app hP 21 3 rfl, set_app hP 22 4 rfl, set_app hP 23 5 rfl, List.append_assoc]
    rfl
  rw [e] at W12
  exact W.widen (Nat.le_of_ble_eq_true rfl) (Nat.le_of_ble_eq_true rfl) (kk q12 q13 q14 q15 q16 q17 _ _ W12)
set_option maxRecDepth 100000 in
set_option maxHeartbeats 1000000 in
theorem mk_X12_3 {S : Shp} {p : Program} {l : Launch} {e : Env} {s : State} {m : MethodId} {args : Array Value} {below : List Frame} {meth : Method} {c : Code} {h0 : Nat} {ls : Array Slot} {A : Nat → Prop} {Q : State → Prop} {H : Heap} {locs : List Loc} {P : List Value} {cs : va_W} (hA : ∀ q, s.heap.size ≤ q → A q) (X : Cg (my m_X12_init).cls (mb m_X12_init) (mn m_X12_init) (wI m_X12_init) S p s m args c) (hin : meth.name = "<init>") (hl : lv_has ls 1 [(0, .ref h0)]) (hP : P.length = 24) (W0 : Wd S A s.heap H locs ((h0, .inr (11, P ++ ([.null, .null, .null, .null, .null, .null, .null, .null, .null, .null, .null, .null, .null, .null, .null, .null, .null, .null, .null, .null, .null, .null, .null, .null, .null, .int 0, .null, .null, .int 0, .null, .null, .int 0, .int 0, .null, .int 0, .int 0, .null, .null, .null, .null, .null, .null, .null, .null, .null, .int 0, .null, .null, .null, .null, .null, .null, .null, .null, .null, .null, .null] : List Value))) :: cs))
    (kk : ∀ (q18 q19 q20 q21 q22 q23 : Nat) (H1 : Heap) (L1 : List Loc), Wd S A s.heap H1 L1 ((h0, .inr (11, (P ++ ([.ref q18, .ref q19, .ref q20, .ref q21, .ref q22, .ref q23] : List Value)) ++ ([.null, .null, .null, .null, .null, .null, .null, .null, .null, .null, .null, .null, .null, .null, .null, .null, .null, .null, .null, .int 0, .null, .null, .int 0, .null, .null, .int 0, .int 0, .null, .int 0, .int 0, .null, .null, .null, .null, .null, .null, .null, .null, .null, .int 0, .null, .null, .null, .null, .null, .null, .null, .null, .null, .null, .null] : List Value))) :: ((((((cs ++ [(q18, .inl (sE S 0, 60, .inl fun _ => 0))]) ++ [(q19, .inl (sE S 0, 60, .inl fun _ => 0))]) ++ [(q20, .inl (sE S 0, 60, .inl fun _ => 0))]) ++ [(q21, .inl (sE S 0, 5, .inl fun _ => 0))]) ++ [(q22, .inl (sE S 0, 25, .inl fun _ => 0))]) ++ [(q23, .inl (sE S 0, 25, .inl fun _ => 0))])) → W p l e (rI m_X12_init 67 113007) s m args below meth c H1 L1 23 10694 Q (F0 m 192 ls [])) : W p l e (rI m_X12_init 67 113007) s m args below meth c H locs 17 10459 Q (F0 m 145 ls []) := by
  have n0 : (P ++ ([.null, .null, .null, .null, .null, .null, .null, .null, .null, .null, .null, .null, .null, .null, .null, .null, .null, .null, .null, .null, .null, .null, .null, .null, .null, .int 0, .null, .null, .int 0, .null, .null, .int 0, .int 0, .null, .int 0, .int 0, .null, .null, .null, .null, .null, .null, .null, .null, .null, .int 0, .null, .null, .null, .null, .null, .null, .null, .null, .null, .null, .null] : List Value)).length = 81 := by rw [List.length_append, hP]; rfl
  refine lv_aload_n X.1 X.2.1 dX12_init_145 rfl (lv_at hl 0 rfl) ?_
  refine lv_bipush (v := 60) X.1 X.2.1 dX12_init_146 (by decide) ?_
  refine nw_newa (atype := .int) (ty := .int) (N' := 60) (a0 := (60, .inl fun _ => 0)) 0 X hA qc_63 rfl rfl (fun _ => rfl) (by decide) (by decide) (Nat.le_of_ble_eq_true rfl) (Nat.le_of_ble_eq_true rfl) (Nat.le_of_ble_eq_true rfl) W0 dX12_init_148 (fun q18 H1 W1 => ?_)
  refine nw_putF (k := 24) X qi_12 tyX12_ok nmX12 rfl (by decide) qw_1158 rfl hin rfl (tyX12_ok 24 (by decide)) rfl rfl n0 W1 dX12_init_150 (fun H2 L2 W2 n2 => ?_)
  refine lv_aload_n X.1 X.2.1 dX12_init_153 rfl (lv_at hl 0 rfl) ?_
  refine lv_bipush (v := 60) X.1 X.2.1 dX12_init_154 (by decide) ?_
  refine nw_newa (atype := .int) (ty := .int) (N' := 60) (a0 := (60, .inl fun _ => 0)) 0 X hA qc_63 rfl rfl (fun _ => rfl) (by decide) (by decide) (Nat.le_of_ble_eq_true rfl) (Nat.le_of_ble_eq_true rfl) (Nat.le_of_ble_eq_true rfl) W2 dX12_init_156 (fun q19 H3 W3 => ?_)
  refine nw_putF (k := 25) X qi_12 tyX12_ok nmX12 rfl (by decide) qw_1159 rfl hin rfl (tyX12_ok 25 (by decide)) rfl rfl n2 W3 dX12_init_158 (fun H4 L4 W4 n4 => ?_)
  refine lv_aload_n X.1 X.2.1 dX12_init_161 rfl (lv_at hl 0 rfl) ?_
  refine lv_bipush (v := 60) X.1 X.2.1 dX12_init_162 (by decide) ?_
  refine nw_newa (atype := .int) (ty := .int) (N' := 60) (a0 := (60, .inl fun _ => 0)) 0 X hA qc_63 rfl rfl (fun _ => rfl) (by decide) (by decide) (Nat.le_of_ble_eq_true rfl) (Nat.le_of_ble_eq_true rfl) (Nat.le_of_ble_eq_true rfl) W4 dX12_init_164 (fun q20 H5 W5 => ?_)
  refine nw_putF (k := 26) X qi_12 tyX12_ok nmX12 rfl (by decide) qw_1160 rfl hin rfl (tyX12_ok 26 (by decide)) rfl rfl n4 W5 dX12_init_166 (fun H6 L6 W6 n6 => ?_)
  refine lv_aload_n X.1 X.2.1 dX12_init_169 rfl (lv_at hl 0 rfl) ?_
  refine lv_iconst (v := 5) X.1 X.2.1 dX12_init_170 (by decide) ?_
  refine nw_newa (atype := .int) (ty := .int) (N' := 5) (a0 := (5, .inl fun _ => 0)) 0 X hA qc_63 rfl rfl (fun _ => rfl) (by decide) (by decide) (Nat.le_of_ble_eq_true rfl) (Nat.le_of_ble_eq_true rfl) (Nat.le_of_ble_eq_true rfl) W6 dX12_init_171 (fun q21 H7 W7 => ?_)
  refine nw_putF (k := 27) X qi_12 tyX12_ok nmX12 rfl (by decide) qw_1161 rfl hin rfl (tyX12_ok 27 (by decide)) rfl rfl n6 W7 dX12_init_173 (fun H8 L8 W8 n8 => ?_)
  refine lv_aload_n X.1 X.2.1 dX12_init_176 rfl (lv_at hl 0 rfl) ?_
  refine lv_bipush (v := 25) X.1 X.2.1 dX12_init_177 (by decide) ?_
  refine nw_newa (atype := .int) (ty := .int) (N' := 25) (a0 := (25, .inl fun _ => 0)) 0 X hA qc_63 rfl rfl (fun _ => rfl) (by decide) (by decide) (Nat.le_of_ble_eq_true rfl) (Nat.le_of_ble_eq_true rfl) (Nat.le_of_ble_eq_true rfl) W8 dX12_init_179 (fun q22 H9 W9 => ?_)
  refine nw_putF (k := 28) X qi_12 tyX12_ok nmX12 rfl (by decide) qw_1162 rfl hin rfl (tyX12_ok 28 (by decide)) rfl rfl n8 W9 dX12_init_181 (fun H10 L10 W10 n10 => ?_)
  refine lv_aload_n X.1 X.2.1 dX12_init_184 rfl (lv_at hl 0 rfl) ?_
  refine lv_bipush (v := 25) X.1 X.2.1 dX12_init_185 (by decide) ?_
  refine nw_newa (atype := .int) (ty := .int) (N' := 25) (a0 := (25, .inl fun _ => 0)) 0 X hA qc_63 rfl rfl (fun _ => rfl) (by decide) (by decide) (Nat.le_of_ble_eq_true rfl) (Nat.le_of_ble_eq_true rfl) (Nat.le_of_ble_eq_true rfl) W10 dX12_init_187 (fun q23 H11 W11 => ?_)
  refine nw_putF (k := 29) X qi_12 tyX12_ok nmX12 rfl (by decide) qw_1163 rfl hin rfl (tyX12_ok 29 (by decide)) rfl rfl n10 W11 dX12_init_189 (fun H12 L12 W12 n12 => ?_)
  have e : (((((((P ++ ([.null, .null, .null, .null, .null, .null, .null, .null, .null, .null, .null, .null, .null, .null, .null, .null, .null, .null, .null, .null, .null, .null, .null, .null, .null, .int 0, .null, .null, .int 0, .null, .null, .int 0, .int 0, .null, .int 0, .int 0, .null, .null, .null, .null, .null, .null, .null, .null, .null, .int 0, .null, .null, .null, .null, .null, .null, .null, .null, .null, .null, .null] : List Value)).set 24 (.ref q18)).set 25 (.ref q19)).set 26 (.ref q20)).set 27 (.ref q21)).set 28 (.ref q22)).set 29 (.ref q23)) = (P ++ ([.ref q18, .ref q19, .ref q20, .ref q21, .ref q22, .ref q23] : List Value)) ++ ([.null, .null, .null, .null, .null, .null, .null, .null, .null, .null, .null, .null, .null, .null, .null, .null, .null, .null, .null, .int 0, .null, .null, .int 0, .null, .null, .int 0, .int 0, .null, .int 0, .int 0, .null, .null, .null, .null, .null, .null, .null, .null, .null, .int 0, .null, .null, .null, .null, .null, .null, .null, .null, .null, .null, .null] : List Value) := by
    rw [set_app hP 24 0 rfl, set_app hP 25 1 rfl, set_app hP 26 2 rfl, set_app hP 27 3 rfl, set_app hP 28 4 rfl, set_app hP 29 5 rfl, List.append_assoc]
    rfl
  rw [e] at W12
  exact W.widen (Nat.le_of_ble_eq_true rfl) (Nat.le_of_ble_eq_true rfl) (kk q18 q19 q20 q21 q22 q23 _ _ W12)
set_option maxRecDepth 100000 in
set_option maxHeartbeats 1000000 in
theorem mk_X12_4 {S : Shp} {p : Program} {l : Launch} {e : Env} {s : State} {m : MethodId} {args : Array Value} {below : List Frame} {meth : Method} {c : Code} {h0 : Nat} {ls : Array Slot} {A : Nat → Prop} {Q : State → Prop} {H : Heap} {locs : List Loc} {P : List Value} {cs : va_W} (hA : ∀ q, s.heap.size ≤ q → A q) (X : Cg (my m_X12_init).cls (mb m_X12_init) (mn m_X12_init) (wI m_X12_init) S p s m args c) (hin : meth.name = "<init>") (hl : lv_has ls 1 [(0, .ref h0)]) (hP : P.length = 30) (W0 : Wd S A s.heap H locs ((h0, .inr (11, P ++ ([.null, .null, .null, .null, .null, .null, .null, .null, .null, .null, .null, .null, .null, .null, .null, .null, .null, .null, .null, .int 0, .null, .null, .int 0, .null, .null, .int 0, .int 0, .null, .int 0, .int 0, .null, .null, .null, .null, .null, .null, .null, .null, .null, .int 0, .null, .null, .null, .null, .null, .null, .null, .null, .null, .null, .null] : List Value))) :: cs))
    (kk : ∀ (q24 q25 q26 q27 q28 q29 : Nat) (H1 : Heap) (L1 : List Loc), Wd S A s.heap H1 L1 ((h0, .inr (11, (P ++ ([.ref q24, .ref q25, .ref q26, .ref q27, .ref q28, .ref q29] : List Value)) ++ ([.null, .null, .null, .null, .null, .null, .null, .null, .null, .null, .null, .null, .null, .int 0, .null, .null, .int 0, .null, .null, .int 0, .int 0, .null, .int 0, .int 0, .null, .null, .null, .null, .null, .null, .null, .null, .null, .int 0, .null, .null, .null, .null, .null, .null, .null, .null, .null, .null, .null] : List Value))) :: ((((((cs ++ [(q24, .inl (sE S 0, 25, .inl fun _ => 0))]) ++ [(q25, .inl (sE S 0, 5, .inl fun _ => 0))]) ++ [(q26, .inl (sE S 0, 30, .inl fun _ => 0))]) ++ [(q27, .inl (sE S 0, 30, .inl fun _ => 0))]) ++ [(q28, .inl (sE S 0, 5, .inl fun _ => 0))]) ++ [(q29, .inl (sE S 0, 2500, .inl fun _ => 0))])) → W p l e (rI m_X12_init 67 113007) s m args below meth c H1 L1 29 13289 Q (F0 m 239 ls [])) : W p l e (rI m_X12_init 67 113007) s m args below meth c H locs 23 10694 Q (F0 m 192 ls []) := by
  have n0 : (P ++ ([.null, .null, .null, .null, .null, .null, .null, .null, .null, .null, .null, .null, .null, .null, .null, .null, .null, .null, .null, .int 0, .null, .null, .int 0, .null, .null, .int 0, .int 0, .null, .int 0, .int 0, .null, .null, .null, .null, .null, .null, .null, .null, .null, .int 0, .null, .null, .null, .null, .null, .null, .null, .null, .null, .null, .null] : List Value)).length = 81 := by rw [List.length_append, hP]; rfl
  refine lv_aload_n X.1 X.2.1 dX12_init_192 rfl (lv_at hl 0 rfl) ?_
  refine lv_bipush (v := 25) X.1 X.2.1 dX12_init_193 (by decide) ?_
  refine nw_newa (atype := .int) (ty := .int) (N' := 25) (a0 := (25, .inl fun _ => 0)) 0 X hA qc_63 rfl rfl (fun _ => rfl) (by decide) (by decide) (Nat.le_of_ble_eq_true rfl) (Nat.le_of_ble_eq_true rfl) (Nat.le_of_ble_eq_true rfl) W0 dX12_init_195 (fun q24 H1 W1 => ?_)
  refine nw_putF (k := 30) X qi_12 tyX12_ok nmX12 rfl (by decide) qw_1164 rfl hin rfl (tyX12_ok 30 (by decide)) rfl rfl n0 W1 dX12_init_197 (fun H2 L2 W2 n2 => ?_)
  refine lv_aload_n X.1 X.2.1 dX12_init_200 rfl (lv_at hl 0 rfl) ?_
  refine lv_iconst (v := 5) X.1 X.2.1 dX12_init_201 (by decide) ?_
  refine nw_newa (atype := .int) (ty := .int) (N' := 5) (a0 := (5, .inl fun _ => 0)) 0 X hA qc_63 rfl rfl (fun _ => rfl) (by decide) (by decide) (Nat.le_of_ble_eq_true rfl) (Nat.le_of_ble_eq_true rfl) (Nat.le_of_ble_eq_true rfl) W2 dX12_init_202 (fun q25 H3 W3 => ?_)
  refine nw_putF (k := 31) X qi_12 tyX12_ok nmX12 rfl (by decide) qw_1165 rfl hin rfl (tyX12_ok 31 (by decide)) rfl rfl n2 W3 dX12_init_204 (fun H4 L4 W4 n4 => ?_)
  refine lv_aload_n X.1 X.2.1 dX12_init_207 rfl (lv_at hl 0 rfl) ?_
  refine lv_bipush (v := 30) X.1 X.2.1 dX12_init_208 (by decide) ?_
  refine nw_newa (atype := .int) (ty := .int) (N' := 30) (a0 := (30, .inl fun _ => 0)) 0 X hA qc_63 rfl rfl (fun _ => rfl) (by decide) (by decide) (Nat.le_of_ble_eq_true rfl) (Nat.le_of_ble_eq_true rfl) (Nat.le_of_ble_eq_true rfl) W4 dX12_init_210 (fun q26 H5 W5 => ?_)
  refine nw_putF (k := 32) X qi_12 tyX12_ok nmX12 rfl (by decide) qw_1166 rfl hin rfl (tyX12_ok 32 (by decide)) rfl rfl n4 W5 dX12_init_212 (fun H6 L6 W6 n6 => ?_)
  refine lv_aload_n X.1 X.2.1 dX12_init_215 rfl (lv_at hl 0 rfl) ?_
  refine lv_bipush (v := 30) X.1 X.2.1 dX12_init_216 (by decide) ?_
  refine nw_newa (atype := .int) (ty := .int) (N' := 30) (a0 := (30, .inl fun _ => 0)) 0 X hA qc_63 rfl rfl (fun _ => rfl) (by decide) (by decide) (Nat.le_of_ble_eq_true rfl) (Nat.le_of_ble_eq_true rfl) (Nat.le_of_ble_eq_true rfl) W6 dX12_init_218 (fun q27 H7 W7 => ?_)
  refine nw_putF (k := 33) X qi_12 tyX12_ok nmX12 rfl (by decide) qw_1167 rfl hin rfl (tyX12_ok 33 (by decide)) rfl rfl n6 W7 dX12_init_220 (fun H8 L8 W8 n8 => ?_)
  refine lv_aload_n X.1 X.2.1 dX12_init_223 rfl (lv_at hl 0 rfl) ?_
  refine lv_iconst (v := 5) X.1 X.2.1 dX12_init_224 (by decide) ?_
  refine nw_newa (atype := .int) (ty := .int) (N' := 5) (a0 := (5, .inl fun _ => 0)) 0 X hA qc_63 rfl rfl (fun _ => rfl) (by decide) (by decide) (Nat.le_of_ble_eq_true rfl) (Nat.le_of_ble_eq_true rfl) (Nat.le_of_ble_eq_true rfl) W8 dX12_init_225 (fun q28 H9 W9 => ?_)
  refine nw_putF (k := 34) X qi_12 tyX12_ok nmX12 rfl (by decide) qw_1168 rfl hin rfl (tyX12_ok 34 (by decide)) rfl rfl n8 W9 dX12_init_227 (fun H10 L10 W10 n10 => ?_)
  refine lv_aload_n X.1 X.2.1 dX12_init_230 rfl (lv_at hl 0 rfl) ?_
  refine lv_sipush (v := 2500) X.1 X.2.1 dX12_init_231 (by decide) ?_
  refine nw_newa (atype := .int) (ty := .int) (N' := 2500) (a0 := (2500, .inl fun _ => 0)) 0 X hA qc_63 rfl rfl (fun _ => rfl) (by decide) (by decide) (Nat.le_of_ble_eq_true rfl) (Nat.le_of_ble_eq_true rfl) (Nat.le_of_ble_eq_true rfl) W10 dX12_init_234 (fun q29 H11 W11 => ?_)
  refine nw_putF (k := 35) X qi_12 tyX12_ok nmX12 rfl (by decide) qw_1169 rfl hin rfl (tyX12_ok 35 (by decide)) rfl rfl n10 W11 dX12_init_236 (fun H12 L12 W12 n12 => ?_)
  have e : (((((((P ++ ([.null, .null, .null, .null, .null, .null, .null, .null, .null, .null, .null, .null, .null, .null, .null, .null, .null, .null, .null, .int 0, .null, .null, .int 0, .null, .null, .int 0, .int 0, .null, .int 0, .int 0, .null, .null, .null, .null, .null, .null, .null, .null, .null, .int 0, .null, .null, .null, .null, .null, .null, .null, .null, .null, .null, .null] : List Value)).set 30 (.ref q24)).set 31 (.ref q25)).set 32 (.ref q26)).set 33 (.ref q27)).set 34 (.ref q28)).set 35 (.ref q29)) = (P ++ ([.ref q24, .ref q25, .ref q26, .ref q27, .ref q28, .ref q29] : List Value)) ++ ([.null, .null, .null, .null, .null, .null, .null, .null, .null, .null, .null, .null, .null, .int 0, .null, .null, .int 0, .null, .null, .int 0, .int 0, .null, .int 0, .int 0, .null, .null, .null, .null, .null, .null, .null, .null, .null, .int 0, .null, .null, .null, .null, .null, .null, .null, .null, .null, .null, .null] : List Value) := by
    rw [set_app hP 30 0 rfl, set_app hP 31 1 rfl, set_app hP 32 2 rfl, set_app hP 33 3 rfl, set_app hP 34 4 rfl, set_app hP 35 5 rfl, List.append_assoc]
    rfl
  rw [e] at W12
  exact W.widen (Nat.le_of_ble_eq_true rfl) (Nat.le_of_ble_eq_true rfl) (kk q24 q25 q26 q27 q28 q29 _ _ W12)
set_option maxRecDepth 100000 in
set_option maxHeartbeats 1000000 in
theorem mk_X12_5 {S : Shp} {p : Program} {l : Launch} {e : Env} {s : State} {m : MethodId} {args : Array Value} {below : List Frame} {meth : Method} {c : Code} {h0 : Nat} {ls : Array Slot} {A : Nat → Prop} {Q : State → Prop} {H : Heap} {locs : List Loc} {P : List Value} {cs : va_W} (hA : ∀ q, s.heap.size ≤ q → A q) (X : Cg (my m_X12_init).cls (mb m_X12_init) (mn m_X12_init) (wI m_X12_init) S p s m args c) (hin : meth.name = "<init>") (hl : lv_has ls 1 [(0, .ref h0)]) (hP : P.length = 36) (W0 : Wd S A s.heap H locs ((h0, .inr (11, P ++ ([.null, .null, .null, .null, .null, .null, .null, .null, .null, .null, .null, .null, .null, .int 0, .null, .null, .int 0, .null, .null, .int 0, .int 0, .null, .int 0, .int 0, .null, .null, .null, .null, .null, .null, .null, .null, .null, .int 0, .null, .null, .null, .null, .null, .null, .null, .null, .null, .null, .null] : List Value))) :: cs))
    (kk : ∀ (q30 q31 q32 q33 q34 q35 : Nat) (H1 : Heap) (L1 : List Loc), Wd S A s.heap H1 L1 ((h0, .inr (11, (P ++ ([.ref q30, .ref q31, .ref q32, .ref q33, .ref q34, .ref q35] : List Value)) ++ ([.null, .null, .null, .null, .null, .null, .null, .int 0, .null, .null, .int 0, .null, .null, .int 0, .int 0, .null, .int 0, .int 0, .null, .null, .null, .null, .null, .null, .null, .null, .null, .int 0, .null, .null, .null, .null, .null, .null, .null, .null, .null, .null, .null] : List Value))) :: ((((((cs ++ [(q30, .inl (sE S 0, 2500, .inl fun _ => 0))]) ++ [(q31, .inl (sE S 0, 5, .inl fun _ => 0))]) ++ [(q32, .inl (sE S 2, 1000, .inl fun _ => 0))]) ++ [(q33, .inl (sE S 0, 1000, .inl fun _ => 0))]) ++ [(q34, .inl (sE S 0, 1000, .inl fun _ => 0))]) ++ [(q35, .inl (sE S 0, 1000, .inl fun _ => 0))])) → W p l e (rI m_X12_init 67 113007) s m args below meth c H1 L1 35 19794 Q (F0 m 291 ls [])) : W p l e (rI m_X12_init 67 113007) s m args below meth c H locs 29 13289 Q (F0 m 239 ls []) := by
  have n0 : (P ++ ([.null, .null, .null, .null, .null, .null, .null, .null, .null, .null, .null, .null, .null, .int 0, .null, .null, .int 0, .null, .null, .int 0, .int 0, .null, .int 0, .int 0, .null, .null, .null, .null, .null, .null, .null, .null, .null, .int 0, .null, .null, .null, .null, .null, .null, .null, .null, .null, .null, .null] : List Value)).length = 81 := by rw [List.length_append, hP]; rfl
  refine lv_aload_n X.1 X.2.1 dX12_init_239 rfl (lv_at hl 0 rfl) ?_
  refine lv_sipush (v := 2500) X.1 X.2.1 dX12_init_240 (by decide) ?_
  refine nw_newa (atype := .int) (ty := .int) (N' := 2500) (a0 := (2500, .inl fun _ => 0)) 0 X hA qc_63 rfl rfl (fun _ => rfl) (by decide) (by decide) (Nat.le_of_ble_eq_true rfl) (Nat.le_of_ble_eq_true rfl) (Nat.le_of_ble_eq_true rfl) W0 dX12_init_243 (fun q30 H1 W1 => ?_)
  refine nw_putF (k := 36) X qi_12 tyX12_ok nmX12 rfl (by decide) qw_1170 rfl hin rfl (tyX12_ok 36 (by decide)) rfl rfl n0 W1 dX12_init_245 (fun H2 L2 W2 n2 => ?_)
  refine lv_aload_n X.1 X.2.1 dX12_init_248 rfl (lv_at hl 0 rfl) ?_
  refine lv_iconst (v := 5) X.1 X.2.1 dX12_init_249 (by decide) ?_
  refine nw_newa (atype := .int) (ty := .int) (N' := 5) (a0 := (5, .inl fun _ => 0)) 0 X hA qc_63 rfl rfl (fun _ => rfl) (by decide) (by decide) (Nat.le_of_ble_eq_true rfl) (Nat.le_of_ble_eq_true rfl) (Nat.le_of_ble_eq_true rfl) W2 dX12_init_250 (fun q31 H3 W3 => ?_)
  refine nw_putF (k := 37) X qi_12 tyX12_ok nmX12 rfl (by decide) qw_1171 rfl hin rfl (tyX12_ok 37 (by decide)) rfl rfl n2 W3 dX12_init_252 (fun H4 L4 W4 n4 => ?_)
  refine lv_aload_n X.1 X.2.1 dX12_init_255 rfl (lv_at hl 0 rfl) ?_
  refine lv_sipush (v := 1000) X.1 X.2.1 dX12_init_256 (by decide) ?_
  refine nw_newa (atype := .boolean) (ty := .boolean) (N' := 1000) (a0 := (1000, .inl fun _ => 0)) 2 X hA qc_308 rfl rfl (fun _ => rfl) (by decide) (by decide) (Nat.le_of_ble_eq_true rfl) (Nat.le_of_ble_eq_true rfl) (Nat.le_of_ble_eq_true rfl) W4 dX12_init_259 (fun q32 H5 W5 => ?_)
  refine nw_putF (k := 38) X qi_12 tyX12_ok nmX12 rfl (by decide) qw_1172 rfl hin rfl (tyX12_ok 38 (by decide)) rfl rfl n4 W5 dX12_init_261 (fun H6 L6 W6 n6 => ?_)
  refine lv_aload_n X.1 X.2.1 dX12_init_264 rfl (lv_at hl 0 rfl) ?_
  refine lv_sipush (v := 1000) X.1 X.2.1 dX12_init_265 (by decide) ?_
  refine nw_newa (atype := .int) (ty := .int) (N' := 1000) (a0 := (1000, .inl fun _ => 0)) 0 X hA qc_63 rfl rfl (fun _ => rfl) (by decide) (by decide) (Nat.le_of_ble_eq_true rfl) (Nat.le_of_ble_eq_true rfl) (Nat.le_of_ble_eq_true rfl) W6 dX12_init_268 (fun q33 H7 W7 => ?_)
  refine nw_putF (k := 39) X qi_12 tyX12_ok nmX12 rfl (by decide) qw_1173 rfl hin rfl (tyX12_ok 39 (by decide)) rfl rfl n6 W7 dX12_init_270 (fun H8 L8 W8 n8 => ?_)
  refine lv_aload_n X.1 X.2.1 dX12_init_273 rfl (lv_at hl 0 rfl) ?_
  refine lv_sipush (v := 1000) X.1 X.2.1 dX12_init_274 (by decide) ?_
  refine nw_newa (atype := .int) (ty := .int) (N' := 1000) (a0 := (1000, .inl fun _ => 0)) 0 X hA qc_63 rfl rfl (fun _ => rfl) (by decide) (by decide) (Nat.le_of_ble_eq_true rfl) (Nat.le_of_ble_eq_true rfl) (Nat.le_of_ble_eq_true rfl) W8 dX12_init_277 (fun q34 H9 W9 => ?_)
  refine nw_putF (k := 40) X qi_12 tyX12_ok nmX12 rfl (by decide) qw_1174 rfl hin rfl (tyX12_ok 40 (by decide)) rfl rfl n8 W9 dX12_init_279 (fun H10 L10 W10 n10 => ?_)
  refine lv_aload_n X.1 X.2.1 dX12_init_282 rfl (lv_at hl 0 rfl) ?_
  refine lv_sipush (v := 1000) X.1 X.2.1 dX12_init_283 (by decide) ?_
  refine nw_newa (atype := .int) (ty := .int) (N' := 1000) (a0 := (1000, .inl fun _ => 0)) 0 X hA qc_63 rfl rfl (fun _ => rfl) (by decide) (by decide) (Nat.le_of_ble_eq_true rfl) (Nat.le_of_ble_eq_true rfl) (Nat.le_of_ble_eq_true rfl) W10 dX12_init_286 (fun q35 H11 W11 => ?_)
  refine nw_putF (k := 41) X qi_12 tyX12_ok nmX12 rfl (by decide) qw_1175 rfl hin rfl (tyX12_ok 41 (by decide)) rfl rfl n10 W11 dX12_init_288 (fun H12 L12 W12 n12 => ?_)
  have e : (((((((P ++ ([.null, .null, .null, .null, .null, .null, .null, .null, .null, .null, .null, .null, .null, .int 0, .null, .null, .int 0, .null, .null, .int 0, .int 0, .null, .int 0, .int 0, .null, .null, .null, .null, .null, .null, .null, .null, .null, .int 0, .null, .null, .null, .null, .null, .null, .null, .null, .null, .null, .null] : List Value)).set 36 (.ref q30)).set 37 (.ref q31)).set 38 (.ref q32)).set 39 (.ref q33)).set 40 (.ref q34)).set 41 (.ref q35)) = (P ++ ([.ref q30, .ref q31, .ref q32, .ref q33, .ref q34, .ref q35] : List Value)) ++ ([.null, .null, .null, .null, .null, .null, .null, .int 0, .null, .null, .int 0, .null, .null, .int 0, .int 0, .null, .int 0, .int 0, .null, .null, .null, .null, .null, .null, .null, .null, .null, .int 0, .null, .null, .null, .null, .null, .null, .null, .null, .null, .null, .null] : List Value) := by
    rw [set_app hP 36 0 rfl, set_app hP 37 1 rfl, set_app hP 38 2 rfl, set_app hP 39 3 rfl, set_app hP 40 4 rfl, set_app hP 41 5 rfl, List.append_assoc]
    rfl
  rw [e] at W12
  exact W.widen (Nat.le_of_ble_eq_true rfl) (Nat.le_of_ble_eq_true rfl) (kk q30 q31 q32 q33 q34 q35 _ _ W12)
set_option maxRecDepth 100000 in
set_option maxHeartbeats 1000000 in
theorem mk_X12_6 {S : Shp} {p : Program} {l : Launch} {e : Env} {s : State} {m : MethodId} {args : Array Value} {below : List Frame} {meth : Method} {c : Code} {h0 : Nat} {ls : Array Slot} {A : Nat → Prop} {Q : State → Prop} {H : Heap} {locs : List Loc} {P : List Value} {cs : va_W} (hA : ∀ q, s.heap.size ≤ q → A q) (X : Cg (my m_X12_init).cls (mb m_X12_init) (mn m_X12_init) (wI m_X12_init) S p s m args c) (hin : meth.name = "<init>") (hl : lv_has ls 1 [(0, .ref h0)]) (hP : P.length = 42) (W0 : Wd S A s.heap H locs ((h0, .inr (11, P ++ ([.null, .null, .null, .null, .null, .null, .null, .int 0, .null, .null, .int 0, .null, .null, .int 0, .int 0, .null, .int 0, .int 0, .null, .null, .null, .null, .null, .null, .null, .null, .null, .int 0, .null, .null, .null, .null, .null, .null, .null, .null, .null, .null, .null] : List Value))) :: cs))
    (kk : ∀ (q36 q37 q38 q39 q40 q41 : Nat) (H1 : Heap) (L1 : List Loc), Wd S A s.heap H1 L1 ((h0, .inr (11, (P ++ ([.ref q36, .ref q37, .ref q38, .ref q39, .ref q40, .ref q41] : List Value)) ++ ([.null, .int 0, .null, .null, .int 0, .null, .null, .int 0, .int 0, .null, .int 0, .int 0, .null, .null, .null, .null, .null, .null, .null, .null, .null, .int 0, .null, .null, .null, .null, .null, .null, .null, .null, .null, .null, .null] : List Value))) :: ((((((cs ++ [(q36, .inl (sE S 0, 1000, .inl fun _ => 0))]) ++ [(q37, .inl (sE S 0, 1000, .inl fun _ => 0))]) ++ [(q38, .inl (sE S 0, 5, .inl fun _ => 0))]) ++ [(q39, .inl (sE S 0, 300, .inl fun _ => 0))]) ++ [(q40, .inl (sE S 0, 300, .inl fun _ => 0))]) ++ [(q41, .inl (sE S 0, 300, .inl fun _ => 0))])) → W p l e (rI m_X12_init 67 113007) s m args below meth c H1 L1 41 22699 Q (F0 m 343 ls [])) : W p l e (rI m_X12_init 67 113007) s m args below meth c H locs 35 19794 Q (F0 m 291 ls []) := by
  have n0 : (P ++ ([.null, .null, .null, .null, .null, .null, .null, .int 0, .null, .null, .int 0, .null, .null, .int 0, .int 0, .null, .int 0, .int 0, .null, .null, .null, .null, .null, .null, .null, .null, .null, .int 0, .null, .null, .null, .null, .null, .null, .null, .null, .null, .null, .null] : List Value)).length = 81 := by rw [List.length_append, hP]; rfl
  refine lv_aload_n X.1 X.2.1 dX12_init_291 rfl (lv_at hl 0 rfl) ?_
  refine lv_sipush (v := 1000) X.1 X.2.1 dX12_init_292 (by decide) ?_
  refine nw_newa (atype := .int) (ty := .int) (N' := 1000) (a0 := (1000, .inl fun _ => 0)) 0 X hA qc_63 rfl rfl (fun _ => rfl) (by decide) (by decide) (Nat.le_of_ble_eq_true rfl) (Nat.le_of_ble_eq_true rfl) (Nat.le_of_ble_eq_true rfl) W0 dX12_init_295 (fun q36 H1 W1 => ?_)
  refine nw_putF (k := 42) X qi_12 tyX12_ok nmX12 rfl (by decide) qw_1176 rfl hin rfl (tyX12_ok 42 (by decide)) rfl rfl n0 W1 dX12_init_297 (fun H2 L2 W2 n2 => ?_)
  refine lv_aload_n X.1 X.2.1 dX12_init_300 rfl (lv_at hl 0 rfl) ?_
  refine lv_sipush (v := 1000) X.1 X.2.1 dX12_init_301 (by decide) ?_
  refine nw_newa (atype := .int) (ty := .int) (N' := 1000) (a0 := (1000, .inl fun _ => 0)) 0 X hA qc_63 rfl rfl (fun _ => rfl) (by decide) (by decide) (Nat.le_of_ble_eq_true rfl) (Nat.le_of_ble_eq_true rfl) (Nat.le_of_ble_eq_true rfl) W2 dX12_init_304 (fun q37 H3 W3 => ?_)
  refine nw_putF (k := 43) X qi_12 tyX12_ok nmX12 rfl (by decide) qw_1177 rfl hin rfl (tyX12_ok 43 (by decide)) rfl rfl n2 W3 dX12_init_306 (fun H4 L4 W4 n4 => ?_)
  refine lv_aload_n X.1 X.2.1 dX12_init_309 rfl (lv_at hl 0 rfl) ?_
  refine lv_iconst (v := 5) X.1 X.2.1 dX12_init_310 (by decide) ?_
  refine nw_newa (atype := .int) (ty := .int) (N' := 5) (a0 := (5, .inl fun _ => 0)) 0 X hA qc_63 rfl rfl (fun _ => rfl) (by decide) (by decide) (Nat.le_of_ble_eq_true rfl) (Nat.le_of_ble_eq_true rfl) (Nat.le_of_ble_eq_true rfl) W4 dX12_init_311 (fun q38 H5 W5 => ?_)
  refine nw_putF (k := 44) X qi_12 tyX12_ok nmX12 rfl (by decide) qw_1178 rfl hin rfl (tyX12_ok 44 (by decide)) rfl rfl n4 W5 dX12_init_313 (fun H6 L6 W6 n6 => ?_)
  refine lv_aload_n X.1 X.2.1 dX12_init_316 rfl (lv_at hl 0 rfl) ?_
  refine lv_sipush (v := 300) X.1 X.2.1 dX12_init_317 (by decide) ?_
  refine nw_newa (atype := .int) (ty := .int) (N' := 300) (a0 := (300, .inl fun _ => 0)) 0 X hA qc_63 rfl rfl (fun _ => rfl) (by decide) (by decide) (Nat.le_of_ble_eq_true rfl) (Nat.le_of_ble_eq_true rfl) (Nat.le_of_ble_eq_true rfl) W6 dX12_init_320 (fun q39 H7 W7 => ?_)
  refine nw_putF (k := 45) X qi_12 tyX12_ok nmX12 rfl (by decide) qw_1179 rfl hin rfl (tyX12_ok 45 (by decide)) rfl rfl n6 W7 dX12_init_322 (fun H8 L8 W8 n8 => ?_)
  refine lv_aload_n X.1 X.2.1 dX12_init_325 rfl (lv_at hl 0 rfl) ?_
  refine lv_sipush (v := 300) X.1 X.2.1 dX12_init_326 (by decide) ?_
  refine nw_newa (atype := .int) (ty := .int) (N' := 300) (a0 := (300, .inl fun _ => 0)) 0 X hA qc_63 rfl rfl (fun _ => rfl) (by decide) (by decide) (Nat.le_of_ble_eq_true rfl) (Nat.le_of_ble_eq_true rfl) (Nat.le_of_ble_eq_true rfl) W8 dX12_init_329 (fun q40 H9 W9 => ?_)
  refine nw_putF (k := 46) X qi_12 tyX12_ok nmX12 rfl (by decide) qw_1180 rfl hin rfl (tyX12_ok 46 (by decide)) rfl rfl n8 W9 dX12_init_331 (fun H10 L10 W10 n10 => ?_)
  refine lv_aload_n X.1 X.2.1 dX12_init_334 rfl (lv_at hl 0 rfl) ?_
  refine lv_sipush (v := 300) X.1 X.2.1 dX12_init_335 (by decide) ?_
  refine nw_newa (atype := .int) (ty := .int) (N' := 300) (a0 := (300, .inl fun _ => 0)) 0 X hA qc_63 rfl rfl (fun _ => rfl) (by decide) (by decide) (Nat.le_of_ble_eq_true rfl) (Nat.le_of_ble_eq_true rfl) (Nat.le_of_ble_eq_true rfl) W10 dX12_init_338 (fun q41 H11 W11 => ?_)
  refine nw_putF (k := 47) X qi_12 tyX12_ok nmX12 rfl (by decide) qw_1181 rfl hin rfl (tyX12_ok 47 (by decide)) rfl rfl n10 W11 dX12_init_340 (fun H12 L12 W12 n12 => ?_)
  have e : (((((((P ++ ([.null, .null, .null, .null, .null, .null, .null, .int 0, .null, .null, .int 0, .null, .null, .int 0, .int 0, .null, .int 0, .int 0, .null, .null, .null, .null, .null, .null, .null, .null, .null, .int 0, .null, .null, .null, .null, .null, .null, .null, .null, .null, .null, .null] : List Value)).set 42 (.ref q36)).set 43 (.ref q37)).set 44 (.ref q38)).set 45 (.ref q39)).set 46 (.ref q40)).set 47 (.ref q41)) = (P ++ ([.ref q36, .ref q37, .ref q38, .ref q39, .ref q40, .ref q41] : List Value)) ++ ([.null, .int 0, .null, .null, .int 0, .null, .null, .int 0, .int 0, .null, .int 0, .int 0, .null, .null, .null, .null, .null, .null, .null, .null, .null, .int 0, .null, .null, .null, .null, .null, .null, .null, .null, .null, .null, .null] : List Value) := by
    rw [set_app hP 42 0 rfl, set_app hP 43 1 rfl, set_app hP 44 2 rfl, set_app hP 45 3 rfl, set_app hP 46 4 rfl, set_app hP 47 5 rfl, List.append_assoc]
    rfl
  rw [e] at W12
  exact W.widen (Nat.le_of_ble_eq_true rfl) (Nat.le_of_ble_eq_true rfl) (kk q36 q37 q38 q39 q40 q41 _ _ W12)
set_option maxRecDepth 100000 in
set_option maxHeartbeats 1000000 in
theorem mk_X12_7 {S : Shp} {p : Program} {l : Launch} {e : Env} {s : State} {m : MethodId} {args : Array Value} {below : List Frame} {meth : Method} {c : Code} {h0 : Nat} {ls : Array Slot} {A : Nat → Prop} {Q : State → Prop} {H : Heap} {locs : List Loc} {P : List Value} {cs : va_W} (hA : ∀ q, s.heap.size ≤ q → A q) (X : Cg (my m_X12_init).cls (mb m_X12_init) (mn m_X12_init) (wI m_X12_init) S p s m args c) (hin : meth.name = "<init>") (hl : lv_has ls 1 [(0, .ref h0)]) (hP : P.length = 48) (W0 : Wd S A s.heap H locs ((h0, .inr (11, P ++ ([.null, .int 0, .null, .null, .int 0, .null, .null, .int 0, .int 0, .null, .int 0, .int 0, .null, .null, .null, .null, .null, .null, .null, .null, .null, .int 0, .null, .null, .null, .null, .null, .null, .null, .null, .null, .null, .null] : List Value))) :: cs))
    (kk : ∀ (q42 q43 q44 q45 q46 q47 : Nat) (H1 : Heap) (L1 : List Loc), Wd S A s.heap H1 L1 ((h0, .inr (11, (P ++ ([.ref q42, .int 0, .ref q43, .ref q44, .int 0, .ref q45, .ref q46, .int 0, .int 0, .ref q47] : List Value)) ++ ([.int 0, .int 0, .null, .null, .null, .null, .null, .null, .null, .null, .null, .int 0, .null, .null, .null, .null, .null, .null, .null, .null, .null, .null, .null] : List Value))) :: ((((((cs ++ [(q42, .inl (sE S 0, 300, .inl fun _ => 0))]) ++ [(q43, .inl (sE S 3, 20, .inr (.inl fun _ => 0)))]) ++ [(q44, .inl (sE S 0, 20, .inl fun _ => 0))]) ++ [(q45, .inl (sE S 0, 6, .inl fun _ => 0))]) ++ [(q46, .inl (sE S 0, 6, .inl fun _ => 0))]) ++ [(q47, .inl (sE S 0, 500, .inl fun _ => 0))])) → W p l e (rI m_X12_init 67 113007) s m args below meth c H1 L1 47 23551 Q (F0 m 393 ls [])) : W p l e (rI m_X12_init 67 113007) s m args below meth c H locs 41 22699 Q (F0 m 343 ls []) := by
  have n0 : (P ++ ([.null, .int 0, .null, .null, .int 0, .null, .null, .int 0, .int 0, .null, .int 0, .int 0, .null, .null, .null, .null, .null, .null, .null, .null, .null, .int 0, .null, .null, .null, .null, .null, .null, .null, .null, .null, .null, .null] : List Value)).length = 81 := by rw [List.length_append, hP]; rfl
  refine lv_aload_n X.1 X.2.1 dX12_init_343 rfl (lv_at hl 0 rfl) ?_
  refine lv_sipush (v := 300) X.1 X.2.1 dX12_init_344 (by decide) ?_
  refine nw_newa (atype := .int) (ty := .int) (N' := 300) (a0 := (300, .inl fun _ => 0)) 0 X hA qc_63 rfl rfl (fun _ => rfl) (by decide) (by decide) (Nat.le_of_ble_eq_true rfl) (Nat.le_of_ble_eq_true rfl) (Nat.le_of_ble_eq_true rfl) W0 dX12_init_347 (fun q42 H1 W1 => ?_)
  refine nw_putF (k := 48) X qi_12 tyX12_ok nmX12 rfl (by decide) qw_1182 rfl hin rfl (tyX12_ok 48 (by decide)) rfl rfl n0 W1 dX12_init_349 (fun H2 L2 W2 n2 => ?_)
  refine lv_aload_n X.1 X.2.1 dX12_init_352 rfl (lv_at hl 0 rfl) ?_
  refine lv_bipush (v := 20) X.1 X.2.1 dX12_init_353 (by decide) ?_
  refine nw_newa (atype := .long) (ty := .long) (N' := 20) (a0 := (20, .inr (.inl fun _ => 0))) 3 X hA qc_64 rfl rfl (fun _ => rfl) (by decide) (by decide) (Nat.le_of_ble_eq_true rfl) (Nat.le_of_ble_eq_true rfl) (Nat.le_of_ble_eq_true rfl) W2 dX12_init_355 (fun q43 H3 W3 => ?_)
  refine nw_putF (k := 50) X qi_12 tyX12_ok nmX12 rfl (by decide) qw_1184 rfl hin rfl (tyX12_ok 50 (by decide)) rfl rfl n2 W3 dX12_init_357 (fun H4 L4 W4 n4 => ?_)
  refine lv_aload_n X.1 X.2.1 dX12_init_360 rfl (lv_at hl 0 rfl) ?_
  refine lv_bipush (v := 20) X.1 X.2.1 dX12_init_361 (by decide) ?_
  refine nw_newa (atype := .int) (ty := .int) (N' := 20) (a0 := (20, .inl fun _ => 0)) 0 X hA qc_63 rfl rfl (fun _ => rfl) (by decide) (by decide) (Nat.le_of_ble_eq_true rfl) (Nat.le_of_ble_eq_true rfl) (Nat.le_of_ble_eq_true rfl) W4 dX12_init_363 (fun q44 H5 W5 => ?_)
  refine nw_putF (k := 51) X qi_12 tyX12_ok nmX12 rfl (by decide) qw_1185 rfl hin rfl (tyX12_ok 51 (by decide)) rfl rfl n4 W5 dX12_init_365 (fun H6 L6 W6 n6 => ?_)
  refine lv_aload_n X.1 X.2.1 dX12_init_368 rfl (lv_at hl 0 rfl) ?_
  refine lv_bipush (v := 6) X.1 X.2.1 dX12_init_369 (by decide) ?_
  refine nw_newa (atype := .int) (ty := .int) (N' := 6) (a0 := (6, .inl fun _ => 0)) 0 X hA qc_63 rfl rfl (fun _ => rfl) (by decide) (by decide) (Nat.le_of_ble_eq_true rfl) (Nat.le_of_ble_eq_true rfl) (Nat.le_of_ble_eq_true rfl) W6 dX12_init_371 (fun q45 H7 W7 => ?_)
  refine nw_putF (k := 53) X qi_12 tyX12_ok nmX12 rfl (by decide) qw_1187 rfl hin rfl (tyX12_ok 53 (by decide)) rfl rfl n6 W7 dX12_init_373 (fun H8 L8 W8 n8 => ?_)
  refine lv_aload_n X.1 X.2.1 dX12_init_376 rfl (lv_at hl 0 rfl) ?_
  refine lv_bipush (v := 6) X.1 X.2.1 dX12_init_377 (by decide) ?_
  refine nw_newa (atype := .int) (ty := .int) (N' := 6) (a0 := (6, .inl fun _ => 0)) 0 X hA qc_63 rfl rfl (fun _ => rfl) (by decide) (by decide) (Nat.le_of_ble_eq_true rfl) (Nat.le_of_ble_eq_true rfl) (Nat.le_of_ble_eq_true rfl) W8 dX12_init_379 (fun q46 H9 W9 => ?_)
  refine nw_putF (k := 54) X qi_12 tyX12_ok nmX12 rfl (by decide) qw_1188 rfl hin rfl (tyX12_ok 54 (by decide)) rfl rfl n8 W9 dX12_init_381 (fun H10 L10 W10 n10 => ?_)
  refine lv_aload_n X.1 X.2.1 dX12_init_384 rfl (lv_at hl 0 rfl) ?_
  refine lv_sipush (v := 500) X.1 X.2.1 dX12_init_385 (by decide) ?_
  refine nw_newa (atype := .int) (ty := .int) (N' := 500) (a0 := (500, .inl fun _ => 0)) 0 X hA qc_63 rfl rfl (fun _ => rfl) (by decide) (by decide) (Nat.le_of_ble_eq_true rfl) (Nat.le_of_ble_eq_true rfl) (Nat.le_of_ble_eq_true rfl) W10 dX12_init_388 (fun q47 H11 W11 => ?_)
  refine nw_putF (k := 57) X qi_12 tyX12_ok nmX12 rfl (by decide) qw_1191 rfl hin rfl (tyX12_ok 57 (by decide)) rfl rfl n10 W11 dX12_init_390 (fun H12 L12 W12 n12 => ?_)
  have e : (((((((P ++ ([.null, .int 0, .null, .null, .int 0, .null, .null, .int 0, .int 0, .null, .int 0, .int 0, .null, .null, .null, .null, .null, .null, .null, .null, .null, .int 0, .null, .null, .null, .null, .null, .null, .null, .null, .null, .null, .null] : List Value)).set 48 (.ref q42)).set 50 (.ref q43)).set 51 (.ref q44)).set 53 (.ref q45)).set 54 (.ref q46)).set 57 (.ref q47)) = (P ++ ([.ref q42, .int 0, .ref q43, .ref q44, .int 0, .ref q45, .ref q46, .int 0, .int 0, .ref q47] : List Value)) ++ ([.int 0, .int 0, .null, .null, .null, .null, .null, .null, .null, .null, .null, .int 0, .null, .null, .null, .null, .null, .null, .null, .null, .null, .null, .null] : List Value) := by
    rw [set_app hP 48 0 rfl, set_app hP 50 2 rfl, set_app hP 51 3 rfl, set_app hP 53 5 rfl, set_app hP 54 6 rfl, set_app hP 57 9 rfl, List.append_assoc]
    rfl
  rw [e] at W12
  exact W.widen (Nat.le_of_ble_eq_true rfl) (Nat.le_of_ble_eq_true rfl) (kk q42 q43 q44 q45 q46 q47 _ _ W12)
set_option maxRecDepth 100000 in
set_option maxHeartbeats 1000000 in
theorem mk_X12_8 {S : Shp} {p : Program} {l : Launch} {e : Env} {s : State} {m : MethodId} {args : Array Value} {below : List Frame} {meth : Method} {c : Code} {h0 : Nat} {ls : Array Slot} {A : Nat → Prop} {Q : State → Prop} {H : Heap} {locs : List Loc} {P : List Value} {cs : va_W} (hA : ∀ q, s.heap.size ≤ q → A q) (X : Cg (my m_X12_init).cls (mb m_X12_init) (mn m_X12_init) (wI m_X12_init) S p s m args c) (hin : meth.name = "<init>") (hl : lv_has ls 1 [(0, .ref h0)]) (hP : P.length = 58) (W0 : Wd S A s.heap H locs ((h0, .inr (11, P ++ ([.int 0, .int 0, .null, .null, .null, .null, .null, .null, .null, .null, .null, .int 0, .null, .null, .null, .null, .null, .null, .null, .null, .null, .null, .null] : List Value))) :: cs))
    (kk : ∀ (q48 q49 q50 q51 q52 q53 : Nat) (H1 : Heap) (L1 : List Loc), Wd S A s.heap H1 L1 ((h0, .inr (11, (P ++ ([.int 0, .int 0, .ref q48, .ref q49, .ref q50, .ref q51, .ref q52, .ref q53] : List Value)) ++ ([.null, .null, .null, .int 0, .null, .null, .null, .null, .null, .null, .null, .null, .null, .null, .null] : List Value))) :: ((((((cs ++ [(q48, .inl (sE S 0, 14, .inl fun _ => 0))]) ++ [(q49, .inl (sE S 0, 14, .inl fun _ => 0))]) ++ [(q50, .inl (sE S 0, 14, .inl fun _ => 0))]) ++ [(q51, .inl (sE S 2, 14, .inl fun _ => 0))]) ++ [(q52, .inl (sE S 2, 196, .inl fun _ => 0))]) ++ [(q53, .inl (sE S 0, 196, .inl fun _ => 0))])) → W p l e (rI m_X12_init 67 113007) s m args below meth c H1 L1 53 23999 Q (F0 m 443 ls [])) : W p l e (rI m_X12_init 67 113007) s m args below meth c H locs 47 23551 Q (F0 m 393 ls []) := by
  have n0 : (P ++ ([.int 0, .int 0, .null, .null, .null, .null, .null, .null, .null, .null, .null, .int 0, .null, .null, .null, .null, .null, .null, .null, .null, .null, .null, .null] : List Value)).length = 81 := by rw [List.length_append, hP]; rfl
  refine lv_aload_n X.1 X.2.1 dX12_init_393 rfl (lv_at hl 0 rfl) ?_
  refine lv_bipush (v := 14) X.1 X.2.1 dX12_init_394 (by decide) ?_
  refine nw_newa (atype := .int) (ty := .int) (N' := 14) (a0 := (14, .inl fun _ => 0)) 0 X hA qc_63 rfl rfl (fun _ => rfl) (by decide) (by decide) (Nat.le_of_ble_eq_true rfl) (Nat.le_of_ble_eq_true rfl) (Nat.le_of_ble_eq_true rfl) W0 dX12_init_396 (fun q48 H1 W1 => ?_)
  refine nw_putF (k := 60) X qi_12 tyX12_ok nmX12 rfl (by decide) qw_1194 rfl hin rfl (tyX12_ok 60 (by decide)) rfl rfl n0 W1 dX12_init_398 (fun H2 L2 W2 n2 => ?_)
  refine lv_aload_n X.1 X.2.1 dX12_init_401 rfl (lv_at hl 0 rfl) ?_
  refine lv_bipush (v := 14) X.1 X.2.1 dX12_init_402 (by decide) ?_
  refine nw_newa (atype := .int) (ty := .int) (N' := 14) (a0 := (14, .inl fun _ => 0)) 0 X hA qc_63 rfl rfl (fun _ => rfl) (by decide) (by decide) (Nat.le_of_ble_eq_true rfl) (Nat.le_of_ble_eq_true rfl) (Nat.le_of_ble_eq_true rfl) W2 dX12_init_404 (fun q49 H3 W3 => ?_)
  refine nw_putF (k := 61) X qi_12 tyX12_ok nmX12 rfl (by decide) qw_1195 rfl hin rfl (tyX12_ok 61 (by decide)) rfl rfl n2 W3 dX12_init_406 (fun H4 L4 W4 n4 => ?_)
  refine lv_aload_n X.1 X.2.1 dX12_init_409 rfl (lv_at hl 0 rfl) ?_
  refine lv_bipush (v := 14) X.1 X.2.1 dX12_init_410 (by decide) ?_
  refine nw_newa (atype := .int) (ty := .int) (N' := 14) (a0 := (14, .inl fun _ => 0)) 0 X hA qc_63 rfl rfl (fun _ => rfl) (by decide) (by decide) (Nat.le_of_ble_eq_true rfl) (Nat.le_of_ble_eq_true rfl) (Nat.le_of_ble_eq_true rfl) W4 dX12_init_412 (fun q50 H5 W5 => ?_)
  refine nw_putF (k := 62) X qi_12 tyX12_ok nmX12 rfl (by decide) qw_1196 rfl hin rfl (tyX12_ok 62 (by decide)) rfl rfl n4 W5 dX12_init_414 (fun H6 L6 W6 n6 => ?_)
  refine lv_aload_n X.1 X.2.1 dX12_init_417 rfl (lv_at hl 0 rfl) ?_
  refine lv_bipush (v := 14) X.1 X.2.1 dX12_init_418 (by decide) ?_
  refine nw_newa (atype := .boolean) (ty := .boolean) (N' := 14) (a0 := (14, .inl fun _ => 0)) 2 X hA qc_308 rfl rfl (fun _ => rfl) (by decide) (by decide) (Nat.le_of_ble_eq_true rfl) (Nat.le_of_ble_eq_true rfl) (Nat.le_of_ble_eq_true rfl) W6 dX12_init_420 (fun q51 H7 W7 => ?_)
  refine nw_putF (k := 63) X qi_12 tyX12_ok nmX12 rfl (by decide) qw_1197 rfl hin rfl (tyX12_ok 63 (by decide)) rfl rfl n6 W7 dX12_init_422 (fun H8 L8 W8 n8 => ?_)
  refine lv_aload_n X.1 X.2.1 dX12_init_425 rfl (lv_at hl 0 rfl) ?_
  refine lv_sipush (v := 196) X.1 X.2.1 dX12_init_426 (by decide) ?_
  refine nw_newa (atype := .boolean) (ty := .boolean) (N' := 196) (a0 := (196, .inl fun _ => 0)) 2 X hA qc_308 rfl rfl (fun _ => rfl) (by decide) (by decide) (Nat.le_of_ble_eq_true rfl) (Nat.le_of_ble_eq_true rfl) (Nat.le_of_ble_eq_true rfl) W8 dX12_init_429 (fun q52 H9 W9 => ?_)
  refine nw_putF (k := 64) X qi_12 tyX12_ok nmX12 rfl (by decide) qw_1198 rfl hin rfl (tyX12_ok 64 (by decide)) rfl rfl n8 W9 dX12_init_431 (fun H10 L10 W10 n10 => ?_)
  refine lv_aload_n X.1 X.2.1 dX12_init_434 rfl (lv_at hl 0 rfl) ?_
  refine lv_sipush (v := 196) X.1 X.2.1 dX12_init_435 (by decide) ?_
  refine nw_newa (atype := .int) (ty := .int) (N' := 196) (a0 := (196, .inl fun _ => 0)) 0 X hA qc_63 rfl rfl (fun _ => rfl) (by decide) (by decide) (Nat.le_of_ble_eq_true rfl) (Nat.le_of_ble_eq_true rfl) (Nat.le_of_ble_eq_true rfl) W10 dX12_init_438 (fun q53 H11 W11 => ?_)
  refine nw_putF (k := 65) X qi_12 tyX12_ok nmX12 rfl (by decide) qw_1199 rfl hin rfl (tyX12_ok 65 (by decide)) rfl rfl n10 W11 dX12_init_440 (fun H12 L12 W12 n12 => ?_)
  have e : (((((((P ++ ([.int 0, .int 0, .null, .null, .null, .null, .null, .null, .null, .null, .null, .int 0, .null, .null, .null, .null, .null, .null, .null, .null, .null, .null, .null] : List Value)).set 60 (.ref q48)).set 61 (.ref q49)).set 62 (.ref q50)).set 63 (.ref q51)).set 64 (.ref q52)).set 65 (.ref q53)) = (P ++ ([.int 0, .int 0, .ref q48, .ref q49, .ref q50, .ref q51, .ref q52, .ref q53] : List Value)) ++ ([.null, .null, .null, .int 0, .null, .null, .null, .null, .null, .null, .null, .null, .null, .null, .null] : List Value) := by
    rw [set_app hP 60 2 rfl, set_app hP 61 3 rfl, set_app hP 62 4 rfl, set_app hP 63 5 rfl, set_app hP 64 6 rfl, set_app hP 65 7 rfl, List.append_assoc]
    rfl
  rw [e] at W12
  exact W.widen (Nat.le_of_ble_eq_true rfl) (Nat.le_of_ble_eq_true rfl) (kk q48 q49 q50 q51 q52 q53 _ _ W12)
set_option maxRecDepth 100000 in
set_option maxHeartbeats 1000000 in
theorem mk_X12_9 {S : Shp} {p : Program} {l : Launch} {e : Env} {s : State} {m : MethodId} {args : Array Value} {below : List Frame} {meth : Method} {c : Code} {h0 : Nat} {ls : Array Slot} {A : Nat → Prop} {Q : State → Prop} {H : Heap} {locs : List Loc} {P : List Value} {cs : va_W} (hA : ∀ q, s.heap.size ≤ q → A q) (X : Cg (my m_X12_init).cls (mb m_X12_init) (mn m_X12_init) (wI m_X12_init) S p s m args c) (hin : meth.name = "<init>") (hl : lv_has ls 1 [(0, .ref h0)]) (hP : P.length = 66) (W0 : Wd S A s.heap H locs ((h0, .inr (11, P ++ ([.null, .null, .null, .int 0, .null, .null, .null, .null, .null, .null, .null, .null, .null, .null, .null] : List Value))) :: cs))
    (kk : ∀ (q54 q55 q56 q57 q58 q59 : Nat) (H1 : Heap) (L1 : List Loc), Wd S A s.heap H1 L1 ((h0, .inr (11, (P ++ ([.ref q54, .ref q55, .ref q56, .int 0, .ref q57, .ref q58, .ref q59] : List Value)) ++ ([.null, .null, .null, .null, .null, .null, .null, .null] : List Value))) :: ((((((cs ++ [(q54, .inl (sE S 0, 196, .inl fun _ => 0))]) ++ [(q55, .inl (sE S 2, 196, .inl fun _ => 0))]) ++ [(q56, .inl (sE S 0, 9, .inl fun _ => 0))]) ++ [(q57, .inl (sE S 0, 500, .inl fun _ => 0))]) ++ [(q58, .inl (sE S 0, 5, .inl fun _ => 0))]) ++ [(q59, .inl (sE S 0, 16384, .inl fun _ => 0))])) → W p l e (rI m_X12_init 67 113007) s m args below meth c H1 L1 59 41289 Q (F0 m 494 ls [])) : W p l e (rI m_X12_init 67 113007) s m args below meth c H locs 53 23999 Q (F0 m 443 ls []) := by
  have n0 : (P ++ ([.null, .null, .null, .int 0, .null, .null, .null, .null, .null, .null, .null, .null, .null, .null, .null] : List Value)).length = 81 := by rw [List.length_append, hP]; rfl
  refine lv_aload_n X.1 X.2.1 dX12_init_443 rfl (lv_at hl 0 rfl) ?_
  refine lv_sipush (v := 196) X.1 X.2.1 dX12_init_444 (by decide) ?_
  refine nw_newa (atype := .int) (ty := .int) (N' := 196) (a0 := (196, .inl fun _ => 0)) 0 X hA qc_63 rfl rfl (fun _ => rfl) (by decide) (by decide) (Nat.le_of_ble_eq_true rfl) (Nat.le_of_ble_eq_true rfl) (Nat.le_of_ble_eq_true rfl) W0 dX12_init_447 (fun q54 H1 W1 => ?_)
  refine nw_putF (k := 66) X qi_12 tyX12_ok nmX12 rfl (by decide) qw_1200 rfl hin rfl (tyX12_ok 66 (by decide)) rfl rfl n0 W1 dX12_init_449 (fun H2 L2 W2 n2 => ?_)
  refine lv_aload_n X.1 X.2.1 dX12_init_452 rfl (lv_at hl 0 rfl) ?_
  refine lv_sipush (v := 196) X.1 X.2.1 dX12_init_453 (by decide) ?_
  refine nw_newa (atype := .boolean) (ty := .boolean) (N' := 196) (a0 := (196, .inl fun _ => 0)) 2 X hA qc_308 rfl rfl (fun _ => rfl) (by decide) (by decide) (Nat.le_of_ble_eq_true rfl) (Nat.le_of_ble_eq_true rfl) (Nat.le_of_ble_eq_true rfl) W2 dX12_init_456 (fun q55 H3 W3 => ?_)
  refine nw_putF (k := 67) X qi_12 tyX12_ok nmX12 rfl (by decide) qw_1201 rfl hin rfl (tyX12_ok 67 (by decide)) rfl rfl n2 W3 dX12_init_458 (fun H4 L4 W4 n4 => ?_)
  refine lv_aload_n X.1 X.2.1 dX12_init_461 rfl (lv_at hl 0 rfl) ?_
  refine lv_bipush (v := 9) X.1 X.2.1 dX12_init_462 (by decide) ?_
  refine nw_newa (atype := .int) (ty := .int) (N' := 9) (a0 := (9, .inl fun _ => 0)) 0 X hA qc_63 rfl rfl (fun _ => rfl) (by decide) (by decide) (Nat.le_of_ble_eq_true rfl) (Nat.le_of_ble_eq_true rfl) (Nat.le_of_ble_eq_true rfl) W4 dX12_init_464 (fun q56 H5 W5 => ?_)
  refine nw_putF (k := 68) X qi_12 tyX12_ok nmX12 rfl (by decide) qw_1202 rfl hin rfl (tyX12_ok 68 (by decide)) rfl rfl n4 W5 dX12_init_466 (fun H6 L6 W6 n6 => ?_)
  refine lv_aload_n X.1 X.2.1 dX12_init_469 rfl (lv_at hl 0 rfl) ?_
  refine lv_sipush (v := 500) X.1 X.2.1 dX12_init_470 (by decide) ?_
  refine nw_newa (atype := .int) (ty := .int) (N' := 500) (a0 := (500, .inl fun _ => 0)) 0 X hA qc_63 rfl rfl (fun _ => rfl) (by decide) (by decide) (Nat.le_of_ble_eq_true rfl) (Nat.le_of_ble_eq_true rfl) (Nat.le_of_ble_eq_true rfl) W6 dX12_init_473 (fun q57 H7 W7 => ?_)
  refine nw_putF (k := 70) X qi_12 tyX12_ok nmX12 rfl (by decide) qw_1204 rfl hin rfl (tyX12_ok 70 (by decide)) rfl rfl n6 W7 dX12_init_475 (fun H8 L8 W8 n8 => ?_)
  refine lv_aload_n X.1 X.2.1 dX12_init_478 rfl (lv_at hl 0 rfl) ?_
  refine lv_iconst (v := 5) X.1 X.2.1 dX12_init_479 (by decide) ?_
  refine nw_newa (atype := .int) (ty := .int) (N' := 5) (a0 := (5, .inl fun _ => 0)) 0 X hA qc_63 rfl rfl (fun _ => rfl) (by decide) (by decide) (Nat.le_of_ble_eq_true rfl) (Nat.le_of_ble_eq_true rfl) (Nat.le_of_ble_eq_true rfl) W8 dX12_init_480 (fun q58 H9 W9 => ?_)
  refine nw_putF (k := 71) X qi_12 tyX12_ok nmX12 rfl (by decide) qw_1205 rfl hin rfl (tyX12_ok 71 (by decide)) rfl rfl n8 W9 dX12_init_482 (fun H10 L10 W10 n10 => ?_)
  refine lv_aload_n X.1 X.2.1 dX12_init_485 rfl (lv_at hl 0 rfl) ?_
  refine lv_sipush (v := 16384) X.1 X.2.1 dX12_init_486 (by decide) ?_
  refine nw_newa (atype := .int) (ty := .int) (N' := 16384) (a0 := (16384, .inl fun _ => 0)) 0 X hA qc_63 rfl rfl (fun _ => rfl) (by decide) (by decide) (Nat.le_of_ble_eq_true rfl) (Nat.le_of_ble_eq_true rfl) (Nat.le_of_ble_eq_true rfl) W10 dX12_init_489 (fun q59 H11 W11 => ?_)
  refine nw_putF (k := 72) X qi_12 tyX12_ok nmX12 rfl (by decide) qw_1206 rfl hin rfl (tyX12_ok 72 (by decide)) rfl rfl n10 W11 dX12_init_491 (fun H12 L12 W12 n12 => ?_)
  have e : (((((((P ++ ([.null, .null, .null, .int 0, .null, .null, .null, .null, .null, .null, .null, .null, .null, .null, .null] : List Value)).set 66 (.ref q54)).set 67 (.ref q55)).set 68 (.ref q56)).set 70 (.ref q57)).set 71 (.ref q58)).set 72 (.ref q59)) = (P ++ ([.ref q54, .ref q55, .ref q56, .int 0, .ref q57, .ref q58, .ref q59] : List Value)) ++ ([.null, .null, .null, .null, .null, .null, .null, .null] : List Value) := by
    rw [set_app hP 66 0 rfl, set_app hP 67 1 rfl, set_app hP 68 2 rfl, set_app hP 70 4 rfl, set_app hP 71 5 rfl, set_app hP 72 6 rfl, List.append_assoc]
    rfl
  rw [e] at W12
  exact W.widen (Nat.le_of_ble_eq_true rfl) (Nat.le_of_ble_eq_true rfl) (kk q54 q55 q56 q57 q58 q59 _ _ W12)
set_option maxRecDepth 100000 in
set_option maxHeartbeats 1000000 in
theorem mk_X12_10 {S : Shp} {p : Program} {l : Launch} {e : Env} {s : State} {m : MethodId} {args : Array Value} {below : List Frame} {meth : Method} {c : Code} {h0 : Nat} {ls : Array Slot} {A : Nat → Prop} {Q : State → Prop} {H : Heap} {locs : List Loc} {P : List Value} {cs : va_W} (hA : ∀ q, s.heap.size ≤ q → A q) (X : Cg (my m_X12_init).cls (mb m_X12_init) (mn m_X12_init) (wI m_X12_init) S p s m args c) (hin : meth.name = "<init>") (hl : lv_has ls 1 [(0, .ref h0)]) (hP : P.length = 73) (W0 : Wd S A s.heap H locs ((h0, .inr (11, P ++ ([.null, .null, .null, .null, .null, .null, .null, .null] : List Value))) :: cs))
    (kk : ∀ (q60 q61 q62 q63 q64 q65 : Nat) (H1 : Heap) (L1 : List Loc), Wd S A s.heap H1 L1 ((h0, .inr (11, (P ++ ([.ref q60, .ref q61, .ref q62, .ref q63, .ref q64, .ref q65] : List Value)) ++ ([.null, .null] : List Value))) :: ((((((cs ++ [(q60, .inl (sE S 0, 14, .inl fun _ => 0))]) ++ [(q61, .inl (sE S 0, 360, .inl fun _ => 0))]) ++ [(q62, .inl (sE S 0, 360, .inl fun _ => 0))]) ++ [(q63, .inl (sE S 0, 200, .inl fun _ => 0))]) ++ [(q64, .inl (sE S 0, 70560, .inl fun _ => 0))]) ++ [(q65, .inl (sE S 2, 196, .inl fun _ => 0))])) → W p l e (rI m_X12_init 67 113007) s m args below meth c H1 L1 65 112979 Q (F0 m 546 ls [])) : W p l e (rI m_X12_init 67 113007) s m args below meth c H locs 59 41289 Q (F0 m 494 ls []) := by
  have n0 : (P ++ ([.null, .null, .null, .null, .null, .null, .null, .null] : List Value)).length = 81 := by rw [List.length_append, hP]; rfl
  refine lv_aload_n X.1 X.2.1 dX12_init_494 rfl (lv_at hl 0 rfl) ?_
  refine lv_bipush (v := 14) X.1 X.2.1 dX12_init_495 (by decide) ?_
  refine nw_newa (atype := .int) (ty := .int) (N' := 14) (a0 := (14, .inl fun _ => 0)) 0 X hA qc_63 rfl rfl (fun _ => rfl) (by decide) (by decide) (Nat.le_of_ble_eq_true rfl) (Nat.le_of_ble_eq_true rfl) (Nat.le_of_ble_eq_true rfl) W0 dX12_init_497 (fun q60 H1 W1 => ?_)
  refine nw_putF (k := 73) X qi_12 tyX12_ok nmX12 rfl (by decide) qw_1207 rfl hin rfl (tyX12_ok 73 (by decide)) rfl rfl n0 W1 dX12_init_499 (fun H2 L2 W2 n2 => ?_)
  refine lv_aload_n X.1 X.2.1 dX12_init_502 rfl (lv_at hl 0 rfl) ?_
  refine lv_sipush (v := 360) X.1 X.2.1 dX12_init_503 (by decide) ?_
  refine nw_newa (atype := .int) (ty := .int) (N' := 360) (a0 := (360, .inl fun _ => 0)) 0 X hA qc_63 rfl rfl (fun _ => rfl) (by decide) (by decide) (Nat.le_of_ble_eq_true rfl) (Nat.le_of_ble_eq_true rfl) (Nat.le_of_ble_eq_true rfl) W2 dX12_init_506 (fun q61 H3 W3 => ?_)
  refine nw_putF (k := 74) X qi_12 tyX12_ok nmX12 rfl (by decide) qw_1208 rfl hin rfl (tyX12_ok 74 (by decide)) rfl rfl n2 W3 dX12_init_508 (fun H4 L4 W4 n4 => ?_)
  refine lv_aload_n X.1 X.2.1 dX12_init_511 rfl (lv_at hl 0 rfl) ?_
  refine lv_sipush (v := 360) X.1 X.2.1 dX12_init_512 (by decide) ?_
  refine nw_newa (atype := .int) (ty := .int) (N' := 360) (a0 := (360, .inl fun _ => 0)) 0 X hA qc_63 rfl rfl (fun _ => rfl) (by decide) (by decide) (Nat.le_of_ble_eq_true rfl) (Nat.le_of_ble_eq_true rfl) (Nat.le_of_ble_eq_true rfl) W4 dX12_init_515 (fun q62 H5 W5 => ?_)
  refine nw_putF (k := 75) X qi_12 tyX12_ok nmX12 rfl (by decide) qw_1209 rfl hin rfl (tyX12_ok 75 (by decide)) rfl rfl n4 W5 dX12_init_517 (fun H6 L6 W6 n6 => ?_)
  refine lv_aload_n X.1 X.2.1 dX12_init_520 rfl (lv_at hl 0 rfl) ?_
  refine lv_sipush (v := 200) X.1 X.2.1 dX12_init_521 (by decide) ?_
  refine nw_newa (atype := .int) (ty := .int) (N' := 200) (a0 := (200, .inl fun _ => 0)) 0 X hA qc_63 rfl rfl (fun _ => rfl) (by decide) (by decide) (Nat.le_of_ble_eq_true rfl) (Nat.le_of_ble_eq_true rfl) (Nat.le_of_ble_eq_true rfl) W6 dX12_init_524 (fun q63 H7 W7 => ?_)
  refine nw_putF (k := 76) X qi_12 tyX12_ok nmX12 rfl (by decide) qw_1210 rfl hin rfl (tyX12_ok 76 (by decide)) rfl rfl n6 W7 dX12_init_526 (fun H8 L8 W8 n8 => ?_)
  refine lv_aload_n X.1 X.2.1 dX12_init_529 rfl (lv_at hl 0 rfl) ?_
  refine lv_ldc (v := 70560) X.1 X.2.1 X.2.2.2.1 (X.w qc_1129) dX12_init_530 ?_
  refine nw_newa (atype := .int) (ty := .int) (N' := 70560) (a0 := (70560, .inl fun _ => 0)) 0 X hA qc_63 rfl rfl (fun _ => rfl) (by decide) (by decide) (Nat.le_of_ble_eq_true rfl) (Nat.le_of_ble_eq_true rfl) (Nat.le_of_ble_eq_true rfl) W8 dX12_init_532 (fun q64 H9 W9 => ?_)
  refine nw_putF (k := 77) X qi_12 tyX12_ok nmX12 rfl (by decide) qw_1211 rfl hin rfl (tyX12_ok 77 (by decide)) rfl rfl n8 W9 dX12_init_534 (fun H10 L10 W10 n10 => ?_)
  refine lv_aload_n X.1 X.2.1 dX12_init_537 rfl (lv_at hl 0 rfl) ?_
  refine lv_sipush (v := 196) X.1 X.2.1 dX12_init_538 (by decide) ?_
  refine nw_newa (atype := .boolean) (ty := .boolean) (N' := 196) (a0 := (196, .inl fun _ => 0)) 2 X hA qc_308 rfl rfl (fun _ => rfl) (by decide) (by decide) (Nat.le_of_ble_eq_true rfl) (Nat.le_of_ble_eq_true rfl) (Nat.le_of_ble_eq_true rfl) W10 dX12_init_541 (fun q65 H11 W11 => ?_)
  refine nw_putF (k := 78) X qi_12 tyX12_ok nmX12 rfl (by decide) qw_1212 rfl hin rfl (tyX12_ok 78 (by decide)) rfl rfl n10 W11 dX12_init_543 (fun H12 L12 W12 n12 => ?_)
  have e : (((((((P ++ ([.null, .null, .null, .null, .null, .null, .null, .null] : List Value)).set 73 (.ref q60)).set 74 (.ref q61)).set 75 (.ref q62)).set 76 (.ref q63)).set 77 (.ref q64)).set 78 (.ref q65)) = (P ++ ([.ref q60, .ref q61, .ref q62, .ref q63, .ref q64, .ref q65] : List Value)) ++ ([.null, .null] : List Value) := by
    rw [set_app hP 73 0 rfl, set_app hP 74 1 rfl, set_app hP 75 2 rfl, set_app hP 76 3 rfl, set_app hP 77 4 rfl, set_app hP 78 5 rfl, List.append_assoc]
    rfl
  rw [e] at W12
  exact W.widen (Nat.le_of_ble_eq_true rfl) (Nat.le_of_ble_eq_true rfl) (kk q60 q61 q62 q63 q64 q65 _ _ W12)
set_option maxRecDepth 100000 in
set_option maxHeartbeats 1000000 in
theorem mk_X12_11 {S : Shp} {p : Program} {l : Launch} {e : Env} {s : State} {m : MethodId} {args : Array Value} {below : List Frame} {meth : Method} {c : Code} {h0 : Nat} {ls : Array Slot} {A : Nat → Prop} {Q : State → Prop} {H : Heap} {locs : List Loc} {P : List Value} {cs : va_W} (hA : ∀ q, s.heap.size ≤ q → A q) (X : Cg (my m_X12_init).cls (mb m_X12_init) (mn m_X12_init) (wI m_X12_init) S p s m args c) (hin : meth.name = "<init>") (hl : lv_has ls 1 [(0, .ref h0)]) (hP : P.length = 79) (W0 : Wd S A s.heap H locs ((h0, .inr (11, P ++ ([.null, .null] : List Value))) :: cs))
    (kk : ∀ (q66 q67 : Nat) (H1 : Heap) (L1 : List Loc), Wd S A s.heap H1 L1 ((h0, .inr (11, (P ++ ([.ref q66, .ref q67] : List Value)) ++ ([] : List Value))) :: ((cs ++ [(q66, .inl (sE S 0, 14, .inl fun _ => 0))]) ++ [(q67, .inl (sE S 0, 14, .inl fun _ => 0))])) → W p l e (rI m_X12_init 67 113007) s m args below meth c H1 L1 67 113007 Q (F0 m 562 ls [])) : W p l e (rI m_X12_init 67 113007) s m args below meth c H locs 65 112979 Q (F0 m 546 ls []) := by
  have n0 : (P ++ ([.null, .null] : List Value)).length = 81 := by rw [List.length_append, hP]; rfl
  refine lv_aload_n X.1 X.2.1 dX12_init_546 rfl (lv_at hl 0 rfl) ?_
  refine lv_bipush (v := 14) X.1 X.2.1 dX12_init_547 (by decide) ?_
  refine nw_newa (atype := .int) (ty := .int) (N' := 14) (a0 := (14, .inl fun _ => 0)) 0 X hA qc_63 rfl rfl (fun _ => rfl) (by decide) (by decide) (Nat.le_of_ble_eq_true rfl) (Nat.le_of_ble_eq_true rfl) (Nat.le_of_ble_eq_true rfl) W0 dX12_init_549 (fun q66 H1 W1 => ?_)
  refine nw_putF (k := 79) X qi_12 tyX12_ok nmX12 rfl (by decide) qw_1213 rfl hin rfl (tyX12_ok 79 (by decide)) rfl rfl n0 W1 dX12_init_551 (fun H2 L2 W2 n2 => ?_)
  refine lv_aload_n X.1 X.2.1 dX12_init_554 rfl (lv_at hl 0 rfl) ?_
  refine lv_bipush (v := 14) X.1 X.2.1 dX12_init_555 (by decide) ?_
  refine nw_newa (atype := .int) (ty := .int) (N' := 14) (a0 := (14, .inl fun _ => 0)) 0 X hA qc_63 rfl rfl (fun _ => rfl) (by decide) (by decide) (Nat.le_of_ble_eq_true rfl) (Nat.le_of_ble_eq_true rfl) (Nat.le_of_ble_eq_true rfl) W2 dX12_init_557 (fun q67 H3 W3 => ?_)
  refine nw_putF (k := 80) X qi_12 tyX12_ok nmX12 rfl (by decide) qw_1214 rfl hin rfl (tyX12_ok 80 (by decide)) rfl rfl n2 W3 dX12_init_559 (fun H4 L4 W4 n4 => ?_)
  have e : (((P ++ ([.null, .null] : List Value)).set 79 (.ref q66)).set 80 (.ref q67)) = (P ++ ([.ref q66, .ref q67] : List Value)) ++ ([] : List Value) := by
    rw [set_app hP 79 0 rfl, set_app hP 80 1 rfl, List.append_assoc]
    rfl
  rw [e] at W4
  exact W.widen (Nat.le_of_ble_eq_true rfl) (Nat.le_of_ble_eq_true rfl) (kk q66 q67 _ _ W4)
set_option maxRecDepth 100000 in
set_option maxHeartbeats 1000000 in
theorem mk_X12 {S : Shp} {p : Program} {l : Launch} {e : Env} {s : State} {m : MethodId} {args : Array Value} {below : List Frame} {meth : Method} {c : Code} {h0 : Nat} {ls : Array Slot} {A : Nat → Prop} {Q : State → Prop} (hA : ∀ q, s.heap.size ≤ q → A q) (X : Cg (my m_X12_init).cls (mb m_X12_init) (mn m_X12_init) (wI m_X12_init) S p s m args c) (hin : meth.name = "<init>") (hl : lv_has ls 1 [(0, .ref h0)]) (W0 : Wd S A s.heap s.heap [] [(h0, .inr (11, zsX12))])
    (kk : ∀ (u : Nat → Nat) (H : Heap) (locs : List Loc), Wd S A s.heap H locs (CSX12 S h0 u) → W p l e (rI m_X12_init 67 113007) s m args below meth c H locs 67 113007 Q (F0 m 562 ls [])) : W p l e (rI m_X12_init 67 113007) s m args below meth c s.heap [] 0 0 Q (F0 m 0 ls []) := by
  refine lv_aload_n X.1 X.2.1 dX12_init_0 rfl (lv_at hl 0 rfl) ?_
  refine nw_obj X qc_1128 hl.1 (Nat.le_of_ble_eq_true rfl) (Nat.le_of_ble_eq_true rfl) dX12_init_1 ?_
  refine mk_X12_0 (P := []) hA X hin hl rfl W0 (fun q1 q2 q3 q4 q5 H0 L0 W0 => ?_)
  refine mk_X12_1 (P := ([] ++ ([.int 0, .ref q1, .int 0, .ref q2, .ref q3, .ref q4, .ref q5, .int 0, .int 0, .int (-1)] : List Value))) hA X hin hl rfl W0 (fun q6 q7 q8 q9 q10 q11 H1 L1 W1 => ?_)
  refine mk_X12_2 (P := (([] ++ ([.int 0, .ref q1, .int 0, .ref q2, .ref q3, .ref q4, .ref q5, .int 0, .int 0, .int (-1)] : List Value)) ++ ([.int 0, .int 0, .ref q6, .ref q7, .ref q8, .ref q9, .ref q10, .ref q11] : List Value))) hA X hin hl rfl W1 (fun q12 q13 q14 q15 q16 q17 H2 L2 W2 => ?_)
  refine mk_X12_3 (P := ((([] ++ ([.int 0, .ref q1, .int 0, .ref q2, .ref q3, .ref q4, .ref q5, .int 0, .int 0, .int (-1)] : List Value)) ++ ([.int 0, .int 0, .ref q6, .ref q7, .ref q8, .ref q9, .ref q10, .ref q11] : List Value)) ++ ([.ref q12, .ref q13, .ref q14, .ref q15, .ref q16, .ref q17] : List Value))) hA X hin hl rfl W2 (fun q18 q19 q20 q21 q22 q23 H3 L3 W3 => ?_)
  refine mk_X12_4 (P := (((([] ++ ([.int 0, .ref q1, .int 0, .ref q2, .ref q3, .ref q4, .ref q5, .int 0, .int 0, .int (-1)] : List Value)) ++ ([.int 0, .int 0, .ref q6, .ref q7, .ref q8, .ref q9, .ref q10, .ref q11] : List Value)) ++ ([.ref q12, .ref q13, .ref q14, .ref q15, .ref q16, .ref q17] : List Value)) ++ ([.ref q18, .ref q19, .ref q20, .ref q21, .ref q22, .ref q23] : List Value))) hA X hin hl rfl W3 (fun q24 q25 q26 q27 q28 q29 H4 L4 W4 => ?_)
  refine mk_X12_5 (P := ((((([] ++ ([.int 0, .ref q1, .int 0, .ref q2, .ref q3, .ref q4, .ref q5, .int 0, .int 0, .int (-1)] : List Value)) ++ ([.int 0, .int 0, .ref q6, .ref q7, .ref q8, .ref q9, .ref q10, .ref q11] : List Value)) ++ ([.ref q12, .ref q13, .ref q14, .ref q15, .ref q16, .ref q17] : List Value)) ++ ([.ref q18, .ref q19, .ref q20, .ref q21, .ref q22, .ref q23] : List Value)) ++ ([.ref q24, .ref q25, .ref q26, .ref q27, .ref q28, .ref q29] : List Value))) hA X hin hl rfl W4 (fun q30 q31 q32 q33 q34 q35 H5 L5 W5 => ?_)
  refine mk_X12_6 (P := (((((([] ++ ([.int 0, .ref q1, .int 0, .ref q2, .ref q3, .ref q4, .ref q5, .int 0, .int 0, .int (-1)] : List Value)) ++ ([.int 0, .int 0, .ref q6, .ref q7, .ref q8, .ref q9, .ref q10, .ref q11] : List Value)) ++ ([.ref q12, .ref q13, .ref q14, .ref q15, .ref q16, .ref q17] : List Value)) ++ ([.ref q18, .ref q19, .ref q20, .ref q21, .ref q22, .ref q23] : List Value)) ++ ([.ref q24, .ref q25, .ref q26, .ref q27, .ref q28, .ref q29] : List Value)) ++ ([.ref q30, .ref q31, .ref q32, .ref q33, .ref q34, .ref q35] : List Value))) hA X hin hl rfl W5 (fun q36 q37 q38 q39 q40 q41 H6 L6 W6 => ?_)
  refine mk_X12_7 (P := ((((((([] ++ ([.int 0, .ref q1, .int 0, .ref q2, .ref q3, .ref q4, .ref q5, .int 0, .int 0, .int (-1)] : List Value)) ++ ([.int 0, .int 0, .ref q6, .ref q7, .ref q8, .ref q9, .ref q10, .ref q11] : List Value)) ++ ([.ref q12, .ref q13, .ref q14, .ref q15, .ref q16, .ref q17] : List Value)) ++ ([.ref q18, .ref q19, .ref q20, .ref q21, .ref q22, .ref q23] : List Value)) ++ ([.ref q24, .ref q25, .ref q26, .ref q27, .ref q28, .ref q29] : List Value)) ++ ([.ref q30, .ref q31, .ref q32, .ref q33, .ref q34, .ref q35] : List Value)) ++ ([.ref q36, .ref q37, .ref q38, .ref q39, .ref q40, .ref q41] : List Value))) hA X hin hl rfl W6 (fun q42 q43 q44 q45 q46 q47 H7 L7 W7 => ?_)
  refine mk_X12_8 (P := (((((((([] ++ ([.int 0, .ref q1, .int 0, .ref q2, .ref q3, .ref q4, .ref q5, .int 0, .int 0, .int (-1)] : List Value)) ++ ([.int 0, .int 0, .ref q6, .ref q7, .ref q8, .ref q9, .ref q10, .ref q11] : List Value)) ++ ([.ref q12, .ref q13, .ref q14, .ref q15, .ref q16, .ref q17] : List Value)) ++ ([.ref q18, .ref q19, .ref q20, .ref q21, .ref q22, .ref q23] : List Value)) ++ ([.ref q24, .ref q25, .ref q26, .ref q27, .ref q28, .ref q29] : List Value)) ++ ([.ref q30, .ref q31, .ref q32, .ref q33, .ref q34, .ref q35] : List Value)) ++ ([.ref q36, .ref q37, .ref q38, .ref q39, .ref q40, .ref q41] : List Value)) ++ ([.ref q42, .int 0, .ref q43, .ref q44, .int 0, .ref q45, .ref q46, .int 0, .int 0, .ref q47] : List Value))) hA X hin hl rfl W7 (fun q48 q49 q50 q51 q52 q53 H8 L8 W8 => ?_)
  refine mk_X12_9 (P := ((((((((([] ++ ([.int 0, .ref q1, .int 0, .ref q2, .ref q3, .ref q4, .ref q5, .int 0, .int 0, .int (-1)] : List Value)) ++ ([.int 0, .int 0, .ref q6, .ref q7, .ref q8, .ref q9, .ref q10, .ref q11] : List Value)) ++ ([.ref q12, .ref q13, .ref q14, .ref q15, .ref q16, .ref q17] : List Value)) ++ ([.ref q18, .ref q19, .ref q20, .ref q21, .ref q22, .ref q23] : List Value)) ++ ([.ref q24, .ref q25, .ref q26, .ref q27, .ref q28, .ref q29] : List Value)) ++ ([.ref q30, .ref q31, .ref q32, .ref q33, .ref q34, .ref q35] : List Value)) ++ ([.ref q36, .ref q37, .ref q38, .ref q39, .ref q40, .ref q41] : List Value)) ++ ([.ref q42, .int 0, .ref q43, .ref q44, .int 0, .ref q45, .ref q46, .int 0, .int 0, .ref q47] : List Value)) ++ ([.int 0, .int 0, .ref q48, .ref q49, .ref q50, .ref q51, .ref q52, .ref q53] : List Value))) hA X hin hl rfl W8 (fun q54 q55 q56 q57 q58 q59 H9 L9 W9 => ?_)
  refine mk_X12_10 (P := (((((((((([] ++ ([.int 0, .ref q1, .int 0, .ref q2, .ref q3, .ref q4, .ref q5, .int 0, .int 0, .int (-1)] : List Value)) ++ ([.int 0, .int 0, .ref q6, .ref q7, .ref q8, .ref q9, .ref q10, .ref q11] : List Value)) ++ ([.ref q12, .ref q13, .ref q14, .ref q15, .ref q16, .ref q17] : List Value)) ++ ([.ref q18, .ref q19, .ref q20, .ref q21, .ref q22, .ref q23] : List Value)) ++ ([.ref q24, .ref q25, .ref q26, .ref q27, .ref q28, .ref q29] : List Value)) ++ ([.ref q30, .ref q31, .ref q32, .ref q33, .ref q34, .ref q35] : List Value)) ++ ([.ref q36, .ref q37, .ref q38, .ref q39, .ref q40, .ref q41] : List Value)) ++ ([.ref q42, .int 0, .ref q43, .ref q44, .int 0, .ref q45, .ref q46, .int 0, .int 0, .ref q47] : List Value)) ++ ([.int 0, .int 0, .ref q48, .ref q49, .ref q50, .ref q51, .ref q52, .ref q53] : List Value)) ++ ([.ref q54, .ref q55, .ref q56, .int 0, .ref q57, .ref q58, .ref q59] : List Value))) hA X hin hl rfl W9 (fun q60 q61 q62 q63 q64 q65 H10 L10 W10 => ?_)
  refine mk_X12_11 (P := ((((((((((([] ++ ([.int 0, .ref q1, .int 0, .ref q2, .ref q3, .ref q4, .ref q5, .int 0, .int 0, .int (-1)] : List Value)) ++ ([.int 0, .int 0, .ref q6, .ref q7, .ref q8, .ref q9, .ref q10, .ref q11] : List Value)) ++ ([.ref q12, .ref q13, .ref q14, .ref q15, .ref q16, .ref q17] : List Value)) ++ ([.ref q18, .ref q19, .ref q20, .ref q21, .ref q22, .ref q23] : List Value)) ++ ([.ref q24, .ref q25, .ref q26, .ref q27, .ref q28, .ref q29] : List Value)) ++ ([.ref q30, .ref q31, .ref q32, .ref q33, .ref q34, .ref q35] : List Value)) ++ ([.ref q36, .ref q37, .ref q38, .ref q39, .ref q40, .ref q41] : List Value)) ++ ([.ref q42, .int 0, .ref q43, .ref q44, .int 0, .ref q45, .ref q46, .int 0, .int 0, .ref q47] : List Value)) ++ ([.int 0, .int 0, .ref q48, .ref q49, .ref q50, .ref q51, .ref q52, .ref q53] : List Value)) ++ ([.ref q54, .ref q55, .ref q56, .int 0, .ref q57, .ref q58, .ref q59] : List Value)) ++ ([.ref q60, .ref q61, .ref q62, .ref q63, .ref q64, .ref q65] : List Value))) hA X hin hl rfl W10 (fun q66 q67 H11 L11 W11 => ?_)
  exact kk (fun n => ([q1, q2, q3, q4, q5, q6, q7, q8, q9, q10, q11, q12, q13, q14, q15, q16, q17, q18, q19, q20, q21, q22, q23, q24, q25, q26, q27, q28, q29, q30, q31, q32, q33, q34, q35, q36, q37, q38, q39, q40, q41, q42, q43, q44, q45, q46, q47, q48, q49, q50, q51, q52, q53, q54, q55, q56, q57, q58, q59, q60, q61, q62, q63, q64, q65, q66, q67] : List Nat).getD n 0) _ _ W11
