/-! the law from its entry -/
theorem arr_known {args : Array Value} {s : State} {ty : FieldType} (h : (Cond.arrayClass ty).before args s = true) : ∃ cA : ClassId, ArrOfT s cA ty ∧ s.vm.findClass ("[" ++ ty.toString) = some cA := by
  obtain ⟨cA, kA, comp, h1, h2, h3⟩ := Cond.arrayClass_spec h
  exact ⟨cA, fun N z => ⟨(fun k h => by cases h), kA, h2, comp, h3⟩, h1⟩
theorem arrq_known {s : State} {C : String} (h : va_AO C s) : ∃ cA : ClassId, ArrOfT s cA (.object C) ∧ va_RA s cA (.object C) := by
  obtain ⟨comp, cA, kA, h1, h2, h3, h4, h5⟩ := Cond.arrayOver_spec h
  exact ⟨cA, fun N z => ⟨(fun k h => by cases h), kA, h3, comp, h4⟩, kA, comp, h3, h4, h1, h5⟩
set_option maxRecDepth 100000 in
theorem tape_bytes : (List.range 126).map (fun j => Cond.eq (.elem (.field (.string "SkyStones$Tape" 75) "java/lang/String" "value" "[B") (.int (Int32.ofNat j))) (.int (wby.getD j 0))) = ((flatC (Jvm.Cond.and given_1 narrow_1)).drop 37).take 126 := by decide +kernel
set_option maxRecDepth 100000 in
theorem En_law {b : Nat} {s : State} (ht : ∀ w ∈ lw_tbl, w.before #[Value.ref b] s = true) (hg : (Jvm.Cond.and given_1 narrow_1).before #[Value.ref b] s = true) : ∃ K V B : Nat, ∀ (E : Nat → ClassId) (D : va_G) (L : Nat → Nat → Nat → Nat) (h : Nat → Bool), En (E, D, L, h, K, V, B) (LA s) s s.heap := by
  have hs := flat_of_before _ hg
  have h : ∀ (i : Nat) (w : Cond), tables_1[i]? = some w → w.before #[Value.ref b] s = true := fun i w hi => ht w (List.mem_append_right _ (List.mem_of_getElem? hi))
  have hA : ∀ a : Nat, a < s.heap.size → ¬ LA s a := fun a h1 h2 => Nat.not_le.mpr h1 h2
  have z1 : va_Z "java/lang/String" "COMPACT_STRINGS" "Z" (.int 1) (LA s) s s.heap := va_Zof (h 500 _ (by decide +kernel)) (h 13 _ (by decide +kernel)) (va_eqi (hs _ (by decide +kernel))) hA
  have z2 : ∃ B : Nat, va_Z "jdk/internal/util/Preconditions" "SIOOBE_FORMATTER" "Ljava/util/function/BiFunction;" (bV B) (LA s) s s.heap := by
    have hq : va_Zq "jdk/internal/util/Preconditions" "SIOOBE_FORMATTER" "Ljava/util/function/BiFunction;" (LA s) s s.heap := va_Zqof (h 516 _ (by decide +kernel)) (h 15 _ (by decide +kernel)) (hs _ (by decide +kernel)) hA
    rcases hq with z | ⟨t, z⟩
    · exact ⟨0, z⟩
    · exact ⟨t + 1, z⟩
  obtain ⟨B, z2⟩ := z2
  obtain ⟨adK, adV, z3, z4⟩ := vk_Sof (N := 1) (tm := fun _ => .string "SkyStones$Tape" 75) (len := [126]) (byt := [wby]) (A := LA s) (args := #[Value.ref b]) (s := s)
    (fun i hi => by obtain rfl : i = 0 := by omega
                    decide)
    (fun i hi => by obtain rfl : i = 0 := by omega
                    exact hs (.exactly (.string "SkyStones$Tape" 75) "java/lang/String") (by decide +kernel))
    (fun i hi => by obtain rfl : i = 0 := by omega
                    exact hs (.eq (.field (.string "SkyStones$Tape" 75) "java/lang/String" "coder" "B") (.int 0)) (by decide +kernel))
    (fun i hi => by obtain rfl : i = 0 := by omega
                    exact hs (.arrayOf (.field (.string "SkyStones$Tape" 75) "java/lang/String" "value" "[B") .byte) (by decide +kernel))
    (fun i hi => by obtain rfl : i = 0 := by omega
                    exact hs (.eq (.length (.field (.string "SkyStones$Tape" 75) "java/lang/String" "value" "[B")) (.int 126)) (by decide +kernel))
    (fun i hi j hj => by obtain rfl : i = 0 := by omega
                         exact hs _ (va_run tape_bytes j hj))
    (fun i j hi hj hij => absurd (by omega) hij) hA
  refine ⟨adK 0, adV 0, B, fun E D L h' => ⟨z1, ⟨fun i hi => ?_, fun i j hi hj _ => by omega⟩, vk_R.of (h 490 _ (by decide +kernel)) (z4 0 Nat.one_pos), z2⟩⟩
  obtain rfl : i = 0 := by omega
  exact z3.1 0 hi
theorem ql_21 : (Jvm.Cond.classLink "SkyStonesLaw" (7 : Nat) "SkyStones" : Cond) ∈ wAll := wAll_of (List.mem_append_right _ (List.mem_of_getElem? (i := 21) (by decide +kernel))) (by decide +kernel)
theorem ql_22 : (Jvm.Cond.instantiable "SkyStones" (16 : Nat) : Cond) ∈ wAll := wAll_of (List.mem_append_right _ (List.mem_of_getElem? (i := 22) (by decide +kernel))) (by decide +kernel)
theorem ql_23 : (Jvm.Cond.methodLink "SkyStonesLaw" (9 : Nat) ({ cls := "SkyStones", name := "<init>", desc := "()V" } : Jvm.MethodName) : Cond) ∈ wAll := wAll_of (List.mem_append_right _ (List.mem_of_getElem? (i := 23) (by decide +kernel))) (by decide +kernel)
theorem ql_24 : (Jvm.Cond.instanceMethod ({ cls := "SkyStones", name := "<init>", desc := "()V" } : Jvm.MethodName) : Cond) ∈ wAll := wAll_of (List.mem_append_right _ (List.mem_of_getElem? (i := 24) (by decide +kernel))) (by decide +kernel)
theorem ql_1123 : (Jvm.Cond.classLink "SkyStonesLaw" (10 : Nat) "SkyStonesModel" : Cond) ∈ wAll := wAll_of (List.mem_append_right _ (List.mem_of_getElem? (i := 1123) (by decide +kernel))) (by decide +kernel)
theorem ql_1124 : (Jvm.Cond.instantiable "SkyStonesModel" (81 : Nat) : Cond) ∈ wAll := wAll_of (List.mem_append_right _ (List.mem_of_getElem? (i := 1124) (by decide +kernel))) (by decide +kernel)
theorem ql_1125 : (Jvm.Cond.methodLink "SkyStonesLaw" (12 : Nat) ({ cls := "SkyStonesModel", name := "<init>", desc := "()V" } : Jvm.MethodName) : Cond) ∈ wAll := wAll_of (List.mem_append_right _ (List.mem_of_getElem? (i := 1125) (by decide +kernel))) (by decide +kernel)
theorem ql_1126 : (Jvm.Cond.instanceMethod ({ cls := "SkyStonesModel", name := "<init>", desc := "()V" } : Jvm.MethodName) : Cond) ∈ wAll := wAll_of (List.mem_append_right _ (List.mem_of_getElem? (i := 1126) (by decide +kernel))) (by decide +kernel)
set_option maxRecDepth 20000 in
theorem ql_25 : (Jvm.Cond.code ({ cls := "SkyStones", name := "<init>", desc := "()V" } : Jvm.MethodName) prog_1_method_1_code (1 : Nat) (Option.none : Option Jvm.ClassFile.FieldType) : Cond) ∈ wAll := wAll_of (List.mem_append_right _ (show _ ∈ tables_1 from List.mem_append_left _ (List.mem_of_getElem? (i := 25) rfl))) rfl
set_option maxRecDepth 20000 in
theorem ql_1127 : (Jvm.Cond.code ({ cls := "SkyStonesModel", name := "<init>", desc := "()V" } : Jvm.MethodName) prog_14_method_1_code (1 : Nat) (Option.none : Option Jvm.ClassFile.FieldType) : Cond) ∈ wAll := wAll_of (List.mem_append_right _ (show _ ∈ tables_1 from List.mem_append_right _ (List.mem_append_right _ (List.mem_append_right _ (List.mem_append_right _ (List.mem_append_left _ (List.mem_of_getElem? (i := 167) rfl))))))) rfl
theorem K_law {b : Nat} {s : State} (ht : ∀ w ∈ lw_tbl, w.before #[Value.ref b] s = true) : ∃ (E : Nat → ClassId) (D : va_G), ∀ (L : Nat → Nat → Nat → Nat) (h : Nat → Bool) (K V B : Nat), va_K D vwCl (sT (E, D, L, h, K, V, B)) s := by
  have h : ∀ (i : Nat) (w : Cond), tables_1[i]? = some w → w.before #[Value.ref b] s = true := fun i w hi => ht w (List.mem_append_right _ (List.mem_of_getElem? hi))
  have hN := Nn_law ht
  obtain ⟨c0, i0, k0⟩ := u_known (C := RX0) (T := TX0) (N := 7) (n := 7) ht (fun w hw => wAll_sub (qi_0 w hw)) (h 72 _ (by decide +kernel))
  obtain ⟨c1, i1, k1⟩ := u_known (C := RX2) (T := TX2) (N := 11) (n := 11) ht (fun w hw => wAll_sub (qi_2 w hw)) (h 257 _ (by decide +kernel))
  obtain ⟨c2, i2, k2⟩ := u_known (C := RX3) (T := TX3) (N := 2) (n := 2) ht (fun w hw => wAll_sub (qi_3 w hw)) (h 378 _ (by decide +kernel))
  obtain ⟨c3, i3, k3⟩ := u_known (C := RX4) (T := TX4) (N := 2) (n := 2) ht (fun w hw => wAll_sub (qi_4 w hw)) (h 365 _ (by decide +kernel))
  obtain ⟨c4, i4, k4⟩ := u_known (C := RX5) (T := TX5) (N := 9) (n := 9) ht (fun w hw => wAll_sub (qi_5 w hw)) (h 182 _ (by decide +kernel))
  obtain ⟨c5, i5, k5⟩ := u_known (C := RX6) (T := TX6) (N := 4) (n := 4) ht (fun w hw => wAll_sub (qi_6 w hw)) (h 310 _ (by decide +kernel))
  obtain ⟨c6, i6, k6⟩ := u_known (C := RX7) (T := TX7) (N := 7) (n := 7) ht (fun w hw => wAll_sub (qi_7 w hw)) (h 218 _ (by decide +kernel))
  obtain ⟨c7, i7, k7⟩ := u_known (C := RX8) (T := TX8) (N := 7) (n := 7) ht (fun w hw => wAll_sub (qi_8 w hw)) (h 30 _ (by decide +kernel))
  obtain ⟨c8, i8, k8⟩ := u_known (C := RX9) (T := TX9) (N := 16) (n := 16) ht (fun w hw => wAll_sub (qi_9 w hw)) (h 66 _ (by decide +kernel))
  obtain ⟨c9, i9, k9⟩ := u_known (C := RX10) (T := TX10) (N := 8) (n := 8) ht (fun w hw => wAll_sub (qi_10 w hw)) (h 332 _ (by decide +kernel))
  obtain ⟨c10, i10, k10⟩ := u_known (C := RX11) (T := TX11) (N := 16) (n := 16) ht (fun w hw => wAll_sub (qi_11 w hw)) (h 22 _ (by decide +kernel))
  obtain ⟨c11, i11, k11⟩ := u_known (C := RX12) (T := TX12) (N := 81) (n := 81) ht (fun w hw => wAll_sub (qi_12 w hw)) (h 1124 _ (by decide +kernel))
  obtain ⟨e0, f0, g0⟩ := arr_known (ty := .int) (h 63 _ (by decide +kernel))
  obtain ⟨e1, f1, g1⟩ := arr_known (ty := .byte) (h 62 _ (by decide +kernel))
  obtain ⟨e2, f2, g2⟩ := arr_known (ty := .boolean) (h 308 _ (by decide +kernel))
  obtain ⟨e3, f3, g3⟩ := arr_known (ty := .long) (h 64 _ (by decide +kernel))
  obtain ⟨e4, f4, g4⟩ := arrq_known hN.2.1
  obtain ⟨e5, f5, g5⟩ := arrq_known hN.2.2
  refine ⟨fun k => ([e0, e1, e2, e3, e4, e5] : List ClassId).getD k e0, (fun k => ([c0, c1, c2, c3, c4, c5, c6, c7, c8, c9, c10, c11] : List ClassId).getD k c0, fun k => ([i0, i1, i2, i3, i4, i5, i6, i7, i8, i9, i10, i11] : List (Nat → Nat)).getD k i0), fun L h' K V B => ⟨fun c q hq => ?_, fun k q hq => ?_⟩⟩
  · match c, hq with
    | 0, hq => cases hq; exact k0
    | 1, hq => cases hq; exact k1
    | 2, hq => cases hq; exact k2
    | 3, hq => cases hq; exact k3
    | 4, hq => cases hq; exact k4
    | 5, hq => cases hq; exact k5
    | 6, hq => cases hq; exact k6
    | 7, hq => cases hq; exact k7
    | 8, hq => cases hq; exact k8
    | 9, hq => cases hq; exact k9
    | 10, hq => cases hq; exact k10
    | 11, hq => cases hq; exact k11
    | c + 12, hq => simp [vwCl] at hq
  · match k, hq with
    | 0, hq => cases hq; exact ⟨f0, g0⟩
    | 1, hq => cases hq; exact ⟨f1, g1⟩
    | 2, hq => cases hq; exact ⟨f2, g2⟩
    | 3, hq => cases hq; exact ⟨f3, g3⟩
    | 4, hq => cases hq; exact ⟨f4, g4⟩
    | 5, hq => cases hq; exact ⟨f5, g5⟩
    | k + 6, hq => simp [sT] at hq
theorem CSX11_S0 {E : Nat → ClassId} {D : va_G} {L : Nat → Nat → Nat → Nat} {h : Nat → Bool} {K V B q : Nat} {u : U11} : CSX11 (E, D, L, h, K, V, B) q u = CSX11 (S0of E D K V B q u) q u := rfl
set_option maxHeartbeats 4000000 in
set_option maxRecDepth 100000 in
theorem whole_start {p : Program} {e : Env} {s : State} {m : MethodId} {below : List Frame} {meth : Method} {c : Code} (l : Launch) (hflags : l.flags = flags0) {b L : Nat} {xs : Nat → Int32} (hL : L ≤ 3584) (C0 : lw_At p s m meth c b L xs) : W p l e room_1 s m #[Value.ref b] below meth c s.heap [] 0 0 (lw_Z below #[Value.ref b] s) (entryFrame m ([Value.ref b] : List Value).toArray 4) := by
  obtain ⟨hx, hb, hr, hml, hown, hts, hX, hbl, hlocks, hgv⟩ := id C0
  obtain ⟨E, D, hK⟩ := K_law hts
  obtain ⟨K, V, B, hE⟩ := En_law hts hgv
  have hN := Nn_law hts
  have hA : ∀ q : Nat, s.heap.size ≤ q → LA s q := fun _ h => h
  have X : Cg RL code 4 lw_tbl (E, D, fun _ _ _ => 0, fun _ => false, K, V, B) p s m #[Value.ref b] c := ⟨hx, hb, hml, hown, hts, fun w hw => wAll_sub hw, hK _ _ _ _ _, hN⟩
  have W0 : Wd (E, D, fun _ _ _ => 0, fun _ => false, K, V, B) (LA s) s.heap s.heap [] [] := ⟨fun k q h => by simp at h, ⟨fun i j p q h => by simp at h, fun k q h => by simp at h⟩, va_S.rf⟩
  have hl := lv_entry [.ref b] (n := 4) (Nat.le_of_ble_eq_true rfl)
  rw [lg_entry_eq]
  generalize (lg_sl [Value.ref b] ++ List.replicate (4 - (lg_sl [Value.ref b]).length) Slot.unset).toArray = ls at hl ⊢
  have hl : lv_has ls 4 [(0, .ref b)] := hl
  refine nw_new (ci := 10) (fs := zsX11) X hA qi_11 tyX11_ok ql_21 ql_22 qw_1 rfl zsX11_ok (Nat.le_of_ble_eq_true rfl) (Nat.le_of_ble_eq_true rfl) W0 dL_law_0 (fun q0 H1 W1 => ?_)
  refine lv_dup X.1 X.2.1 dL_law_3 rfl ?_
  refine nw_callI (As := []) (rest := [.ref q0]) X hA ci_X11 ql_23 ql_24 qw_1 ql_25 oy_X11_init rfl ⟨Nat.le_of_ble_eq_true rfl, Nat.le_of_ble_eq_true rfl⟩ ⟨Nat.le_of_ble_eq_true rfl, Nat.le_of_ble_eq_true rfl⟩ rfl (Nat.le_of_ble_eq_true rfl) rfl hl.1 W1 dL_law_4 (fun u H2 L2 W2 => ?_)
  rw [List.nil_append, CSX11_S0] at W2
  have W2 := W2.perm start_perm
  refine lv_astore_n (lv' := [(1, .ref q0), (0, .ref b)]) X.1 X.2.1 dL_law_7 rfl hl (by decide) rfl (fun ls hl => ?_)
  refine nw_new (ci := 11) (fs := zsX12) X hA qi_12 tyX12_ok ql_1123 ql_1124 qw_12 rfl zsX12_ok (Nat.le_of_ble_eq_true rfl) (Nat.le_of_ble_eq_true rfl) W2 dL_law_8 (fun hm H3 W3 => ?_)
  refine lv_dup X.1 X.2.1 dL_law_11 rfl ?_
  have hAd : ∀ q, A3 (S0of E D K V B q0 u) hm H3.size q → LA s q := by
    intro q hq
    rcases hq with ⟨k, e, hk⟩ | hq
    · exact W3.2.1.2 k _ hk
    · exact Nat.le_trans W3.2.2.1 hq
  have hE0 : En (S0of E D K V B q0 u) (LA s) s s.heap := hE _ _ _ _
  have hK0 : va_K (sD (S0of E D K V B q0 u)) vwCl (sT (S0of E D K V B q0 u)) s := hK _ _ _ _ _
  refine va_callv (va_runI (As := []) (rest := [.ref hm]) ⟨X.1, X.2.1, X.2.2.1, X.2.2.2.1, X.2.2.2.2.1⟩ (cm_X12 (E := E) (D := D) (K := K) (V := V) (B := B) (h0 := q0) (u := u) l hm H3.size) ⟨callB_of 0 X.2.2.2.2.1 (nw_good X ql_1127) rfl rfl rfl (X.w qw_12) (X.w ql_1125) oy_X12_init ⟨Nat.le_of_ble_eq_true rfl, Nat.le_of_ble_eq_true rfl⟩, rfl, X.w ql_1126⟩
    ⟨fun a Y g mk z => by obtain ⟨z0, z1, zP, zK, zD, zN, zE⟩ := z; exact ⟨z0, z1, zP, va_K.moved (u := Y) (U := Y.calling g mk a) (Vm.Alike.refl Y.vm) zK, zD, zN.calling, zE.calling⟩, fun Y hY hWm => ⟨rfl, by rw [hY], by rw [hY]; exact W3.1, va_K.moved hWm.alike hK0, W3.2.1.weaken (fun _ _ _ _ => trivial), hN.warm hWm, by rw [hY]; exact hE0.call W3.2.2.2.1 hAd hWm⟩⟩
    rfl rfl hl.1 rfl (lv_room (Nat.le_of_ble_eq_true rfl)) dL_law_12 ⟨Nat.le_of_ble_eq_true rfl, Nat.le_of_ble_eq_true rfl⟩) W3.2.2 (fun z _ h => hAd z h) hAd (fun a t H4 L4 ht _ _ hB _ _ hS4 => ?_)
  obtain ⟨τ, hI, hP4, hD4⟩ := hB
  rw [ht] at hP4
  refine lv_astore_n (lv' := [(2, .ref hm), (1, .ref q0), (0, .ref b)]) X.1 X.2.1 dL_law_15 rfl hl (by decide) rfl (fun ls hl => ?_)
  refine lv_iconst (v := 0) X.1 X.2.1 dL_law_16 (by decide) ?_
  refine lv_istore_n (lv' := [(3, .int 0), (2, .ref hm), (1, .ref q0), (0, .ref b)]) X.1 X.2.1 dL_law_17 rfl hl (by decide) rfl (fun ls hl => ?_)
  have Z0 := law_loop Iv hstep hold_ok (b := b) (xs := xs) hL (L + 8) 0 (S3of (S0of E D K V B q0 u) hm a) 149 126016 τ hI (Nat.le_of_ble_eq_true rfl) (Nat.le_of_ble_eq_true rfl) (by omega) (by omega)
  have hE1 : En (S3of (S0of E D K V B q0 u) hm a) (LA s) s s.heap := hE0
  have hK1 : va_K (sD (S3of (S0of E D K V B q0 u) hm a)) vwCl (sT (S3of (S0of E D K V B q0 u) hm a)) s := hK0
  have hl1 : lv_has ls 4 [(0, .ref b), (1, .ref (sL (S3of (S0of E D K V B q0 u) hm a) 0 0 0)), (2, .ref (sL (S3of (S0of E D K V B q0 u) hm a) 3 0 0)), (3, .int (nI 0))] := lv_sub hl [3, 2, 1, 0] rfl
  exact W.widen (k := 149) (n := 126016) (Nat.le_of_ble_eq_true rfl) (Nat.le_of_ble_eq_true rfl) (Z0 p l e s m below meth c C0 hK1 hE1 H4 L4 ls hl1 hP4 (hD4.weaken (fun _ q _ h => hAd q.1 h)) hS4)
