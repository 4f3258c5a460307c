/-! the text constant: String.length, String.charAt as the JDK's code has them (Latin-1) -/
def wch (x : Int32) : Int32 := wby.getD x.toNatClampNeg 0
set_option maxRecDepth 100000 in
theorem wby_ok : ∀ j, j < 126 → (((wby.getD j 0 &&& 255).toUInt32 % 65536).toInt32 = wby.getD j 0 ∧ narrow .char (.int (wby.getD j 0)) = .int (wby.getD j 0)) := by decide +kernel
section ZT
variable {M M' : Mt} {S : Shp} {Q Q' : Option Value → Mm → Prop} {pc idx n : Nat} {lv : List (Nat × Value)} {st rest As : List Value} {σ : Mm}
theorem z_ldcS (hM : (my M).cls = RX8) (hd : decode (mb M) pc = .ok (.ldc 75, 2)) (k : Z M S Q (pc + 2) lv (.ref (sK S) :: st) σ) : Z M S Q pc lv st σ := fun p l e s m args below meth c C H locs ls hl hP hD hS => va_ldcS C.1 C.2.1 (by have h := C.2.2.2.1; rw [hM] at h; exact h) C.2.2.2.2.2.2.2.2.2.2.1 hd (k p l e s m args below meth c C H locs ls hl hP hD hS)
theorem z_getsC (hM : (my M).cls = RJ0) (hd : decode (mb M) pc = .ok (.getstatic 38, 3)) (k : Z M S Q (pc + 3) lv (.int 1 :: st) σ) : Z M S Q pc lv st σ := fun p l e s m args below meth c C H locs ls hl hP hD hS => va_gets C.1 C.2.1 C.2.2.2.2.2.2.2.2.1 hS (by have h := C.2.2.2.1; rw [hM] at h; exact h) (C.2.2.2.2.1 _ (List.mem_cons_of_mem _ qw_499)) (fun _ h => h) hd (k p l e s m args below meth c C H locs ls hl hP hD hS)
theorem z_getsB (hM : (my M).cls = RJ0) (hd : decode (mb M) pc = .ok (.getstatic 1053, 3)) (k : Z M S Q (pc + 3) lv (bV (sB S) :: st) σ) : Z M S Q pc lv st σ := fun p l e s m args below meth c C H locs ls hl hP hD hS => va_gets C.1 C.2.1 C.2.2.2.2.2.2.2.2.2.2.2 hS (by have h := C.2.2.2.1; rw [hM] at h; exact h) (C.2.2.2.2.1 _ (List.mem_cons_of_mem _ qw_515)) (fun _ h => h) hd (k p l e s m args below meth c C H locs ls hl hP hD hS)
theorem z_getV (hM : (my M).cls = RJ0) (hd : decode (mb M) pc = .ok (.getfield 9, 3)) (k : Z M S Q (pc + 3) lv (.ref (sV S) :: st) σ) : Z M S Q pc lv (.ref (sK S) :: st) σ := fun p l e s m args below meth c C H locs ls hl hP hD hS => vk_getf C.1 C.2.1 (C.2.2.2.2.2.2.2.2.2.1.1 0 Nat.one_pos).2.2.1 hS (by have h := C.2.2.2.1; rw [hM] at h; exact h) (C.2.2.2.2.1 _ (List.mem_cons_of_mem _ qw_1862)) (fun _ h => h) hd (k p l e s m args below meth c C H locs ls hl hP hD hS)
theorem z_getC (hM : (my M).cls = RJ0) (hd : decode (mb M) pc = .ok (.getfield 15, 3)) (k : Z M S Q (pc + 3) lv (.int 0 :: st) σ) : Z M S Q pc lv (.ref (sK S) :: st) σ := fun p l e s m args below meth c C H locs ls hl hP hD hS => vk_getf C.1 C.2.1 (C.2.2.2.2.2.2.2.2.2.1.1 0 Nat.one_pos).2.1 hS (by have h := C.2.2.2.1; rw [hM] at h; exact h) (C.2.2.2.2.1 _ (List.mem_cons_of_mem _ qw_1863)) (fun _ h => h) hd (k p l e s m args below meth c C H locs ls hl hP hD hS)
theorem z_lenV (hd : decode (mb M) pc = .ok (.arraylength, 1)) (k : Z M S Q (pc + 1) lv (.int 126 :: st) σ) : Z M S Q pc lv (.ref (sV S) :: st) σ := fun p l e s m args below meth c C H locs ls hl hP hD hS => va_tlen C.1 C.2.1 (C.2.2.2.2.2.2.2.2.2.1.1 0 Nat.one_pos).2.2.2 hS (by decide) hd (k p l e s m args below meth c C H locs ls hl hP hD hS)
theorem z_byteV {x : Int32} (hx : vp_in x 126) (hd : decode (mb M) pc = .ok (.baload, 1)) (k : Z M S Q (pc + 1) lv (.int (wch x) :: st) σ) : Z M S Q pc lv (.int x :: .ref (sV S) :: st) σ := fun p l e s m args below meth c C H locs ls hl hP hD hS => va_tb C.1 C.2.1 (C.2.2.2.2.2.2.2.2.2.1.1 0 Nat.one_pos).2.2.2 hS hx rfl hd (k p l e s m args below meth c C H locs ls hl hP hD hS)
theorem z_i2c {x : Int32} (hd : decode (mb M) pc = .ok (.i2c, 1)) (k : Z M S Q (pc + 1) lv (.int (x.toUInt32 % 65536).toInt32 :: st) σ) : Z M S Q pc lv (.int x :: st) σ := fun p l e s m args below meth c C H locs ls hl hP hD hS => lv_i2c C.1 C.2.1 hd rfl (k p l e s m args below meth c C H locs ls hl hP hD hS)
theorem z_callVS (hw : LwV (my M).cls idx M') (hy : okY (my M') n) (hR : okR M M') (hcs : (my M').cls = "java/lang/String") (hn : As.length = n) (hroom : (rest.map fun v => v.category).sum ≤ 8) (hst : st = As.reverse ++ .ref (sK S) :: rest) (hd : decode (mb M) pc = .ok (.invokevirtual idx, 3)) (hC : Ct M' S (.ref (sK S) :: As) σ Q') (kk : ∀ v τ, Q' v τ → Z M S Q (pc + 3) lv (v.toList ++ rest) τ) : Z M S Q pc lv st σ := by
  intro p l e s m args below meth c X H locs ls hl hP hD hS
  subst hst
  have ht := X.2.2.2.2.1
  have hm : ∀ {w : Cond}, w ∈ wAll → w.before args s = true := fun h => ht _ (List.mem_cons_of_mem _ h)
  refine z_back X hl hS (aa := (Value.ref (sK S) :: As).toArray) ?_ kk
  exact va_runV (As := As) (rest := rest) ⟨X.1, X.2.1, X.2.2.1, X.2.2.2.1, ht⟩ (hC l H.size) ⟨callB_of n ht (good_wM hw.2.2.2.2) rfl rfl rfl (hm hw.2.2.2.1) (hm hw.1) hy hR, hm hw.2.1, hm hw.2.2.1⟩
    ⟨fun a U g mk q => by obtain ⟨q0, q1, qP, qK, qD, qE⟩ := q; exact ⟨q0, q1, qP, va_K.moved (u := U) (U := U.calling g mk a) (Vm.Alike.refl U.vm) qK, qD, qE.calling⟩, by rw [hcs]; exact vk_recv (i := 0) X.2.2.2.2.2.2.2.2.2.1 Nat.one_pos hS, fun U hU hW => ⟨rfl, by rw [hU], by rw [hU]; exact hP, va_K.moved hW.alike X.2.2.2.2.2.2.2.1, hD.weaken (fun _ _ _ _ => trivial), by rw [hU]; exact X.2.2.2.2.2.2.2.2.call hS.2.1 (fun _ h => Ad_mono hS.1 h) hW⟩⟩
    rfl hn hl.1 rfl (lv_room hroom) hd ⟨Nat.le_refl _, Nat.le_refl _⟩
end ZT
section CT
variable {S : Shp} {σ : Mm} {x y : Int32}
theorem c_pcheck {v : Value} (hv : v = .null ∨ ∃ t : Nat, v = .ref t) (h1 : ¬ x < 0) (h2 : x < y) : Ct m_J3_checkIndex_8e157 S [.int x, .int y, v] σ (Qi (x, σ)) := by
  rcases hv with rfl | ⟨t, rfl⟩
  · refine Ct.of (by decide +kernel) (Nat.le_of_ble_eq_true rfl) ?_
    show Z _ _ _ 0 [(0, .int x), (1, .int y), (2, .null)] [] σ
    refine z_iload_n dJ3_checkIndex_8e157_0 rfl 0 rfl ?_
    refine z_if_lt (tgt := 9) dJ3_checkIndex_8e157_1 (by decide) (fun q => absurd q h1) (fun _ => ?_)
    refine z_iload_n dJ3_checkIndex_8e157_4 rfl 0 rfl ?_
    refine z_iload_n dJ3_checkIndex_8e157_5 rfl 1 rfl ?_
    refine z_icmp_lt (tgt := 16) dJ3_checkIndex_8e157_6 (by decide) (fun _ => ?_) (fun q => absurd h2 q)
    refine z_iload_n dJ3_checkIndex_8e157_16 rfl 0 rfl ?_
    exact z_ireturn dJ3_checkIndex_8e157_17 rfl rfl ⟨rfl, rfl⟩
  · refine Ct.of (by decide +kernel) (Nat.le_of_ble_eq_true rfl) ?_
    show Z _ _ _ 0 [(0, .int x), (1, .int y), (2, .ref t)] [] σ
    refine z_iload_n dJ3_checkIndex_8e157_0 rfl 0 rfl ?_
    refine z_if_lt (tgt := 9) dJ3_checkIndex_8e157_1 (by decide) (fun q => absurd q h1) (fun _ => ?_)
    refine z_iload_n dJ3_checkIndex_8e157_4 rfl 0 rfl ?_
    refine z_iload_n dJ3_checkIndex_8e157_5 rfl 1 rfl ?_
    refine z_icmp_lt (tgt := 16) dJ3_checkIndex_8e157_6 (by decide) (fun _ => ?_) (fun q => absurd h2 q)
    refine z_iload_n dJ3_checkIndex_8e157_16 rfl 0 rfl ?_
    exact z_ireturn dJ3_checkIndex_8e157_17 rfl rfl ⟨rfl, rfl⟩
theorem c_scheck (h1 : ¬ x < 0) (h2 : x < y) : Ct m_J0_checkIndex_df160 S [.int x, .int y] σ (Qv σ) := by
  refine Ct.of (by decide +kernel) (Nat.le_of_ble_eq_true rfl) ?_
  show Z _ _ _ 0 [(0, .int x), (1, .int y)] [] σ
  refine z_iload_n dJ0_checkIndex_df160_0 rfl 0 rfl ?_
  refine z_iload_n dJ0_checkIndex_df160_1 rfl 1 rfl ?_
  refine z_getsB rfl dJ0_checkIndex_df160_2 ?_
  refine z_callS (M' := m_J3_checkIndex_8e157) (As := [.int x, .int y, bV (sB S)]) (rest := []) kl_J0_1059 oy_J3_checkIndex_8e157 ⟨Nat.le_of_ble_eq_true rfl, Nat.le_of_ble_eq_true rfl⟩ rfl (Nat.le_of_ble_eq_true rfl) rfl dJ0_checkIndex_df160_5 (c_pcheck (bV_or _) h1 h2) (fun v τ hq => ?_)
  obtain ⟨rfl, hτ⟩ := hq
  subst τ
  change Z _ _ _ _ _ [.int x] _
  refine z_pop dJ0_checkIndex_df160_8 rfl ?_
  exact z_return dJ0_checkIndex_df160_9 rfl ⟨rfl, rfl⟩
theorem c_coder : Ct m_J0_coder_7d493 S [.ref (sK S)] σ (Qi (0, σ)) := by
  refine Ct.of (by decide +kernel) (Nat.le_of_ble_eq_true rfl) ?_
  show Z _ _ _ 0 [(0, .ref (sK S))] [] σ
  refine z_getsC rfl dJ0_coder_7d493_0 ?_
  refine z_if_eq (tgt := 13) dJ0_coder_7d493_3 (by decide) (fun q => absurd q (by decide)) (fun _ => ?_)
  refine z_aload_n dJ0_coder_7d493_6 rfl 0 rfl ?_
  refine z_getC rfl dJ0_coder_7d493_7 ?_
  refine z_goto (tgt := 14) dJ0_coder_7d493_10 (by decide) ?_
  exact z_ireturn dJ0_coder_7d493_14 rfl rfl ⟨rfl, rfl⟩
theorem c_lat : Ct m_J0_isLatin1_aae02 S [.ref (sK S)] σ (Qi (1, σ)) := by
  refine Ct.of (by decide +kernel) (Nat.le_of_ble_eq_true rfl) ?_
  show Z _ _ _ 0 [(0, .ref (sK S))] [] σ
  refine z_getsC rfl dJ0_isLatin1_aae02_0 ?_
  refine z_if_eq (tgt := 17) dJ0_isLatin1_aae02_3 (by decide) (fun q => absurd q (by decide)) (fun _ => ?_)
  refine z_aload_n dJ0_isLatin1_aae02_6 rfl 0 rfl ?_
  refine z_getC rfl dJ0_isLatin1_aae02_7 ?_
  refine z_if_ne (tgt := 17) dJ0_isLatin1_aae02_10 (by decide) (fun q => absurd rfl q) (fun _ => ?_)
  refine z_iconst (v := 1) dJ0_isLatin1_aae02_13 (by decide) ?_
  refine z_goto (tgt := 18) dJ0_isLatin1_aae02_14 (by decide) ?_
  exact z_ireturn dJ0_isLatin1_aae02_18 rfl rfl ⟨rfl, rfl⟩
theorem c_len : Ct m_J0_length_8abf5 S [.ref (sK S)] σ (Qi (126, σ)) := by
  refine Ct.of (by decide +kernel) (Nat.le_of_ble_eq_true rfl) ?_
  show Z _ _ _ 0 [(0, .ref (sK S))] [] σ
  refine z_aload_n dJ0_length_8abf5_0 rfl 0 rfl ?_
  refine z_getV rfl dJ0_length_8abf5_1 ?_
  refine z_lenV dJ0_length_8abf5_4 ?_
  refine z_aload_n dJ0_length_8abf5_5 rfl 0 rfl ?_
  refine z_callVS (M' := m_J0_coder_7d493) (As := []) (rest := [.int 126]) kl_J0_335 oy_J0_coder_7d493 ⟨Nat.le_of_ble_eq_true rfl, Nat.le_of_ble_eq_true rfl⟩ rfl rfl (Nat.le_of_ble_eq_true rfl) rfl dJ0_length_8abf5_6 c_coder (fun v τ hq => ?_)
  obtain ⟨rfl, hτ⟩ := hq
  subst τ
  change Z _ _ _ _ _ [.int 0, .int 126] _
  refine z_ishr dJ0_length_8abf5_9 ?_
  rw [show (126 : Int32) >>> (0 &&& 31) = 126 by decide]
  exact z_ireturn dJ0_length_8abf5_10 rfl rfl ⟨rfl, rfl⟩
theorem inb_lt32 (h : inb x 126 = true) : x < 126 := by
  obtain ⟨j, hj, rfl⟩ := vp_in_of (inb_in h) (by decide)
  exact nI_lt hj (by decide)
theorem inb_ge (h : inb x 126 = true) : ¬ x < 0 := fun z => inb_in h (Or.inl z)
theorem c_l1char (h : inb x 126 = true) : Ct m_J1_charAt_3b067 S [.ref (sV S), .int x] σ (Qi (wch x, σ)) := by
  refine Ct.of (by decide +kernel) (Nat.le_of_ble_eq_true rfl) ?_
  show Z _ _ _ 0 [(0, .ref (sV S)), (1, .int x)] [] σ
  refine z_iload_n dJ1_charAt_3b067_0 rfl 1 rfl ?_
  refine z_aload_n dJ1_charAt_3b067_1 rfl 0 rfl ?_
  refine z_lenV dJ1_charAt_3b067_2 ?_
  refine z_callS (M' := m_J0_checkIndex_df160) (As := [.int x, .int 126]) (rest := []) kl_J1_9 oy_J0_checkIndex_df160 ⟨Nat.le_of_ble_eq_true rfl, Nat.le_of_ble_eq_true rfl⟩ rfl (Nat.le_of_ble_eq_true rfl) rfl dJ1_charAt_3b067_3 (c_scheck (inb_ge h) (inb_lt32 h)) (fun v τ hq => ?_)
  obtain ⟨rfl, hτ⟩ := hq
  subst τ
  change Z _ _ _ _ _ [] _
  refine z_aload_n dJ1_charAt_3b067_6 rfl 0 rfl ?_
  refine z_iload_n dJ1_charAt_3b067_7 rfl 1 rfl ?_
  refine z_byteV (inb_in h) dJ1_charAt_3b067_8 ?_
  refine z_sipush (v := 255) dJ1_charAt_3b067_9 (by decide) ?_
  refine z_iand dJ1_charAt_3b067_12 ?_
  refine z_i2c dJ1_charAt_3b067_13 ?_
  rw [show ((wch x &&& 255).toUInt32 % 65536).toInt32 = wch x from (wby_ok _ (inb_lt h)).1]
  exact z_ireturn dJ1_charAt_3b067_14 rfl (wby_ok _ (inb_lt h)).2 ⟨rfl, rfl⟩
theorem c_char (h : inb x 126 = true) : Ct m_J0_charAt_5068e S [.ref (sK S), .int x] σ (Qi (wch x, σ)) := by
  refine Ct.of (by decide +kernel) (Nat.le_of_ble_eq_true rfl) ?_
  show Z _ _ _ 0 [(0, .ref (sK S)), (1, .int x)] [] σ
  refine z_aload_n dJ0_charAt_5068e_0 rfl 0 rfl ?_
  refine z_callVS (M' := m_J0_isLatin1_aae02) (As := []) (rest := []) kl_J0_492 oy_J0_isLatin1_aae02 ⟨Nat.le_of_ble_eq_true rfl, Nat.le_of_ble_eq_true rfl⟩ rfl rfl (Nat.le_of_ble_eq_true rfl) rfl dJ0_charAt_5068e_1 c_lat (fun v τ hq => ?_)
  obtain ⟨rfl, hτ⟩ := hq
  subst τ
  change Z _ _ _ _ _ [.int 1] _
  refine z_if_eq (tgt := 16) dJ0_charAt_5068e_4 (by decide) (fun q => absurd q (by decide)) (fun _ => ?_)
  refine z_aload_n dJ0_charAt_5068e_7 rfl 0 rfl ?_
  refine z_getV rfl dJ0_charAt_5068e_8 ?_
  refine z_iload_n dJ0_charAt_5068e_11 rfl 1 rfl ?_
  refine z_callS (M' := m_J1_charAt_3b067) (As := [.ref (sV S), .int x]) (rest := []) kl_J0_495 oy_J1_charAt_3b067 ⟨Nat.le_of_ble_eq_true rfl, Nat.le_of_ble_eq_true rfl⟩ rfl (Nat.le_of_ble_eq_true rfl) rfl dJ0_charAt_5068e_12 (c_l1char h) (fun v τ hq => ?_)
  obtain ⟨rfl, hτ⟩ := hq
  subst τ
  change Z _ _ _ _ _ [.int (wch x)] _
  exact z_ireturn dJ0_charAt_5068e_15 rfl (wby_ok _ (inb_lt h)).2 ⟨rfl, rfl⟩
end CT
