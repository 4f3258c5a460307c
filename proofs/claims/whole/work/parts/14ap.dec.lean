def F_X12_made_15 (s0 : Int32) (σ : Mm) : Option (Int32 × Mm) := some (s0, σ)
set_option maxRecDepth 20000 in
theorem zb_X12_made_15 {S : Shp} {s0 : Int32} {σ : Mm} {r : Int32 × Mm} (h : F_X12_made_15 s0 σ = some r) : Z m_X12_made S (Qi r) 15 [] [.int (s0)] σ := by
  unfold F_X12_made_15 at h
  refine z_goto (tgt := 19) dX12_made_15 (by decide) ?_
  cases h
  exact z_ireturn dX12_made_19 rfl rfl ⟨rfl, rfl⟩
def F_X12_made (x1 : Int32) (x2 : Int32) (x3 : Int32) (σ : Mm) : Option (Int32 × Mm) := (if (f_X12_isMake x2 x3) = 0 then some ((-1), σ) else (bnd (F_X12_madeHits x1 x2 x3 σ) (fun v τ => (F_X12_made_15 v τ))))
set_option maxRecDepth 20000 in
theorem zb_X12_made {S : Shp} {x1 : Int32} {x2 : Int32} {x3 : Int32} {σ : Mm} {r : Int32 × Mm} (h : F_X12_made x1 x2 x3 σ = some r) : Z m_X12_made S (Qi r) 0 [(0, .ref (sL S 3 0 0)), (1, .int (x1)), (2, .int (x2)), (3, .int (x3))] [] σ := by
  unfold F_X12_made at h
  refine z_iload_n dX12_made_0 rfl 2 rfl ?_
  refine z_iload_n dX12_made_1 rfl 3 rfl ?_
  refine z_callS (M' := m_X12_isMake) (As := [.int (x2), .int (x3)]) (rest := []) kl_12_542 oy_X12_isMake ⟨Nat.le_of_ble_eq_true rfl, Nat.le_of_ble_eq_true rfl⟩ rfl (Nat.le_of_ble_eq_true rfl) rfl dX12_made_2 (c_X12_isMake rfl) (fun v τ hq => ?_)
  obtain ⟨rfl, hτ⟩ := hq
  subst τ
  change Z _ _ _ _ _ [.int (f_X12_isMake x2 x3)] _
  refine z_if_eq (tgt := 18) dX12_made_5 (by decide) (fun q => ?_) (fun q => ?_)
  · have h := (if_pos q).symm.trans h
    refine z_iconst (v := (-1)) dX12_made_18 (by decide) ?_
    cases h
    exact z_ireturn dX12_made_19 rfl rfl ⟨rfl, rfl⟩
  · have h := (if_neg q).symm.trans h
    refine z_aload_n dX12_made_8 rfl 0 rfl ?_
    refine z_iload_n dX12_made_9 rfl 1 rfl ?_
    refine z_iload_n dX12_made_10 rfl 2 rfl ?_
    refine z_iload_n dX12_made_11 rfl 3 rfl ?_
    obtain ⟨v, τ, hc, h⟩ := bnd_e h
    refine z_callV (M' := m_X12_madeHits) (t := 3) (i := 0) (k := 0) (As := [.int (x1), .int (x2), .int (x3)]) (rest := []) kl_12_545 oy_X12_madeHits ⟨Nat.le_of_ble_eq_true rfl, Nat.le_of_ble_eq_true rfl⟩ rfl rfl rfl rfl (Nat.le_of_ble_eq_true rfl) rfl dX12_made_12 (c_X12_madeHits hc) (fun v2 τ2 hq => ?_)
    obtain ⟨rfl, hτ⟩ := hq
    subst τ2
    change Z _ _ _ _ _ [.int (v)] _
    refine Z.lv [] rfl ?_
    exact zb_X12_made_15 h
/-- SkyStonesModel.made(III)I -/
theorem c_X12_made {S : Shp} {x1 : Int32} {x2 : Int32} {x3 : Int32} {σ : Mm} {r : Int32 × Mm} (h : F_X12_made x1 x2 x3 σ = some r) : Ct m_X12_made S [.ref (sL S 3 0 0), .int (x1), .int (x2), .int (x3)] σ (Qi r) := Ct.of (by decide +kernel) (Nat.le_of_ble_eq_true rfl) (zb_X12_made h)
def F_X12_madeAt_42 (x4 : Int32) (x5 : Int32) (σ : Mm) : Option (Int32 × Mm) := (if x5 = 0 then (if inb x4 14 = true then some (mA σ 3 0 66 x4.toNatClampNeg, σ) else none) else (if inb x4 14 = true then some (mA σ 3 0 67 x4.toNatClampNeg, σ) else none))
set_option maxRecDepth 20000 in
theorem zb_X12_madeAt_42 {S : Shp} {x4 : Int32} {x5 : Int32} {σ : Mm} {r : Int32 × Mm} (h : F_X12_madeAt_42 x4 x5 σ = some r) : Z m_X12_madeAt S (Qi r) 42 [(0, .ref (sL S 3 0 0)), (4, .int (x4)), (5, .int (x5))] [] σ := by
  unfold F_X12_madeAt_42 at h
  refine z_iload dX12_madeAt_42 2 rfl ?_
  refine z_if_ne (tgt := 57) dX12_madeAt_44 (by decide) (fun q => ?_) (fun q => ?_)
  · have h := (if_neg q).symm.trans h
    obtain ⟨g1, h⟩ := gd h
    refine z_aload_n dX12_madeAt_57 rfl 0 rfl ?_
    refine gf_12_215 rfl dX12_madeAt_58 ?_
    refine z_iload dX12_madeAt_61 1 rfl ?_
    refine ia_3_67 (inb_in g1) dX12_madeAt_63 ?_
    cases h
    exact z_ireturn dX12_madeAt_64 rfl rfl ⟨rfl, rfl⟩
  · have h := (if_pos q).symm.trans h
    obtain ⟨g2, h⟩ := gd h
    refine z_aload_n dX12_madeAt_47 rfl 0 rfl ?_
    refine gf_12_212 rfl dX12_madeAt_48 ?_
    refine z_iload dX12_madeAt_51 1 rfl ?_
    refine ia_3_66 (inb_in g2) dX12_madeAt_53 ?_
    refine z_goto (tgt := 64) dX12_madeAt_54 (by decide) ?_
    cases h
    exact z_ireturn dX12_madeAt_64 rfl rfl ⟨rfl, rfl⟩
def F_X12_madeAt (x1 : Int32) (x2 : Int32) (x3 : Int32) (x4 : Int32) (x5 : Int32) (σ : Mm) : Option (Int32 × Mm) := (if (f_X12_isMake x2 x3) = 0 then some ((-10000), σ) else (if x4 < 0 then some ((-10000), σ) else (if ((2 : Int32) * x2) ≤ x4 then some ((-10000), σ) else (if (f_X12_isIn x5 0 1) = 0 then some ((-10000), σ) else (bnv (F_X12_make x1 x2 x3 σ) (fun τ => (F_X12_madeAt_42 x4 x5 τ)))))))
set_option maxRecDepth 20000 in
theorem zb_X12_madeAt {S : Shp} {x1 : Int32} {x2 : Int32} {x3 : Int32} {x4 : Int32} {x5 : Int32} {σ : Mm} {r : Int32 × Mm} (h : F_X12_madeAt x1 x2 x3 x4 x5 σ = some r) : Z m_X12_madeAt S (Qi r) 0 [(0, .ref (sL S 3 0 0)), (1, .int (x1)), (2, .int (x2)), (3, .int (x3)), (4, .int (x4)), (5, .int (x5))] [] σ := by
  unfold F_X12_madeAt at h
  refine z_iload_n dX12_madeAt_0 rfl 2 rfl ?_
  refine z_iload_n dX12_madeAt_1 rfl 3 rfl ?_
  refine z_callS (M' := m_X12_isMake) (As := [.int (x2), .int (x3)]) (rest := []) kl_12_542 oy_X12_isMake ⟨Nat.le_of_ble_eq_true rfl, Nat.le_of_ble_eq_true rfl⟩ rfl (Nat.le_of_ble_eq_true rfl) rfl dX12_madeAt_2 (c_X12_isMake rfl) (fun v τ hq => ?_)
  obtain ⟨rfl, hτ⟩ := hq
  subst τ
  change Z _ _ _ _ _ [.int (f_X12_isMake x2 x3)] _
  refine z_if_eq (tgt := 31) dX12_madeAt_5 (by decide) (fun q => ?_) (fun q => ?_)
  · have h := (if_pos q).symm.trans h
    refine z_sipush (v := (-10000)) dX12_madeAt_31 (by decide) ?_
    cases h
    exact z_ireturn dX12_madeAt_34 rfl rfl ⟨rfl, rfl⟩
  · have h := (if_neg q).symm.trans h
    refine z_iload dX12_madeAt_8 4 rfl ?_
    refine z_if_lt (tgt := 31) dX12_madeAt_10 (by decide) (fun q => ?_) (fun q => ?_)
    · have h := (if_pos q).symm.trans h
      refine z_sipush (v := (-10000)) dX12_madeAt_31 (by decide) ?_
      cases h
      exact z_ireturn dX12_madeAt_34 rfl rfl ⟨rfl, rfl⟩
    · have h := (if_neg q).symm.trans h
      refine z_iload dX12_madeAt_13 4 rfl ?_
      refine z_iconst (v := 2) dX12_madeAt_15 (by decide) ?_
      refine z_iload_n dX12_madeAt_16 rfl 2 rfl ?_
      refine z_imul dX12_madeAt_17 ?_
      refine z_icmp_ge (tgt := 31) dX12_madeAt_18 (by decide) (fun q => ?_) (fun q => ?_)
      · have h := (if_pos q).symm.trans h
        refine z_sipush (v := (-10000)) dX12_madeAt_31 (by decide) ?_
        cases h
        exact z_ireturn dX12_madeAt_34 rfl rfl ⟨rfl, rfl⟩
      · have h := (if_neg q).symm.trans h
        refine z_iload dX12_madeAt_21 5 rfl ?_
        refine z_iconst (v := 0) dX12_madeAt_23 (by decide) ?_
        refine z_iconst (v := 1) dX12_madeAt_24 (by decide) ?_
        refine z_callS (M' := m_X12_isIn) (As := [.int (x5), .int (0), .int (1)]) (rest := []) kl_12_407 oy_X12_isIn ⟨Nat.le_of_ble_eq_true rfl, Nat.le_of_ble_eq_true rfl⟩ rfl (Nat.le_of_ble_eq_true rfl) rfl dX12_madeAt_25 (c_X12_isIn rfl) (fun v τ hq => ?_)
        obtain ⟨rfl, hτ⟩ := hq
        subst τ
        change Z _ _ _ _ _ [.int (f_X12_isIn x5 0 1)] _
        refine z_if_ne (tgt := 35) dX12_madeAt_28 (by decide) (fun q => ?_) (fun q => ?_)
        · have h := (if_neg q).symm.trans h
          refine z_aload_n dX12_madeAt_35 rfl 0 rfl ?_
          refine z_iload_n dX12_madeAt_36 rfl 1 rfl ?_
          refine z_iload_n dX12_madeAt_37 rfl 2 rfl ?_
          refine z_iload_n dX12_madeAt_38 rfl 3 rfl ?_
          obtain ⟨τ, hc, h⟩ := bnv_e h
          refine z_callV (M' := m_X12_make) (t := 3) (i := 0) (k := 0) (As := [.int (x1), .int (x2), .int (x3)]) (rest := []) kl_12_539 oy_X12_make ⟨Nat.le_of_ble_eq_true rfl, Nat.le_of_ble_eq_true rfl⟩ rfl rfl rfl rfl (Nat.le_of_ble_eq_true rfl) rfl dX12_madeAt_39 (c_X12_make hc) (fun v2 τ2 hq => ?_)
          obtain ⟨rfl, hτ⟩ := hq
          subst τ2
          change Z _ _ _ _ _ [] _
          refine Z.lv [0, 4, 5] rfl ?_
          exact zb_X12_madeAt_42 h
        · have h := (if_pos q).symm.trans h
          refine z_sipush (v := (-10000)) dX12_madeAt_31 (by decide) ?_
          cases h
          exact z_ireturn dX12_madeAt_34 rfl rfl ⟨rfl, rfl⟩
/-- SkyStonesModel.madeAt(IIIII)I -/
theorem c_X12_madeAt {S : Shp} {x1 : Int32} {x2 : Int32} {x3 : Int32} {x4 : Int32} {x5 : Int32} {σ : Mm} {r : Int32 × Mm} (h : F_X12_madeAt x1 x2 x3 x4 x5 σ = some r) : Ct m_X12_madeAt S [.ref (sL S 3 0 0), .int (x1), .int (x2), .int (x3), .int (x4), .int (x5)] σ (Qi r) := Ct.of (by decide +kernel) (Nat.le_of_ble_eq_true rfl) (zb_X12_madeAt h)
def F_X12_many_23 (s0 : Int32) (σ : Mm) : Option (Int32 × Mm) := some (s0, σ)
set_option maxRecDepth 20000 in
theorem zb_X12_many_23 {S : Shp} {s0 : Int32} {σ : Mm} {r : Int32 × Mm} (h : F_X12_many_23 s0 σ = some r) : Z m_X12_many S (Qi r) 23 [] [.int (s0)] σ := by
  unfold F_X12_many_23 at h
  cases h
  exact z_ireturn dX12_many_23 rfl rfl ⟨rfl, rfl⟩
def F_X12_many_18 (x1 : Int32) (σ : Mm) : Option (Int32 × Mm) := (bnd (F_X12_asMany x1 σ) (fun v τ => (F_X12_many_23 v τ)))
set_option maxRecDepth 20000 in
theorem zb_X12_many_18 {S : Shp} {x1 : Int32} {σ : Mm} {r : Int32 × Mm} (h : F_X12_many_18 x1 σ = some r) : Z m_X12_many S (Qi r) 18 [(0, .ref (sL S 3 0 0)), (1, .int (x1))] [] σ := by
  unfold F_X12_many_18 at h
  refine z_aload_n dX12_many_18 rfl 0 rfl ?_
  refine z_iload_n dX12_many_19 rfl 1 rfl ?_
  obtain ⟨v, τ, hc, h⟩ := bnd_e h
  refine z_callV (M' := m_X12_asMany) (t := 3) (i := 0) (k := 0) (As := [.int (x1)]) (rest := []) kl_12_500 oy_X12_asMany ⟨Nat.le_of_ble_eq_true rfl, Nat.le_of_ble_eq_true rfl⟩ rfl rfl rfl rfl (Nat.le_of_ble_eq_true rfl) rfl dX12_many_20 (c_X12_asMany hc) (fun v2 τ2 hq => ?_)
  obtain ⟨rfl, hτ⟩ := hq
  subst τ2
  change Z _ _ _ _ _ [.int (v)] _
  refine Z.lv [] rfl ?_
  exact zb_X12_many_23 h
def F_X12_many_7 (x1 : Int32) (x2 : Int32) (x3 : Int32) (s0 : Int32) (σ : Mm) : Option (Int32 × Mm) := (if s0 = 0 then some ((-1), σ) else (bnv (F_X12_layAll x2 x3 σ) (fun τ => (F_X12_many_18 x1 τ))))
set_option maxRecDepth 20000 in
theorem zb_X12_many_7 {S : Shp} {x1 : Int32} {x2 : Int32} {x3 : Int32} {s0 : Int32} {σ : Mm} {r : Int32 × Mm} (h : F_X12_many_7 x1 x2 x3 s0 σ = some r) : Z m_X12_many S (Qi r) 7 [(0, .ref (sL S 3 0 0)), (1, .int (x1)), (2, .int (x2)), (3, .int (x3))] [.int (s0)] σ := by
  unfold F_X12_many_7 at h
  refine z_if_ne (tgt := 12) dX12_many_7 (by decide) (fun q => ?_) (fun q => ?_)
  · have h := (if_neg q).symm.trans h
    refine z_aload_n dX12_many_12 rfl 0 rfl ?_
    refine z_iload_n dX12_many_13 rfl 2 rfl ?_
    refine z_iload_n dX12_many_14 rfl 3 rfl ?_
    obtain ⟨τ, hc, h⟩ := bnv_e h
    refine z_callV (M' := m_X12_layAll) (t := 3) (i := 0) (k := 0) (As := [.int (x2), .int (x3)]) (rest := []) kl_12_494 oy_X12_layAll ⟨Nat.le_of_ble_eq_true rfl, Nat.le_of_ble_eq_true rfl⟩ rfl rfl rfl rfl (Nat.le_of_ble_eq_true rfl) rfl dX12_many_15 (c_X12_layAll hc) (fun v2 τ2 hq => ?_)
    obtain ⟨rfl, hτ⟩ := hq
    subst τ2
    change Z _ _ _ _ _ [] _
    refine Z.lv [0, 1] rfl ?_
    exact zb_X12_many_18 h
  · have h := (if_pos q).symm.trans h
    refine z_iconst (v := (-1)) dX12_many_10 (by decide) ?_
    cases h
    exact z_ireturn dX12_many_11 rfl rfl ⟨rfl, rfl⟩
def F_X12_many (x1 : Int32) (x2 : Int32) (x3 : Int32) (σ : Mm) : Option (Int32 × Mm) := (bnd (F_X12_isSet x1 x2 x3 σ) (fun v τ => (F_X12_many_7 x1 x2 x3 v τ)))
set_option maxRecDepth 20000 in
theorem zb_X12_many {S : Shp} {x1 : Int32} {x2 : Int32} {x3 : Int32} {σ : Mm} {r : Int32 × Mm} (h : F_X12_many x1 x2 x3 σ = some r) : Z m_X12_many S (Qi r) 0 [(0, .ref (sL S 3 0 0)), (1, .int (x1)), (2, .int (x2)), (3, .int (x3))] [] σ := by
  unfold F_X12_many at h
  refine z_aload_n dX12_many_0 rfl 0 rfl ?_
  refine z_iload_n dX12_many_1 rfl 1 rfl ?_
  refine z_iload_n dX12_many_2 rfl 2 rfl ?_
  refine z_iload_n dX12_many_3 rfl 3 rfl ?_
  obtain ⟨v, τ, hc, h⟩ := bnd_e h
  refine z_callV (M' := m_X12_isSet) (t := 3) (i := 0) (k := 0) (As := [.int (x1), .int (x2), .int (x3)]) (rest := []) kl_12_491 oy_X12_isSet ⟨Nat.le_of_ble_eq_true rfl, Nat.le_of_ble_eq_true rfl⟩ rfl rfl rfl rfl (Nat.le_of_ble_eq_true rfl) rfl dX12_many_4 (c_X12_isSet hc) (fun v2 τ2 hq => ?_)
  obtain ⟨rfl, hτ⟩ := hq
  subst τ2
  change Z _ _ _ _ _ [.int (v)] _
  exact zb_X12_many_7 h
/-- SkyStonesModel.many(III)I -/
theorem c_X12_many {S : Shp} {x1 : Int32} {x2 : Int32} {x3 : Int32} {σ : Mm} {r : Int32 × Mm} (h : F_X12_many x1 x2 x3 σ = some r) : Ct m_X12_many S [.ref (sL S 3 0 0), .int (x1), .int (x2), .int (x3)] σ (Qi r) := Ct.of (by decide +kernel) (Nat.le_of_ble_eq_true rfl) (zb_X12_many h)
def F_X12_move_38 (s0 : Int32) (σ : Mm) : Option (Int32 × Mm) := some (s0, σ)
set_option maxRecDepth 20000 in
theorem zb_X12_move_38 {S : Shp} {s0 : Int32} {σ : Mm} {r : Int32 × Mm} (h : F_X12_move_38 s0 σ = some r) : Z m_X12_move S (Qi r) 38 [] [.int (s0)] σ := by
  unfold F_X12_move_38 at h
  refine z_goto (tgt := 42) dX12_move_38 (by decide) ?_
  cases h
  exact z_ireturn dX12_move_42 rfl rfl ⟨rfl, rfl⟩
def F_X12_move_5 (x1 : Int32) (x2 : Int32) (x3 : Int32) (s0 : Int32) (σ : Mm) : Option (Int32 × Mm) := (if s0 = 0 then some ((-1), σ) else (if (f_X12_isIn x2 0 999) = 0 then some ((-1), σ) else (if (f_X12_isIn x3 0 999) = 0 then some ((-1), σ) else (bnd (F_X12_fact 1 x1 x2 x3 σ) (fun v τ => (F_X12_move_38 v τ))))))
set_option maxRecDepth 20000 in
theorem zb_X12_move_5 {S : Shp} {x1 : Int32} {x2 : Int32} {x3 : Int32} {s0 : Int32} {σ : Mm} {r : Int32 × Mm} (h : F_X12_move_5 x1 x2 x3 s0 σ = some r) : Z m_X12_move S (Qi r) 5 [(0, .ref (sL S 3 0 0)), (1, .int (x1)), (2, .int (x2)), (3, .int (x3))] [.int (s0)] σ := by
  unfold F_X12_move_5 at h
  refine z_if_eq (tgt := 41) dX12_move_5 (by decide) (fun q => ?_) (fun q => ?_)
  · have h := (if_pos q).symm.trans h
    refine z_iconst (v := (-1)) dX12_move_41 (by decide) ?_
    cases h
    exact z_ireturn dX12_move_42 rfl rfl ⟨rfl, rfl⟩
  · have h := (if_neg q).symm.trans h
    refine z_iload_n dX12_move_8 rfl 2 rfl ?_
    refine z_iconst (v := 0) dX12_move_9 (by decide) ?_
    refine z_sipush (v := 999) dX12_move_10 (by decide) ?_
    refine z_callS (M' := m_X12_isIn) (As := [.int (x2), .int (0), .int (999)]) (rest := []) kl_12_407 oy_X12_isIn ⟨Nat.le_of_ble_eq_true rfl, Nat.le_of_ble_eq_true rfl⟩ rfl (Nat.le_of_ble_eq_true rfl) rfl dX12_move_13 (c_X12_isIn rfl) (fun v τ hq => ?_)
    obtain ⟨rfl, hτ⟩ := hq
    subst τ
    change Z _ _ _ _ _ [.int (f_X12_isIn x2 0 999)] _
    refine z_if_eq (tgt := 41) dX12_move_16 (by decide) (fun q => ?_) (fun q => ?_)
    · have h := (if_pos q).symm.trans h
      refine z_iconst (v := (-1)) dX12_move_41 (by decide) ?_
      cases h
      exact z_ireturn dX12_move_42 rfl rfl ⟨rfl, rfl⟩
    · have h := (if_neg q).symm.trans h
      refine z_iload_n dX12_move_19 rfl 3 rfl ?_
      refine z_iconst (v := 0) dX12_move_20 (by decide) ?_
      refine z_sipush (v := 999) dX12_move_21 (by decide) ?_
      refine z_callS (M' := m_X12_isIn) (As := [.int (x3), .int (0), .int (999)]) (rest := []) kl_12_407 oy_X12_isIn ⟨Nat.le_of_ble_eq_true rfl, Nat.le_of_ble_eq_true rfl⟩ rfl (Nat.le_of_ble_eq_true rfl) rfl dX12_move_24 (c_X12_isIn rfl) (fun v τ hq => ?_)
      obtain ⟨rfl, hτ⟩ := hq
      subst τ
      change Z _ _ _ _ _ [.int (f_X12_isIn x3 0 999)] _
      refine z_if_eq (tgt := 41) dX12_move_27 (by decide) (fun q => ?_) (fun q => ?_)
      · have h := (if_pos q).symm.trans h
        refine z_iconst (v := (-1)) dX12_move_41 (by decide) ?_
        cases h
        exact z_ireturn dX12_move_42 rfl rfl ⟨rfl, rfl⟩
      · have h := (if_neg q).symm.trans h
        refine z_aload_n dX12_move_30 rfl 0 rfl ?_
        refine z_iconst (v := 1) dX12_move_31 (by decide) ?_
        refine z_iload_n dX12_move_32 rfl 1 rfl ?_
        refine z_iload_n dX12_move_33 rfl 2 rfl ?_
        refine z_iload_n dX12_move_34 rfl 3 rfl ?_
        obtain ⟨v, τ, hc, h⟩ := bnd_e h
        refine z_callV (M' := m_X12_fact) (t := 3) (i := 0) (k := 0) (As := [.int (1), .int (x1), .int (x2), .int (x3)]) (rest := []) kl_12_411 oy_X12_fact ⟨Nat.le_of_ble_eq_true rfl, Nat.le_of_ble_eq_true rfl⟩ rfl rfl rfl rfl (Nat.le_of_ble_eq_true rfl) rfl dX12_move_35 (c_X12_fact hc) (fun v2 τ2 hq => ?_)
        obtain ⟨rfl, hτ⟩ := hq
        subst τ2
        change Z _ _ _ _ _ [.int (v)] _
        refine Z.lv [] rfl ?_
        exact zb_X12_move_38 h
def F_X12_move (x1 : Int32) (x2 : Int32) (x3 : Int32) (σ : Mm) : Option (Int32 × Mm) := (bnd (F_X12_isThing x1 σ) (fun v τ => (F_X12_move_5 x1 x2 x3 v τ)))
set_option maxRecDepth 20000 in
theorem zb_X12_move {S : Shp} {x1 : Int32} {x2 : Int32} {x3 : Int32} {σ : Mm} {r : Int32 × Mm} (h : F_X12_move x1 x2 x3 σ = some r) : Z m_X12_move S (Qi r) 0 [(0, .ref (sL S 3 0 0)), (1, .int (x1)), (2, .int (x2)), (3, .int (x3))] [] σ := by
  unfold F_X12_move at h
  refine z_aload_n dX12_move_0 rfl 0 rfl ?_
  refine z_iload_n dX12_move_1 rfl 1 rfl ?_
  obtain ⟨v, τ, hc, h⟩ := bnd_e h
  refine z_callV (M' := m_X12_isThing) (t := 3) (i := 0) (k := 0) (As := [.int (x1)]) (rest := []) kl_12_415 oy_X12_isThing ⟨Nat.le_of_ble_eq_true rfl, Nat.le_of_ble_eq_true rfl⟩ rfl rfl rfl rfl (Nat.le_of_ble_eq_true rfl) rfl dX12_move_2 (c_X12_isThing hc) (fun v2 τ2 hq => ?_)
  obtain ⟨rfl, hτ⟩ := hq
  subst τ2
  change Z _ _ _ _ _ [.int (v)] _
  exact zb_X12_move_5 h
/-- SkyStonesModel.move(III)I -/
theorem c_X12_move {S : Shp} {x1 : Int32} {x2 : Int32} {x3 : Int32} {σ : Mm} {r : Int32 × Mm} (h : F_X12_move x1 x2 x3 σ = some r) : Ct m_X12_move S [.ref (sL S 3 0 0), .int (x1), .int (x2), .int (x3)] σ (Qi r) := Ct.of (by decide +kernel) (Nat.le_of_ble_eq_true rfl) (zb_X12_move h)
def F_X12_takes_25 (s0 : Int32) (σ : Mm) : Option (Int32 × Mm) := (if isB s0 = true then some (s0, σ) else none)
set_option maxRecDepth 20000 in
theorem zb_X12_takes_25 {S : Shp} {s0 : Int32} {σ : Mm} {r : Int32 × Mm} (h : F_X12_takes_25 s0 σ = some r) : Z m_X12_takes S (Qi r) 25 [] [.int (s0)] σ := by
  unfold F_X12_takes_25 at h
  obtain ⟨g2, h⟩ := gd h
  cases h
  exact z_ireturn dX12_takes_25 rfl (isB_n g2) ⟨rfl, rfl⟩
def F_X12_takes_17 (s0 : Int32) (σ : Mm) : Option (Int32 × Mm) := (if isB s0 = true then some (s0, σ) else none)
set_option maxRecDepth 20000 in
theorem zb_X12_takes_17 {S : Shp} {s0 : Int32} {σ : Mm} {r : Int32 × Mm} (h : F_X12_takes_17 s0 σ = some r) : Z m_X12_takes S (Qi r) 17 [] [.int (s0)] σ := by
  unfold F_X12_takes_17 at h
  obtain ⟨g3, h⟩ := gd h
  refine z_goto (tgt := 25) dX12_takes_17 (by decide) ?_
  cases h
  exact z_ireturn dX12_takes_25 rfl (isB_n g3) ⟨rfl, rfl⟩
def F_X12_takes (x1 : Int32) (σ : Mm) : Option (Int32 × Mm) := (if inb (mA σ 3 0 0 7) 2001 = true then (if (mA σ 3 0 2 (mA σ 3 0 0 7).toNatClampNeg) = x1 then (bnd (F_X12_pass  σ) (fun v τ => (F_X12_takes_17 v τ))) else (bnd (F_X12_wrong 1 σ) (fun v τ => (F_X12_takes_25 v τ)))) else none)
set_option maxRecDepth 20000 in
theorem zb_X12_takes {S : Shp} {x1 : Int32} {σ : Mm} {r : Int32 × Mm} (h : F_X12_takes x1 σ = some r) : Z m_X12_takes S (Qi r) 0 [(0, .ref (sL S 3 0 0)), (1, .int (x1))] [] σ := by
  unfold F_X12_takes at h
  obtain ⟨g1, h⟩ := gd h
  refine z_aload_n dX12_takes_0 rfl 0 rfl ?_
  refine gf_12_13 rfl dX12_takes_1 ?_
  refine z_aload_n dX12_takes_4 rfl 0 rfl ?_
  refine gf_12_305 rfl dX12_takes_5 ?_
  refine ia_3_2 (inb_in g1) dX12_takes_8 ?_
  refine z_iload_n dX12_takes_9 rfl 1 rfl ?_
  refine z_icmp_ne (tgt := 20) dX12_takes_10 (by decide) (fun q => ?_) (fun q => ?_)
  · have h := (if_neg q).symm.trans h
    refine z_aload_n dX12_takes_20 rfl 0 rfl ?_
    refine z_iconst (v := 1) dX12_takes_21 (by decide) ?_
    obtain ⟨v, τ, hc, h⟩ := bnd_e h
    refine z_callV (M' := m_X12_wrong) (t := 3) (i := 0) (k := 0) (As := [.int (1)]) (rest := []) kl_12_314 oy_X12_wrong ⟨Nat.le_of_ble_eq_true rfl, Nat.le_of_ble_eq_true rfl⟩ rfl rfl rfl rfl (Nat.le_of_ble_eq_true rfl) rfl dX12_takes_22 (c_X12_wrong hc) (fun v2 τ2 hq => ?_)
    obtain ⟨rfl, hτ⟩ := hq
    subst τ2
    change Z _ _ _ _ _ [.int (v)] _
    refine Z.lv [] rfl ?_
    exact zb_X12_takes_25 h
  · have h := (if_pos q).symm.trans h
    refine z_aload_n dX12_takes_13 rfl 0 rfl ?_
    obtain ⟨v, τ, hc, h⟩ := bnd_e h
    refine z_callV (M' := m_X12_pass) (t := 3) (i := 0) (k := 0) (As := []) (rest := []) kl_12_317 oy_X12_pass ⟨Nat.le_of_ble_eq_true rfl, Nat.le_of_ble_eq_true rfl⟩ rfl rfl rfl rfl (Nat.le_of_ble_eq_true rfl) rfl dX12_takes_14 (c_X12_pass hc) (fun v2 τ2 hq => ?_)
    obtain ⟨rfl, hτ⟩ := hq
    subst τ2
    change Z _ _ _ _ _ [.int (v)] _
    refine Z.lv [] rfl ?_
    exact zb_X12_takes_17 h
/-- SkyStonesModel.takes(I)Z -/
theorem c_X12_takes {S : Shp} {x1 : Int32} {σ : Mm} {r : Int32 × Mm} (h : F_X12_takes x1 σ = some r) : Ct m_X12_takes S [.ref (sL S 3 0 0), .int (x1)] σ (Qi r) := Ct.of (by decide +kernel) (Nat.le_of_ble_eq_true rfl) (zb_X12_takes h)
def F_X12_tells_44 (x3 : Int32) (σ : Mm) : Option (Mm) := some (setA σ 3 0 0 (upd (mA σ 3 0 0) 11 x3))
set_option maxRecDepth 20000 in
theorem zb_X12_tells_44 {S : Shp} {x3 : Int32} {σ : Mm} {r : Mm} (h : F_X12_tells_44 x3 σ = some r) : Z m_X12_tells S (Qv r) 44 [(0, .ref (sL S 3 0 0)), (3, .int (x3))] [] σ := by
  unfold F_X12_tells_44 at h
  refine z_aload_n dX12_tells_44 rfl 0 rfl ?_
  refine z_iload_n dX12_tells_45 rfl 1 rfl ?_
  refine pf_12_311 rfl dX12_tells_46 ?_
  cases h
  exact z_return dX12_tells_49 rfl ⟨rfl, rfl⟩
def F_X12_tells_39 (x1 : Int32) (x3 : Int32) (σ : Mm) : Option (Mm) := (F_X12_tells_44 x3 (setA σ 3 0 0 (upd (mA σ 3 0 0) 10 x1)))
set_option maxRecDepth 20000 in
theorem zb_X12_tells_39 {S : Shp} {x1 : Int32} {x3 : Int32} {σ : Mm} {r : Mm} (h : F_X12_tells_39 x1 x3 σ = some r) : Z m_X12_tells S (Qv r) 39 [(0, .ref (sL S 3 0 0)), (1, .int (x1)), (3, .int (x3))] [] σ := by
  unfold F_X12_tells_39 at h
  refine z_aload_n dX12_tells_39 rfl 0 rfl ?_
  refine z_iload_n dX12_tells_40 rfl 1 rfl ?_
  refine pf_12_308 rfl dX12_tells_41 ?_
  refine Z.lv [0, 2] rfl ?_
  exact zb_X12_tells_44 h
def F_X12_tells (x1 : Int32) (x2 : Int32) (σ : Mm) : Option (Mm) := (if inb x2 2001 = true then (if (mA σ 3 0 0 10) = 0 then (F_X12_tells_39 x1 (mA σ 3 0 3 x2.toNatClampNeg) σ) else (if (mA σ 3 0 0 11) < (mA σ 3 0 3 x2.toNatClampNeg) then some (σ) else (if (mA σ 3 0 3 x2.toNatClampNeg) = (mA σ 3 0 0 11) then (if x1 < (mA σ 3 0 0 10) then (F_X12_tells_39 x1 (mA σ 3 0 3 x2.toNatClampNeg) σ) else some (σ)) else (F_X12_tells_39 x1 (mA σ 3 0 3 x2.toNatClampNeg) σ)))) else none)
set_option maxRecDepth 20000 in
theorem zb_X12_tells {S : Shp} {x1 : Int32} {x2 : Int32} {σ : Mm} {r : Mm} (h : F_X12_tells x1 x2 σ = some r) : Z m_X12_tells S (Qv r) 0 [(0, .ref (sL S 3 0 0)), (1, .int (x1)), (2, .int (x2))] [] σ := by
  unfold F_X12_tells at h
  obtain ⟨g1, h⟩ := gd h
  refine z_aload_n dX12_tells_0 rfl 0 rfl ?_
  refine gf_12_16 rfl dX12_tells_1 ?_
  refine z_iload_n dX12_tells_4 rfl 2 rfl ?_
  refine ia_3_3 (inb_in g1) dX12_tells_5 ?_
  refine z_istore_n (lv' := [(0, .ref (sL S 3 0 0)), (1, .int (x1)), (2, .int (x2)), (3, .int (mA σ 3 0 3 x2.toNatClampNeg))]) dX12_tells_6 rfl (by decide) [1, 2, 3, 0] rfl ?_
  refine z_aload_n dX12_tells_7 rfl 0 rfl ?_
  refine gf_12_308 rfl dX12_tells_8 ?_
  refine z_if_eq (tgt := 39) dX12_tells_11 (by decide) (fun q => ?_) (fun q => ?_)
  · have h := (if_pos q).symm.trans h
    refine Z.lv [0, 1, 3] rfl ?_
    exact zb_X12_tells_39 h
  · have h := (if_neg q).symm.trans h
    refine z_iload_n dX12_tells_14 rfl 3 rfl ?_
    refine z_aload_n dX12_tells_15 rfl 0 rfl ?_
    refine gf_12_311 rfl dX12_tells_16 ?_
    refine z_icmp_gt (tgt := 38) dX12_tells_19 (by decide) (fun q => ?_) (fun q => ?_)
    · have h := (if_pos q).symm.trans h
      cases h
      exact z_return dX12_tells_38 rfl ⟨rfl, rfl⟩
    · have h := (if_neg q).symm.trans h
      refine z_iload_n dX12_tells_22 rfl 3 rfl ?_
      refine z_aload_n dX12_tells_23 rfl 0 rfl ?_
      refine gf_12_311 rfl dX12_tells_24 ?_
      refine z_icmp_ne (tgt := 39) dX12_tells_27 (by decide) (fun q => ?_) (fun q => ?_)
      · have h := (if_neg q).symm.trans h
        refine Z.lv [0, 1, 3] rfl ?_
        exact zb_X12_tells_39 h
      · have h := (if_pos q).symm.trans h
        refine z_iload_n dX12_tells_30 rfl 1 rfl ?_
        refine z_aload_n dX12_tells_31 rfl 0 rfl ?_
        refine gf_12_308 rfl dX12_tells_32 ?_
        refine z_icmp_lt (tgt := 39) dX12_tells_35 (by decide) (fun q => ?_) (fun q => ?_)
        · have h := (if_pos q).symm.trans h
          refine Z.lv [0, 1, 3] rfl ?_
          exact zb_X12_tells_39 h
        · have h := (if_neg q).symm.trans h
          cases h
          exact z_return dX12_tells_38 rfl ⟨rfl, rfl⟩
/-- SkyStonesModel.tells(II)V -/
theorem c_X12_tells {S : Shp} {x1 : Int32} {x2 : Int32} {σ : Mm} {r : Mm} (h : F_X12_tells x1 x2 σ = some r) : Ct m_X12_tells S [.ref (sL S 3 0 0), .int (x1), .int (x2)] σ (Qv r) := Ct.of (by decide +kernel) (Nat.le_of_ble_eq_true rfl) (zb_X12_tells h)
def F_X12_names_88 (σ : Mm) : Option (Int32 × Mm) := some (1, σ)
set_option maxRecDepth 20000 in
theorem zb_X12_names_88 {S : Shp} {σ : Mm} {r : Int32 × Mm} (h : F_X12_names_88 σ = some r) : Z m_X12_names S (Qi r) 88 [] [] σ := by
  unfold F_X12_names_88 at h
  refine z_iconst (v := 1) dX12_names_88 (by decide) ?_
  cases h
  exact z_ireturn dX12_names_89 rfl rfl ⟨rfl, rfl⟩
def F_X12_names_78 (σ : Mm) : Option (Int32 × Mm) := (F_X12_names_88 (setA σ 3 0 0 (upd (mA σ 3 0 0) 49 ((mA σ 3 0 0 49) + (1 : Int32)))))
set_option maxRecDepth 20000 in
theorem zb_X12_names_78 {S : Shp} {σ : Mm} {r : Int32 × Mm} (h : F_X12_names_78 σ = some r) : Z m_X12_names S (Qi r) 78 [(0, .ref (sL S 3 0 0))] [] σ := by
  unfold F_X12_names_78 at h
  refine z_aload_n dX12_names_78 rfl 0 rfl ?_
  refine z_dup dX12_names_79 rfl ?_
  refine gf_12_364 rfl dX12_names_80 ?_
  refine z_iconst (v := 1) dX12_names_83 (by decide) ?_
  refine z_iadd dX12_names_84 ?_
  refine pf_12_364 rfl dX12_names_85 ?_
  refine Z.lv [] rfl ?_
  exact zb_X12_names_88 h
def F_X12_names_68 (x1 : Int32) (σ : Mm) : Option (Int32 × Mm) := (if inb (mA σ 3 0 0 49) 20 = true then (F_X12_names_78 (setA σ 3 0 44 (upd (mA σ 3 0 44) (mA σ 3 0 0 49).toNatClampNeg x1))) else none)
set_option maxRecDepth 20000 in
theorem zb_X12_names_68 {S : Shp} {x1 : Int32} {σ : Mm} {r : Int32 × Mm} (h : F_X12_names_68 x1 σ = some r) : Z m_X12_names S (Qi r) 68 [(0, .ref (sL S 3 0 0)), (1, .int (x1))] [] σ := by
  unfold F_X12_names_68 at h
  obtain ⟨g5, h⟩ := gd h
  refine z_aload_n dX12_names_68 rfl 0 rfl ?_
  refine gf_12_145 rfl dX12_names_69 ?_
  refine z_aload_n dX12_names_72 rfl 0 rfl ?_
  refine gf_12_364 rfl dX12_names_73 ?_
  refine z_iload_n dX12_names_76 rfl 1 rfl ?_
  refine is_3_44 (inb_in g5) dX12_names_77 ?_
  refine Z.lv [0] rfl ?_
  exact zb_X12_names_78 h
def F_X12_names_47 (rc17 : Int32 → Int32 → Int32 → Mm → Option (Int32 × Mm)) (x1 : Int32) (x2 : Int32) (x3 : Int32) (σ : Mm) : Option (Int32 × Mm) := (rc17 x1 x2 (x3 + 1) σ)
set_option maxRecDepth 20000 in
theorem zb_X12_names_47 {S : Shp} {rc17 : Int32 → Int32 → Int32 → Mm → Option (Int32 × Mm)} (hrc17 : ∀ {x1 : Int32} {x2 : Int32} {x3 : Int32} {σ : Mm} {r : Int32 × Mm}, rc17 x1 x2 x3 σ = some r → Z m_X12_names S (Qi r) 17 [(0, .ref (sL S 3 0 0)), (1, .int (x1)), (2, .int (x2)), (3, .int (x3))] [] σ) {x1 : Int32} {x2 : Int32} {x3 : Int32} {σ : Mm} {r : Int32 × Mm} (h : F_X12_names_47 rc17 x1 x2 x3 σ = some r) : Z m_X12_names S (Qi r) 47 [(0, .ref (sL S 3 0 0)), (1, .int (x1)), (2, .int (x2)), (3, .int (x3))] [] σ := by
  unfold F_X12_names_47 at h
  refine z_iinc (j := 3) (v := x3 + 1) (lv' := [(0, .ref (sL S 3 0 0)), (1, .int (x1)), (2, .int (x2)), (3, .int (x3 + 1))]) dX12_names_47 rfl rfl (by decide) [1, 2, 3, 0] rfl ?_
  refine z_goto (tgt := 17) dX12_names_50 (by decide) ?_
  exact hrc17 h
def B_X12_names_17 (rc17 : Int32 → Int32 → Int32 → Mm → Option (Int32 × Mm)) (x1 : Int32) (x2 : Int32) (x3 : Int32) (σ : Mm) : Option (Int32 × Mm) := (if (mA σ 3 0 0 49) ≤ x3 then (if inb x2 2001 = true then (if inb (mA σ 3 0 0 49) 20 = true then (F_X12_names_68 x1 (setL σ 3 0 43 (vp_updL (mL σ 3 0 43) (mA σ 3 0 0 49).toNatClampNeg (mL σ 3 0 5 x2.toNatClampNeg)))) else none) else none) else (if inb x3 20 = true then (if inb x2 2001 = true then (if (lg_cmp (mL σ 3 0 43 x3.toNatClampNeg) (mL σ 3 0 5 x2.toNatClampNeg)) = 0 then (bnv (F_X12_tells 3 x2 σ) (fun τ => (F_X12_names_47 rc17 x1 x2 x3 τ))) else (F_X12_names_47 rc17 x1 x2 x3 σ)) else none) else none))
set_option maxRecDepth 20000 in
theorem zB_X12_names_17 {S : Shp} {rc17 : Int32 → Int32 → Int32 → Mm → Option (Int32 × Mm)} (hrc17 : ∀ {x1 : Int32} {x2 : Int32} {x3 : Int32} {σ : Mm} {r : Int32 × Mm}, rc17 x1 x2 x3 σ = some r → Z m_X12_names S (Qi r) 17 [(0, .ref (sL S 3 0 0)), (1, .int (x1)), (2, .int (x2)), (3, .int (x3))] [] σ) {x1 : Int32} {x2 : Int32} {x3 : Int32} {σ : Mm} {r : Int32 × Mm} (h : B_X12_names_17 rc17 x1 x2 x3 σ = some r) : Z m_X12_names S (Qi r) 17 [(0, .ref (sL S 3 0 0)), (1, .int (x1)), (2, .int (x2)), (3, .int (x3))] [] σ := by
  unfold B_X12_names_17 at h
  refine z_iload_n dX12_names_17 rfl 3 rfl ?_
  refine z_aload_n dX12_names_18 rfl 0 rfl ?_
  refine gf_12_364 rfl dX12_names_19 ?_
  refine z_icmp_ge (tgt := 53) dX12_names_22 (by decide) (fun q => ?_) (fun q => ?_)
  · have h := (if_pos q).symm.trans h
    obtain ⟨g1, h⟩ := gd h
    refine z_aload_n dX12_names_53 rfl 0 rfl ?_
    refine gf_12_142 rfl dX12_names_54 ?_
    refine z_aload_n dX12_names_57 rfl 0 rfl ?_
    refine gf_12_364 rfl dX12_names_58 ?_
    refine z_aload_n dX12_names_61 rfl 0 rfl ?_
    refine gf_12_22 rfl dX12_names_62 ?_
    refine z_iload_n dX12_names_65 rfl 2 rfl ?_
    obtain ⟨g2, h⟩ := gd h
    refine ia_3_5 (inb_in g1) dX12_names_66 ?_
    refine is_3_43 (inb_in g2) dX12_names_67 ?_
    refine Z.lv [0, 1] rfl ?_
    exact zb_X12_names_68 h
  · have h := (if_neg q).symm.trans h
    obtain ⟨g3, h⟩ := gd h
    refine z_aload_n dX12_names_25 rfl 0 rfl ?_
    refine gf_12_142 rfl dX12_names_26 ?_
    refine z_iload_n dX12_names_29 rfl 3 rfl ?_
    obtain ⟨g4, h⟩ := gd h
    refine ia_3_43 (inb_in g3) dX12_names_30 ?_
    refine z_aload_n dX12_names_31 rfl 0 rfl ?_
    refine gf_12_22 rfl dX12_names_32 ?_
    refine z_iload_n dX12_names_35 rfl 2 rfl ?_
    refine ia_3_5 (inb_in g4) dX12_names_36 ?_
    refine z_lcmp dX12_names_37 ?_
    refine z_if_ne (tgt := 47) dX12_names_38 (by decide) (fun q => ?_) (fun q => ?_)
    · have h := (if_neg q).symm.trans h
      exact zb_X12_names_47 hrc17 h
    · have h := (if_pos q).symm.trans h
      refine z_aload_n dX12_names_41 rfl 0 rfl ?_
      refine z_iconst (v := 3) dX12_names_42 (by decide) ?_
      refine z_iload_n dX12_names_43 rfl 2 rfl ?_
      obtain ⟨τ, hc, h⟩ := bnv_e h
      refine z_callV (M' := m_X12_tells) (t := 3) (i := 0) (k := 0) (As := [.int (3), .int (x2)]) (rest := []) kl_12_327 oy_X12_tells ⟨Nat.le_of_ble_eq_true rfl, Nat.le_of_ble_eq_true rfl⟩ rfl rfl rfl rfl (Nat.le_of_ble_eq_true rfl) rfl dX12_names_44 (c_X12_tells hc) (fun v2 τ2 hq => ?_)
      obtain ⟨rfl, hτ⟩ := hq
      subst τ2
      change Z _ _ _ _ _ [] _
      exact zb_X12_names_47 hrc17 h
def F_X12_names_17 : Nat → Int32 → Int32 → Int32 → Mm → Option (Int32 × Mm)
  | 0 => fun _ _ _ _ => none
  | n + 1 => B_X12_names_17 (F_X12_names_17 n)
theorem zl_X12_names_17 {S : Shp} : ∀ (nn : Nat) {x1 : Int32} {x2 : Int32} {x3 : Int32} {σ : Mm} {r : Int32 × Mm}, F_X12_names_17 nn x1 x2 x3 σ = some r → Z m_X12_names S (Qi r) 17 [(0, .ref (sL S 3 0 0)), (1, .int (x1)), (2, .int (x2)), (3, .int (x3))] [] σ := by
  intro nn
  induction nn with
  | zero => intro x1 x2 x3 σ r h; cases h
  | succ nn ih => intro x1 x2 x3 σ r h; exact zB_X12_names_17 @ih h
def F_X12_names_10 (x1 : Int32) (x2 : Int32) (s0 : Int32) (σ : Mm) : Option (Int32 × Mm) := (if s0 = 0 then some (0, σ) else (F_X12_names_17 FU x1 x2 0 σ))
set_option maxRecDepth 20000 in
theorem zb_X12_names_10 {S : Shp} {x1 : Int32} {x2 : Int32} {s0 : Int32} {σ : Mm} {r : Int32 × Mm} (h : F_X12_names_10 x1 x2 s0 σ = some r) : Z m_X12_names S (Qi r) 10 [(0, .ref (sL S 3 0 0)), (1, .int (x1)), (2, .int (x2))] [.int (s0)] σ := by
  unfold F_X12_names_10 at h
  refine z_if_ne (tgt := 15) dX12_names_10 (by decide) (fun q => ?_) (fun q => ?_)
  · have h := (if_neg q).symm.trans h
    refine z_iconst (v := 0) dX12_names_15 (by decide) ?_
    refine z_istore_n (lv' := [(0, .ref (sL S 3 0 0)), (1, .int (x1)), (2, .int (x2)), (3, .int (0))]) dX12_names_16 rfl (by decide) [1, 2, 3, 0] rfl ?_
    exact zl_X12_names_17 FU h
  · have h := (if_pos q).symm.trans h
    refine z_iconst (v := 0) dX12_names_13 (by decide) ?_
    cases h
    exact z_ireturn dX12_names_14 rfl rfl ⟨rfl, rfl⟩
def F_X12_names (x1 : Int32) (σ : Mm) : Option (Int32 × Mm) := (bnd (F_X12_takes 0 σ) (fun v τ => (F_X12_names_10 x1 (mA σ 3 0 0 7) v τ)))
set_option maxRecDepth 20000 in
theorem zb_X12_names {S : Shp} {x1 : Int32} {σ : Mm} {r : Int32 × Mm} (h : F_X12_names x1 σ = some r) : Z m_X12_names S (Qi r) 0 [(0, .ref (sL S 3 0 0)), (1, .int (x1))] [] σ := by
  unfold F_X12_names at h
  refine z_aload_n dX12_names_0 rfl 0 rfl ?_
  refine gf_12_305 rfl dX12_names_1 ?_
  refine z_istore_n (lv' := [(0, .ref (sL S 3 0 0)), (1, .int (x1)), (2, .int (mA σ 3 0 0 7))]) dX12_names_4 rfl (by decide) [1, 2, 0] rfl ?_
  refine z_aload_n dX12_names_5 rfl 0 rfl ?_
  refine z_iconst (v := 0) dX12_names_6 (by decide) ?_
  obtain ⟨v, τ, hc, h⟩ := bnd_e h
  refine z_callV (M' := m_X12_takes) (t := 3) (i := 0) (k := 0) (As := [.int (0)]) (rest := []) kl_12_321 oy_X12_takes ⟨Nat.le_of_ble_eq_true rfl, Nat.le_of_ble_eq_true rfl⟩ rfl rfl rfl rfl (Nat.le_of_ble_eq_true rfl) rfl dX12_names_7 (c_X12_takes hc) (fun v2 τ2 hq => ?_)
  obtain ⟨rfl, hτ⟩ := hq
  subst τ2
  change Z _ _ _ _ _ [.int (v)] _
  exact zb_X12_names_10 h
/-- SkyStonesModel.names(I)Z -/
theorem c_X12_names {S : Shp} {x1 : Int32} {σ : Mm} {r : Int32 × Mm} (h : F_X12_names x1 σ = some r) : Ct m_X12_names S [.ref (sL S 3 0 0), .int (x1)] σ (Qi r) := Ct.of (by decide +kernel) (Nat.le_of_ble_eq_true rfl) (zb_X12_names h)
def F_X12_next_151 (rc28 : Int32 → Int32 → Int32 → Int32 → Mm → Option (Int32 × Mm)) (x1 : Int32) (x4 : Int32) (x5 : Int32) (x6 : Int32) (σ : Mm) : Option (Int32 × Mm) := (rc28 x1 x4 x5 (x6 + 1) σ)
set_option maxRecDepth 20000 in
theorem zb_X12_next_151 {S : Shp} {rc28 : Int32 → Int32 → Int32 → Int32 → Mm → Option (Int32 × Mm)} (hrc28 : ∀ {x1 : Int32} {x4 : Int32} {x5 : Int32} {x6 : Int32} {σ : Mm} {r : Int32 × Mm}, rc28 x1 x4 x5 x6 σ = some r → Z m_X12_next S (Qi r) 28 [(0, .ref (sL S 3 0 0)), (1, .int (x1)), (4, .int (x4)), (5, .int (x5)), (6, .int (x6))] [] σ) {x1 : Int32} {x4 : Int32} {x5 : Int32} {x6 : Int32} {σ : Mm} {r : Int32 × Mm} (h : F_X12_next_151 rc28 x1 x4 x5 x6 σ = some r) : Z m_X12_next S (Qi r) 151 [(0, .ref (sL S 3 0 0)), (1, .int (x1)), (4, .int (x4)), (5, .int (x5)), (6, .int (x6))] [] σ := by
  unfold F_X12_next_151 at h
  refine z_iinc (j := 4) (v := x6 + 1) (lv' := [(0, .ref (sL S 3 0 0)), (1, .int (x1)), (4, .int (x4)), (5, .int (x5)), (6, .int (x6 + 1))]) dX12_next_151 rfl rfl (by decide) [1, 2, 3, 4, 0] rfl ?_
  refine z_goto (tgt := 28) dX12_next_154 (by decide) ?_
  exact hrc28 h
def F_X12_next_143 (rc28 : Int32 → Int32 → Int32 → Int32 → Mm → Option (Int32 × Mm)) (x1 : Int32) (x6 : Int32) (x7 : Int32) (σ : Mm) : Option (Int32 × Mm) := (F_X12_next_151 rc28 x1 x6 x7 x6 σ)
set_option maxRecDepth 20000 in
theorem zb_X12_next_143 {S : Shp} {rc28 : Int32 → Int32 → Int32 → Int32 → Mm → Option (Int32 × Mm)} (hrc28 : ∀ {x1 : Int32} {x4 : Int32} {x5 : Int32} {x6 : Int32} {σ : Mm} {r : Int32 × Mm}, rc28 x1 x4 x5 x6 σ = some r → Z m_X12_next S (Qi r) 28 [(0, .ref (sL S 3 0 0)), (1, .int (x1)), (4, .int (x4)), (5, .int (x5)), (6, .int (x6))] [] σ) {x1 : Int32} {x6 : Int32} {x7 : Int32} {σ : Mm} {r : Int32 × Mm} (h : F_X12_next_143 rc28 x1 x6 x7 σ = some r) : Z m_X12_next S (Qi r) 143 [(0, .ref (sL S 3 0 0)), (1, .int (x1)), (6, .int (x6)), (7, .int (x7))] [] σ := by
  unfold F_X12_next_143 at h
  refine z_iload dX12_next_143 2 rfl ?_
  refine z_istore (lv' := [(0, .ref (sL S 3 0 0)), (1, .int (x1)), (4, .int (x6)), (6, .int (x6)), (7, .int (x7))]) dX12_next_145 (by decide) [1, 2, 0, 3, 4] rfl ?_
  refine z_iload dX12_next_147 4 rfl ?_
  refine z_istore (lv' := [(0, .ref (sL S 3 0 0)), (1, .int (x1)), (4, .int (x6)), (5, .int (x7)), (6, .int (x6)), (7, .int (x7))]) dX12_next_149 (by decide) [1, 2, 3, 0, 4, 5] rfl ?_
  refine Z.lv [0, 1, 2, 3, 4] rfl ?_
  exact zb_X12_next_151 hrc28 h
def F_X12_next_122 (rc28 : Int32 → Int32 → Int32 → Int32 → Mm → Option (Int32 × Mm)) (rc58 : Int32 → Int32 → Int32 → Int32 → Int32 → Int32 → Mm → Option (Int32 × Mm)) (x1 : Int32) (x4 : Int32) (x5 : Int32) (x6 : Int32) (x7 : Int32) (x8 : Int32) (σ : Mm) : Option (Int32 × Mm) := (rc58 x1 x4 x5 x6 x7 (x8 + 1) σ)
set_option maxRecDepth 20000 in
theorem zb_X12_next_122 {S : Shp} {rc28 : Int32 → Int32 → Int32 → Int32 → Mm → Option (Int32 × Mm)} (hrc28 : ∀ {x1 : Int32} {x4 : Int32} {x5 : Int32} {x6 : Int32} {σ : Mm} {r : Int32 × Mm}, rc28 x1 x4 x5 x6 σ = some r → Z m_X12_next S (Qi r) 28 [(0, .ref (sL S 3 0 0)), (1, .int (x1)), (4, .int (x4)), (5, .int (x5)), (6, .int (x6))] [] σ) {rc58 : Int32 → Int32 → Int32 → Int32 → Int32 → Int32 → Mm → Option (Int32 × Mm)} (hrc58 : ∀ {x1 : Int32} {x4 : Int32} {x5 : Int32} {x6 : Int32} {x7 : Int32} {x8 : Int32} {σ : Mm} {r : Int32 × Mm}, rc58 x1 x4 x5 x6 x7 x8 σ = some r → Z m_X12_next S (Qi r) 58 [(0, .ref (sL S 3 0 0)), (1, .int (x1)), (4, .int (x4)), (5, .int (x5)), (6, .int (x6)), (7, .int (x7)), (8, .int (x8))] [] σ) {x1 : Int32} {x4 : Int32} {x5 : Int32} {x6 : Int32} {x7 : Int32} {x8 : Int32} {σ : Mm} {r : Int32 × Mm} (h : F_X12_next_122 rc28 rc58 x1 x4 x5 x6 x7 x8 σ = some r) : Z m_X12_next S (Qi r) 122 [(0, .ref (sL S 3 0 0)), (1, .int (x1)), (4, .int (x4)), (5, .int (x5)), (6, .int (x6)), (7, .int (x7)), (8, .int (x8))] [] σ := by
  unfold F_X12_next_122 at h
  refine z_iinc (j := 6) (v := x8 + 1) (lv' := [(0, .ref (sL S 3 0 0)), (1, .int (x1)), (4, .int (x4)), (5, .int (x5)), (6, .int (x6)), (7, .int (x7)), (8, .int (x8 + 1))]) dX12_next_122 rfl rfl (by decide) [1, 2, 3, 4, 5, 6, 0] rfl ?_
  refine z_goto (tgt := 58) dX12_next_125 (by decide) ?_
  exact hrc58 h
def F_X12_next_114 (rc28 : Int32 → Int32 → Int32 → Int32 → Mm → Option (Int32 × Mm)) (rc58 : Int32 → Int32 → Int32 → Int32 → Int32 → Int32 → Mm → Option (Int32 × Mm)) (x1 : Int32) (x4 : Int32) (x5 : Int32) (x6 : Int32) (x7 : Int32) (x8 : Int32) (s0 : Int32) (σ : Mm) : Option (Int32 × Mm) := (if (s0 &&& x1) = 0 then (F_X12_next_122 rc28 rc58 x1 x4 x5 x6 x7 x8 σ) else (F_X12_next_122 rc28 rc58 x1 x4 x5 x6 (x7 + 1) x8 σ))
set_option maxRecDepth 20000 in
theorem zb_X12_next_114 {S : Shp} {rc28 : Int32 → Int32 → Int32 → Int32 → Mm → Option (Int32 × Mm)} (hrc28 : ∀ {x1 : Int32} {x4 : Int32} {x5 : Int32} {x6 : Int32} {σ : Mm} {r : Int32 × Mm}, rc28 x1 x4 x5 x6 σ = some r → Z m_X12_next S (Qi r) 28 [(0, .ref (sL S 3 0 0)), (1, .int (x1)), (4, .int (x4)), (5, .int (x5)), (6, .int (x6))] [] σ) {rc58 : Int32 → Int32 → Int32 → Int32 → Int32 → Int32 → Mm → Option (Int32 × Mm)} (hrc58 : ∀ {x1 : Int32} {x4 : Int32} {x5 : Int32} {x6 : Int32} {x7 : Int32} {x8 : Int32} {σ : Mm} {r : Int32 × Mm}, rc58 x1 x4 x5 x6 x7 x8 σ = some r → Z m_X12_next S (Qi r) 58 [(0, .ref (sL S 3 0 0)), (1, .int (x1)), (4, .int (x4)), (5, .int (x5)), (6, .int (x6)), (7, .int (x7)), (8, .int (x8))] [] σ) {x1 : Int32} {x4 : Int32} {x5 : Int32} {x6 : Int32} {x7 : Int32} {x8 : Int32} {s0 : Int32} {σ : Mm} {r : Int32 × Mm} (h : F_X12_next_114 rc28 rc58 x1 x4 x5 x6 x7 x8 s0 σ = some r) : Z m_X12_next S (Qi r) 114 [(0, .ref (sL S 3 0 0)), (1, .int (x1)), (4, .int (x4)), (5, .int (x5)), (6, .int (x6)), (7, .int (x7)), (8, .int (x8))] [.int (s0)] σ := by
  unfold F_X12_next_114 at h
  refine z_iload_n dX12_next_114 rfl 1 rfl ?_
  refine z_iand dX12_next_115 ?_
  refine z_if_eq (tgt := 122) dX12_next_116 (by decide) (fun q => ?_) (fun q => ?_)
  · have h := (if_pos q).symm.trans h
    exact zb_X12_next_122 hrc28 hrc58 h
  · have h := (if_neg q).symm.trans h
    refine z_iinc (j := 5) (v := x7 + 1) (lv' := [(0, .ref (sL S 3 0 0)), (1, .int (x1)), (4, .int (x4)), (5, .int (x5)), (6, .int (x6)), (7, .int (x7 + 1)), (8, .int (x8))]) dX12_next_119 rfl rfl (by decide) [1, 2, 3, 4, 5, 0, 6] rfl ?_
    exact zb_X12_next_122 hrc28 hrc58 h
def F_X12_next_86 (rc28 : Int32 → Int32 → Int32 → Int32 → Mm → Option (Int32 × Mm)) (rc58 : Int32 → Int32 → Int32 → Int32 → Int32 → Int32 → Mm → Option (Int32 × Mm)) (x1 : Int32) (x4 : Int32) (x5 : Int32) (x6 : Int32) (x7 : Int32) (x8 : Int32) (σ : Mm) : Option (Int32 × Mm) := (if inb x8 196 = true then (if (mA σ 3 0 55 x8.toNatClampNeg) = 0 then (F_X12_next_122 rc28 rc58 x1 x4 x5 x6 x7 x8 σ) else (if inb x8 196 = true then (if inb 0 5 = true then (bnd (F_X12_hitBy (mA σ 3 0 53 x8.toNatClampNeg) (mA σ 3 0 7 (0 : Int32).toNatClampNeg) 0 σ) (fun v τ => (F_X12_next_114 rc28 rc58 x1 x4 x5 x6 x7 x8 v τ))) else none) else none)) else none)
set_option maxRecDepth 20000 in
theorem zb_X12_next_86 {S : Shp} {rc28 : Int32 → Int32 → Int32 → Int32 → Mm → Option (Int32 × Mm)} (hrc28 : ∀ {x1 : Int32} {x4 : Int32} {x5 : Int32} {x6 : Int32} {σ : Mm} {r : Int32 × Mm}, rc28 x1 x4 x5 x6 σ = some r → Z m_X12_next S (Qi r) 28 [(0, .ref (sL S 3 0 0)), (1, .int (x1)), (4, .int (x4)), (5, .int (x5)), (6, .int (x6))] [] σ) {rc58 : Int32 → Int32 → Int32 → Int32 → Int32 → Int32 → Mm → Option (Int32 × Mm)} (hrc58 : ∀ {x1 : Int32} {x4 : Int32} {x5 : Int32} {x6 : Int32} {x7 : Int32} {x8 : Int32} {σ : Mm} {r : Int32 × Mm}, rc58 x1 x4 x5 x6 x7 x8 σ = some r → Z m_X12_next S (Qi r) 58 [(0, .ref (sL S 3 0 0)), (1, .int (x1)), (4, .int (x4)), (5, .int (x5)), (6, .int (x6)), (7, .int (x7)), (8, .int (x8))] [] σ) {x1 : Int32} {x4 : Int32} {x5 : Int32} {x6 : Int32} {x7 : Int32} {x8 : Int32} {σ : Mm} {r : Int32 × Mm} (h : F_X12_next_86 rc28 rc58 x1 x4 x5 x6 x7 x8 σ = some r) : Z m_X12_next S (Qi r) 86 [(0, .ref (sL S 3 0 0)), (1, .int (x1)), (4, .int (x4)), (5, .int (x5)), (6, .int (x6)), (7, .int (x7)), (8, .int (x8))] [] σ := by
  unfold F_X12_next_86 at h
  obtain ⟨g3, h⟩ := gd h
  refine z_aload_n dX12_next_86 rfl 0 rfl ?_
  refine gf_12_178 rfl dX12_next_87 ?_
  refine z_iload dX12_next_90 6 rfl ?_
  refine ia_3_55 (inb_in g3) dX12_next_92 ?_
  refine z_if_eq (tgt := 122) dX12_next_93 (by decide) (fun q => ?_) (fun q => ?_)
  · have h := (if_pos q).symm.trans h
    exact zb_X12_next_122 hrc28 hrc58 h
  · have h := (if_neg q).symm.trans h
    obtain ⟨g4, h⟩ := gd h
    refine z_aload_n dX12_next_96 rfl 0 rfl ?_
    refine z_aload_n dX12_next_97 rfl 0 rfl ?_
    refine gf_12_172 rfl dX12_next_98 ?_
    refine z_iload dX12_next_101 6 rfl ?_
    obtain ⟨g5, h⟩ := gd h
    refine ia_3_53 (inb_in g4) dX12_next_103 ?_
    refine z_aload_n dX12_next_104 rfl 0 rfl ?_
    refine gf_12_34 rfl dX12_next_105 ?_
    refine z_iconst (v := 0) dX12_next_108 (by decide) ?_
    refine ia_3_7 (inb_in g5) dX12_next_109 ?_
    refine z_iconst (v := 0) dX12_next_110 (by decide) ?_
    obtain ⟨v, τ, hc, h⟩ := bnd_e h
    refine z_callV (M' := m_X12_hitBy) (t := 3) (i := 0) (k := 0) (As := [.int (mA σ 3 0 53 x8.toNatClampNeg), .int (mA σ 3 0 7 (0 : Int32).toNatClampNeg), .int (0)]) (rest := []) kl_12_484 oy_X12_hitBy ⟨Nat.le_of_ble_eq_true rfl, Nat.le_of_ble_eq_true rfl⟩ rfl rfl rfl rfl (Nat.le_of_ble_eq_true rfl) rfl dX12_next_111 (c_X12_hitBy hc) (fun v2 τ2 hq => ?_)
    obtain ⟨rfl, hτ⟩ := hq
    subst τ2
    change Z _ _ _ _ _ [.int (v)] _
    exact zb_X12_next_114 hrc28 hrc58 h
def B_X12_next_58 (rc28 : Int32 → Int32 → Int32 → Int32 → Mm → Option (Int32 × Mm)) (rc58 : Int32 → Int32 → Int32 → Int32 → Int32 → Int32 → Mm → Option (Int32 × Mm)) (x1 : Int32) (x4 : Int32) (x5 : Int32) (x6 : Int32) (x7 : Int32) (x8 : Int32) (σ : Mm) : Option (Int32 × Mm) := (if (196 : Int32) ≤ x8 then (if x4 < 0 then (F_X12_next_143 rc28 x1 x6 x7 σ) else (if x5 < x7 then (F_X12_next_143 rc28 x1 x6 x7 σ) else (F_X12_next_151 rc28 x1 x4 x5 x6 σ))) else (if (x8 / (14 : Int32)) = x6 then (F_X12_next_86 rc28 rc58 x1 x4 x5 x6 x7 x8 σ) else (if (x8 - x8 / (14 : Int32) * (14 : Int32)) = x6 then (F_X12_next_86 rc28 rc58 x1 x4 x5 x6 x7 x8 σ) else (F_X12_next_122 rc28 rc58 x1 x4 x5 x6 x7 x8 σ))))
set_option maxRecDepth 20000 in
theorem zB_X12_next_58 {S : Shp} {rc28 : Int32 → Int32 → Int32 → Int32 → Mm → Option (Int32 × Mm)} (hrc28 : ∀ {x1 : Int32} {x4 : Int32} {x5 : Int32} {x6 : Int32} {σ : Mm} {r : Int32 × Mm}, rc28 x1 x4 x5 x6 σ = some r → Z m_X12_next S (Qi r) 28 [(0, .ref (sL S 3 0 0)), (1, .int (x1)), (4, .int (x4)), (5, .int (x5)), (6, .int (x6))] [] σ) {rc58 : Int32 → Int32 → Int32 → Int32 → Int32 → Int32 → Mm → Option (Int32 × Mm)} (hrc58 : ∀ {x1 : Int32} {x4 : Int32} {x5 : Int32} {x6 : Int32} {x7 : Int32} {x8 : Int32} {σ : Mm} {r : Int32 × Mm}, rc58 x1 x4 x5 x6 x7 x8 σ = some r → Z m_X12_next S (Qi r) 58 [(0, .ref (sL S 3 0 0)), (1, .int (x1)), (4, .int (x4)), (5, .int (x5)), (6, .int (x6)), (7, .int (x7)), (8, .int (x8))] [] σ) {x1 : Int32} {x4 : Int32} {x5 : Int32} {x6 : Int32} {x7 : Int32} {x8 : Int32} {σ : Mm} {r : Int32 × Mm} (h : B_X12_next_58 rc28 rc58 x1 x4 x5 x6 x7 x8 σ = some r) : Z m_X12_next S (Qi r) 58 [(0, .ref (sL S 3 0 0)), (1, .int (x1)), (4, .int (x4)), (5, .int (x5)), (6, .int (x6)), (7, .int (x7)), (8, .int (x8))] [] σ := by
  unfold B_X12_next_58 at h
  refine z_iload dX12_next_58 6 rfl ?_
  refine z_sipush (v := 196) dX12_next_60 (by decide) ?_
  refine z_icmp_ge (tgt := 128) dX12_next_63 (by decide) (fun q => ?_) (fun q => ?_)
  · have h := (if_pos q).symm.trans h
    refine z_iload dX12_next_128 2 rfl ?_
    refine z_if_lt (tgt := 143) dX12_next_130 (by decide) (fun q => ?_) (fun q => ?_)
    · have h := (if_pos q).symm.trans h
      refine Z.lv [0, 1, 4, 5] rfl ?_
      exact zb_X12_next_143 hrc28 h
    · have h := (if_neg q).symm.trans h
      refine z_iload dX12_next_133 5 rfl ?_
      refine z_iload dX12_next_135 3 rfl ?_
      refine z_icmp_gt (tgt := 143) dX12_next_137 (by decide) (fun q => ?_) (fun q => ?_)
      · have h := (if_pos q).symm.trans h
        refine Z.lv [0, 1, 4, 5] rfl ?_
        exact zb_X12_next_143 hrc28 h
      · have h := (if_neg q).symm.trans h
        refine z_goto (tgt := 151) dX12_next_140 (by decide) ?_
        refine Z.lv [0, 1, 2, 3, 4] rfl ?_
        exact zb_X12_next_151 hrc28 h
  · have h := (if_neg q).symm.trans h
    refine z_iload dX12_next_66 6 rfl ?_
    refine z_bipush (v := 14) dX12_next_68 (by decide) ?_
    refine z_idiv dX12_next_70 (by decide) ?_
    refine z_iload dX12_next_71 4 rfl ?_
    refine z_icmp_eq (tgt := 86) dX12_next_73 (by decide) (fun q => ?_) (fun q => ?_)
    · have h := (if_pos q).symm.trans h
      exact zb_X12_next_86 hrc28 hrc58 h
    · have h := (if_neg q).symm.trans h
      refine z_iload dX12_next_76 6 rfl ?_
      refine z_bipush (v := 14) dX12_next_78 (by decide) ?_
      refine z_irem dX12_next_80 (by decide) ?_
      refine z_iload dX12_next_81 4 rfl ?_
      refine z_icmp_ne (tgt := 122) dX12_next_83 (by decide) (fun q => ?_) (fun q => ?_)
      · have h := (if_neg q).symm.trans h
        exact zb_X12_next_122 hrc28 hrc58 h
      · have h := (if_pos q).symm.trans h
        exact zb_X12_next_86 hrc28 hrc58 h
def F_X12_next_58 (rc28 : Int32 → Int32 → Int32 → Int32 → Mm → Option (Int32 × Mm)) : Nat → Int32 → Int32 → Int32 → Int32 → Int32 → Int32 → Mm → Option (Int32 × Mm)
  | 0 => fun _ _ _ _ _ _ _ => none
  | n + 1 => B_X12_next_58 rc28 (F_X12_next_58 rc28 n)
theorem zl_X12_next_58 {S : Shp} {rc28 : Int32 → Int32 → Int32 → Int32 → Mm → Option (Int32 × Mm)} (hrc28 : ∀ {x1 : Int32} {x4 : Int32} {x5 : Int32} {x6 : Int32} {σ : Mm} {r : Int32 × Mm}, rc28 x1 x4 x5 x6 σ = some r → Z m_X12_next S (Qi r) 28 [(0, .ref (sL S 3 0 0)), (1, .int (x1)), (4, .int (x4)), (5, .int (x5)), (6, .int (x6))] [] σ) : ∀ (nn : Nat) {x1 : Int32} {x4 : Int32} {x5 : Int32} {x6 : Int32} {x7 : Int32} {x8 : Int32} {σ : Mm} {r : Int32 × Mm}, F_X12_next_58 rc28 nn x1 x4 x5 x6 x7 x8 σ = some r → Z m_X12_next S (Qi r) 58 [(0, .ref (sL S 3 0 0)), (1, .int (x1)), (4, .int (x4)), (5, .int (x5)), (6, .int (x6)), (7, .int (x7)), (8, .int (x8))] [] σ := by
  intro nn
  induction nn with
  | zero => intro x1 x4 x5 x6 x7 x8 σ r h; cases h
  | succ nn ih => intro x1 x4 x5 x6 x7 x8 σ r h; exact zB_X12_next_58 hrc28 @ih h
def B_X12_next_28 (rc28 : Int32 → Int32 → Int32 → Int32 → Mm → Option (Int32 × Mm)) (x1 : Int32) (x4 : Int32) (x5 : Int32) (x6 : Int32) (σ : Mm) : Option (Int32 × Mm) := (if inb 0 5 = true then (if (mA σ 3 0 8 (0 : Int32).toNatClampNeg) ≤ x6 then some (x4, σ) else (if inb x6 14 = true then (if (mA σ 3 0 51 x6.toNatClampNeg) = 0 then (F_X12_next_58 rc28 FU x1 x4 x5 x6 0 0 σ) else (F_X12_next_151 rc28 x1 x4 x5 x6 σ)) else none)) else none)
set_option maxRecDepth 20000 in
theorem zB_X12_next_28 {S : Shp} {rc28 : Int32 → Int32 → Int32 → Int32 → Mm → Option (Int32 × Mm)} (hrc28 : ∀ {x1 : Int32} {x4 : Int32} {x5 : Int32} {x6 : Int32} {σ : Mm} {r : Int32 × Mm}, rc28 x1 x4 x5 x6 σ = some r → Z m_X12_next S (Qi r) 28 [(0, .ref (sL S 3 0 0)), (1, .int (x1)), (4, .int (x4)), (5, .int (x5)), (6, .int (x6))] [] σ) {x1 : Int32} {x4 : Int32} {x5 : Int32} {x6 : Int32} {σ : Mm} {r : Int32 × Mm} (h : B_X12_next_28 rc28 x1 x4 x5 x6 σ = some r) : Z m_X12_next S (Qi r) 28 [(0, .ref (sL S 3 0 0)), (1, .int (x1)), (4, .int (x4)), (5, .int (x5)), (6, .int (x6))] [] σ := by
  unfold B_X12_next_28 at h
  obtain ⟨g1, h⟩ := gd h
  refine z_iload dX12_next_28 4 rfl ?_
  refine z_aload_n dX12_next_30 rfl 0 rfl ?_
  refine gf_12_37 rfl dX12_next_31 ?_
  refine z_iconst (v := 0) dX12_next_34 (by decide) ?_
  refine ia_3_8 (inb_in g1) dX12_next_35 ?_
  refine z_icmp_ge (tgt := 157) dX12_next_36 (by decide) (fun q => ?_) (fun q => ?_)
  · have h := (if_pos q).symm.trans h
    refine z_iload dX12_next_157 2 rfl ?_
    cases h
    exact z_ireturn dX12_next_159 rfl rfl ⟨rfl, rfl⟩
  · have h := (if_neg q).symm.trans h
    obtain ⟨g2, h⟩ := gd h
    refine z_aload_n dX12_next_39 rfl 0 rfl ?_
    refine gf_12_166 rfl dX12_next_40 ?_
    refine z_iload dX12_next_43 4 rfl ?_
    refine ia_3_51 (inb_in g2) dX12_next_45 ?_
    refine z_if_eq (tgt := 52) dX12_next_46 (by decide) (fun q => ?_) (fun q => ?_)
    · have h := (if_pos q).symm.trans h
      refine z_iconst (v := 0) dX12_next_52 (by decide) ?_
      refine z_istore (lv' := [(0, .ref (sL S 3 0 0)), (1, .int (x1)), (4, .int (x4)), (5, .int (x5)), (6, .int (x6)), (7, .int (0))]) dX12_next_53 (by decide) [1, 2, 3, 4, 5, 0] rfl ?_
      refine z_iconst (v := 0) dX12_next_55 (by decide) ?_
      refine z_istore (lv' := [(0, .ref (sL S 3 0 0)), (1, .int (x1)), (4, .int (x4)), (5, .int (x5)), (6, .int (x6)), (7, .int (0)), (8, .int (0))]) dX12_next_56 (by decide) [1, 2, 3, 4, 5, 6, 0] rfl ?_
      exact zl_X12_next_58 hrc28 FU h
    · have h := (if_neg q).symm.trans h
      refine z_goto (tgt := 151) dX12_next_49 (by decide) ?_
      exact zb_X12_next_151 hrc28 h
def F_X12_next_28 : Nat → Int32 → Int32 → Int32 → Int32 → Mm → Option (Int32 × Mm)
  | 0 => fun _ _ _ _ _ => none
  | n + 1 => B_X12_next_28 (F_X12_next_28 n)
theorem zl_X12_next_28 {S : Shp} : ∀ (nn : Nat) {x1 : Int32} {x4 : Int32} {x5 : Int32} {x6 : Int32} {σ : Mm} {r : Int32 × Mm}, F_X12_next_28 nn x1 x4 x5 x6 σ = some r → Z m_X12_next S (Qi r) 28 [(0, .ref (sL S 3 0 0)), (1, .int (x1)), (4, .int (x4)), (5, .int (x5)), (6, .int (x6))] [] σ := by
  intro nn
  induction nn with
  | zero => intro x1 x4 x5 x6 σ r h; cases h
  | succ nn ih => intro x1 x4 x5 x6 σ r h; exact zB_X12_next_28 @ih h
def F_X12_next_18 (x1 : Int32) (σ : Mm) : Option (Int32 × Mm) := (F_X12_next_28 FU x1 ((-2)) 0 0 σ)
set_option maxRecDepth 20000 in
theorem zb_X12_next_18 {S : Shp} {x1 : Int32} {σ : Mm} {r : Int32 × Mm} (h : F_X12_next_18 x1 σ = some r) : Z m_X12_next S (Qi r) 18 [(0, .ref (sL S 3 0 0)), (1, .int (x1))] [] σ := by
  unfold F_X12_next_18 at h
  refine z_bipush (v := (-2)) dX12_next_18 (by decide) ?_
  refine z_istore (lv' := [(0, .ref (sL S 3 0 0)), (1, .int (x1)), (4, .int ((-2)))]) dX12_next_20 (by decide) [1, 2, 0] rfl ?_
  refine z_iconst (v := 0) dX12_next_22 (by decide) ?_
  refine z_istore (lv' := [(0, .ref (sL S 3 0 0)), (1, .int (x1)), (4, .int ((-2))), (5, .int (0))]) dX12_next_23 (by decide) [1, 2, 3, 0] rfl ?_
  refine z_iconst (v := 0) dX12_next_25 (by decide) ?_
  refine z_istore (lv' := [(0, .ref (sL S 3 0 0)), (1, .int (x1)), (4, .int ((-2))), (5, .int (0)), (6, .int (0))]) dX12_next_26 (by decide) [1, 2, 3, 4, 0] rfl ?_
  exact zl_X12_next_28 FU h
def F_X12_next_7 (x1 : Int32) (x2 : Int32) (x3 : Int32) (s0 : Int32) (σ : Mm) : Option (Int32 × Mm) := (if s0 = 0 then some ((-1), σ) else (bnv (F_X12_layAll x2 x3 σ) (fun τ => (F_X12_next_18 x1 τ))))
set_option maxRecDepth 20000 in
theorem zb_X12_next_7 {S : Shp} {x1 : Int32} {x2 : Int32} {x3 : Int32} {s0 : Int32} {σ : Mm} {r : Int32 × Mm} (h : F_X12_next_7 x1 x2 x3 s0 σ = some r) : Z m_X12_next S (Qi r) 7 [(0, .ref (sL S 3 0 0)), (1, .int (x1)), (2, .int (x2)), (3, .int (x3))] [.int (s0)] σ := by
  unfold F_X12_next_7 at h
  refine z_if_ne (tgt := 12) dX12_next_7 (by decide) (fun q => ?_) (fun q => ?_)
  · have h := (if_neg q).symm.trans h
    refine z_aload_n dX12_next_12 rfl 0 rfl ?_
    refine z_iload_n dX12_next_13 rfl 2 rfl ?_
    refine z_iload_n dX12_next_14 rfl 3 rfl ?_
    obtain ⟨τ, hc, h⟩ := bnv_e h
    refine z_callV (M' := m_X12_layAll) (t := 3) (i := 0) (k := 0) (As := [.int (x2), .int (x3)]) (rest := []) kl_12_494 oy_X12_layAll ⟨Nat.le_of_ble_eq_true rfl, Nat.le_of_ble_eq_true rfl⟩ rfl rfl rfl rfl (Nat.le_of_ble_eq_true rfl) rfl dX12_next_15 (c_X12_layAll hc) (fun v2 τ2 hq => ?_)
    obtain ⟨rfl, hτ⟩ := hq
    subst τ2
    change Z _ _ _ _ _ [] _
    refine Z.lv [0, 1] rfl ?_
    exact zb_X12_next_18 h
  · have h := (if_pos q).symm.trans h
    refine z_iconst (v := (-1)) dX12_next_10 (by decide) ?_
    cases h
    exact z_ireturn dX12_next_11 rfl rfl ⟨rfl, rfl⟩
def F_X12_next (x1 : Int32) (x2 : Int32) (x3 : Int32) (σ : Mm) : Option (Int32 × Mm) := (bnd (F_X12_isSet x1 x2 x3 σ) (fun v τ => (F_X12_next_7 x1 x2 x3 v τ)))
set_option maxRecDepth 20000 in
theorem zb_X12_next {S : Shp} {x1 : Int32} {x2 : Int32} {x3 : Int32} {σ : Mm} {r : Int32 × Mm} (h : F_X12_next x1 x2 x3 σ = some r) : Z m_X12_next S (Qi r) 0 [(0, .ref (sL S 3 0 0)), (1, .int (x1)), (2, .int (x2)), (3, .int (x3))] [] σ := by
  unfold F_X12_next at h
  refine z_aload_n dX12_next_0 rfl 0 rfl ?_
  refine z_iload_n dX12_next_1 rfl 1 rfl ?_
  refine z_iload_n dX12_next_2 rfl 2 rfl ?_
  refine z_iload_n dX12_next_3 rfl 3 rfl ?_
  obtain ⟨v, τ, hc, h⟩ := bnd_e h
  refine z_callV (M' := m_X12_isSet) (t := 3) (i := 0) (k := 0) (As := [.int (x1), .int (x2), .int (x3)]) (rest := []) kl_12_491 oy_X12_isSet ⟨Nat.le_of_ble_eq_true rfl, Nat.le_of_ble_eq_true rfl⟩ rfl rfl rfl rfl (Nat.le_of_ble_eq_true rfl) rfl dX12_next_4 (c_X12_isSet hc) (fun v2 τ2 hq => ?_)
  obtain ⟨rfl, hτ⟩ := hq
  subst τ2
  change Z _ _ _ _ _ [.int (v)] _
  exact zb_X12_next_7 h
/-- SkyStonesModel.next(III)I -/
theorem c_X12_next {S : Shp} {x1 : Int32} {x2 : Int32} {x3 : Int32} {σ : Mm} {r : Int32 × Mm} (h : F_X12_next x1 x2 x3 σ = some r) : Ct m_X12_next S [.ref (sL S 3 0 0), .int (x1), .int (x2), .int (x3)] σ (Qi r) := Ct.of (by decide +kernel) (Nat.le_of_ble_eq_true rfl) (zb_X12_next h)
def F_X12_odds_57 (rc28 : Int32 → Int32 → Int32 → Int32 → Int32 → Int32 → Int32 → Mm → Option (Int32 × Mm)) (x1 : Int32) (x2 : Int32) (x3 : Int32) (x4 : Int32) (x5 : Int32) (x7 : Int32) (s0 : Int32) (s1 : Int32) (σ : Mm) : Option (Int32 × Mm) := (rc28 x1 x2 x3 x4 x5 (s1 + s0) (x7 + 1) σ)
set_option maxRecDepth 20000 in
theorem zb_X12_odds_57 {S : Shp} {rc28 : Int32 → Int32 → Int32 → Int32 → Int32 → Int32 → Int32 → Mm → Option (Int32 × Mm)} (hrc28 : ∀ {x1 : Int32} {x2 : Int32} {x3 : Int32} {x4 : Int32} {x5 : Int32} {x6 : Int32} {x7 : Int32} {σ : Mm} {r : Int32 × Mm}, rc28 x1 x2 x3 x4 x5 x6 x7 σ = some r → Z m_X12_odds S (Qi r) 28 [(0, .ref (sL S 3 0 0)), (1, .int (x1)), (2, .int (x2)), (3, .int (x3)), (4, .int (x4)), (5, .int (x5)), (6, .int (x6)), (7, .int (x7))] [] σ) {x1 : Int32} {x2 : Int32} {x3 : Int32} {x4 : Int32} {x5 : Int32} {x7 : Int32} {s0 : Int32} {s1 : Int32} {σ : Mm} {r : Int32 × Mm} (h : F_X12_odds_57 rc28 x1 x2 x3 x4 x5 x7 s0 s1 σ = some r) : Z m_X12_odds S (Qi r) 57 [(0, .ref (sL S 3 0 0)), (1, .int (x1)), (2, .int (x2)), (3, .int (x3)), (4, .int (x4)), (5, .int (x5)), (7, .int (x7))] [.int (s0), .int (s1)] σ := by
  unfold F_X12_odds_57 at h
  refine z_iadd dX12_odds_57 ?_
  refine z_istore (lv' := [(0, .ref (sL S 3 0 0)), (1, .int (x1)), (2, .int (x2)), (3, .int (x3)), (4, .int (x4)), (5, .int (x5)), (6, .int (s1 + s0)), (7, .int (x7))]) dX12_odds_58 (by decide) [1, 2, 3, 4, 5, 6, 0, 7] rfl ?_
  refine z_iinc (j := 7) (v := x7 + 1) (lv' := [(0, .ref (sL S 3 0 0)), (1, .int (x1)), (2, .int (x2)), (3, .int (x3)), (4, .int (x4)), (5, .int (x5)), (6, .int (s1 + s0)), (7, .int (x7 + 1))]) dX12_odds_60 rfl rfl (by decide) [1, 2, 3, 4, 5, 6, 7, 0] rfl ?_
  refine z_goto (tgt := 28) dX12_odds_63 (by decide) ?_
  exact hrc28 h
def F_X12_odds_47 (rc28 : Int32 → Int32 → Int32 → Int32 → Int32 → Int32 → Int32 → Mm → Option (Int32 × Mm)) (x1 : Int32) (x2 : Int32) (x3 : Int32) (x4 : Int32) (x5 : Int32) (x7 : Int32) (s0 : Int32) (s1 : Int32) (σ : Mm) : Option (Int32 × Mm) := (if s0 < x5 then (F_X12_odds_57 rc28 x1 x2 x3 x4 x5 x7 0 s1 σ) else (F_X12_odds_57 rc28 x1 x2 x3 x4 x5 x7 1 s1 σ))
set_option maxRecDepth 20000 in
theorem zb_X12_odds_47 {S : Shp} {rc28 : Int32 → Int32 → Int32 → Int32 → Int32 → Int32 → Int32 → Mm → Option (Int32 × Mm)} (hrc28 : ∀ {x1 : Int32} {x2 : Int32} {x3 : Int32} {x4 : Int32} {x5 : Int32} {x6 : Int32} {x7 : Int32} {σ : Mm} {r : Int32 × Mm}, rc28 x1 x2 x3 x4 x5 x6 x7 σ = some r → Z m_X12_odds S (Qi r) 28 [(0, .ref (sL S 3 0 0)), (1, .int (x1)), (2, .int (x2)), (3, .int (x3)), (4, .int (x4)), (5, .int (x5)), (6, .int (x6)), (7, .int (x7))] [] σ) {x1 : Int32} {x2 : Int32} {x3 : Int32} {x4 : Int32} {x5 : Int32} {x7 : Int32} {s0 : Int32} {s1 : Int32} {σ : Mm} {r : Int32 × Mm} (h : F_X12_odds_47 rc28 x1 x2 x3 x4 x5 x7 s0 s1 σ = some r) : Z m_X12_odds S (Qi r) 47 [(0, .ref (sL S 3 0 0)), (1, .int (x1)), (2, .int (x2)), (3, .int (x3)), (4, .int (x4)), (5, .int (x5)), (7, .int (x7))] [.int (s0), .int (s1)] σ := by
  unfold F_X12_odds_47 at h
  refine z_iload dX12_odds_47 5 rfl ?_
  refine z_icmp_lt (tgt := 56) dX12_odds_49 (by decide) (fun q => ?_) (fun q => ?_)
  · have h := (if_pos q).symm.trans h
    refine z_iconst (v := 0) dX12_odds_56 (by decide) ?_
    exact zb_X12_odds_57 hrc28 h
  · have h := (if_neg q).symm.trans h
    refine z_iconst (v := 1) dX12_odds_52 (by decide) ?_
    refine z_goto (tgt := 57) dX12_odds_53 (by decide) ?_
    exact zb_X12_odds_57 hrc28 h
def B_X12_odds_28 (rc28 : Int32 → Int32 → Int32 → Int32 → Int32 → Int32 → Int32 → Mm → Option (Int32 × Mm)) (x1 : Int32) (x2 : Int32) (x3 : Int32) (x4 : Int32) (x5 : Int32) (x6 : Int32) (x7 : Int32) (σ : Mm) : Option (Int32 × Mm) := (if x4 ≤ x7 then some (x6, σ) else (bnd (F_X12_madeHits (x1 + x7) x2 x3 σ) (fun v τ => (F_X12_odds_47 rc28 x1 x2 x3 x4 x5 x7 v x6 τ))))
set_option maxRecDepth 20000 in
theorem zB_X12_odds_28 {S : Shp} {rc28 : Int32 → Int32 → Int32 → Int32 → Int32 → Int32 → Int32 → Mm → Option (Int32 × Mm)} (hrc28 : ∀ {x1 : Int32} {x2 : Int32} {x3 : Int32} {x4 : Int32} {x5 : Int32} {x6 : Int32} {x7 : Int32} {σ : Mm} {r : Int32 × Mm}, rc28 x1 x2 x3 x4 x5 x6 x7 σ = some r → Z m_X12_odds S (Qi r) 28 [(0, .ref (sL S 3 0 0)), (1, .int (x1)), (2, .int (x2)), (3, .int (x3)), (4, .int (x4)), (5, .int (x5)), (6, .int (x6)), (7, .int (x7))] [] σ) {x1 : Int32} {x2 : Int32} {x3 : Int32} {x4 : Int32} {x5 : Int32} {x6 : Int32} {x7 : Int32} {σ : Mm} {r : Int32 × Mm} (h : B_X12_odds_28 rc28 x1 x2 x3 x4 x5 x6 x7 σ = some r) : Z m_X12_odds S (Qi r) 28 [(0, .ref (sL S 3 0 0)), (1, .int (x1)), (2, .int (x2)), (3, .int (x3)), (4, .int (x4)), (5, .int (x5)), (6, .int (x6)), (7, .int (x7))] [] σ := by
  unfold B_X12_odds_28 at h
  refine z_iload dX12_odds_28 7 rfl ?_
  refine z_iload dX12_odds_30 4 rfl ?_
  refine z_icmp_ge (tgt := 66) dX12_odds_32 (by decide) (fun q => ?_) (fun q => ?_)
  · have h := (if_pos q).symm.trans h
    refine z_iload dX12_odds_66 6 rfl ?_
    cases h
    exact z_ireturn dX12_odds_68 rfl rfl ⟨rfl, rfl⟩
  · have h := (if_neg q).symm.trans h
    refine z_iload dX12_odds_35 6 rfl ?_
    refine z_aload_n dX12_odds_37 rfl 0 rfl ?_
    refine z_iload_n dX12_odds_38 rfl 1 rfl ?_
    refine z_iload dX12_odds_39 7 rfl ?_
    refine z_iadd dX12_odds_41 ?_
    refine z_iload_n dX12_odds_42 rfl 2 rfl ?_
    refine z_iload_n dX12_odds_43 rfl 3 rfl ?_
    obtain ⟨v, τ, hc, h⟩ := bnd_e h
    refine z_callV (M' := m_X12_madeHits) (t := 3) (i := 0) (k := 0) (As := [.int (x1 + x7), .int (x2), .int (x3)]) (rest := [.int (x6)]) kl_12_545 oy_X12_madeHits ⟨Nat.le_of_ble_eq_true rfl, Nat.le_of_ble_eq_true rfl⟩ rfl rfl rfl rfl (Nat.le_of_ble_eq_true rfl) rfl dX12_odds_44 (c_X12_madeHits hc) (fun v2 τ2 hq => ?_)
    obtain ⟨rfl, hτ⟩ := hq
    subst τ2
    change Z _ _ _ _ _ [.int (v), .int (x6)] _
    refine Z.lv [0, 1, 2, 3, 4, 5, 7] rfl ?_
    exact zb_X12_odds_47 hrc28 h
def F_X12_odds_28 : Nat → Int32 → Int32 → Int32 → Int32 → Int32 → Int32 → Int32 → Mm → Option (Int32 × Mm)
  | 0 => fun _ _ _ _ _ _ _ _ => none
  | n + 1 => B_X12_odds_28 (F_X12_odds_28 n)
theorem zl_X12_odds_28 {S : Shp} : ∀ (nn : Nat) {x1 : Int32} {x2 : Int32} {x3 : Int32} {x4 : Int32} {x5 : Int32} {x6 : Int32} {x7 : Int32} {σ : Mm} {r : Int32 × Mm}, F_X12_odds_28 nn x1 x2 x3 x4 x5 x6 x7 σ = some r → Z m_X12_odds S (Qi r) 28 [(0, .ref (sL S 3 0 0)), (1, .int (x1)), (2, .int (x2)), (3, .int (x3)), (4, .int (x4)), (5, .int (x5)), (6, .int (x6)), (7, .int (x7))] [] σ := by
  intro nn
  induction nn with
  | zero => intro x1 x2 x3 x4 x5 x6 x7 σ r h; cases h
  | succ nn ih => intro x1 x2 x3 x4 x5 x6 x7 σ r h; exact zB_X12_odds_28 @ih h
def F_X12_odds (x1 : Int32) (x2 : Int32) (x3 : Int32) (x4 : Int32) (x5 : Int32) (σ : Mm) : Option (Int32 × Mm) := (if (f_X12_isMake x2 x3) = 0 then some ((-1), σ) else (if (f_X12_isIn x4 1 200) = 0 then some ((-1), σ) else (F_X12_odds_28 FU x1 x2 x3 x4 x5 0 0 σ)))
set_option maxRecDepth 20000 in
theorem zb_X12_odds {S : Shp} {x1 : Int32} {x2 : Int32} {x3 : Int32} {x4 : Int32} {x5 : Int32} {σ : Mm} {r : Int32 × Mm} (h : F_X12_odds x1 x2 x3 x4 x5 σ = some r) : Z m_X12_odds S (Qi r) 0 [(0, .ref (sL S 3 0 0)), (1, .int (x1)), (2, .int (x2)), (3, .int (x3)), (4, .int (x4)), (5, .int (x5))] [] σ := by
  unfold F_X12_odds at h
  refine z_iload_n dX12_odds_0 rfl 2 rfl ?_
  refine z_iload_n dX12_odds_1 rfl 3 rfl ?_
  refine z_callS (M' := m_X12_isMake) (As := [.int (x2), .int (x3)]) (rest := []) kl_12_542 oy_X12_isMake ⟨Nat.le_of_ble_eq_true rfl, Nat.le_of_ble_eq_true rfl⟩ rfl (Nat.le_of_ble_eq_true rfl) rfl dX12_odds_2 (c_X12_isMake rfl) (fun v τ hq => ?_)
  obtain ⟨rfl, hτ⟩ := hq
  subst τ
  change Z _ _ _ _ _ [.int (f_X12_isMake x2 x3)] _
  refine z_if_eq (tgt := 20) dX12_odds_5 (by decide) (fun q => ?_) (fun q => ?_)
  · have h := (if_pos q).symm.trans h
    refine z_iconst (v := (-1)) dX12_odds_20 (by decide) ?_
    cases h
    exact z_ireturn dX12_odds_21 rfl rfl ⟨rfl, rfl⟩
  · have h := (if_neg q).symm.trans h
    refine z_iload dX12_odds_8 4 rfl ?_
    refine z_iconst (v := 1) dX12_odds_10 (by decide) ?_
    refine z_sipush (v := 200) dX12_odds_11 (by decide) ?_
    refine z_callS (M' := m_X12_isIn) (As := [.int (x4), .int (1), .int (200)]) (rest := []) kl_12_407 oy_X12_isIn ⟨Nat.le_of_ble_eq_true rfl, Nat.le_of_ble_eq_true rfl⟩ rfl (Nat.le_of_ble_eq_true rfl) rfl dX12_odds_14 (c_X12_isIn rfl) (fun v τ hq => ?_)
    obtain ⟨rfl, hτ⟩ := hq
    subst τ
    change Z _ _ _ _ _ [.int (f_X12_isIn x4 1 200)] _
    refine z_if_ne (tgt := 22) dX12_odds_17 (by decide) (fun q => ?_) (fun q => ?_)
    · have h := (if_neg q).symm.trans h
      refine z_iconst (v := 0) dX12_odds_22 (by decide) ?_
      refine z_istore (lv' := [(0, .ref (sL S 3 0 0)), (1, .int (x1)), (2, .int (x2)), (3, .int (x3)), (4, .int (x4)), (5, .int (x5)), (6, .int (0))]) dX12_odds_23 (by decide) [1, 2, 3, 4, 5, 6, 0] rfl ?_
      refine z_iconst (v := 0) dX12_odds_25 (by decide) ?_
      refine z_istore (lv' := [(0, .ref (sL S 3 0 0)), (1, .int (x1)), (2, .int (x2)), (3, .int (x3)), (4, .int (x4)), (5, .int (x5)), (6, .int (0)), (7, .int (0))]) dX12_odds_26 (by decide) [1, 2, 3, 4, 5, 6, 7, 0] rfl ?_
      exact zl_X12_odds_28 FU h
    · have h := (if_pos q).symm.trans h
      refine z_iconst (v := (-1)) dX12_odds_20 (by decide) ?_
      cases h
      exact z_ireturn dX12_odds_21 rfl rfl ⟨rfl, rfl⟩
/-- SkyStonesModel.odds(IIIII)I -/
theorem c_X12_odds {S : Shp} {x1 : Int32} {x2 : Int32} {x3 : Int32} {x4 : Int32} {x5 : Int32} {σ : Mm} {r : Int32 × Mm} (h : F_X12_odds x1 x2 x3 x4 x5 σ = some r) : Ct m_X12_odds S [.ref (sL S 3 0 0), .int (x1), .int (x2), .int (x3), .int (x4), .int (x5)] σ (Qi r) := Ct.of (by decide +kernel) (Nat.le_of_ble_eq_true rfl) (zb_X12_odds h)
def F_X12_otherwise_155 (rc101 : Int32 → Int32 → Int32 → Mm → Option (Int32 × Mm)) (x1 : Int32) (x5 : Int32) (x6 : Int32) (σ : Mm) : Option (Int32 × Mm) := (rc101 x1 x5 (x6 + 1) σ)
set_option maxRecDepth 20000 in
theorem zb_X12_otherwise_155 {S : Shp} {rc101 : Int32 → Int32 → Int32 → Mm → Option (Int32 × Mm)} (hrc101 : ∀ {x1 : Int32} {x5 : Int32} {x6 : Int32} {σ : Mm} {r : Int32 × Mm}, rc101 x1 x5 x6 σ = some r → Z m_X12_otherwise S (Qi r) 101 [(0, .ref (sL S 3 0 0)), (1, .int (x1)), (5, .int (x5)), (6, .int (x6))] [] σ) {x1 : Int32} {x5 : Int32} {x6 : Int32} {σ : Mm} {r : Int32 × Mm} (h : F_X12_otherwise_155 rc101 x1 x5 x6 σ = some r) : Z m_X12_otherwise S (Qi r) 155 [(0, .ref (sL S 3 0 0)), (1, .int (x1)), (5, .int (x5)), (6, .int (x6))] [] σ := by
  unfold F_X12_otherwise_155 at h
  refine z_iinc (j := 3) (v := x6 + 1) (lv' := [(0, .ref (sL S 3 0 0)), (1, .int (x1)), (5, .int (x5)), (6, .int (x6 + 1))]) dX12_otherwise_155 rfl rfl (by decide) [1, 2, 3, 0] rfl ?_
  refine z_goto (tgt := 101) dX12_otherwise_158 (by decide) ?_
  exact hrc101 h
def F_X12_otherwise_152 (rc101 : Int32 → Int32 → Int32 → Mm → Option (Int32 × Mm)) (x1 : Int32) (x5 : Int32) (x6 : Int32) (σ : Mm) : Option (Int32 × Mm) := (F_X12_otherwise_155 rc101 x1 (x5 + 1) x6 σ)
set_option maxRecDepth 20000 in
theorem zb_X12_otherwise_152 {S : Shp} {rc101 : Int32 → Int32 → Int32 → Mm → Option (Int32 × Mm)} (hrc101 : ∀ {x1 : Int32} {x5 : Int32} {x6 : Int32} {σ : Mm} {r : Int32 × Mm}, rc101 x1 x5 x6 σ = some r → Z m_X12_otherwise S (Qi r) 101 [(0, .ref (sL S 3 0 0)), (1, .int (x1)), (5, .int (x5)), (6, .int (x6))] [] σ) {x1 : Int32} {x5 : Int32} {x6 : Int32} {σ : Mm} {r : Int32 × Mm} (h : F_X12_otherwise_152 rc101 x1 x5 x6 σ = some r) : Z m_X12_otherwise S (Qi r) 152 [(0, .ref (sL S 3 0 0)), (1, .int (x1)), (5, .int (x5)), (6, .int (x6))] [] σ := by
  unfold F_X12_otherwise_152 at h
  refine z_iinc (j := 2) (v := x5 + 1) (lv' := [(0, .ref (sL S 3 0 0)), (1, .int (x1)), (5, .int (x5 + 1)), (6, .int (x6))]) dX12_otherwise_152 rfl rfl (by decide) [1, 2, 0, 3] rfl ?_
  exact zb_X12_otherwise_155 hrc101 h
def F_X12_otherwise_147 (rc101 : Int32 → Int32 → Int32 → Mm → Option (Int32 × Mm)) (x1 : Int32) (x5 : Int32) (x6 : Int32) (s0 : Int32) (σ : Mm) : Option (Int32 × Mm) := (if (s0 &&& x1) = 0 then (F_X12_otherwise_152 rc101 x1 x5 x6 σ) else (F_X12_otherwise_155 rc101 x1 x5 x6 σ))
set_option maxRecDepth 20000 in
theorem zb_X12_otherwise_147 {S : Shp} {rc101 : Int32 → Int32 → Int32 → Mm → Option (Int32 × Mm)} (hrc101 : ∀ {x1 : Int32} {x5 : Int32} {x6 : Int32} {σ : Mm} {r : Int32 × Mm}, rc101 x1 x5 x6 σ = some r → Z m_X12_otherwise S (Qi r) 101 [(0, .ref (sL S 3 0 0)), (1, .int (x1)), (5, .int (x5)), (6, .int (x6))] [] σ) {x1 : Int32} {x5 : Int32} {x6 : Int32} {s0 : Int32} {σ : Mm} {r : Int32 × Mm} (h : F_X12_otherwise_147 rc101 x1 x5 x6 s0 σ = some r) : Z m_X12_otherwise S (Qi r) 147 [(0, .ref (sL S 3 0 0)), (1, .int (x1)), (5, .int (x5)), (6, .int (x6))] [.int (s0)] σ := by
  unfold F_X12_otherwise_147 at h
  refine z_iload_n dX12_otherwise_147 rfl 1 rfl ?_
  refine z_iand dX12_otherwise_148 ?_
  refine z_if_ne (tgt := 155) dX12_otherwise_149 (by decide) (fun q => ?_) (fun q => ?_)
  · have h := (if_neg q).symm.trans h
    exact zb_X12_otherwise_155 hrc101 h
  · have h := (if_pos q).symm.trans h
    exact zb_X12_otherwise_152 hrc101 h
def B_X12_otherwise_101 (rc101 : Int32 → Int32 → Int32 → Mm → Option (Int32 × Mm)) (x1 : Int32) (x5 : Int32) (x6 : Int32) (σ : Mm) : Option (Int32 × Mm) := (if (196 : Int32) ≤ x6 then some (x5, σ) else (if inb x6 196 = true then (if (mA σ 3 0 65 x6.toNatClampNeg) = 0 then (F_X12_otherwise_155 rc101 x1 x5 x6 σ) else (if inb x6 196 = true then (if (mA σ 3 0 55 x6.toNatClampNeg) = 0 then (F_X12_otherwise_152 rc101 x1 x5 x6 σ) else (if inb x6 196 = true then (if inb 0 5 = true then (bnd (F_X12_hitBy (mA σ 3 0 53 x6.toNatClampNeg) (mA σ 3 0 7 (0 : Int32).toNatClampNeg) 0 σ) (fun v τ => (F_X12_otherwise_147 rc101 x1 x5 x6 v τ))) else none) else none)) else none)) else none))
set_option maxRecDepth 20000 in
theorem zB_X12_otherwise_101 {S : Shp} {rc101 : Int32 → Int32 → Int32 → Mm → Option (Int32 × Mm)} (hrc101 : ∀ {x1 : Int32} {x5 : Int32} {x6 : Int32} {σ : Mm} {r : Int32 × Mm}, rc101 x1 x5 x6 σ = some r → Z m_X12_otherwise S (Qi r) 101 [(0, .ref (sL S 3 0 0)), (1, .int (x1)), (5, .int (x5)), (6, .int (x6))] [] σ) {x1 : Int32} {x5 : Int32} {x6 : Int32} {σ : Mm} {r : Int32 × Mm} (h : B_X12_otherwise_101 rc101 x1 x5 x6 σ = some r) : Z m_X12_otherwise S (Qi r) 101 [(0, .ref (sL S 3 0 0)), (1, .int (x1)), (5, .int (x5)), (6, .int (x6))] [] σ := by
  unfold B_X12_otherwise_101 at h
  refine z_iload dX12_otherwise_101 3 rfl ?_
  refine z_sipush (v := 196) dX12_otherwise_103 (by decide) ?_
  refine z_icmp_ge (tgt := 161) dX12_otherwise_106 (by decide) (fun q => ?_) (fun q => ?_)
  · have h := (if_pos q).symm.trans h
    refine z_iload dX12_otherwise_161 2 rfl ?_
    cases h
    exact z_ireturn dX12_otherwise_163 rfl rfl ⟨rfl, rfl⟩
  · have h := (if_neg q).symm.trans h
    obtain ⟨g4, h⟩ := gd h
    refine z_aload_n dX12_otherwise_109 rfl 0 rfl ?_
    refine gf_12_209 rfl dX12_otherwise_110 ?_
    refine z_iload dX12_otherwise_113 3 rfl ?_
    refine ia_3_65 (inb_in g4) dX12_otherwise_115 ?_
    refine z_if_eq (tgt := 155) dX12_otherwise_116 (by decide) (fun q => ?_) (fun q => ?_)
    · have h := (if_pos q).symm.trans h
      exact zb_X12_otherwise_155 hrc101 h
    · have h := (if_neg q).symm.trans h
      obtain ⟨g5, h⟩ := gd h
      refine z_aload_n dX12_otherwise_119 rfl 0 rfl ?_
      refine gf_12_178 rfl dX12_otherwise_120 ?_
      refine z_iload dX12_otherwise_123 3 rfl ?_
      refine ia_3_55 (inb_in g5) dX12_otherwise_125 ?_
      refine z_if_eq (tgt := 152) dX12_otherwise_126 (by decide) (fun q => ?_) (fun q => ?_)
      · have h := (if_pos q).symm.trans h
        exact zb_X12_otherwise_152 hrc101 h
      · have h := (if_neg q).symm.trans h
        obtain ⟨g6, h⟩ := gd h
        refine z_aload_n dX12_otherwise_129 rfl 0 rfl ?_
        refine z_aload_n dX12_otherwise_130 rfl 0 rfl ?_
        refine gf_12_172 rfl dX12_otherwise_131 ?_
        refine z_iload dX12_otherwise_134 3 rfl ?_
        obtain ⟨g7, h⟩ := gd h
        refine ia_3_53 (inb_in g6) dX12_otherwise_136 ?_
        refine z_aload_n dX12_otherwise_137 rfl 0 rfl ?_
        refine gf_12_34 rfl dX12_otherwise_138 ?_
        refine z_iconst (v := 0) dX12_otherwise_141 (by decide) ?_
        refine ia_3_7 (inb_in g7) dX12_otherwise_142 ?_
        refine z_iconst (v := 0) dX12_otherwise_143 (by decide) ?_
        obtain ⟨v, τ, hc, h⟩ := bnd_e h
        refine z_callV (M' := m_X12_hitBy) (t := 3) (i := 0) (k := 0) (As := [.int (mA σ 3 0 53 x6.toNatClampNeg), .int (mA σ 3 0 7 (0 : Int32).toNatClampNeg), .int (0)]) (rest := []) kl_12_484 oy_X12_hitBy ⟨Nat.le_of_ble_eq_true rfl, Nat.le_of_ble_eq_true rfl⟩ rfl rfl rfl rfl (Nat.le_of_ble_eq_true rfl) rfl dX12_otherwise_144 (c_X12_hitBy hc) (fun v2 τ2 hq => ?_)
        obtain ⟨rfl, hτ⟩ := hq
        subst τ2
        change Z _ _ _ _ _ [.int (v)] _
        exact zb_X12_otherwise_147 hrc101 h
def F_X12_otherwise_101 : Nat → Int32 → Int32 → Int32 → Mm → Option (Int32 × Mm)
  | 0 => fun _ _ _ _ => none
  | n + 1 => B_X12_otherwise_101 (F_X12_otherwise_101 n)
theorem zl_X12_otherwise_101 {S : Shp} : ∀ (nn : Nat) {x1 : Int32} {x5 : Int32} {x6 : Int32} {σ : Mm} {r : Int32 × Mm}, F_X12_otherwise_101 nn x1 x5 x6 σ = some r → Z m_X12_otherwise S (Qi r) 101 [(0, .ref (sL S 3 0 0)), (1, .int (x1)), (5, .int (x5)), (6, .int (x6))] [] σ := by
  intro nn
  induction nn with
  | zero => intro x1 x5 x6 σ r h; cases h
  | succ nn ih => intro x1 x5 x6 σ r h; exact zB_X12_otherwise_101 @ih h
def F_X12_otherwise_95 (x1 : Int32) (σ : Mm) : Option (Int32 × Mm) := (F_X12_otherwise_101 FU x1 0 0 σ)
set_option maxRecDepth 20000 in
theorem zb_X12_otherwise_95 {S : Shp} {x1 : Int32} {σ : Mm} {r : Int32 × Mm} (h : F_X12_otherwise_95 x1 σ = some r) : Z m_X12_otherwise S (Qi r) 95 [(0, .ref (sL S 3 0 0)), (1, .int (x1))] [] σ := by
  unfold F_X12_otherwise_95 at h
  refine z_iconst (v := 0) dX12_otherwise_95 (by decide) ?_
  refine z_istore (lv' := [(0, .ref (sL S 3 0 0)), (1, .int (x1)), (5, .int (0))]) dX12_otherwise_96 (by decide) [1, 2, 0] rfl ?_
  refine z_iconst (v := 0) dX12_otherwise_98 (by decide) ?_
  refine z_istore (lv' := [(0, .ref (sL S 3 0 0)), (1, .int (x1)), (5, .int (0)), (6, .int (0))]) dX12_otherwise_99 (by decide) [1, 2, 3, 0] rfl ?_
  exact zl_X12_otherwise_101 FU h
def F_X12_otherwise_83 (rc30 : Int32 → Int32 → Int32 → Mm → Option (Int32 × Mm)) (x1 : Int32) (x4 : Int32) (x5 : Int32) (σ : Mm) : Option (Int32 × Mm) := (rc30 x1 x4 (x5 + 1) σ)
set_option maxRecDepth 20000 in
theorem zb_X12_otherwise_83 {S : Shp} {rc30 : Int32 → Int32 → Int32 → Mm → Option (Int32 × Mm)} (hrc30 : ∀ {x1 : Int32} {x4 : Int32} {x5 : Int32} {σ : Mm} {r : Int32 × Mm}, rc30 x1 x4 x5 σ = some r → Z m_X12_otherwise S (Qi r) 30 [(0, .ref (sL S 3 0 0)), (1, .int (x1)), (4, .int (x4)), (5, .int (x5))] [] σ) {x1 : Int32} {x4 : Int32} {x5 : Int32} {σ : Mm} {r : Int32 × Mm} (h : F_X12_otherwise_83 rc30 x1 x4 x5 σ = some r) : Z m_X12_otherwise S (Qi r) 83 [(0, .ref (sL S 3 0 0)), (1, .int (x1)), (4, .int (x4)), (5, .int (x5))] [] σ := by
  unfold F_X12_otherwise_83 at h
  refine z_iinc (j := 3) (v := x5 + 1) (lv' := [(0, .ref (sL S 3 0 0)), (1, .int (x1)), (4, .int (x4)), (5, .int (x5 + 1))]) dX12_otherwise_83 rfl rfl (by decide) [1, 2, 3, 0] rfl ?_
  refine z_goto (tgt := 30) dX12_otherwise_86 (by decide) ?_
  exact hrc30 h
def F_X12_otherwise_82 (rc30 : Int32 → Int32 → Int32 → Mm → Option (Int32 × Mm)) (x1 : Int32) (x4 : Int32) (x5 : Int32) (s0 : Int32) (s1 : Int32) (σ : Mm) : Option (Int32 × Mm) := (if inb s1 196 = true then (F_X12_otherwise_83 rc30 x1 x4 x5 (setA σ 3 0 65 (upd (mA σ 3 0 65) s1.toNatClampNeg (vp_nar .boolean s0)))) else none)
set_option maxRecDepth 20000 in
theorem zb_X12_otherwise_82 {S : Shp} {rc30 : Int32 → Int32 → Int32 → Mm → Option (Int32 × Mm)} (hrc30 : ∀ {x1 : Int32} {x4 : Int32} {x5 : Int32} {σ : Mm} {r : Int32 × Mm}, rc30 x1 x4 x5 σ = some r → Z m_X12_otherwise S (Qi r) 30 [(0, .ref (sL S 3 0 0)), (1, .int (x1)), (4, .int (x4)), (5, .int (x5))] [] σ) {x1 : Int32} {x4 : Int32} {x5 : Int32} {s0 : Int32} {s1 : Int32} {σ : Mm} {r : Int32 × Mm} (h : F_X12_otherwise_82 rc30 x1 x4 x5 s0 s1 σ = some r) : Z m_X12_otherwise S (Qi r) 82 [(0, .ref (sL S 3 0 0)), (1, .int (x1)), (4, .int (x4)), (5, .int (x5))] [.int (s0), .int (s1), .ref (sL S 3 0 65)] σ := by
  unfold F_X12_otherwise_82 at h
  obtain ⟨g8, h⟩ := gd h
  refine is_3_65 (inb_in g8) dX12_otherwise_82 ?_
  exact zb_X12_otherwise_83 hrc30 h
def F_X12_otherwise_81 (rc30 : Int32 → Int32 → Int32 → Mm → Option (Int32 × Mm)) (x1 : Int32) (x4 : Int32) (x5 : Int32) (s0 : Int32) (σ : Mm) : Option (Int32 × Mm) := (F_X12_otherwise_82 rc30 x1 x4 x5 0 s0 σ)
set_option maxRecDepth 20000 in
theorem zb_X12_otherwise_81 {S : Shp} {rc30 : Int32 → Int32 → Int32 → Mm → Option (Int32 × Mm)} (hrc30 : ∀ {x1 : Int32} {x4 : Int32} {x5 : Int32} {σ : Mm} {r : Int32 × Mm}, rc30 x1 x4 x5 σ = some r → Z m_X12_otherwise S (Qi r) 30 [(0, .ref (sL S 3 0 0)), (1, .int (x1)), (4, .int (x4)), (5, .int (x5))] [] σ) {x1 : Int32} {x4 : Int32} {x5 : Int32} {s0 : Int32} {σ : Mm} {r : Int32 × Mm} (h : F_X12_otherwise_81 rc30 x1 x4 x5 s0 σ = some r) : Z m_X12_otherwise S (Qi r) 81 [(0, .ref (sL S 3 0 0)), (1, .int (x1)), (4, .int (x4)), (5, .int (x5))] [.int (s0), .ref (sL S 3 0 65)] σ := by
  unfold F_X12_otherwise_81 at h
  refine z_iconst (v := 0) dX12_otherwise_81 (by decide) ?_
  exact zb_X12_otherwise_82 hrc30 h
def F_X12_otherwise_72 (rc30 : Int32 → Int32 → Int32 → Mm → Option (Int32 × Mm)) (x1 : Int32) (x4 : Int32) (x5 : Int32) (s0 : Int32) (s1 : Int32) (σ : Mm) : Option (Int32 × Mm) := (if (s0 &&& x1) = 0 then (F_X12_otherwise_81 rc30 x1 x4 x5 s1 σ) else (F_X12_otherwise_82 rc30 x1 x4 x5 1 s1 σ))
set_option maxRecDepth 20000 in
theorem zb_X12_otherwise_72 {S : Shp} {rc30 : Int32 → Int32 → Int32 → Mm → Option (Int32 × Mm)} (hrc30 : ∀ {x1 : Int32} {x4 : Int32} {x5 : Int32} {σ : Mm} {r : Int32 × Mm}, rc30 x1 x4 x5 σ = some r → Z m_X12_otherwise S (Qi r) 30 [(0, .ref (sL S 3 0 0)), (1, .int (x1)), (4, .int (x4)), (5, .int (x5))] [] σ) {x1 : Int32} {x4 : Int32} {x5 : Int32} {s0 : Int32} {s1 : Int32} {σ : Mm} {r : Int32 × Mm} (h : F_X12_otherwise_72 rc30 x1 x4 x5 s0 s1 σ = some r) : Z m_X12_otherwise S (Qi r) 72 [(0, .ref (sL S 3 0 0)), (1, .int (x1)), (4, .int (x4)), (5, .int (x5))] [.int (s0), .int (s1), .ref (sL S 3 0 65)] σ := by
  unfold F_X12_otherwise_72 at h
  refine z_iload_n dX12_otherwise_72 rfl 1 rfl ?_
  refine z_iand dX12_otherwise_73 ?_
  refine z_if_eq (tgt := 81) dX12_otherwise_74 (by decide) (fun q => ?_) (fun q => ?_)
  · have h := (if_pos q).symm.trans h
    exact zb_X12_otherwise_81 hrc30 h
  · have h := (if_neg q).symm.trans h
    refine z_iconst (v := 1) dX12_otherwise_77 (by decide) ?_
    refine z_goto (tgt := 82) dX12_otherwise_78 (by decide) ?_
    exact zb_X12_otherwise_82 hrc30 h
def B_X12_otherwise_30 (rc30 : Int32 → Int32 → Int32 → Mm → Option (Int32 × Mm)) (x1 : Int32) (x4 : Int32) (x5 : Int32) (σ : Mm) : Option (Int32 × Mm) := (if (196 : Int32) ≤ x5 then (bnv (F_X12_lay x4 σ) (fun τ => (F_X12_otherwise_95 x1 τ))) else (if inb x5 196 = true then (if (mA σ 3 0 55 x5.toNatClampNeg) = 0 then (F_X12_otherwise_81 rc30 x1 x4 x5 x5 σ) else (if inb x5 196 = true then (if inb 0 5 = true then (bnd (F_X12_hitBy (mA σ 3 0 53 x5.toNatClampNeg) (mA σ 3 0 7 (0 : Int32).toNatClampNeg) 0 σ) (fun v τ => (F_X12_otherwise_72 rc30 x1 x4 x5 v x5 τ))) else none) else none)) else none))
set_option maxRecDepth 20000 in
theorem zB_X12_otherwise_30 {S : Shp} {rc30 : Int32 → Int32 → Int32 → Mm → Option (Int32 × Mm)} (hrc30 : ∀ {x1 : Int32} {x4 : Int32} {x5 : Int32} {σ : Mm} {r : Int32 × Mm}, rc30 x1 x4 x5 σ = some r → Z m_X12_otherwise S (Qi r) 30 [(0, .ref (sL S 3 0 0)), (1, .int (x1)), (4, .int (x4)), (5, .int (x5))] [] σ) {x1 : Int32} {x4 : Int32} {x5 : Int32} {σ : Mm} {r : Int32 × Mm} (h : B_X12_otherwise_30 rc30 x1 x4 x5 σ = some r) : Z m_X12_otherwise S (Qi r) 30 [(0, .ref (sL S 3 0 0)), (1, .int (x1)), (4, .int (x4)), (5, .int (x5))] [] σ := by
  unfold B_X12_otherwise_30 at h
  refine z_iload dX12_otherwise_30 3 rfl ?_
  refine z_sipush (v := 196) dX12_otherwise_32 (by decide) ?_
  refine z_icmp_ge (tgt := 89) dX12_otherwise_35 (by decide) (fun q => ?_) (fun q => ?_)
  · have h := (if_pos q).symm.trans h
    refine z_aload_n dX12_otherwise_89 rfl 0 rfl ?_
    refine z_iload dX12_otherwise_90 2 rfl ?_
    obtain ⟨τ, hc, h⟩ := bnv_e h
    refine z_callV (M' := m_X12_lay) (t := 3) (i := 0) (k := 0) (As := [.int (x4)]) (rest := []) kl_12_463 oy_X12_lay ⟨Nat.le_of_ble_eq_true rfl, Nat.le_of_ble_eq_true rfl⟩ rfl rfl rfl rfl (Nat.le_of_ble_eq_true rfl) rfl dX12_otherwise_92 (c_X12_lay hc) (fun v2 τ2 hq => ?_)
    obtain ⟨rfl, hτ⟩ := hq
    subst τ2
    change Z _ _ _ _ _ [] _
    refine Z.lv [0, 1] rfl ?_
    exact zb_X12_otherwise_95 h
  · have h := (if_neg q).symm.trans h
    obtain ⟨g1, h⟩ := gd h
    refine z_aload_n dX12_otherwise_38 rfl 0 rfl ?_
    refine gf_12_209 rfl dX12_otherwise_39 ?_
    refine z_iload dX12_otherwise_42 3 rfl ?_
    refine z_aload_n dX12_otherwise_44 rfl 0 rfl ?_
    refine gf_12_178 rfl dX12_otherwise_45 ?_
    refine z_iload dX12_otherwise_48 3 rfl ?_
    refine ia_3_55 (inb_in g1) dX12_otherwise_50 ?_
    refine z_if_eq (tgt := 81) dX12_otherwise_51 (by decide) (fun q => ?_) (fun q => ?_)
    · have h := (if_pos q).symm.trans h
      exact zb_X12_otherwise_81 hrc30 h
    · have h := (if_neg q).symm.trans h
      obtain ⟨g2, h⟩ := gd h
      refine z_aload_n dX12_otherwise_54 rfl 0 rfl ?_
      refine z_aload_n dX12_otherwise_55 rfl 0 rfl ?_
      refine gf_12_172 rfl dX12_otherwise_56 ?_
      refine z_iload dX12_otherwise_59 3 rfl ?_
      obtain ⟨g3, h⟩ := gd h
      refine ia_3_53 (inb_in g2) dX12_otherwise_61 ?_
      refine z_aload_n dX12_otherwise_62 rfl 0 rfl ?_
      refine gf_12_34 rfl dX12_otherwise_63 ?_
      refine z_iconst (v := 0) dX12_otherwise_66 (by decide) ?_
      refine ia_3_7 (inb_in g3) dX12_otherwise_67 ?_
      refine z_iconst (v := 0) dX12_otherwise_68 (by decide) ?_
      obtain ⟨v, τ, hc, h⟩ := bnd_e h
      refine z_callV (M' := m_X12_hitBy) (t := 3) (i := 0) (k := 0) (As := [.int (mA σ 3 0 53 x5.toNatClampNeg), .int (mA σ 3 0 7 (0 : Int32).toNatClampNeg), .int (0)]) (rest := [.int (x5), .ref (sL S 3 0 65)]) kl_12_484 oy_X12_hitBy ⟨Nat.le_of_ble_eq_true rfl, Nat.le_of_ble_eq_true rfl⟩ rfl rfl rfl rfl (Nat.le_of_ble_eq_true rfl) rfl dX12_otherwise_69 (c_X12_hitBy hc) (fun v2 τ2 hq => ?_)
      obtain ⟨rfl, hτ⟩ := hq
      subst τ2
      change Z _ _ _ _ _ [.int (v), .int (x5), .ref (sL S 3 0 65)] _
      exact zb_X12_otherwise_72 hrc30 h
def F_X12_otherwise_30 : Nat → Int32 → Int32 → Int32 → Mm → Option (Int32 × Mm)
  | 0 => fun _ _ _ _ => none
  | n + 1 => B_X12_otherwise_30 (F_X12_otherwise_30 n)
theorem zl_X12_otherwise_30 {S : Shp} : ∀ (nn : Nat) {x1 : Int32} {x4 : Int32} {x5 : Int32} {σ : Mm} {r : Int32 × Mm}, F_X12_otherwise_30 nn x1 x4 x5 σ = some r → Z m_X12_otherwise S (Qi r) 30 [(0, .ref (sL S 3 0 0)), (1, .int (x1)), (4, .int (x4)), (5, .int (x5))] [] σ := by
  intro nn
  induction nn with
  | zero => intro x1 x4 x5 σ r h; cases h
  | succ nn ih => intro x1 x4 x5 σ r h; exact zB_X12_otherwise_30 @ih h
def F_X12_otherwise_27 (x1 : Int32) (x4 : Int32) (σ : Mm) : Option (Int32 × Mm) := (F_X12_otherwise_30 FU x1 x4 0 σ)
set_option maxRecDepth 20000 in
theorem zb_X12_otherwise_27 {S : Shp} {x1 : Int32} {x4 : Int32} {σ : Mm} {r : Int32 × Mm} (h : F_X12_otherwise_27 x1 x4 σ = some r) : Z m_X12_otherwise S (Qi r) 27 [(0, .ref (sL S 3 0 0)), (1, .int (x1)), (4, .int (x4))] [] σ := by
  unfold F_X12_otherwise_27 at h
  refine z_iconst (v := 0) dX12_otherwise_27 (by decide) ?_
  refine z_istore (lv' := [(0, .ref (sL S 3 0 0)), (1, .int (x1)), (4, .int (x4)), (5, .int (0))]) dX12_otherwise_28 (by decide) [1, 2, 3, 0] rfl ?_
  exact zl_X12_otherwise_30 FU h
def F_X12_otherwise_16 (x1 : Int32) (x2 : Int32) (x3 : Int32) (x4 : Int32) (s0 : Int32) (σ : Mm) : Option (Int32 × Mm) := (if s0 = 0 then some ((-1), σ) else (bnv (F_X12_layAll x2 x3 σ) (fun τ => (F_X12_otherwise_27 x1 x4 τ))))
set_option maxRecDepth 20000 in
theorem zb_X12_otherwise_16 {S : Shp} {x1 : Int32} {x2 : Int32} {x3 : Int32} {x4 : Int32} {s0 : Int32} {σ : Mm} {r : Int32 × Mm} (h : F_X12_otherwise_16 x1 x2 x3 x4 s0 σ = some r) : Z m_X12_otherwise S (Qi r) 16 [(0, .ref (sL S 3 0 0)), (1, .int (x1)), (2, .int (x2)), (3, .int (x3)), (4, .int (x4))] [.int (s0)] σ := by
  unfold F_X12_otherwise_16 at h
  refine z_if_ne (tgt := 21) dX12_otherwise_16 (by decide) (fun q => ?_) (fun q => ?_)
  · have h := (if_neg q).symm.trans h
    refine z_aload_n dX12_otherwise_21 rfl 0 rfl ?_
    refine z_iload_n dX12_otherwise_22 rfl 2 rfl ?_
    refine z_iload_n dX12_otherwise_23 rfl 3 rfl ?_
    obtain ⟨τ, hc, h⟩ := bnv_e h
    refine z_callV (M' := m_X12_layAll) (t := 3) (i := 0) (k := 0) (As := [.int (x2), .int (x3)]) (rest := []) kl_12_494 oy_X12_layAll ⟨Nat.le_of_ble_eq_true rfl, Nat.le_of_ble_eq_true rfl⟩ rfl rfl rfl rfl (Nat.le_of_ble_eq_true rfl) rfl dX12_otherwise_24 (c_X12_layAll hc) (fun v2 τ2 hq => ?_)
    obtain ⟨rfl, hτ⟩ := hq
    subst τ2
    change Z _ _ _ _ _ [] _
    refine Z.lv [0, 1, 4] rfl ?_
    exact zb_X12_otherwise_27 h
  · have h := (if_pos q).symm.trans h
    refine z_iconst (v := (-1)) dX12_otherwise_19 (by decide) ?_
    cases h
    exact z_ireturn dX12_otherwise_20 rfl rfl ⟨rfl, rfl⟩
def F_X12_otherwise_7 (x1 : Int32) (x2 : Int32) (x3 : Int32) (x4 : Int32) (s0 : Int32) (σ : Mm) : Option (Int32 × Mm) := (if s0 = 0 then some ((-1), σ) else (bnd (F_X12_isKnown x4 σ) (fun v τ => (F_X12_otherwise_16 x1 x2 x3 x4 v τ))))
set_option maxRecDepth 20000 in
theorem zb_X12_otherwise_7 {S : Shp} {x1 : Int32} {x2 : Int32} {x3 : Int32} {x4 : Int32} {s0 : Int32} {σ : Mm} {r : Int32 × Mm} (h : F_X12_otherwise_7 x1 x2 x3 x4 s0 σ = some r) : Z m_X12_otherwise S (Qi r) 7 [(0, .ref (sL S 3 0 0)), (1, .int (x1)), (2, .int (x2)), (3, .int (x3)), (4, .int (x4))] [.int (s0)] σ := by
  unfold F_X12_otherwise_7 at h
  refine z_if_eq (tgt := 19) dX12_otherwise_7 (by decide) (fun q => ?_) (fun q => ?_)
  · have h := (if_pos q).symm.trans h
    refine z_iconst (v := (-1)) dX12_otherwise_19 (by decide) ?_
    cases h
    exact z_ireturn dX12_otherwise_20 rfl rfl ⟨rfl, rfl⟩
  · have h := (if_neg q).symm.trans h
    refine z_aload_n dX12_otherwise_10 rfl 0 rfl ?_
    refine z_iload dX12_otherwise_11 4 rfl ?_
    obtain ⟨v, τ, hc, h⟩ := bnd_e h
    refine z_callV (M' := m_X12_isKnown) (t := 3) (i := 0) (k := 0) (As := [.int (x4)]) (rest := []) kl_12_457 oy_X12_isKnown ⟨Nat.le_of_ble_eq_true rfl, Nat.le_of_ble_eq_true rfl⟩ rfl rfl rfl rfl (Nat.le_of_ble_eq_true rfl) rfl dX12_otherwise_13 (c_X12_isKnown hc) (fun v2 τ2 hq => ?_)
    obtain ⟨rfl, hτ⟩ := hq
    subst τ2
    change Z _ _ _ _ _ [.int (v)] _
    exact zb_X12_otherwise_16 h
def F_X12_otherwise (x1 : Int32) (x2 : Int32) (x3 : Int32) (x4 : Int32) (σ : Mm) : Option (Int32 × Mm) := (bnd (F_X12_isSet x1 x2 x3 σ) (fun v τ => (F_X12_otherwise_7 x1 x2 x3 x4 v τ)))
set_option maxRecDepth 20000 in
theorem zb_X12_otherwise {S : Shp} {x1 : Int32} {x2 : Int32} {x3 : Int32} {x4 : Int32} {σ : Mm} {r : Int32 × Mm} (h : F_X12_otherwise x1 x2 x3 x4 σ = some r) : Z m_X12_otherwise S (Qi r) 0 [(0, .ref (sL S 3 0 0)), (1, .int (x1)), (2, .int (x2)), (3, .int (x3)), (4, .int (x4))] [] σ := by
  unfold F_X12_otherwise at h
  refine z_aload_n dX12_otherwise_0 rfl 0 rfl ?_
  refine z_iload_n dX12_otherwise_1 rfl 1 rfl ?_
  refine z_iload_n dX12_otherwise_2 rfl 2 rfl ?_
  refine z_iload_n dX12_otherwise_3 rfl 3 rfl ?_
  obtain ⟨v, τ, hc, h⟩ := bnd_e h
  refine z_callV (M' := m_X12_isSet) (t := 3) (i := 0) (k := 0) (As := [.int (x1), .int (x2), .int (x3)]) (rest := []) kl_12_491 oy_X12_isSet ⟨Nat.le_of_ble_eq_true rfl, Nat.le_of_ble_eq_true rfl⟩ rfl rfl rfl rfl (Nat.le_of_ble_eq_true rfl) rfl dX12_otherwise_4 (c_X12_isSet hc) (fun v2 τ2 hq => ?_)
  obtain ⟨rfl, hτ⟩ := hq
  subst τ2
  change Z _ _ _ _ _ [.int (v)] _
  exact zb_X12_otherwise_7 h
/-- SkyStonesModel.otherwise(IIII)I -/
theorem c_X12_otherwise {S : Shp} {x1 : Int32} {x2 : Int32} {x3 : Int32} {x4 : Int32} {σ : Mm} {r : Int32 × Mm} (h : F_X12_otherwise x1 x2 x3 x4 σ = some r) : Ct m_X12_otherwise S [.ref (sL S 3 0 0), .int (x1), .int (x2), .int (x3), .int (x4)] σ (Qi r) := Ct.of (by decide +kernel) (Nat.le_of_ble_eq_true rfl) (zb_X12_otherwise h)
def F_X12_takesInt_47 (σ : Mm) : Option (Int32 × Mm) := some (1, σ)
set_option maxRecDepth 20000 in
theorem zb_X12_takesInt_47 {S : Shp} {σ : Mm} {r : Int32 × Mm} (h : F_X12_takesInt_47 σ = some r) : Z m_X12_takesInt S (Qi r) 47 [] [] σ := by
  unfold F_X12_takesInt_47 at h
  refine z_iconst (v := 1) dX12_takesInt_47 (by decide) ?_
  cases h
  exact z_ireturn dX12_takesInt_48 rfl rfl ⟨rfl, rfl⟩
def F_X12_takesInt_41 (x3 : Int32) (σ : Mm) : Option (Int32 × Mm) := (bnv (F_X12_tells 5 x3 σ) (fun τ => (F_X12_takesInt_47 τ)))
set_option maxRecDepth 20000 in
theorem zb_X12_takesInt_41 {S : Shp} {x3 : Int32} {σ : Mm} {r : Int32 × Mm} (h : F_X12_takesInt_41 x3 σ = some r) : Z m_X12_takesInt S (Qi r) 41 [(0, .ref (sL S 3 0 0)), (3, .int (x3))] [] σ := by
  unfold F_X12_takesInt_41 at h
  refine z_aload_n dX12_takesInt_41 rfl 0 rfl ?_
  refine z_iconst (v := 5) dX12_takesInt_42 (by decide) ?_
  refine z_iload_n dX12_takesInt_43 rfl 1 rfl ?_
  obtain ⟨τ, hc, h⟩ := bnv_e h
  refine z_callV (M' := m_X12_tells) (t := 3) (i := 0) (k := 0) (As := [.int (5), .int (x3)]) (rest := []) kl_12_327 oy_X12_tells ⟨Nat.le_of_ble_eq_true rfl, Nat.le_of_ble_eq_true rfl⟩ rfl rfl rfl rfl (Nat.le_of_ble_eq_true rfl) rfl dX12_takesInt_44 (c_X12_tells hc) (fun v2 τ2 hq => ?_)
  obtain ⟨rfl, hτ⟩ := hq
  subst τ2
  change Z _ _ _ _ _ [] _
  refine Z.lv [] rfl ?_
  exact zb_X12_takesInt_47 h
def F_X12_takesInt_25 (x1 : Int32) (x2 : Int32) (x3 : Int32) (σ : Mm) : Option (Int32 × Mm) := (if (mA σ 3 0 0 55) < x1 then (F_X12_takesInt_41 x3 σ) else (if (mA σ 3 0 0 55) ≤ x2 then some (1, σ) else (F_X12_takesInt_41 x3 σ)))
set_option maxRecDepth 20000 in
theorem zb_X12_takesInt_25 {S : Shp} {x1 : Int32} {x2 : Int32} {x3 : Int32} {σ : Mm} {r : Int32 × Mm} (h : F_X12_takesInt_25 x1 x2 x3 σ = some r) : Z m_X12_takesInt S (Qi r) 25 [(0, .ref (sL S 3 0 0)), (1, .int (x1)), (2, .int (x2)), (3, .int (x3))] [] σ := by
  unfold F_X12_takesInt_25 at h
  refine z_aload_n dX12_takesInt_25 rfl 0 rfl ?_
  refine gf_12_324 rfl dX12_takesInt_26 ?_
  refine z_iload_n dX12_takesInt_29 rfl 1 rfl ?_
  refine z_icmp_lt (tgt := 41) dX12_takesInt_30 (by decide) (fun q => ?_) (fun q => ?_)
  · have h := (if_pos q).symm.trans h
    refine Z.lv [0, 3] rfl ?_
    exact zb_X12_takesInt_41 h
  · have h := (if_neg q).symm.trans h
    refine z_aload_n dX12_takesInt_33 rfl 0 rfl ?_
    refine gf_12_324 rfl dX12_takesInt_34 ?_
    refine z_iload_n dX12_takesInt_37 rfl 2 rfl ?_
    refine z_icmp_le (tgt := 47) dX12_takesInt_38 (by decide) (fun q => ?_) (fun q => ?_)
    · have h := (if_pos q).symm.trans h
      refine z_iconst (v := 1) dX12_takesInt_47 (by decide) ?_
      cases h
      exact z_ireturn dX12_takesInt_48 rfl rfl ⟨rfl, rfl⟩
    · have h := (if_neg q).symm.trans h
      refine Z.lv [0, 3] rfl ?_
      exact zb_X12_takesInt_41 h
def F_X12_takesInt_10 (x1 : Int32) (x2 : Int32) (x3 : Int32) (s0 : Int32) (σ : Mm) : Option (Int32 × Mm) := (if s0 = 0 then some (0, σ) else (if inb x3 2001 = true then (F_X12_takesInt_25 x1 x2 x3 (setA σ 3 0 0 (upd (mA σ 3 0 0) 55 (mA σ 3 0 4 x3.toNatClampNeg)))) else none))
set_option maxRecDepth 20000 in
theorem zb_X12_takesInt_10 {S : Shp} {x1 : Int32} {x2 : Int32} {x3 : Int32} {s0 : Int32} {σ : Mm} {r : Int32 × Mm} (h : F_X12_takesInt_10 x1 x2 x3 s0 σ = some r) : Z m_X12_takesInt S (Qi r) 10 [(0, .ref (sL S 3 0 0)), (1, .int (x1)), (2, .int (x2)), (3, .int (x3))] [.int (s0)] σ := by
  unfold F_X12_takesInt_10 at h
  refine z_if_ne (tgt := 15) dX12_takesInt_10 (by decide) (fun q => ?_) (fun q => ?_)
  · have h := (if_neg q).symm.trans h
    obtain ⟨g1, h⟩ := gd h
    refine z_aload_n dX12_takesInt_15 rfl 0 rfl ?_
    refine z_aload_n dX12_takesInt_16 rfl 0 rfl ?_
    refine gf_12_19 rfl dX12_takesInt_17 ?_
    refine z_iload_n dX12_takesInt_20 rfl 3 rfl ?_
    refine ia_3_4 (inb_in g1) dX12_takesInt_21 ?_
    refine pf_12_324 rfl dX12_takesInt_22 ?_
    exact zb_X12_takesInt_25 h
  · have h := (if_pos q).symm.trans h
    refine z_iconst (v := 0) dX12_takesInt_13 (by decide) ?_
    cases h
    exact z_ireturn dX12_takesInt_14 rfl rfl ⟨rfl, rfl⟩
def F_X12_takesInt (x1 : Int32) (x2 : Int32) (σ : Mm) : Option (Int32 × Mm) := (bnd (F_X12_takes 1 σ) (fun v τ => (F_X12_takesInt_10 x1 x2 (mA σ 3 0 0 7) v τ)))
set_option maxRecDepth 20000 in
theorem zb_X12_takesInt {S : Shp} {x1 : Int32} {x2 : Int32} {σ : Mm} {r : Int32 × Mm} (h : F_X12_takesInt x1 x2 σ = some r) : Z m_X12_takesInt S (Qi r) 0 [(0, .ref (sL S 3 0 0)), (1, .int (x1)), (2, .int (x2))] [] σ := by
  unfold F_X12_takesInt at h
  refine z_aload_n dX12_takesInt_0 rfl 0 rfl ?_
  refine gf_12_305 rfl dX12_takesInt_1 ?_
  refine z_istore_n (lv' := [(0, .ref (sL S 3 0 0)), (1, .int (x1)), (2, .int (x2)), (3, .int (mA σ 3 0 0 7))]) dX12_takesInt_4 rfl (by decide) [1, 2, 3, 0] rfl ?_
  refine z_aload_n dX12_takesInt_5 rfl 0 rfl ?_
  refine z_iconst (v := 1) dX12_takesInt_6 (by decide) ?_
  obtain ⟨v, τ, hc, h⟩ := bnd_e h
  refine z_callV (M' := m_X12_takes) (t := 3) (i := 0) (k := 0) (As := [.int (1)]) (rest := []) kl_12_321 oy_X12_takes ⟨Nat.le_of_ble_eq_true rfl, Nat.le_of_ble_eq_true rfl⟩ rfl rfl rfl rfl (Nat.le_of_ble_eq_true rfl) rfl dX12_takesInt_7 (c_X12_takes hc) (fun v2 τ2 hq => ?_)
  obtain ⟨rfl, hτ⟩ := hq
  subst τ2
  change Z _ _ _ _ _ [.int (v)] _
  exact zb_X12_takesInt_10 h
/-- SkyStonesModel.takesInt(II)Z -/
theorem c_X12_takesInt {S : Shp} {x1 : Int32} {x2 : Int32} {σ : Mm} {r : Int32 × Mm} (h : F_X12_takesInt x1 x2 σ = some r) : Ct m_X12_takesInt S [.ref (sL S 3 0 0), .int (x1), .int (x2)] σ (Qi r) := Ct.of (by decide +kernel) (Nat.le_of_ble_eq_true rfl) (zb_X12_takesInt h)
def F_X12_thingAt_54 (σ : Mm) : Option (Int32 × Mm) := some ((-1), σ)
set_option maxRecDepth 20000 in
theorem zb_X12_thingAt_54 {S : Shp} {σ : Mm} {r : Int32 × Mm} (h : F_X12_thingAt_54 σ = some r) : Z m_X12_thingAt S (Qi r) 54 [] [] σ := by
  unfold F_X12_thingAt_54 at h
  refine z_iconst (v := (-1)) dX12_thingAt_54 (by decide) ?_
  cases h
  exact z_ireturn dX12_thingAt_55 rfl rfl ⟨rfl, rfl⟩
def F_X12_thingAt_42 (rc2 : Int32 → Int32 → Mm → Option (Int32 × Mm)) (x1 : Int32) (x2 : Int32) (σ : Mm) : Option (Int32 × Mm) := (rc2 x1 (x2 + 1) σ)
set_option maxRecDepth 20000 in
theorem zb_X12_thingAt_42 {S : Shp} {rc2 : Int32 → Int32 → Mm → Option (Int32 × Mm)} (hrc2 : ∀ {x1 : Int32} {x2 : Int32} {σ : Mm} {r : Int32 × Mm}, rc2 x1 x2 σ = some r → Z m_X12_thingAt S (Qi r) 2 [(0, .ref (sL S 3 0 0)), (1, .int (x1)), (2, .int (x2))] [] σ) {x1 : Int32} {x2 : Int32} {σ : Mm} {r : Int32 × Mm} (h : F_X12_thingAt_42 rc2 x1 x2 σ = some r) : Z m_X12_thingAt S (Qi r) 42 [(0, .ref (sL S 3 0 0)), (1, .int (x1)), (2, .int (x2))] [] σ := by
  unfold F_X12_thingAt_42 at h
  refine z_iinc (j := 2) (v := x2 + 1) (lv' := [(0, .ref (sL S 3 0 0)), (1, .int (x1)), (2, .int (x2 + 1))]) dX12_thingAt_42 rfl rfl (by decide) [1, 2, 0] rfl ?_
  refine z_goto (tgt := 2) dX12_thingAt_45 (by decide) ?_
  exact hrc2 h
def B_X12_thingAt_2 (rc2 : Int32 → Int32 → Mm → Option (Int32 × Mm)) (x1 : Int32) (x2 : Int32) (σ : Mm) : Option (Int32 × Mm) := (if (mA σ 3 0 0 49) ≤ x2 then (bnv (F_X12_tells 4 x1 σ) (fun τ => (F_X12_thingAt_54 τ))) else (if inb x2 20 = true then (if inb x1 2001 = true then (if (lg_cmp (mL σ 3 0 43 x2.toNatClampNeg) (mL σ 3 0 5 x1.toNatClampNeg)) = 0 then (if inb x2 20 = true then (if (mA σ 3 0 44 x2.toNatClampNeg) < 0 then (F_X12_thingAt_42 rc2 x1 x2 σ) else (if inb x2 20 = true then some (mA σ 3 0 44 x2.toNatClampNeg, σ) else none)) else none) else (F_X12_thingAt_42 rc2 x1 x2 σ)) else none) else none))
set_option maxRecDepth 20000 in
theorem zB_X12_thingAt_2 {S : Shp} {rc2 : Int32 → Int32 → Mm → Option (Int32 × Mm)} (hrc2 : ∀ {x1 : Int32} {x2 : Int32} {σ : Mm} {r : Int32 × Mm}, rc2 x1 x2 σ = some r → Z m_X12_thingAt S (Qi r) 2 [(0, .ref (sL S 3 0 0)), (1, .int (x1)), (2, .int (x2))] [] σ) {x1 : Int32} {x2 : Int32} {σ : Mm} {r : Int32 × Mm} (h : B_X12_thingAt_2 rc2 x1 x2 σ = some r) : Z m_X12_thingAt S (Qi r) 2 [(0, .ref (sL S 3 0 0)), (1, .int (x1)), (2, .int (x2))] [] σ := by
  unfold B_X12_thingAt_2 at h
  refine z_iload_n dX12_thingAt_2 rfl 2 rfl ?_
  refine z_aload_n dX12_thingAt_3 rfl 0 rfl ?_
  refine gf_12_364 rfl dX12_thingAt_4 ?_
  refine z_icmp_ge (tgt := 48) dX12_thingAt_7 (by decide) (fun q => ?_) (fun q => ?_)
  · have h := (if_pos q).symm.trans h
    refine z_aload_n dX12_thingAt_48 rfl 0 rfl ?_
    refine z_iconst (v := 4) dX12_thingAt_49 (by decide) ?_
    refine z_iload_n dX12_thingAt_50 rfl 1 rfl ?_
    obtain ⟨τ, hc, h⟩ := bnv_e h
    refine z_callV (M' := m_X12_tells) (t := 3) (i := 0) (k := 0) (As := [.int (4), .int (x1)]) (rest := []) kl_12_327 oy_X12_tells ⟨Nat.le_of_ble_eq_true rfl, Nat.le_of_ble_eq_true rfl⟩ rfl rfl rfl rfl (Nat.le_of_ble_eq_true rfl) rfl dX12_thingAt_51 (c_X12_tells hc) (fun v2 τ2 hq => ?_)
    obtain ⟨rfl, hτ⟩ := hq
    subst τ2
    change Z _ _ _ _ _ [] _
    refine Z.lv [] rfl ?_
    exact zb_X12_thingAt_54 h
  · have h := (if_neg q).symm.trans h
    obtain ⟨g1, h⟩ := gd h
    refine z_aload_n dX12_thingAt_10 rfl 0 rfl ?_
    refine gf_12_142 rfl dX12_thingAt_11 ?_
    refine z_iload_n dX12_thingAt_14 rfl 2 rfl ?_
    obtain ⟨g2, h⟩ := gd h
    refine ia_3_43 (inb_in g1) dX12_thingAt_15 ?_
    refine z_aload_n dX12_thingAt_16 rfl 0 rfl ?_
    refine gf_12_22 rfl dX12_thingAt_17 ?_
    refine z_iload_n dX12_thingAt_20 rfl 1 rfl ?_
    refine ia_3_5 (inb_in g2) dX12_thingAt_21 ?_
    refine z_lcmp dX12_thingAt_22 ?_
    refine z_if_ne (tgt := 42) dX12_thingAt_23 (by decide) (fun q => ?_) (fun q => ?_)
    · have h := (if_neg q).symm.trans h
      exact zb_X12_thingAt_42 hrc2 h
    · have h := (if_pos q).symm.trans h
      obtain ⟨g3, h⟩ := gd h
      refine z_aload_n dX12_thingAt_26 rfl 0 rfl ?_
      refine gf_12_145 rfl dX12_thingAt_27 ?_
      refine z_iload_n dX12_thingAt_30 rfl 2 rfl ?_
      refine ia_3_44 (inb_in g3) dX12_thingAt_31 ?_
      refine z_if_lt (tgt := 42) dX12_thingAt_32 (by decide) (fun q => ?_) (fun q => ?_)
      · have h := (if_pos q).symm.trans h
        exact zb_X12_thingAt_42 hrc2 h
      · have h := (if_neg q).symm.trans h
        obtain ⟨g4, h⟩ := gd h
        refine z_aload_n dX12_thingAt_35 rfl 0 rfl ?_
        refine gf_12_145 rfl dX12_thingAt_36 ?_
        refine z_iload_n dX12_thingAt_39 rfl 2 rfl ?_
        refine ia_3_44 (inb_in g4) dX12_thingAt_40 ?_
        cases h
        exact z_ireturn dX12_thingAt_41 rfl rfl ⟨rfl, rfl⟩
def F_X12_thingAt_2 : Nat → Int32 → Int32 → Mm → Option (Int32 × Mm)
  | 0 => fun _ _ _ => none
  | n + 1 => B_X12_thingAt_2 (F_X12_thingAt_2 n)
theorem zl_X12_thingAt_2 {S : Shp} : ∀ (nn : Nat) {x1 : Int32} {x2 : Int32} {σ : Mm} {r : Int32 × Mm}, F_X12_thingAt_2 nn x1 x2 σ = some r → Z m_X12_thingAt S (Qi r) 2 [(0, .ref (sL S 3 0 0)), (1, .int (x1)), (2, .int (x2))] [] σ := by
  intro nn
  induction nn with
  | zero => intro x1 x2 σ r h; cases h
  | succ nn ih => intro x1 x2 σ r h; exact zB_X12_thingAt_2 @ih h
def F_X12_thingAt (x1 : Int32) (σ : Mm) : Option (Int32 × Mm) := (F_X12_thingAt_2 FU x1 0 σ)
set_option maxRecDepth 20000 in
theorem zb_X12_thingAt {S : Shp} {x1 : Int32} {σ : Mm} {r : Int32 × Mm} (h : F_X12_thingAt x1 σ = some r) : Z m_X12_thingAt S (Qi r) 0 [(0, .ref (sL S 3 0 0)), (1, .int (x1))] [] σ := by
  unfold F_X12_thingAt at h
  refine z_iconst (v := 0) dX12_thingAt_0 (by decide) ?_
  refine z_istore_n (lv' := [(0, .ref (sL S 3 0 0)), (1, .int (x1)), (2, .int (0))]) dX12_thingAt_1 rfl (by decide) [1, 2, 0] rfl ?_
  exact zl_X12_thingAt_2 FU h
/-- SkyStonesModel.thingAt(I)I -/
theorem c_X12_thingAt {S : Shp} {x1 : Int32} {σ : Mm} {r : Int32 × Mm} (h : F_X12_thingAt x1 σ = some r) : Ct m_X12_thingAt S [.ref (sL S 3 0 0), .int (x1)] σ (Qi r) := Ct.of (by decide +kernel) (Nat.le_of_ble_eq_true rfl) (zb_X12_thingAt h)
def F_X12_tellDoor_128 (σ : Mm) : Option (Int32 × Mm) := some (1, σ)
set_option maxRecDepth 20000 in
theorem zb_X12_tellDoor_128 {S : Shp} {σ : Mm} {r : Int32 × Mm} (h : F_X12_tellDoor_128 σ = some r) : Z m_X12_tellDoor S (Qi r) 128 [] [] σ := by
  unfold F_X12_tellDoor_128 at h
  refine z_iconst (v := 1) dX12_tellDoor_128 (by decide) ?_
  cases h
  exact z_ireturn dX12_tellDoor_129 rfl rfl ⟨rfl, rfl⟩
def F_X12_tellDoor_118 (σ : Mm) : Option (Int32 × Mm) := (if inb 1 5 = true then (if inb 1 5 = true then (F_X12_tellDoor_128 (setA σ 3 0 14 (upd (mA σ 3 0 14) (1 : Int32).toNatClampNeg ((mA σ 3 0 14 (1 : Int32).toNatClampNeg) + (1 : Int32))))) else none) else none)
set_option maxRecDepth 20000 in
theorem zb_X12_tellDoor_118 {S : Shp} {σ : Mm} {r : Int32 × Mm} (h : F_X12_tellDoor_118 σ = some r) : Z m_X12_tellDoor S (Qi r) 118 [(0, .ref (sL S 3 0 0))] [] σ := by
  unfold F_X12_tellDoor_118 at h
  obtain ⟨g9, h⟩ := gd h
  refine z_aload_n dX12_tellDoor_118 rfl 0 rfl ?_
  refine gf_12_55 rfl dX12_tellDoor_119 ?_
  refine z_iconst (v := 1) dX12_tellDoor_122 (by decide) ?_
  refine z_dup2_11 dX12_tellDoor_123 rfl rfl ?_
  obtain ⟨g10, h⟩ := gd h
  refine ia_3_14 (inb_in g9) dX12_tellDoor_124 ?_
  refine z_iconst (v := 1) dX12_tellDoor_125 (by decide) ?_
  refine z_iadd dX12_tellDoor_126 ?_
  refine is_3_14 (inb_in g10) dX12_tellDoor_127 ?_
  refine Z.lv [] rfl ?_
  exact zb_X12_tellDoor_128 h
def F_X12_tellDoor_83 (x1 : Int32) (x2 : Int32) (σ : Mm) : Option (Int32 × Mm) := (if inb x2 40 = true then (if (mA σ 3 0 15 x2.toNatClampNeg) < 0 then (F_X12_tellDoor_118 σ) else (if inb x1 2001 = true then (if inb (x1 + (1 : Int32)) 2001 = true then (if (lg_cmp (mL σ 3 0 5 x1.toNatClampNeg) (mL σ 3 0 5 (x1 + (1 : Int32)).toNatClampNeg)) = 0 then (bnv (F_X12_tells 5 (x1 + (1 : Int32)) σ) (fun τ => (F_X12_tellDoor_118 τ))) else (F_X12_tellDoor_118 σ)) else none) else none)) else none)
set_option maxRecDepth 20000 in
theorem zb_X12_tellDoor_83 {S : Shp} {x1 : Int32} {x2 : Int32} {σ : Mm} {r : Int32 × Mm} (h : F_X12_tellDoor_83 x1 x2 σ = some r) : Z m_X12_tellDoor S (Qi r) 83 [(0, .ref (sL S 3 0 0)), (1, .int (x1)), (2, .int (x2))] [] σ := by
  unfold F_X12_tellDoor_83 at h
  obtain ⟨g6, h⟩ := gd h
  refine z_aload_n dX12_tellDoor_83 rfl 0 rfl ?_
  refine gf_12_58 rfl dX12_tellDoor_84 ?_
  refine z_iload_n dX12_tellDoor_87 rfl 2 rfl ?_
  refine ia_3_15 (inb_in g6) dX12_tellDoor_88 ?_
  refine z_if_lt (tgt := 118) dX12_tellDoor_89 (by decide) (fun q => ?_) (fun q => ?_)
  · have h := (if_pos q).symm.trans h
    refine Z.lv [0] rfl ?_
    exact zb_X12_tellDoor_118 h
  · have h := (if_neg q).symm.trans h
    obtain ⟨g7, h⟩ := gd h
    refine z_aload_n dX12_tellDoor_92 rfl 0 rfl ?_
    refine gf_12_22 rfl dX12_tellDoor_93 ?_
    refine z_iload_n dX12_tellDoor_96 rfl 1 rfl ?_
    obtain ⟨g8, h⟩ := gd h
    refine ia_3_5 (inb_in g7) dX12_tellDoor_97 ?_
    refine z_aload_n dX12_tellDoor_98 rfl 0 rfl ?_
    refine gf_12_22 rfl dX12_tellDoor_99 ?_
    refine z_iload_n dX12_tellDoor_102 rfl 1 rfl ?_
    refine z_iconst (v := 1) dX12_tellDoor_103 (by decide) ?_
    refine z_iadd dX12_tellDoor_104 ?_
    refine ia_3_5 (inb_in g8) dX12_tellDoor_105 ?_
    refine z_lcmp dX12_tellDoor_106 ?_
    refine z_if_ne (tgt := 118) dX12_tellDoor_107 (by decide) (fun q => ?_) (fun q => ?_)
    · have h := (if_neg q).symm.trans h
      refine Z.lv [0] rfl ?_
      exact zb_X12_tellDoor_118 h
    · have h := (if_pos q).symm.trans h
      refine z_aload_n dX12_tellDoor_110 rfl 0 rfl ?_
      refine z_iconst (v := 5) dX12_tellDoor_111 (by decide) ?_
      refine z_iload_n dX12_tellDoor_112 rfl 1 rfl ?_
      refine z_iconst (v := 1) dX12_tellDoor_113 (by decide) ?_
      refine z_iadd dX12_tellDoor_114 ?_
      obtain ⟨τ, hc, h⟩ := bnv_e h
      refine z_callV (M' := m_X12_tells) (t := 3) (i := 0) (k := 0) (As := [.int (5), .int (x1 + (1 : Int32))]) (rest := []) kl_12_327 oy_X12_tells ⟨Nat.le_of_ble_eq_true rfl, Nat.le_of_ble_eq_true rfl⟩ rfl rfl rfl rfl (Nat.le_of_ble_eq_true rfl) rfl dX12_tellDoor_115 (c_X12_tells hc) (fun v2 τ2 hq => ?_)
      obtain ⟨rfl, hτ⟩ := hq
      subst τ2
      change Z _ _ _ _ _ [] _
      refine Z.lv [0] rfl ?_
      exact zb_X12_tellDoor_118 h
def F_X12_tellDoor_82 (x1 : Int32) (x2 : Int32) (s0 : Int32) (s1 : Int32) (σ : Mm) : Option (Int32 × Mm) := (if inb s1 40 = true then (F_X12_tellDoor_83 x1 x2 (setA σ 3 0 16 (upd (mA σ 3 0 16) s1.toNatClampNeg s0))) else none)
set_option maxRecDepth 20000 in
theorem zb_X12_tellDoor_82 {S : Shp} {x1 : Int32} {x2 : Int32} {s0 : Int32} {s1 : Int32} {σ : Mm} {r : Int32 × Mm} (h : F_X12_tellDoor_82 x1 x2 s0 s1 σ = some r) : Z m_X12_tellDoor S (Qi r) 82 [(0, .ref (sL S 3 0 0)), (1, .int (x1)), (2, .int (x2))] [.int (s0), .int (s1), .ref (sL S 3 0 16)] σ := by
  unfold F_X12_tellDoor_82 at h
  obtain ⟨g5, h⟩ := gd h
  refine is_3_16 (inb_in g5) dX12_tellDoor_82 ?_
  exact zb_X12_tellDoor_83 h
def F_X12_tellDoor_70 (x1 : Int32) (x2 : Int32) (σ : Mm) : Option (Int32 × Mm) := (bnd (F_X12_thingAt (x1 + (1 : Int32)) σ) (fun v τ => (F_X12_tellDoor_82 x1 x2 v x2 τ)))
set_option maxRecDepth 20000 in
theorem zb_X12_tellDoor_70 {S : Shp} {x1 : Int32} {x2 : Int32} {σ : Mm} {r : Int32 × Mm} (h : F_X12_tellDoor_70 x1 x2 σ = some r) : Z m_X12_tellDoor S (Qi r) 70 [(0, .ref (sL S 3 0 0)), (1, .int (x1)), (2, .int (x2))] [] σ := by
  unfold F_X12_tellDoor_70 at h
  refine z_aload_n dX12_tellDoor_70 rfl 0 rfl ?_
  refine gf_12_61 rfl dX12_tellDoor_71 ?_
  refine z_iload_n dX12_tellDoor_74 rfl 2 rfl ?_
  refine z_aload_n dX12_tellDoor_75 rfl 0 rfl ?_
  refine z_iload_n dX12_tellDoor_76 rfl 1 rfl ?_
  refine z_iconst (v := 1) dX12_tellDoor_77 (by decide) ?_
  refine z_iadd dX12_tellDoor_78 ?_
  obtain ⟨v, τ, hc, h⟩ := bnd_e h
  refine z_callV (M' := m_X12_thingAt) (t := 3) (i := 0) (k := 0) (As := [.int (x1 + (1 : Int32))]) (rest := [.int (x2), .ref (sL S 3 0 16)]) kl_12_373 oy_X12_thingAt ⟨Nat.le_of_ble_eq_true rfl, Nat.le_of_ble_eq_true rfl⟩ rfl rfl rfl rfl (Nat.le_of_ble_eq_true rfl) rfl dX12_tellDoor_79 (c_X12_thingAt hc) (fun v2 τ2 hq => ?_)
  obtain ⟨rfl, hτ⟩ := hq
  subst τ2
  change Z _ _ _ _ _ [.int (v), .int (x2), .ref (sL S 3 0 16)] _
  exact zb_X12_tellDoor_82 h
def F_X12_tellDoor_69 (x1 : Int32) (x2 : Int32) (s0 : Int32) (s1 : Int32) (σ : Mm) : Option (Int32 × Mm) := (if inb s1 40 = true then (F_X12_tellDoor_70 x1 x2 (setA σ 3 0 15 (upd (mA σ 3 0 15) s1.toNatClampNeg s0))) else none)
set_option maxRecDepth 20000 in
theorem zb_X12_tellDoor_69 {S : Shp} {x1 : Int32} {x2 : Int32} {s0 : Int32} {s1 : Int32} {σ : Mm} {r : Int32 × Mm} (h : F_X12_tellDoor_69 x1 x2 s0 s1 σ = some r) : Z m_X12_tellDoor S (Qi r) 69 [(0, .ref (sL S 3 0 0)), (1, .int (x1)), (2, .int (x2))] [.int (s0), .int (s1), .ref (sL S 3 0 15)] σ := by
  unfold F_X12_tellDoor_69 at h
  obtain ⟨g4, h⟩ := gd h
  refine is_3_15 (inb_in g4) dX12_tellDoor_69 ?_
  exact zb_X12_tellDoor_70 h
def F_X12_tellDoor_59 (x1 : Int32) (x2 : Int32) (σ : Mm) : Option (Int32 × Mm) := (bnd (F_X12_thingAt x1 σ) (fun v τ => (F_X12_tellDoor_69 x1 x2 v x2 τ)))
set_option maxRecDepth 20000 in
theorem zb_X12_tellDoor_59 {S : Shp} {x1 : Int32} {x2 : Int32} {σ : Mm} {r : Int32 × Mm} (h : F_X12_tellDoor_59 x1 x2 σ = some r) : Z m_X12_tellDoor S (Qi r) 59 [(0, .ref (sL S 3 0 0)), (1, .int (x1)), (2, .int (x2))] [] σ := by
  unfold F_X12_tellDoor_59 at h
  refine z_aload_n dX12_tellDoor_59 rfl 0 rfl ?_
  refine gf_12_58 rfl dX12_tellDoor_60 ?_
  refine z_iload_n dX12_tellDoor_63 rfl 2 rfl ?_
  refine z_aload_n dX12_tellDoor_64 rfl 0 rfl ?_
  refine z_iload_n dX12_tellDoor_65 rfl 1 rfl ?_
  obtain ⟨v, τ, hc, h⟩ := bnd_e h
  refine z_callV (M' := m_X12_thingAt) (t := 3) (i := 0) (k := 0) (As := [.int (x1)]) (rest := [.int (x2), .ref (sL S 3 0 15)]) kl_12_373 oy_X12_thingAt ⟨Nat.le_of_ble_eq_true rfl, Nat.le_of_ble_eq_true rfl⟩ rfl rfl rfl rfl (Nat.le_of_ble_eq_true rfl) rfl dX12_tellDoor_66 (c_X12_thingAt hc) (fun v2 τ2 hq => ?_)
  obtain ⟨rfl, hτ⟩ := hq
  subst τ2
  change Z _ _ _ _ _ [.int (v), .int (x2), .ref (sL S 3 0 15)] _
  exact zb_X12_tellDoor_69 h
def F_X12_tellDoor_44 (x1 : Int32) (s0 : Int32) (σ : Mm) : Option (Int32 × Mm) := (if s0 = 0 then some (0, σ) else (if inb 1 5 = true then (F_X12_tellDoor_59 x1 ((8 : Int32) + (mA σ 3 0 14 (1 : Int32).toNatClampNeg)) σ) else none))
set_option maxRecDepth 20000 in
theorem zb_X12_tellDoor_44 {S : Shp} {x1 : Int32} {s0 : Int32} {σ : Mm} {r : Int32 × Mm} (h : F_X12_tellDoor_44 x1 s0 σ = some r) : Z m_X12_tellDoor S (Qi r) 44 [(0, .ref (sL S 3 0 0)), (1, .int (x1))] [.int (s0)] σ := by
  unfold F_X12_tellDoor_44 at h
  refine z_if_ne (tgt := 49) dX12_tellDoor_44 (by decide) (fun q => ?_) (fun q => ?_)
  · have h := (if_neg q).symm.trans h
    obtain ⟨g3, h⟩ := gd h
    refine z_bipush (v := 8) dX12_tellDoor_49 (by decide) ?_
    refine z_aload_n dX12_tellDoor_51 rfl 0 rfl ?_
    refine gf_12_55 rfl dX12_tellDoor_52 ?_
    refine z_iconst (v := 1) dX12_tellDoor_55 (by decide) ?_
    refine ia_3_14 (inb_in g3) dX12_tellDoor_56 ?_
    refine z_iadd dX12_tellDoor_57 ?_
    refine z_istore_n (lv' := [(0, .ref (sL S 3 0 0)), (1, .int (x1)), (2, .int ((8 : Int32) + (mA σ 3 0 14 (1 : Int32).toNatClampNeg)))]) dX12_tellDoor_58 rfl (by decide) [1, 2, 0] rfl ?_
    exact zb_X12_tellDoor_59 h
  · have h := (if_pos q).symm.trans h
    refine z_iconst (v := 0) dX12_tellDoor_47 (by decide) ?_
    cases h
    exact z_ireturn dX12_tellDoor_48 rfl rfl ⟨rfl, rfl⟩
def F_X12_tellDoor_36 (x1 : Int32) (s0 : Int32) (σ : Mm) : Option (Int32 × Mm) := (if s0 = 0 then some (0, σ) else (bnd (F_X12_takes 0 σ) (fun v τ => (F_X12_tellDoor_44 x1 v τ))))
set_option maxRecDepth 20000 in
theorem zb_X12_tellDoor_36 {S : Shp} {x1 : Int32} {s0 : Int32} {σ : Mm} {r : Int32 × Mm} (h : F_X12_tellDoor_36 x1 s0 σ = some r) : Z m_X12_tellDoor S (Qi r) 36 [(0, .ref (sL S 3 0 0)), (1, .int (x1))] [.int (s0)] σ := by
  unfold F_X12_tellDoor_36 at h
  refine z_if_eq (tgt := 47) dX12_tellDoor_36 (by decide) (fun q => ?_) (fun q => ?_)
  · have h := (if_pos q).symm.trans h
    refine z_iconst (v := 0) dX12_tellDoor_47 (by decide) ?_
    cases h
    exact z_ireturn dX12_tellDoor_48 rfl rfl ⟨rfl, rfl⟩
  · have h := (if_neg q).symm.trans h
    refine z_aload_n dX12_tellDoor_39 rfl 0 rfl ?_
    refine z_iconst (v := 0) dX12_tellDoor_40 (by decide) ?_
    obtain ⟨v, τ, hc, h⟩ := bnd_e h
    refine z_callV (M' := m_X12_takes) (t := 3) (i := 0) (k := 0) (As := [.int (0)]) (rest := []) kl_12_321 oy_X12_takes ⟨Nat.le_of_ble_eq_true rfl, Nat.le_of_ble_eq_true rfl⟩ rfl rfl rfl rfl (Nat.le_of_ble_eq_true rfl) rfl dX12_tellDoor_41 (c_X12_takes hc) (fun v2 τ2 hq => ?_)
    obtain ⟨rfl, hτ⟩ := hq
    subst τ2
    change Z _ _ _ _ _ [.int (v)] _
    exact zb_X12_tellDoor_44 h
def F_X12_tellDoor_28 (x1 : Int32) (s0 : Int32) (σ : Mm) : Option (Int32 × Mm) := (if s0 = 0 then some (0, σ) else (bnd (F_X12_takes 0 σ) (fun v τ => (F_X12_tellDoor_36 x1 v τ))))
set_option maxRecDepth 20000 in
theorem zb_X12_tellDoor_28 {S : Shp} {x1 : Int32} {s0 : Int32} {σ : Mm} {r : Int32 × Mm} (h : F_X12_tellDoor_28 x1 s0 σ = some r) : Z m_X12_tellDoor S (Qi r) 28 [(0, .ref (sL S 3 0 0)), (1, .int (x1))] [.int (s0)] σ := by
  unfold F_X12_tellDoor_28 at h
  refine z_if_eq (tgt := 47) dX12_tellDoor_28 (by decide) (fun q => ?_) (fun q => ?_)
  · have h := (if_pos q).symm.trans h
    refine z_iconst (v := 0) dX12_tellDoor_47 (by decide) ?_
    cases h
    exact z_ireturn dX12_tellDoor_48 rfl rfl ⟨rfl, rfl⟩
  · have h := (if_neg q).symm.trans h
    refine z_aload_n dX12_tellDoor_31 rfl 0 rfl ?_
    refine z_iconst (v := 0) dX12_tellDoor_32 (by decide) ?_
    obtain ⟨v, τ, hc, h⟩ := bnd_e h
    refine z_callV (M' := m_X12_takes) (t := 3) (i := 0) (k := 0) (As := [.int (0)]) (rest := []) kl_12_321 oy_X12_takes ⟨Nat.le_of_ble_eq_true rfl, Nat.le_of_ble_eq_true rfl⟩ rfl rfl rfl rfl (Nat.le_of_ble_eq_true rfl) rfl dX12_tellDoor_33 (c_X12_takes hc) (fun v2 τ2 hq => ?_)
    obtain ⟨rfl, hτ⟩ := hq
    subst τ2
    change Z _ _ _ _ _ [.int (v)] _
    exact zb_X12_tellDoor_36 h
def F_X12_tellDoor_16 (s0 : Int32) (σ : Mm) : Option (Int32 × Mm) := (if isB s0 = true then some (s0, σ) else none)
set_option maxRecDepth 20000 in
theorem zb_X12_tellDoor_16 {S : Shp} {s0 : Int32} {σ : Mm} {r : Int32 × Mm} (h : F_X12_tellDoor_16 s0 σ = some r) : Z m_X12_tellDoor S (Qi r) 16 [] [.int (s0)] σ := by
  unfold F_X12_tellDoor_16 at h
  obtain ⟨g2, h⟩ := gd h
  cases h
  exact z_ireturn dX12_tellDoor_16 rfl (isB_n g2) ⟨rfl, rfl⟩
def F_X12_tellDoor (σ : Mm) : Option (Int32 × Mm) := (if inb 1 5 = true then (if (mA σ 3 0 14 (1 : Int32).toNatClampNeg) = (8 : Int32) then (bnd (F_X12_wrong 2 σ) (fun v τ => (F_X12_tellDoor_16 v τ))) else (bnd (F_X12_pass  σ) (fun v τ => (F_X12_tellDoor_28 ((mA σ 3 0 0 7) + (1 : Int32)) v τ)))) else none)
set_option maxRecDepth 20000 in
theorem zb_X12_tellDoor {S : Shp} {σ : Mm} {r : Int32 × Mm} (h : F_X12_tellDoor σ = some r) : Z m_X12_tellDoor S (Qi r) 0 [(0, .ref (sL S 3 0 0))] [] σ := by
  unfold F_X12_tellDoor at h
  obtain ⟨g1, h⟩ := gd h
  refine z_aload_n dX12_tellDoor_0 rfl 0 rfl ?_
  refine gf_12_55 rfl dX12_tellDoor_1 ?_
  refine z_iconst (v := 1) dX12_tellDoor_4 (by decide) ?_
  refine ia_3_14 (inb_in g1) dX12_tellDoor_5 ?_
  refine z_bipush (v := 8) dX12_tellDoor_6 (by decide) ?_
  refine z_icmp_ne (tgt := 17) dX12_tellDoor_8 (by decide) (fun q => ?_) (fun q => ?_)
  · have h := (if_neg q).symm.trans h
    refine z_aload_n dX12_tellDoor_17 rfl 0 rfl ?_
    refine gf_12_305 rfl dX12_tellDoor_18 ?_
    refine z_iconst (v := 1) dX12_tellDoor_21 (by decide) ?_
    refine z_iadd dX12_tellDoor_22 ?_
    refine z_istore_n (lv' := [(0, .ref (sL S 3 0 0)), (1, .int ((mA σ 3 0 0 7) + (1 : Int32)))]) dX12_tellDoor_23 rfl (by decide) [1, 0] rfl ?_
    refine z_aload_n dX12_tellDoor_24 rfl 0 rfl ?_
    obtain ⟨v, τ, hc, h⟩ := bnd_e h
    refine z_callV (M' := m_X12_pass) (t := 3) (i := 0) (k := 0) (As := []) (rest := []) kl_12_317 oy_X12_pass ⟨Nat.le_of_ble_eq_true rfl, Nat.le_of_ble_eq_true rfl⟩ rfl rfl rfl rfl (Nat.le_of_ble_eq_true rfl) rfl dX12_tellDoor_25 (c_X12_pass hc) (fun v2 τ2 hq => ?_)
    obtain ⟨rfl, hτ⟩ := hq
    subst τ2
    change Z _ _ _ _ _ [.int (v)] _
    exact zb_X12_tellDoor_28 h
  · have h := (if_pos q).symm.trans h
    refine z_aload_n dX12_tellDoor_11 rfl 0 rfl ?_
    refine z_iconst (v := 2) dX12_tellDoor_12 (by decide) ?_
    obtain ⟨v, τ, hc, h⟩ := bnd_e h
    refine z_callV (M' := m_X12_wrong) (t := 3) (i := 0) (k := 0) (As := [.int (2)]) (rest := []) kl_12_314 oy_X12_wrong ⟨Nat.le_of_ble_eq_true rfl, Nat.le_of_ble_eq_true rfl⟩ rfl rfl rfl rfl (Nat.le_of_ble_eq_true rfl) rfl dX12_tellDoor_13 (c_X12_wrong hc) (fun v2 τ2 hq => ?_)
    obtain ⟨rfl, hτ⟩ := hq
    subst τ2
    change Z _ _ _ _ _ [.int (v)] _
    refine Z.lv [] rfl ?_
    exact zb_X12_tellDoor_16 h
/-- SkyStonesModel.tellDoor()Z -/
theorem c_X12_tellDoor {S : Shp} {σ : Mm} {r : Int32 × Mm} (h : F_X12_tellDoor σ = some r) : Ct m_X12_tellDoor S [.ref (sL S 3 0 0)] σ (Qi r) := Ct.of (by decide +kernel) (Nat.le_of_ble_eq_true rfl) (zb_X12_tellDoor h)
def F_X12_tellHill_112 (σ : Mm) : Option (Int32 × Mm) := some (1, σ)
set_option maxRecDepth 20000 in
theorem zb_X12_tellHill_112 {S : Shp} {σ : Mm} {r : Int32 × Mm} (h : F_X12_tellHill_112 σ = some r) : Z m_X12_tellHill S (Qi r) 112 [] [] σ := by
  unfold F_X12_tellHill_112 at h
  refine z_iconst (v := 1) dX12_tellHill_112 (by decide) ?_
  cases h
  exact z_ireturn dX12_tellHill_113 rfl rfl ⟨rfl, rfl⟩
def F_X12_tellHill_102 (σ : Mm) : Option (Int32 × Mm) := (if inb 1 5 = true then (if inb 1 5 = true then (F_X12_tellHill_112 (setA σ 3 0 17 (upd (mA σ 3 0 17) (1 : Int32).toNatClampNeg ((mA σ 3 0 17 (1 : Int32).toNatClampNeg) + (1 : Int32))))) else none) else none)
set_option maxRecDepth 20000 in
theorem zb_X12_tellHill_102 {S : Shp} {σ : Mm} {r : Int32 × Mm} (h : F_X12_tellHill_102 σ = some r) : Z m_X12_tellHill S (Qi r) 102 [(0, .ref (sL S 3 0 0))] [] σ := by
  unfold F_X12_tellHill_102 at h
  obtain ⟨g7, h⟩ := gd h
  refine z_aload_n dX12_tellHill_102 rfl 0 rfl ?_
  refine gf_12_64 rfl dX12_tellHill_103 ?_
  refine z_iconst (v := 1) dX12_tellHill_106 (by decide) ?_
  refine z_dup2_11 dX12_tellHill_107 rfl rfl ?_
  obtain ⟨g8, h⟩ := gd h
  refine ia_3_17 (inb_in g7) dX12_tellHill_108 ?_
  refine z_iconst (v := 1) dX12_tellHill_109 (by decide) ?_
  refine z_iadd dX12_tellHill_110 ?_
  refine is_3_17 (inb_in g8) dX12_tellHill_111 ?_
  refine Z.lv [] rfl ?_
  exact zb_X12_tellHill_112 h
def F_X12_tellHill_87 (x1 : Int32) (s0 : Int32) (σ : Mm) : Option (Int32 × Mm) := (if s0 = 0 then some (0, σ) else (if inb x1 60 = true then (F_X12_tellHill_102 (setA σ 3 0 20 (upd (mA σ 3 0 20) x1.toNatClampNeg (mA σ 3 0 0 55)))) else none))
set_option maxRecDepth 20000 in
theorem zb_X12_tellHill_87 {S : Shp} {x1 : Int32} {s0 : Int32} {σ : Mm} {r : Int32 × Mm} (h : F_X12_tellHill_87 x1 s0 σ = some r) : Z m_X12_tellHill S (Qi r) 87 [(0, .ref (sL S 3 0 0)), (1, .int (x1))] [.int (s0)] σ := by
  unfold F_X12_tellHill_87 at h
  refine z_if_ne (tgt := 92) dX12_tellHill_87 (by decide) (fun q => ?_) (fun q => ?_)
  · have h := (if_neg q).symm.trans h
    obtain ⟨g6, h⟩ := gd h
    refine z_aload_n dX12_tellHill_92 rfl 0 rfl ?_
    refine gf_12_73 rfl dX12_tellHill_93 ?_
    refine z_iload_n dX12_tellHill_96 rfl 1 rfl ?_
    refine z_aload_n dX12_tellHill_97 rfl 0 rfl ?_
    refine gf_12_324 rfl dX12_tellHill_98 ?_
    refine is_3_20 (inb_in g6) dX12_tellHill_101 ?_
    refine Z.lv [0] rfl ?_
    exact zb_X12_tellHill_102 h
  · have h := (if_pos q).symm.trans h
    refine z_iconst (v := 0) dX12_tellHill_90 (by decide) ?_
    cases h
    exact z_ireturn dX12_tellHill_91 rfl rfl ⟨rfl, rfl⟩
def F_X12_tellHill_80 (x1 : Int32) (σ : Mm) : Option (Int32 × Mm) := (bnd (F_X12_takesInt 0 20 σ) (fun v τ => (F_X12_tellHill_87 x1 v τ)))
set_option maxRecDepth 20000 in
theorem zb_X12_tellHill_80 {S : Shp} {x1 : Int32} {σ : Mm} {r : Int32 × Mm} (h : F_X12_tellHill_80 x1 σ = some r) : Z m_X12_tellHill S (Qi r) 80 [(0, .ref (sL S 3 0 0)), (1, .int (x1))] [] σ := by
  unfold F_X12_tellHill_80 at h
  refine z_aload_n dX12_tellHill_80 rfl 0 rfl ?_
  refine z_iconst (v := 0) dX12_tellHill_81 (by decide) ?_
  refine z_bipush (v := 20) dX12_tellHill_82 (by decide) ?_
  obtain ⟨v, τ, hc, h⟩ := bnd_e h
  refine z_callV (M' := m_X12_takesInt) (t := 3) (i := 0) (k := 0) (As := [.int (0), .int (20)]) (rest := []) kl_12_369 oy_X12_takesInt ⟨Nat.le_of_ble_eq_true rfl, Nat.le_of_ble_eq_true rfl⟩ rfl rfl rfl rfl (Nat.le_of_ble_eq_true rfl) rfl dX12_tellHill_84 (c_X12_takesInt hc) (fun v2 τ2 hq => ?_)
  obtain ⟨rfl, hτ⟩ := hq
  subst τ2
  change Z _ _ _ _ _ [.int (v)] _
  exact zb_X12_tellHill_87 h
def F_X12_tellHill_65 (x1 : Int32) (s0 : Int32) (σ : Mm) : Option (Int32 × Mm) := (if s0 = 0 then some (0, σ) else (if inb x1 60 = true then (F_X12_tellHill_80 x1 (setA σ 3 0 19 (upd (mA σ 3 0 19) x1.toNatClampNeg (mA σ 3 0 0 55)))) else none))
set_option maxRecDepth 20000 in
theorem zb_X12_tellHill_65 {S : Shp} {x1 : Int32} {s0 : Int32} {σ : Mm} {r : Int32 × Mm} (h : F_X12_tellHill_65 x1 s0 σ = some r) : Z m_X12_tellHill S (Qi r) 65 [(0, .ref (sL S 3 0 0)), (1, .int (x1))] [.int (s0)] σ := by
  unfold F_X12_tellHill_65 at h
  refine z_if_ne (tgt := 70) dX12_tellHill_65 (by decide) (fun q => ?_) (fun q => ?_)
  · have h := (if_neg q).symm.trans h
    obtain ⟨g5, h⟩ := gd h
    refine z_aload_n dX12_tellHill_70 rfl 0 rfl ?_
    refine gf_12_70 rfl dX12_tellHill_71 ?_
    refine z_iload_n dX12_tellHill_74 rfl 1 rfl ?_
    refine z_aload_n dX12_tellHill_75 rfl 0 rfl ?_
    refine gf_12_324 rfl dX12_tellHill_76 ?_
    refine is_3_19 (inb_in g5) dX12_tellHill_79 ?_
    exact zb_X12_tellHill_80 h
  · have h := (if_pos q).symm.trans h
    refine z_iconst (v := 0) dX12_tellHill_68 (by decide) ?_
    cases h
    exact z_ireturn dX12_tellHill_69 rfl rfl ⟨rfl, rfl⟩
def F_X12_tellHill_57 (x1 : Int32) (σ : Mm) : Option (Int32 × Mm) := (bnd (F_X12_takesInt 0 359 σ) (fun v τ => (F_X12_tellHill_65 x1 v τ)))
set_option maxRecDepth 20000 in
theorem zb_X12_tellHill_57 {S : Shp} {x1 : Int32} {σ : Mm} {r : Int32 × Mm} (h : F_X12_tellHill_57 x1 σ = some r) : Z m_X12_tellHill S (Qi r) 57 [(0, .ref (sL S 3 0 0)), (1, .int (x1))] [] σ := by
  unfold F_X12_tellHill_57 at h
  refine z_aload_n dX12_tellHill_57 rfl 0 rfl ?_
  refine z_iconst (v := 0) dX12_tellHill_58 (by decide) ?_
  refine z_sipush (v := 359) dX12_tellHill_59 (by decide) ?_
  obtain ⟨v, τ, hc, h⟩ := bnd_e h
  refine z_callV (M' := m_X12_takesInt) (t := 3) (i := 0) (k := 0) (As := [.int (0), .int (359)]) (rest := []) kl_12_369 oy_X12_takesInt ⟨Nat.le_of_ble_eq_true rfl, Nat.le_of_ble_eq_true rfl⟩ rfl rfl rfl rfl (Nat.le_of_ble_eq_true rfl) rfl dX12_tellHill_62 (c_X12_takesInt hc) (fun v2 τ2 hq => ?_)
  obtain ⟨rfl, hτ⟩ := hq
  subst τ2
  change Z _ _ _ _ _ [.int (v)] _
  exact zb_X12_tellHill_65 h
def F_X12_tellHill_42 (x1 : Int32) (s0 : Int32) (σ : Mm) : Option (Int32 × Mm) := (if s0 = 0 then some (0, σ) else (if inb x1 60 = true then (F_X12_tellHill_57 x1 (setA σ 3 0 18 (upd (mA σ 3 0 18) x1.toNatClampNeg (mA σ 3 0 0 55)))) else none))
set_option maxRecDepth 20000 in
theorem zb_X12_tellHill_42 {S : Shp} {x1 : Int32} {s0 : Int32} {σ : Mm} {r : Int32 × Mm} (h : F_X12_tellHill_42 x1 s0 σ = some r) : Z m_X12_tellHill S (Qi r) 42 [(0, .ref (sL S 3 0 0)), (1, .int (x1))] [.int (s0)] σ := by
  unfold F_X12_tellHill_42 at h
  refine z_if_ne (tgt := 47) dX12_tellHill_42 (by decide) (fun q => ?_) (fun q => ?_)
  · have h := (if_neg q).symm.trans h
    obtain ⟨g4, h⟩ := gd h
    refine z_aload_n dX12_tellHill_47 rfl 0 rfl ?_
    refine gf_12_67 rfl dX12_tellHill_48 ?_
    refine z_iload_n dX12_tellHill_51 rfl 1 rfl ?_
    refine z_aload_n dX12_tellHill_52 rfl 0 rfl ?_
    refine gf_12_324 rfl dX12_tellHill_53 ?_
    refine is_3_18 (inb_in g4) dX12_tellHill_56 ?_
    exact zb_X12_tellHill_57 h
  · have h := (if_pos q).symm.trans h
    refine z_iconst (v := 0) dX12_tellHill_45 (by decide) ?_
    cases h
    exact z_ireturn dX12_tellHill_46 rfl rfl ⟨rfl, rfl⟩
def F_X12_tellHill_31 (x1 : Int32) (s0 : Int32) (σ : Mm) : Option (Int32 × Mm) := (if s0 = 0 then some (0, σ) else (bnd (F_X12_takesInt 0 359 σ) (fun v τ => (F_X12_tellHill_42 x1 v τ))))
set_option maxRecDepth 20000 in
theorem zb_X12_tellHill_31 {S : Shp} {x1 : Int32} {s0 : Int32} {σ : Mm} {r : Int32 × Mm} (h : F_X12_tellHill_31 x1 s0 σ = some r) : Z m_X12_tellHill S (Qi r) 31 [(0, .ref (sL S 3 0 0)), (1, .int (x1))] [.int (s0)] σ := by
  unfold F_X12_tellHill_31 at h
  refine z_if_eq (tgt := 45) dX12_tellHill_31 (by decide) (fun q => ?_) (fun q => ?_)
  · have h := (if_pos q).symm.trans h
    refine z_iconst (v := 0) dX12_tellHill_45 (by decide) ?_
    cases h
    exact z_ireturn dX12_tellHill_46 rfl rfl ⟨rfl, rfl⟩
  · have h := (if_neg q).symm.trans h
    refine z_aload_n dX12_tellHill_34 rfl 0 rfl ?_
    refine z_iconst (v := 0) dX12_tellHill_35 (by decide) ?_
    refine z_sipush (v := 359) dX12_tellHill_36 (by decide) ?_
    obtain ⟨v, τ, hc, h⟩ := bnd_e h
    refine z_callV (M' := m_X12_takesInt) (t := 3) (i := 0) (k := 0) (As := [.int (0), .int (359)]) (rest := []) kl_12_369 oy_X12_takesInt ⟨Nat.le_of_ble_eq_true rfl, Nat.le_of_ble_eq_true rfl⟩ rfl rfl rfl rfl (Nat.le_of_ble_eq_true rfl) rfl dX12_tellHill_39 (c_X12_takesInt hc) (fun v2 τ2 hq => ?_)
    obtain ⟨rfl, hτ⟩ := hq
    subst τ2
    change Z _ _ _ _ _ [.int (v)] _
    exact zb_X12_tellHill_42 h
def F_X12_tellHill_27 (x1 : Int32) (σ : Mm) : Option (Int32 × Mm) := (bnd (F_X12_pass  σ) (fun v τ => (F_X12_tellHill_31 x1 v τ)))
set_option maxRecDepth 20000 in
theorem zb_X12_tellHill_27 {S : Shp} {x1 : Int32} {σ : Mm} {r : Int32 × Mm} (h : F_X12_tellHill_27 x1 σ = some r) : Z m_X12_tellHill S (Qi r) 27 [(0, .ref (sL S 3 0 0)), (1, .int (x1))] [] σ := by
  unfold F_X12_tellHill_27 at h
  refine z_aload_n dX12_tellHill_27 rfl 0 rfl ?_
  obtain ⟨v, τ, hc, h⟩ := bnd_e h
  refine z_callV (M' := m_X12_pass) (t := 3) (i := 0) (k := 0) (As := []) (rest := []) kl_12_317 oy_X12_pass ⟨Nat.le_of_ble_eq_true rfl, Nat.le_of_ble_eq_true rfl⟩ rfl rfl rfl rfl (Nat.le_of_ble_eq_true rfl) rfl dX12_tellHill_28 (c_X12_pass hc) (fun v2 τ2 hq => ?_)
  obtain ⟨rfl, hτ⟩ := hq
  subst τ2
  change Z _ _ _ _ _ [.int (v)] _
  exact zb_X12_tellHill_31 h
def F_X12_tellHill_16 (s0 : Int32) (σ : Mm) : Option (Int32 × Mm) := (if isB s0 = true then some (s0, σ) else none)
set_option maxRecDepth 20000 in
theorem zb_X12_tellHill_16 {S : Shp} {s0 : Int32} {σ : Mm} {r : Int32 × Mm} (h : F_X12_tellHill_16 s0 σ = some r) : Z m_X12_tellHill S (Qi r) 16 [] [.int (s0)] σ := by
  unfold F_X12_tellHill_16 at h
  obtain ⟨g3, h⟩ := gd h
  cases h
  exact z_ireturn dX12_tellHill_16 rfl (isB_n g3) ⟨rfl, rfl⟩
def F_X12_tellHill (σ : Mm) : Option (Int32 × Mm) := (if inb 1 5 = true then (if (mA σ 3 0 17 (1 : Int32).toNatClampNeg) = (12 : Int32) then (bnd (F_X12_wrong 2 σ) (fun v τ => (F_X12_tellHill_16 v τ))) else (if inb 1 5 = true then (F_X12_tellHill_27 ((12 : Int32) + (mA σ 3 0 17 (1 : Int32).toNatClampNeg)) σ) else none)) else none)
set_option maxRecDepth 20000 in
theorem zb_X12_tellHill {S : Shp} {σ : Mm} {r : Int32 × Mm} (h : F_X12_tellHill σ = some r) : Z m_X12_tellHill S (Qi r) 0 [(0, .ref (sL S 3 0 0))] [] σ := by
  unfold F_X12_tellHill at h
  obtain ⟨g1, h⟩ := gd h
  refine z_aload_n dX12_tellHill_0 rfl 0 rfl ?_
  refine gf_12_64 rfl dX12_tellHill_1 ?_
  refine z_iconst (v := 1) dX12_tellHill_4 (by decide) ?_
  refine ia_3_17 (inb_in g1) dX12_tellHill_5 ?_
  refine z_bipush (v := 12) dX12_tellHill_6 (by decide) ?_
  refine z_icmp_ne (tgt := 17) dX12_tellHill_8 (by decide) (fun q => ?_) (fun q => ?_)
  · have h := (if_neg q).symm.trans h
    obtain ⟨g2, h⟩ := gd h
    refine z_bipush (v := 12) dX12_tellHill_17 (by decide) ?_
    refine z_aload_n dX12_tellHill_19 rfl 0 rfl ?_
    refine gf_12_64 rfl dX12_tellHill_20 ?_
    refine z_iconst (v := 1) dX12_tellHill_23 (by decide) ?_
    refine ia_3_17 (inb_in g2) dX12_tellHill_24 ?_
    refine z_iadd dX12_tellHill_25 ?_
    refine z_istore_n (lv' := [(0, .ref (sL S 3 0 0)), (1, .int ((12 : Int32) + (mA σ 3 0 17 (1 : Int32).toNatClampNeg)))]) dX12_tellHill_26 rfl (by decide) [1, 0] rfl ?_
    exact zb_X12_tellHill_27 h
  · have h := (if_pos q).symm.trans h
    refine z_aload_n dX12_tellHill_11 rfl 0 rfl ?_
    refine z_iconst (v := 2) dX12_tellHill_12 (by decide) ?_
    obtain ⟨v, τ, hc, h⟩ := bnd_e h
    refine z_callV (M' := m_X12_wrong) (t := 3) (i := 0) (k := 0) (As := [.int (2)]) (rest := []) kl_12_314 oy_X12_wrong ⟨Nat.le_of_ble_eq_true rfl, Nat.le_of_ble_eq_true rfl⟩ rfl rfl rfl rfl (Nat.le_of_ble_eq_true rfl) rfl dX12_tellHill_13 (c_X12_wrong hc) (fun v2 τ2 hq => ?_)
    obtain ⟨rfl, hτ⟩ := hq
    subst τ2
    change Z _ _ _ _ _ [.int (v)] _
    refine Z.lv [] rfl ?_
    exact zb_X12_tellHill_16 h
/-- SkyStonesModel.tellHill()Z -/
theorem c_X12_tellHill {S : Shp} {σ : Mm} {r : Int32 × Mm} (h : F_X12_tellHill σ = some r) : Ct m_X12_tellHill S [.ref (sL S 3 0 0)] σ (Qi r) := Ct.of (by decide +kernel) (Nat.le_of_ble_eq_true rfl) (zb_X12_tellHill h)
