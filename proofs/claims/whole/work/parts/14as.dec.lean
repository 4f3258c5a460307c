def f_X12_vector (x1 : Int32) (x2 : Int32) (σ : Mm) : Int32 := (if (f_X12_isIn x1 0 359) = 0 then (-100) else (if (f_X12_isIn x2 0 1) = 0 then (-100) else f_X12_vectorOf x1 x2))
set_option maxRecDepth 20000 in
theorem zb_X12_vector {S : Shp} {x1 : Int32} {x2 : Int32} {σ : Mm} {r : Int32} (hp : okP σ = true) (h : f_X12_vector x1 x2 σ = r) : Z m_X12_vector S (Qi (r, σ)) 0 [(0, .ref (sL S 3 0 0)), (1, .int (x1)), (2, .int (x2))] [] σ := by
  unfold f_X12_vector at h
  refine z_iload_n dX12_vector_0 rfl 1 rfl ?_
  refine z_iconst (v := 0) dX12_vector_1 (by decide) ?_
  refine z_sipush (v := 359) dX12_vector_2 (by decide) ?_
  refine z_callS (M' := m_X12_isIn) (As := [.int (x1), .int (0), .int (359)]) (rest := []) kl_12_407 oy_X12_isIn ⟨Nat.le_of_ble_eq_true rfl, Nat.le_of_ble_eq_true rfl⟩ rfl (Nat.le_of_ble_eq_true rfl) rfl dX12_vector_5 (c_X12_isIn rfl) (fun v τ hq => ?_)
  obtain ⟨rfl, hτ⟩ := hq
  subst τ
  change Z _ _ _ _ _ [.int (f_X12_isIn x1 0 359)] _
  refine z_if_eq (tgt := 28) dX12_vector_8 (by decide) (fun q => ?_) (fun q => ?_)
  · have h := (if_pos q).symm.trans h
    refine z_bipush (v := (-100)) dX12_vector_28 (by decide) ?_
    subst h
    exact z_ireturn dX12_vector_30 rfl rfl ⟨rfl, rfl⟩
  · have h := (if_neg q).symm.trans h
    refine z_iload_n dX12_vector_11 rfl 2 rfl ?_
    refine z_iconst (v := 0) dX12_vector_12 (by decide) ?_
    refine z_iconst (v := 1) dX12_vector_13 (by decide) ?_
    refine z_callS (M' := m_X12_isIn) (As := [.int (x2), .int (0), .int (1)]) (rest := []) kl_12_407 oy_X12_isIn ⟨Nat.le_of_ble_eq_true rfl, Nat.le_of_ble_eq_true rfl⟩ rfl (Nat.le_of_ble_eq_true rfl) rfl dX12_vector_14 (c_X12_isIn rfl) (fun v τ hq => ?_)
    obtain ⟨rfl, hτ⟩ := hq
    subst τ
    change Z _ _ _ _ _ [.int (f_X12_isIn x2 0 1)] _
    refine z_if_eq (tgt := 28) dX12_vector_17 (by decide) (fun q => ?_) (fun q => ?_)
    · have h := (if_pos q).symm.trans h
      refine z_bipush (v := (-100)) dX12_vector_28 (by decide) ?_
      subst h
      exact z_ireturn dX12_vector_30 rfl rfl ⟨rfl, rfl⟩
    · have h := (if_neg q).symm.trans h
      refine z_iload_n dX12_vector_20 rfl 1 rfl ?_
      refine z_iload_n dX12_vector_21 rfl 2 rfl ?_
      refine z_callS (M' := m_X12_vectorOf) (As := [.int (x1), .int (x2)]) (rest := []) kl_12_460 oy_X12_vectorOf ⟨Nat.le_of_ble_eq_true rfl, Nat.le_of_ble_eq_true rfl⟩ rfl (Nat.le_of_ble_eq_true rfl) rfl dX12_vector_22 (c_X12_vectorOf rfl) (fun v τ hq => ?_)
      obtain ⟨rfl, hτ⟩ := hq
      subst τ
      change Z _ _ _ _ _ [.int (f_X12_vectorOf x1 x2)] _
      refine z_goto (tgt := 30) dX12_vector_25 (by decide) ?_
      subst h
      exact z_ireturn dX12_vector_30 rfl rfl ⟨rfl, rfl⟩
/-- SkyStonesModel.vector(II)I -/
theorem c_X12_vector {S : Shp} {x1 : Int32} {x2 : Int32} {σ : Mm} {r : Int32} (hp : okP σ = true) (h : f_X12_vector x1 x2 σ = r) : Ct m_X12_vector S [.ref (sL S 3 0 0), .int (x1), .int (x2)] σ (Qi (r, σ)) := Ct.of (by decide +kernel) (Nat.le_of_ble_eq_true rfl) (zb_X12_vector hp h)
