def F_X5_tellNear_39 (x1 : Int32) (σ : Mm) : Option (Mm) := (if okP σ = true then (if inb (x1 + (1 : Int32)) 402 = true then some (setA σ 1 (mP σ 2) 0 (upd (mA σ 1 (mP σ 2) 0) 0 (mA σ 0 0 10 (x1 + (1 : Int32)).toNatClampNeg))) else none) else none)
set_option maxRecDepth 20000 in
theorem zb_X5_tellNear_39 {S : Shp} {x1 : Int32} {σ : Mm} {r : Mm} (h : F_X5_tellNear_39 x1 σ = some r) : Z m_X5_tellNear S (Qv r) 39 [(0, .ref (sL S 0 0 12)), (1, .int (x1))] [] σ := by
  unfold F_X5_tellNear_39 at h
  obtain ⟨g1, h⟩ := gd h
  refine z_aload_n dX5_tellNear_39 rfl 0 rfl ?_
  obtain ⟨g2, h⟩ := gd h
  have hp := g1
  refine gf_5_38 rfl dX5_tellNear_40 ?_
  refine z_aload_n dX5_tellNear_43 rfl 0 rfl ?_
  refine gf_5_34 rfl dX5_tellNear_44 ?_
  refine gf_5_77 rfl dX5_tellNear_47 ?_
  refine z_iload_n dX5_tellNear_50 rfl 1 rfl ?_
  refine z_iconst (v := 1) dX5_tellNear_51 (by decide) ?_
  refine z_iadd dX5_tellNear_52 ?_
  refine ia_0_10 (inb_in g2) dX5_tellNear_53 ?_
  refine pf_5_146 (lv1 (okP_2 hp) rfl) rfl dX5_tellNear_54 ?_
  cases h
  exact z_return dX5_tellNear_57 rfl ⟨rfl, rfl⟩
def F_X5_tellNear_27 (x1 : Int32) (s0 : Int32) (σ : Mm) : Option (Mm) := (if s0 = 0 then some (σ) else (bnv (F_X5_blameAbove 20 (x1 + (1 : Int32)) σ) (fun τ => (F_X5_tellNear_39 x1 τ))))
set_option maxRecDepth 20000 in
theorem zb_X5_tellNear_27 {S : Shp} {x1 : Int32} {s0 : Int32} {σ : Mm} {r : Mm} (h : F_X5_tellNear_27 x1 s0 σ = some r) : Z m_X5_tellNear S (Qv r) 27 [(0, .ref (sL S 0 0 12)), (1, .int (x1))] [.int (s0)] σ := by
  unfold F_X5_tellNear_27 at h
  refine z_if_eq (tgt := 57) dX5_tellNear_27 (by decide) (fun q => ?_) (fun q => ?_)
  · have h := (if_pos q).symm.trans h
    cases h
    exact z_return dX5_tellNear_57 rfl ⟨rfl, rfl⟩
  · have h := (if_neg q).symm.trans h
    refine z_aload_n dX5_tellNear_30 rfl 0 rfl ?_
    refine z_bipush (v := 20) dX5_tellNear_31 (by decide) ?_
    refine z_iload_n dX5_tellNear_33 rfl 1 rfl ?_
    refine z_iconst (v := 1) dX5_tellNear_34 (by decide) ?_
    refine z_iadd dX5_tellNear_35 ?_
    obtain ⟨τ, hc, h⟩ := bnv_e h
    refine z_callV (M' := m_X5_blameAbove) (t := 0) (i := 0) (k := 12) (As := [.int (20), .int (x1 + (1 : Int32))]) (rest := []) kl_5_110 oy_X5_blameAbove ⟨Nat.le_of_ble_eq_true rfl, Nat.le_of_ble_eq_true rfl⟩ rfl rfl rfl rfl (Nat.le_of_ble_eq_true rfl) rfl dX5_tellNear_36 (c_X5_blameAbove hc) (fun v2 τ2 hq => ?_)
    obtain ⟨rfl, hτ⟩ := hq
    subst τ2
    change Z _ _ _ _ _ [] _
    exact zb_X5_tellNear_39 h
def F_X5_tellNear_19 (x1 : Int32) (s0 : Int32) (σ : Mm) : Option (Mm) := (if s0 = 0 then some (σ) else (bnd (F_X5_take 4 σ) (fun v τ => (F_X5_tellNear_27 x1 v τ))))
set_option maxRecDepth 20000 in
theorem zb_X5_tellNear_19 {S : Shp} {x1 : Int32} {s0 : Int32} {σ : Mm} {r : Mm} (h : F_X5_tellNear_19 x1 s0 σ = some r) : Z m_X5_tellNear S (Qv r) 19 [(0, .ref (sL S 0 0 12)), (1, .int (x1))] [.int (s0)] σ := by
  unfold F_X5_tellNear_19 at h
  refine z_if_eq (tgt := 57) dX5_tellNear_19 (by decide) (fun q => ?_) (fun q => ?_)
  · have h := (if_pos q).symm.trans h
    cases h
    exact z_return dX5_tellNear_57 rfl ⟨rfl, rfl⟩
  · have h := (if_neg q).symm.trans h
    refine z_aload_n dX5_tellNear_22 rfl 0 rfl ?_
    refine z_iconst (v := 4) dX5_tellNear_23 (by decide) ?_
    obtain ⟨v, τ, hc, h⟩ := bnd_e h
    refine z_callV (M' := m_X5_take) (t := 0) (i := 0) (k := 12) (As := [.int (4)]) (rest := []) kl_5_103 oy_X5_take ⟨Nat.le_of_ble_eq_true rfl, Nat.le_of_ble_eq_true rfl⟩ rfl rfl rfl rfl (Nat.le_of_ble_eq_true rfl) rfl dX5_tellNear_24 (c_X5_take hc) (fun v2 τ2 hq => ?_)
    obtain ⟨rfl, hτ⟩ := hq
    subst τ2
    change Z _ _ _ _ _ [.int (v)] _
    exact zb_X5_tellNear_27 h
def F_X5_tellNear_11 (x1 : Int32) (s0 : Int32) (σ : Mm) : Option (Mm) := (if s0 = 0 then some (σ) else (bnd (F_X5_take 3 σ) (fun v τ => (F_X5_tellNear_19 x1 v τ))))
set_option maxRecDepth 20000 in
theorem zb_X5_tellNear_11 {S : Shp} {x1 : Int32} {s0 : Int32} {σ : Mm} {r : Mm} (h : F_X5_tellNear_11 x1 s0 σ = some r) : Z m_X5_tellNear S (Qv r) 11 [(0, .ref (sL S 0 0 12)), (1, .int (x1))] [.int (s0)] σ := by
  unfold F_X5_tellNear_11 at h
  refine z_if_eq (tgt := 57) dX5_tellNear_11 (by decide) (fun q => ?_) (fun q => ?_)
  · have h := (if_pos q).symm.trans h
    cases h
    exact z_return dX5_tellNear_57 rfl ⟨rfl, rfl⟩
  · have h := (if_neg q).symm.trans h
    refine z_aload_n dX5_tellNear_14 rfl 0 rfl ?_
    refine z_iconst (v := 3) dX5_tellNear_15 (by decide) ?_
    obtain ⟨v, τ, hc, h⟩ := bnd_e h
    refine z_callV (M' := m_X5_take) (t := 0) (i := 0) (k := 12) (As := [.int (3)]) (rest := []) kl_5_103 oy_X5_take ⟨Nat.le_of_ble_eq_true rfl, Nat.le_of_ble_eq_true rfl⟩ rfl rfl rfl rfl (Nat.le_of_ble_eq_true rfl) rfl dX5_tellNear_16 (c_X5_take hc) (fun v2 τ2 hq => ?_)
    obtain ⟨rfl, hτ⟩ := hq
    subst τ2
    change Z _ _ _ _ _ [.int (v)] _
    exact zb_X5_tellNear_19 h
def F_X5_tellNear (σ : Mm) : Option (Mm) := (bnd (F_X5_take 22 σ) (fun v τ => (F_X5_tellNear_11 (mA σ 0 0 12 4) v τ)))
set_option maxRecDepth 20000 in
theorem zb_X5_tellNear {S : Shp} {σ : Mm} {r : Mm} (h : F_X5_tellNear σ = some r) : Z m_X5_tellNear S (Qv r) 0 [(0, .ref (sL S 0 0 12))] [] σ := by
  unfold F_X5_tellNear at h
  refine z_aload_n dX5_tellNear_0 rfl 0 rfl ?_
  refine gf_5_18 rfl dX5_tellNear_1 ?_
  refine z_istore_n (lv' := [(0, .ref (sL S 0 0 12)), (1, .int (mA σ 0 0 12 4))]) dX5_tellNear_4 rfl (by decide) [1, 0] rfl ?_
  refine z_aload_n dX5_tellNear_5 rfl 0 rfl ?_
  refine z_bipush (v := 22) dX5_tellNear_6 (by decide) ?_
  obtain ⟨v, τ, hc, h⟩ := bnd_e h
  refine z_callV (M' := m_X5_take) (t := 0) (i := 0) (k := 12) (As := [.int (22)]) (rest := []) kl_5_103 oy_X5_take ⟨Nat.le_of_ble_eq_true rfl, Nat.le_of_ble_eq_true rfl⟩ rfl rfl rfl rfl (Nat.le_of_ble_eq_true rfl) rfl dX5_tellNear_8 (c_X5_take hc) (fun v2 τ2 hq => ?_)
  obtain ⟨rfl, hτ⟩ := hq
  subst τ2
  change Z _ _ _ _ _ [.int (v)] _
  exact zb_X5_tellNear_11 h
/-- SkyStones$Reader.tellNear()V -/
theorem c_X5_tellNear {S : Shp} {σ : Mm} {r : Mm} (h : F_X5_tellNear σ = some r) : Ct m_X5_tellNear S [.ref (sL S 0 0 12)] σ (Qv r) := Ct.of (by decide +kernel) (Nat.le_of_ble_eq_true rfl) (zb_X5_tellNear h)
def F_X5_literal_95 (x1 : Int32) (σ : Mm) : Option (Mm) := (if x1 = 0 then some (σ) else (if okP σ = true then (bnv (F_X0_put (mP σ 2) 27 0 σ) (fun τ => some (τ))) else none))
set_option maxRecDepth 20000 in
theorem zb_X5_literal_95 {S : Shp} {x1 : Int32} {σ : Mm} {r : Mm} (h : F_X5_literal_95 x1 σ = some r) : Z m_X5_literal S (Qv r) 95 [(0, .ref (sL S 0 0 12)), (1, .int (x1))] [] σ := by
  unfold F_X5_literal_95 at h
  refine z_iload_n dX5_literal_95 rfl 1 rfl ?_
  refine z_if_eq (tgt := 112) dX5_literal_96 (by decide) (fun q => ?_) (fun q => ?_)
  · have h := (if_pos q).symm.trans h
    cases h
    exact z_return dX5_literal_112 rfl ⟨rfl, rfl⟩
  · have h := (if_neg q).symm.trans h
    obtain ⟨g2, h⟩ := gd h
    refine z_aload_n dX5_literal_99 rfl 0 rfl ?_
    have hp := g2
    refine gf_5_38 rfl dX5_literal_100 ?_
    refine gf_5_152 (lv1 (okP_2 hp) rfl) rfl dX5_literal_103 ?_
    refine z_bipush (v := 27) dX5_literal_106 (by decide) ?_
    refine z_iconst (v := 0) dX5_literal_108 (by decide) ?_
    obtain ⟨τ, hc, h⟩ := bnv_e h
    refine z_callV (M' := m_X0_put) (t := 1) (i := (mP σ 2)) (k := 10) (As := [.int (27), .int (0)]) (rest := []) kl_5_173 oy_X0_put ⟨Nat.le_of_ble_eq_true rfl, Nat.le_of_ble_eq_true rfl⟩ (lv1 (okP_2 hp) rfl) rfl rfl rfl (Nat.le_of_ble_eq_true rfl) rfl dX5_literal_109 (c_X0_put (okP_2 hp) hc) (fun v2 τ2 hq => ?_)
    obtain ⟨rfl, hτ⟩ := hq
    subst τ2
    change Z _ _ _ _ _ [] _
    cases h
    exact z_return dX5_literal_112 rfl ⟨rfl, rfl⟩
def F_X5_literal_83 (x1 : Int32) (x2 : Int32) (σ : Mm) : Option (Mm) := (if okP σ = true then (bnv (F_X0_put (mP σ 2) x2 0 σ) (fun τ => (F_X5_literal_95 x1 τ))) else none)
set_option maxRecDepth 20000 in
theorem zb_X5_literal_83 {S : Shp} {x1 : Int32} {x2 : Int32} {σ : Mm} {r : Mm} (h : F_X5_literal_83 x1 x2 σ = some r) : Z m_X5_literal S (Qv r) 83 [(0, .ref (sL S 0 0 12)), (1, .int (x1)), (2, .int (x2))] [] σ := by
  unfold F_X5_literal_83 at h
  obtain ⟨g1, h⟩ := gd h
  refine z_aload_n dX5_literal_83 rfl 0 rfl ?_
  have hp := g1
  refine gf_5_38 rfl dX5_literal_84 ?_
  refine gf_5_152 (lv1 (okP_2 hp) rfl) rfl dX5_literal_87 ?_
  refine z_iload_n dX5_literal_90 rfl 2 rfl ?_
  refine z_iconst (v := 0) dX5_literal_91 (by decide) ?_
  obtain ⟨τ, hc, h⟩ := bnv_e h
  refine z_callV (M' := m_X0_put) (t := 1) (i := (mP σ 2)) (k := 10) (As := [.int (x2), .int (0)]) (rest := []) kl_5_173 oy_X0_put ⟨Nat.le_of_ble_eq_true rfl, Nat.le_of_ble_eq_true rfl⟩ (lv1 (okP_2 hp) rfl) rfl rfl rfl (Nat.le_of_ble_eq_true rfl) rfl dX5_literal_92 (c_X0_put (okP_2 hp) hc) (fun v2 τ2 hq => ?_)
  obtain ⟨rfl, hτ⟩ := hq
  subst τ2
  change Z _ _ _ _ _ [] _
  refine Z.lv [0, 1] rfl ?_
  exact zb_X5_literal_95 h
def F_X5_literal_77 (x1 : Int32) (x2 : Int32) (s0 : Int32) (σ : Mm) : Option (Mm) := (bnv (FS 8 0 σ) (fun τ => (F_X5_literal_83 x1 x2 τ)))
set_option maxRecDepth 20000 in
theorem zb_X5_literal_77 {S : Shp} {x1 : Int32} {x2 : Int32} {s0 : Int32} {σ : Mm} {r : Mm} (h : F_X5_literal_77 x1 x2 s0 σ = some r) : Z m_X5_literal S (Qv r) 77 [(0, .ref (sL S 0 0 12)), (1, .int (x1)), (2, .int (x2))] [.int (s0)] σ := by
  unfold F_X5_literal_77 at h
  refine z_pop dX5_literal_77 rfl ?_
  refine z_aload_n dX5_literal_78 rfl 0 rfl ?_
  refine z_iconst (v := 0) dX5_literal_79 (by decide) ?_
  obtain ⟨τ, hc, h⟩ := bnv_e h
  refine z_callV (M' := m_X5_sum 8) (t := 0) (i := 0) (k := 12) (As := [.int (0)]) (rest := []) kl_5_161 oy_X5_sum ⟨Nat.le_of_ble_eq_true rfl, Nat.le_of_ble_eq_true rfl⟩ rfl rfl rfl rfl (Nat.le_of_ble_eq_true rfl) rfl dX5_literal_80 (c_FS 8 hc) (fun v2 τ2 hq => ?_)
  obtain ⟨rfl, hτ⟩ := hq
  subst τ2
  change Z _ _ _ _ _ [] _
  exact zb_X5_literal_83 h
def F_X5_literal_72 (x1 : Int32) (x2 : Int32) (σ : Mm) : Option (Mm) := (bnd (F_X5_take x2 σ) (fun v τ => (F_X5_literal_77 x1 x2 v τ)))
set_option maxRecDepth 20000 in
theorem zb_X5_literal_72 {S : Shp} {x1 : Int32} {x2 : Int32} {σ : Mm} {r : Mm} (h : F_X5_literal_72 x1 x2 σ = some r) : Z m_X5_literal S (Qv r) 72 [(0, .ref (sL S 0 0 12)), (1, .int (x1)), (2, .int (x2))] [] σ := by
  unfold F_X5_literal_72 at h
  refine z_aload_n dX5_literal_72 rfl 0 rfl ?_
  refine z_iload_n dX5_literal_73 rfl 2 rfl ?_
  obtain ⟨v, τ, hc, h⟩ := bnd_e h
  refine z_callV (M' := m_X5_take) (t := 0) (i := 0) (k := 12) (As := [.int (x2)]) (rest := []) kl_5_103 oy_X5_take ⟨Nat.le_of_ble_eq_true rfl, Nat.le_of_ble_eq_true rfl⟩ rfl rfl rfl rfl (Nat.le_of_ble_eq_true rfl) rfl dX5_literal_74 (c_X5_take hc) (fun v2 τ2 hq => ?_)
  obtain ⟨rfl, hτ⟩ := hq
  subst τ2
  change Z _ _ _ _ _ [.int (v)] _
  exact zb_X5_literal_77 h
def F_X5_literal_67 (x1 : Int32) (x2 : Int32) (σ : Mm) : Option (Mm) := (bnv (F_X5_stop 1 σ) (fun τ => (F_X5_literal_72 x1 x2 τ)))
set_option maxRecDepth 20000 in
theorem zb_X5_literal_67 {S : Shp} {x1 : Int32} {x2 : Int32} {σ : Mm} {r : Mm} (h : F_X5_literal_67 x1 x2 σ = some r) : Z m_X5_literal S (Qv r) 67 [(0, .ref (sL S 0 0 12)), (1, .int (x1)), (2, .int (x2))] [] σ := by
  unfold F_X5_literal_67 at h
  refine z_aload_n dX5_literal_67 rfl 0 rfl ?_
  refine z_iconst (v := 1) dX5_literal_68 (by decide) ?_
  obtain ⟨τ, hc, h⟩ := bnv_e h
  refine z_callV (M' := m_X5_stop) (t := 0) (i := 0) (k := 12) (As := [.int (1)]) (rest := []) kl_5_65 oy_X5_stop ⟨Nat.le_of_ble_eq_true rfl, Nat.le_of_ble_eq_true rfl⟩ rfl rfl rfl rfl (Nat.le_of_ble_eq_true rfl) rfl dX5_literal_69 (c_X5_stop hc) (fun v2 τ2 hq => ?_)
  obtain ⟨rfl, hτ⟩ := hq
  subst τ2
  change Z _ _ _ _ _ [] _
  exact zb_X5_literal_72 h
def F_X5_literal_54 (x1 : Int32) (s0 : Int32) (σ : Mm) : Option (Mm) := (if s0 < (10 : Int32) then (F_X5_literal_67 x1 s0 σ) else (if s0 ≤ (13 : Int32) then (F_X5_literal_72 x1 s0 σ) else (F_X5_literal_67 x1 s0 σ)))
set_option maxRecDepth 20000 in
theorem zb_X5_literal_54 {S : Shp} {x1 : Int32} {s0 : Int32} {σ : Mm} {r : Mm} (h : F_X5_literal_54 x1 s0 σ = some r) : Z m_X5_literal S (Qv r) 54 [(0, .ref (sL S 0 0 12)), (1, .int (x1))] [.int (s0)] σ := by
  unfold F_X5_literal_54 at h
  refine z_istore_n (lv' := [(0, .ref (sL S 0 0 12)), (1, .int (x1)), (2, .int (s0))]) dX5_literal_54 rfl (by decide) [1, 2, 0] rfl ?_
  refine z_iload_n dX5_literal_55 rfl 2 rfl ?_
  refine z_bipush (v := 10) dX5_literal_56 (by decide) ?_
  refine z_icmp_lt (tgt := 67) dX5_literal_58 (by decide) (fun q => ?_) (fun q => ?_)
  · have h := (if_pos q).symm.trans h
    exact zb_X5_literal_67 h
  · have h := (if_neg q).symm.trans h
    refine z_iload_n dX5_literal_61 rfl 2 rfl ?_
    refine z_bipush (v := 13) dX5_literal_62 (by decide) ?_
    refine z_icmp_le (tgt := 72) dX5_literal_64 (by decide) (fun q => ?_) (fun q => ?_)
    · have h := (if_pos q).symm.trans h
      exact zb_X5_literal_72 h
    · have h := (if_neg q).symm.trans h
      exact zb_X5_literal_67 h
def F_X5_literal_50 (x1 : Int32) (σ : Mm) : Option (Mm) := (bnd (F_X5_kindHere  σ) (fun v τ => (F_X5_literal_54 x1 v τ)))
set_option maxRecDepth 20000 in
theorem zb_X5_literal_50 {S : Shp} {x1 : Int32} {σ : Mm} {r : Mm} (h : F_X5_literal_50 x1 σ = some r) : Z m_X5_literal S (Qv r) 50 [(0, .ref (sL S 0 0 12)), (1, .int (x1))] [] σ := by
  unfold F_X5_literal_50 at h
  refine z_aload_n dX5_literal_50 rfl 0 rfl ?_
  obtain ⟨v, τ, hc, h⟩ := bnd_e h
  refine z_callV (M' := m_X5_kindHere) (t := 0) (i := 0) (k := 12) (As := []) (rest := []) kl_5_42 oy_X5_kindHere ⟨Nat.le_of_ble_eq_true rfl, Nat.le_of_ble_eq_true rfl⟩ rfl rfl rfl rfl (Nat.le_of_ble_eq_true rfl) rfl dX5_literal_51 (c_X5_kindHere hc) (fun v2 τ2 hq => ?_)
  obtain ⟨rfl, hτ⟩ := hq
  subst τ2
  change Z _ _ _ _ _ [.int (v)] _
  exact zb_X5_literal_54 h
def F_X5_literal_45 (x1 : Int32) (σ : Mm) : Option (Mm) := (bnv (FS 8 0 σ) (fun τ => (F_X5_literal_50 x1 τ)))
set_option maxRecDepth 20000 in
theorem zb_X5_literal_45 {S : Shp} {x1 : Int32} {σ : Mm} {r : Mm} (h : F_X5_literal_45 x1 σ = some r) : Z m_X5_literal S (Qv r) 45 [(0, .ref (sL S 0 0 12)), (1, .int (x1))] [] σ := by
  unfold F_X5_literal_45 at h
  refine z_aload_n dX5_literal_45 rfl 0 rfl ?_
  refine z_iconst (v := 0) dX5_literal_46 (by decide) ?_
  obtain ⟨τ, hc, h⟩ := bnv_e h
  refine z_callV (M' := m_X5_sum 8) (t := 0) (i := 0) (k := 12) (As := [.int (0)]) (rest := []) kl_5_161 oy_X5_sum ⟨Nat.le_of_ble_eq_true rfl, Nat.le_of_ble_eq_true rfl⟩ rfl rfl rfl rfl (Nat.le_of_ble_eq_true rfl) rfl dX5_literal_47 (c_FS 8 hc) (fun v2 τ2 hq => ?_)
  obtain ⟨rfl, hτ⟩ := hq
  subst τ2
  change Z _ _ _ _ _ [] _
  exact zb_X5_literal_50 h
def F_X5_literal_38 (rc4 : Int32 → Int32 → Mm → Option (Mm)) (x2 : Int32) (s0 : Int32) (σ : Mm) : Option (Mm) := (rc4 s0 (x2 + 1) σ)
set_option maxRecDepth 20000 in
theorem zb_X5_literal_38 {S : Shp} {rc4 : Int32 → Int32 → Mm → Option (Mm)} (hrc4 : ∀ {x1 : Int32} {x2 : Int32} {σ : Mm} {r : Mm}, rc4 x1 x2 σ = some r → Z m_X5_literal S (Qv r) 4 [(0, .ref (sL S 0 0 12)), (1, .int (x1)), (2, .int (x2))] [] σ) {x2 : Int32} {s0 : Int32} {σ : Mm} {r : Mm} (h : F_X5_literal_38 rc4 x2 s0 σ = some r) : Z m_X5_literal S (Qv r) 38 [(0, .ref (sL S 0 0 12)), (2, .int (x2))] [.int (s0)] σ := by
  unfold F_X5_literal_38 at h
  refine z_istore_n (lv' := [(0, .ref (sL S 0 0 12)), (1, .int (s0)), (2, .int (x2))]) dX5_literal_38 rfl (by decide) [1, 0, 2] rfl ?_
  refine z_iinc (j := 2) (v := x2 + 1) (lv' := [(0, .ref (sL S 0 0 12)), (1, .int (s0)), (2, .int (x2 + 1))]) dX5_literal_39 rfl rfl (by decide) [1, 2, 0] rfl ?_
  refine z_goto (tgt := 4) dX5_literal_42 (by decide) ?_
  exact hrc4 h
def F_X5_literal_26 (rc4 : Int32 → Int32 → Mm → Option (Mm)) (x1 : Int32) (x2 : Int32) (s0 : Int32) (σ : Mm) : Option (Mm) := (if s0 = 0 then (F_X5_literal_45 x1 σ) else (if x1 = 0 then (F_X5_literal_38 rc4 x2 1 σ) else (F_X5_literal_38 rc4 x2 0 σ)))
set_option maxRecDepth 20000 in
theorem zb_X5_literal_26 {S : Shp} {rc4 : Int32 → Int32 → Mm → Option (Mm)} (hrc4 : ∀ {x1 : Int32} {x2 : Int32} {σ : Mm} {r : Mm}, rc4 x1 x2 σ = some r → Z m_X5_literal S (Qv r) 4 [(0, .ref (sL S 0 0 12)), (1, .int (x1)), (2, .int (x2))] [] σ) {x1 : Int32} {x2 : Int32} {s0 : Int32} {σ : Mm} {r : Mm} (h : F_X5_literal_26 rc4 x1 x2 s0 σ = some r) : Z m_X5_literal S (Qv r) 26 [(0, .ref (sL S 0 0 12)), (1, .int (x1)), (2, .int (x2))] [.int (s0)] σ := by
  unfold F_X5_literal_26 at h
  refine z_if_eq (tgt := 45) dX5_literal_26 (by decide) (fun q => ?_) (fun q => ?_)
  · have h := (if_pos q).symm.trans h
    refine Z.lv [0, 1] rfl ?_
    exact zb_X5_literal_45 h
  · have h := (if_neg q).symm.trans h
    refine z_iload_n dX5_literal_29 rfl 1 rfl ?_
    refine z_if_ne (tgt := 37) dX5_literal_30 (by decide) (fun q => ?_) (fun q => ?_)
    · have h := (if_neg q).symm.trans h
      refine z_iconst (v := 0) dX5_literal_37 (by decide) ?_
      refine Z.lv [0, 2] rfl ?_
      exact zb_X5_literal_38 hrc4 h
    · have h := (if_pos q).symm.trans h
      refine z_iconst (v := 1) dX5_literal_33 (by decide) ?_
      refine z_goto (tgt := 38) dX5_literal_34 (by decide) ?_
      refine Z.lv [0, 2] rfl ?_
      exact zb_X5_literal_38 hrc4 h
def F_X5_literal_15 (rc4 : Int32 → Int32 → Mm → Option (Mm)) (x1 : Int32) (x2 : Int32) (s0 : Int32) (σ : Mm) : Option (Mm) := (if s0 = (27 : Int32) then (bnd (F_X5_take 27 σ) (fun v τ => (F_X5_literal_26 rc4 x1 x2 v τ))) else (F_X5_literal_45 x1 σ))
set_option maxRecDepth 20000 in
theorem zb_X5_literal_15 {S : Shp} {rc4 : Int32 → Int32 → Mm → Option (Mm)} (hrc4 : ∀ {x1 : Int32} {x2 : Int32} {σ : Mm} {r : Mm}, rc4 x1 x2 σ = some r → Z m_X5_literal S (Qv r) 4 [(0, .ref (sL S 0 0 12)), (1, .int (x1)), (2, .int (x2))] [] σ) {x1 : Int32} {x2 : Int32} {s0 : Int32} {σ : Mm} {r : Mm} (h : F_X5_literal_15 rc4 x1 x2 s0 σ = some r) : Z m_X5_literal S (Qv r) 15 [(0, .ref (sL S 0 0 12)), (1, .int (x1)), (2, .int (x2))] [.int (s0)] σ := by
  unfold F_X5_literal_15 at h
  refine z_bipush (v := 27) dX5_literal_15 (by decide) ?_
  refine z_icmp_ne (tgt := 45) dX5_literal_17 (by decide) (fun q => ?_) (fun q => ?_)
  · have h := (if_neg q).symm.trans h
    refine Z.lv [0, 1] rfl ?_
    exact zb_X5_literal_45 h
  · have h := (if_pos q).symm.trans h
    refine z_aload_n dX5_literal_20 rfl 0 rfl ?_
    refine z_bipush (v := 27) dX5_literal_21 (by decide) ?_
    obtain ⟨v, τ, hc, h⟩ := bnd_e h
    refine z_callV (M' := m_X5_take) (t := 0) (i := 0) (k := 12) (As := [.int (27)]) (rest := []) kl_5_103 oy_X5_take ⟨Nat.le_of_ble_eq_true rfl, Nat.le_of_ble_eq_true rfl⟩ rfl rfl rfl rfl (Nat.le_of_ble_eq_true rfl) rfl dX5_literal_23 (c_X5_take hc) (fun v2 τ2 hq => ?_)
    obtain ⟨rfl, hτ⟩ := hq
    subst τ2
    change Z _ _ _ _ _ [.int (v)] _
    exact zb_X5_literal_26 hrc4 h
def B_X5_literal_4 (rc4 : Int32 → Int32 → Mm → Option (Mm)) (x1 : Int32) (x2 : Int32) (σ : Mm) : Option (Mm) := (if (400 : Int32) ≤ x2 then (F_X5_literal_45 x1 σ) else (bnd (F_X5_kindHere  σ) (fun v τ => (F_X5_literal_15 rc4 x1 x2 v τ))))
set_option maxRecDepth 20000 in
theorem zB_X5_literal_4 {S : Shp} {rc4 : Int32 → Int32 → Mm → Option (Mm)} (hrc4 : ∀ {x1 : Int32} {x2 : Int32} {σ : Mm} {r : Mm}, rc4 x1 x2 σ = some r → Z m_X5_literal S (Qv r) 4 [(0, .ref (sL S 0 0 12)), (1, .int (x1)), (2, .int (x2))] [] σ) {x1 : Int32} {x2 : Int32} {σ : Mm} {r : Mm} (h : B_X5_literal_4 rc4 x1 x2 σ = some r) : Z m_X5_literal S (Qv r) 4 [(0, .ref (sL S 0 0 12)), (1, .int (x1)), (2, .int (x2))] [] σ := by
  unfold B_X5_literal_4 at h
  refine z_iload_n dX5_literal_4 rfl 2 rfl ?_
  refine z_sipush (v := 400) dX5_literal_5 (by decide) ?_
  refine z_icmp_ge (tgt := 45) dX5_literal_8 (by decide) (fun q => ?_) (fun q => ?_)
  · have h := (if_pos q).symm.trans h
    refine Z.lv [0, 1] rfl ?_
    exact zb_X5_literal_45 h
  · have h := (if_neg q).symm.trans h
    refine z_aload_n dX5_literal_11 rfl 0 rfl ?_
    obtain ⟨v, τ, hc, h⟩ := bnd_e h
    refine z_callV (M' := m_X5_kindHere) (t := 0) (i := 0) (k := 12) (As := []) (rest := []) kl_5_42 oy_X5_kindHere ⟨Nat.le_of_ble_eq_true rfl, Nat.le_of_ble_eq_true rfl⟩ rfl rfl rfl rfl (Nat.le_of_ble_eq_true rfl) rfl dX5_literal_12 (c_X5_kindHere hc) (fun v2 τ2 hq => ?_)
    obtain ⟨rfl, hτ⟩ := hq
    subst τ2
    change Z _ _ _ _ _ [.int (v)] _
    exact zb_X5_literal_15 hrc4 h
def F_X5_literal_4 : Nat → Int32 → Int32 → Mm → Option (Mm)
  | 0 => fun _ _ _ => none
  | n + 1 => B_X5_literal_4 (F_X5_literal_4 n)
theorem zl_X5_literal_4 {S : Shp} : ∀ (nn : Nat) {x1 : Int32} {x2 : Int32} {σ : Mm} {r : Mm}, F_X5_literal_4 nn x1 x2 σ = some r → Z m_X5_literal S (Qv r) 4 [(0, .ref (sL S 0 0 12)), (1, .int (x1)), (2, .int (x2))] [] σ := by
  intro nn
  induction nn with
  | zero => intro x1 x2 σ r h; cases h
  | succ nn ih => intro x1 x2 σ r h; exact zB_X5_literal_4 @ih h
def F_X5_literal (σ : Mm) : Option (Mm) := (F_X5_literal_4 FU 0 0 σ)
set_option maxRecDepth 20000 in
theorem zb_X5_literal {S : Shp} {σ : Mm} {r : Mm} (h : F_X5_literal σ = some r) : Z m_X5_literal S (Qv r) 0 [(0, .ref (sL S 0 0 12))] [] σ := by
  unfold F_X5_literal at h
  refine z_iconst (v := 0) dX5_literal_0 (by decide) ?_
  refine z_istore_n (lv' := [(0, .ref (sL S 0 0 12)), (1, .int (0))]) dX5_literal_1 rfl (by decide) [1, 0] rfl ?_
  refine z_iconst (v := 0) dX5_literal_2 (by decide) ?_
  refine z_istore_n (lv' := [(0, .ref (sL S 0 0 12)), (1, .int (0)), (2, .int (0))]) dX5_literal_3 rfl (by decide) [1, 2, 0] rfl ?_
  exact zl_X5_literal_4 FU h
/-- SkyStones$Reader.literal()V -/
theorem c_X5_literal {S : Shp} {σ : Mm} {r : Mm} (h : F_X5_literal σ = some r) : Ct m_X5_literal S [.ref (sL S 0 0 12)] σ (Qv r) := Ct.of (by decide +kernel) (Nat.le_of_ble_eq_true rfl) (zb_X5_literal h)
def F_X5_tellRule_192 (s0 : Int32) (σ : Mm) : Option (Mm) := (if okP σ = true then some (setA σ 1 (mP σ 2) 0 (upd (mA σ 1 (mP σ 2) 0) 14 ((mA σ 1 (mP σ 2) 0 14) + (1 : Int32)))) else none)
set_option maxRecDepth 20000 in
theorem zb_X5_tellRule_192 {S : Shp} {s0 : Int32} {σ : Mm} {r : Mm} (h : F_X5_tellRule_192 s0 σ = some r) : Z m_X5_tellRule S (Qv r) 192 [(0, .ref (sL S 0 0 12))] [.int (s0)] σ := by
  unfold F_X5_tellRule_192 at h
  obtain ⟨g7, h⟩ := gd h
  refine z_pop dX5_tellRule_192 rfl ?_
  refine z_aload_n dX5_tellRule_193 rfl 0 rfl ?_
  have hp := g7
  refine gf_5_38 rfl dX5_tellRule_194 ?_
  refine z_dup dX5_tellRule_197 rfl ?_
  refine gf_5_167 (lv1 (okP_2 hp) rfl) rfl dX5_tellRule_198 ?_
  refine z_iconst (v := 1) dX5_tellRule_201 (by decide) ?_
  refine z_iadd dX5_tellRule_202 ?_
  refine pf_5_167 (lv1 (okP_2 hp) rfl) rfl dX5_tellRule_203 ?_
  cases h
  exact z_return dX5_tellRule_206 rfl ⟨rfl, rfl⟩
def F_X5_tellRule_187 (σ : Mm) : Option (Mm) := (bnd (F_X5_take 4 σ) (fun v τ => (F_X5_tellRule_192 v τ)))
set_option maxRecDepth 20000 in
theorem zb_X5_tellRule_187 {S : Shp} {σ : Mm} {r : Mm} (h : F_X5_tellRule_187 σ = some r) : Z m_X5_tellRule S (Qv r) 187 [(0, .ref (sL S 0 0 12))] [] σ := by
  unfold F_X5_tellRule_187 at h
  refine z_aload_n dX5_tellRule_187 rfl 0 rfl ?_
  refine z_iconst (v := 4) dX5_tellRule_188 (by decide) ?_
  obtain ⟨v, τ, hc, h⟩ := bnd_e h
  refine z_callV (M' := m_X5_take) (t := 0) (i := 0) (k := 12) (As := [.int (4)]) (rest := []) kl_5_103 oy_X5_take ⟨Nat.le_of_ble_eq_true rfl, Nat.le_of_ble_eq_true rfl⟩ rfl rfl rfl rfl (Nat.le_of_ble_eq_true rfl) rfl dX5_tellRule_189 (c_X5_take hc) (fun v2 τ2 hq => ?_)
  obtain ⟨rfl, hτ⟩ := hq
  subst τ2
  change Z _ _ _ _ _ [.int (v)] _
  exact zb_X5_tellRule_192 h
def F_X5_tellRule_176 (x1 : Int32) (σ : Mm) : Option (Mm) := (if okP σ = true then (bnv (F_X0_close (mP σ 2) x1 σ) (fun τ => (F_X5_tellRule_187 τ))) else none)
set_option maxRecDepth 20000 in
theorem zb_X5_tellRule_176 {S : Shp} {x1 : Int32} {σ : Mm} {r : Mm} (h : F_X5_tellRule_176 x1 σ = some r) : Z m_X5_tellRule S (Qv r) 176 [(0, .ref (sL S 0 0 12)), (1, .int (x1))] [] σ := by
  unfold F_X5_tellRule_176 at h
  obtain ⟨g5, h⟩ := gd h
  refine z_aload_n dX5_tellRule_176 rfl 0 rfl ?_
  have hp := g5
  refine gf_5_38 rfl dX5_tellRule_177 ?_
  refine gf_5_152 (lv1 (okP_2 hp) rfl) rfl dX5_tellRule_180 ?_
  refine z_iload_n dX5_tellRule_183 rfl 1 rfl ?_
  obtain ⟨τ, hc, h⟩ := bnv_e h
  refine z_callV (M' := m_X0_close) (t := 1) (i := (mP σ 2)) (k := 10) (As := [.int (x1)]) (rest := []) kl_5_164 oy_X0_close ⟨Nat.le_of_ble_eq_true rfl, Nat.le_of_ble_eq_true rfl⟩ (lv1 (okP_2 hp) rfl) rfl rfl rfl (Nat.le_of_ble_eq_true rfl) rfl dX5_tellRule_184 (c_X0_close (okP_2 hp) hc) (fun v2 τ2 hq => ?_)
  obtain ⟨rfl, hτ⟩ := hq
  subst τ2
  change Z _ _ _ _ _ [] _
  refine Z.lv [0] rfl ?_
  exact zb_X5_tellRule_187 h
def F_X5_tellRule_159 (x1 : Int32) (x2 : Int32) (σ : Mm) : Option (Mm) := (if x2 = 0 then (F_X5_tellRule_176 x1 σ) else (if okP σ = true then (bnv (F_X0_put (mP σ 2) 25 0 σ) (fun τ => (F_X5_tellRule_176 x1 τ))) else none))
set_option maxRecDepth 20000 in
theorem zb_X5_tellRule_159 {S : Shp} {x1 : Int32} {x2 : Int32} {σ : Mm} {r : Mm} (h : F_X5_tellRule_159 x1 x2 σ = some r) : Z m_X5_tellRule S (Qv r) 159 [(0, .ref (sL S 0 0 12)), (1, .int (x1)), (2, .int (x2))] [] σ := by
  unfold F_X5_tellRule_159 at h
  refine z_iload_n dX5_tellRule_159 rfl 2 rfl ?_
  refine z_if_eq (tgt := 176) dX5_tellRule_160 (by decide) (fun q => ?_) (fun q => ?_)
  · have h := (if_pos q).symm.trans h
    refine Z.lv [0, 1] rfl ?_
    exact zb_X5_tellRule_176 h
  · have h := (if_neg q).symm.trans h
    obtain ⟨g4, h⟩ := gd h
    refine z_aload_n dX5_tellRule_163 rfl 0 rfl ?_
    have hp := g4
    refine gf_5_38 rfl dX5_tellRule_164 ?_
    refine gf_5_152 (lv1 (okP_2 hp) rfl) rfl dX5_tellRule_167 ?_
    refine z_bipush (v := 25) dX5_tellRule_170 (by decide) ?_
    refine z_iconst (v := 0) dX5_tellRule_172 (by decide) ?_
    obtain ⟨τ, hc, h⟩ := bnv_e h
    refine z_callV (M' := m_X0_put) (t := 1) (i := (mP σ 2)) (k := 10) (As := [.int (25), .int (0)]) (rest := []) kl_5_173 oy_X0_put ⟨Nat.le_of_ble_eq_true rfl, Nat.le_of_ble_eq_true rfl⟩ (lv1 (okP_2 hp) rfl) rfl rfl rfl (Nat.le_of_ble_eq_true rfl) rfl dX5_tellRule_173 (c_X0_put (okP_2 hp) hc) (fun v2 τ2 hq => ?_)
    obtain ⟨rfl, hτ⟩ := hq
    subst τ2
    change Z _ _ _ _ _ [] _
    refine Z.lv [0, 1] rfl ?_
    exact zb_X5_tellRule_176 h
def F_X5_tellRule_153 (rc60 : Int32 → Int32 → Int32 → Mm → Option (Mm)) (x1 : Int32) (x2 : Int32) (x3 : Int32) (σ : Mm) : Option (Mm) := (rc60 x1 x2 (x3 + 1) σ)
set_option maxRecDepth 20000 in
theorem zb_X5_tellRule_153 {S : Shp} {rc60 : Int32 → Int32 → Int32 → Mm → Option (Mm)} (hrc60 : ∀ {x1 : Int32} {x2 : Int32} {x3 : Int32} {σ : Mm} {r : Mm}, rc60 x1 x2 x3 σ = some r → Z m_X5_tellRule S (Qv r) 60 [(0, .ref (sL S 0 0 12)), (1, .int (x1)), (2, .int (x2)), (3, .int (x3))] [] σ) {x1 : Int32} {x2 : Int32} {x3 : Int32} {σ : Mm} {r : Mm} (h : F_X5_tellRule_153 rc60 x1 x2 x3 σ = some r) : Z m_X5_tellRule S (Qv r) 153 [(0, .ref (sL S 0 0 12)), (1, .int (x1)), (2, .int (x2)), (3, .int (x3))] [] σ := by
  unfold F_X5_tellRule_153 at h
  refine z_iinc (j := 3) (v := x3 + 1) (lv' := [(0, .ref (sL S 0 0 12)), (1, .int (x1)), (2, .int (x2)), (3, .int (x3 + 1))]) dX5_tellRule_153 rfl rfl (by decide) [1, 2, 3, 0] rfl ?_
  refine z_goto (tgt := 60) dX5_tellRule_156 (by decide) ?_
  exact hrc60 h
def F_X5_tellRule_147 (rc60 : Int32 → Int32 → Int32 → Mm → Option (Mm)) (x1 : Int32) (x3 : Int32) (σ : Mm) : Option (Mm) := (bnv (F_X5_literal  σ) (fun τ => (F_X5_tellRule_153 rc60 x1 1 x3 τ)))
set_option maxRecDepth 20000 in
theorem zb_X5_tellRule_147 {S : Shp} {rc60 : Int32 → Int32 → Int32 → Mm → Option (Mm)} (hrc60 : ∀ {x1 : Int32} {x2 : Int32} {x3 : Int32} {σ : Mm} {r : Mm}, rc60 x1 x2 x3 σ = some r → Z m_X5_tellRule S (Qv r) 60 [(0, .ref (sL S 0 0 12)), (1, .int (x1)), (2, .int (x2)), (3, .int (x3))] [] σ) {x1 : Int32} {x3 : Int32} {σ : Mm} {r : Mm} (h : F_X5_tellRule_147 rc60 x1 x3 σ = some r) : Z m_X5_tellRule S (Qv r) 147 [(0, .ref (sL S 0 0 12)), (1, .int (x1)), (3, .int (x3))] [] σ := by
  unfold F_X5_tellRule_147 at h
  refine z_iconst (v := 1) dX5_tellRule_147 (by decide) ?_
  refine z_istore_n (lv' := [(0, .ref (sL S 0 0 12)), (1, .int (x1)), (2, .int (1)), (3, .int (x3))]) dX5_tellRule_148 rfl (by decide) [1, 2, 0, 3] rfl ?_
  refine z_aload_n dX5_tellRule_149 rfl 0 rfl ?_
  obtain ⟨τ, hc, h⟩ := bnv_e h
  refine z_callV (M' := m_X5_literal) (t := 0) (i := 0) (k := 12) (As := []) (rest := []) kl_5_170 oy_X5_literal ⟨Nat.le_of_ble_eq_true rfl, Nat.le_of_ble_eq_true rfl⟩ rfl rfl rfl rfl (Nat.le_of_ble_eq_true rfl) rfl dX5_tellRule_150 (c_X5_literal hc) (fun v2 τ2 hq => ?_)
  obtain ⟨rfl, hτ⟩ := hq
  subst τ2
  change Z _ _ _ _ _ [] _
  exact zb_X5_tellRule_153 hrc60 h
def F_X5_tellRule_127 (rc60 : Int32 → Int32 → Int32 → Mm → Option (Mm)) (x1 : Int32) (x2 : Int32) (x3 : Int32) (s0 : Int32) (σ : Mm) : Option (Mm) := (if s0 = 0 then (F_X5_tellRule_159 x1 x2 σ) else (if x2 = 0 then (F_X5_tellRule_147 rc60 x1 x3 σ) else (if okP σ = true then (bnv (F_X0_put (mP σ 2) 25 0 σ) (fun τ => (F_X5_tellRule_147 rc60 x1 x3 τ))) else none)))
set_option maxRecDepth 20000 in
theorem zb_X5_tellRule_127 {S : Shp} {rc60 : Int32 → Int32 → Int32 → Mm → Option (Mm)} (hrc60 : ∀ {x1 : Int32} {x2 : Int32} {x3 : Int32} {σ : Mm} {r : Mm}, rc60 x1 x2 x3 σ = some r → Z m_X5_tellRule S (Qv r) 60 [(0, .ref (sL S 0 0 12)), (1, .int (x1)), (2, .int (x2)), (3, .int (x3))] [] σ) {x1 : Int32} {x2 : Int32} {x3 : Int32} {s0 : Int32} {σ : Mm} {r : Mm} (h : F_X5_tellRule_127 rc60 x1 x2 x3 s0 σ = some r) : Z m_X5_tellRule S (Qv r) 127 [(0, .ref (sL S 0 0 12)), (1, .int (x1)), (2, .int (x2)), (3, .int (x3))] [.int (s0)] σ := by
  unfold F_X5_tellRule_127 at h
  refine z_if_eq (tgt := 159) dX5_tellRule_127 (by decide) (fun q => ?_) (fun q => ?_)
  · have h := (if_pos q).symm.trans h
    refine Z.lv [0, 1, 2] rfl ?_
    exact zb_X5_tellRule_159 h
  · have h := (if_neg q).symm.trans h
    refine z_iload_n dX5_tellRule_130 rfl 2 rfl ?_
    refine z_if_eq (tgt := 147) dX5_tellRule_131 (by decide) (fun q => ?_) (fun q => ?_)
    · have h := (if_pos q).symm.trans h
      refine Z.lv [0, 1, 3] rfl ?_
      exact zb_X5_tellRule_147 hrc60 h
    · have h := (if_neg q).symm.trans h
      obtain ⟨g8, h⟩ := gd h
      refine z_aload_n dX5_tellRule_134 rfl 0 rfl ?_
      have hp := g8
      refine gf_5_38 rfl dX5_tellRule_135 ?_
      refine gf_5_152 (lv1 (okP_2 hp) rfl) rfl dX5_tellRule_138 ?_
      refine z_bipush (v := 25) dX5_tellRule_141 (by decide) ?_
      refine z_iconst (v := 0) dX5_tellRule_143 (by decide) ?_
      obtain ⟨τ, hc, h⟩ := bnv_e h
      refine z_callV (M' := m_X0_put) (t := 1) (i := (mP σ 2)) (k := 10) (As := [.int (25), .int (0)]) (rest := []) kl_5_173 oy_X0_put ⟨Nat.le_of_ble_eq_true rfl, Nat.le_of_ble_eq_true rfl⟩ (lv1 (okP_2 hp) rfl) rfl rfl rfl (Nat.le_of_ble_eq_true rfl) rfl dX5_tellRule_144 (c_X0_put (okP_2 hp) hc) (fun v2 τ2 hq => ?_)
      obtain ⟨rfl, hτ⟩ := hq
      subst τ2
      change Z _ _ _ _ _ [] _
      refine Z.lv [0, 1, 3] rfl ?_
      exact zb_X5_tellRule_147 hrc60 h
def F_X5_tellRule_116 (rc60 : Int32 → Int32 → Int32 → Mm → Option (Mm)) (x1 : Int32) (x2 : Int32) (x3 : Int32) (s0 : Int32) (σ : Mm) : Option (Mm) := (if s0 = (25 : Int32) then (bnd (F_X5_take 25 σ) (fun v τ => (F_X5_tellRule_127 rc60 x1 x2 x3 v τ))) else (F_X5_tellRule_159 x1 x2 σ))
set_option maxRecDepth 20000 in
theorem zb_X5_tellRule_116 {S : Shp} {rc60 : Int32 → Int32 → Int32 → Mm → Option (Mm)} (hrc60 : ∀ {x1 : Int32} {x2 : Int32} {x3 : Int32} {σ : Mm} {r : Mm}, rc60 x1 x2 x3 σ = some r → Z m_X5_tellRule S (Qv r) 60 [(0, .ref (sL S 0 0 12)), (1, .int (x1)), (2, .int (x2)), (3, .int (x3))] [] σ) {x1 : Int32} {x2 : Int32} {x3 : Int32} {s0 : Int32} {σ : Mm} {r : Mm} (h : F_X5_tellRule_116 rc60 x1 x2 x3 s0 σ = some r) : Z m_X5_tellRule S (Qv r) 116 [(0, .ref (sL S 0 0 12)), (1, .int (x1)), (2, .int (x2)), (3, .int (x3))] [.int (s0)] σ := by
  unfold F_X5_tellRule_116 at h
  refine z_bipush (v := 25) dX5_tellRule_116 (by decide) ?_
  refine z_icmp_ne (tgt := 159) dX5_tellRule_118 (by decide) (fun q => ?_) (fun q => ?_)
  · have h := (if_neg q).symm.trans h
    refine Z.lv [0, 1, 2] rfl ?_
    exact zb_X5_tellRule_159 h
  · have h := (if_pos q).symm.trans h
    refine z_aload_n dX5_tellRule_121 rfl 0 rfl ?_
    refine z_bipush (v := 25) dX5_tellRule_122 (by decide) ?_
    obtain ⟨v, τ, hc, h⟩ := bnd_e h
    refine z_callV (M' := m_X5_take) (t := 0) (i := 0) (k := 12) (As := [.int (25)]) (rest := []) kl_5_103 oy_X5_take ⟨Nat.le_of_ble_eq_true rfl, Nat.le_of_ble_eq_true rfl⟩ rfl rfl rfl rfl (Nat.le_of_ble_eq_true rfl) rfl dX5_tellRule_124 (c_X5_take hc) (fun v2 τ2 hq => ?_)
    obtain ⟨rfl, hτ⟩ := hq
    subst τ2
    change Z _ _ _ _ _ [.int (v)] _
    exact zb_X5_tellRule_127 hrc60 h
def F_X5_tellRule_112 (rc60 : Int32 → Int32 → Int32 → Mm → Option (Mm)) (x1 : Int32) (x2 : Int32) (x3 : Int32) (σ : Mm) : Option (Mm) := (bnd (F_X5_kindHere  σ) (fun v τ => (F_X5_tellRule_116 rc60 x1 x2 x3 v τ)))
set_option maxRecDepth 20000 in
theorem zb_X5_tellRule_112 {S : Shp} {rc60 : Int32 → Int32 → Int32 → Mm → Option (Mm)} (hrc60 : ∀ {x1 : Int32} {x2 : Int32} {x3 : Int32} {σ : Mm} {r : Mm}, rc60 x1 x2 x3 σ = some r → Z m_X5_tellRule S (Qv r) 60 [(0, .ref (sL S 0 0 12)), (1, .int (x1)), (2, .int (x2)), (3, .int (x3))] [] σ) {x1 : Int32} {x2 : Int32} {x3 : Int32} {σ : Mm} {r : Mm} (h : F_X5_tellRule_112 rc60 x1 x2 x3 σ = some r) : Z m_X5_tellRule S (Qv r) 112 [(0, .ref (sL S 0 0 12)), (1, .int (x1)), (2, .int (x2)), (3, .int (x3))] [] σ := by
  unfold F_X5_tellRule_112 at h
  refine z_aload_n dX5_tellRule_112 rfl 0 rfl ?_
  obtain ⟨v, τ, hc, h⟩ := bnd_e h
  refine z_callV (M' := m_X5_kindHere) (t := 0) (i := 0) (k := 12) (As := []) (rest := []) kl_5_42 oy_X5_kindHere ⟨Nat.le_of_ble_eq_true rfl, Nat.le_of_ble_eq_true rfl⟩ rfl rfl rfl rfl (Nat.le_of_ble_eq_true rfl) rfl dX5_tellRule_113 (c_X5_kindHere hc) (fun v2 τ2 hq => ?_)
  obtain ⟨rfl, hτ⟩ := hq
  subst τ2
  change Z _ _ _ _ _ [.int (v)] _
  exact zb_X5_tellRule_116 hrc60 h
def F_X5_tellRule_109 (rc60 : Int32 → Int32 → Int32 → Mm → Option (Mm)) (x1 : Int32) (x2 : Int32) (x3 : Int32) (σ : Mm) : Option (Mm) := (F_X5_tellRule_153 rc60 x1 x2 x3 σ)
set_option maxRecDepth 20000 in
theorem zb_X5_tellRule_109 {S : Shp} {rc60 : Int32 → Int32 → Int32 → Mm → Option (Mm)} (hrc60 : ∀ {x1 : Int32} {x2 : Int32} {x3 : Int32} {σ : Mm} {r : Mm}, rc60 x1 x2 x3 σ = some r → Z m_X5_tellRule S (Qv r) 60 [(0, .ref (sL S 0 0 12)), (1, .int (x1)), (2, .int (x2)), (3, .int (x3))] [] σ) {x1 : Int32} {x2 : Int32} {x3 : Int32} {σ : Mm} {r : Mm} (h : F_X5_tellRule_109 rc60 x1 x2 x3 σ = some r) : Z m_X5_tellRule S (Qv r) 109 [(0, .ref (sL S 0 0 12)), (1, .int (x1)), (2, .int (x2)), (3, .int (x3))] [] σ := by
  unfold F_X5_tellRule_109 at h
  refine z_goto (tgt := 153) dX5_tellRule_109 (by decide) ?_
  exact zb_X5_tellRule_153 hrc60 h
def F_X5_tellRule_96 (rc60 : Int32 → Int32 → Int32 → Mm → Option (Mm)) (x1 : Int32) (x2 : Int32) (x3 : Int32) (σ : Mm) : Option (Mm) := (if okP σ = true then (bnv (F_X0_put (mP σ 2) 26 0 σ) (fun τ => (F_X5_tellRule_109 rc60 x1 x2 x3 τ))) else none)
set_option maxRecDepth 20000 in
theorem zb_X5_tellRule_96 {S : Shp} {rc60 : Int32 → Int32 → Int32 → Mm → Option (Mm)} (hrc60 : ∀ {x1 : Int32} {x2 : Int32} {x3 : Int32} {σ : Mm} {r : Mm}, rc60 x1 x2 x3 σ = some r → Z m_X5_tellRule S (Qv r) 60 [(0, .ref (sL S 0 0 12)), (1, .int (x1)), (2, .int (x2)), (3, .int (x3))] [] σ) {x1 : Int32} {x2 : Int32} {x3 : Int32} {σ : Mm} {r : Mm} (h : F_X5_tellRule_96 rc60 x1 x2 x3 σ = some r) : Z m_X5_tellRule S (Qv r) 96 [(0, .ref (sL S 0 0 12)), (1, .int (x1)), (2, .int (x2)), (3, .int (x3))] [] σ := by
  unfold F_X5_tellRule_96 at h
  obtain ⟨g6, h⟩ := gd h
  refine z_aload_n dX5_tellRule_96 rfl 0 rfl ?_
  have hp := g6
  refine gf_5_38 rfl dX5_tellRule_97 ?_
  refine gf_5_152 (lv1 (okP_2 hp) rfl) rfl dX5_tellRule_100 ?_
  refine z_bipush (v := 26) dX5_tellRule_103 (by decide) ?_
  refine z_iconst (v := 0) dX5_tellRule_105 (by decide) ?_
  obtain ⟨τ, hc, h⟩ := bnv_e h
  refine z_callV (M' := m_X0_put) (t := 1) (i := (mP σ 2)) (k := 10) (As := [.int (26), .int (0)]) (rest := []) kl_5_173 oy_X0_put ⟨Nat.le_of_ble_eq_true rfl, Nat.le_of_ble_eq_true rfl⟩ (lv1 (okP_2 hp) rfl) rfl rfl rfl (Nat.le_of_ble_eq_true rfl) rfl dX5_tellRule_106 (c_X0_put (okP_2 hp) hc) (fun v2 τ2 hq => ?_)
  obtain ⟨rfl, hτ⟩ := hq
  subst τ2
  change Z _ _ _ _ _ [] _
  exact zb_X5_tellRule_109 hrc60 h
def F_X5_tellRule_89 (rc60 : Int32 → Int32 → Int32 → Mm → Option (Mm)) (x1 : Int32) (x2 : Int32) (x3 : Int32) (s0 : Int32) (σ : Mm) : Option (Mm) := (if s0 = 0 then (F_X5_tellRule_112 rc60 x1 x2 x3 σ) else (bnv (F_X5_literal  σ) (fun τ => (F_X5_tellRule_96 rc60 x1 x2 x3 τ))))
set_option maxRecDepth 20000 in
theorem zb_X5_tellRule_89 {S : Shp} {rc60 : Int32 → Int32 → Int32 → Mm → Option (Mm)} (hrc60 : ∀ {x1 : Int32} {x2 : Int32} {x3 : Int32} {σ : Mm} {r : Mm}, rc60 x1 x2 x3 σ = some r → Z m_X5_tellRule S (Qv r) 60 [(0, .ref (sL S 0 0 12)), (1, .int (x1)), (2, .int (x2)), (3, .int (x3))] [] σ) {x1 : Int32} {x2 : Int32} {x3 : Int32} {s0 : Int32} {σ : Mm} {r : Mm} (h : F_X5_tellRule_89 rc60 x1 x2 x3 s0 σ = some r) : Z m_X5_tellRule S (Qv r) 89 [(0, .ref (sL S 0 0 12)), (1, .int (x1)), (2, .int (x2)), (3, .int (x3))] [.int (s0)] σ := by
  unfold F_X5_tellRule_89 at h
  refine z_if_eq (tgt := 112) dX5_tellRule_89 (by decide) (fun q => ?_) (fun q => ?_)
  · have h := (if_pos q).symm.trans h
    exact zb_X5_tellRule_112 hrc60 h
  · have h := (if_neg q).symm.trans h
    refine z_aload_n dX5_tellRule_92 rfl 0 rfl ?_
    obtain ⟨τ, hc, h⟩ := bnv_e h
    refine z_callV (M' := m_X5_literal) (t := 0) (i := 0) (k := 12) (As := []) (rest := []) kl_5_170 oy_X5_literal ⟨Nat.le_of_ble_eq_true rfl, Nat.le_of_ble_eq_true rfl⟩ rfl rfl rfl rfl (Nat.le_of_ble_eq_true rfl) rfl dX5_tellRule_93 (c_X5_literal hc) (fun v2 τ2 hq => ?_)
    obtain ⟨rfl, hτ⟩ := hq
    subst τ2
    change Z _ _ _ _ _ [] _
    exact zb_X5_tellRule_96 hrc60 h
def F_X5_tellRule_78 (rc60 : Int32 → Int32 → Int32 → Mm → Option (Mm)) (x1 : Int32) (x2 : Int32) (x3 : Int32) (s0 : Int32) (σ : Mm) : Option (Mm) := (if s0 = (26 : Int32) then (bnd (F_X5_take 26 σ) (fun v τ => (F_X5_tellRule_89 rc60 x1 x2 x3 v τ))) else (F_X5_tellRule_112 rc60 x1 x2 x3 σ))
set_option maxRecDepth 20000 in
theorem zb_X5_tellRule_78 {S : Shp} {rc60 : Int32 → Int32 → Int32 → Mm → Option (Mm)} (hrc60 : ∀ {x1 : Int32} {x2 : Int32} {x3 : Int32} {σ : Mm} {r : Mm}, rc60 x1 x2 x3 σ = some r → Z m_X5_tellRule S (Qv r) 60 [(0, .ref (sL S 0 0 12)), (1, .int (x1)), (2, .int (x2)), (3, .int (x3))] [] σ) {x1 : Int32} {x2 : Int32} {x3 : Int32} {s0 : Int32} {σ : Mm} {r : Mm} (h : F_X5_tellRule_78 rc60 x1 x2 x3 s0 σ = some r) : Z m_X5_tellRule S (Qv r) 78 [(0, .ref (sL S 0 0 12)), (1, .int (x1)), (2, .int (x2)), (3, .int (x3))] [.int (s0)] σ := by
  unfold F_X5_tellRule_78 at h
  refine z_bipush (v := 26) dX5_tellRule_78 (by decide) ?_
  refine z_icmp_ne (tgt := 112) dX5_tellRule_80 (by decide) (fun q => ?_) (fun q => ?_)
  · have h := (if_neg q).symm.trans h
    exact zb_X5_tellRule_112 hrc60 h
  · have h := (if_pos q).symm.trans h
    refine z_aload_n dX5_tellRule_83 rfl 0 rfl ?_
    refine z_bipush (v := 26) dX5_tellRule_84 (by decide) ?_
    obtain ⟨v, τ, hc, h⟩ := bnd_e h
    refine z_callV (M' := m_X5_take) (t := 0) (i := 0) (k := 12) (As := [.int (26)]) (rest := []) kl_5_103 oy_X5_take ⟨Nat.le_of_ble_eq_true rfl, Nat.le_of_ble_eq_true rfl⟩ rfl rfl rfl rfl (Nat.le_of_ble_eq_true rfl) rfl dX5_tellRule_86 (c_X5_take hc) (fun v2 τ2 hq => ?_)
    obtain ⟨rfl, hτ⟩ := hq
    subst τ2
    change Z _ _ _ _ _ [.int (v)] _
    exact zb_X5_tellRule_89 hrc60 h
def B_X5_tellRule_60 (rc60 : Int32 → Int32 → Int32 → Mm → Option (Mm)) (x1 : Int32) (x2 : Int32) (x3 : Int32) (σ : Mm) : Option (Mm) := (if (400 : Int32) ≤ x3 then (F_X5_tellRule_159 x1 x2 σ) else (if (mA σ 0 0 12 0) = 0 then (bnd (F_X5_kindHere  σ) (fun v τ => (F_X5_tellRule_78 rc60 x1 x2 x3 v τ))) else (F_X5_tellRule_159 x1 x2 σ)))
set_option maxRecDepth 20000 in
theorem zB_X5_tellRule_60 {S : Shp} {rc60 : Int32 → Int32 → Int32 → Mm → Option (Mm)} (hrc60 : ∀ {x1 : Int32} {x2 : Int32} {x3 : Int32} {σ : Mm} {r : Mm}, rc60 x1 x2 x3 σ = some r → Z m_X5_tellRule S (Qv r) 60 [(0, .ref (sL S 0 0 12)), (1, .int (x1)), (2, .int (x2)), (3, .int (x3))] [] σ) {x1 : Int32} {x2 : Int32} {x3 : Int32} {σ : Mm} {r : Mm} (h : B_X5_tellRule_60 rc60 x1 x2 x3 σ = some r) : Z m_X5_tellRule S (Qv r) 60 [(0, .ref (sL S 0 0 12)), (1, .int (x1)), (2, .int (x2)), (3, .int (x3))] [] σ := by
  unfold B_X5_tellRule_60 at h
  refine z_iload_n dX5_tellRule_60 rfl 3 rfl ?_
  refine z_sipush (v := 400) dX5_tellRule_61 (by decide) ?_
  refine z_icmp_ge (tgt := 159) dX5_tellRule_64 (by decide) (fun q => ?_) (fun q => ?_)
  · have h := (if_pos q).symm.trans h
    refine Z.lv [0, 1, 2] rfl ?_
    exact zb_X5_tellRule_159 h
  · have h := (if_neg q).symm.trans h
    refine z_aload_n dX5_tellRule_67 rfl 0 rfl ?_
    refine gf_5_9 rfl dX5_tellRule_68 ?_
    refine z_if_ne (tgt := 159) dX5_tellRule_71 (by decide) (fun q => ?_) (fun q => ?_)
    · have h := (if_neg q).symm.trans h
      refine Z.lv [0, 1, 2] rfl ?_
      exact zb_X5_tellRule_159 h
    · have h := (if_pos q).symm.trans h
      refine z_aload_n dX5_tellRule_74 rfl 0 rfl ?_
      obtain ⟨v, τ, hc, h⟩ := bnd_e h
      refine z_callV (M' := m_X5_kindHere) (t := 0) (i := 0) (k := 12) (As := []) (rest := []) kl_5_42 oy_X5_kindHere ⟨Nat.le_of_ble_eq_true rfl, Nat.le_of_ble_eq_true rfl⟩ rfl rfl rfl rfl (Nat.le_of_ble_eq_true rfl) rfl dX5_tellRule_75 (c_X5_kindHere hc) (fun v2 τ2 hq => ?_)
      obtain ⟨rfl, hτ⟩ := hq
      subst τ2
      change Z _ _ _ _ _ [.int (v)] _
      exact zb_X5_tellRule_78 hrc60 h
def F_X5_tellRule_60 : Nat → Int32 → Int32 → Int32 → Mm → Option (Mm)
  | 0 => fun _ _ _ _ => none
  | n + 1 => B_X5_tellRule_60 (F_X5_tellRule_60 n)
theorem zl_X5_tellRule_60 {S : Shp} : ∀ (nn : Nat) {x1 : Int32} {x2 : Int32} {x3 : Int32} {σ : Mm} {r : Mm}, F_X5_tellRule_60 nn x1 x2 x3 σ = some r → Z m_X5_tellRule S (Qv r) 60 [(0, .ref (sL S 0 0 12)), (1, .int (x1)), (2, .int (x2)), (3, .int (x3))] [] σ := by
  intro nn
  induction nn with
  | zero => intro x1 x2 x3 σ r h; cases h
  | succ nn ih => intro x1 x2 x3 σ r h; exact zB_X5_tellRule_60 @ih h
def F_X5_tellRule_56 (x1 : Int32) (σ : Mm) : Option (Mm) := (F_X5_tellRule_60 FU x1 0 0 σ)
set_option maxRecDepth 20000 in
theorem zb_X5_tellRule_56 {S : Shp} {x1 : Int32} {σ : Mm} {r : Mm} (h : F_X5_tellRule_56 x1 σ = some r) : Z m_X5_tellRule S (Qv r) 56 [(0, .ref (sL S 0 0 12)), (1, .int (x1))] [] σ := by
  unfold F_X5_tellRule_56 at h
  refine z_iconst (v := 0) dX5_tellRule_56 (by decide) ?_
  refine z_istore_n (lv' := [(0, .ref (sL S 0 0 12)), (1, .int (x1)), (2, .int (0))]) dX5_tellRule_57 rfl (by decide) [1, 2, 0] rfl ?_
  refine z_iconst (v := 0) dX5_tellRule_58 (by decide) ?_
  refine z_istore_n (lv' := [(0, .ref (sL S 0 0 12)), (1, .int (x1)), (2, .int (0)), (3, .int (0))]) dX5_tellRule_59 rfl (by decide) [1, 2, 3, 0] rfl ?_
  exact zl_X5_tellRule_60 FU h
def F_X5_tellRule_52 (x1 : Int32) (σ : Mm) : Option (Mm) := (bnv (F_X5_literal  σ) (fun τ => (F_X5_tellRule_56 x1 τ)))
set_option maxRecDepth 20000 in
theorem zb_X5_tellRule_52 {S : Shp} {x1 : Int32} {σ : Mm} {r : Mm} (h : F_X5_tellRule_52 x1 σ = some r) : Z m_X5_tellRule S (Qv r) 52 [(0, .ref (sL S 0 0 12)), (1, .int (x1))] [] σ := by
  unfold F_X5_tellRule_52 at h
  refine z_aload_n dX5_tellRule_52 rfl 0 rfl ?_
  obtain ⟨τ, hc, h⟩ := bnv_e h
  refine z_callV (M' := m_X5_literal) (t := 0) (i := 0) (k := 12) (As := []) (rest := []) kl_5_170 oy_X5_literal ⟨Nat.le_of_ble_eq_true rfl, Nat.le_of_ble_eq_true rfl⟩ rfl rfl rfl rfl (Nat.le_of_ble_eq_true rfl) rfl dX5_tellRule_53 (c_X5_literal hc) (fun v2 τ2 hq => ?_)
  obtain ⟨rfl, hτ⟩ := hq
  subst τ2
  change Z _ _ _ _ _ [] _
  exact zb_X5_tellRule_56 h
def F_X5_tellRule_40 (x1 : Int32) (s0 : Int32) (σ : Mm) : Option (Mm) := (if okP σ = true then (bnv (F_X0_open (mP σ 2) x1 σ) (fun τ => (F_X5_tellRule_52 x1 τ))) else none)
set_option maxRecDepth 20000 in
theorem zb_X5_tellRule_40 {S : Shp} {x1 : Int32} {s0 : Int32} {σ : Mm} {r : Mm} (h : F_X5_tellRule_40 x1 s0 σ = some r) : Z m_X5_tellRule S (Qv r) 40 [(0, .ref (sL S 0 0 12)), (1, .int (x1))] [.int (s0)] σ := by
  unfold F_X5_tellRule_40 at h
  obtain ⟨g3, h⟩ := gd h
  refine z_pop dX5_tellRule_40 rfl ?_
  refine z_aload_n dX5_tellRule_41 rfl 0 rfl ?_
  have hp := g3
  refine gf_5_38 rfl dX5_tellRule_42 ?_
  refine gf_5_152 (lv1 (okP_2 hp) rfl) rfl dX5_tellRule_45 ?_
  refine z_iload_n dX5_tellRule_48 rfl 1 rfl ?_
  obtain ⟨τ, hc, h⟩ := bnv_e h
  refine z_callV (M' := m_X0_open) (t := 1) (i := (mP σ 2)) (k := 10) (As := [.int (x1)]) (rest := []) kl_5_156 oy_X0_open ⟨Nat.le_of_ble_eq_true rfl, Nat.le_of_ble_eq_true rfl⟩ (lv1 (okP_2 hp) rfl) rfl rfl rfl (Nat.le_of_ble_eq_true rfl) rfl dX5_tellRule_49 (c_X0_open (okP_2 hp) hc) (fun v2 τ2 hq => ?_)
  obtain ⟨rfl, hτ⟩ := hq
  subst τ2
  change Z _ _ _ _ _ [] _
  exact zb_X5_tellRule_52 h
def F_X5_tellRule_33 (x1 : Int32) (s0 : Int32) (σ : Mm) : Option (Mm) := (bnd (F_X5_take 24 σ) (fun v τ => (F_X5_tellRule_40 x1 v τ)))
set_option maxRecDepth 20000 in
theorem zb_X5_tellRule_33 {S : Shp} {x1 : Int32} {s0 : Int32} {σ : Mm} {r : Mm} (h : F_X5_tellRule_33 x1 s0 σ = some r) : Z m_X5_tellRule S (Qv r) 33 [(0, .ref (sL S 0 0 12)), (1, .int (x1))] [.int (s0)] σ := by
  unfold F_X5_tellRule_33 at h
  refine z_pop dX5_tellRule_33 rfl ?_
  refine z_aload_n dX5_tellRule_34 rfl 0 rfl ?_
  refine z_bipush (v := 24) dX5_tellRule_35 (by decide) ?_
  obtain ⟨v, τ, hc, h⟩ := bnd_e h
  refine z_callV (M' := m_X5_take) (t := 0) (i := 0) (k := 12) (As := [.int (24)]) (rest := []) kl_5_103 oy_X5_take ⟨Nat.le_of_ble_eq_true rfl, Nat.le_of_ble_eq_true rfl⟩ rfl rfl rfl rfl (Nat.le_of_ble_eq_true rfl) rfl dX5_tellRule_37 (c_X5_take hc) (fun v2 τ2 hq => ?_)
  obtain ⟨rfl, hτ⟩ := hq
  subst τ2
  change Z _ _ _ _ _ [.int (v)] _
  exact zb_X5_tellRule_40 h
def F_X5_tellRule_27 (x1 : Int32) (σ : Mm) : Option (Mm) := (bnd (F_X5_take 23 σ) (fun v τ => (F_X5_tellRule_33 x1 v τ)))
set_option maxRecDepth 20000 in
theorem zb_X5_tellRule_27 {S : Shp} {x1 : Int32} {σ : Mm} {r : Mm} (h : F_X5_tellRule_27 x1 σ = some r) : Z m_X5_tellRule S (Qv r) 27 [(0, .ref (sL S 0 0 12)), (1, .int (x1))] [] σ := by
  unfold F_X5_tellRule_27 at h
  refine z_aload_n dX5_tellRule_27 rfl 0 rfl ?_
  refine z_bipush (v := 23) dX5_tellRule_28 (by decide) ?_
  obtain ⟨v, τ, hc, h⟩ := bnd_e h
  refine z_callV (M' := m_X5_take) (t := 0) (i := 0) (k := 12) (As := [.int (23)]) (rest := []) kl_5_103 oy_X5_take ⟨Nat.le_of_ble_eq_true rfl, Nat.le_of_ble_eq_true rfl⟩ rfl rfl rfl rfl (Nat.le_of_ble_eq_true rfl) rfl dX5_tellRule_30 (c_X5_take hc) (fun v2 τ2 hq => ?_)
  obtain ⟨rfl, hτ⟩ := hq
  subst τ2
  change Z _ _ _ _ _ [.int (v)] _
  exact zb_X5_tellRule_33 h
def F_X5_tellRule_13 (s0 : Int32) (σ : Mm) : Option (Mm) := (if s0 = 0 then some (σ) else (if okP σ = true then (F_X5_tellRule_27 ((5 : Int32) + (mA σ 1 (mP σ 2) 0 14)) σ) else none))
set_option maxRecDepth 20000 in
theorem zb_X5_tellRule_13 {S : Shp} {s0 : Int32} {σ : Mm} {r : Mm} (h : F_X5_tellRule_13 s0 σ = some r) : Z m_X5_tellRule S (Qv r) 13 [(0, .ref (sL S 0 0 12))] [.int (s0)] σ := by
  unfold F_X5_tellRule_13 at h
  refine z_if_ne (tgt := 17) dX5_tellRule_13 (by decide) (fun q => ?_) (fun q => ?_)
  · have h := (if_neg q).symm.trans h
    obtain ⟨g2, h⟩ := gd h
    refine z_iconst (v := 5) dX5_tellRule_17 (by decide) ?_
    refine z_aload_n dX5_tellRule_18 rfl 0 rfl ?_
    have hp := g2
    refine gf_5_38 rfl dX5_tellRule_19 ?_
    refine gf_5_167 (lv1 (okP_2 hp) rfl) rfl dX5_tellRule_22 ?_
    refine z_iadd dX5_tellRule_25 ?_
    refine z_istore_n (lv' := [(0, .ref (sL S 0 0 12)), (1, .int ((5 : Int32) + (mA σ 1 (mP σ 2) 0 14)))]) dX5_tellRule_26 rfl (by decide) [1, 0] rfl ?_
    exact zb_X5_tellRule_27 h
  · have h := (if_pos q).symm.trans h
    cases h
    exact z_return dX5_tellRule_16 rfl ⟨rfl, rfl⟩
def F_X5_tellRule (σ : Mm) : Option (Mm) := (if okP σ = true then (bnd (F_X5_hasRoom (mA σ 1 (mP σ 2) 0 14) 6 σ) (fun v τ => (F_X5_tellRule_13 v τ))) else none)
set_option maxRecDepth 20000 in
theorem zb_X5_tellRule {S : Shp} {σ : Mm} {r : Mm} (h : F_X5_tellRule σ = some r) : Z m_X5_tellRule S (Qv r) 0 [(0, .ref (sL S 0 0 12))] [] σ := by
  unfold F_X5_tellRule at h
  obtain ⟨g1, h⟩ := gd h
  refine z_aload_n dX5_tellRule_0 rfl 0 rfl ?_
  refine z_aload_n dX5_tellRule_1 rfl 0 rfl ?_
  have hp := g1
  refine gf_5_38 rfl dX5_tellRule_2 ?_
  refine gf_5_167 (lv1 (okP_2 hp) rfl) rfl dX5_tellRule_5 ?_
  refine z_bipush (v := 6) dX5_tellRule_8 (by decide) ?_
  obtain ⟨v, τ, hc, h⟩ := bnd_e h
  refine z_callV (M' := m_X5_hasRoom) (t := 0) (i := 0) (k := 12) (As := [.int (mA σ 1 (mP σ 2) 0 14), .int (6)]) (rest := []) kl_5_99 oy_X5_hasRoom ⟨Nat.le_of_ble_eq_true rfl, Nat.le_of_ble_eq_true rfl⟩ rfl rfl rfl rfl (Nat.le_of_ble_eq_true rfl) rfl dX5_tellRule_10 (c_X5_hasRoom hc) (fun v2 τ2 hq => ?_)
  obtain ⟨rfl, hτ⟩ := hq
  subst τ2
  change Z _ _ _ _ _ [.int (v)] _
  exact zb_X5_tellRule_13 h
/-- SkyStones$Reader.tellRule()V -/
theorem c_X5_tellRule {S : Shp} {σ : Mm} {r : Mm} (h : F_X5_tellRule σ = some r) : Ct m_X5_tellRule S [.ref (sL S 0 0 12)] σ (Qv r) := Ct.of (by decide +kernel) (Nat.le_of_ble_eq_true rfl) (zb_X5_tellRule h)
def F_X5_blameIfNamed_64 (rc25 : Int32 → Int32 → Int32 → Mm → Option (Mm)) (x1 : Int32) (x3 : Int32) (s0 : Int32) (σ : Mm) : Option (Mm) := (rc25 x1 s0 (x3 + 1) σ)
set_option maxRecDepth 20000 in
theorem zb_X5_blameIfNamed_64 {S : Shp} {rc25 : Int32 → Int32 → Int32 → Mm → Option (Mm)} (hrc25 : ∀ {x1 : Int32} {x2 : Int32} {x3 : Int32} {σ : Mm} {r : Mm}, rc25 x1 x2 x3 σ = some r → Z m_X5_blameIfNamed S (Qv r) 25 [(0, .ref (sL S 0 0 12)), (1, .int (x1)), (2, .int (x2)), (3, .int (x3))] [] σ) {x1 : Int32} {x3 : Int32} {s0 : Int32} {σ : Mm} {r : Mm} (h : F_X5_blameIfNamed_64 rc25 x1 x3 s0 σ = some r) : Z m_X5_blameIfNamed S (Qv r) 64 [(0, .ref (sL S 0 0 12)), (1, .int (x1)), (3, .int (x3))] [.int (s0)] σ := by
  unfold F_X5_blameIfNamed_64 at h
  refine z_istore_n (lv' := [(0, .ref (sL S 0 0 12)), (1, .int (x1)), (2, .int (s0)), (3, .int (x3))]) dX5_blameIfNamed_64 rfl (by decide) [1, 2, 0, 3] rfl ?_
  refine z_iinc (j := 3) (v := x3 + 1) (lv' := [(0, .ref (sL S 0 0 12)), (1, .int (x1)), (2, .int (s0)), (3, .int (x3 + 1))]) dX5_blameIfNamed_65 rfl rfl (by decide) [1, 2, 3, 0] rfl ?_
  refine z_goto (tgt := 25) dX5_blameIfNamed_68 (by decide) ?_
  exact hrc25 h
def F_X5_blameIfNamed_59 (rc25 : Int32 → Int32 → Int32 → Mm → Option (Mm)) (x1 : Int32) (x3 : Int32) (σ : Mm) : Option (Mm) := (F_X5_blameIfNamed_64 rc25 x1 x3 1 σ)
set_option maxRecDepth 20000 in
theorem zb_X5_blameIfNamed_59 {S : Shp} {rc25 : Int32 → Int32 → Int32 → Mm → Option (Mm)} (hrc25 : ∀ {x1 : Int32} {x2 : Int32} {x3 : Int32} {σ : Mm} {r : Mm}, rc25 x1 x2 x3 σ = some r → Z m_X5_blameIfNamed S (Qv r) 25 [(0, .ref (sL S 0 0 12)), (1, .int (x1)), (2, .int (x2)), (3, .int (x3))] [] σ) {x1 : Int32} {x3 : Int32} {σ : Mm} {r : Mm} (h : F_X5_blameIfNamed_59 rc25 x1 x3 σ = some r) : Z m_X5_blameIfNamed S (Qv r) 59 [(0, .ref (sL S 0 0 12)), (1, .int (x1)), (3, .int (x3))] [] σ := by
  unfold F_X5_blameIfNamed_59 at h
  refine z_iconst (v := 1) dX5_blameIfNamed_59 (by decide) ?_
  refine z_goto (tgt := 64) dX5_blameIfNamed_60 (by decide) ?_
  exact zb_X5_blameIfNamed_64 hrc25 h
def B_X5_blameIfNamed_25 (rc25 : Int32 → Int32 → Int32 → Mm → Option (Mm)) (x1 : Int32) (x2 : Int32) (x3 : Int32) (σ : Mm) : Option (Mm) := (if okP σ = true then (if (mA σ 1 (mP σ 2) 0 12) ≤ x3 then (if x2 = 0 then some (σ) else (bnv (F_X5_blame 3 x1 σ) (fun τ => some (τ)))) else (if x2 = 0 then (if inb x3 5 = true then (if inb x1 402 = true then (if (lg_cmp (mL σ 0 0 14 x3.toNatClampNeg) (mL σ 0 0 11 x1.toNatClampNeg)) = 0 then (F_X5_blameIfNamed_59 rc25 x1 x3 σ) else (F_X5_blameIfNamed_64 rc25 x1 x3 0 σ)) else none) else none) else (F_X5_blameIfNamed_59 rc25 x1 x3 σ))) else none)
set_option maxRecDepth 20000 in
theorem zB_X5_blameIfNamed_25 {S : Shp} {rc25 : Int32 → Int32 → Int32 → Mm → Option (Mm)} (hrc25 : ∀ {x1 : Int32} {x2 : Int32} {x3 : Int32} {σ : Mm} {r : Mm}, rc25 x1 x2 x3 σ = some r → Z m_X5_blameIfNamed S (Qv r) 25 [(0, .ref (sL S 0 0 12)), (1, .int (x1)), (2, .int (x2)), (3, .int (x3))] [] σ) {x1 : Int32} {x2 : Int32} {x3 : Int32} {σ : Mm} {r : Mm} (h : B_X5_blameIfNamed_25 rc25 x1 x2 x3 σ = some r) : Z m_X5_blameIfNamed S (Qv r) 25 [(0, .ref (sL S 0 0 12)), (1, .int (x1)), (2, .int (x2)), (3, .int (x3))] [] σ := by
  unfold B_X5_blameIfNamed_25 at h
  obtain ⟨g2, h⟩ := gd h
  refine z_iload_n dX5_blameIfNamed_25 rfl 3 rfl ?_
  refine z_aload_n dX5_blameIfNamed_26 rfl 0 rfl ?_
  have hp := g2
  refine gf_5_38 rfl dX5_blameIfNamed_27 ?_
  refine gf_5_96 (lv1 (okP_2 hp) rfl) rfl dX5_blameIfNamed_30 ?_
  refine z_icmp_ge (tgt := 71) dX5_blameIfNamed_33 (by decide) (fun q => ?_) (fun q => ?_)
  · have h := (if_pos q).symm.trans h
    refine z_iload_n dX5_blameIfNamed_71 rfl 2 rfl ?_
    refine z_if_eq (tgt := 81) dX5_blameIfNamed_72 (by decide) (fun q => ?_) (fun q => ?_)
    · have h := (if_pos q).symm.trans h
      cases h
      exact z_return dX5_blameIfNamed_81 rfl ⟨rfl, rfl⟩
    · have h := (if_neg q).symm.trans h
      refine z_aload_n dX5_blameIfNamed_75 rfl 0 rfl ?_
      refine z_iconst (v := 3) dX5_blameIfNamed_76 (by decide) ?_
      refine z_iload_n dX5_blameIfNamed_77 rfl 1 rfl ?_
      obtain ⟨τ, hc, h⟩ := bnv_e h
      refine z_callV (M' := m_X5_blame) (t := 0) (i := 0) (k := 12) (As := [.int (3), .int (x1)]) (rest := []) kl_5_80 oy_X5_blame ⟨Nat.le_of_ble_eq_true rfl, Nat.le_of_ble_eq_true rfl⟩ rfl rfl rfl rfl (Nat.le_of_ble_eq_true rfl) rfl dX5_blameIfNamed_78 (c_X5_blame hc) (fun v2 τ2 hq => ?_)
      obtain ⟨rfl, hτ⟩ := hq
      subst τ2
      change Z _ _ _ _ _ [] _
      cases h
      exact z_return dX5_blameIfNamed_81 rfl ⟨rfl, rfl⟩
  · have h := (if_neg q).symm.trans h
    refine z_iload_n dX5_blameIfNamed_36 rfl 2 rfl ?_
    refine z_if_ne (tgt := 59) dX5_blameIfNamed_37 (by decide) (fun q => ?_) (fun q => ?_)
    · have h := (if_neg q).symm.trans h
      refine Z.lv [0, 1, 3] rfl ?_
      exact zb_X5_blameIfNamed_59 hrc25 h
    · have h := (if_pos q).symm.trans h
      obtain ⟨g3, h⟩ := gd h
      refine z_aload_n dX5_blameIfNamed_40 rfl 0 rfl ?_
      refine gf_5_31 rfl dX5_blameIfNamed_41 ?_
      refine z_iload_n dX5_blameIfNamed_44 rfl 3 rfl ?_
      obtain ⟨g4, h⟩ := gd h
      refine ia_0_14 (inb_in g3) dX5_blameIfNamed_45 ?_
      refine z_aload_n dX5_blameIfNamed_46 rfl 0 rfl ?_
      refine gf_5_34 rfl dX5_blameIfNamed_47 ?_
      refine gf_5_89 rfl dX5_blameIfNamed_50 ?_
      refine z_iload_n dX5_blameIfNamed_53 rfl 1 rfl ?_
      refine ia_0_11 (inb_in g4) dX5_blameIfNamed_54 ?_
      refine z_lcmp dX5_blameIfNamed_55 ?_
      refine z_if_ne (tgt := 63) dX5_blameIfNamed_56 (by decide) (fun q => ?_) (fun q => ?_)
      · have h := (if_neg q).symm.trans h
        refine z_iconst (v := 0) dX5_blameIfNamed_63 (by decide) ?_
        refine Z.lv [0, 1, 3] rfl ?_
        exact zb_X5_blameIfNamed_64 hrc25 h
      · have h := (if_pos q).symm.trans h
        refine Z.lv [0, 1, 3] rfl ?_
        exact zb_X5_blameIfNamed_59 hrc25 h
def F_X5_blameIfNamed_25 : Nat → Int32 → Int32 → Int32 → Mm → Option (Mm)
  | 0 => fun _ _ _ _ => none
  | n + 1 => B_X5_blameIfNamed_25 (F_X5_blameIfNamed_25 n)
theorem zl_X5_blameIfNamed_25 {S : Shp} : ∀ (nn : Nat) {x1 : Int32} {x2 : Int32} {x3 : Int32} {σ : Mm} {r : Mm}, F_X5_blameIfNamed_25 nn x1 x2 x3 σ = some r → Z m_X5_blameIfNamed S (Qv r) 25 [(0, .ref (sL S 0 0 12)), (1, .int (x1)), (2, .int (x2)), (3, .int (x3))] [] σ := by
  intro nn
  induction nn with
  | zero => intro x1 x2 x3 σ r h; cases h
  | succ nn ih => intro x1 x2 x3 σ r h; exact zB_X5_blameIfNamed_25 @ih h
def F_X5_blameIfNamed_22 (x1 : Int32) (s0 : Int32) (σ : Mm) : Option (Mm) := (F_X5_blameIfNamed_25 FU x1 s0 0 σ)
set_option maxRecDepth 20000 in
theorem zb_X5_blameIfNamed_22 {S : Shp} {x1 : Int32} {s0 : Int32} {σ : Mm} {r : Mm} (h : F_X5_blameIfNamed_22 x1 s0 σ = some r) : Z m_X5_blameIfNamed S (Qv r) 22 [(0, .ref (sL S 0 0 12)), (1, .int (x1))] [.int (s0)] σ := by
  unfold F_X5_blameIfNamed_22 at h
  refine z_istore_n (lv' := [(0, .ref (sL S 0 0 12)), (1, .int (x1)), (2, .int (s0))]) dX5_blameIfNamed_22 rfl (by decide) [1, 2, 0] rfl ?_
  refine z_iconst (v := 0) dX5_blameIfNamed_23 (by decide) ?_
  refine z_istore_n (lv' := [(0, .ref (sL S 0 0 12)), (1, .int (x1)), (2, .int (s0)), (3, .int (0))]) dX5_blameIfNamed_24 rfl (by decide) [1, 2, 3, 0] rfl ?_
  exact zl_X5_blameIfNamed_25 FU h
def F_X5_blameIfNamed_13 (x1 : Int32) (s0 : Int32) (σ : Mm) : Option (Mm) := (if s0 = (-1 : Int32) then (F_X5_blameIfNamed_22 x1 0 σ) else (F_X5_blameIfNamed_22 x1 1 σ))
set_option maxRecDepth 20000 in
theorem zb_X5_blameIfNamed_13 {S : Shp} {x1 : Int32} {s0 : Int32} {σ : Mm} {r : Mm} (h : F_X5_blameIfNamed_13 x1 s0 σ = some r) : Z m_X5_blameIfNamed S (Qv r) 13 [(0, .ref (sL S 0 0 12)), (1, .int (x1))] [.int (s0)] σ := by
  unfold F_X5_blameIfNamed_13 at h
  refine z_iconst (v := (-1)) dX5_blameIfNamed_13 (by decide) ?_
  refine z_icmp_eq (tgt := 21) dX5_blameIfNamed_14 (by decide) (fun q => ?_) (fun q => ?_)
  · have h := (if_pos q).symm.trans h
    refine z_iconst (v := 0) dX5_blameIfNamed_21 (by decide) ?_
    exact zb_X5_blameIfNamed_22 h
  · have h := (if_neg q).symm.trans h
    refine z_iconst (v := 1) dX5_blameIfNamed_17 (by decide) ?_
    refine z_goto (tgt := 22) dX5_blameIfNamed_18 (by decide) ?_
    exact zb_X5_blameIfNamed_22 h
def F_X5_blameIfNamed (x1 : Int32) (σ : Mm) : Option (Mm) := (if inb x1 402 = true then (bnd (F_X5_thingNamed (mL σ 0 0 11 x1.toNatClampNeg) σ) (fun v τ => (F_X5_blameIfNamed_13 x1 v τ))) else none)
set_option maxRecDepth 20000 in
theorem zb_X5_blameIfNamed {S : Shp} {x1 : Int32} {σ : Mm} {r : Mm} (h : F_X5_blameIfNamed x1 σ = some r) : Z m_X5_blameIfNamed S (Qv r) 0 [(0, .ref (sL S 0 0 12)), (1, .int (x1))] [] σ := by
  unfold F_X5_blameIfNamed at h
  obtain ⟨g1, h⟩ := gd h
  refine z_aload_n dX5_blameIfNamed_0 rfl 0 rfl ?_
  refine z_aload_n dX5_blameIfNamed_1 rfl 0 rfl ?_
  refine gf_5_34 rfl dX5_blameIfNamed_2 ?_
  refine gf_5_89 rfl dX5_blameIfNamed_5 ?_
  refine z_iload_n dX5_blameIfNamed_8 rfl 1 rfl ?_
  refine ia_0_11 (inb_in g1) dX5_blameIfNamed_9 ?_
  obtain ⟨v, τ, hc, h⟩ := bnd_e h
  refine z_callV (M' := m_X5_thingNamed) (t := 0) (i := 0) (k := 12) (As := [.long (mL σ 0 0 11 x1.toNatClampNeg)]) (rest := []) kl_5_92 oy_X5_thingNamed ⟨Nat.le_of_ble_eq_true rfl, Nat.le_of_ble_eq_true rfl⟩ rfl rfl rfl rfl (Nat.le_of_ble_eq_true rfl) rfl dX5_blameIfNamed_10 (c_X5_thingNamed hc) (fun v2 τ2 hq => ?_)
  obtain ⟨rfl, hτ⟩ := hq
  subst τ2
  change Z _ _ _ _ _ [.int (v)] _
  exact zb_X5_blameIfNamed_13 h
/-- SkyStones$Reader.blameIfNamed(I)V -/
theorem c_X5_blameIfNamed {S : Shp} {x1 : Int32} {σ : Mm} {r : Mm} (h : F_X5_blameIfNamed x1 σ = some r) : Ct m_X5_blameIfNamed S [.ref (sL S 0 0 12), .int (x1)] σ (Qv r) := Ct.of (by decide +kernel) (Nat.le_of_ble_eq_true rfl) (zb_X5_blameIfNamed h)
def F_X5_tellSky_173 (s0 : Int32) (σ : Mm) : Option (Mm) := (if okP σ = true then some (setA σ 1 (mP σ 2) 0 (upd (mA σ 1 (mP σ 2) 0) 12 ((mA σ 1 (mP σ 2) 0 12) + (1 : Int32)))) else none)
set_option maxRecDepth 20000 in
theorem zb_X5_tellSky_173 {S : Shp} {s0 : Int32} {σ : Mm} {r : Mm} (h : F_X5_tellSky_173 s0 σ = some r) : Z m_X5_tellSky S (Qv r) 173 [(0, .ref (sL S 0 0 12))] [.int (s0)] σ := by
  unfold F_X5_tellSky_173 at h
  obtain ⟨g11, h⟩ := gd h
  refine z_pop dX5_tellSky_173 rfl ?_
  refine z_aload_n dX5_tellSky_174 rfl 0 rfl ?_
  have hp := g11
  refine gf_5_38 rfl dX5_tellSky_175 ?_
  refine z_dup dX5_tellSky_178 rfl ?_
  refine gf_5_96 (lv1 (okP_2 hp) rfl) rfl dX5_tellSky_179 ?_
  refine z_iconst (v := 1) dX5_tellSky_182 (by decide) ?_
  refine z_iadd dX5_tellSky_183 ?_
  refine pf_5_96 (lv1 (okP_2 hp) rfl) rfl dX5_tellSky_184 ?_
  cases h
  exact z_return dX5_tellSky_187 rfl ⟨rfl, rfl⟩
def F_X5_tellSky_168 (σ : Mm) : Option (Mm) := (bnd (F_X5_take 4 σ) (fun v τ => (F_X5_tellSky_173 v τ)))
set_option maxRecDepth 20000 in
theorem zb_X5_tellSky_168 {S : Shp} {σ : Mm} {r : Mm} (h : F_X5_tellSky_168 σ = some r) : Z m_X5_tellSky S (Qv r) 168 [(0, .ref (sL S 0 0 12))] [] σ := by
  unfold F_X5_tellSky_168 at h
  refine z_aload_n dX5_tellSky_168 rfl 0 rfl ?_
  refine z_iconst (v := 4) dX5_tellSky_169 (by decide) ?_
  obtain ⟨v, τ, hc, h⟩ := bnd_e h
  refine z_callV (M' := m_X5_take) (t := 0) (i := 0) (k := 12) (As := [.int (4)]) (rest := []) kl_5_103 oy_X5_take ⟨Nat.le_of_ble_eq_true rfl, Nat.le_of_ble_eq_true rfl⟩ rfl rfl rfl rfl (Nat.le_of_ble_eq_true rfl) rfl dX5_tellSky_170 (c_X5_take hc) (fun v2 τ2 hq => ?_)
  obtain ⟨rfl, hτ⟩ := hq
  subst τ2
  change Z _ _ _ _ _ [.int (v)] _
  exact zb_X5_tellSky_173 h
def F_X5_tellSky_157 (x2 : Int32) (σ : Mm) : Option (Mm) := (if okP σ = true then (bnv (F_X0_close (mP σ 2) x2 σ) (fun τ => (F_X5_tellSky_168 τ))) else none)
set_option maxRecDepth 20000 in
theorem zb_X5_tellSky_157 {S : Shp} {x2 : Int32} {σ : Mm} {r : Mm} (h : F_X5_tellSky_157 x2 σ = some r) : Z m_X5_tellSky S (Qv r) 157 [(0, .ref (sL S 0 0 12)), (2, .int (x2))] [] σ := by
  unfold F_X5_tellSky_157 at h
  obtain ⟨g10, h⟩ := gd h
  refine z_aload_n dX5_tellSky_157 rfl 0 rfl ?_
  have hp := g10
  refine gf_5_38 rfl dX5_tellSky_158 ?_
  refine gf_5_152 (lv1 (okP_2 hp) rfl) rfl dX5_tellSky_161 ?_
  refine z_iload_n dX5_tellSky_164 rfl 1 rfl ?_
  obtain ⟨τ, hc, h⟩ := bnv_e h
  refine z_callV (M' := m_X0_close) (t := 1) (i := (mP σ 2)) (k := 10) (As := [.int (x2)]) (rest := []) kl_5_164 oy_X0_close ⟨Nat.le_of_ble_eq_true rfl, Nat.le_of_ble_eq_true rfl⟩ (lv1 (okP_2 hp) rfl) rfl rfl rfl (Nat.le_of_ble_eq_true rfl) rfl dX5_tellSky_165 (c_X0_close (okP_2 hp) hc) (fun v2 τ2 hq => ?_)
  obtain ⟨rfl, hτ⟩ := hq
  subst τ2
  change Z _ _ _ _ _ [] _
  refine Z.lv [0] rfl ?_
  exact zb_X5_tellSky_168 h
def F_X5_tellSky_152 (x2 : Int32) (σ : Mm) : Option (Mm) := (bnv (FS 8 0 σ) (fun τ => (F_X5_tellSky_157 x2 τ)))
set_option maxRecDepth 20000 in
theorem zb_X5_tellSky_152 {S : Shp} {x2 : Int32} {σ : Mm} {r : Mm} (h : F_X5_tellSky_152 x2 σ = some r) : Z m_X5_tellSky S (Qv r) 152 [(0, .ref (sL S 0 0 12)), (2, .int (x2))] [] σ := by
  unfold F_X5_tellSky_152 at h
  refine z_aload_n dX5_tellSky_152 rfl 0 rfl ?_
  refine z_iconst (v := 0) dX5_tellSky_153 (by decide) ?_
  obtain ⟨τ, hc, h⟩ := bnv_e h
  refine z_callV (M' := m_X5_sum 8) (t := 0) (i := 0) (k := 12) (As := [.int (0)]) (rest := []) kl_5_161 oy_X5_sum ⟨Nat.le_of_ble_eq_true rfl, Nat.le_of_ble_eq_true rfl⟩ rfl rfl rfl rfl (Nat.le_of_ble_eq_true rfl) rfl dX5_tellSky_154 (c_FS 8 hc) (fun v2 τ2 hq => ?_)
  obtain ⟨rfl, hτ⟩ := hq
  subst τ2
  change Z _ _ _ _ _ [] _
  exact zb_X5_tellSky_157 h
def F_X5_tellSky_140 (x2 : Int32) (s0 : Int32) (σ : Mm) : Option (Mm) := (if okP σ = true then (bnv (F_X0_open (mP σ 2) x2 σ) (fun τ => (F_X5_tellSky_152 x2 τ))) else none)
set_option maxRecDepth 20000 in
theorem zb_X5_tellSky_140 {S : Shp} {x2 : Int32} {s0 : Int32} {σ : Mm} {r : Mm} (h : F_X5_tellSky_140 x2 s0 σ = some r) : Z m_X5_tellSky S (Qv r) 140 [(0, .ref (sL S 0 0 12)), (2, .int (x2))] [.int (s0)] σ := by
  unfold F_X5_tellSky_140 at h
  obtain ⟨g6, h⟩ := gd h
  refine z_pop dX5_tellSky_140 rfl ?_
  refine z_aload_n dX5_tellSky_141 rfl 0 rfl ?_
  have hp := g6
  refine gf_5_38 rfl dX5_tellSky_142 ?_
  refine gf_5_152 (lv1 (okP_2 hp) rfl) rfl dX5_tellSky_145 ?_
  refine z_iload_n dX5_tellSky_148 rfl 1 rfl ?_
  obtain ⟨τ, hc, h⟩ := bnv_e h
  refine z_callV (M' := m_X0_open) (t := 1) (i := (mP σ 2)) (k := 10) (As := [.int (x2)]) (rest := []) kl_5_156 oy_X0_open ⟨Nat.le_of_ble_eq_true rfl, Nat.le_of_ble_eq_true rfl⟩ (lv1 (okP_2 hp) rfl) rfl rfl rfl (Nat.le_of_ble_eq_true rfl) rfl dX5_tellSky_149 (c_X0_open (okP_2 hp) hc) (fun v2 τ2 hq => ?_)
  obtain ⟨rfl, hτ⟩ := hq
  subst τ2
  change Z _ _ _ _ _ [] _
  exact zb_X5_tellSky_152 h
def F_X5_tellSky_135 (x2 : Int32) (σ : Mm) : Option (Mm) := (bnd (F_X5_take 5 σ) (fun v τ => (F_X5_tellSky_140 x2 v τ)))
set_option maxRecDepth 20000 in
theorem zb_X5_tellSky_135 {S : Shp} {x2 : Int32} {σ : Mm} {r : Mm} (h : F_X5_tellSky_135 x2 σ = some r) : Z m_X5_tellSky S (Qv r) 135 [(0, .ref (sL S 0 0 12)), (2, .int (x2))] [] σ := by
  unfold F_X5_tellSky_135 at h
  refine z_aload_n dX5_tellSky_135 rfl 0 rfl ?_
  refine z_iconst (v := 5) dX5_tellSky_136 (by decide) ?_
  obtain ⟨v, τ, hc, h⟩ := bnd_e h
  refine z_callV (M' := m_X5_take) (t := 0) (i := 0) (k := 12) (As := [.int (5)]) (rest := []) kl_5_103 oy_X5_take ⟨Nat.le_of_ble_eq_true rfl, Nat.le_of_ble_eq_true rfl⟩ rfl rfl rfl rfl (Nat.le_of_ble_eq_true rfl) rfl dX5_tellSky_137 (c_X5_take hc) (fun v2 τ2 hq => ?_)
  obtain ⟨rfl, hτ⟩ := hq
  subst τ2
  change Z _ _ _ _ _ [.int (v)] _
  exact zb_X5_tellSky_140 h
def F_X5_tellSky_118 (x1 : Int32) (x2 : Int32) (σ : Mm) : Option (Mm) := (if inb (x1 + (1 : Int32)) 402 = true then (if inb x2 5 = true then (F_X5_tellSky_135 x2 (setL σ 0 0 14 (vp_updL (mL σ 0 0 14) x2.toNatClampNeg (mL σ 0 0 11 (x1 + (1 : Int32)).toNatClampNeg)))) else none) else none)
set_option maxRecDepth 20000 in
theorem zb_X5_tellSky_118 {S : Shp} {x1 : Int32} {x2 : Int32} {σ : Mm} {r : Mm} (h : F_X5_tellSky_118 x1 x2 σ = some r) : Z m_X5_tellSky S (Qv r) 118 [(0, .ref (sL S 0 0 12)), (1, .int (x1)), (2, .int (x2))] [] σ := by
  unfold F_X5_tellSky_118 at h
  obtain ⟨g4, h⟩ := gd h
  refine z_aload_n dX5_tellSky_118 rfl 0 rfl ?_
  refine gf_5_31 rfl dX5_tellSky_119 ?_
  refine z_iload_n dX5_tellSky_122 rfl 2 rfl ?_
  refine z_aload_n dX5_tellSky_123 rfl 0 rfl ?_
  refine gf_5_34 rfl dX5_tellSky_124 ?_
  refine gf_5_89 rfl dX5_tellSky_127 ?_
  refine z_iload_n dX5_tellSky_130 rfl 1 rfl ?_
  refine z_iconst (v := 1) dX5_tellSky_131 (by decide) ?_
  refine z_iadd dX5_tellSky_132 ?_
  obtain ⟨g5, h⟩ := gd h
  refine ia_0_11 (inb_in g4) dX5_tellSky_133 ?_
  refine is_0_14 (inb_in g5) dX5_tellSky_134 ?_
  refine Z.lv [0, 2] rfl ?_
  exact zb_X5_tellSky_135 h
def F_X5_tellSky_98 (x1 : Int32) (x2 : Int32) (σ : Mm) : Option (Mm) := (if okP σ = true then (if inb (x1 + (3 : Int32)) 402 = true then (if inb x2 5 = true then (F_X5_tellSky_118 x1 x2 (setA σ 1 (mP σ 2) 9 (upd (mA σ 1 (mP σ 2) 9) x2.toNatClampNeg (mA σ 0 0 10 (x1 + (3 : Int32)).toNatClampNeg)))) else none) else none) else none)
set_option maxRecDepth 20000 in
theorem zb_X5_tellSky_98 {S : Shp} {x1 : Int32} {x2 : Int32} {σ : Mm} {r : Mm} (h : F_X5_tellSky_98 x1 x2 σ = some r) : Z m_X5_tellSky S (Qv r) 98 [(0, .ref (sL S 0 0 12)), (1, .int (x1)), (2, .int (x2))] [] σ := by
  unfold F_X5_tellSky_98 at h
  obtain ⟨g7, h⟩ := gd h
  refine z_aload_n dX5_tellSky_98 rfl 0 rfl ?_
  obtain ⟨g8, h⟩ := gd h
  have hp := g7
  refine gf_5_38 rfl dX5_tellSky_99 ?_
  refine gf_5_149 (lv1 (okP_2 hp) rfl) rfl dX5_tellSky_102 ?_
  refine z_iload_n dX5_tellSky_105 rfl 2 rfl ?_
  refine z_aload_n dX5_tellSky_106 rfl 0 rfl ?_
  refine gf_5_34 rfl dX5_tellSky_107 ?_
  refine gf_5_77 rfl dX5_tellSky_110 ?_
  refine z_iload_n dX5_tellSky_113 rfl 1 rfl ?_
  refine z_iconst (v := 3) dX5_tellSky_114 (by decide) ?_
  refine z_iadd dX5_tellSky_115 ?_
  obtain ⟨g9, h⟩ := gd h
  refine ia_0_10 (inb_in g8) dX5_tellSky_116 ?_
  refine is_1_9 (lv1 (okP_2 hp) rfl) (inb_in g9) dX5_tellSky_117 ?_
  exact zb_X5_tellSky_118 h
def F_X5_tellSky_86 (x1 : Int32) (x2 : Int32) (s0 : Int32) (σ : Mm) : Option (Mm) := (if s0 = 0 then (F_X5_tellSky_118 x1 x2 σ) else (bnv (F_X5_blameAbove 20 (x1 + (3 : Int32)) σ) (fun τ => (F_X5_tellSky_98 x1 x2 τ))))
set_option maxRecDepth 20000 in
theorem zb_X5_tellSky_86 {S : Shp} {x1 : Int32} {x2 : Int32} {s0 : Int32} {σ : Mm} {r : Mm} (h : F_X5_tellSky_86 x1 x2 s0 σ = some r) : Z m_X5_tellSky S (Qv r) 86 [(0, .ref (sL S 0 0 12)), (1, .int (x1)), (2, .int (x2))] [.int (s0)] σ := by
  unfold F_X5_tellSky_86 at h
  refine z_if_eq (tgt := 118) dX5_tellSky_86 (by decide) (fun q => ?_) (fun q => ?_)
  · have h := (if_pos q).symm.trans h
    exact zb_X5_tellSky_118 h
  · have h := (if_neg q).symm.trans h
    refine z_aload_n dX5_tellSky_89 rfl 0 rfl ?_
    refine z_bipush (v := 20) dX5_tellSky_90 (by decide) ?_
    refine z_iload_n dX5_tellSky_92 rfl 1 rfl ?_
    refine z_iconst (v := 3) dX5_tellSky_93 (by decide) ?_
    refine z_iadd dX5_tellSky_94 ?_
    obtain ⟨τ, hc, h⟩ := bnv_e h
    refine z_callV (M' := m_X5_blameAbove) (t := 0) (i := 0) (k := 12) (As := [.int (20), .int (x1 + (3 : Int32))]) (rest := []) kl_5_110 oy_X5_blameAbove ⟨Nat.le_of_ble_eq_true rfl, Nat.le_of_ble_eq_true rfl⟩ rfl rfl rfl rfl (Nat.le_of_ble_eq_true rfl) rfl dX5_tellSky_95 (c_X5_blameAbove hc) (fun v2 τ2 hq => ?_)
    obtain ⟨rfl, hτ⟩ := hq
    subst τ2
    change Z _ _ _ _ _ [] _
    exact zb_X5_tellSky_98 h
def F_X5_tellSky_78 (x1 : Int32) (x2 : Int32) (s0 : Int32) (σ : Mm) : Option (Mm) := (if s0 = 0 then (F_X5_tellSky_118 x1 x2 σ) else (bnd (F_X5_take 3 σ) (fun v τ => (F_X5_tellSky_86 x1 x2 v τ))))
set_option maxRecDepth 20000 in
theorem zb_X5_tellSky_78 {S : Shp} {x1 : Int32} {x2 : Int32} {s0 : Int32} {σ : Mm} {r : Mm} (h : F_X5_tellSky_78 x1 x2 s0 σ = some r) : Z m_X5_tellSky S (Qv r) 78 [(0, .ref (sL S 0 0 12)), (1, .int (x1)), (2, .int (x2))] [.int (s0)] σ := by
  unfold F_X5_tellSky_78 at h
  refine z_if_eq (tgt := 118) dX5_tellSky_78 (by decide) (fun q => ?_) (fun q => ?_)
  · have h := (if_pos q).symm.trans h
    exact zb_X5_tellSky_118 h
  · have h := (if_neg q).symm.trans h
    refine z_aload_n dX5_tellSky_81 rfl 0 rfl ?_
    refine z_iconst (v := 3) dX5_tellSky_82 (by decide) ?_
    obtain ⟨v, τ, hc, h⟩ := bnd_e h
    refine z_callV (M' := m_X5_take) (t := 0) (i := 0) (k := 12) (As := [.int (3)]) (rest := []) kl_5_103 oy_X5_take ⟨Nat.le_of_ble_eq_true rfl, Nat.le_of_ble_eq_true rfl⟩ rfl rfl rfl rfl (Nat.le_of_ble_eq_true rfl) rfl dX5_tellSky_83 (c_X5_take hc) (fun v2 τ2 hq => ?_)
    obtain ⟨rfl, hτ⟩ := hq
    subst τ2
    change Z _ _ _ _ _ [.int (v)] _
    exact zb_X5_tellSky_86 h
def F_X5_tellSky_67 (x1 : Int32) (x2 : Int32) (s0 : Int32) (σ : Mm) : Option (Mm) := (if s0 = (21 : Int32) then (bnd (F_X5_take 21 σ) (fun v τ => (F_X5_tellSky_78 x1 x2 v τ))) else (F_X5_tellSky_118 x1 x2 σ))
set_option maxRecDepth 20000 in
theorem zb_X5_tellSky_67 {S : Shp} {x1 : Int32} {x2 : Int32} {s0 : Int32} {σ : Mm} {r : Mm} (h : F_X5_tellSky_67 x1 x2 s0 σ = some r) : Z m_X5_tellSky S (Qv r) 67 [(0, .ref (sL S 0 0 12)), (1, .int (x1)), (2, .int (x2))] [.int (s0)] σ := by
  unfold F_X5_tellSky_67 at h
  refine z_bipush (v := 21) dX5_tellSky_67 (by decide) ?_
  refine z_icmp_ne (tgt := 118) dX5_tellSky_69 (by decide) (fun q => ?_) (fun q => ?_)
  · have h := (if_neg q).symm.trans h
    exact zb_X5_tellSky_118 h
  · have h := (if_pos q).symm.trans h
    refine z_aload_n dX5_tellSky_72 rfl 0 rfl ?_
    refine z_bipush (v := 21) dX5_tellSky_73 (by decide) ?_
    obtain ⟨v, τ, hc, h⟩ := bnd_e h
    refine z_callV (M' := m_X5_take) (t := 0) (i := 0) (k := 12) (As := [.int (21)]) (rest := []) kl_5_103 oy_X5_take ⟨Nat.le_of_ble_eq_true rfl, Nat.le_of_ble_eq_true rfl⟩ rfl rfl rfl rfl (Nat.le_of_ble_eq_true rfl) rfl dX5_tellSky_75 (c_X5_take hc) (fun v2 τ2 hq => ?_)
    obtain ⟨rfl, hτ⟩ := hq
    subst τ2
    change Z _ _ _ _ _ [.int (v)] _
    exact zb_X5_tellSky_78 h
def F_X5_tellSky_63 (x1 : Int32) (x2 : Int32) (σ : Mm) : Option (Mm) := (bnd (F_X5_kindHere  σ) (fun v τ => (F_X5_tellSky_67 x1 x2 v τ)))
set_option maxRecDepth 20000 in
theorem zb_X5_tellSky_63 {S : Shp} {x1 : Int32} {x2 : Int32} {σ : Mm} {r : Mm} (h : F_X5_tellSky_63 x1 x2 σ = some r) : Z m_X5_tellSky S (Qv r) 63 [(0, .ref (sL S 0 0 12)), (1, .int (x1)), (2, .int (x2))] [] σ := by
  unfold F_X5_tellSky_63 at h
  refine z_aload_n dX5_tellSky_63 rfl 0 rfl ?_
  obtain ⟨v, τ, hc, h⟩ := bnd_e h
  refine z_callV (M' := m_X5_kindHere) (t := 0) (i := 0) (k := 12) (As := []) (rest := []) kl_5_42 oy_X5_kindHere ⟨Nat.le_of_ble_eq_true rfl, Nat.le_of_ble_eq_true rfl⟩ rfl rfl rfl rfl (Nat.le_of_ble_eq_true rfl) rfl dX5_tellSky_64 (c_X5_kindHere hc) (fun v2 τ2 hq => ?_)
  obtain ⟨rfl, hτ⟩ := hq
  subst τ2
  change Z _ _ _ _ _ [.int (v)] _
  exact zb_X5_tellSky_67 h
def F_X5_tellSky_45 (x1 : Int32) (σ : Mm) : Option (Mm) := (if okP σ = true then (if inb (mA σ 1 (mP σ 2) 0 12) 5 = true then (F_X5_tellSky_63 x1 (mA σ 1 (mP σ 2) 0 12) (setA σ 1 (mP σ 2) 9 (upd (mA σ 1 (mP σ 2) 9) (mA σ 1 (mP σ 2) 0 12).toNatClampNeg 0))) else none) else none)
set_option maxRecDepth 20000 in
theorem zb_X5_tellSky_45 {S : Shp} {x1 : Int32} {σ : Mm} {r : Mm} (h : F_X5_tellSky_45 x1 σ = some r) : Z m_X5_tellSky S (Qv r) 45 [(0, .ref (sL S 0 0 12)), (1, .int (x1))] [] σ := by
  unfold F_X5_tellSky_45 at h
  obtain ⟨g2, h⟩ := gd h
  refine z_aload_n dX5_tellSky_45 rfl 0 rfl ?_
  obtain ⟨g3, h⟩ := gd h
  have hp := g2
  refine gf_5_38 rfl dX5_tellSky_46 ?_
  refine gf_5_96 (lv1 (okP_2 hp) rfl) rfl dX5_tellSky_49 ?_
  refine z_istore_n (lv' := [(0, .ref (sL S 0 0 12)), (1, .int (x1)), (2, .int (mA σ 1 (mP σ 2) 0 12))]) dX5_tellSky_52 rfl (by decide) [1, 2, 0] rfl ?_
  refine z_aload_n dX5_tellSky_53 rfl 0 rfl ?_
  refine gf_5_38 rfl dX5_tellSky_54 ?_
  refine gf_5_149 (lv1 (okP_2 hp) rfl) rfl dX5_tellSky_57 ?_
  refine z_iload_n dX5_tellSky_60 rfl 2 rfl ?_
  refine z_iconst (v := 0) dX5_tellSky_61 (by decide) ?_
  refine is_1_9 (lv1 (okP_2 hp) rfl) (inb_in g3) dX5_tellSky_62 ?_
  exact zb_X5_tellSky_63 h
def F_X5_tellSky_34 (x1 : Int32) (s0 : Int32) (σ : Mm) : Option (Mm) := (if s0 = 0 then some (σ) else (bnv (F_X5_blameIfNamed (x1 + (1 : Int32)) σ) (fun τ => (F_X5_tellSky_45 x1 τ))))
set_option maxRecDepth 20000 in
theorem zb_X5_tellSky_34 {S : Shp} {x1 : Int32} {s0 : Int32} {σ : Mm} {r : Mm} (h : F_X5_tellSky_34 x1 s0 σ = some r) : Z m_X5_tellSky S (Qv r) 34 [(0, .ref (sL S 0 0 12)), (1, .int (x1))] [.int (s0)] σ := by
  unfold F_X5_tellSky_34 at h
  refine z_if_ne (tgt := 38) dX5_tellSky_34 (by decide) (fun q => ?_) (fun q => ?_)
  · have h := (if_neg q).symm.trans h
    refine z_aload_n dX5_tellSky_38 rfl 0 rfl ?_
    refine z_iload_n dX5_tellSky_39 rfl 1 rfl ?_
    refine z_iconst (v := 1) dX5_tellSky_40 (by decide) ?_
    refine z_iadd dX5_tellSky_41 ?_
    obtain ⟨τ, hc, h⟩ := bnv_e h
    refine z_callV (M' := m_X5_blameIfNamed) (t := 0) (i := 0) (k := 12) (As := [.int (x1 + (1 : Int32))]) (rest := []) kl_5_107 oy_X5_blameIfNamed ⟨Nat.le_of_ble_eq_true rfl, Nat.le_of_ble_eq_true rfl⟩ rfl rfl rfl rfl (Nat.le_of_ble_eq_true rfl) rfl dX5_tellSky_42 (c_X5_blameIfNamed hc) (fun v2 τ2 hq => ?_)
    obtain ⟨rfl, hτ⟩ := hq
    subst τ2
    change Z _ _ _ _ _ [] _
    exact zb_X5_tellSky_45 h
  · have h := (if_pos q).symm.trans h
    cases h
    exact z_return dX5_tellSky_37 rfl ⟨rfl, rfl⟩
def F_X5_tellSky_26 (x1 : Int32) (s0 : Int32) (σ : Mm) : Option (Mm) := (if s0 = 0 then some (σ) else (bnd (F_X5_take 2 σ) (fun v τ => (F_X5_tellSky_34 x1 v τ))))
set_option maxRecDepth 20000 in
theorem zb_X5_tellSky_26 {S : Shp} {x1 : Int32} {s0 : Int32} {σ : Mm} {r : Mm} (h : F_X5_tellSky_26 x1 s0 σ = some r) : Z m_X5_tellSky S (Qv r) 26 [(0, .ref (sL S 0 0 12)), (1, .int (x1))] [.int (s0)] σ := by
  unfold F_X5_tellSky_26 at h
  refine z_if_eq (tgt := 37) dX5_tellSky_26 (by decide) (fun q => ?_) (fun q => ?_)
  · have h := (if_pos q).symm.trans h
    cases h
    exact z_return dX5_tellSky_37 rfl ⟨rfl, rfl⟩
  · have h := (if_neg q).symm.trans h
    refine z_aload_n dX5_tellSky_29 rfl 0 rfl ?_
    refine z_iconst (v := 2) dX5_tellSky_30 (by decide) ?_
    obtain ⟨v, τ, hc, h⟩ := bnd_e h
    refine z_callV (M' := m_X5_take) (t := 0) (i := 0) (k := 12) (As := [.int (2)]) (rest := []) kl_5_103 oy_X5_take ⟨Nat.le_of_ble_eq_true rfl, Nat.le_of_ble_eq_true rfl⟩ rfl rfl rfl rfl (Nat.le_of_ble_eq_true rfl) rfl dX5_tellSky_31 (c_X5_take hc) (fun v2 τ2 hq => ?_)
    obtain ⟨rfl, hτ⟩ := hq
    subst τ2
    change Z _ _ _ _ _ [.int (v)] _
    exact zb_X5_tellSky_34 h
def F_X5_tellSky_17 (x1 : Int32) (s0 : Int32) (σ : Mm) : Option (Mm) := (if s0 = 0 then some (σ) else (bnd (F_X5_take 20 σ) (fun v τ => (F_X5_tellSky_26 x1 v τ))))
set_option maxRecDepth 20000 in
theorem zb_X5_tellSky_17 {S : Shp} {x1 : Int32} {s0 : Int32} {σ : Mm} {r : Mm} (h : F_X5_tellSky_17 x1 s0 σ = some r) : Z m_X5_tellSky S (Qv r) 17 [(0, .ref (sL S 0 0 12)), (1, .int (x1))] [.int (s0)] σ := by
  unfold F_X5_tellSky_17 at h
  refine z_if_eq (tgt := 37) dX5_tellSky_17 (by decide) (fun q => ?_) (fun q => ?_)
  · have h := (if_pos q).symm.trans h
    cases h
    exact z_return dX5_tellSky_37 rfl ⟨rfl, rfl⟩
  · have h := (if_neg q).symm.trans h
    refine z_aload_n dX5_tellSky_20 rfl 0 rfl ?_
    refine z_bipush (v := 20) dX5_tellSky_21 (by decide) ?_
    obtain ⟨v, τ, hc, h⟩ := bnd_e h
    refine z_callV (M' := m_X5_take) (t := 0) (i := 0) (k := 12) (As := [.int (20)]) (rest := []) kl_5_103 oy_X5_take ⟨Nat.le_of_ble_eq_true rfl, Nat.le_of_ble_eq_true rfl⟩ rfl rfl rfl rfl (Nat.le_of_ble_eq_true rfl) rfl dX5_tellSky_23 (c_X5_take hc) (fun v2 τ2 hq => ?_)
    obtain ⟨rfl, hτ⟩ := hq
    subst τ2
    change Z _ _ _ _ _ [.int (v)] _
    exact zb_X5_tellSky_26 h
def F_X5_tellSky (σ : Mm) : Option (Mm) := (if okP σ = true then (bnd (F_X5_hasRoom (mA σ 1 (mP σ 2) 0 12) 5 σ) (fun v τ => (F_X5_tellSky_17 (mA σ 0 0 12 4) v τ))) else none)
set_option maxRecDepth 20000 in
theorem zb_X5_tellSky {S : Shp} {σ : Mm} {r : Mm} (h : F_X5_tellSky σ = some r) : Z m_X5_tellSky S (Qv r) 0 [(0, .ref (sL S 0 0 12))] [] σ := by
  unfold F_X5_tellSky at h
  obtain ⟨g1, h⟩ := gd h
  refine z_aload_n dX5_tellSky_0 rfl 0 rfl ?_
  refine gf_5_18 rfl dX5_tellSky_1 ?_
  refine z_istore_n (lv' := [(0, .ref (sL S 0 0 12)), (1, .int (mA σ 0 0 12 4))]) dX5_tellSky_4 rfl (by decide) [1, 0] rfl ?_
  refine z_aload_n dX5_tellSky_5 rfl 0 rfl ?_
  refine z_aload_n dX5_tellSky_6 rfl 0 rfl ?_
  have hp := g1
  refine gf_5_38 rfl dX5_tellSky_7 ?_
  refine gf_5_96 (lv1 (okP_2 hp) rfl) rfl dX5_tellSky_10 ?_
  refine z_iconst (v := 5) dX5_tellSky_13 (by decide) ?_
  obtain ⟨v, τ, hc, h⟩ := bnd_e h
  refine z_callV (M' := m_X5_hasRoom) (t := 0) (i := 0) (k := 12) (As := [.int (mA σ 1 (mP σ 2) 0 12), .int (5)]) (rest := []) kl_5_99 oy_X5_hasRoom ⟨Nat.le_of_ble_eq_true rfl, Nat.le_of_ble_eq_true rfl⟩ rfl rfl rfl rfl (Nat.le_of_ble_eq_true rfl) rfl dX5_tellSky_14 (c_X5_hasRoom hc) (fun v2 τ2 hq => ?_)
  obtain ⟨rfl, hτ⟩ := hq
  subst τ2
  change Z _ _ _ _ _ [.int (v)] _
  exact zb_X5_tellSky_17 h
/-- SkyStones$Reader.tellSky()V -/
theorem c_X5_tellSky {S : Shp} {σ : Mm} {r : Mm} (h : F_X5_tellSky σ = some r) : Ct m_X5_tellSky S [.ref (sL S 0 0 12)] σ (Qv r) := Ct.of (by decide +kernel) (Nat.le_of_ble_eq_true rfl) (zb_X5_tellSky h)
def F_X9_isTaken_32 (rc2 : Nat → Int32 → Int32 → Int32 → Mm → Option (Int32 × Mm)) (i0 : Nat) (x1 : Int32) (x2 : Int32) (x3 : Int32) (σ : Mm) : Option (Int32 × Mm) := (rc2 i0 x1 x2 (x3 + 1) σ)
set_option maxRecDepth 20000 in
theorem zb_X9_isTaken_32 {S : Shp} {rc2 : Nat → Int32 → Int32 → Int32 → Mm → Option (Int32 × Mm)} (hrc2 : ∀ {i0 : Nat} (hi0 : tlv (sH S) i0 = true) {x1 : Int32} {x2 : Int32} {x3 : Int32} {σ : Mm} {r : Int32 × Mm}, rc2 i0 x1 x2 x3 σ = some r → Z m_X9_isTaken S (Qi r) 2 [(0, .ref (sL S 1 i0 0)), (1, .int (x1)), (2, .int (x2)), (3, .int (x3))] [] σ) {i0 : Nat} (hi0 : tlv (sH S) i0 = true) {x1 : Int32} {x2 : Int32} {x3 : Int32} {σ : Mm} {r : Int32 × Mm} (h : F_X9_isTaken_32 rc2 i0 x1 x2 x3 σ = some r) : Z m_X9_isTaken S (Qi r) 32 [(0, .ref (sL S 1 i0 0)), (1, .int (x1)), (2, .int (x2)), (3, .int (x3))] [] σ := by
  unfold F_X9_isTaken_32 at h
  refine z_iinc (j := 3) (v := x3 + 1) (lv' := [(0, .ref (sL S 1 i0 0)), (1, .int (x1)), (2, .int (x2)), (3, .int (x3 + 1))]) dX9_isTaken_32 rfl rfl (by decide) [1, 2, 3, 0] rfl ?_
  refine z_goto (tgt := 2) dX9_isTaken_35 (by decide) ?_
  exact hrc2 (hi0) h
def B_X9_isTaken_2 (rc2 : Nat → Int32 → Int32 → Int32 → Mm → Option (Int32 × Mm)) (i0 : Nat) (x1 : Int32) (x2 : Int32) (x3 : Int32) (σ : Mm) : Option (Int32 × Mm) := (if (mA σ 1 i0 0 1) ≤ x3 then some (0, σ) else (if inb x3 14 = true then (if (mA σ 1 i0 1 x3.toNatClampNeg) = x1 then (if inb x3 14 = true then (if (mA σ 1 i0 2 x3.toNatClampNeg) = x2 then some (1, σ) else (F_X9_isTaken_32 rc2 i0 x1 x2 x3 σ)) else none) else (F_X9_isTaken_32 rc2 i0 x1 x2 x3 σ)) else none))
set_option maxRecDepth 20000 in
theorem zB_X9_isTaken_2 {S : Shp} {rc2 : Nat → Int32 → Int32 → Int32 → Mm → Option (Int32 × Mm)} (hrc2 : ∀ {i0 : Nat} (hi0 : tlv (sH S) i0 = true) {x1 : Int32} {x2 : Int32} {x3 : Int32} {σ : Mm} {r : Int32 × Mm}, rc2 i0 x1 x2 x3 σ = some r → Z m_X9_isTaken S (Qi r) 2 [(0, .ref (sL S 1 i0 0)), (1, .int (x1)), (2, .int (x2)), (3, .int (x3))] [] σ) {i0 : Nat} (hi0 : tlv (sH S) i0 = true) {x1 : Int32} {x2 : Int32} {x3 : Int32} {σ : Mm} {r : Int32 × Mm} (h : B_X9_isTaken_2 rc2 i0 x1 x2 x3 σ = some r) : Z m_X9_isTaken S (Qi r) 2 [(0, .ref (sL S 1 i0 0)), (1, .int (x1)), (2, .int (x2)), (3, .int (x3))] [] σ := by
  unfold B_X9_isTaken_2 at h
  refine z_iload_n dX9_isTaken_2 rfl 3 rfl ?_
  refine z_aload_n dX9_isTaken_3 rfl 0 rfl ?_
  refine gf_9_15 (lv1 (hi0) rfl) rfl dX9_isTaken_4 ?_
  refine z_icmp_ge (tgt := 38) dX9_isTaken_7 (by decide) (fun q => ?_) (fun q => ?_)
  · have h := (if_pos q).symm.trans h
    refine z_iconst (v := 0) dX9_isTaken_38 (by decide) ?_
    cases h
    exact z_ireturn dX9_isTaken_39 rfl rfl ⟨rfl, rfl⟩
  · have h := (if_neg q).symm.trans h
    obtain ⟨g1, h⟩ := gd h
    refine z_aload_n dX9_isTaken_10 rfl 0 rfl ?_
    refine gf_9_18 (lv1 (hi0) rfl) rfl dX9_isTaken_11 ?_
    refine z_iload_n dX9_isTaken_14 rfl 3 rfl ?_
    refine ia_1_1 (lv1 (hi0) rfl) (inb_in g1) dX9_isTaken_15 ?_
    refine z_iload_n dX9_isTaken_16 rfl 1 rfl ?_
    refine z_icmp_ne (tgt := 32) dX9_isTaken_17 (by decide) (fun q => ?_) (fun q => ?_)
    · have h := (if_neg q).symm.trans h
      exact zb_X9_isTaken_32 hrc2 (hi0) h
    · have h := (if_pos q).symm.trans h
      obtain ⟨g2, h⟩ := gd h
      refine z_aload_n dX9_isTaken_20 rfl 0 rfl ?_
      refine gf_9_22 (lv1 (hi0) rfl) rfl dX9_isTaken_21 ?_
      refine z_iload_n dX9_isTaken_24 rfl 3 rfl ?_
      refine ia_1_2 (lv1 (hi0) rfl) (inb_in g2) dX9_isTaken_25 ?_
      refine z_iload_n dX9_isTaken_26 rfl 2 rfl ?_
      refine z_icmp_ne (tgt := 32) dX9_isTaken_27 (by decide) (fun q => ?_) (fun q => ?_)
      · have h := (if_neg q).symm.trans h
        exact zb_X9_isTaken_32 hrc2 (hi0) h
      · have h := (if_pos q).symm.trans h
        refine z_iconst (v := 1) dX9_isTaken_30 (by decide) ?_
        cases h
        exact z_ireturn dX9_isTaken_31 rfl rfl ⟨rfl, rfl⟩
def F_X9_isTaken_2 : Nat → Nat → Int32 → Int32 → Int32 → Mm → Option (Int32 × Mm)
  | 0 => fun _ _ _ _ _ => none
  | n + 1 => B_X9_isTaken_2 (F_X9_isTaken_2 n)
theorem zl_X9_isTaken_2 {S : Shp} : ∀ (nn : Nat) {i0 : Nat} (hi0 : tlv (sH S) i0 = true) {x1 : Int32} {x2 : Int32} {x3 : Int32} {σ : Mm} {r : Int32 × Mm}, F_X9_isTaken_2 nn i0 x1 x2 x3 σ = some r → Z m_X9_isTaken S (Qi r) 2 [(0, .ref (sL S 1 i0 0)), (1, .int (x1)), (2, .int (x2)), (3, .int (x3))] [] σ := by
  intro nn
  induction nn with
  | zero => intro i0 hi0 x1 x2 x3 σ r h; cases h
  | succ nn ih => intro i0 hi0 x1 x2 x3 σ r h; exact zB_X9_isTaken_2 @ih hi0 h
def F_X9_isTaken (i0 : Nat) (x1 : Int32) (x2 : Int32) (σ : Mm) : Option (Int32 × Mm) := (F_X9_isTaken_2 FU i0 x1 x2 0 σ)
set_option maxRecDepth 20000 in
theorem zb_X9_isTaken {S : Shp} {i0 : Nat} (hi0 : tlv (sH S) i0 = true) {x1 : Int32} {x2 : Int32} {σ : Mm} {r : Int32 × Mm} (h : F_X9_isTaken i0 x1 x2 σ = some r) : Z m_X9_isTaken S (Qi r) 0 [(0, .ref (sL S 1 i0 0)), (1, .int (x1)), (2, .int (x2))] [] σ := by
  unfold F_X9_isTaken at h
  refine z_iconst (v := 0) dX9_isTaken_0 (by decide) ?_
  refine z_istore_n (lv' := [(0, .ref (sL S 1 i0 0)), (1, .int (x1)), (2, .int (x2)), (3, .int (0))]) dX9_isTaken_1 rfl (by decide) [1, 2, 3, 0] rfl ?_
  exact zl_X9_isTaken_2 FU (hi0) h
/-- SkyStones$Told.isTaken(II)Z -/
theorem c_X9_isTaken {S : Shp} {i0 : Nat} (hi0 : tlv (sH S) i0 = true) {x1 : Int32} {x2 : Int32} {σ : Mm} {r : Int32 × Mm} (h : F_X9_isTaken i0 x1 x2 σ = some r) : Ct m_X9_isTaken S [.ref (sL S 1 i0 0), .int (x1), .int (x2)] σ (Qi r) := Ct.of (by decide +kernel) (Nat.le_of_ble_eq_true rfl) (zb_X9_isTaken hi0 h)
def F_X5_tellThing_242 (σ : Mm) : Option (Mm) := (if okP σ = true then some (setA σ 1 (mP σ 2) 0 (upd (mA σ 1 (mP σ 2) 0) 1 ((mA σ 1 (mP σ 2) 0 1) + (1 : Int32)))) else none)
set_option maxRecDepth 20000 in
theorem zb_X5_tellThing_242 {S : Shp} {σ : Mm} {r : Mm} (h : F_X5_tellThing_242 σ = some r) : Z m_X5_tellThing S (Qv r) 242 [(0, .ref (sL S 0 0 12))] [] σ := by
  unfold F_X5_tellThing_242 at h
  obtain ⟨g19, h⟩ := gd h
  refine z_aload_n dX5_tellThing_242 rfl 0 rfl ?_
  have hp := g19
  refine gf_5_38 rfl dX5_tellThing_243 ?_
  refine z_dup dX5_tellThing_246 rfl ?_
  refine gf_5_84 (lv1 (okP_2 hp) rfl) rfl dX5_tellThing_247 ?_
  refine z_iconst (v := 1) dX5_tellThing_250 (by decide) ?_
  refine z_iadd dX5_tellThing_251 ?_
  refine pf_5_84 (lv1 (okP_2 hp) rfl) rfl dX5_tellThing_252 ?_
  cases h
  exact z_return dX5_tellThing_255 rfl ⟨rfl, rfl⟩
def F_X5_tellThing_241 (i0 : Nat) (s0 : Int32) (s1 : Int32) (σ : Mm) : Option (Mm) := (if inb s1 14 = true then (F_X5_tellThing_242 (setA σ 1 i0 4 (upd (mA σ 1 i0 4) s1.toNatClampNeg s0))) else none)
set_option maxRecDepth 20000 in
theorem zb_X5_tellThing_241 {S : Shp} {i0 : Nat} (hi0 : tlv (sH S) i0 = true) {s0 : Int32} {s1 : Int32} {σ : Mm} {r : Mm} (h : F_X5_tellThing_241 i0 s0 s1 σ = some r) : Z m_X5_tellThing S (Qv r) 241 [(0, .ref (sL S 0 0 12))] [.int (s0), .int (s1), .ref (sL S 1 i0 4)] σ := by
  unfold F_X5_tellThing_241 at h
  obtain ⟨g18, h⟩ := gd h
  refine is_1_4 (lv1 (hi0) rfl) (inb_in g18) dX5_tellThing_241 ?_
  exact zb_X5_tellThing_242 h
def F_X5_tellThing_222 (x1 : Int32) (x3 : Int32) (σ : Mm) : Option (Mm) := (if okP σ = true then (if x1 = (16 : Int32) then (F_X5_tellThing_241 (mP σ 2) 1 x3 σ) else (F_X5_tellThing_241 (mP σ 2) 0 x3 σ)) else none)
set_option maxRecDepth 20000 in
theorem zb_X5_tellThing_222 {S : Shp} {x1 : Int32} {x3 : Int32} {σ : Mm} {r : Mm} (h : F_X5_tellThing_222 x1 x3 σ = some r) : Z m_X5_tellThing S (Qv r) 222 [(0, .ref (sL S 0 0 12)), (1, .int (x1)), (3, .int (x3))] [] σ := by
  unfold F_X5_tellThing_222 at h
  obtain ⟨g17, h⟩ := gd h
  refine z_aload_n dX5_tellThing_222 rfl 0 rfl ?_
  have hp := g17
  refine gf_5_38 rfl dX5_tellThing_223 ?_
  refine gf_5_125 (lv1 (okP_2 hp) rfl) rfl dX5_tellThing_226 ?_
  refine z_iload_n dX5_tellThing_229 rfl 2 rfl ?_
  refine z_iload_n dX5_tellThing_230 rfl 1 rfl ?_
  refine z_bipush (v := 16) dX5_tellThing_231 (by decide) ?_
  refine z_icmp_ne (tgt := 240) dX5_tellThing_233 (by decide) (fun q => ?_) (fun q => ?_)
  · have h := (if_neg q).symm.trans h
    refine z_iconst (v := 0) dX5_tellThing_240 (by decide) ?_
    refine Z.lv [0] rfl ?_
    exact zb_X5_tellThing_241 (okP_2 hp) h
  · have h := (if_pos q).symm.trans h
    refine z_iconst (v := 1) dX5_tellThing_236 (by decide) ?_
    refine z_goto (tgt := 241) dX5_tellThing_237 (by decide) ?_
    refine Z.lv [0] rfl ?_
    exact zb_X5_tellThing_241 (okP_2 hp) h
def F_X5_tellThing_202 (x1 : Int32) (x2 : Int32) (x3 : Int32) (σ : Mm) : Option (Mm) := (if okP σ = true then (if inb (x2 + (4 : Int32)) 402 = true then (if inb x3 14 = true then (F_X5_tellThing_222 x1 x3 (setA σ 1 (mP σ 2) 3 (upd (mA σ 1 (mP σ 2) 3) x3.toNatClampNeg (mA σ 0 0 10 (x2 + (4 : Int32)).toNatClampNeg)))) else none) else none) else none)
set_option maxRecDepth 20000 in
theorem zb_X5_tellThing_202 {S : Shp} {x1 : Int32} {x2 : Int32} {x3 : Int32} {σ : Mm} {r : Mm} (h : F_X5_tellThing_202 x1 x2 x3 σ = some r) : Z m_X5_tellThing S (Qv r) 202 [(0, .ref (sL S 0 0 12)), (1, .int (x1)), (2, .int (x2)), (3, .int (x3))] [] σ := by
  unfold F_X5_tellThing_202 at h
  obtain ⟨g14, h⟩ := gd h
  refine z_aload_n dX5_tellThing_202 rfl 0 rfl ?_
  obtain ⟨g15, h⟩ := gd h
  have hp := g14
  refine gf_5_38 rfl dX5_tellThing_203 ?_
  refine gf_5_122 (lv1 (okP_2 hp) rfl) rfl dX5_tellThing_206 ?_
  refine z_iload_n dX5_tellThing_209 rfl 3 rfl ?_
  refine z_aload_n dX5_tellThing_210 rfl 0 rfl ?_
  refine gf_5_34 rfl dX5_tellThing_211 ?_
  refine gf_5_77 rfl dX5_tellThing_214 ?_
  refine z_iload_n dX5_tellThing_217 rfl 2 rfl ?_
  refine z_iconst (v := 4) dX5_tellThing_218 (by decide) ?_
  refine z_iadd dX5_tellThing_219 ?_
  obtain ⟨g16, h⟩ := gd h
  refine ia_0_10 (inb_in g15) dX5_tellThing_220 ?_
  refine is_1_3 (lv1 (okP_2 hp) rfl) (inb_in g16) dX5_tellThing_221 ?_
  refine Z.lv [0, 1, 3] rfl ?_
  exact zb_X5_tellThing_222 h
def F_X5_tellThing_182 (x1 : Int32) (x2 : Int32) (x3 : Int32) (σ : Mm) : Option (Mm) := (if okP σ = true then (if inb (x2 + (3 : Int32)) 402 = true then (if inb x3 14 = true then (F_X5_tellThing_202 x1 x2 x3 (setA σ 1 (mP σ 2) 2 (upd (mA σ 1 (mP σ 2) 2) x3.toNatClampNeg (mA σ 0 0 10 (x2 + (3 : Int32)).toNatClampNeg)))) else none) else none) else none)
set_option maxRecDepth 20000 in
theorem zb_X5_tellThing_182 {S : Shp} {x1 : Int32} {x2 : Int32} {x3 : Int32} {σ : Mm} {r : Mm} (h : F_X5_tellThing_182 x1 x2 x3 σ = some r) : Z m_X5_tellThing S (Qv r) 182 [(0, .ref (sL S 0 0 12)), (1, .int (x1)), (2, .int (x2)), (3, .int (x3))] [] σ := by
  unfold F_X5_tellThing_182 at h
  obtain ⟨g11, h⟩ := gd h
  refine z_aload_n dX5_tellThing_182 rfl 0 rfl ?_
  obtain ⟨g12, h⟩ := gd h
  have hp := g11
  refine gf_5_38 rfl dX5_tellThing_183 ?_
  refine gf_5_119 (lv1 (okP_2 hp) rfl) rfl dX5_tellThing_186 ?_
  refine z_iload_n dX5_tellThing_189 rfl 3 rfl ?_
  refine z_aload_n dX5_tellThing_190 rfl 0 rfl ?_
  refine gf_5_34 rfl dX5_tellThing_191 ?_
  refine gf_5_77 rfl dX5_tellThing_194 ?_
  refine z_iload_n dX5_tellThing_197 rfl 2 rfl ?_
  refine z_iconst (v := 3) dX5_tellThing_198 (by decide) ?_
  refine z_iadd dX5_tellThing_199 ?_
  obtain ⟨g13, h⟩ := gd h
  refine ia_0_10 (inb_in g12) dX5_tellThing_200 ?_
  refine is_1_2 (lv1 (okP_2 hp) rfl) (inb_in g13) dX5_tellThing_201 ?_
  exact zb_X5_tellThing_202 h
def F_X5_tellThing_162 (x1 : Int32) (x2 : Int32) (x3 : Int32) (σ : Mm) : Option (Mm) := (if okP σ = true then (if inb (x2 + (2 : Int32)) 402 = true then (if inb x3 14 = true then (F_X5_tellThing_182 x1 x2 x3 (setA σ 1 (mP σ 2) 1 (upd (mA σ 1 (mP σ 2) 1) x3.toNatClampNeg (mA σ 0 0 10 (x2 + (2 : Int32)).toNatClampNeg)))) else none) else none) else none)
set_option maxRecDepth 20000 in
theorem zb_X5_tellThing_162 {S : Shp} {x1 : Int32} {x2 : Int32} {x3 : Int32} {σ : Mm} {r : Mm} (h : F_X5_tellThing_162 x1 x2 x3 σ = some r) : Z m_X5_tellThing S (Qv r) 162 [(0, .ref (sL S 0 0 12)), (1, .int (x1)), (2, .int (x2)), (3, .int (x3))] [] σ := by
  unfold F_X5_tellThing_162 at h
  obtain ⟨g8, h⟩ := gd h
  refine z_aload_n dX5_tellThing_162 rfl 0 rfl ?_
  obtain ⟨g9, h⟩ := gd h
  have hp := g8
  refine gf_5_38 rfl dX5_tellThing_163 ?_
  refine gf_5_116 (lv1 (okP_2 hp) rfl) rfl dX5_tellThing_166 ?_
  refine z_iload_n dX5_tellThing_169 rfl 3 rfl ?_
  refine z_aload_n dX5_tellThing_170 rfl 0 rfl ?_
  refine gf_5_34 rfl dX5_tellThing_171 ?_
  refine gf_5_77 rfl dX5_tellThing_174 ?_
  refine z_iload_n dX5_tellThing_177 rfl 2 rfl ?_
  refine z_iconst (v := 2) dX5_tellThing_178 (by decide) ?_
  refine z_iadd dX5_tellThing_179 ?_
  obtain ⟨g10, h⟩ := gd h
  refine ia_0_10 (inb_in g9) dX5_tellThing_180 ?_
  refine is_1_1 (lv1 (okP_2 hp) rfl) (inb_in g10) dX5_tellThing_181 ?_
  exact zb_X5_tellThing_182 h
def F_X5_tellThing_137 (x1 : Int32) (x2 : Int32) (σ : Mm) : Option (Mm) := (if okP σ = true then (if inb (x2 + (1 : Int32)) 402 = true then (if inb (mA σ 1 (mP σ 2) 0 1) 14 = true then (F_X5_tellThing_162 x1 x2 (mA σ 1 (mP σ 2) 0 1) (setL σ 0 0 13 (vp_updL (mL σ 0 0 13) (mA σ 1 (mP σ 2) 0 1).toNatClampNeg (mL σ 0 0 11 (x2 + (1 : Int32)).toNatClampNeg)))) else none) else none) else none)
set_option maxRecDepth 20000 in
theorem zb_X5_tellThing_137 {S : Shp} {x1 : Int32} {x2 : Int32} {σ : Mm} {r : Mm} (h : F_X5_tellThing_137 x1 x2 σ = some r) : Z m_X5_tellThing S (Qv r) 137 [(0, .ref (sL S 0 0 12)), (1, .int (x1)), (2, .int (x2))] [] σ := by
  unfold F_X5_tellThing_137 at h
  obtain ⟨g5, h⟩ := gd h
  refine z_aload_n dX5_tellThing_137 rfl 0 rfl ?_
  obtain ⟨g6, h⟩ := gd h
  have hp := g5
  refine gf_5_38 rfl dX5_tellThing_138 ?_
  refine gf_5_84 (lv1 (okP_2 hp) rfl) rfl dX5_tellThing_141 ?_
  refine z_istore_n (lv' := [(0, .ref (sL S 0 0 12)), (1, .int (x1)), (2, .int (x2)), (3, .int (mA σ 1 (mP σ 2) 0 1))]) dX5_tellThing_144 rfl (by decide) [1, 2, 3, 0] rfl ?_
  refine z_aload_n dX5_tellThing_145 rfl 0 rfl ?_
  refine gf_5_27 rfl dX5_tellThing_146 ?_
  refine z_iload_n dX5_tellThing_149 rfl 3 rfl ?_
  refine z_aload_n dX5_tellThing_150 rfl 0 rfl ?_
  refine gf_5_34 rfl dX5_tellThing_151 ?_
  refine gf_5_89 rfl dX5_tellThing_154 ?_
  refine z_iload_n dX5_tellThing_157 rfl 2 rfl ?_
  refine z_iconst (v := 1) dX5_tellThing_158 (by decide) ?_
  refine z_iadd dX5_tellThing_159 ?_
  obtain ⟨g7, h⟩ := gd h
  refine ia_0_11 (inb_in g6) dX5_tellThing_160 ?_
  refine is_0_13 (inb_in g7) dX5_tellThing_161 ?_
  exact zb_X5_tellThing_162 h
def F_X5_tellThing_126 (x1 : Int32) (x2 : Int32) (s0 : Int32) (σ : Mm) : Option (Mm) := (if s0 = 0 then (F_X5_tellThing_137 x1 x2 σ) else (bnv (F_X5_blame 3 (x2 + (3 : Int32)) σ) (fun τ => (F_X5_tellThing_137 x1 x2 τ))))
set_option maxRecDepth 20000 in
theorem zb_X5_tellThing_126 {S : Shp} {x1 : Int32} {x2 : Int32} {s0 : Int32} {σ : Mm} {r : Mm} (h : F_X5_tellThing_126 x1 x2 s0 σ = some r) : Z m_X5_tellThing S (Qv r) 126 [(0, .ref (sL S 0 0 12)), (1, .int (x1)), (2, .int (x2))] [.int (s0)] σ := by
  unfold F_X5_tellThing_126 at h
  refine z_if_eq (tgt := 137) dX5_tellThing_126 (by decide) (fun q => ?_) (fun q => ?_)
  · have h := (if_pos q).symm.trans h
    exact zb_X5_tellThing_137 h
  · have h := (if_neg q).symm.trans h
    refine z_aload_n dX5_tellThing_129 rfl 0 rfl ?_
    refine z_iconst (v := 3) dX5_tellThing_130 (by decide) ?_
    refine z_iload_n dX5_tellThing_131 rfl 2 rfl ?_
    refine z_iconst (v := 3) dX5_tellThing_132 (by decide) ?_
    refine z_iadd dX5_tellThing_133 ?_
    obtain ⟨τ, hc, h⟩ := bnv_e h
    refine z_callV (M' := m_X5_blame) (t := 0) (i := 0) (k := 12) (As := [.int (3), .int (x2 + (3 : Int32))]) (rest := []) kl_5_80 oy_X5_blame ⟨Nat.le_of_ble_eq_true rfl, Nat.le_of_ble_eq_true rfl⟩ rfl rfl rfl rfl (Nat.le_of_ble_eq_true rfl) rfl dX5_tellThing_134 (c_X5_blame hc) (fun v2 τ2 hq => ?_)
    obtain ⟨rfl, hτ⟩ := hq
    subst τ2
    change Z _ _ _ _ _ [] _
    exact zb_X5_tellThing_137 h
def F_X5_tellThing_97 (x1 : Int32) (x2 : Int32) (σ : Mm) : Option (Mm) := (if okP σ = true then (if inb (x2 + (2 : Int32)) 402 = true then (if inb (x2 + (3 : Int32)) 402 = true then (bnd (F_X9_isTaken (mP σ 2) (mA σ 0 0 10 (x2 + (2 : Int32)).toNatClampNeg) (mA σ 0 0 10 (x2 + (3 : Int32)).toNatClampNeg) σ) (fun v τ => (F_X5_tellThing_126 x1 x2 v τ))) else none) else none) else none)
set_option maxRecDepth 20000 in
theorem zb_X5_tellThing_97 {S : Shp} {x1 : Int32} {x2 : Int32} {σ : Mm} {r : Mm} (h : F_X5_tellThing_97 x1 x2 σ = some r) : Z m_X5_tellThing S (Qv r) 97 [(0, .ref (sL S 0 0 12)), (1, .int (x1)), (2, .int (x2))] [] σ := by
  unfold F_X5_tellThing_97 at h
  obtain ⟨g2, h⟩ := gd h
  refine z_aload_n dX5_tellThing_97 rfl 0 rfl ?_
  obtain ⟨g3, h⟩ := gd h
  have hp := g2
  refine gf_5_38 rfl dX5_tellThing_98 ?_
  refine z_aload_n dX5_tellThing_101 rfl 0 rfl ?_
  refine gf_5_34 rfl dX5_tellThing_102 ?_
  refine gf_5_77 rfl dX5_tellThing_105 ?_
  refine z_iload_n dX5_tellThing_108 rfl 2 rfl ?_
  refine z_iconst (v := 2) dX5_tellThing_109 (by decide) ?_
  refine z_iadd dX5_tellThing_110 ?_
  obtain ⟨g4, h⟩ := gd h
  refine ia_0_10 (inb_in g3) dX5_tellThing_111 ?_
  refine z_aload_n dX5_tellThing_112 rfl 0 rfl ?_
  refine gf_5_34 rfl dX5_tellThing_113 ?_
  refine gf_5_77 rfl dX5_tellThing_116 ?_
  refine z_iload_n dX5_tellThing_119 rfl 2 rfl ?_
  refine z_iconst (v := 3) dX5_tellThing_120 (by decide) ?_
  refine z_iadd dX5_tellThing_121 ?_
  refine ia_0_10 (inb_in g4) dX5_tellThing_122 ?_
  obtain ⟨v, τ, hc, h⟩ := bnd_e h
  refine z_callV (M' := m_X9_isTaken) (t := 1) (i := (mP σ 2)) (k := 0) (As := [.int (mA σ 0 0 10 (x2 + (2 : Int32)).toNatClampNeg), .int (mA σ 0 0 10 (x2 + (3 : Int32)).toNatClampNeg)]) (rest := []) kl_5_113 oy_X9_isTaken ⟨Nat.le_of_ble_eq_true rfl, Nat.le_of_ble_eq_true rfl⟩ (lv1 (okP_2 hp) rfl) rfl rfl rfl (Nat.le_of_ble_eq_true rfl) rfl dX5_tellThing_123 (c_X9_isTaken (okP_2 hp) hc) (fun v2 τ2 hq => ?_)
  obtain ⟨rfl, hτ⟩ := hq
  subst τ2
  change Z _ _ _ _ _ [.int (v)] _
  exact zb_X5_tellThing_126 h
def F_X5_tellThing_87 (x1 : Int32) (x2 : Int32) (σ : Mm) : Option (Mm) := (bnv (F_X5_blameAbove 999 (x2 + (3 : Int32)) σ) (fun τ => (F_X5_tellThing_97 x1 x2 τ)))
set_option maxRecDepth 20000 in
theorem zb_X5_tellThing_87 {S : Shp} {x1 : Int32} {x2 : Int32} {σ : Mm} {r : Mm} (h : F_X5_tellThing_87 x1 x2 σ = some r) : Z m_X5_tellThing S (Qv r) 87 [(0, .ref (sL S 0 0 12)), (1, .int (x1)), (2, .int (x2))] [] σ := by
  unfold F_X5_tellThing_87 at h
  refine z_aload_n dX5_tellThing_87 rfl 0 rfl ?_
  refine z_sipush (v := 999) dX5_tellThing_88 (by decide) ?_
  refine z_iload_n dX5_tellThing_91 rfl 2 rfl ?_
  refine z_iconst (v := 3) dX5_tellThing_92 (by decide) ?_
  refine z_iadd dX5_tellThing_93 ?_
  obtain ⟨τ, hc, h⟩ := bnv_e h
  refine z_callV (M' := m_X5_blameAbove) (t := 0) (i := 0) (k := 12) (As := [.int (999), .int (x2 + (3 : Int32))]) (rest := []) kl_5_110 oy_X5_blameAbove ⟨Nat.le_of_ble_eq_true rfl, Nat.le_of_ble_eq_true rfl⟩ rfl rfl rfl rfl (Nat.le_of_ble_eq_true rfl) rfl dX5_tellThing_94 (c_X5_blameAbove hc) (fun v2 τ2 hq => ?_)
  obtain ⟨rfl, hτ⟩ := hq
  subst τ2
  change Z _ _ _ _ _ [] _
  exact zb_X5_tellThing_97 h
def F_X5_tellThing_77 (x1 : Int32) (x2 : Int32) (σ : Mm) : Option (Mm) := (bnv (F_X5_blameAbove 999 (x2 + (2 : Int32)) σ) (fun τ => (F_X5_tellThing_87 x1 x2 τ)))
set_option maxRecDepth 20000 in
theorem zb_X5_tellThing_77 {S : Shp} {x1 : Int32} {x2 : Int32} {σ : Mm} {r : Mm} (h : F_X5_tellThing_77 x1 x2 σ = some r) : Z m_X5_tellThing S (Qv r) 77 [(0, .ref (sL S 0 0 12)), (1, .int (x1)), (2, .int (x2))] [] σ := by
  unfold F_X5_tellThing_77 at h
  refine z_aload_n dX5_tellThing_77 rfl 0 rfl ?_
  refine z_sipush (v := 999) dX5_tellThing_78 (by decide) ?_
  refine z_iload_n dX5_tellThing_81 rfl 2 rfl ?_
  refine z_iconst (v := 2) dX5_tellThing_82 (by decide) ?_
  refine z_iadd dX5_tellThing_83 ?_
  obtain ⟨τ, hc, h⟩ := bnv_e h
  refine z_callV (M' := m_X5_blameAbove) (t := 0) (i := 0) (k := 12) (As := [.int (999), .int (x2 + (2 : Int32))]) (rest := []) kl_5_110 oy_X5_blameAbove ⟨Nat.le_of_ble_eq_true rfl, Nat.le_of_ble_eq_true rfl⟩ rfl rfl rfl rfl (Nat.le_of_ble_eq_true rfl) rfl dX5_tellThing_84 (c_X5_blameAbove hc) (fun v2 τ2 hq => ?_)
  obtain ⟨rfl, hτ⟩ := hq
  subst τ2
  change Z _ _ _ _ _ [] _
  exact zb_X5_tellThing_87 h
def F_X5_tellThing_67 (x1 : Int32) (x2 : Int32) (s0 : Int32) (σ : Mm) : Option (Mm) := (if s0 = 0 then some (σ) else (bnv (F_X5_blameIfNamed (x2 + (1 : Int32)) σ) (fun τ => (F_X5_tellThing_77 x1 x2 τ))))
set_option maxRecDepth 20000 in
theorem zb_X5_tellThing_67 {S : Shp} {x1 : Int32} {x2 : Int32} {s0 : Int32} {σ : Mm} {r : Mm} (h : F_X5_tellThing_67 x1 x2 s0 σ = some r) : Z m_X5_tellThing S (Qv r) 67 [(0, .ref (sL S 0 0 12)), (1, .int (x1)), (2, .int (x2))] [.int (s0)] σ := by
  unfold F_X5_tellThing_67 at h
  refine z_if_eq (tgt := 255) dX5_tellThing_67 (by decide) (fun q => ?_) (fun q => ?_)
  · have h := (if_pos q).symm.trans h
    cases h
    exact z_return dX5_tellThing_255 rfl ⟨rfl, rfl⟩
  · have h := (if_neg q).symm.trans h
    refine z_aload_n dX5_tellThing_70 rfl 0 rfl ?_
    refine z_iload_n dX5_tellThing_71 rfl 2 rfl ?_
    refine z_iconst (v := 1) dX5_tellThing_72 (by decide) ?_
    refine z_iadd dX5_tellThing_73 ?_
    obtain ⟨τ, hc, h⟩ := bnv_e h
    refine z_callV (M' := m_X5_blameIfNamed) (t := 0) (i := 0) (k := 12) (As := [.int (x2 + (1 : Int32))]) (rest := []) kl_5_107 oy_X5_blameIfNamed ⟨Nat.le_of_ble_eq_true rfl, Nat.le_of_ble_eq_true rfl⟩ rfl rfl rfl rfl (Nat.le_of_ble_eq_true rfl) rfl dX5_tellThing_74 (c_X5_blameIfNamed hc) (fun v2 τ2 hq => ?_)
    obtain ⟨rfl, hτ⟩ := hq
    subst τ2
    change Z _ _ _ _ _ [] _
    exact zb_X5_tellThing_77 h
def F_X5_tellThing_59 (x1 : Int32) (x2 : Int32) (s0 : Int32) (σ : Mm) : Option (Mm) := (if s0 = 0 then some (σ) else (bnd (F_X5_take 4 σ) (fun v τ => (F_X5_tellThing_67 x1 x2 v τ))))
set_option maxRecDepth 20000 in
theorem zb_X5_tellThing_59 {S : Shp} {x1 : Int32} {x2 : Int32} {s0 : Int32} {σ : Mm} {r : Mm} (h : F_X5_tellThing_59 x1 x2 s0 σ = some r) : Z m_X5_tellThing S (Qv r) 59 [(0, .ref (sL S 0 0 12)), (1, .int (x1)), (2, .int (x2))] [.int (s0)] σ := by
  unfold F_X5_tellThing_59 at h
  refine z_if_eq (tgt := 255) dX5_tellThing_59 (by decide) (fun q => ?_) (fun q => ?_)
  · have h := (if_pos q).symm.trans h
    cases h
    exact z_return dX5_tellThing_255 rfl ⟨rfl, rfl⟩
  · have h := (if_neg q).symm.trans h
    refine z_aload_n dX5_tellThing_62 rfl 0 rfl ?_
    refine z_iconst (v := 4) dX5_tellThing_63 (by decide) ?_
    obtain ⟨v, τ, hc, h⟩ := bnd_e h
    refine z_callV (M' := m_X5_take) (t := 0) (i := 0) (k := 12) (As := [.int (4)]) (rest := []) kl_5_103 oy_X5_take ⟨Nat.le_of_ble_eq_true rfl, Nat.le_of_ble_eq_true rfl⟩ rfl rfl rfl rfl (Nat.le_of_ble_eq_true rfl) rfl dX5_tellThing_64 (c_X5_take hc) (fun v2 τ2 hq => ?_)
    obtain ⟨rfl, hτ⟩ := hq
    subst τ2
    change Z _ _ _ _ _ [.int (v)] _
    exact zb_X5_tellThing_67 h
def F_X5_tellThing_51 (x1 : Int32) (x2 : Int32) (s0 : Int32) (σ : Mm) : Option (Mm) := (if s0 = 0 then some (σ) else (bnd (F_X5_take 3 σ) (fun v τ => (F_X5_tellThing_59 x1 x2 v τ))))
set_option maxRecDepth 20000 in
theorem zb_X5_tellThing_51 {S : Shp} {x1 : Int32} {x2 : Int32} {s0 : Int32} {σ : Mm} {r : Mm} (h : F_X5_tellThing_51 x1 x2 s0 σ = some r) : Z m_X5_tellThing S (Qv r) 51 [(0, .ref (sL S 0 0 12)), (1, .int (x1)), (2, .int (x2))] [.int (s0)] σ := by
  unfold F_X5_tellThing_51 at h
  refine z_if_eq (tgt := 255) dX5_tellThing_51 (by decide) (fun q => ?_) (fun q => ?_)
  · have h := (if_pos q).symm.trans h
    cases h
    exact z_return dX5_tellThing_255 rfl ⟨rfl, rfl⟩
  · have h := (if_neg q).symm.trans h
    refine z_aload_n dX5_tellThing_54 rfl 0 rfl ?_
    refine z_iconst (v := 3) dX5_tellThing_55 (by decide) ?_
    obtain ⟨v, τ, hc, h⟩ := bnd_e h
    refine z_callV (M' := m_X5_take) (t := 0) (i := 0) (k := 12) (As := [.int (3)]) (rest := []) kl_5_103 oy_X5_take ⟨Nat.le_of_ble_eq_true rfl, Nat.le_of_ble_eq_true rfl⟩ rfl rfl rfl rfl (Nat.le_of_ble_eq_true rfl) rfl dX5_tellThing_56 (c_X5_take hc) (fun v2 τ2 hq => ?_)
    obtain ⟨rfl, hτ⟩ := hq
    subst τ2
    change Z _ _ _ _ _ [.int (v)] _
    exact zb_X5_tellThing_59 h
def F_X5_tellThing_43 (x1 : Int32) (x2 : Int32) (s0 : Int32) (σ : Mm) : Option (Mm) := (if s0 = 0 then some (σ) else (bnd (F_X5_take 3 σ) (fun v τ => (F_X5_tellThing_51 x1 x2 v τ))))
set_option maxRecDepth 20000 in
theorem zb_X5_tellThing_43 {S : Shp} {x1 : Int32} {x2 : Int32} {s0 : Int32} {σ : Mm} {r : Mm} (h : F_X5_tellThing_43 x1 x2 s0 σ = some r) : Z m_X5_tellThing S (Qv r) 43 [(0, .ref (sL S 0 0 12)), (1, .int (x1)), (2, .int (x2))] [.int (s0)] σ := by
  unfold F_X5_tellThing_43 at h
  refine z_if_eq (tgt := 255) dX5_tellThing_43 (by decide) (fun q => ?_) (fun q => ?_)
  · have h := (if_pos q).symm.trans h
    cases h
    exact z_return dX5_tellThing_255 rfl ⟨rfl, rfl⟩
  · have h := (if_neg q).symm.trans h
    refine z_aload_n dX5_tellThing_46 rfl 0 rfl ?_
    refine z_iconst (v := 3) dX5_tellThing_47 (by decide) ?_
    obtain ⟨v, τ, hc, h⟩ := bnd_e h
    refine z_callV (M' := m_X5_take) (t := 0) (i := 0) (k := 12) (As := [.int (3)]) (rest := []) kl_5_103 oy_X5_take ⟨Nat.le_of_ble_eq_true rfl, Nat.le_of_ble_eq_true rfl⟩ rfl rfl rfl rfl (Nat.le_of_ble_eq_true rfl) rfl dX5_tellThing_48 (c_X5_take hc) (fun v2 τ2 hq => ?_)
    obtain ⟨rfl, hτ⟩ := hq
    subst τ2
    change Z _ _ _ _ _ [.int (v)] _
    exact zb_X5_tellThing_51 h
def F_X5_tellThing_35 (x1 : Int32) (x2 : Int32) (s0 : Int32) (σ : Mm) : Option (Mm) := (if s0 = 0 then some (σ) else (bnd (F_X5_take 3 σ) (fun v τ => (F_X5_tellThing_43 x1 x2 v τ))))
set_option maxRecDepth 20000 in
theorem zb_X5_tellThing_35 {S : Shp} {x1 : Int32} {x2 : Int32} {s0 : Int32} {σ : Mm} {r : Mm} (h : F_X5_tellThing_35 x1 x2 s0 σ = some r) : Z m_X5_tellThing S (Qv r) 35 [(0, .ref (sL S 0 0 12)), (1, .int (x1)), (2, .int (x2))] [.int (s0)] σ := by
  unfold F_X5_tellThing_35 at h
  refine z_if_eq (tgt := 255) dX5_tellThing_35 (by decide) (fun q => ?_) (fun q => ?_)
  · have h := (if_pos q).symm.trans h
    cases h
    exact z_return dX5_tellThing_255 rfl ⟨rfl, rfl⟩
  · have h := (if_neg q).symm.trans h
    refine z_aload_n dX5_tellThing_38 rfl 0 rfl ?_
    refine z_iconst (v := 3) dX5_tellThing_39 (by decide) ?_
    obtain ⟨v, τ, hc, h⟩ := bnd_e h
    refine z_callV (M' := m_X5_take) (t := 0) (i := 0) (k := 12) (As := [.int (3)]) (rest := []) kl_5_103 oy_X5_take ⟨Nat.le_of_ble_eq_true rfl, Nat.le_of_ble_eq_true rfl⟩ rfl rfl rfl rfl (Nat.le_of_ble_eq_true rfl) rfl dX5_tellThing_40 (c_X5_take hc) (fun v2 τ2 hq => ?_)
    obtain ⟨rfl, hτ⟩ := hq
    subst τ2
    change Z _ _ _ _ _ [.int (v)] _
    exact zb_X5_tellThing_43 h
def F_X5_tellThing_27 (x1 : Int32) (x2 : Int32) (s0 : Int32) (σ : Mm) : Option (Mm) := (if s0 = 0 then some (σ) else (bnd (F_X5_take 2 σ) (fun v τ => (F_X5_tellThing_35 x1 x2 v τ))))
set_option maxRecDepth 20000 in
theorem zb_X5_tellThing_27 {S : Shp} {x1 : Int32} {x2 : Int32} {s0 : Int32} {σ : Mm} {r : Mm} (h : F_X5_tellThing_27 x1 x2 s0 σ = some r) : Z m_X5_tellThing S (Qv r) 27 [(0, .ref (sL S 0 0 12)), (1, .int (x1)), (2, .int (x2))] [.int (s0)] σ := by
  unfold F_X5_tellThing_27 at h
  refine z_if_eq (tgt := 255) dX5_tellThing_27 (by decide) (fun q => ?_) (fun q => ?_)
  · have h := (if_pos q).symm.trans h
    cases h
    exact z_return dX5_tellThing_255 rfl ⟨rfl, rfl⟩
  · have h := (if_neg q).symm.trans h
    refine z_aload_n dX5_tellThing_30 rfl 0 rfl ?_
    refine z_iconst (v := 2) dX5_tellThing_31 (by decide) ?_
    obtain ⟨v, τ, hc, h⟩ := bnd_e h
    refine z_callV (M' := m_X5_take) (t := 0) (i := 0) (k := 12) (As := [.int (2)]) (rest := []) kl_5_103 oy_X5_take ⟨Nat.le_of_ble_eq_true rfl, Nat.le_of_ble_eq_true rfl⟩ rfl rfl rfl rfl (Nat.le_of_ble_eq_true rfl) rfl dX5_tellThing_32 (c_X5_take hc) (fun v2 τ2 hq => ?_)
    obtain ⟨rfl, hτ⟩ := hq
    subst τ2
    change Z _ _ _ _ _ [.int (v)] _
    exact zb_X5_tellThing_35 h
def F_X5_tellThing_18 (x1 : Int32) (x2 : Int32) (s0 : Int32) (σ : Mm) : Option (Mm) := (if s0 = 0 then some (σ) else (bnd (F_X5_take x1 σ) (fun v τ => (F_X5_tellThing_27 x1 x2 v τ))))
set_option maxRecDepth 20000 in
theorem zb_X5_tellThing_18 {S : Shp} {x1 : Int32} {x2 : Int32} {s0 : Int32} {σ : Mm} {r : Mm} (h : F_X5_tellThing_18 x1 x2 s0 σ = some r) : Z m_X5_tellThing S (Qv r) 18 [(0, .ref (sL S 0 0 12)), (1, .int (x1)), (2, .int (x2))] [.int (s0)] σ := by
  unfold F_X5_tellThing_18 at h
  refine z_if_ne (tgt := 22) dX5_tellThing_18 (by decide) (fun q => ?_) (fun q => ?_)
  · have h := (if_neg q).symm.trans h
    refine z_aload_n dX5_tellThing_22 rfl 0 rfl ?_
    refine z_iload_n dX5_tellThing_23 rfl 1 rfl ?_
    obtain ⟨v, τ, hc, h⟩ := bnd_e h
    refine z_callV (M' := m_X5_take) (t := 0) (i := 0) (k := 12) (As := [.int (x1)]) (rest := []) kl_5_103 oy_X5_take ⟨Nat.le_of_ble_eq_true rfl, Nat.le_of_ble_eq_true rfl⟩ rfl rfl rfl rfl (Nat.le_of_ble_eq_true rfl) rfl dX5_tellThing_24 (c_X5_take hc) (fun v2 τ2 hq => ?_)
    obtain ⟨rfl, hτ⟩ := hq
    subst τ2
    change Z _ _ _ _ _ [.int (v)] _
    exact zb_X5_tellThing_27 h
  · have h := (if_pos q).symm.trans h
    cases h
    exact z_return dX5_tellThing_21 rfl ⟨rfl, rfl⟩
def F_X5_tellThing (x1 : Int32) (σ : Mm) : Option (Mm) := (if okP σ = true then (bnd (F_X5_hasRoom (mA σ 1 (mP σ 2) 0 1) 14 σ) (fun v τ => (F_X5_tellThing_18 x1 (mA σ 0 0 12 4) v τ))) else none)
set_option maxRecDepth 20000 in
theorem zb_X5_tellThing {S : Shp} {x1 : Int32} {σ : Mm} {r : Mm} (h : F_X5_tellThing x1 σ = some r) : Z m_X5_tellThing S (Qv r) 0 [(0, .ref (sL S 0 0 12)), (1, .int (x1))] [] σ := by
  unfold F_X5_tellThing at h
  obtain ⟨g1, h⟩ := gd h
  refine z_aload_n dX5_tellThing_0 rfl 0 rfl ?_
  refine gf_5_18 rfl dX5_tellThing_1 ?_
  refine z_istore_n (lv' := [(0, .ref (sL S 0 0 12)), (1, .int (x1)), (2, .int (mA σ 0 0 12 4))]) dX5_tellThing_4 rfl (by decide) [1, 2, 0] rfl ?_
  refine z_aload_n dX5_tellThing_5 rfl 0 rfl ?_
  refine z_aload_n dX5_tellThing_6 rfl 0 rfl ?_
  have hp := g1
  refine gf_5_38 rfl dX5_tellThing_7 ?_
  refine gf_5_84 (lv1 (okP_2 hp) rfl) rfl dX5_tellThing_10 ?_
  refine z_bipush (v := 14) dX5_tellThing_13 (by decide) ?_
  obtain ⟨v, τ, hc, h⟩ := bnd_e h
  refine z_callV (M' := m_X5_hasRoom) (t := 0) (i := 0) (k := 12) (As := [.int (mA σ 1 (mP σ 2) 0 1), .int (14)]) (rest := []) kl_5_99 oy_X5_hasRoom ⟨Nat.le_of_ble_eq_true rfl, Nat.le_of_ble_eq_true rfl⟩ rfl rfl rfl rfl (Nat.le_of_ble_eq_true rfl) rfl dX5_tellThing_15 (c_X5_hasRoom hc) (fun v2 τ2 hq => ?_)
  obtain ⟨rfl, hτ⟩ := hq
  subst τ2
  change Z _ _ _ _ _ [.int (v)] _
  exact zb_X5_tellThing_18 h
/-- SkyStones$Reader.tellThing(I)V -/
theorem c_X5_tellThing {S : Shp} {x1 : Int32} {σ : Mm} {r : Mm} (h : F_X5_tellThing x1 σ = some r) : Ct m_X5_tellThing S [.ref (sL S 0 0 12), .int (x1)] σ (Qv r) := Ct.of (by decide +kernel) (Nat.le_of_ble_eq_true rfl) (zb_X5_tellThing h)
def F_X5_tellAll_181 (σ : Mm) : Option (Mm) := some (setA σ 0 0 12 (upd (mA σ 0 0 12) 1 (mA σ 0 0 12 6)))
set_option maxRecDepth 20000 in
theorem zb_X5_tellAll_181 {S : Shp} {σ : Mm} {r : Mm} (h : F_X5_tellAll_181 σ = some r) : Z m_X5_tellAll S (Qv r) 181 [(0, .ref (sL S 0 0 12))] [] σ := by
  unfold F_X5_tellAll_181 at h
  refine z_aload_n dX5_tellAll_181 rfl 0 rfl ?_
  refine z_aload_n dX5_tellAll_182 rfl 0 rfl ?_
  refine gf_5_24 rfl dX5_tellAll_183 ?_
  refine pf_5_15 rfl dX5_tellAll_186 ?_
  cases h
  exact z_return dX5_tellAll_189 rfl ⟨rfl, rfl⟩
def F_X5_tellAll_166 (σ : Mm) : Option (Mm) := (if (mA σ 0 0 12 0) = 0 then (F_X5_tellAll_181 (setA σ 0 0 12 (upd (mA σ 0 0 12) 0 (mA σ 0 0 12 5)))) else some (σ))
set_option maxRecDepth 20000 in
theorem zb_X5_tellAll_166 {S : Shp} {σ : Mm} {r : Mm} (h : F_X5_tellAll_166 σ = some r) : Z m_X5_tellAll S (Qv r) 166 [(0, .ref (sL S 0 0 12))] [] σ := by
  unfold F_X5_tellAll_166 at h
  refine z_aload_n dX5_tellAll_166 rfl 0 rfl ?_
  refine gf_5_9 rfl dX5_tellAll_167 ?_
  refine z_if_ne (tgt := 189) dX5_tellAll_170 (by decide) (fun q => ?_) (fun q => ?_)
  · have h := (if_neg q).symm.trans h
    cases h
    exact z_return dX5_tellAll_189 rfl ⟨rfl, rfl⟩
  · have h := (if_pos q).symm.trans h
    refine z_aload_n dX5_tellAll_173 rfl 0 rfl ?_
    refine z_aload_n dX5_tellAll_174 rfl 0 rfl ?_
    refine gf_5_21 rfl dX5_tellAll_175 ?_
    refine pf_5_9 rfl dX5_tellAll_178 ?_
    exact zb_X5_tellAll_181 h
def F_X5_tellAll_160 (rc32 : Int32 → Mm → Option (Mm)) (x2 : Int32) (σ : Mm) : Option (Mm) := (rc32 (x2 + 1) σ)
set_option maxRecDepth 20000 in
theorem zb_X5_tellAll_160 {S : Shp} {rc32 : Int32 → Mm → Option (Mm)} (hrc32 : ∀ {x2 : Int32} {σ : Mm} {r : Mm}, rc32 x2 σ = some r → Z m_X5_tellAll S (Qv r) 32 [(0, .ref (sL S 0 0 12)), (2, .int (x2))] [] σ) {x2 : Int32} {σ : Mm} {r : Mm} (h : F_X5_tellAll_160 rc32 x2 σ = some r) : Z m_X5_tellAll S (Qv r) 160 [(0, .ref (sL S 0 0 12)), (2, .int (x2))] [] σ := by
  unfold F_X5_tellAll_160 at h
  refine z_iinc (j := 1) (v := x2 + 1) (lv' := [(0, .ref (sL S 0 0 12)), (2, .int (x2 + 1))]) dX5_tellAll_160 rfl rfl (by decide) [1, 0] rfl ?_
  refine z_goto (tgt := 32) dX5_tellAll_163 (by decide) ?_
  exact hrc32 h
def F_X5_tellAll_109 (rc32 : Int32 → Mm → Option (Mm)) (x2 : Int32) (σ : Mm) : Option (Mm) := (F_X5_tellAll_160 rc32 x2 σ)
set_option maxRecDepth 20000 in
theorem zb_X5_tellAll_109 {S : Shp} {rc32 : Int32 → Mm → Option (Mm)} (hrc32 : ∀ {x2 : Int32} {σ : Mm} {r : Mm}, rc32 x2 σ = some r → Z m_X5_tellAll S (Qv r) 32 [(0, .ref (sL S 0 0 12)), (2, .int (x2))] [] σ) {x2 : Int32} {σ : Mm} {r : Mm} (h : F_X5_tellAll_109 rc32 x2 σ = some r) : Z m_X5_tellAll S (Qv r) 109 [(0, .ref (sL S 0 0 12)), (2, .int (x2))] [] σ := by
  unfold F_X5_tellAll_109 at h
  refine z_goto (tgt := 160) dX5_tellAll_109 (by decide) ?_
  exact zb_X5_tellAll_160 hrc32 h
def F_X5_tellAll_117 (rc32 : Int32 → Mm → Option (Mm)) (x2 : Int32) (σ : Mm) : Option (Mm) := (F_X5_tellAll_160 rc32 x2 σ)
set_option maxRecDepth 20000 in
theorem zb_X5_tellAll_117 {S : Shp} {rc32 : Int32 → Mm → Option (Mm)} (hrc32 : ∀ {x2 : Int32} {σ : Mm} {r : Mm}, rc32 x2 σ = some r → Z m_X5_tellAll S (Qv r) 32 [(0, .ref (sL S 0 0 12)), (2, .int (x2))] [] σ) {x2 : Int32} {σ : Mm} {r : Mm} (h : F_X5_tellAll_117 rc32 x2 σ = some r) : Z m_X5_tellAll S (Qv r) 117 [(0, .ref (sL S 0 0 12)), (2, .int (x2))] [] σ := by
  unfold F_X5_tellAll_117 at h
  refine z_goto (tgt := 160) dX5_tellAll_117 (by decide) ?_
  exact zb_X5_tellAll_160 hrc32 h
def F_X5_tellAll_124 (rc32 : Int32 → Mm → Option (Mm)) (x2 : Int32) (σ : Mm) : Option (Mm) := (F_X5_tellAll_160 rc32 x2 σ)
set_option maxRecDepth 20000 in
theorem zb_X5_tellAll_124 {S : Shp} {rc32 : Int32 → Mm → Option (Mm)} (hrc32 : ∀ {x2 : Int32} {σ : Mm} {r : Mm}, rc32 x2 σ = some r → Z m_X5_tellAll S (Qv r) 32 [(0, .ref (sL S 0 0 12)), (2, .int (x2))] [] σ) {x2 : Int32} {σ : Mm} {r : Mm} (h : F_X5_tellAll_124 rc32 x2 σ = some r) : Z m_X5_tellAll S (Qv r) 124 [(0, .ref (sL S 0 0 12)), (2, .int (x2))] [] σ := by
  unfold F_X5_tellAll_124 at h
  refine z_goto (tgt := 160) dX5_tellAll_124 (by decide) ?_
  exact zb_X5_tellAll_160 hrc32 h
def F_X5_tellAll_131 (rc32 : Int32 → Mm → Option (Mm)) (x2 : Int32) (σ : Mm) : Option (Mm) := (F_X5_tellAll_160 rc32 x2 σ)
set_option maxRecDepth 20000 in
theorem zb_X5_tellAll_131 {S : Shp} {rc32 : Int32 → Mm → Option (Mm)} (hrc32 : ∀ {x2 : Int32} {σ : Mm} {r : Mm}, rc32 x2 σ = some r → Z m_X5_tellAll S (Qv r) 32 [(0, .ref (sL S 0 0 12)), (2, .int (x2))] [] σ) {x2 : Int32} {σ : Mm} {r : Mm} (h : F_X5_tellAll_131 rc32 x2 σ = some r) : Z m_X5_tellAll S (Qv r) 131 [(0, .ref (sL S 0 0 12)), (2, .int (x2))] [] σ := by
  unfold F_X5_tellAll_131 at h
  refine z_goto (tgt := 160) dX5_tellAll_131 (by decide) ?_
  exact zb_X5_tellAll_160 hrc32 h
def F_X5_tellAll_138 (rc32 : Int32 → Mm → Option (Mm)) (x2 : Int32) (σ : Mm) : Option (Mm) := (F_X5_tellAll_160 rc32 x2 σ)
set_option maxRecDepth 20000 in
theorem zb_X5_tellAll_138 {S : Shp} {rc32 : Int32 → Mm → Option (Mm)} (hrc32 : ∀ {x2 : Int32} {σ : Mm} {r : Mm}, rc32 x2 σ = some r → Z m_X5_tellAll S (Qv r) 32 [(0, .ref (sL S 0 0 12)), (2, .int (x2))] [] σ) {x2 : Int32} {σ : Mm} {r : Mm} (h : F_X5_tellAll_138 rc32 x2 σ = some r) : Z m_X5_tellAll S (Qv r) 138 [(0, .ref (sL S 0 0 12)), (2, .int (x2))] [] σ := by
  unfold F_X5_tellAll_138 at h
  refine z_goto (tgt := 160) dX5_tellAll_138 (by decide) ?_
  exact zb_X5_tellAll_160 hrc32 h
def F_X5_tellAll_145 (rc32 : Int32 → Mm → Option (Mm)) (x2 : Int32) (σ : Mm) : Option (Mm) := (F_X5_tellAll_160 rc32 x2 σ)
set_option maxRecDepth 20000 in
theorem zb_X5_tellAll_145 {S : Shp} {rc32 : Int32 → Mm → Option (Mm)} (hrc32 : ∀ {x2 : Int32} {σ : Mm} {r : Mm}, rc32 x2 σ = some r → Z m_X5_tellAll S (Qv r) 32 [(0, .ref (sL S 0 0 12)), (2, .int (x2))] [] σ) {x2 : Int32} {σ : Mm} {r : Mm} (h : F_X5_tellAll_145 rc32 x2 σ = some r) : Z m_X5_tellAll S (Qv r) 145 [(0, .ref (sL S 0 0 12)), (2, .int (x2))] [] σ := by
  unfold F_X5_tellAll_145 at h
  refine z_goto (tgt := 160) dX5_tellAll_145 (by decide) ?_
  exact zb_X5_tellAll_160 hrc32 h
def F_X5_tellAll_152 (rc32 : Int32 → Mm → Option (Mm)) (x2 : Int32) (σ : Mm) : Option (Mm) := (F_X5_tellAll_160 rc32 x2 σ)
set_option maxRecDepth 20000 in
theorem zb_X5_tellAll_152 {S : Shp} {rc32 : Int32 → Mm → Option (Mm)} (hrc32 : ∀ {x2 : Int32} {σ : Mm} {r : Mm}, rc32 x2 σ = some r → Z m_X5_tellAll S (Qv r) 32 [(0, .ref (sL S 0 0 12)), (2, .int (x2))] [] σ) {x2 : Int32} {σ : Mm} {r : Mm} (h : F_X5_tellAll_152 rc32 x2 σ = some r) : Z m_X5_tellAll S (Qv r) 152 [(0, .ref (sL S 0 0 12)), (2, .int (x2))] [] σ := by
  unfold F_X5_tellAll_152 at h
  refine z_goto (tgt := 160) dX5_tellAll_152 (by decide) ?_
  exact zb_X5_tellAll_160 hrc32 h
def F_X5_tellAll_50 (rc32 : Int32 → Mm → Option (Mm)) (x2 : Int32) (s0 : Int32) (σ : Mm) : Option (Mm) := (if s0 = 0 then (F_X5_tellAll_166 σ) else (if s0 = 16 then (bnv (F_X5_tellThing s0 σ) (fun τ => (F_X5_tellAll_109 rc32 x2 τ))) else (if s0 = 17 then (bnv (F_X5_tellThing s0 σ) (fun τ => (F_X5_tellAll_117 rc32 x2 τ))) else (if s0 = 18 then (bnv (F_X5_tellDoor  σ) (fun τ => (F_X5_tellAll_124 rc32 x2 τ))) else (if s0 = 19 then (bnv (F_X5_tellHill  σ) (fun τ => (F_X5_tellAll_131 rc32 x2 τ))) else (if s0 = 20 then (bnv (F_X5_tellSky  σ) (fun τ => (F_X5_tellAll_138 rc32 x2 τ))) else (if s0 = 21 then (bnv (F_X5_stop 1 σ) (fun τ => (F_X5_tellAll_160 rc32 x2 τ))) else (if s0 = 22 then (bnv (F_X5_tellNear  σ) (fun τ => (F_X5_tellAll_145 rc32 x2 τ))) else (if s0 = 23 then (bnv (F_X5_tellRule  σ) (fun τ => (F_X5_tellAll_152 rc32 x2 τ))) else (bnv (F_X5_stop 1 σ) (fun τ => (F_X5_tellAll_160 rc32 x2 τ))))))))))))
set_option maxRecDepth 20000 in
theorem zb_X5_tellAll_50 {S : Shp} {rc32 : Int32 → Mm → Option (Mm)} (hrc32 : ∀ {x2 : Int32} {σ : Mm} {r : Mm}, rc32 x2 σ = some r → Z m_X5_tellAll S (Qv r) 32 [(0, .ref (sL S 0 0 12)), (2, .int (x2))] [] σ) {x2 : Int32} {s0 : Int32} {σ : Mm} {r : Mm} (h : F_X5_tellAll_50 rc32 x2 s0 σ = some r) : Z m_X5_tellAll S (Qv r) 50 [(0, .ref (sL S 0 0 12)), (2, .int (x2))] [.int (s0)] σ := by
  unfold F_X5_tellAll_50 at h
  refine z_istore_n (lv' := [(0, .ref (sL S 0 0 12)), (2, .int (x2)), (3, .int (s0))]) dX5_tellAll_50 rfl (by decide) [1, 2, 0] rfl ?_
  refine z_iload_n dX5_tellAll_51 rfl 2 rfl ?_
  refine z_if_ne (tgt := 58) dX5_tellAll_52 (by decide) (fun q => ?_) (fun q => ?_)
  · have h := (if_neg q).symm.trans h
    refine z_iload_n dX5_tellAll_58 rfl 2 rfl ?_
    by_cases g1 : s0 = 16
    · have h := (if_pos g1).symm.trans h
      refine z_tableIn (tgt := 104) (off := 45) dX5_tellAll_59 (by rw [g1]; decide) (by rw [g1]; decide) (by rw [g1]; rfl) (by decide) ?_
      refine z_aload_n dX5_tellAll_104 rfl 0 rfl ?_
      refine z_iload_n dX5_tellAll_105 rfl 2 rfl ?_
      obtain ⟨τ, hc, h⟩ := bnv_e h
      refine z_callV (M' := m_X5_tellThing) (t := 0) (i := 0) (k := 12) (As := [.int (s0)]) (rest := []) kl_5_46 oy_X5_tellThing ⟨Nat.le_of_ble_eq_true rfl, Nat.le_of_ble_eq_true rfl⟩ rfl rfl rfl rfl (Nat.le_of_ble_eq_true rfl) rfl dX5_tellAll_106 (c_X5_tellThing hc) (fun v2 τ2 hq => ?_)
      obtain ⟨rfl, hτ⟩ := hq
      subst τ2
      change Z _ _ _ _ _ [] _
      refine Z.lv [0, 1] rfl ?_
      exact zb_X5_tellAll_109 hrc32 h
    · have h := (if_neg g1).symm.trans h
      by_cases g2 : s0 = 17
      · have h := (if_pos g2).symm.trans h
        refine z_tableIn (tgt := 112) (off := 53) dX5_tellAll_59 (by rw [g2]; decide) (by rw [g2]; decide) (by rw [g2]; rfl) (by decide) ?_
        refine z_aload_n dX5_tellAll_112 rfl 0 rfl ?_
        refine z_iload_n dX5_tellAll_113 rfl 2 rfl ?_
        obtain ⟨τ, hc, h⟩ := bnv_e h
        refine z_callV (M' := m_X5_tellThing) (t := 0) (i := 0) (k := 12) (As := [.int (s0)]) (rest := []) kl_5_46 oy_X5_tellThing ⟨Nat.le_of_ble_eq_true rfl, Nat.le_of_ble_eq_true rfl⟩ rfl rfl rfl rfl (Nat.le_of_ble_eq_true rfl) rfl dX5_tellAll_114 (c_X5_tellThing hc) (fun v2 τ2 hq => ?_)
        obtain ⟨rfl, hτ⟩ := hq
        subst τ2
        change Z _ _ _ _ _ [] _
        refine Z.lv [0, 1] rfl ?_
        exact zb_X5_tellAll_117 hrc32 h
      · have h := (if_neg g2).symm.trans h
        by_cases g3 : s0 = 18
        · have h := (if_pos g3).symm.trans h
          refine z_tableIn (tgt := 120) (off := 61) dX5_tellAll_59 (by rw [g3]; decide) (by rw [g3]; decide) (by rw [g3]; rfl) (by decide) ?_
          refine z_aload_n dX5_tellAll_120 rfl 0 rfl ?_
          obtain ⟨τ, hc, h⟩ := bnv_e h
          refine z_callV (M' := m_X5_tellDoor) (t := 0) (i := 0) (k := 12) (As := []) (rest := []) kl_5_50 oy_X5_tellDoor ⟨Nat.le_of_ble_eq_true rfl, Nat.le_of_ble_eq_true rfl⟩ rfl rfl rfl rfl (Nat.le_of_ble_eq_true rfl) rfl dX5_tellAll_121 (c_X5_tellDoor hc) (fun v2 τ2 hq => ?_)
          obtain ⟨rfl, hτ⟩ := hq
          subst τ2
          change Z _ _ _ _ _ [] _
          refine Z.lv [0, 1] rfl ?_
          exact zb_X5_tellAll_124 hrc32 h
        · have h := (if_neg g3).symm.trans h
          by_cases g4 : s0 = 19
          · have h := (if_pos g4).symm.trans h
            refine z_tableIn (tgt := 127) (off := 68) dX5_tellAll_59 (by rw [g4]; decide) (by rw [g4]; decide) (by rw [g4]; rfl) (by decide) ?_
            refine z_aload_n dX5_tellAll_127 rfl 0 rfl ?_
            obtain ⟨τ, hc, h⟩ := bnv_e h
            refine z_callV (M' := m_X5_tellHill) (t := 0) (i := 0) (k := 12) (As := []) (rest := []) kl_5_53 oy_X5_tellHill ⟨Nat.le_of_ble_eq_true rfl, Nat.le_of_ble_eq_true rfl⟩ rfl rfl rfl rfl (Nat.le_of_ble_eq_true rfl) rfl dX5_tellAll_128 (c_X5_tellHill hc) (fun v2 τ2 hq => ?_)
            obtain ⟨rfl, hτ⟩ := hq
            subst τ2
            change Z _ _ _ _ _ [] _
            refine Z.lv [0, 1] rfl ?_
            exact zb_X5_tellAll_131 hrc32 h
          · have h := (if_neg g4).symm.trans h
            by_cases g5 : s0 = 20
            · have h := (if_pos g5).symm.trans h
              refine z_tableIn (tgt := 134) (off := 75) dX5_tellAll_59 (by rw [g5]; decide) (by rw [g5]; decide) (by rw [g5]; rfl) (by decide) ?_
              refine z_aload_n dX5_tellAll_134 rfl 0 rfl ?_
              obtain ⟨τ, hc, h⟩ := bnv_e h
              refine z_callV (M' := m_X5_tellSky) (t := 0) (i := 0) (k := 12) (As := []) (rest := []) kl_5_56 oy_X5_tellSky ⟨Nat.le_of_ble_eq_true rfl, Nat.le_of_ble_eq_true rfl⟩ rfl rfl rfl rfl (Nat.le_of_ble_eq_true rfl) rfl dX5_tellAll_135 (c_X5_tellSky hc) (fun v2 τ2 hq => ?_)
              obtain ⟨rfl, hτ⟩ := hq
              subst τ2
              change Z _ _ _ _ _ [] _
              refine Z.lv [0, 1] rfl ?_
              exact zb_X5_tellAll_138 hrc32 h
            · have h := (if_neg g5).symm.trans h
              by_cases g6 : s0 = 21
              · have h := (if_pos g6).symm.trans h
                refine z_tableIn (tgt := 155) (off := 96) dX5_tellAll_59 (by rw [g6]; decide) (by rw [g6]; decide) (by rw [g6]; rfl) (by decide) ?_
                refine z_aload_n dX5_tellAll_155 rfl 0 rfl ?_
                refine z_iconst (v := 1) dX5_tellAll_156 (by decide) ?_
                obtain ⟨τ, hc, h⟩ := bnv_e h
                refine z_callV (M' := m_X5_stop) (t := 0) (i := 0) (k := 12) (As := [.int (1)]) (rest := []) kl_5_65 oy_X5_stop ⟨Nat.le_of_ble_eq_true rfl, Nat.le_of_ble_eq_true rfl⟩ rfl rfl rfl rfl (Nat.le_of_ble_eq_true rfl) rfl dX5_tellAll_157 (c_X5_stop hc) (fun v2 τ2 hq => ?_)
                obtain ⟨rfl, hτ⟩ := hq
                subst τ2
                change Z _ _ _ _ _ [] _
                refine Z.lv [0, 1] rfl ?_
                exact zb_X5_tellAll_160 hrc32 h
              · have h := (if_neg g6).symm.trans h
                by_cases g7 : s0 = 22
                · have h := (if_pos g7).symm.trans h
                  refine z_tableIn (tgt := 141) (off := 82) dX5_tellAll_59 (by rw [g7]; decide) (by rw [g7]; decide) (by rw [g7]; rfl) (by decide) ?_
                  refine z_aload_n dX5_tellAll_141 rfl 0 rfl ?_
                  obtain ⟨τ, hc, h⟩ := bnv_e h
                  refine z_callV (M' := m_X5_tellNear) (t := 0) (i := 0) (k := 12) (As := []) (rest := []) kl_5_59 oy_X5_tellNear ⟨Nat.le_of_ble_eq_true rfl, Nat.le_of_ble_eq_true rfl⟩ rfl rfl rfl rfl (Nat.le_of_ble_eq_true rfl) rfl dX5_tellAll_142 (c_X5_tellNear hc) (fun v2 τ2 hq => ?_)
                  obtain ⟨rfl, hτ⟩ := hq
                  subst τ2
                  change Z _ _ _ _ _ [] _
                  refine Z.lv [0, 1] rfl ?_
                  exact zb_X5_tellAll_145 hrc32 h
                · have h := (if_neg g7).symm.trans h
                  by_cases g8 : s0 = 23
                  · have h := (if_pos g8).symm.trans h
                    refine z_tableIn (tgt := 148) (off := 89) dX5_tellAll_59 (by rw [g8]; decide) (by rw [g8]; decide) (by rw [g8]; rfl) (by decide) ?_
                    refine z_aload_n dX5_tellAll_148 rfl 0 rfl ?_
                    obtain ⟨τ, hc, h⟩ := bnv_e h
                    refine z_callV (M' := m_X5_tellRule) (t := 0) (i := 0) (k := 12) (As := []) (rest := []) kl_5_62 oy_X5_tellRule ⟨Nat.le_of_ble_eq_true rfl, Nat.le_of_ble_eq_true rfl⟩ rfl rfl rfl rfl (Nat.le_of_ble_eq_true rfl) rfl dX5_tellAll_149 (c_X5_tellRule hc) (fun v2 τ2 hq => ?_)
                    obtain ⟨rfl, hτ⟩ := hq
                    subst τ2
                    change Z _ _ _ _ _ [] _
                    refine Z.lv [0, 1] rfl ?_
                    exact zb_X5_tellAll_152 hrc32 h
                  · have h := (if_neg g8).symm.trans h
                    refine z_tableOut (tgt := 155) dX5_tellAll_59 (by have eg1 := nei (n := 16) (by decide) g1; have eg2 := nei (n := 17) (by decide) g2; have eg3 := nei (n := 18) (by decide) g3; have eg4 := nei (n := 19) (by decide) g4; have eg5 := nei (n := 20) (by decide) g5; have eg6 := nei (n := 21) (by decide) g6; have eg7 := nei (n := 22) (by decide) g7; have eg8 := nei (n := 23) (by decide) g8; omega) (by decide) ?_
                    refine z_aload_n dX5_tellAll_155 rfl 0 rfl ?_
                    refine z_iconst (v := 1) dX5_tellAll_156 (by decide) ?_
                    obtain ⟨τ, hc, h⟩ := bnv_e h
                    refine z_callV (M' := m_X5_stop) (t := 0) (i := 0) (k := 12) (As := [.int (1)]) (rest := []) kl_5_65 oy_X5_stop ⟨Nat.le_of_ble_eq_true rfl, Nat.le_of_ble_eq_true rfl⟩ rfl rfl rfl rfl (Nat.le_of_ble_eq_true rfl) rfl dX5_tellAll_157 (c_X5_stop hc) (fun v2 τ2 hq => ?_)
                    obtain ⟨rfl, hτ⟩ := hq
                    subst τ2
                    change Z _ _ _ _ _ [] _
                    refine Z.lv [0, 1] rfl ?_
                    exact zb_X5_tellAll_160 hrc32 h
  · have h := (if_pos q).symm.trans h
    refine z_goto (tgt := 166) dX5_tellAll_55 (by decide) ?_
    refine Z.lv [0] rfl ?_
    exact zb_X5_tellAll_166 h
def B_X5_tellAll_32 (rc32 : Int32 → Mm → Option (Mm)) (x2 : Int32) (σ : Mm) : Option (Mm) := (if (400 : Int32) < x2 then (F_X5_tellAll_166 σ) else (if (mA σ 0 0 12 0) = 0 then (bnd (F_X5_kindHere  σ) (fun v τ => (F_X5_tellAll_50 rc32 x2 v τ))) else (F_X5_tellAll_166 σ)))
set_option maxRecDepth 20000 in
theorem zB_X5_tellAll_32 {S : Shp} {rc32 : Int32 → Mm → Option (Mm)} (hrc32 : ∀ {x2 : Int32} {σ : Mm} {r : Mm}, rc32 x2 σ = some r → Z m_X5_tellAll S (Qv r) 32 [(0, .ref (sL S 0 0 12)), (2, .int (x2))] [] σ) {x2 : Int32} {σ : Mm} {r : Mm} (h : B_X5_tellAll_32 rc32 x2 σ = some r) : Z m_X5_tellAll S (Qv r) 32 [(0, .ref (sL S 0 0 12)), (2, .int (x2))] [] σ := by
  unfold B_X5_tellAll_32 at h
  refine z_iload_n dX5_tellAll_32 rfl 1 rfl ?_
  refine z_sipush (v := 400) dX5_tellAll_33 (by decide) ?_
  refine z_icmp_gt (tgt := 166) dX5_tellAll_36 (by decide) (fun q => ?_) (fun q => ?_)
  · have h := (if_pos q).symm.trans h
    refine Z.lv [0] rfl ?_
    exact zb_X5_tellAll_166 h
  · have h := (if_neg q).symm.trans h
    refine z_aload_n dX5_tellAll_39 rfl 0 rfl ?_
    refine gf_5_9 rfl dX5_tellAll_40 ?_
    refine z_if_ne (tgt := 166) dX5_tellAll_43 (by decide) (fun q => ?_) (fun q => ?_)
    · have h := (if_neg q).symm.trans h
      refine Z.lv [0] rfl ?_
      exact zb_X5_tellAll_166 h
    · have h := (if_pos q).symm.trans h
      refine z_aload_n dX5_tellAll_46 rfl 0 rfl ?_
      obtain ⟨v, τ, hc, h⟩ := bnd_e h
      refine z_callV (M' := m_X5_kindHere) (t := 0) (i := 0) (k := 12) (As := []) (rest := []) kl_5_42 oy_X5_kindHere ⟨Nat.le_of_ble_eq_true rfl, Nat.le_of_ble_eq_true rfl⟩ rfl rfl rfl rfl (Nat.le_of_ble_eq_true rfl) rfl dX5_tellAll_47 (c_X5_kindHere hc) (fun v2 τ2 hq => ?_)
      obtain ⟨rfl, hτ⟩ := hq
      subst τ2
      change Z _ _ _ _ _ [.int (v)] _
      exact zb_X5_tellAll_50 hrc32 h
def F_X5_tellAll_32 : Nat → Int32 → Mm → Option (Mm)
  | 0 => fun _ _ => none
  | n + 1 => B_X5_tellAll_32 (F_X5_tellAll_32 n)
theorem zl_X5_tellAll_32 {S : Shp} : ∀ (nn : Nat) {x2 : Int32} {σ : Mm} {r : Mm}, F_X5_tellAll_32 nn x2 σ = some r → Z m_X5_tellAll S (Qv r) 32 [(0, .ref (sL S 0 0 12)), (2, .int (x2))] [] σ := by
  intro nn
  induction nn with
  | zero => intro x2 σ r h; cases h
  | succ nn ih => intro x2 σ r h; exact zB_X5_tellAll_32 @ih h
def F_X5_tellAll_30 (σ : Mm) : Option (Mm) := (F_X5_tellAll_32 FU 0 σ)
set_option maxRecDepth 20000 in
theorem zb_X5_tellAll_30 {S : Shp} {σ : Mm} {r : Mm} (h : F_X5_tellAll_30 σ = some r) : Z m_X5_tellAll S (Qv r) 30 [(0, .ref (sL S 0 0 12))] [] σ := by
  unfold F_X5_tellAll_30 at h
  refine z_iconst (v := 0) dX5_tellAll_30 (by decide) ?_
  refine z_istore_n (lv' := [(0, .ref (sL S 0 0 12)), (2, .int (0))]) dX5_tellAll_31 rfl (by decide) [1, 0] rfl ?_
  exact zl_X5_tellAll_32 FU h
def F_X5_tellAll_25 (σ : Mm) : Option (Mm) := (F_X5_tellAll_30 (setA σ 0 0 12 (upd (mA σ 0 0 12) 6 ((-1)))))
set_option maxRecDepth 20000 in
theorem zb_X5_tellAll_25 {S : Shp} {σ : Mm} {r : Mm} (h : F_X5_tellAll_25 σ = some r) : Z m_X5_tellAll S (Qv r) 25 [(0, .ref (sL S 0 0 12))] [] σ := by
  unfold F_X5_tellAll_25 at h
  refine z_aload_n dX5_tellAll_25 rfl 0 rfl ?_
  refine z_iconst (v := (-1)) dX5_tellAll_26 (by decide) ?_
  refine pf_5_24 rfl dX5_tellAll_27 ?_
  exact zb_X5_tellAll_30 h
def F_X5_tellAll_20 (σ : Mm) : Option (Mm) := (F_X5_tellAll_25 (setA σ 0 0 12 (upd (mA σ 0 0 12) 5 0)))
set_option maxRecDepth 20000 in
theorem zb_X5_tellAll_20 {S : Shp} {σ : Mm} {r : Mm} (h : F_X5_tellAll_20 σ = some r) : Z m_X5_tellAll S (Qv r) 20 [(0, .ref (sL S 0 0 12))] [] σ := by
  unfold F_X5_tellAll_20 at h
  refine z_aload_n dX5_tellAll_20 rfl 0 rfl ?_
  refine z_iconst (v := 0) dX5_tellAll_21 (by decide) ?_
  refine pf_5_21 rfl dX5_tellAll_22 ?_
  exact zb_X5_tellAll_25 h
def F_X5_tellAll_15 (σ : Mm) : Option (Mm) := (F_X5_tellAll_20 (setA σ 0 0 12 (upd (mA σ 0 0 12) 1 ((-1)))))
set_option maxRecDepth 20000 in
theorem zb_X5_tellAll_15 {S : Shp} {σ : Mm} {r : Mm} (h : F_X5_tellAll_15 σ = some r) : Z m_X5_tellAll S (Qv r) 15 [(0, .ref (sL S 0 0 12))] [] σ := by
  unfold F_X5_tellAll_15 at h
  refine z_aload_n dX5_tellAll_15 rfl 0 rfl ?_
  refine z_iconst (v := (-1)) dX5_tellAll_16 (by decide) ?_
  refine pf_5_15 rfl dX5_tellAll_17 ?_
  exact zb_X5_tellAll_20 h
def F_X5_tellAll_10 (σ : Mm) : Option (Mm) := (F_X5_tellAll_15 (setA σ 0 0 12 (upd (mA σ 0 0 12) 0 0)))
set_option maxRecDepth 20000 in
theorem zb_X5_tellAll_10 {S : Shp} {σ : Mm} {r : Mm} (h : F_X5_tellAll_10 σ = some r) : Z m_X5_tellAll S (Qv r) 10 [(0, .ref (sL S 0 0 12))] [] σ := by
  unfold F_X5_tellAll_10 at h
  refine z_aload_n dX5_tellAll_10 rfl 0 rfl ?_
  refine z_iconst (v := 0) dX5_tellAll_11 (by decide) ?_
  refine pf_5_9 rfl dX5_tellAll_12 ?_
  exact zb_X5_tellAll_15 h
def F_X5_tellAll_5 (σ : Mm) : Option (Mm) := (F_X5_tellAll_10 (setA σ 0 0 12 (upd (mA σ 0 0 12) 4 0)))
set_option maxRecDepth 20000 in
theorem zb_X5_tellAll_5 {S : Shp} {σ : Mm} {r : Mm} (h : F_X5_tellAll_5 σ = some r) : Z m_X5_tellAll S (Qv r) 5 [(0, .ref (sL S 0 0 12))] [] σ := by
  unfold F_X5_tellAll_5 at h
  refine z_aload_n dX5_tellAll_5 rfl 0 rfl ?_
  refine z_iconst (v := 0) dX5_tellAll_6 (by decide) ?_
  refine pf_5_18 rfl dX5_tellAll_7 ?_
  exact zb_X5_tellAll_10 h
def F_X5_tellAll (i0 : Nat) (σ : Mm) : Option (Mm) := (F_X5_tellAll_5 (setP σ 2 i0))
set_option maxRecDepth 20000 in
theorem zb_X5_tellAll {S : Shp} {i0 : Nat} (hi0 : tlv (sH S) i0 = true) {σ : Mm} {r : Mm} (h : F_X5_tellAll i0 σ = some r) : Z m_X5_tellAll S (Qv r) 0 [(0, .ref (sL S 0 0 12)), (1, .ref (sL S 1 i0 0))] [] σ := by
  unfold F_X5_tellAll at h
  refine z_aload_n dX5_tellAll_0 rfl 0 rfl ?_
  refine z_aload_n dX5_tellAll_1 rfl 1 rfl ?_
  refine z_putP2 (j := i0) qw_192 dX5_tellAll_2 ?_
  refine Z.lv [0] rfl ?_
  exact zb_X5_tellAll_5 h
/-- SkyStones$Reader.tellAll(LSkyStones$Told;)V -/
theorem c_X5_tellAll {S : Shp} {i0 : Nat} (hi0 : tlv (sH S) i0 = true) {σ : Mm} {r : Mm} (h : F_X5_tellAll i0 σ = some r) : Ct m_X5_tellAll S [.ref (sL S 0 0 12), .ref (sL S 1 i0 0)] σ (Qv r) := Ct.of (by decide +kernel) (Nat.le_of_ble_eq_true rfl) (zb_X5_tellAll hi0 h)
