def F_X12_gone_16 (s0 : Int32) (σ : Mm) : Option (Int32 × Mm) := some (s0, σ)
set_option maxRecDepth 20000 in
theorem zb_X12_gone_16 {S : Shp} {s0 : Int32} {σ : Mm} {r : Int32 × Mm} (h : F_X12_gone_16 s0 σ = some r) : Z m_X12_gone S (Qi r) 16 [] [.int (s0)] σ := by
  unfold F_X12_gone_16 at h
  refine z_goto (tgt := 20) dX12_gone_16 (by decide) ?_
  cases h
  exact z_ireturn dX12_gone_20 rfl rfl ⟨rfl, rfl⟩
def F_X12_gone_5 (x1 : Int32) (s0 : Int32) (σ : Mm) : Option (Int32 × Mm) := (if s0 = 0 then some ((-1), σ) else (bnd (F_X12_fact 2 x1 0 0 σ) (fun v τ => (F_X12_gone_16 v τ))))
set_option maxRecDepth 20000 in
theorem zb_X12_gone_5 {S : Shp} {x1 : Int32} {s0 : Int32} {σ : Mm} {r : Int32 × Mm} (h : F_X12_gone_5 x1 s0 σ = some r) : Z m_X12_gone S (Qi r) 5 [(0, .ref (sL S 3 0 0)), (1, .int (x1))] [.int (s0)] σ := by
  unfold F_X12_gone_5 at h
  refine z_if_eq (tgt := 19) dX12_gone_5 (by decide) (fun q => ?_) (fun q => ?_)
  · have h := (if_pos q).symm.trans h
    refine z_iconst (v := (-1)) dX12_gone_19 (by decide) ?_
    cases h
    exact z_ireturn dX12_gone_20 rfl rfl ⟨rfl, rfl⟩
  · have h := (if_neg q).symm.trans h
    refine z_aload_n dX12_gone_8 rfl 0 rfl ?_
    refine z_iconst (v := 2) dX12_gone_9 (by decide) ?_
    refine z_iload_n dX12_gone_10 rfl 1 rfl ?_
    refine z_iconst (v := 0) dX12_gone_11 (by decide) ?_
    refine z_iconst (v := 0) dX12_gone_12 (by decide) ?_
    obtain ⟨v, τ, hc, h⟩ := bnd_e h
    refine z_callV (M' := m_X12_fact) (t := 3) (i := 0) (k := 0) (As := [.int (2), .int (x1), .int (0), .int (0)]) (rest := []) kl_12_411 oy_X12_fact ⟨Nat.le_of_ble_eq_true rfl, Nat.le_of_ble_eq_true rfl⟩ rfl rfl rfl rfl (Nat.le_of_ble_eq_true rfl) rfl dX12_gone_13 (c_X12_fact hc) (fun v2 τ2 hq => ?_)
    obtain ⟨rfl, hτ⟩ := hq
    subst τ2
    change Z _ _ _ _ _ [.int (v)] _
    refine Z.lv [] rfl ?_
    exact zb_X12_gone_16 h
def F_X12_gone (x1 : Int32) (σ : Mm) : Option (Int32 × Mm) := (bnd (F_X12_isThing x1 σ) (fun v τ => (F_X12_gone_5 x1 v τ)))
set_option maxRecDepth 20000 in
theorem zb_X12_gone {S : Shp} {x1 : Int32} {σ : Mm} {r : Int32 × Mm} (h : F_X12_gone x1 σ = some r) : Z m_X12_gone S (Qi r) 0 [(0, .ref (sL S 3 0 0)), (1, .int (x1))] [] σ := by
  unfold F_X12_gone at h
  refine z_aload_n dX12_gone_0 rfl 0 rfl ?_
  refine z_iload_n dX12_gone_1 rfl 1 rfl ?_
  obtain ⟨v, τ, hc, h⟩ := bnd_e h
  refine z_callV (M' := m_X12_isThing) (t := 3) (i := 0) (k := 0) (As := [.int (x1)]) (rest := []) kl_12_415 oy_X12_isThing ⟨Nat.le_of_ble_eq_true rfl, Nat.le_of_ble_eq_true rfl⟩ rfl rfl rfl rfl (Nat.le_of_ble_eq_true rfl) rfl dX12_gone_2 (c_X12_isThing hc) (fun v2 τ2 hq => ?_)
  obtain ⟨rfl, hτ⟩ := hq
  subst τ2
  change Z _ _ _ _ _ [.int (v)] _
  exact zb_X12_gone_5 h
/-- SkyStonesModel.gone(I)I -/
theorem c_X12_gone {S : Shp} {x1 : Int32} {σ : Mm} {r : Int32 × Mm} (h : F_X12_gone x1 σ = some r) : Ct m_X12_gone S [.ref (sL S 3 0 0), .int (x1)] σ (Qi r) := Ct.of (by decide +kernel) (Nat.le_of_ble_eq_true rfl) (zb_X12_gone h)
def F_X12_height_16 (s0 : Int32) (σ : Mm) : Option (Int32 × Mm) := some (s0, σ)
set_option maxRecDepth 20000 in
theorem zb_X12_height_16 {S : Shp} {s0 : Int32} {σ : Mm} {r : Int32 × Mm} (h : F_X12_height_16 s0 σ = some r) : Z m_X12_height S (Qi r) 16 [] [.int (s0)] σ := by
  unfold F_X12_height_16 at h
  refine z_goto (tgt := 20) dX12_height_16 (by decide) ?_
  cases h
  exact z_ireturn dX12_height_20 rfl rfl ⟨rfl, rfl⟩
def F_X12_height (x1 : Int32) (σ : Mm) : Option (Int32 × Mm) := (if (f_X12_isIn x1 0 359) = 0 then some ((-1), σ) else (bnd (F_X12_heightOf x1 σ) (fun v τ => (F_X12_height_16 v τ))))
set_option maxRecDepth 20000 in
theorem zb_X12_height {S : Shp} {x1 : Int32} {σ : Mm} {r : Int32 × Mm} (h : F_X12_height x1 σ = some r) : Z m_X12_height S (Qi r) 0 [(0, .ref (sL S 3 0 0)), (1, .int (x1))] [] σ := by
  unfold F_X12_height at h
  refine z_iload_n dX12_height_0 rfl 1 rfl ?_
  refine z_iconst (v := 0) dX12_height_1 (by decide) ?_
  refine z_sipush (v := 359) dX12_height_2 (by decide) ?_
  refine z_callS (M' := m_X12_isIn) (As := [.int (x1), .int (0), .int (359)]) (rest := []) kl_12_407 oy_X12_isIn ⟨Nat.le_of_ble_eq_true rfl, Nat.le_of_ble_eq_true rfl⟩ rfl (Nat.le_of_ble_eq_true rfl) rfl dX12_height_5 (c_X12_isIn rfl) (fun v τ hq => ?_)
  obtain ⟨rfl, hτ⟩ := hq
  subst τ
  change Z _ _ _ _ _ [.int (f_X12_isIn x1 0 359)] _
  refine z_if_eq (tgt := 19) dX12_height_8 (by decide) (fun q => ?_) (fun q => ?_)
  · have h := (if_pos q).symm.trans h
    refine z_iconst (v := (-1)) dX12_height_19 (by decide) ?_
    cases h
    exact z_ireturn dX12_height_20 rfl rfl ⟨rfl, rfl⟩
  · have h := (if_neg q).symm.trans h
    refine z_aload_n dX12_height_11 rfl 0 rfl ?_
    refine z_iload_n dX12_height_12 rfl 1 rfl ?_
    obtain ⟨v, τ, hc, h⟩ := bnd_e h
    refine z_callV (M' := m_X12_heightOf) (t := 3) (i := 0) (k := 0) (As := [.int (x1)]) (rest := []) kl_12_466 oy_X12_heightOf ⟨Nat.le_of_ble_eq_true rfl, Nat.le_of_ble_eq_true rfl⟩ rfl rfl rfl rfl (Nat.le_of_ble_eq_true rfl) rfl dX12_height_13 (c_X12_heightOf hc) (fun v2 τ2 hq => ?_)
    obtain ⟨rfl, hτ⟩ := hq
    subst τ2
    change Z _ _ _ _ _ [.int (v)] _
    refine Z.lv [] rfl ?_
    exact zb_X12_height_16 h
/-- SkyStonesModel.height(I)I -/
theorem c_X12_height {S : Shp} {x1 : Int32} {σ : Mm} {r : Int32 × Mm} (h : F_X12_height x1 σ = some r) : Ct m_X12_height S [.ref (sL S 3 0 0), .int (x1)] σ (Qi r) := Ct.of (by decide +kernel) (Nat.le_of_ble_eq_true rfl) (zb_X12_height h)
def F_X12_hit_109 (x2 : Int32) (s0 : Int32) (σ : Mm) : Option (Int32 × Mm) := some ((s0 >>> (x2 &&& 31)) &&& (1 : Int32), σ)
set_option maxRecDepth 20000 in
theorem zb_X12_hit_109 {S : Shp} {x2 : Int32} {s0 : Int32} {σ : Mm} {r : Int32 × Mm} (h : F_X12_hit_109 x2 s0 σ = some r) : Z m_X12_hit S (Qi r) 109 [(2, .int (x2))] [.int (s0)] σ := by
  unfold F_X12_hit_109 at h
  refine z_iload_n dX12_hit_109 rfl 0 rfl ?_
  refine z_ishr dX12_hit_110 ?_
  refine z_iconst (v := 1) dX12_hit_111 (by decide) ?_
  refine z_iand dX12_hit_112 ?_
  cases h
  exact z_ireturn dX12_hit_113 rfl rfl ⟨rfl, rfl⟩
def F_X12_hit_82 (x1 : Int32) (x2 : Int32) (s0 : Int32) (σ : Mm) : Option (Int32 × Mm) := (if ((s0 >>> (x2 &&& 31)) &&& (1 : Int32)) = (1 : Int32) then some (2, σ) else (if inb x1 196 = true then (if inb 0 5 = true then (bnd (F_X12_hitBy (mA σ 3 0 53 x1.toNatClampNeg) (mA σ 3 0 7 (0 : Int32).toNatClampNeg) 0 σ) (fun v τ => (F_X12_hit_109 x2 v τ))) else none) else none))
set_option maxRecDepth 20000 in
theorem zb_X12_hit_82 {S : Shp} {x1 : Int32} {x2 : Int32} {s0 : Int32} {σ : Mm} {r : Int32 × Mm} (h : F_X12_hit_82 x1 x2 s0 σ = some r) : Z m_X12_hit S (Qi r) 82 [(0, .ref (sL S 3 0 0)), (1, .int (x1)), (2, .int (x2))] [.int (s0)] σ := by
  unfold F_X12_hit_82 at h
  refine z_iload_n dX12_hit_82 rfl 2 rfl ?_
  refine z_ishr dX12_hit_83 ?_
  refine z_iconst (v := 1) dX12_hit_84 (by decide) ?_
  refine z_iand dX12_hit_85 ?_
  refine z_iconst (v := 1) dX12_hit_86 (by decide) ?_
  refine z_icmp_ne (tgt := 92) dX12_hit_87 (by decide) (fun q => ?_) (fun q => ?_)
  · have h := (if_neg q).symm.trans h
    obtain ⟨g5, h⟩ := gd h
    refine z_aload_n dX12_hit_92 rfl 0 rfl ?_
    refine z_aload_n dX12_hit_93 rfl 0 rfl ?_
    refine gf_12_172 rfl dX12_hit_94 ?_
    refine z_iload_n dX12_hit_97 rfl 1 rfl ?_
    obtain ⟨g6, h⟩ := gd h
    refine ia_3_53 (inb_in g5) dX12_hit_98 ?_
    refine z_aload_n dX12_hit_99 rfl 0 rfl ?_
    refine gf_12_34 rfl dX12_hit_100 ?_
    refine z_iconst (v := 0) dX12_hit_103 (by decide) ?_
    refine ia_3_7 (inb_in g6) dX12_hit_104 ?_
    refine z_iconst (v := 0) dX12_hit_105 (by decide) ?_
    obtain ⟨v, τ, hc, h⟩ := bnd_e h
    refine z_callV (M' := m_X12_hitBy) (t := 3) (i := 0) (k := 0) (As := [.int (mA σ 3 0 53 x1.toNatClampNeg), .int (mA σ 3 0 7 (0 : Int32).toNatClampNeg), .int (0)]) (rest := []) kl_12_484 oy_X12_hitBy ⟨Nat.le_of_ble_eq_true rfl, Nat.le_of_ble_eq_true rfl⟩ rfl rfl rfl rfl (Nat.le_of_ble_eq_true rfl) rfl dX12_hit_106 (c_X12_hitBy hc) (fun v2 τ2 hq => ?_)
    obtain ⟨rfl, hτ⟩ := hq
    subst τ2
    change Z _ _ _ _ _ [.int (v)] _
    refine Z.lv [2] rfl ?_
    exact zb_X12_hit_109 h
  · have h := (if_pos q).symm.trans h
    refine z_iconst (v := 2) dX12_hit_90 (by decide) ?_
    cases h
    exact z_ireturn dX12_hit_91 rfl rfl ⟨rfl, rfl⟩
def F_X12_hit_54 (x1 : Int32) (x2 : Int32) (σ : Mm) : Option (Int32 × Mm) := (if inb x1 196 = true then (if (mA σ 3 0 52 x1.toNatClampNeg) = 0 then some ((-1), σ) else (if inb x1 196 = true then (if inb 0 5 = true then (bnd (F_X12_hitBy (mA σ 3 0 53 x1.toNatClampNeg) (mA σ 3 0 7 (0 : Int32).toNatClampNeg) 1 σ) (fun v τ => (F_X12_hit_82 x1 x2 v τ))) else none) else none)) else none)
set_option maxRecDepth 20000 in
theorem zb_X12_hit_54 {S : Shp} {x1 : Int32} {x2 : Int32} {σ : Mm} {r : Int32 × Mm} (h : F_X12_hit_54 x1 x2 σ = some r) : Z m_X12_hit S (Qi r) 54 [(0, .ref (sL S 3 0 0)), (1, .int (x1)), (2, .int (x2))] [] σ := by
  unfold F_X12_hit_54 at h
  obtain ⟨g2, h⟩ := gd h
  refine z_aload_n dX12_hit_54 rfl 0 rfl ?_
  refine gf_12_169 rfl dX12_hit_55 ?_
  refine z_iload_n dX12_hit_58 rfl 1 rfl ?_
  refine ia_3_52 (inb_in g2) dX12_hit_59 ?_
  refine z_if_ne (tgt := 65) dX12_hit_60 (by decide) (fun q => ?_) (fun q => ?_)
  · have h := (if_neg q).symm.trans h
    obtain ⟨g3, h⟩ := gd h
    refine z_aload_n dX12_hit_65 rfl 0 rfl ?_
    refine z_aload_n dX12_hit_66 rfl 0 rfl ?_
    refine gf_12_172 rfl dX12_hit_67 ?_
    refine z_iload_n dX12_hit_70 rfl 1 rfl ?_
    obtain ⟨g4, h⟩ := gd h
    refine ia_3_53 (inb_in g3) dX12_hit_71 ?_
    refine z_aload_n dX12_hit_72 rfl 0 rfl ?_
    refine gf_12_34 rfl dX12_hit_73 ?_
    refine z_iconst (v := 0) dX12_hit_76 (by decide) ?_
    refine ia_3_7 (inb_in g4) dX12_hit_77 ?_
    refine z_iconst (v := 1) dX12_hit_78 (by decide) ?_
    obtain ⟨v, τ, hc, h⟩ := bnd_e h
    refine z_callV (M' := m_X12_hitBy) (t := 3) (i := 0) (k := 0) (As := [.int (mA σ 3 0 53 x1.toNatClampNeg), .int (mA σ 3 0 7 (0 : Int32).toNatClampNeg), .int (1)]) (rest := []) kl_12_484 oy_X12_hitBy ⟨Nat.le_of_ble_eq_true rfl, Nat.le_of_ble_eq_true rfl⟩ rfl rfl rfl rfl (Nat.le_of_ble_eq_true rfl) rfl dX12_hit_79 (c_X12_hitBy hc) (fun v2 τ2 hq => ?_)
    obtain ⟨rfl, hτ⟩ := hq
    subst τ2
    change Z _ _ _ _ _ [.int (v)] _
    exact zb_X12_hit_82 h
  · have h := (if_pos q).symm.trans h
    refine z_iconst (v := (-1)) dX12_hit_63 (by decide) ?_
    cases h
    exact z_ireturn dX12_hit_64 rfl rfl ⟨rfl, rfl⟩
def F_X12_hit_49 (x1 : Int32) (x2 : Int32) (x3 : Int32) (σ : Mm) : Option (Int32 × Mm) := (bnv (F_X12_laySky x3 σ) (fun τ => (F_X12_hit_54 x1 x2 τ)))
set_option maxRecDepth 20000 in
theorem zb_X12_hit_49 {S : Shp} {x1 : Int32} {x2 : Int32} {x3 : Int32} {σ : Mm} {r : Int32 × Mm} (h : F_X12_hit_49 x1 x2 x3 σ = some r) : Z m_X12_hit S (Qi r) 49 [(0, .ref (sL S 3 0 0)), (1, .int (x1)), (2, .int (x2)), (3, .int (x3))] [] σ := by
  unfold F_X12_hit_49 at h
  refine z_aload_n dX12_hit_49 rfl 0 rfl ?_
  refine z_iload_n dX12_hit_50 rfl 3 rfl ?_
  obtain ⟨τ, hc, h⟩ := bnv_e h
  refine z_callV (M' := m_X12_laySky) (t := 3) (i := 0) (k := 0) (As := [.int (x3)]) (rest := []) kl_12_481 oy_X12_laySky ⟨Nat.le_of_ble_eq_true rfl, Nat.le_of_ble_eq_true rfl⟩ rfl rfl rfl rfl (Nat.le_of_ble_eq_true rfl) rfl dX12_hit_51 (c_X12_laySky hc) (fun v2 τ2 hq => ?_)
  obtain ⟨rfl, hτ⟩ := hq
  subst τ2
  change Z _ _ _ _ _ [] _
  refine Z.lv [0, 1, 2] rfl ?_
  exact zb_X12_hit_54 h
def F_X12_hit_38 (x1 : Int32) (x2 : Int32) (x3 : Int32) (x4 : Int32) (s0 : Int32) (σ : Mm) : Option (Int32 × Mm) := (if s0 = 0 then some ((-1), σ) else (bnv (F_X12_lay x4 σ) (fun τ => (F_X12_hit_49 x1 x2 x3 τ))))
set_option maxRecDepth 20000 in
theorem zb_X12_hit_38 {S : Shp} {x1 : Int32} {x2 : Int32} {x3 : Int32} {x4 : Int32} {s0 : Int32} {σ : Mm} {r : Int32 × Mm} (h : F_X12_hit_38 x1 x2 x3 x4 s0 σ = some r) : Z m_X12_hit S (Qi r) 38 [(0, .ref (sL S 3 0 0)), (1, .int (x1)), (2, .int (x2)), (3, .int (x3)), (4, .int (x4))] [.int (s0)] σ := by
  unfold F_X12_hit_38 at h
  refine z_if_ne (tgt := 43) dX12_hit_38 (by decide) (fun q => ?_) (fun q => ?_)
  · have h := (if_neg q).symm.trans h
    refine z_aload_n dX12_hit_43 rfl 0 rfl ?_
    refine z_iload dX12_hit_44 4 rfl ?_
    obtain ⟨τ, hc, h⟩ := bnv_e h
    refine z_callV (M' := m_X12_lay) (t := 3) (i := 0) (k := 0) (As := [.int (x4)]) (rest := []) kl_12_463 oy_X12_lay ⟨Nat.le_of_ble_eq_true rfl, Nat.le_of_ble_eq_true rfl⟩ rfl rfl rfl rfl (Nat.le_of_ble_eq_true rfl) rfl dX12_hit_46 (c_X12_lay hc) (fun v2 τ2 hq => ?_)
    obtain ⟨rfl, hτ⟩ := hq
    subst τ2
    change Z _ _ _ _ _ [] _
    refine Z.lv [0, 1, 2, 3] rfl ?_
    exact zb_X12_hit_49 h
  · have h := (if_pos q).symm.trans h
    refine z_iconst (v := (-1)) dX12_hit_41 (by decide) ?_
    cases h
    exact z_ireturn dX12_hit_42 rfl rfl ⟨rfl, rfl⟩
def F_X12_hit (x1 : Int32) (x2 : Int32) (x3 : Int32) (x4 : Int32) (σ : Mm) : Option (Int32 × Mm) := (if (f_X12_isIn x1 0 195) = 0 then some ((-1), σ) else (if x2 < 0 then some ((-1), σ) else (if inb 0 5 = true then (if (mA σ 3 0 21 (0 : Int32).toNatClampNeg) ≤ x2 then some ((-1), σ) else (if (f_X12_isYear x3) = 0 then some ((-1), σ) else (bnd (F_X12_isKnown x4 σ) (fun v τ => (F_X12_hit_38 x1 x2 x3 x4 v τ))))) else none)))
set_option maxRecDepth 20000 in
theorem zb_X12_hit {S : Shp} {x1 : Int32} {x2 : Int32} {x3 : Int32} {x4 : Int32} {σ : Mm} {r : Int32 × Mm} (h : F_X12_hit x1 x2 x3 x4 σ = some r) : Z m_X12_hit S (Qi r) 0 [(0, .ref (sL S 3 0 0)), (1, .int (x1)), (2, .int (x2)), (3, .int (x3)), (4, .int (x4))] [] σ := by
  unfold F_X12_hit at h
  refine z_iload_n dX12_hit_0 rfl 1 rfl ?_
  refine z_iconst (v := 0) dX12_hit_1 (by decide) ?_
  refine z_sipush (v := 195) dX12_hit_2 (by decide) ?_
  refine z_callS (M' := m_X12_isIn) (As := [.int (x1), .int (0), .int (195)]) (rest := []) kl_12_407 oy_X12_isIn ⟨Nat.le_of_ble_eq_true rfl, Nat.le_of_ble_eq_true rfl⟩ rfl (Nat.le_of_ble_eq_true rfl) rfl dX12_hit_5 (c_X12_isIn rfl) (fun v τ hq => ?_)
  obtain ⟨rfl, hτ⟩ := hq
  subst τ
  change Z _ _ _ _ _ [.int (f_X12_isIn x1 0 195)] _
  refine z_if_eq (tgt := 41) dX12_hit_8 (by decide) (fun q => ?_) (fun q => ?_)
  · have h := (if_pos q).symm.trans h
    refine z_iconst (v := (-1)) dX12_hit_41 (by decide) ?_
    cases h
    exact z_ireturn dX12_hit_42 rfl rfl ⟨rfl, rfl⟩
  · have h := (if_neg q).symm.trans h
    refine z_iload_n dX12_hit_11 rfl 2 rfl ?_
    refine z_if_lt (tgt := 41) dX12_hit_12 (by decide) (fun q => ?_) (fun q => ?_)
    · have h := (if_pos q).symm.trans h
      refine z_iconst (v := (-1)) dX12_hit_41 (by decide) ?_
      cases h
      exact z_ireturn dX12_hit_42 rfl rfl ⟨rfl, rfl⟩
    · have h := (if_neg q).symm.trans h
      obtain ⟨g1, h⟩ := gd h
      refine z_iload_n dX12_hit_15 rfl 2 rfl ?_
      refine z_aload_n dX12_hit_16 rfl 0 rfl ?_
      refine gf_12_76 rfl dX12_hit_17 ?_
      refine z_iconst (v := 0) dX12_hit_20 (by decide) ?_
      refine ia_3_21 (inb_in g1) dX12_hit_21 ?_
      refine z_icmp_ge (tgt := 41) dX12_hit_22 (by decide) (fun q => ?_) (fun q => ?_)
      · have h := (if_pos q).symm.trans h
        refine z_iconst (v := (-1)) dX12_hit_41 (by decide) ?_
        cases h
        exact z_ireturn dX12_hit_42 rfl rfl ⟨rfl, rfl⟩
      · have h := (if_neg q).symm.trans h
        refine z_iload_n dX12_hit_25 rfl 3 rfl ?_
        refine z_callS (M' := m_X12_isYear) (As := [.int (x3)]) (rest := []) kl_12_472 oy_X12_isYear ⟨Nat.le_of_ble_eq_true rfl, Nat.le_of_ble_eq_true rfl⟩ rfl (Nat.le_of_ble_eq_true rfl) rfl dX12_hit_26 (c_X12_isYear rfl) (fun v τ hq => ?_)
        obtain ⟨rfl, hτ⟩ := hq
        subst τ
        change Z _ _ _ _ _ [.int (f_X12_isYear x3)] _
        refine z_if_eq (tgt := 41) dX12_hit_29 (by decide) (fun q => ?_) (fun q => ?_)
        · have h := (if_pos q).symm.trans h
          refine z_iconst (v := (-1)) dX12_hit_41 (by decide) ?_
          cases h
          exact z_ireturn dX12_hit_42 rfl rfl ⟨rfl, rfl⟩
        · have h := (if_neg q).symm.trans h
          refine z_aload_n dX12_hit_32 rfl 0 rfl ?_
          refine z_iload dX12_hit_33 4 rfl ?_
          obtain ⟨v, τ, hc, h⟩ := bnd_e h
          refine z_callV (M' := m_X12_isKnown) (t := 3) (i := 0) (k := 0) (As := [.int (x4)]) (rest := []) kl_12_457 oy_X12_isKnown ⟨Nat.le_of_ble_eq_true rfl, Nat.le_of_ble_eq_true rfl⟩ rfl rfl rfl rfl (Nat.le_of_ble_eq_true rfl) rfl dX12_hit_35 (c_X12_isKnown hc) (fun v2 τ2 hq => ?_)
          obtain ⟨rfl, hτ⟩ := hq
          subst τ2
          change Z _ _ _ _ _ [.int (v)] _
          exact zb_X12_hit_38 h
/-- SkyStonesModel.hit(IIII)I -/
theorem c_X12_hit {S : Shp} {x1 : Int32} {x2 : Int32} {x3 : Int32} {x4 : Int32} {σ : Mm} {r : Int32 × Mm} (h : F_X12_hit x1 x2 x3 x4 σ = some r) : Ct m_X12_hit S [.ref (sL S 3 0 0), .int (x1), .int (x2), .int (x3), .int (x4)] σ (Qi r) := Ct.of (by decide +kernel) (Nat.le_of_ble_eq_true rfl) (zb_X12_hit h)
def F_X12_hitAt_83 (rc26 : Int32 → Int32 → Int32 → Int32 → Int32 → Mm → Option (Int32 × Mm)) (x1 : Int32) (x3 : Int32) (x5 : Int32) (x6 : Int32) (x7 : Int32) (σ : Mm) : Option (Int32 × Mm) := (rc26 x1 x3 x5 x6 (x7 + 1) σ)
set_option maxRecDepth 20000 in
theorem zb_X12_hitAt_83 {S : Shp} {rc26 : Int32 → Int32 → Int32 → Int32 → Int32 → Mm → Option (Int32 × Mm)} (hrc26 : ∀ {x1 : Int32} {x3 : Int32} {x5 : Int32} {x6 : Int32} {x7 : Int32} {σ : Mm} {r : Int32 × Mm}, rc26 x1 x3 x5 x6 x7 σ = some r → Z m_X12_hitAt S (Qi r) 26 [(0, .ref (sL S 3 0 0)), (1, .int (x1)), (3, .int (x3)), (5, .int (x5)), (6, .int (x6)), (7, .int (x7))] [] σ) {x1 : Int32} {x3 : Int32} {x5 : Int32} {x6 : Int32} {x7 : Int32} {σ : Mm} {r : Int32 × Mm} (h : F_X12_hitAt_83 rc26 x1 x3 x5 x6 x7 σ = some r) : Z m_X12_hitAt S (Qi r) 83 [(0, .ref (sL S 3 0 0)), (1, .int (x1)), (3, .int (x3)), (5, .int (x5)), (6, .int (x6)), (7, .int (x7))] [] σ := by
  unfold F_X12_hitAt_83 at h
  refine z_iinc (j := 5) (v := x7 + 1) (lv' := [(0, .ref (sL S 3 0 0)), (1, .int (x1)), (3, .int (x3)), (5, .int (x5)), (6, .int (x6)), (7, .int (x7 + 1))]) dX12_hitAt_83 rfl rfl (by decide) [1, 2, 3, 4, 5, 0] rfl ?_
  refine z_goto (tgt := 26) dX12_hitAt_86 (by decide) ?_
  exact hrc26 h
def F_X12_hitAt_62 (rc26 : Int32 → Int32 → Int32 → Int32 → Int32 → Mm → Option (Int32 × Mm)) (x1 : Int32) (x3 : Int32) (x5 : Int32) (x6 : Int32) (x7 : Int32) (s0 : Int32) (σ : Mm) : Option (Int32 × Mm) := (if (s0 &&& x1) = 0 then (F_X12_hitAt_83 rc26 x1 x3 x5 x6 x7 σ) else (if x6 = x5 then some (x7, σ) else (F_X12_hitAt_83 rc26 x1 x3 x5 (x6 + 1) x7 σ)))
set_option maxRecDepth 20000 in
theorem zb_X12_hitAt_62 {S : Shp} {rc26 : Int32 → Int32 → Int32 → Int32 → Int32 → Mm → Option (Int32 × Mm)} (hrc26 : ∀ {x1 : Int32} {x3 : Int32} {x5 : Int32} {x6 : Int32} {x7 : Int32} {σ : Mm} {r : Int32 × Mm}, rc26 x1 x3 x5 x6 x7 σ = some r → Z m_X12_hitAt S (Qi r) 26 [(0, .ref (sL S 3 0 0)), (1, .int (x1)), (3, .int (x3)), (5, .int (x5)), (6, .int (x6)), (7, .int (x7))] [] σ) {x1 : Int32} {x3 : Int32} {x5 : Int32} {x6 : Int32} {x7 : Int32} {s0 : Int32} {σ : Mm} {r : Int32 × Mm} (h : F_X12_hitAt_62 rc26 x1 x3 x5 x6 x7 s0 σ = some r) : Z m_X12_hitAt S (Qi r) 62 [(0, .ref (sL S 3 0 0)), (1, .int (x1)), (3, .int (x3)), (5, .int (x5)), (6, .int (x6)), (7, .int (x7))] [.int (s0)] σ := by
  unfold F_X12_hitAt_62 at h
  refine z_iload_n dX12_hitAt_62 rfl 1 rfl ?_
  refine z_iand dX12_hitAt_63 ?_
  refine z_if_ne (tgt := 70) dX12_hitAt_64 (by decide) (fun q => ?_) (fun q => ?_)
  · have h := (if_neg q).symm.trans h
    refine z_iload dX12_hitAt_70 4 rfl ?_
    refine z_iload dX12_hitAt_72 3 rfl ?_
    refine z_icmp_ne (tgt := 80) dX12_hitAt_74 (by decide) (fun q => ?_) (fun q => ?_)
    · have h := (if_neg q).symm.trans h
      refine z_iinc (j := 4) (v := x6 + 1) (lv' := [(0, .ref (sL S 3 0 0)), (1, .int (x1)), (3, .int (x3)), (5, .int (x5)), (6, .int (x6 + 1)), (7, .int (x7))]) dX12_hitAt_80 rfl rfl (by decide) [1, 2, 3, 4, 0, 5] rfl ?_
      exact zb_X12_hitAt_83 hrc26 h
    · have h := (if_pos q).symm.trans h
      refine z_iload dX12_hitAt_77 5 rfl ?_
      cases h
      exact z_ireturn dX12_hitAt_79 rfl rfl ⟨rfl, rfl⟩
  · have h := (if_pos q).symm.trans h
    refine z_goto (tgt := 83) dX12_hitAt_67 (by decide) ?_
    exact zb_X12_hitAt_83 hrc26 h
def B_X12_hitAt_26 (rc26 : Int32 → Int32 → Int32 → Int32 → Int32 → Mm → Option (Int32 × Mm)) (x1 : Int32) (x3 : Int32) (x5 : Int32) (x6 : Int32) (x7 : Int32) (σ : Mm) : Option (Int32 × Mm) := (if (196 : Int32) ≤ x7 then some ((-1), σ) else (if inb x7 196 = true then (if (mA σ 3 0 55 x7.toNatClampNeg) = 0 then (F_X12_hitAt_83 rc26 x1 x3 x5 x6 x7 σ) else (if inb x7 196 = true then (if inb 0 5 = true then (bnd (F_X12_hitBy (mA σ 3 0 53 x7.toNatClampNeg) (mA σ 3 0 7 (0 : Int32).toNatClampNeg) x3 σ) (fun v τ => (F_X12_hitAt_62 rc26 x1 x3 x5 x6 x7 v τ))) else none) else none)) else none))
set_option maxRecDepth 20000 in
theorem zB_X12_hitAt_26 {S : Shp} {rc26 : Int32 → Int32 → Int32 → Int32 → Int32 → Mm → Option (Int32 × Mm)} (hrc26 : ∀ {x1 : Int32} {x3 : Int32} {x5 : Int32} {x6 : Int32} {x7 : Int32} {σ : Mm} {r : Int32 × Mm}, rc26 x1 x3 x5 x6 x7 σ = some r → Z m_X12_hitAt S (Qi r) 26 [(0, .ref (sL S 3 0 0)), (1, .int (x1)), (3, .int (x3)), (5, .int (x5)), (6, .int (x6)), (7, .int (x7))] [] σ) {x1 : Int32} {x3 : Int32} {x5 : Int32} {x6 : Int32} {x7 : Int32} {σ : Mm} {r : Int32 × Mm} (h : B_X12_hitAt_26 rc26 x1 x3 x5 x6 x7 σ = some r) : Z m_X12_hitAt S (Qi r) 26 [(0, .ref (sL S 3 0 0)), (1, .int (x1)), (3, .int (x3)), (5, .int (x5)), (6, .int (x6)), (7, .int (x7))] [] σ := by
  unfold B_X12_hitAt_26 at h
  refine z_iload dX12_hitAt_26 5 rfl ?_
  refine z_sipush (v := 196) dX12_hitAt_28 (by decide) ?_
  refine z_icmp_ge (tgt := 89) dX12_hitAt_31 (by decide) (fun q => ?_) (fun q => ?_)
  · have h := (if_pos q).symm.trans h
    refine z_iconst (v := (-1)) dX12_hitAt_89 (by decide) ?_
    cases h
    exact z_ireturn dX12_hitAt_90 rfl rfl ⟨rfl, rfl⟩
  · have h := (if_neg q).symm.trans h
    obtain ⟨g1, h⟩ := gd h
    refine z_aload_n dX12_hitAt_34 rfl 0 rfl ?_
    refine gf_12_178 rfl dX12_hitAt_35 ?_
    refine z_iload dX12_hitAt_38 5 rfl ?_
    refine ia_3_55 (inb_in g1) dX12_hitAt_40 ?_
    refine z_if_eq (tgt := 83) dX12_hitAt_41 (by decide) (fun q => ?_) (fun q => ?_)
    · have h := (if_pos q).symm.trans h
      exact zb_X12_hitAt_83 hrc26 h
    · have h := (if_neg q).symm.trans h
      obtain ⟨g2, h⟩ := gd h
      refine z_aload_n dX12_hitAt_44 rfl 0 rfl ?_
      refine z_aload_n dX12_hitAt_45 rfl 0 rfl ?_
      refine gf_12_172 rfl dX12_hitAt_46 ?_
      refine z_iload dX12_hitAt_49 5 rfl ?_
      obtain ⟨g3, h⟩ := gd h
      refine ia_3_53 (inb_in g2) dX12_hitAt_51 ?_
      refine z_aload_n dX12_hitAt_52 rfl 0 rfl ?_
      refine gf_12_34 rfl dX12_hitAt_53 ?_
      refine z_iconst (v := 0) dX12_hitAt_56 (by decide) ?_
      refine ia_3_7 (inb_in g3) dX12_hitAt_57 ?_
      refine z_iload_n dX12_hitAt_58 rfl 2 rfl ?_
      obtain ⟨v, τ, hc, h⟩ := bnd_e h
      refine z_callV (M' := m_X12_hitBy) (t := 3) (i := 0) (k := 0) (As := [.int (mA σ 3 0 53 x7.toNatClampNeg), .int (mA σ 3 0 7 (0 : Int32).toNatClampNeg), .int (x3)]) (rest := []) kl_12_484 oy_X12_hitBy ⟨Nat.le_of_ble_eq_true rfl, Nat.le_of_ble_eq_true rfl⟩ rfl rfl rfl rfl (Nat.le_of_ble_eq_true rfl) rfl dX12_hitAt_59 (c_X12_hitBy hc) (fun v2 τ2 hq => ?_)
      obtain ⟨rfl, hτ⟩ := hq
      subst τ2
      change Z _ _ _ _ _ [.int (v)] _
      exact zb_X12_hitAt_62 hrc26 h
def F_X12_hitAt_26 : Nat → Int32 → Int32 → Int32 → Int32 → Int32 → Mm → Option (Int32 × Mm)
  | 0 => fun _ _ _ _ _ _ => none
  | n + 1 => B_X12_hitAt_26 (F_X12_hitAt_26 n)
theorem zl_X12_hitAt_26 {S : Shp} : ∀ (nn : Nat) {x1 : Int32} {x3 : Int32} {x5 : Int32} {x6 : Int32} {x7 : Int32} {σ : Mm} {r : Int32 × Mm}, F_X12_hitAt_26 nn x1 x3 x5 x6 x7 σ = some r → Z m_X12_hitAt S (Qi r) 26 [(0, .ref (sL S 3 0 0)), (1, .int (x1)), (3, .int (x3)), (5, .int (x5)), (6, .int (x6)), (7, .int (x7))] [] σ := by
  intro nn
  induction nn with
  | zero => intro x1 x3 x5 x6 x7 σ r h; cases h
  | succ nn ih => intro x1 x3 x5 x6 x7 σ r h; exact zB_X12_hitAt_26 @ih h
def F_X12_hitAt_20 (x1 : Int32) (x3 : Int32) (x5 : Int32) (σ : Mm) : Option (Int32 × Mm) := (F_X12_hitAt_26 FU x1 x3 x5 0 0 σ)
set_option maxRecDepth 20000 in
theorem zb_X12_hitAt_20 {S : Shp} {x1 : Int32} {x3 : Int32} {x5 : Int32} {σ : Mm} {r : Int32 × Mm} (h : F_X12_hitAt_20 x1 x3 x5 σ = some r) : Z m_X12_hitAt S (Qi r) 20 [(0, .ref (sL S 3 0 0)), (1, .int (x1)), (3, .int (x3)), (5, .int (x5))] [] σ := by
  unfold F_X12_hitAt_20 at h
  refine z_iconst (v := 0) dX12_hitAt_20 (by decide) ?_
  refine z_istore (lv' := [(0, .ref (sL S 3 0 0)), (1, .int (x1)), (3, .int (x3)), (5, .int (x5)), (6, .int (0))]) dX12_hitAt_21 (by decide) [1, 2, 3, 4, 0] rfl ?_
  refine z_iconst (v := 0) dX12_hitAt_23 (by decide) ?_
  refine z_istore (lv' := [(0, .ref (sL S 3 0 0)), (1, .int (x1)), (3, .int (x3)), (5, .int (x5)), (6, .int (0)), (7, .int (0))]) dX12_hitAt_24 (by decide) [1, 2, 3, 4, 5, 0] rfl ?_
  exact zl_X12_hitAt_26 FU h
def F_X12_hitAt_8 (x1 : Int32) (x2 : Int32) (x3 : Int32) (x4 : Int32) (x5 : Int32) (s0 : Int32) (σ : Mm) : Option (Int32 × Mm) := (if s0 = 0 then some ((-1), σ) else (bnv (F_X12_layAll x2 x4 σ) (fun τ => (F_X12_hitAt_20 x1 x3 x5 τ))))
set_option maxRecDepth 20000 in
theorem zb_X12_hitAt_8 {S : Shp} {x1 : Int32} {x2 : Int32} {x3 : Int32} {x4 : Int32} {x5 : Int32} {s0 : Int32} {σ : Mm} {r : Int32 × Mm} (h : F_X12_hitAt_8 x1 x2 x3 x4 x5 s0 σ = some r) : Z m_X12_hitAt S (Qi r) 8 [(0, .ref (sL S 3 0 0)), (1, .int (x1)), (2, .int (x2)), (3, .int (x3)), (4, .int (x4)), (5, .int (x5))] [.int (s0)] σ := by
  unfold F_X12_hitAt_8 at h
  refine z_if_ne (tgt := 13) dX12_hitAt_8 (by decide) (fun q => ?_) (fun q => ?_)
  · have h := (if_neg q).symm.trans h
    refine z_aload_n dX12_hitAt_13 rfl 0 rfl ?_
    refine z_iload_n dX12_hitAt_14 rfl 2 rfl ?_
    refine z_iload dX12_hitAt_15 4 rfl ?_
    obtain ⟨τ, hc, h⟩ := bnv_e h
    refine z_callV (M' := m_X12_layAll) (t := 3) (i := 0) (k := 0) (As := [.int (x2), .int (x4)]) (rest := []) kl_12_494 oy_X12_layAll ⟨Nat.le_of_ble_eq_true rfl, Nat.le_of_ble_eq_true rfl⟩ rfl rfl rfl rfl (Nat.le_of_ble_eq_true rfl) rfl dX12_hitAt_17 (c_X12_layAll hc) (fun v2 τ2 hq => ?_)
    obtain ⟨rfl, hτ⟩ := hq
    subst τ2
    change Z _ _ _ _ _ [] _
    refine Z.lv [0, 1, 3, 5] rfl ?_
    exact zb_X12_hitAt_20 h
  · have h := (if_pos q).symm.trans h
    refine z_iconst (v := (-1)) dX12_hitAt_11 (by decide) ?_
    cases h
    exact z_ireturn dX12_hitAt_12 rfl rfl ⟨rfl, rfl⟩
def F_X12_hitAt (x1 : Int32) (x2 : Int32) (x3 : Int32) (x4 : Int32) (x5 : Int32) (σ : Mm) : Option (Int32 × Mm) := (bnd (F_X12_isSet x1 x2 x4 σ) (fun v τ => (F_X12_hitAt_8 x1 x2 x3 x4 x5 v τ)))
set_option maxRecDepth 20000 in
theorem zb_X12_hitAt {S : Shp} {x1 : Int32} {x2 : Int32} {x3 : Int32} {x4 : Int32} {x5 : Int32} {σ : Mm} {r : Int32 × Mm} (h : F_X12_hitAt x1 x2 x3 x4 x5 σ = some r) : Z m_X12_hitAt S (Qi r) 0 [(0, .ref (sL S 3 0 0)), (1, .int (x1)), (2, .int (x2)), (3, .int (x3)), (4, .int (x4)), (5, .int (x5))] [] σ := by
  unfold F_X12_hitAt at h
  refine z_aload_n dX12_hitAt_0 rfl 0 rfl ?_
  refine z_iload_n dX12_hitAt_1 rfl 1 rfl ?_
  refine z_iload_n dX12_hitAt_2 rfl 2 rfl ?_
  refine z_iload dX12_hitAt_3 4 rfl ?_
  obtain ⟨v, τ, hc, h⟩ := bnd_e h
  refine z_callV (M' := m_X12_isSet) (t := 3) (i := 0) (k := 0) (As := [.int (x1), .int (x2), .int (x4)]) (rest := []) kl_12_491 oy_X12_isSet ⟨Nat.le_of_ble_eq_true rfl, Nat.le_of_ble_eq_true rfl⟩ rfl rfl rfl rfl (Nat.le_of_ble_eq_true rfl) rfl dX12_hitAt_5 (c_X12_isSet hc) (fun v2 τ2 hq => ?_)
  obtain ⟨rfl, hτ⟩ := hq
  subst τ2
  change Z _ _ _ _ _ [.int (v)] _
  exact zb_X12_hitAt_8 h
/-- SkyStonesModel.hitAt(IIZII)I -/
theorem c_X12_hitAt {S : Shp} {x1 : Int32} {x2 : Int32} {x3 : Int32} {x4 : Int32} {x5 : Int32} {σ : Mm} {r : Int32 × Mm} (h : F_X12_hitAt x1 x2 x3 x4 x5 σ = some r) : Ct m_X12_hitAt S [.ref (sL S 3 0 0), .int (x1), .int (x2), .int (x3), .int (x4), .int (x5)] σ (Qi r) := Ct.of (by decide +kernel) (Nat.le_of_ble_eq_true rfl) (zb_X12_hitAt h)
def F_X12_hits_39 (s0 : Int32) (σ : Mm) : Option (Int32 × Mm) := some (s0, σ)
set_option maxRecDepth 20000 in
theorem zb_X12_hits_39 {S : Shp} {s0 : Int32} {σ : Mm} {r : Int32 × Mm} (h : F_X12_hits_39 s0 σ = some r) : Z m_X12_hits S (Qi r) 39 [] [.int (s0)] σ := by
  unfold F_X12_hits_39 at h
  cases h
  exact z_ireturn dX12_hits_39 rfl rfl ⟨rfl, rfl⟩
def F_X12_hits_31 (x1 : Int32) (x3 : Int32) (x4 : Int32) (σ : Mm) : Option (Int32 × Mm) := (bnd (F_X12_hitsOf x1 x3 x4 σ) (fun v τ => (F_X12_hits_39 v τ)))
set_option maxRecDepth 20000 in
theorem zb_X12_hits_31 {S : Shp} {x1 : Int32} {x3 : Int32} {x4 : Int32} {σ : Mm} {r : Int32 × Mm} (h : F_X12_hits_31 x1 x3 x4 σ = some r) : Z m_X12_hits S (Qi r) 31 [(0, .ref (sL S 3 0 0)), (1, .int (x1)), (3, .int (x3)), (4, .int (x4))] [] σ := by
  unfold F_X12_hits_31 at h
  refine z_aload_n dX12_hits_31 rfl 0 rfl ?_
  refine z_iload_n dX12_hits_32 rfl 1 rfl ?_
  refine z_iload_n dX12_hits_33 rfl 2 rfl ?_
  refine z_iload dX12_hits_34 3 rfl ?_
  obtain ⟨v, τ, hc, h⟩ := bnd_e h
  refine z_callV (M' := m_X12_hitsOf) (t := 3) (i := 0) (k := 0) (As := [.int (x1), .int (x3), .int (x4)]) (rest := []) kl_12_497 oy_X12_hitsOf ⟨Nat.le_of_ble_eq_true rfl, Nat.le_of_ble_eq_true rfl⟩ rfl rfl rfl rfl (Nat.le_of_ble_eq_true rfl) rfl dX12_hits_36 (c_X12_hitsOf hc) (fun v2 τ2 hq => ?_)
  obtain ⟨rfl, hτ⟩ := hq
  subst τ2
  change Z _ _ _ _ _ [.int (v)] _
  refine Z.lv [] rfl ?_
  exact zb_X12_hits_39 h
def F_X12_hits_8 (x1 : Int32) (x2 : Int32) (x3 : Int32) (x4 : Int32) (x5 : Int32) (s0 : Int32) (σ : Mm) : Option (Int32 × Mm) := (if s0 = 0 then some ((-1), σ) else (if (f_X12_isIn x3 0 359) = 0 then some ((-1), σ) else (bnv (F_X12_layAll x2 x5 σ) (fun τ => (F_X12_hits_31 x1 x3 x4 τ)))))
set_option maxRecDepth 20000 in
theorem zb_X12_hits_8 {S : Shp} {x1 : Int32} {x2 : Int32} {x3 : Int32} {x4 : Int32} {x5 : Int32} {s0 : Int32} {σ : Mm} {r : Int32 × Mm} (h : F_X12_hits_8 x1 x2 x3 x4 x5 s0 σ = some r) : Z m_X12_hits S (Qi r) 8 [(0, .ref (sL S 3 0 0)), (1, .int (x1)), (2, .int (x2)), (3, .int (x3)), (4, .int (x4)), (5, .int (x5))] [.int (s0)] σ := by
  unfold F_X12_hits_8 at h
  refine z_if_eq (tgt := 22) dX12_hits_8 (by decide) (fun q => ?_) (fun q => ?_)
  · have h := (if_pos q).symm.trans h
    refine z_iconst (v := (-1)) dX12_hits_22 (by decide) ?_
    cases h
    exact z_ireturn dX12_hits_23 rfl rfl ⟨rfl, rfl⟩
  · have h := (if_neg q).symm.trans h
    refine z_iload_n dX12_hits_11 rfl 3 rfl ?_
    refine z_iconst (v := 0) dX12_hits_12 (by decide) ?_
    refine z_sipush (v := 359) dX12_hits_13 (by decide) ?_
    refine z_callS (M' := m_X12_isIn) (As := [.int (x3), .int (0), .int (359)]) (rest := []) kl_12_407 oy_X12_isIn ⟨Nat.le_of_ble_eq_true rfl, Nat.le_of_ble_eq_true rfl⟩ rfl (Nat.le_of_ble_eq_true rfl) rfl dX12_hits_16 (c_X12_isIn rfl) (fun v τ hq => ?_)
    obtain ⟨rfl, hτ⟩ := hq
    subst τ
    change Z _ _ _ _ _ [.int (f_X12_isIn x3 0 359)] _
    refine z_if_ne (tgt := 24) dX12_hits_19 (by decide) (fun q => ?_) (fun q => ?_)
    · have h := (if_neg q).symm.trans h
      refine z_aload_n dX12_hits_24 rfl 0 rfl ?_
      refine z_iload_n dX12_hits_25 rfl 2 rfl ?_
      refine z_iload dX12_hits_26 5 rfl ?_
      obtain ⟨τ, hc, h⟩ := bnv_e h
      refine z_callV (M' := m_X12_layAll) (t := 3) (i := 0) (k := 0) (As := [.int (x2), .int (x5)]) (rest := []) kl_12_494 oy_X12_layAll ⟨Nat.le_of_ble_eq_true rfl, Nat.le_of_ble_eq_true rfl⟩ rfl rfl rfl rfl (Nat.le_of_ble_eq_true rfl) rfl dX12_hits_28 (c_X12_layAll hc) (fun v2 τ2 hq => ?_)
      obtain ⟨rfl, hτ⟩ := hq
      subst τ2
      change Z _ _ _ _ _ [] _
      refine Z.lv [0, 1, 3, 4] rfl ?_
      exact zb_X12_hits_31 h
    · have h := (if_pos q).symm.trans h
      refine z_iconst (v := (-1)) dX12_hits_22 (by decide) ?_
      cases h
      exact z_ireturn dX12_hits_23 rfl rfl ⟨rfl, rfl⟩
def F_X12_hits (x1 : Int32) (x2 : Int32) (x3 : Int32) (x4 : Int32) (x5 : Int32) (σ : Mm) : Option (Int32 × Mm) := (bnd (F_X12_isSet x1 x2 x5 σ) (fun v τ => (F_X12_hits_8 x1 x2 x3 x4 x5 v τ)))
set_option maxRecDepth 20000 in
theorem zb_X12_hits {S : Shp} {x1 : Int32} {x2 : Int32} {x3 : Int32} {x4 : Int32} {x5 : Int32} {σ : Mm} {r : Int32 × Mm} (h : F_X12_hits x1 x2 x3 x4 x5 σ = some r) : Z m_X12_hits S (Qi r) 0 [(0, .ref (sL S 3 0 0)), (1, .int (x1)), (2, .int (x2)), (3, .int (x3)), (4, .int (x4)), (5, .int (x5))] [] σ := by
  unfold F_X12_hits at h
  refine z_aload_n dX12_hits_0 rfl 0 rfl ?_
  refine z_iload_n dX12_hits_1 rfl 1 rfl ?_
  refine z_iload_n dX12_hits_2 rfl 2 rfl ?_
  refine z_iload dX12_hits_3 5 rfl ?_
  obtain ⟨v, τ, hc, h⟩ := bnd_e h
  refine z_callV (M' := m_X12_isSet) (t := 3) (i := 0) (k := 0) (As := [.int (x1), .int (x2), .int (x5)]) (rest := []) kl_12_491 oy_X12_isSet ⟨Nat.le_of_ble_eq_true rfl, Nat.le_of_ble_eq_true rfl⟩ rfl rfl rfl rfl (Nat.le_of_ble_eq_true rfl) rfl dX12_hits_5 (c_X12_isSet hc) (fun v2 τ2 hq => ?_)
  obtain ⟨rfl, hτ⟩ := hq
  subst τ2
  change Z _ _ _ _ _ [.int (v)] _
  exact zb_X12_hits_8 h
/-- SkyStonesModel.hits(IIIZI)I -/
theorem c_X12_hits {S : Shp} {x1 : Int32} {x2 : Int32} {x3 : Int32} {x4 : Int32} {x5 : Int32} {σ : Mm} {r : Int32 × Mm} (h : F_X12_hits x1 x2 x3 x4 x5 σ = some r) : Ct m_X12_hits S [.ref (sL S 3 0 0), .int (x1), .int (x2), .int (x3), .int (x4), .int (x5)] σ (Qi r) := Ct.of (by decide +kernel) (Nat.le_of_ble_eq_true rfl) (zb_X12_hits h)
def F_X12_hold_28 (σ : Mm) : Option (Int32 × Mm) := some (1, σ)
set_option maxRecDepth 20000 in
theorem zb_X12_hold_28 {S : Shp} {σ : Mm} {r : Int32 × Mm} (h : F_X12_hold_28 σ = some r) : Z m_X12_hold S (Qi r) 28 [] [] σ := by
  unfold F_X12_hold_28 at h
  refine z_iconst (v := 1) dX12_hold_28 (by decide) ?_
  cases h
  exact z_ireturn dX12_hold_29 rfl rfl ⟨rfl, rfl⟩
def F_X12_hold_19 (x1 : Int32) (σ : Mm) : Option (Int32 × Mm) := (if inb ((2 : Int32) + x1) 5 = true then (F_X12_hold_28 (setA σ 3 0 6 (upd (mA σ 3 0 6) ((2 : Int32) + x1).toNatClampNeg (vp_nar .boolean 1)))) else none)
set_option maxRecDepth 20000 in
theorem zb_X12_hold_19 {S : Shp} {x1 : Int32} {σ : Mm} {r : Int32 × Mm} (h : F_X12_hold_19 x1 σ = some r) : Z m_X12_hold S (Qi r) 19 [(0, .ref (sL S 3 0 0)), (1, .int (x1))] [] σ := by
  unfold F_X12_hold_19 at h
  obtain ⟨g1, h⟩ := gd h
  refine z_aload_n dX12_hold_19 rfl 0 rfl ?_
  refine gf_12_30 rfl dX12_hold_20 ?_
  refine z_iconst (v := 2) dX12_hold_23 (by decide) ?_
  refine z_iload_n dX12_hold_24 rfl 1 rfl ?_
  refine z_iadd dX12_hold_25 ?_
  refine z_iconst (v := 1) dX12_hold_26 (by decide) ?_
  refine is_3_6 (inb_in g1) dX12_hold_27 ?_
  refine Z.lv [] rfl ?_
  exact zb_X12_hold_28 h
def F_X12_hold (x1 : Int32) (σ : Mm) : Option (Int32 × Mm) := (if x1 < 0 then some (0, σ) else (if x1 ≤ (2 : Int32) then (bnv (F_X12_copy 0 ((2 : Int32) + x1) σ) (fun τ => (F_X12_hold_19 x1 τ))) else some (0, σ)))
set_option maxRecDepth 20000 in
theorem zb_X12_hold {S : Shp} {x1 : Int32} {σ : Mm} {r : Int32 × Mm} (h : F_X12_hold x1 σ = some r) : Z m_X12_hold S (Qi r) 0 [(0, .ref (sL S 3 0 0)), (1, .int (x1))] [] σ := by
  unfold F_X12_hold at h
  refine z_iload_n dX12_hold_0 rfl 1 rfl ?_
  refine z_if_lt (tgt := 9) dX12_hold_1 (by decide) (fun q => ?_) (fun q => ?_)
  · have h := (if_pos q).symm.trans h
    refine z_iconst (v := 0) dX12_hold_9 (by decide) ?_
    cases h
    exact z_ireturn dX12_hold_10 rfl rfl ⟨rfl, rfl⟩
  · have h := (if_neg q).symm.trans h
    refine z_iload_n dX12_hold_4 rfl 1 rfl ?_
    refine z_iconst (v := 2) dX12_hold_5 (by decide) ?_
    refine z_icmp_le (tgt := 11) dX12_hold_6 (by decide) (fun q => ?_) (fun q => ?_)
    · have h := (if_pos q).symm.trans h
      refine z_aload_n dX12_hold_11 rfl 0 rfl ?_
      refine z_iconst (v := 0) dX12_hold_12 (by decide) ?_
      refine z_iconst (v := 2) dX12_hold_13 (by decide) ?_
      refine z_iload_n dX12_hold_14 rfl 1 rfl ?_
      refine z_iadd dX12_hold_15 ?_
      obtain ⟨τ, hc, h⟩ := bnv_e h
      refine z_callV (M' := m_X12_copy) (t := 3) (i := 0) (k := 0) (As := [.int (0), .int ((2 : Int32) + x1)]) (rest := []) kl_12_404 oy_X12_copy ⟨Nat.le_of_ble_eq_true rfl, Nat.le_of_ble_eq_true rfl⟩ rfl rfl rfl rfl (Nat.le_of_ble_eq_true rfl) rfl dX12_hold_16 (c_X12_copy hc) (fun v2 τ2 hq => ?_)
      obtain ⟨rfl, hτ⟩ := hq
      subst τ2
      change Z _ _ _ _ _ [] _
      exact zb_X12_hold_19 h
    · have h := (if_neg q).symm.trans h
      refine z_iconst (v := 0) dX12_hold_9 (by decide) ?_
      cases h
      exact z_ireturn dX12_hold_10 rfl rfl ⟨rfl, rfl⟩
/-- SkyStonesModel.hold(I)Z -/
theorem c_X12_hold {S : Shp} {x1 : Int32} {σ : Mm} {r : Int32 × Mm} (h : F_X12_hold x1 σ = some r) : Ct m_X12_hold S [.ref (sL S 3 0 0), .int (x1)] σ (Qi r) := Ct.of (by decide +kernel) (Nat.le_of_ble_eq_true rfl) (zb_X12_hold h)
def F_X12_isDigit_15 (s0 : Int32) (σ : Mm) : Option (Int32 × Mm) := (if (57 : Int32) < s0 then some (0, σ) else some (1, σ))
set_option maxRecDepth 20000 in
theorem zb_X12_isDigit_15 {S : Shp} {s0 : Int32} {σ : Mm} {r : Int32 × Mm} (h : F_X12_isDigit_15 s0 σ = some r) : Z m_X12_isDigit S (Qi r) 15 [] [.int (s0)] σ := by
  unfold F_X12_isDigit_15 at h
  refine z_bipush (v := 57) dX12_isDigit_15 (by decide) ?_
  refine z_icmp_gt (tgt := 24) dX12_isDigit_17 (by decide) (fun q => ?_) (fun q => ?_)
  · have h := (if_pos q).symm.trans h
    refine z_iconst (v := 0) dX12_isDigit_24 (by decide) ?_
    cases h
    exact z_ireturn dX12_isDigit_25 rfl rfl ⟨rfl, rfl⟩
  · have h := (if_neg q).symm.trans h
    refine z_iconst (v := 1) dX12_isDigit_20 (by decide) ?_
    refine z_goto (tgt := 25) dX12_isDigit_21 (by decide) ?_
    cases h
    exact z_ireturn dX12_isDigit_25 rfl rfl ⟨rfl, rfl⟩
def F_X12_isDigit_5 (x1 : Int32) (s0 : Int32) (σ : Mm) : Option (Int32 × Mm) := (if s0 < (48 : Int32) then some (0, σ) else (bnd (F_X12_byteAt x1 σ) (fun v τ => (F_X12_isDigit_15 v τ))))
set_option maxRecDepth 20000 in
theorem zb_X12_isDigit_5 {S : Shp} {x1 : Int32} {s0 : Int32} {σ : Mm} {r : Int32 × Mm} (h : F_X12_isDigit_5 x1 s0 σ = some r) : Z m_X12_isDigit S (Qi r) 5 [(0, .ref (sL S 3 0 0)), (1, .int (x1))] [.int (s0)] σ := by
  unfold F_X12_isDigit_5 at h
  refine z_bipush (v := 48) dX12_isDigit_5 (by decide) ?_
  refine z_icmp_lt (tgt := 24) dX12_isDigit_7 (by decide) (fun q => ?_) (fun q => ?_)
  · have h := (if_pos q).symm.trans h
    refine z_iconst (v := 0) dX12_isDigit_24 (by decide) ?_
    cases h
    exact z_ireturn dX12_isDigit_25 rfl rfl ⟨rfl, rfl⟩
  · have h := (if_neg q).symm.trans h
    refine z_aload_n dX12_isDigit_10 rfl 0 rfl ?_
    refine z_iload_n dX12_isDigit_11 rfl 1 rfl ?_
    obtain ⟨v, τ, hc, h⟩ := bnd_e h
    refine z_callV (M' := m_X12_byteAt) (t := 3) (i := 0) (k := 0) (As := [.int (x1)]) (rest := []) kl_12_228 oy_X12_byteAt ⟨Nat.le_of_ble_eq_true rfl, Nat.le_of_ble_eq_true rfl⟩ rfl rfl rfl rfl (Nat.le_of_ble_eq_true rfl) rfl dX12_isDigit_12 (c_X12_byteAt hc) (fun v2 τ2 hq => ?_)
    obtain ⟨rfl, hτ⟩ := hq
    subst τ2
    change Z _ _ _ _ _ [.int (v)] _
    refine Z.lv [] rfl ?_
    exact zb_X12_isDigit_15 h
def F_X12_isDigit (x1 : Int32) (σ : Mm) : Option (Int32 × Mm) := (bnd (F_X12_byteAt x1 σ) (fun v τ => (F_X12_isDigit_5 x1 v τ)))
set_option maxRecDepth 20000 in
theorem zb_X12_isDigit {S : Shp} {x1 : Int32} {σ : Mm} {r : Int32 × Mm} (h : F_X12_isDigit x1 σ = some r) : Z m_X12_isDigit S (Qi r) 0 [(0, .ref (sL S 3 0 0)), (1, .int (x1))] [] σ := by
  unfold F_X12_isDigit at h
  refine z_aload_n dX12_isDigit_0 rfl 0 rfl ?_
  refine z_iload_n dX12_isDigit_1 rfl 1 rfl ?_
  obtain ⟨v, τ, hc, h⟩ := bnd_e h
  refine z_callV (M' := m_X12_byteAt) (t := 3) (i := 0) (k := 0) (As := [.int (x1)]) (rest := []) kl_12_228 oy_X12_byteAt ⟨Nat.le_of_ble_eq_true rfl, Nat.le_of_ble_eq_true rfl⟩ rfl rfl rfl rfl (Nat.le_of_ble_eq_true rfl) rfl dX12_isDigit_2 (c_X12_byteAt hc) (fun v2 τ2 hq => ?_)
  obtain ⟨rfl, hτ⟩ := hq
  subst τ2
  change Z _ _ _ _ _ [.int (v)] _
  exact zb_X12_isDigit_5 h
/-- SkyStonesModel.isDigit(I)Z -/
theorem c_X12_isDigit {S : Shp} {x1 : Int32} {σ : Mm} {r : Int32 × Mm} (h : F_X12_isDigit x1 σ = some r) : Ct m_X12_isDigit S [.ref (sL S 3 0 0), .int (x1)] σ (Qi r) := Ct.of (by decide +kernel) (Nat.le_of_ble_eq_true rfl) (zb_X12_isDigit h)
def F_X12_isLetter_15 (s0 : Int32) (σ : Mm) : Option (Int32 × Mm) := (if (122 : Int32) < s0 then some (0, σ) else some (1, σ))
set_option maxRecDepth 20000 in
theorem zb_X12_isLetter_15 {S : Shp} {s0 : Int32} {σ : Mm} {r : Int32 × Mm} (h : F_X12_isLetter_15 s0 σ = some r) : Z m_X12_isLetter S (Qi r) 15 [] [.int (s0)] σ := by
  unfold F_X12_isLetter_15 at h
  refine z_bipush (v := 122) dX12_isLetter_15 (by decide) ?_
  refine z_icmp_gt (tgt := 24) dX12_isLetter_17 (by decide) (fun q => ?_) (fun q => ?_)
  · have h := (if_pos q).symm.trans h
    refine z_iconst (v := 0) dX12_isLetter_24 (by decide) ?_
    cases h
    exact z_ireturn dX12_isLetter_25 rfl rfl ⟨rfl, rfl⟩
  · have h := (if_neg q).symm.trans h
    refine z_iconst (v := 1) dX12_isLetter_20 (by decide) ?_
    refine z_goto (tgt := 25) dX12_isLetter_21 (by decide) ?_
    cases h
    exact z_ireturn dX12_isLetter_25 rfl rfl ⟨rfl, rfl⟩
def F_X12_isLetter_5 (x1 : Int32) (s0 : Int32) (σ : Mm) : Option (Int32 × Mm) := (if s0 < (97 : Int32) then some (0, σ) else (bnd (F_X12_byteAt x1 σ) (fun v τ => (F_X12_isLetter_15 v τ))))
set_option maxRecDepth 20000 in
theorem zb_X12_isLetter_5 {S : Shp} {x1 : Int32} {s0 : Int32} {σ : Mm} {r : Int32 × Mm} (h : F_X12_isLetter_5 x1 s0 σ = some r) : Z m_X12_isLetter S (Qi r) 5 [(0, .ref (sL S 3 0 0)), (1, .int (x1))] [.int (s0)] σ := by
  unfold F_X12_isLetter_5 at h
  refine z_bipush (v := 97) dX12_isLetter_5 (by decide) ?_
  refine z_icmp_lt (tgt := 24) dX12_isLetter_7 (by decide) (fun q => ?_) (fun q => ?_)
  · have h := (if_pos q).symm.trans h
    refine z_iconst (v := 0) dX12_isLetter_24 (by decide) ?_
    cases h
    exact z_ireturn dX12_isLetter_25 rfl rfl ⟨rfl, rfl⟩
  · have h := (if_neg q).symm.trans h
    refine z_aload_n dX12_isLetter_10 rfl 0 rfl ?_
    refine z_iload_n dX12_isLetter_11 rfl 1 rfl ?_
    obtain ⟨v, τ, hc, h⟩ := bnd_e h
    refine z_callV (M' := m_X12_byteAt) (t := 3) (i := 0) (k := 0) (As := [.int (x1)]) (rest := []) kl_12_228 oy_X12_byteAt ⟨Nat.le_of_ble_eq_true rfl, Nat.le_of_ble_eq_true rfl⟩ rfl rfl rfl rfl (Nat.le_of_ble_eq_true rfl) rfl dX12_isLetter_12 (c_X12_byteAt hc) (fun v2 τ2 hq => ?_)
    obtain ⟨rfl, hτ⟩ := hq
    subst τ2
    change Z _ _ _ _ _ [.int (v)] _
    refine Z.lv [] rfl ?_
    exact zb_X12_isLetter_15 h
def F_X12_isLetter (x1 : Int32) (σ : Mm) : Option (Int32 × Mm) := (bnd (F_X12_byteAt x1 σ) (fun v τ => (F_X12_isLetter_5 x1 v τ)))
set_option maxRecDepth 20000 in
theorem zb_X12_isLetter {S : Shp} {x1 : Int32} {σ : Mm} {r : Int32 × Mm} (h : F_X12_isLetter x1 σ = some r) : Z m_X12_isLetter S (Qi r) 0 [(0, .ref (sL S 3 0 0)), (1, .int (x1))] [] σ := by
  unfold F_X12_isLetter at h
  refine z_aload_n dX12_isLetter_0 rfl 0 rfl ?_
  refine z_iload_n dX12_isLetter_1 rfl 1 rfl ?_
  obtain ⟨v, τ, hc, h⟩ := bnd_e h
  refine z_callV (M' := m_X12_byteAt) (t := 3) (i := 0) (k := 0) (As := [.int (x1)]) (rest := []) kl_12_228 oy_X12_byteAt ⟨Nat.le_of_ble_eq_true rfl, Nat.le_of_ble_eq_true rfl⟩ rfl rfl rfl rfl (Nat.le_of_ble_eq_true rfl) rfl dX12_isLetter_2 (c_X12_byteAt hc) (fun v2 τ2 hq => ?_)
  obtain ⟨rfl, hτ⟩ := hq
  subst τ2
  change Z _ _ _ _ _ [.int (v)] _
  exact zb_X12_isLetter_5 h
/-- SkyStonesModel.isLetter(I)Z -/
theorem c_X12_isLetter {S : Shp} {x1 : Int32} {σ : Mm} {r : Int32 × Mm} (h : F_X12_isLetter x1 σ = some r) : Ct m_X12_isLetter S [.ref (sL S 3 0 0), .int (x1)] σ (Qi r) := Ct.of (by decide +kernel) (Nat.le_of_ble_eq_true rfl) (zb_X12_isLetter h)
def f_X12_isMake (x0 : Int32) (x1 : Int32) : Int32 := (if (f_X12_isIn x0 1 7) = 0 then 0 else (if (f_X12_isIn x1 0 x0) = 0 then 0 else 1))
set_option maxRecDepth 20000 in
theorem zb_X12_isMake {S : Shp} {x0 : Int32} {x1 : Int32} {σ : Mm} {r : Int32} (h : f_X12_isMake x0 x1 = r) : Z m_X12_isMake S (Qi (r, σ)) 0 [(0, .int (x0)), (1, .int (x1))] [] σ := by
  unfold f_X12_isMake at h
  refine z_iload_n dX12_isMake_0 rfl 0 rfl ?_
  refine z_iconst (v := 1) dX12_isMake_1 (by decide) ?_
  refine z_bipush (v := 7) dX12_isMake_2 (by decide) ?_
  refine z_callS (M' := m_X12_isIn) (As := [.int (x0), .int (1), .int (7)]) (rest := []) kl_12_407 oy_X12_isIn ⟨Nat.le_of_ble_eq_true rfl, Nat.le_of_ble_eq_true rfl⟩ rfl (Nat.le_of_ble_eq_true rfl) rfl dX12_isMake_4 (c_X12_isIn rfl) (fun v τ hq => ?_)
  obtain ⟨rfl, hτ⟩ := hq
  subst τ
  change Z _ _ _ _ _ [.int (f_X12_isIn x0 1 7)] _
  refine z_if_eq (tgt := 23) dX12_isMake_7 (by decide) (fun q => ?_) (fun q => ?_)
  · have h := (if_pos q).symm.trans h
    refine z_iconst (v := 0) dX12_isMake_23 (by decide) ?_
    subst h
    exact z_ireturn dX12_isMake_24 rfl rfl ⟨rfl, rfl⟩
  · have h := (if_neg q).symm.trans h
    refine z_iload_n dX12_isMake_10 rfl 1 rfl ?_
    refine z_iconst (v := 0) dX12_isMake_11 (by decide) ?_
    refine z_iload_n dX12_isMake_12 rfl 0 rfl ?_
    refine z_callS (M' := m_X12_isIn) (As := [.int (x1), .int (0), .int (x0)]) (rest := []) kl_12_407 oy_X12_isIn ⟨Nat.le_of_ble_eq_true rfl, Nat.le_of_ble_eq_true rfl⟩ rfl (Nat.le_of_ble_eq_true rfl) rfl dX12_isMake_13 (c_X12_isIn rfl) (fun v τ hq => ?_)
    obtain ⟨rfl, hτ⟩ := hq
    subst τ
    change Z _ _ _ _ _ [.int (f_X12_isIn x1 0 x0)] _
    refine z_if_eq (tgt := 23) dX12_isMake_16 (by decide) (fun q => ?_) (fun q => ?_)
    · have h := (if_pos q).symm.trans h
      refine z_iconst (v := 0) dX12_isMake_23 (by decide) ?_
      subst h
      exact z_ireturn dX12_isMake_24 rfl rfl ⟨rfl, rfl⟩
    · have h := (if_neg q).symm.trans h
      refine z_iconst (v := 1) dX12_isMake_19 (by decide) ?_
      refine z_goto (tgt := 24) dX12_isMake_20 (by decide) ?_
      subst h
      exact z_ireturn dX12_isMake_24 rfl rfl ⟨rfl, rfl⟩
/-- SkyStonesModel.isMake(II)Z -/
theorem c_X12_isMake {S : Shp} {x0 : Int32} {x1 : Int32} {σ : Mm} {r : Int32} (h : f_X12_isMake x0 x1 = r) : Ct m_X12_isMake S [.int (x0), .int (x1)] σ (Qi (r, σ)) := Ct.of (by decide +kernel) (Nat.le_of_ble_eq_true rfl) (zb_X12_isMake h)
def F_X12_life_70 (rc46 : Int32 → Int32 → Int32 → Int32 → Int32 → Int32 → Mm → Option (Int32 × Mm)) (x1 : Int32) (x2 : Int32) (x3 : Int32) (x4 : Int32) (x6 : Int32) (s0 : Int32) (s1 : Int32) (σ : Mm) : Option (Int32 × Mm) := (rc46 x1 x2 x3 x4 (s1 + s0) (x6 + 1) σ)
set_option maxRecDepth 20000 in
theorem zb_X12_life_70 {S : Shp} {rc46 : Int32 → Int32 → Int32 → Int32 → Int32 → Int32 → Mm → Option (Int32 × Mm)} (hrc46 : ∀ {x1 : Int32} {x2 : Int32} {x3 : Int32} {x4 : Int32} {x5 : Int32} {x6 : Int32} {σ : Mm} {r : Int32 × Mm}, rc46 x1 x2 x3 x4 x5 x6 σ = some r → Z m_X12_life S (Qi r) 46 [(1, .int (x1)), (2, .int (x2)), (3, .int (x3)), (4, .int (x4)), (5, .int (x5)), (6, .int (x6))] [] σ) {x1 : Int32} {x2 : Int32} {x3 : Int32} {x4 : Int32} {x6 : Int32} {s0 : Int32} {s1 : Int32} {σ : Mm} {r : Int32 × Mm} (h : F_X12_life_70 rc46 x1 x2 x3 x4 x6 s0 s1 σ = some r) : Z m_X12_life S (Qi r) 70 [(1, .int (x1)), (2, .int (x2)), (3, .int (x3)), (4, .int (x4)), (6, .int (x6))] [.int (s0), .int (s1)] σ := by
  unfold F_X12_life_70 at h
  refine z_iadd dX12_life_70 ?_
  refine z_istore (lv' := [(1, .int (x1)), (2, .int (x2)), (3, .int (x3)), (4, .int (x4)), (5, .int (s1 + s0)), (6, .int (x6))]) dX12_life_71 (by decide) [1, 2, 3, 4, 0, 5] rfl ?_
  refine z_iinc (j := 5) (v := x6 + 1) (lv' := [(1, .int (x1)), (2, .int (x2)), (3, .int (x3)), (4, .int (x4)), (5, .int (s1 + s0)), (6, .int (x6 + 1))]) dX12_life_73 rfl rfl (by decide) [1, 2, 3, 4, 5, 0] rfl ?_
  refine z_goto (tgt := 46) dX12_life_76 (by decide) ?_
  exact hrc46 h
def B_X12_life_46 (rc46 : Int32 → Int32 → Int32 → Int32 → Int32 → Int32 → Mm → Option (Int32 × Mm)) (x1 : Int32) (x2 : Int32) (x3 : Int32) (x4 : Int32) (x5 : Int32) (x6 : Int32) (σ : Mm) : Option (Int32 × Mm) := (if (x1 + x2) ≤ x6 then some (x5, σ) else (if ¬ x3 = 0 then (if (x6 - x6 / x3 * x3) = x4 then (F_X12_life_70 rc46 x1 x2 x3 x4 x6 1 x5 σ) else (F_X12_life_70 rc46 x1 x2 x3 x4 x6 0 x5 σ)) else none))
set_option maxRecDepth 20000 in
theorem zB_X12_life_46 {S : Shp} {rc46 : Int32 → Int32 → Int32 → Int32 → Int32 → Int32 → Mm → Option (Int32 × Mm)} (hrc46 : ∀ {x1 : Int32} {x2 : Int32} {x3 : Int32} {x4 : Int32} {x5 : Int32} {x6 : Int32} {σ : Mm} {r : Int32 × Mm}, rc46 x1 x2 x3 x4 x5 x6 σ = some r → Z m_X12_life S (Qi r) 46 [(1, .int (x1)), (2, .int (x2)), (3, .int (x3)), (4, .int (x4)), (5, .int (x5)), (6, .int (x6))] [] σ) {x1 : Int32} {x2 : Int32} {x3 : Int32} {x4 : Int32} {x5 : Int32} {x6 : Int32} {σ : Mm} {r : Int32 × Mm} (h : B_X12_life_46 rc46 x1 x2 x3 x4 x5 x6 σ = some r) : Z m_X12_life S (Qi r) 46 [(1, .int (x1)), (2, .int (x2)), (3, .int (x3)), (4, .int (x4)), (5, .int (x5)), (6, .int (x6))] [] σ := by
  unfold B_X12_life_46 at h
  refine z_iload dX12_life_46 5 rfl ?_
  refine z_iload_n dX12_life_48 rfl 0 rfl ?_
  refine z_iload_n dX12_life_49 rfl 1 rfl ?_
  refine z_iadd dX12_life_50 ?_
  refine z_icmp_ge (tgt := 79) dX12_life_51 (by decide) (fun q => ?_) (fun q => ?_)
  · have h := (if_pos q).symm.trans h
    refine z_iload dX12_life_79 4 rfl ?_
    cases h
    exact z_ireturn dX12_life_81 rfl rfl ⟨rfl, rfl⟩
  · have h := (if_neg q).symm.trans h
    obtain ⟨g1, h⟩ := gd h
    refine z_iload dX12_life_54 4 rfl ?_
    refine z_iload dX12_life_56 5 rfl ?_
    refine z_iload_n dX12_life_58 rfl 2 rfl ?_
    refine z_irem dX12_life_59 g1 ?_
    refine z_iload dX12_life_60 3 rfl ?_
    refine z_icmp_ne (tgt := 69) dX12_life_62 (by decide) (fun q => ?_) (fun q => ?_)
    · have h := (if_neg q).symm.trans h
      refine z_iconst (v := 0) dX12_life_69 (by decide) ?_
      refine Z.lv [0, 1, 2, 3, 5] rfl ?_
      exact zb_X12_life_70 hrc46 h
    · have h := (if_pos q).symm.trans h
      refine z_iconst (v := 1) dX12_life_65 (by decide) ?_
      refine z_goto (tgt := 70) dX12_life_66 (by decide) ?_
      refine Z.lv [0, 1, 2, 3, 5] rfl ?_
      exact zb_X12_life_70 hrc46 h
def F_X12_life_46 : Nat → Int32 → Int32 → Int32 → Int32 → Int32 → Int32 → Mm → Option (Int32 × Mm)
  | 0 => fun _ _ _ _ _ _ _ => none
  | n + 1 => B_X12_life_46 (F_X12_life_46 n)
theorem zl_X12_life_46 {S : Shp} : ∀ (nn : Nat) {x1 : Int32} {x2 : Int32} {x3 : Int32} {x4 : Int32} {x5 : Int32} {x6 : Int32} {σ : Mm} {r : Int32 × Mm}, F_X12_life_46 nn x1 x2 x3 x4 x5 x6 σ = some r → Z m_X12_life S (Qi r) 46 [(1, .int (x1)), (2, .int (x2)), (3, .int (x3)), (4, .int (x4)), (5, .int (x5)), (6, .int (x6))] [] σ := by
  intro nn
  induction nn with
  | zero => intro x1 x2 x3 x4 x5 x6 σ r h; cases h
  | succ nn ih => intro x1 x2 x3 x4 x5 x6 σ r h; exact zB_X12_life_46 @ih h
def F_X12_life (x1 : Int32) (x2 : Int32) (x3 : Int32) (x4 : Int32) (σ : Mm) : Option (Int32 × Mm) := (if (f_X12_isYear x1) = 0 then some ((-1), σ) else (if (f_X12_isIn x2 1 90) = 0 then some ((-1), σ) else (if (f_X12_isIn x3 2 60) = 0 then some ((-1), σ) else (if x4 < 0 then some ((-1), σ) else (if x4 < x3 then (F_X12_life_46 FU x1 x2 x3 x4 0 x1 σ) else some ((-1), σ))))))
set_option maxRecDepth 20000 in
theorem zb_X12_life {S : Shp} {x1 : Int32} {x2 : Int32} {x3 : Int32} {x4 : Int32} {σ : Mm} {r : Int32 × Mm} (h : F_X12_life x1 x2 x3 x4 σ = some r) : Z m_X12_life S (Qi r) 0 [(0, .ref (sL S 3 0 0)), (1, .int (x1)), (2, .int (x2)), (3, .int (x3)), (4, .int (x4))] [] σ := by
  unfold F_X12_life at h
  refine z_iload_n dX12_life_0 rfl 1 rfl ?_
  refine z_callS (M' := m_X12_isYear) (As := [.int (x1)]) (rest := []) kl_12_472 oy_X12_isYear ⟨Nat.le_of_ble_eq_true rfl, Nat.le_of_ble_eq_true rfl⟩ rfl (Nat.le_of_ble_eq_true rfl) rfl dX12_life_1 (c_X12_isYear rfl) (fun v τ hq => ?_)
  obtain ⟨rfl, hτ⟩ := hq
  subst τ
  change Z _ _ _ _ _ [.int (f_X12_isYear x1)] _
  refine z_if_eq (tgt := 38) dX12_life_4 (by decide) (fun q => ?_) (fun q => ?_)
  · have h := (if_pos q).symm.trans h
    refine z_iconst (v := (-1)) dX12_life_38 (by decide) ?_
    cases h
    exact z_ireturn dX12_life_39 rfl rfl ⟨rfl, rfl⟩
  · have h := (if_neg q).symm.trans h
    refine z_iload_n dX12_life_7 rfl 2 rfl ?_
    refine z_iconst (v := 1) dX12_life_8 (by decide) ?_
    refine z_bipush (v := 90) dX12_life_9 (by decide) ?_
    refine z_callS (M' := m_X12_isIn) (As := [.int (x2), .int (1), .int (90)]) (rest := []) kl_12_407 oy_X12_isIn ⟨Nat.le_of_ble_eq_true rfl, Nat.le_of_ble_eq_true rfl⟩ rfl (Nat.le_of_ble_eq_true rfl) rfl dX12_life_11 (c_X12_isIn rfl) (fun v τ hq => ?_)
    obtain ⟨rfl, hτ⟩ := hq
    subst τ
    change Z _ _ _ _ _ [.int (f_X12_isIn x2 1 90)] _
    refine z_if_eq (tgt := 38) dX12_life_14 (by decide) (fun q => ?_) (fun q => ?_)
    · have h := (if_pos q).symm.trans h
      refine z_iconst (v := (-1)) dX12_life_38 (by decide) ?_
      cases h
      exact z_ireturn dX12_life_39 rfl rfl ⟨rfl, rfl⟩
    · have h := (if_neg q).symm.trans h
      refine z_iload_n dX12_life_17 rfl 3 rfl ?_
      refine z_iconst (v := 2) dX12_life_18 (by decide) ?_
      refine z_bipush (v := 60) dX12_life_19 (by decide) ?_
      refine z_callS (M' := m_X12_isIn) (As := [.int (x3), .int (2), .int (60)]) (rest := []) kl_12_407 oy_X12_isIn ⟨Nat.le_of_ble_eq_true rfl, Nat.le_of_ble_eq_true rfl⟩ rfl (Nat.le_of_ble_eq_true rfl) rfl dX12_life_21 (c_X12_isIn rfl) (fun v τ hq => ?_)
      obtain ⟨rfl, hτ⟩ := hq
      subst τ
      change Z _ _ _ _ _ [.int (f_X12_isIn x3 2 60)] _
      refine z_if_eq (tgt := 38) dX12_life_24 (by decide) (fun q => ?_) (fun q => ?_)
      · have h := (if_pos q).symm.trans h
        refine z_iconst (v := (-1)) dX12_life_38 (by decide) ?_
        cases h
        exact z_ireturn dX12_life_39 rfl rfl ⟨rfl, rfl⟩
      · have h := (if_neg q).symm.trans h
        refine z_iload dX12_life_27 4 rfl ?_
        refine z_if_lt (tgt := 38) dX12_life_29 (by decide) (fun q => ?_) (fun q => ?_)
        · have h := (if_pos q).symm.trans h
          refine z_iconst (v := (-1)) dX12_life_38 (by decide) ?_
          cases h
          exact z_ireturn dX12_life_39 rfl rfl ⟨rfl, rfl⟩
        · have h := (if_neg q).symm.trans h
          refine z_iload dX12_life_32 4 rfl ?_
          refine z_iload_n dX12_life_34 rfl 3 rfl ?_
          refine z_icmp_lt (tgt := 40) dX12_life_35 (by decide) (fun q => ?_) (fun q => ?_)
          · have h := (if_pos q).symm.trans h
            refine z_iconst (v := 0) dX12_life_40 (by decide) ?_
            refine z_istore (lv' := [(0, .ref (sL S 3 0 0)), (1, .int (x1)), (2, .int (x2)), (3, .int (x3)), (4, .int (x4)), (5, .int (0))]) dX12_life_41 (by decide) [1, 2, 3, 4, 5, 0] rfl ?_
            refine z_iload_n dX12_life_43 rfl 1 rfl ?_
            refine z_istore (lv' := [(0, .ref (sL S 3 0 0)), (1, .int (x1)), (2, .int (x2)), (3, .int (x3)), (4, .int (x4)), (5, .int (0)), (6, .int (x1))]) dX12_life_44 (by decide) [1, 2, 3, 4, 5, 6, 0] rfl ?_
            refine Z.lv [1, 2, 3, 4, 5, 6] rfl ?_
            exact zl_X12_life_46 FU h
          · have h := (if_neg q).symm.trans h
            refine z_iconst (v := (-1)) dX12_life_38 (by decide) ?_
            cases h
            exact z_ireturn dX12_life_39 rfl rfl ⟨rfl, rfl⟩
/-- SkyStonesModel.life(IIII)I -/
theorem c_X12_life {S : Shp} {x1 : Int32} {x2 : Int32} {x3 : Int32} {x4 : Int32} {σ : Mm} {r : Int32 × Mm} (h : F_X12_life x1 x2 x3 x4 σ = some r) : Ct m_X12_life S [.ref (sL S 3 0 0), .int (x1), .int (x2), .int (x3), .int (x4)] σ (Qi r) := Ct.of (by decide +kernel) (Nat.le_of_ble_eq_true rfl) (zb_X12_life h)
def F_X12_line_85 (s0 : Int32) (σ : Mm) : Option (Int32 × Mm) := some (s0, σ)
set_option maxRecDepth 20000 in
theorem zb_X12_line_85 {S : Shp} {s0 : Int32} {σ : Mm} {r : Int32 × Mm} (h : F_X12_line_85 s0 σ = some r) : Z m_X12_line S (Qi r) 85 [] [.int (s0)] σ := by
  unfold F_X12_line_85 at h
  cases h
  exact z_ireturn dX12_line_85 rfl rfl ⟨rfl, rfl⟩
def F_X12_line_82 (s0 : Int32) (s1 : Int32) (σ : Mm) : Option (Int32 × Mm) := (bnd (F_X12_lineOf s1 s0 σ) (fun v τ => (F_X12_line_85 v τ)))
set_option maxRecDepth 20000 in
theorem zb_X12_line_82 {S : Shp} {s0 : Int32} {s1 : Int32} {σ : Mm} {r : Int32 × Mm} (h : F_X12_line_82 s0 s1 σ = some r) : Z m_X12_line S (Qi r) 82 [] [.int (s0), .int (s1), .ref (sL S 3 0 0)] σ := by
  unfold F_X12_line_82 at h
  obtain ⟨v, τ, hc, h⟩ := bnd_e h
  refine z_callV (M' := m_X12_lineOf) (t := 3) (i := 0) (k := 0) (As := [.int (s1), .int (s0)]) (rest := []) kl_12_441 oy_X12_lineOf ⟨Nat.le_of_ble_eq_true rfl, Nat.le_of_ble_eq_true rfl⟩ rfl rfl rfl rfl (Nat.le_of_ble_eq_true rfl) rfl dX12_line_82 (c_X12_lineOf hc) (fun v2 τ2 hq => ?_)
  obtain ⟨rfl, hτ⟩ := hq
  subst τ2
  change Z _ _ _ _ _ [.int (v)] _
  exact zb_X12_line_85 h
def F_X12_line_36 (x1 : Int32) (x2 : Int32) (σ : Mm) : Option (Int32 × Mm) := (if inb x1 196 = true then (if (mA σ 3 0 52 x1.toNatClampNeg) = 0 then some ((-1), σ) else (if x2 = (7 : Int32) then (if inb x1 196 = true then (if (mA σ 3 0 55 x1.toNatClampNeg) = 0 then some (0, σ) else some (1, σ)) else none) else (if x2 = 0 then (F_X12_line_82 8 x1 σ) else (F_X12_line_82 (x2 + (1 : Int32)) x1 σ)))) else none)
set_option maxRecDepth 20000 in
theorem zb_X12_line_36 {S : Shp} {x1 : Int32} {x2 : Int32} {σ : Mm} {r : Int32 × Mm} (h : F_X12_line_36 x1 x2 σ = some r) : Z m_X12_line S (Qi r) 36 [(0, .ref (sL S 3 0 0)), (1, .int (x1)), (2, .int (x2))] [] σ := by
  unfold F_X12_line_36 at h
  obtain ⟨g1, h⟩ := gd h
  refine z_aload_n dX12_line_36 rfl 0 rfl ?_
  refine gf_12_169 rfl dX12_line_37 ?_
  refine z_iload_n dX12_line_40 rfl 1 rfl ?_
  refine ia_3_52 (inb_in g1) dX12_line_41 ?_
  refine z_if_ne (tgt := 47) dX12_line_42 (by decide) (fun q => ?_) (fun q => ?_)
  · have h := (if_neg q).symm.trans h
    refine z_iload_n dX12_line_47 rfl 2 rfl ?_
    refine z_bipush (v := 7) dX12_line_48 (by decide) ?_
    refine z_icmp_ne (tgt := 68) dX12_line_50 (by decide) (fun q => ?_) (fun q => ?_)
    · have h := (if_neg q).symm.trans h
      refine z_aload_n dX12_line_68 rfl 0 rfl ?_
      refine z_iload_n dX12_line_69 rfl 1 rfl ?_
      refine z_iload_n dX12_line_70 rfl 2 rfl ?_
      refine z_if_ne (tgt := 79) dX12_line_71 (by decide) (fun q => ?_) (fun q => ?_)
      · have h := (if_neg q).symm.trans h
        refine z_iload_n dX12_line_79 rfl 2 rfl ?_
        refine z_iconst (v := 1) dX12_line_80 (by decide) ?_
        refine z_iadd dX12_line_81 ?_
        refine Z.lv [] rfl ?_
        exact zb_X12_line_82 h
      · have h := (if_pos q).symm.trans h
        refine z_bipush (v := 8) dX12_line_74 (by decide) ?_
        refine z_goto (tgt := 82) dX12_line_76 (by decide) ?_
        refine Z.lv [] rfl ?_
        exact zb_X12_line_82 h
    · have h := (if_pos q).symm.trans h
      obtain ⟨g2, h⟩ := gd h
      refine z_aload_n dX12_line_53 rfl 0 rfl ?_
      refine gf_12_178 rfl dX12_line_54 ?_
      refine z_iload_n dX12_line_57 rfl 1 rfl ?_
      refine ia_3_55 (inb_in g2) dX12_line_58 ?_
      refine z_if_eq (tgt := 66) dX12_line_59 (by decide) (fun q => ?_) (fun q => ?_)
      · have h := (if_pos q).symm.trans h
        refine z_iconst (v := 0) dX12_line_66 (by decide) ?_
        cases h
        exact z_ireturn dX12_line_67 rfl rfl ⟨rfl, rfl⟩
      · have h := (if_neg q).symm.trans h
        refine z_iconst (v := 1) dX12_line_62 (by decide) ?_
        refine z_goto (tgt := 67) dX12_line_63 (by decide) ?_
        cases h
        exact z_ireturn dX12_line_67 rfl rfl ⟨rfl, rfl⟩
  · have h := (if_pos q).symm.trans h
    refine z_iconst (v := (-1)) dX12_line_45 (by decide) ?_
    cases h
    exact z_ireturn dX12_line_46 rfl rfl ⟨rfl, rfl⟩
def F_X12_line_26 (x1 : Int32) (x2 : Int32) (x3 : Int32) (s0 : Int32) (σ : Mm) : Option (Int32 × Mm) := (if s0 = 0 then some ((-1), σ) else (bnv (F_X12_lay x3 σ) (fun τ => (F_X12_line_36 x1 x2 τ))))
set_option maxRecDepth 20000 in
theorem zb_X12_line_26 {S : Shp} {x1 : Int32} {x2 : Int32} {x3 : Int32} {s0 : Int32} {σ : Mm} {r : Int32 × Mm} (h : F_X12_line_26 x1 x2 x3 s0 σ = some r) : Z m_X12_line S (Qi r) 26 [(0, .ref (sL S 3 0 0)), (1, .int (x1)), (2, .int (x2)), (3, .int (x3))] [.int (s0)] σ := by
  unfold F_X12_line_26 at h
  refine z_if_ne (tgt := 31) dX12_line_26 (by decide) (fun q => ?_) (fun q => ?_)
  · have h := (if_neg q).symm.trans h
    refine z_aload_n dX12_line_31 rfl 0 rfl ?_
    refine z_iload_n dX12_line_32 rfl 3 rfl ?_
    obtain ⟨τ, hc, h⟩ := bnv_e h
    refine z_callV (M' := m_X12_lay) (t := 3) (i := 0) (k := 0) (As := [.int (x3)]) (rest := []) kl_12_463 oy_X12_lay ⟨Nat.le_of_ble_eq_true rfl, Nat.le_of_ble_eq_true rfl⟩ rfl rfl rfl rfl (Nat.le_of_ble_eq_true rfl) rfl dX12_line_33 (c_X12_lay hc) (fun v2 τ2 hq => ?_)
    obtain ⟨rfl, hτ⟩ := hq
    subst τ2
    change Z _ _ _ _ _ [] _
    refine Z.lv [0, 1, 2] rfl ?_
    exact zb_X12_line_36 h
  · have h := (if_pos q).symm.trans h
    refine z_iconst (v := (-1)) dX12_line_29 (by decide) ?_
    cases h
    exact z_ireturn dX12_line_30 rfl rfl ⟨rfl, rfl⟩
def F_X12_line (x1 : Int32) (x2 : Int32) (x3 : Int32) (σ : Mm) : Option (Int32 × Mm) := (if (f_X12_isIn x1 0 195) = 0 then some ((-1), σ) else (if (f_X12_isIn x2 0 7) = 0 then some ((-1), σ) else (bnd (F_X12_isKnown x3 σ) (fun v τ => (F_X12_line_26 x1 x2 x3 v τ)))))
set_option maxRecDepth 20000 in
theorem zb_X12_line {S : Shp} {x1 : Int32} {x2 : Int32} {x3 : Int32} {σ : Mm} {r : Int32 × Mm} (h : F_X12_line x1 x2 x3 σ = some r) : Z m_X12_line S (Qi r) 0 [(0, .ref (sL S 3 0 0)), (1, .int (x1)), (2, .int (x2)), (3, .int (x3))] [] σ := by
  unfold F_X12_line at h
  refine z_iload_n dX12_line_0 rfl 1 rfl ?_
  refine z_iconst (v := 0) dX12_line_1 (by decide) ?_
  refine z_sipush (v := 195) dX12_line_2 (by decide) ?_
  refine z_callS (M' := m_X12_isIn) (As := [.int (x1), .int (0), .int (195)]) (rest := []) kl_12_407 oy_X12_isIn ⟨Nat.le_of_ble_eq_true rfl, Nat.le_of_ble_eq_true rfl⟩ rfl (Nat.le_of_ble_eq_true rfl) rfl dX12_line_5 (c_X12_isIn rfl) (fun v τ hq => ?_)
  obtain ⟨rfl, hτ⟩ := hq
  subst τ
  change Z _ _ _ _ _ [.int (f_X12_isIn x1 0 195)] _
  refine z_if_eq (tgt := 29) dX12_line_8 (by decide) (fun q => ?_) (fun q => ?_)
  · have h := (if_pos q).symm.trans h
    refine z_iconst (v := (-1)) dX12_line_29 (by decide) ?_
    cases h
    exact z_ireturn dX12_line_30 rfl rfl ⟨rfl, rfl⟩
  · have h := (if_neg q).symm.trans h
    refine z_iload_n dX12_line_11 rfl 2 rfl ?_
    refine z_iconst (v := 0) dX12_line_12 (by decide) ?_
    refine z_bipush (v := 7) dX12_line_13 (by decide) ?_
    refine z_callS (M' := m_X12_isIn) (As := [.int (x2), .int (0), .int (7)]) (rest := []) kl_12_407 oy_X12_isIn ⟨Nat.le_of_ble_eq_true rfl, Nat.le_of_ble_eq_true rfl⟩ rfl (Nat.le_of_ble_eq_true rfl) rfl dX12_line_15 (c_X12_isIn rfl) (fun v τ hq => ?_)
    obtain ⟨rfl, hτ⟩ := hq
    subst τ
    change Z _ _ _ _ _ [.int (f_X12_isIn x2 0 7)] _
    refine z_if_eq (tgt := 29) dX12_line_18 (by decide) (fun q => ?_) (fun q => ?_)
    · have h := (if_pos q).symm.trans h
      refine z_iconst (v := (-1)) dX12_line_29 (by decide) ?_
      cases h
      exact z_ireturn dX12_line_30 rfl rfl ⟨rfl, rfl⟩
    · have h := (if_neg q).symm.trans h
      refine z_aload_n dX12_line_21 rfl 0 rfl ?_
      refine z_iload_n dX12_line_22 rfl 3 rfl ?_
      obtain ⟨v, τ, hc, h⟩ := bnd_e h
      refine z_callV (M' := m_X12_isKnown) (t := 3) (i := 0) (k := 0) (As := [.int (x3)]) (rest := []) kl_12_457 oy_X12_isKnown ⟨Nat.le_of_ble_eq_true rfl, Nat.le_of_ble_eq_true rfl⟩ rfl rfl rfl rfl (Nat.le_of_ble_eq_true rfl) rfl dX12_line_23 (c_X12_isKnown hc) (fun v2 τ2 hq => ?_)
      obtain ⟨rfl, hτ⟩ := hq
      subst τ2
      change Z _ _ _ _ _ [.int (v)] _
      exact zb_X12_line_26 h
/-- SkyStonesModel.line(III)I -/
theorem c_X12_line {S : Shp} {x1 : Int32} {x2 : Int32} {x3 : Int32} {σ : Mm} {r : Int32 × Mm} (h : F_X12_line x1 x2 x3 σ = some r) : Ct m_X12_line S [.ref (sL S 3 0 0), .int (x1), .int (x2), .int (x3)] σ (Qi r) := Ct.of (by decide +kernel) (Nat.le_of_ble_eq_true rfl) (zb_X12_line h)
def F_X12_lines_66 (rc20 : Int32 → Int32 → Int32 → Mm → Option (Int32 × Mm)) (x1 : Int32) (x4 : Int32) (s0 : Int32) (s1 : Int32) (σ : Mm) : Option (Int32 × Mm) := (rc20 x1 (s1 + s0) (x4 + 1) σ)
set_option maxRecDepth 20000 in
theorem zb_X12_lines_66 {S : Shp} {rc20 : Int32 → Int32 → Int32 → Mm → Option (Int32 × Mm)} (hrc20 : ∀ {x1 : Int32} {x3 : Int32} {x4 : Int32} {σ : Mm} {r : Int32 × Mm}, rc20 x1 x3 x4 σ = some r → Z m_X12_lines S (Qi r) 20 [(0, .ref (sL S 3 0 0)), (1, .int (x1)), (3, .int (x3)), (4, .int (x4))] [] σ) {x1 : Int32} {x4 : Int32} {s0 : Int32} {s1 : Int32} {σ : Mm} {r : Int32 × Mm} (h : F_X12_lines_66 rc20 x1 x4 s0 s1 σ = some r) : Z m_X12_lines S (Qi r) 66 [(0, .ref (sL S 3 0 0)), (1, .int (x1)), (4, .int (x4))] [.int (s0), .int (s1)] σ := by
  unfold F_X12_lines_66 at h
  refine z_iadd dX12_lines_66 ?_
  refine z_istore_n (lv' := [(0, .ref (sL S 3 0 0)), (1, .int (x1)), (3, .int (s1 + s0)), (4, .int (x4))]) dX12_lines_67 rfl (by decide) [1, 2, 0, 3] rfl ?_
  refine z_iinc (j := 3) (v := x4 + 1) (lv' := [(0, .ref (sL S 3 0 0)), (1, .int (x1)), (3, .int (s1 + s0)), (4, .int (x4 + 1))]) dX12_lines_68 rfl rfl (by decide) [1, 2, 3, 0] rfl ?_
  refine z_goto (tgt := 20) dX12_lines_71 (by decide) ?_
  exact hrc20 h
def B_X12_lines_20 (rc20 : Int32 → Int32 → Int32 → Mm → Option (Int32 × Mm)) (x1 : Int32) (x3 : Int32) (x4 : Int32) (σ : Mm) : Option (Int32 × Mm) := (if (196 : Int32) ≤ x4 then some (x3, σ) else (if x1 = 0 then (if inb x4 196 = true then (if (mA σ 3 0 52 x4.toNatClampNeg) = 0 then (F_X12_lines_66 rc20 x1 x4 0 x3 σ) else (F_X12_lines_66 rc20 x1 x4 1 x3 σ)) else none) else (if inb x4 196 = true then (if (mA σ 3 0 55 x4.toNatClampNeg) = 0 then (F_X12_lines_66 rc20 x1 x4 0 x3 σ) else (F_X12_lines_66 rc20 x1 x4 1 x3 σ)) else none)))
set_option maxRecDepth 20000 in
theorem zB_X12_lines_20 {S : Shp} {rc20 : Int32 → Int32 → Int32 → Mm → Option (Int32 × Mm)} (hrc20 : ∀ {x1 : Int32} {x3 : Int32} {x4 : Int32} {σ : Mm} {r : Int32 × Mm}, rc20 x1 x3 x4 σ = some r → Z m_X12_lines S (Qi r) 20 [(0, .ref (sL S 3 0 0)), (1, .int (x1)), (3, .int (x3)), (4, .int (x4))] [] σ) {x1 : Int32} {x3 : Int32} {x4 : Int32} {σ : Mm} {r : Int32 × Mm} (h : B_X12_lines_20 rc20 x1 x3 x4 σ = some r) : Z m_X12_lines S (Qi r) 20 [(0, .ref (sL S 3 0 0)), (1, .int (x1)), (3, .int (x3)), (4, .int (x4))] [] σ := by
  unfold B_X12_lines_20 at h
  refine z_iload dX12_lines_20 3 rfl ?_
  refine z_sipush (v := 196) dX12_lines_22 (by decide) ?_
  refine z_icmp_ge (tgt := 74) dX12_lines_25 (by decide) (fun q => ?_) (fun q => ?_)
  · have h := (if_pos q).symm.trans h
    refine z_iload_n dX12_lines_74 rfl 2 rfl ?_
    cases h
    exact z_ireturn dX12_lines_75 rfl rfl ⟨rfl, rfl⟩
  · have h := (if_neg q).symm.trans h
    refine z_iload_n dX12_lines_28 rfl 2 rfl ?_
    refine z_iload_n dX12_lines_29 rfl 1 rfl ?_
    refine z_if_eq (tgt := 51) dX12_lines_30 (by decide) (fun q => ?_) (fun q => ?_)
    · have h := (if_pos q).symm.trans h
      obtain ⟨g1, h⟩ := gd h
      refine z_aload_n dX12_lines_51 rfl 0 rfl ?_
      refine gf_12_169 rfl dX12_lines_52 ?_
      refine z_iload dX12_lines_55 3 rfl ?_
      refine ia_3_52 (inb_in g1) dX12_lines_57 ?_
      refine z_if_eq (tgt := 65) dX12_lines_58 (by decide) (fun q => ?_) (fun q => ?_)
      · have h := (if_pos q).symm.trans h
        refine z_iconst (v := 0) dX12_lines_65 (by decide) ?_
        refine Z.lv [0, 1, 3] rfl ?_
        exact zb_X12_lines_66 hrc20 h
      · have h := (if_neg q).symm.trans h
        refine z_iconst (v := 1) dX12_lines_61 (by decide) ?_
        refine z_goto (tgt := 66) dX12_lines_62 (by decide) ?_
        refine Z.lv [0, 1, 3] rfl ?_
        exact zb_X12_lines_66 hrc20 h
    · have h := (if_neg q).symm.trans h
      obtain ⟨g2, h⟩ := gd h
      refine z_aload_n dX12_lines_33 rfl 0 rfl ?_
      refine gf_12_178 rfl dX12_lines_34 ?_
      refine z_iload dX12_lines_37 3 rfl ?_
      refine ia_3_55 (inb_in g2) dX12_lines_39 ?_
      refine z_if_eq (tgt := 47) dX12_lines_40 (by decide) (fun q => ?_) (fun q => ?_)
      · have h := (if_pos q).symm.trans h
        refine z_iconst (v := 0) dX12_lines_47 (by decide) ?_
        refine z_goto (tgt := 66) dX12_lines_48 (by decide) ?_
        refine Z.lv [0, 1, 3] rfl ?_
        exact zb_X12_lines_66 hrc20 h
      · have h := (if_neg q).symm.trans h
        refine z_iconst (v := 1) dX12_lines_43 (by decide) ?_
        refine z_goto (tgt := 66) dX12_lines_44 (by decide) ?_
        refine Z.lv [0, 1, 3] rfl ?_
        exact zb_X12_lines_66 hrc20 h
def F_X12_lines_20 : Nat → Int32 → Int32 → Int32 → Mm → Option (Int32 × Mm)
  | 0 => fun _ _ _ _ => none
  | n + 1 => B_X12_lines_20 (F_X12_lines_20 n)
theorem zl_X12_lines_20 {S : Shp} : ∀ (nn : Nat) {x1 : Int32} {x3 : Int32} {x4 : Int32} {σ : Mm} {r : Int32 × Mm}, F_X12_lines_20 nn x1 x3 x4 σ = some r → Z m_X12_lines S (Qi r) 20 [(0, .ref (sL S 3 0 0)), (1, .int (x1)), (3, .int (x3)), (4, .int (x4))] [] σ := by
  intro nn
  induction nn with
  | zero => intro x1 x3 x4 σ r h; cases h
  | succ nn ih => intro x1 x3 x4 σ r h; exact zB_X12_lines_20 @ih h
def F_X12_lines_15 (x1 : Int32) (σ : Mm) : Option (Int32 × Mm) := (F_X12_lines_20 FU x1 0 0 σ)
set_option maxRecDepth 20000 in
theorem zb_X12_lines_15 {S : Shp} {x1 : Int32} {σ : Mm} {r : Int32 × Mm} (h : F_X12_lines_15 x1 σ = some r) : Z m_X12_lines S (Qi r) 15 [(0, .ref (sL S 3 0 0)), (1, .int (x1))] [] σ := by
  unfold F_X12_lines_15 at h
  refine z_iconst (v := 0) dX12_lines_15 (by decide) ?_
  refine z_istore_n (lv' := [(0, .ref (sL S 3 0 0)), (1, .int (x1)), (3, .int (0))]) dX12_lines_16 rfl (by decide) [1, 2, 0] rfl ?_
  refine z_iconst (v := 0) dX12_lines_17 (by decide) ?_
  refine z_istore (lv' := [(0, .ref (sL S 3 0 0)), (1, .int (x1)), (3, .int (0)), (4, .int (0))]) dX12_lines_18 (by decide) [1, 2, 3, 0] rfl ?_
  exact zl_X12_lines_20 FU h
def F_X12_lines_5 (x1 : Int32) (x2 : Int32) (s0 : Int32) (σ : Mm) : Option (Int32 × Mm) := (if s0 = 0 then some ((-1), σ) else (bnv (F_X12_lay x2 σ) (fun τ => (F_X12_lines_15 x1 τ))))
set_option maxRecDepth 20000 in
theorem zb_X12_lines_5 {S : Shp} {x1 : Int32} {x2 : Int32} {s0 : Int32} {σ : Mm} {r : Int32 × Mm} (h : F_X12_lines_5 x1 x2 s0 σ = some r) : Z m_X12_lines S (Qi r) 5 [(0, .ref (sL S 3 0 0)), (1, .int (x1)), (2, .int (x2))] [.int (s0)] σ := by
  unfold F_X12_lines_5 at h
  refine z_if_ne (tgt := 10) dX12_lines_5 (by decide) (fun q => ?_) (fun q => ?_)
  · have h := (if_neg q).symm.trans h
    refine z_aload_n dX12_lines_10 rfl 0 rfl ?_
    refine z_iload_n dX12_lines_11 rfl 2 rfl ?_
    obtain ⟨τ, hc, h⟩ := bnv_e h
    refine z_callV (M' := m_X12_lay) (t := 3) (i := 0) (k := 0) (As := [.int (x2)]) (rest := []) kl_12_463 oy_X12_lay ⟨Nat.le_of_ble_eq_true rfl, Nat.le_of_ble_eq_true rfl⟩ rfl rfl rfl rfl (Nat.le_of_ble_eq_true rfl) rfl dX12_lines_12 (c_X12_lay hc) (fun v2 τ2 hq => ?_)
    obtain ⟨rfl, hτ⟩ := hq
    subst τ2
    change Z _ _ _ _ _ [] _
    refine Z.lv [0, 1] rfl ?_
    exact zb_X12_lines_15 h
  · have h := (if_pos q).symm.trans h
    refine z_iconst (v := (-1)) dX12_lines_8 (by decide) ?_
    cases h
    exact z_ireturn dX12_lines_9 rfl rfl ⟨rfl, rfl⟩
def F_X12_lines (x1 : Int32) (x2 : Int32) (σ : Mm) : Option (Int32 × Mm) := (bnd (F_X12_isKnown x2 σ) (fun v τ => (F_X12_lines_5 x1 x2 v τ)))
set_option maxRecDepth 20000 in
theorem zb_X12_lines {S : Shp} {x1 : Int32} {x2 : Int32} {σ : Mm} {r : Int32 × Mm} (h : F_X12_lines x1 x2 σ = some r) : Z m_X12_lines S (Qi r) 0 [(0, .ref (sL S 3 0 0)), (1, .int (x1)), (2, .int (x2))] [] σ := by
  unfold F_X12_lines at h
  refine z_aload_n dX12_lines_0 rfl 0 rfl ?_
  refine z_iload_n dX12_lines_1 rfl 2 rfl ?_
  obtain ⟨v, τ, hc, h⟩ := bnd_e h
  refine z_callV (M' := m_X12_isKnown) (t := 3) (i := 0) (k := 0) (As := [.int (x2)]) (rest := []) kl_12_457 oy_X12_isKnown ⟨Nat.le_of_ble_eq_true rfl, Nat.le_of_ble_eq_true rfl⟩ rfl rfl rfl rfl (Nat.le_of_ble_eq_true rfl) rfl dX12_lines_2 (c_X12_isKnown hc) (fun v2 τ2 hq => ?_)
  obtain ⟨rfl, hτ⟩ := hq
  subst τ2
  change Z _ _ _ _ _ [.int (v)] _
  exact zb_X12_lines_5 h
/-- SkyStonesModel.lines(ZI)I -/
theorem c_X12_lines {S : Shp} {x1 : Int32} {x2 : Int32} {σ : Mm} {r : Int32 × Mm} (h : F_X12_lines x1 x2 σ = some r) : Ct m_X12_lines S [.ref (sL S 3 0 0), .int (x1), .int (x2)] σ (Qi r) := Ct.of (by decide +kernel) (Nat.le_of_ble_eq_true rfl) (zb_X12_lines h)
def f_X12_mixed_12 (x2 : Int32) : Int32 := x2 ^^^ ((x2.toUInt32 >>> ((15 : Int32).toUInt32 &&& Int32.toUInt32 31)).toInt32)
set_option maxRecDepth 20000 in
theorem zb_X12_mixed_12 {S : Shp} {x2 : Int32} {σ : Mm} {r : Int32} (h : f_X12_mixed_12 x2 = r) : Z m_X12_mixed S (Qi (r, σ)) 12 [(2, .int (x2))] [] σ := by
  unfold f_X12_mixed_12 at h
  refine z_iload_n dX12_mixed_12 rfl 0 rfl ?_
  refine z_iload_n dX12_mixed_13 rfl 0 rfl ?_
  refine z_bipush (v := 15) dX12_mixed_14 (by decide) ?_
  refine z_iushr dX12_mixed_16 ?_
  refine z_ixor dX12_mixed_17 ?_
  subst h
  exact z_ireturn dX12_mixed_18 rfl rfl ⟨rfl, rfl⟩
def f_X12_mixed (x0 : Int32) (x1 : Int32) : Int32 := (f_X12_mixed_12 (((x0 ^^^ x1) * (1103515245 : Int32)) + (12345 : Int32)))
set_option maxRecDepth 20000 in
theorem zb_X12_mixed {S : Shp} {x0 : Int32} {x1 : Int32} {σ : Mm} {r : Int32} (h : f_X12_mixed x0 x1 = r) : Z m_X12_mixed S (Qi (r, σ)) 0 [(0, .int (x0)), (1, .int (x1))] [] σ := by
  unfold f_X12_mixed at h
  refine z_iload_n dX12_mixed_0 rfl 0 rfl ?_
  refine z_iload_n dX12_mixed_1 rfl 1 rfl ?_
  refine z_ixor dX12_mixed_2 ?_
  refine z_ldcw qw_1826 dX12_mixed_3 ?_
  refine z_imul dX12_mixed_6 ?_
  refine z_sipush (v := 12345) dX12_mixed_7 (by decide) ?_
  refine z_iadd dX12_mixed_10 ?_
  refine z_istore_n (lv' := [(0, .int (x0)), (1, .int (x1)), (2, .int (((x0 ^^^ x1) * (1103515245 : Int32)) + (12345 : Int32)))]) dX12_mixed_11 rfl (by decide) [1, 2, 0] rfl ?_
  refine Z.lv [2] rfl ?_
  exact zb_X12_mixed_12 h
/-- SkyStonesModel.mixed(II)I -/
theorem c_X12_mixed {S : Shp} {x0 : Int32} {x1 : Int32} {σ : Mm} {r : Int32} (h : f_X12_mixed x0 x1 = r) : Ct m_X12_mixed S [.int (x0), .int (x1)] σ (Qi (r, σ)) := Ct.of (by decide +kernel) (Nat.le_of_ble_eq_true rfl) (zb_X12_mixed h)
def F_X12_lot (x0 : Int32) (x1 : Int32) (x2 : Int32) (σ : Mm) : Option (Int32 × Mm) := (if ¬ x2 = 0 then some ((((f_X12_mixed (f_X12_mixed x0 2) x1).toUInt32 >>> ((1 : Int32).toUInt32 &&& Int32.toUInt32 31)).toInt32) - (((f_X12_mixed (f_X12_mixed x0 2) x1).toUInt32 >>> ((1 : Int32).toUInt32 &&& Int32.toUInt32 31)).toInt32) / x2 * x2, σ) else none)
set_option maxRecDepth 20000 in
theorem zb_X12_lot {S : Shp} {x0 : Int32} {x1 : Int32} {x2 : Int32} {σ : Mm} {r : Int32 × Mm} (h : F_X12_lot x0 x1 x2 σ = some r) : Z m_X12_lot S (Qi r) 0 [(0, .int (x0)), (1, .int (x1)), (2, .int (x2))] [] σ := by
  unfold F_X12_lot at h
  obtain ⟨g1, h⟩ := gd h
  refine z_iload_n dX12_lot_0 rfl 0 rfl ?_
  refine z_iconst (v := 2) dX12_lot_1 (by decide) ?_
  refine z_callS (M' := m_X12_mixed) (As := [.int (x0), .int (2)]) (rest := []) kl_12_533 oy_X12_mixed ⟨Nat.le_of_ble_eq_true rfl, Nat.le_of_ble_eq_true rfl⟩ rfl (Nat.le_of_ble_eq_true rfl) rfl dX12_lot_2 (c_X12_mixed rfl) (fun v τ hq => ?_)
  obtain ⟨rfl, hτ⟩ := hq
  subst τ
  change Z _ _ _ _ _ [.int (f_X12_mixed x0 2)] _
  refine z_iload_n dX12_lot_5 rfl 1 rfl ?_
  refine z_callS (M' := m_X12_mixed) (As := [.int (f_X12_mixed x0 2), .int (x1)]) (rest := []) kl_12_533 oy_X12_mixed ⟨Nat.le_of_ble_eq_true rfl, Nat.le_of_ble_eq_true rfl⟩ rfl (Nat.le_of_ble_eq_true rfl) rfl dX12_lot_6 (c_X12_mixed rfl) (fun v τ hq => ?_)
  obtain ⟨rfl, hτ⟩ := hq
  subst τ
  change Z _ _ _ _ _ [.int (f_X12_mixed (f_X12_mixed x0 2) x1)] _
  refine z_iconst (v := 1) dX12_lot_9 (by decide) ?_
  refine z_iushr dX12_lot_10 ?_
  refine z_iload_n dX12_lot_11 rfl 2 rfl ?_
  refine z_irem dX12_lot_12 g1 ?_
  cases h
  exact z_ireturn dX12_lot_13 rfl rfl ⟨rfl, rfl⟩
/-- SkyStonesModel.lot(III)I -/
theorem c_X12_lot {S : Shp} {x0 : Int32} {x1 : Int32} {x2 : Int32} {σ : Mm} {r : Int32 × Mm} (h : F_X12_lot x0 x1 x2 σ = some r) : Ct m_X12_lot S [.int (x0), .int (x1), .int (x2)] σ (Qi r) := Ct.of (by decide +kernel) (Nat.le_of_ble_eq_true rfl) (zb_X12_lot h)
def f_X12_vectorOf (x0 : Int32) (x1 : Int32) : Int32 := (if (45 : Int32) < x0 then (if (135 : Int32) < x0 then (if (225 : Int32) < x0 then (if (315 : Int32) < x0 then (if x1 = 0 then x0 - (360 : Int32) else 45) else (if x1 = 0 then (-45) else x0 - (270 : Int32))) else (if x1 = 0 then (180 : Int32) - x0 else (-45))) else (if x1 = 0 then 45 else (90 : Int32) - x0)) else (if x1 = 0 then x0 else 45))
set_option maxRecDepth 20000 in
theorem zb_X12_vectorOf {S : Shp} {x0 : Int32} {x1 : Int32} {σ : Mm} {r : Int32} (h : f_X12_vectorOf x0 x1 = r) : Z m_X12_vectorOf S (Qi (r, σ)) 0 [(0, .int (x0)), (1, .int (x1))] [] σ := by
  unfold f_X12_vectorOf at h
  refine z_iload_n dX12_vectorOf_0 rfl 0 rfl ?_
  refine z_bipush (v := 45) dX12_vectorOf_1 (by decide) ?_
  refine z_icmp_gt (tgt := 17) dX12_vectorOf_3 (by decide) (fun q => ?_) (fun q => ?_)
  · have h := (if_pos q).symm.trans h
    refine z_iload_n dX12_vectorOf_17 rfl 0 rfl ?_
    refine z_sipush (v := 135) dX12_vectorOf_18 (by decide) ?_
    refine z_icmp_gt (tgt := 38) dX12_vectorOf_21 (by decide) (fun q => ?_) (fun q => ?_)
    · have h := (if_pos q).symm.trans h
      refine z_iload_n dX12_vectorOf_38 rfl 0 rfl ?_
      refine z_sipush (v := 225) dX12_vectorOf_39 (by decide) ?_
      refine z_icmp_gt (tgt := 60) dX12_vectorOf_42 (by decide) (fun q => ?_) (fun q => ?_)
      · have h := (if_pos q).symm.trans h
        refine z_iload_n dX12_vectorOf_60 rfl 0 rfl ?_
        refine z_sipush (v := 315) dX12_vectorOf_61 (by decide) ?_
        refine z_icmp_gt (tgt := 82) dX12_vectorOf_64 (by decide) (fun q => ?_) (fun q => ?_)
        · have h := (if_pos q).symm.trans h
          refine z_iload_n dX12_vectorOf_82 rfl 1 rfl ?_
          refine z_if_ne (tgt := 94) dX12_vectorOf_83 (by decide) (fun q => ?_) (fun q => ?_)
          · have h := (if_neg q).symm.trans h
            refine z_bipush (v := 45) dX12_vectorOf_94 (by decide) ?_
            subst h
            exact z_ireturn dX12_vectorOf_96 rfl rfl ⟨rfl, rfl⟩
          · have h := (if_pos q).symm.trans h
            refine z_iload_n dX12_vectorOf_86 rfl 0 rfl ?_
            refine z_sipush (v := 360) dX12_vectorOf_87 (by decide) ?_
            refine z_isub dX12_vectorOf_90 ?_
            refine z_goto (tgt := 96) dX12_vectorOf_91 (by decide) ?_
            subst h
            exact z_ireturn dX12_vectorOf_96 rfl rfl ⟨rfl, rfl⟩
        · have h := (if_neg q).symm.trans h
          refine z_iload_n dX12_vectorOf_67 rfl 1 rfl ?_
          refine z_if_ne (tgt := 76) dX12_vectorOf_68 (by decide) (fun q => ?_) (fun q => ?_)
          · have h := (if_neg q).symm.trans h
            refine z_iload_n dX12_vectorOf_76 rfl 0 rfl ?_
            refine z_sipush (v := 270) dX12_vectorOf_77 (by decide) ?_
            refine z_isub dX12_vectorOf_80 ?_
            subst h
            exact z_ireturn dX12_vectorOf_81 rfl rfl ⟨rfl, rfl⟩
          · have h := (if_pos q).symm.trans h
            refine z_bipush (v := (-45)) dX12_vectorOf_71 (by decide) ?_
            refine z_goto (tgt := 81) dX12_vectorOf_73 (by decide) ?_
            subst h
            exact z_ireturn dX12_vectorOf_81 rfl rfl ⟨rfl, rfl⟩
      · have h := (if_neg q).symm.trans h
        refine z_iload_n dX12_vectorOf_45 rfl 1 rfl ?_
        refine z_if_ne (tgt := 57) dX12_vectorOf_46 (by decide) (fun q => ?_) (fun q => ?_)
        · have h := (if_neg q).symm.trans h
          refine z_bipush (v := (-45)) dX12_vectorOf_57 (by decide) ?_
          subst h
          exact z_ireturn dX12_vectorOf_59 rfl rfl ⟨rfl, rfl⟩
        · have h := (if_pos q).symm.trans h
          refine z_sipush (v := 180) dX12_vectorOf_49 (by decide) ?_
          refine z_iload_n dX12_vectorOf_52 rfl 0 rfl ?_
          refine z_isub dX12_vectorOf_53 ?_
          refine z_goto (tgt := 59) dX12_vectorOf_54 (by decide) ?_
          subst h
          exact z_ireturn dX12_vectorOf_59 rfl rfl ⟨rfl, rfl⟩
    · have h := (if_neg q).symm.trans h
      refine z_iload_n dX12_vectorOf_24 rfl 1 rfl ?_
      refine z_if_ne (tgt := 33) dX12_vectorOf_25 (by decide) (fun q => ?_) (fun q => ?_)
      · have h := (if_neg q).symm.trans h
        refine z_bipush (v := 90) dX12_vectorOf_33 (by decide) ?_
        refine z_iload_n dX12_vectorOf_35 rfl 0 rfl ?_
        refine z_isub dX12_vectorOf_36 ?_
        subst h
        exact z_ireturn dX12_vectorOf_37 rfl rfl ⟨rfl, rfl⟩
      · have h := (if_pos q).symm.trans h
        refine z_bipush (v := 45) dX12_vectorOf_28 (by decide) ?_
        refine z_goto (tgt := 37) dX12_vectorOf_30 (by decide) ?_
        subst h
        exact z_ireturn dX12_vectorOf_37 rfl rfl ⟨rfl, rfl⟩
  · have h := (if_neg q).symm.trans h
    refine z_iload_n dX12_vectorOf_6 rfl 1 rfl ?_
    refine z_if_ne (tgt := 14) dX12_vectorOf_7 (by decide) (fun q => ?_) (fun q => ?_)
    · have h := (if_neg q).symm.trans h
      refine z_bipush (v := 45) dX12_vectorOf_14 (by decide) ?_
      subst h
      exact z_ireturn dX12_vectorOf_16 rfl rfl ⟨rfl, rfl⟩
    · have h := (if_pos q).symm.trans h
      refine z_iload_n dX12_vectorOf_10 rfl 0 rfl ?_
      refine z_goto (tgt := 16) dX12_vectorOf_11 (by decide) ?_
      subst h
      exact z_ireturn dX12_vectorOf_16 rfl rfl ⟨rfl, rfl⟩
/-- SkyStonesModel.vectorOf(II)I -/
theorem c_X12_vectorOf {S : Shp} {x0 : Int32} {x1 : Int32} {σ : Mm} {r : Int32} (h : f_X12_vectorOf x0 x1 = r) : Ct m_X12_vectorOf S [.int (x0), .int (x1)] σ (Qi (r, σ)) := Ct.of (by decide +kernel) (Nat.le_of_ble_eq_true rfl) (zb_X12_vectorOf h)
def F_X12_make_197 (rc8 : Int32 → Int32 → Int32 → Int32 → Mm → Option (Mm)) (x1 : Int32) (x2 : Int32) (x3 : Int32) (x4 : Int32) (σ : Mm) : Option (Mm) := (rc8 x1 x2 x3 (x4 + 1) σ)
set_option maxRecDepth 20000 in
theorem zb_X12_make_197 {S : Shp} {rc8 : Int32 → Int32 → Int32 → Int32 → Mm → Option (Mm)} (hrc8 : ∀ {x1 : Int32} {x2 : Int32} {x3 : Int32} {x4 : Int32} {σ : Mm} {r : Mm}, rc8 x1 x2 x3 x4 σ = some r → Z m_X12_make S (Qv r) 8 [(0, .ref (sL S 3 0 0)), (1, .int (x1)), (2, .int (x2)), (3, .int (x3)), (4, .int (x4))] [] σ) {x1 : Int32} {x2 : Int32} {x3 : Int32} {x4 : Int32} {σ : Mm} {r : Mm} (h : F_X12_make_197 rc8 x1 x2 x3 x4 σ = some r) : Z m_X12_make S (Qv r) 197 [(0, .ref (sL S 3 0 0)), (1, .int (x1)), (2, .int (x2)), (3, .int (x3)), (4, .int (x4))] [] σ := by
  unfold F_X12_make_197 at h
  refine z_iinc (j := 4) (v := x4 + 1) (lv' := [(0, .ref (sL S 3 0 0)), (1, .int (x1)), (2, .int (x2)), (3, .int (x3)), (4, .int (x4 + 1))]) dX12_make_197 rfl rfl (by decide) [1, 2, 3, 4, 0] rfl ?_
  refine z_goto (tgt := 8) dX12_make_200 (by decide) ?_
  exact hrc8 h
def F_X12_make_167 (rc8 : Int32 → Int32 → Int32 → Int32 → Mm → Option (Mm)) (x1 : Int32) (x2 : Int32) (x3 : Int32) (x4 : Int32) (x5 : Int32) (x6 : Int32) (σ : Mm) : Option (Mm) := (if inb ((2 : Int32) * x4) 14 = true then (if inb (((2 : Int32) * x4) + (1 : Int32)) 14 = true then (F_X12_make_197 rc8 x1 x2 x3 x4 (setA σ 3 0 67 (upd (mA σ 3 0 67) (((2 : Int32) * x4) + (1 : Int32)).toNatClampNeg ((mA σ 3 0 67 ((2 : Int32) * x4).toNatClampNeg) + (x5 * (f_X12_vectorOf x6 1)))))) else none) else none)
set_option maxRecDepth 20000 in
theorem zb_X12_make_167 {S : Shp} {rc8 : Int32 → Int32 → Int32 → Int32 → Mm → Option (Mm)} (hrc8 : ∀ {x1 : Int32} {x2 : Int32} {x3 : Int32} {x4 : Int32} {σ : Mm} {r : Mm}, rc8 x1 x2 x3 x4 σ = some r → Z m_X12_make S (Qv r) 8 [(0, .ref (sL S 3 0 0)), (1, .int (x1)), (2, .int (x2)), (3, .int (x3)), (4, .int (x4))] [] σ) {x1 : Int32} {x2 : Int32} {x3 : Int32} {x4 : Int32} {x5 : Int32} {x6 : Int32} {σ : Mm} {r : Mm} (h : F_X12_make_167 rc8 x1 x2 x3 x4 x5 x6 σ = some r) : Z m_X12_make S (Qv r) 167 [(0, .ref (sL S 3 0 0)), (1, .int (x1)), (2, .int (x2)), (3, .int (x3)), (4, .int (x4)), (5, .int (x5)), (6, .int (x6))] [] σ := by
  unfold F_X12_make_167 at h
  obtain ⟨g8, h⟩ := gd h
  refine z_aload_n dX12_make_167 rfl 0 rfl ?_
  refine gf_12_215 rfl dX12_make_168 ?_
  refine z_iconst (v := 2) dX12_make_171 (by decide) ?_
  refine z_iload dX12_make_172 4 rfl ?_
  refine z_imul dX12_make_174 ?_
  refine z_iconst (v := 1) dX12_make_175 (by decide) ?_
  refine z_iadd dX12_make_176 ?_
  refine z_aload_n dX12_make_177 rfl 0 rfl ?_
  refine gf_12_215 rfl dX12_make_178 ?_
  refine z_iconst (v := 2) dX12_make_181 (by decide) ?_
  refine z_iload dX12_make_182 4 rfl ?_
  refine z_imul dX12_make_184 ?_
  obtain ⟨g9, h⟩ := gd h
  refine ia_3_67 (inb_in g8) dX12_make_185 ?_
  refine z_iload dX12_make_186 5 rfl ?_
  refine z_iload dX12_make_188 6 rfl ?_
  refine z_iconst (v := 1) dX12_make_190 (by decide) ?_
  refine z_callS (M' := m_X12_vectorOf) (As := [.int (x6), .int (1)]) (rest := [.int (x5), .int (mA σ 3 0 67 ((2 : Int32) * x4).toNatClampNeg), .int (((2 : Int32) * x4) + (1 : Int32)), .ref (sL S 3 0 67)]) kl_12_460 oy_X12_vectorOf ⟨Nat.le_of_ble_eq_true rfl, Nat.le_of_ble_eq_true rfl⟩ rfl (Nat.le_of_ble_eq_true rfl) rfl dX12_make_191 (c_X12_vectorOf rfl) (fun v τ hq => ?_)
  obtain ⟨rfl, hτ⟩ := hq
  subst τ
  change Z _ _ _ _ _ [.int (f_X12_vectorOf x6 1), .int (x5), .int (mA σ 3 0 67 ((2 : Int32) * x4).toNatClampNeg), .int (((2 : Int32) * x4) + (1 : Int32)), .ref (sL S 3 0 67)] _
  refine z_imul dX12_make_194 ?_
  refine z_iadd dX12_make_195 ?_
  refine is_3_67 (inb_in g9) dX12_make_196 ?_
  refine Z.lv [0, 1, 2, 3, 4] rfl ?_
  exact zb_X12_make_197 hrc8 h
def F_X12_make_137 (rc8 : Int32 → Int32 → Int32 → Int32 → Mm → Option (Mm)) (x1 : Int32) (x2 : Int32) (x3 : Int32) (x4 : Int32) (x5 : Int32) (x6 : Int32) (σ : Mm) : Option (Mm) := (if inb ((2 : Int32) * x4) 14 = true then (if inb (((2 : Int32) * x4) + (1 : Int32)) 14 = true then (F_X12_make_167 rc8 x1 x2 x3 x4 x5 x6 (setA σ 3 0 66 (upd (mA σ 3 0 66) (((2 : Int32) * x4) + (1 : Int32)).toNatClampNeg ((mA σ 3 0 66 ((2 : Int32) * x4).toNatClampNeg) + (x5 * (f_X12_vectorOf x6 0)))))) else none) else none)
set_option maxRecDepth 20000 in
theorem zb_X12_make_137 {S : Shp} {rc8 : Int32 → Int32 → Int32 → Int32 → Mm → Option (Mm)} (hrc8 : ∀ {x1 : Int32} {x2 : Int32} {x3 : Int32} {x4 : Int32} {σ : Mm} {r : Mm}, rc8 x1 x2 x3 x4 σ = some r → Z m_X12_make S (Qv r) 8 [(0, .ref (sL S 3 0 0)), (1, .int (x1)), (2, .int (x2)), (3, .int (x3)), (4, .int (x4))] [] σ) {x1 : Int32} {x2 : Int32} {x3 : Int32} {x4 : Int32} {x5 : Int32} {x6 : Int32} {σ : Mm} {r : Mm} (h : F_X12_make_137 rc8 x1 x2 x3 x4 x5 x6 σ = some r) : Z m_X12_make S (Qv r) 137 [(0, .ref (sL S 3 0 0)), (1, .int (x1)), (2, .int (x2)), (3, .int (x3)), (4, .int (x4)), (5, .int (x5)), (6, .int (x6))] [] σ := by
  unfold F_X12_make_137 at h
  obtain ⟨g6, h⟩ := gd h
  refine z_aload_n dX12_make_137 rfl 0 rfl ?_
  refine gf_12_212 rfl dX12_make_138 ?_
  refine z_iconst (v := 2) dX12_make_141 (by decide) ?_
  refine z_iload dX12_make_142 4 rfl ?_
  refine z_imul dX12_make_144 ?_
  refine z_iconst (v := 1) dX12_make_145 (by decide) ?_
  refine z_iadd dX12_make_146 ?_
  refine z_aload_n dX12_make_147 rfl 0 rfl ?_
  refine gf_12_212 rfl dX12_make_148 ?_
  refine z_iconst (v := 2) dX12_make_151 (by decide) ?_
  refine z_iload dX12_make_152 4 rfl ?_
  refine z_imul dX12_make_154 ?_
  obtain ⟨g7, h⟩ := gd h
  refine ia_3_66 (inb_in g6) dX12_make_155 ?_
  refine z_iload dX12_make_156 5 rfl ?_
  refine z_iload dX12_make_158 6 rfl ?_
  refine z_iconst (v := 0) dX12_make_160 (by decide) ?_
  refine z_callS (M' := m_X12_vectorOf) (As := [.int (x6), .int (0)]) (rest := [.int (x5), .int (mA σ 3 0 66 ((2 : Int32) * x4).toNatClampNeg), .int (((2 : Int32) * x4) + (1 : Int32)), .ref (sL S 3 0 66)]) kl_12_460 oy_X12_vectorOf ⟨Nat.le_of_ble_eq_true rfl, Nat.le_of_ble_eq_true rfl⟩ rfl (Nat.le_of_ble_eq_true rfl) rfl dX12_make_161 (c_X12_vectorOf rfl) (fun v τ hq => ?_)
  obtain ⟨rfl, hτ⟩ := hq
  subst τ
  change Z _ _ _ _ _ [.int (f_X12_vectorOf x6 0), .int (x5), .int (mA σ 3 0 66 ((2 : Int32) * x4).toNatClampNeg), .int (((2 : Int32) * x4) + (1 : Int32)), .ref (sL S 3 0 66)] _
  refine z_imul dX12_make_164 ?_
  refine z_iadd dX12_make_165 ?_
  refine is_3_66 (inb_in g7) dX12_make_166 ?_
  exact zb_X12_make_167 hrc8 h
def F_X12_make_135 (rc8 : Int32 → Int32 → Int32 → Int32 → Mm → Option (Mm)) (x1 : Int32) (x2 : Int32) (x3 : Int32) (x4 : Int32) (x5 : Int32) (x6 : Int32) (s0 : Int32) (s1 : Int32) (s2 : Int32) (σ : Mm) : Option (Mm) := (if inb s2 14 = true then (F_X12_make_137 rc8 x1 x2 x3 x4 x5 x6 (setA σ 3 0 67 (upd (mA σ 3 0 67) s2.toNatClampNeg (s1 + s0)))) else none)
set_option maxRecDepth 20000 in
theorem zb_X12_make_135 {S : Shp} {rc8 : Int32 → Int32 → Int32 → Int32 → Mm → Option (Mm)} (hrc8 : ∀ {x1 : Int32} {x2 : Int32} {x3 : Int32} {x4 : Int32} {σ : Mm} {r : Mm}, rc8 x1 x2 x3 x4 σ = some r → Z m_X12_make S (Qv r) 8 [(0, .ref (sL S 3 0 0)), (1, .int (x1)), (2, .int (x2)), (3, .int (x3)), (4, .int (x4))] [] σ) {x1 : Int32} {x2 : Int32} {x3 : Int32} {x4 : Int32} {x5 : Int32} {x6 : Int32} {s0 : Int32} {s1 : Int32} {s2 : Int32} {σ : Mm} {r : Mm} (h : F_X12_make_135 rc8 x1 x2 x3 x4 x5 x6 s0 s1 s2 σ = some r) : Z m_X12_make S (Qv r) 135 [(0, .ref (sL S 3 0 0)), (1, .int (x1)), (2, .int (x2)), (3, .int (x3)), (4, .int (x4)), (5, .int (x5)), (6, .int (x6))] [.int (s0), .int (s1), .int (s2), .ref (sL S 3 0 67)] σ := by
  unfold F_X12_make_135 at h
  obtain ⟨g5, h⟩ := gd h
  refine z_iadd dX12_make_135 ?_
  refine is_3_67 (inb_in g5) dX12_make_136 ?_
  exact zb_X12_make_137 hrc8 h
def F_X12_make_110 (rc8 : Int32 → Int32 → Int32 → Int32 → Mm → Option (Mm)) (x1 : Int32) (x2 : Int32) (x3 : Int32) (x4 : Int32) (x5 : Int32) (x6 : Int32) (σ : Mm) : Option (Mm) := (bnd (F_X12_lot x1 (((8 : Int32) * x4) + (1 : Int32)) 400 σ) (fun v τ => (F_X12_make_135 rc8 x1 x2 x3 x4 x5 x6 v 300 ((2 : Int32) * x4) τ)))
set_option maxRecDepth 20000 in
theorem zb_X12_make_110 {S : Shp} {rc8 : Int32 → Int32 → Int32 → Int32 → Mm → Option (Mm)} (hrc8 : ∀ {x1 : Int32} {x2 : Int32} {x3 : Int32} {x4 : Int32} {σ : Mm} {r : Mm}, rc8 x1 x2 x3 x4 σ = some r → Z m_X12_make S (Qv r) 8 [(0, .ref (sL S 3 0 0)), (1, .int (x1)), (2, .int (x2)), (3, .int (x3)), (4, .int (x4))] [] σ) {x1 : Int32} {x2 : Int32} {x3 : Int32} {x4 : Int32} {x5 : Int32} {x6 : Int32} {σ : Mm} {r : Mm} (h : F_X12_make_110 rc8 x1 x2 x3 x4 x5 x6 σ = some r) : Z m_X12_make S (Qv r) 110 [(0, .ref (sL S 3 0 0)), (1, .int (x1)), (2, .int (x2)), (3, .int (x3)), (4, .int (x4)), (5, .int (x5)), (6, .int (x6))] [] σ := by
  unfold F_X12_make_110 at h
  refine z_aload_n dX12_make_110 rfl 0 rfl ?_
  refine gf_12_215 rfl dX12_make_111 ?_
  refine z_iconst (v := 2) dX12_make_114 (by decide) ?_
  refine z_iload dX12_make_115 4 rfl ?_
  refine z_imul dX12_make_117 ?_
  refine z_sipush (v := 300) dX12_make_118 (by decide) ?_
  refine z_iload_n dX12_make_121 rfl 1 rfl ?_
  refine z_bipush (v := 8) dX12_make_122 (by decide) ?_
  refine z_iload dX12_make_124 4 rfl ?_
  refine z_imul dX12_make_126 ?_
  refine z_iconst (v := 1) dX12_make_127 (by decide) ?_
  refine z_iadd dX12_make_128 ?_
  refine z_sipush (v := 400) dX12_make_129 (by decide) ?_
  obtain ⟨v, τ, hc, h⟩ := bnd_e h
  refine z_callS (M' := m_X12_lot) (As := [.int (x1), .int (((8 : Int32) * x4) + (1 : Int32)), .int (400)]) (rest := [.int (300), .int ((2 : Int32) * x4), .ref (sL S 3 0 67)]) kl_12_536 oy_X12_lot ⟨Nat.le_of_ble_eq_true rfl, Nat.le_of_ble_eq_true rfl⟩ rfl (Nat.le_of_ble_eq_true rfl) rfl dX12_make_132 (c_X12_lot hc) (fun v2 τ2 hq => ?_)
  obtain ⟨rfl, hτ⟩ := hq
  subst τ2
  change Z _ _ _ _ _ [.int (v), .int (300), .int ((2 : Int32) * x4), .ref (sL S 3 0 67)] _
  exact zb_X12_make_135 hrc8 h
def F_X12_make_108 (rc8 : Int32 → Int32 → Int32 → Int32 → Mm → Option (Mm)) (x1 : Int32) (x2 : Int32) (x3 : Int32) (x4 : Int32) (x5 : Int32) (x6 : Int32) (s0 : Int32) (s1 : Int32) (s2 : Int32) (σ : Mm) : Option (Mm) := (if inb s2 14 = true then (F_X12_make_110 rc8 x1 x2 x3 x4 x5 x6 (setA σ 3 0 66 (upd (mA σ 3 0 66) s2.toNatClampNeg (s1 + s0)))) else none)
set_option maxRecDepth 20000 in
theorem zb_X12_make_108 {S : Shp} {rc8 : Int32 → Int32 → Int32 → Int32 → Mm → Option (Mm)} (hrc8 : ∀ {x1 : Int32} {x2 : Int32} {x3 : Int32} {x4 : Int32} {σ : Mm} {r : Mm}, rc8 x1 x2 x3 x4 σ = some r → Z m_X12_make S (Qv r) 8 [(0, .ref (sL S 3 0 0)), (1, .int (x1)), (2, .int (x2)), (3, .int (x3)), (4, .int (x4))] [] σ) {x1 : Int32} {x2 : Int32} {x3 : Int32} {x4 : Int32} {x5 : Int32} {x6 : Int32} {s0 : Int32} {s1 : Int32} {s2 : Int32} {σ : Mm} {r : Mm} (h : F_X12_make_108 rc8 x1 x2 x3 x4 x5 x6 s0 s1 s2 σ = some r) : Z m_X12_make S (Qv r) 108 [(0, .ref (sL S 3 0 0)), (1, .int (x1)), (2, .int (x2)), (3, .int (x3)), (4, .int (x4)), (5, .int (x5)), (6, .int (x6))] [.int (s0), .int (s1), .int (s2), .ref (sL S 3 0 66)] σ := by
  unfold F_X12_make_108 at h
  obtain ⟨g4, h⟩ := gd h
  refine z_iadd dX12_make_108 ?_
  refine is_3_66 (inb_in g4) dX12_make_109 ?_
  exact zb_X12_make_110 hrc8 h
def F_X12_make_85 (rc8 : Int32 → Int32 → Int32 → Int32 → Mm → Option (Mm)) (x1 : Int32) (x2 : Int32) (x3 : Int32) (x4 : Int32) (x5 : Int32) (x6 : Int32) (σ : Mm) : Option (Mm) := (bnd (F_X12_lot x1 ((8 : Int32) * x4) 400 σ) (fun v τ => (F_X12_make_108 rc8 x1 x2 x3 x4 x5 x6 v 300 ((2 : Int32) * x4) τ)))
set_option maxRecDepth 20000 in
theorem zb_X12_make_85 {S : Shp} {rc8 : Int32 → Int32 → Int32 → Int32 → Mm → Option (Mm)} (hrc8 : ∀ {x1 : Int32} {x2 : Int32} {x3 : Int32} {x4 : Int32} {σ : Mm} {r : Mm}, rc8 x1 x2 x3 x4 σ = some r → Z m_X12_make S (Qv r) 8 [(0, .ref (sL S 3 0 0)), (1, .int (x1)), (2, .int (x2)), (3, .int (x3)), (4, .int (x4))] [] σ) {x1 : Int32} {x2 : Int32} {x3 : Int32} {x4 : Int32} {x5 : Int32} {x6 : Int32} {σ : Mm} {r : Mm} (h : F_X12_make_85 rc8 x1 x2 x3 x4 x5 x6 σ = some r) : Z m_X12_make S (Qv r) 85 [(0, .ref (sL S 3 0 0)), (1, .int (x1)), (2, .int (x2)), (3, .int (x3)), (4, .int (x4)), (5, .int (x5)), (6, .int (x6))] [] σ := by
  unfold F_X12_make_85 at h
  refine z_aload_n dX12_make_85 rfl 0 rfl ?_
  refine gf_12_212 rfl dX12_make_86 ?_
  refine z_iconst (v := 2) dX12_make_89 (by decide) ?_
  refine z_iload dX12_make_90 4 rfl ?_
  refine z_imul dX12_make_92 ?_
  refine z_sipush (v := 300) dX12_make_93 (by decide) ?_
  refine z_iload_n dX12_make_96 rfl 1 rfl ?_
  refine z_bipush (v := 8) dX12_make_97 (by decide) ?_
  refine z_iload dX12_make_99 4 rfl ?_
  refine z_imul dX12_make_101 ?_
  refine z_sipush (v := 400) dX12_make_102 (by decide) ?_
  obtain ⟨v, τ, hc, h⟩ := bnd_e h
  refine z_callS (M' := m_X12_lot) (As := [.int (x1), .int ((8 : Int32) * x4), .int (400)]) (rest := [.int (300), .int ((2 : Int32) * x4), .ref (sL S 3 0 66)]) kl_12_536 oy_X12_lot ⟨Nat.le_of_ble_eq_true rfl, Nat.le_of_ble_eq_true rfl⟩ rfl (Nat.le_of_ble_eq_true rfl) rfl dX12_make_105 (c_X12_lot hc) (fun v2 τ2 hq => ?_)
  obtain ⟨rfl, hτ⟩ := hq
  subst τ2
  change Z _ _ _ _ _ [.int (v), .int (300), .int ((2 : Int32) * x4), .ref (sL S 3 0 66)] _
  exact zb_X12_make_108 hrc8 h
def F_X12_make_82 (rc8 : Int32 → Int32 → Int32 → Int32 → Mm → Option (Mm)) (x1 : Int32) (x2 : Int32) (x3 : Int32) (x4 : Int32) (x5 : Int32) (s0 : Int32) (σ : Mm) : Option (Mm) := (if inb s0 5 = true then (F_X12_make_85 rc8 x1 x2 x3 x4 x5 (mA σ 3 0 58 s0.toNatClampNeg) σ) else none)
set_option maxRecDepth 20000 in
theorem zb_X12_make_82 {S : Shp} {rc8 : Int32 → Int32 → Int32 → Int32 → Mm → Option (Mm)} (hrc8 : ∀ {x1 : Int32} {x2 : Int32} {x3 : Int32} {x4 : Int32} {σ : Mm} {r : Mm}, rc8 x1 x2 x3 x4 σ = some r → Z m_X12_make S (Qv r) 8 [(0, .ref (sL S 3 0 0)), (1, .int (x1)), (2, .int (x2)), (3, .int (x3)), (4, .int (x4))] [] σ) {x1 : Int32} {x2 : Int32} {x3 : Int32} {x4 : Int32} {x5 : Int32} {s0 : Int32} {σ : Mm} {r : Mm} (h : F_X12_make_82 rc8 x1 x2 x3 x4 x5 s0 σ = some r) : Z m_X12_make S (Qv r) 82 [(0, .ref (sL S 3 0 0)), (1, .int (x1)), (2, .int (x2)), (3, .int (x3)), (4, .int (x4)), (5, .int (x5))] [.int (s0), .ref (sL S 3 0 58)] σ := by
  unfold F_X12_make_82 at h
  obtain ⟨g3, h⟩ := gd h
  refine ia_3_58 (inb_in g3) dX12_make_82 ?_
  refine z_istore (lv' := [(0, .ref (sL S 3 0 0)), (1, .int (x1)), (2, .int (x2)), (3, .int (x3)), (4, .int (x4)), (5, .int (x5)), (6, .int (mA σ 3 0 58 s0.toNatClampNeg))]) dX12_make_83 (by decide) [1, 2, 3, 4, 5, 6, 0] rfl ?_
  exact zb_X12_make_85 hrc8 h
def F_X12_make_44 (rc8 : Int32 → Int32 → Int32 → Int32 → Mm → Option (Mm)) (x1 : Int32) (x2 : Int32) (x3 : Int32) (x4 : Int32) (x5 : Int32) (s0 : Int32) (σ : Mm) : Option (Mm) := (if x3 ≤ x4 then (F_X12_make_85 rc8 x1 x2 x3 x4 x5 s0 σ) else (if inb 0 5 = true then (if (mA σ 3 0 21 (0 : Int32).toNatClampNeg) ≤ 0 then (F_X12_make_85 rc8 x1 x2 x3 x4 x5 s0 σ) else (if inb 0 5 = true then (bnd (F_X12_lot x1 (((8 : Int32) * x4) + (4 : Int32)) (mA σ 3 0 21 (0 : Int32).toNatClampNeg) σ) (fun v τ => (F_X12_make_82 rc8 x1 x2 x3 x4 x5 v τ))) else none)) else none))
set_option maxRecDepth 20000 in
theorem zb_X12_make_44 {S : Shp} {rc8 : Int32 → Int32 → Int32 → Int32 → Mm → Option (Mm)} (hrc8 : ∀ {x1 : Int32} {x2 : Int32} {x3 : Int32} {x4 : Int32} {σ : Mm} {r : Mm}, rc8 x1 x2 x3 x4 σ = some r → Z m_X12_make S (Qv r) 8 [(0, .ref (sL S 3 0 0)), (1, .int (x1)), (2, .int (x2)), (3, .int (x3)), (4, .int (x4))] [] σ) {x1 : Int32} {x2 : Int32} {x3 : Int32} {x4 : Int32} {x5 : Int32} {s0 : Int32} {σ : Mm} {r : Mm} (h : F_X12_make_44 rc8 x1 x2 x3 x4 x5 s0 σ = some r) : Z m_X12_make S (Qv r) 44 [(0, .ref (sL S 3 0 0)), (1, .int (x1)), (2, .int (x2)), (3, .int (x3)), (4, .int (x4)), (5, .int (x5))] [.int (s0)] σ := by
  unfold F_X12_make_44 at h
  refine z_istore (lv' := [(0, .ref (sL S 3 0 0)), (1, .int (x1)), (2, .int (x2)), (3, .int (x3)), (4, .int (x4)), (5, .int (x5)), (6, .int (s0))]) dX12_make_44 (by decide) [1, 2, 3, 4, 5, 6, 0] rfl ?_
  refine z_iload dX12_make_46 4 rfl ?_
  refine z_iload_n dX12_make_48 rfl 3 rfl ?_
  refine z_icmp_ge (tgt := 85) dX12_make_49 (by decide) (fun q => ?_) (fun q => ?_)
  · have h := (if_pos q).symm.trans h
    exact zb_X12_make_85 hrc8 h
  · have h := (if_neg q).symm.trans h
    obtain ⟨g1, h⟩ := gd h
    refine z_aload_n dX12_make_52 rfl 0 rfl ?_
    refine gf_12_76 rfl dX12_make_53 ?_
    refine z_iconst (v := 0) dX12_make_56 (by decide) ?_
    refine ia_3_21 (inb_in g1) dX12_make_57 ?_
    refine z_if_le (tgt := 85) dX12_make_58 (by decide) (fun q => ?_) (fun q => ?_)
    · have h := (if_pos q).symm.trans h
      exact zb_X12_make_85 hrc8 h
    · have h := (if_neg q).symm.trans h
      obtain ⟨g2, h⟩ := gd h
      refine z_aload_n dX12_make_61 rfl 0 rfl ?_
      refine gf_12_187 rfl dX12_make_62 ?_
      refine z_iload_n dX12_make_65 rfl 1 rfl ?_
      refine z_bipush (v := 8) dX12_make_66 (by decide) ?_
      refine z_iload dX12_make_68 4 rfl ?_
      refine z_imul dX12_make_70 ?_
      refine z_iconst (v := 4) dX12_make_71 (by decide) ?_
      refine z_iadd dX12_make_72 ?_
      refine z_aload_n dX12_make_73 rfl 0 rfl ?_
      refine gf_12_76 rfl dX12_make_74 ?_
      refine z_iconst (v := 0) dX12_make_77 (by decide) ?_
      refine ia_3_21 (inb_in g2) dX12_make_78 ?_
      obtain ⟨v, τ, hc, h⟩ := bnd_e h
      refine z_callS (M' := m_X12_lot) (As := [.int (x1), .int (((8 : Int32) * x4) + (4 : Int32)), .int (mA σ 3 0 21 (0 : Int32).toNatClampNeg)]) (rest := [.ref (sL S 3 0 58)]) kl_12_536 oy_X12_lot ⟨Nat.le_of_ble_eq_true rfl, Nat.le_of_ble_eq_true rfl⟩ rfl (Nat.le_of_ble_eq_true rfl) rfl dX12_make_79 (c_X12_lot hc) (fun v2 τ2 hq => ?_)
      obtain ⟨rfl, hτ⟩ := hq
      subst τ2
      change Z _ _ _ _ _ [.int (v), .ref (sL S 3 0 58)] _
      refine Z.lv [0, 1, 2, 3, 4, 5] rfl ?_
      exact zb_X12_make_82 hrc8 h
def F_X12_make_27 (rc8 : Int32 → Int32 → Int32 → Int32 → Mm → Option (Mm)) (x1 : Int32) (x2 : Int32) (x3 : Int32) (x4 : Int32) (s0 : Int32) (s1 : Int32) (σ : Mm) : Option (Mm) := (bnd (F_X12_lot x1 (((8 : Int32) * x4) + (3 : Int32)) 360 σ) (fun v τ => (F_X12_make_44 rc8 x1 x2 x3 x4 (s1 + s0) v τ)))
set_option maxRecDepth 20000 in
theorem zb_X12_make_27 {S : Shp} {rc8 : Int32 → Int32 → Int32 → Int32 → Mm → Option (Mm)} (hrc8 : ∀ {x1 : Int32} {x2 : Int32} {x3 : Int32} {x4 : Int32} {σ : Mm} {r : Mm}, rc8 x1 x2 x3 x4 σ = some r → Z m_X12_make S (Qv r) 8 [(0, .ref (sL S 3 0 0)), (1, .int (x1)), (2, .int (x2)), (3, .int (x3)), (4, .int (x4))] [] σ) {x1 : Int32} {x2 : Int32} {x3 : Int32} {x4 : Int32} {s0 : Int32} {s1 : Int32} {σ : Mm} {r : Mm} (h : F_X12_make_27 rc8 x1 x2 x3 x4 s0 s1 σ = some r) : Z m_X12_make S (Qv r) 27 [(0, .ref (sL S 3 0 0)), (1, .int (x1)), (2, .int (x2)), (3, .int (x3)), (4, .int (x4))] [.int (s0), .int (s1)] σ := by
  unfold F_X12_make_27 at h
  refine z_iadd dX12_make_27 ?_
  refine z_istore (lv' := [(0, .ref (sL S 3 0 0)), (1, .int (x1)), (2, .int (x2)), (3, .int (x3)), (4, .int (x4)), (5, .int (s1 + s0))]) dX12_make_28 (by decide) [1, 2, 3, 4, 5, 0] rfl ?_
  refine z_iload_n dX12_make_30 rfl 1 rfl ?_
  refine z_bipush (v := 8) dX12_make_31 (by decide) ?_
  refine z_iload dX12_make_33 4 rfl ?_
  refine z_imul dX12_make_35 ?_
  refine z_iconst (v := 3) dX12_make_36 (by decide) ?_
  refine z_iadd dX12_make_37 ?_
  refine z_sipush (v := 360) dX12_make_38 (by decide) ?_
  obtain ⟨v, τ, hc, h⟩ := bnd_e h
  refine z_callS (M' := m_X12_lot) (As := [.int (x1), .int (((8 : Int32) * x4) + (3 : Int32)), .int (360)]) (rest := []) kl_12_536 oy_X12_lot ⟨Nat.le_of_ble_eq_true rfl, Nat.le_of_ble_eq_true rfl⟩ rfl (Nat.le_of_ble_eq_true rfl) rfl dX12_make_41 (c_X12_lot hc) (fun v2 τ2 hq => ?_)
  obtain ⟨rfl, hτ⟩ := hq
  subst τ2
  change Z _ _ _ _ _ [.int (v)] _
  exact zb_X12_make_44 hrc8 h
def B_X12_make_8 (rc8 : Int32 → Int32 → Int32 → Int32 → Mm → Option (Mm)) (x1 : Int32) (x2 : Int32) (x3 : Int32) (x4 : Int32) (σ : Mm) : Option (Mm) := (if x2 ≤ x4 then some (σ) else (bnd (F_X12_lot x1 (((8 : Int32) * x4) + (2 : Int32)) 3 σ) (fun v τ => (F_X12_make_27 rc8 x1 x2 x3 x4 v 1 τ))))
set_option maxRecDepth 20000 in
theorem zB_X12_make_8 {S : Shp} {rc8 : Int32 → Int32 → Int32 → Int32 → Mm → Option (Mm)} (hrc8 : ∀ {x1 : Int32} {x2 : Int32} {x3 : Int32} {x4 : Int32} {σ : Mm} {r : Mm}, rc8 x1 x2 x3 x4 σ = some r → Z m_X12_make S (Qv r) 8 [(0, .ref (sL S 3 0 0)), (1, .int (x1)), (2, .int (x2)), (3, .int (x3)), (4, .int (x4))] [] σ) {x1 : Int32} {x2 : Int32} {x3 : Int32} {x4 : Int32} {σ : Mm} {r : Mm} (h : B_X12_make_8 rc8 x1 x2 x3 x4 σ = some r) : Z m_X12_make S (Qv r) 8 [(0, .ref (sL S 3 0 0)), (1, .int (x1)), (2, .int (x2)), (3, .int (x3)), (4, .int (x4))] [] σ := by
  unfold B_X12_make_8 at h
  refine z_iload dX12_make_8 4 rfl ?_
  refine z_iload_n dX12_make_10 rfl 2 rfl ?_
  refine z_icmp_ge (tgt := 203) dX12_make_11 (by decide) (fun q => ?_) (fun q => ?_)
  · have h := (if_pos q).symm.trans h
    cases h
    exact z_return dX12_make_203 rfl ⟨rfl, rfl⟩
  · have h := (if_neg q).symm.trans h
    refine z_iconst (v := 1) dX12_make_14 (by decide) ?_
    refine z_iload_n dX12_make_15 rfl 1 rfl ?_
    refine z_bipush (v := 8) dX12_make_16 (by decide) ?_
    refine z_iload dX12_make_18 4 rfl ?_
    refine z_imul dX12_make_20 ?_
    refine z_iconst (v := 2) dX12_make_21 (by decide) ?_
    refine z_iadd dX12_make_22 ?_
    refine z_iconst (v := 3) dX12_make_23 (by decide) ?_
    obtain ⟨v, τ, hc, h⟩ := bnd_e h
    refine z_callS (M' := m_X12_lot) (As := [.int (x1), .int (((8 : Int32) * x4) + (2 : Int32)), .int (3)]) (rest := [.int (1)]) kl_12_536 oy_X12_lot ⟨Nat.le_of_ble_eq_true rfl, Nat.le_of_ble_eq_true rfl⟩ rfl (Nat.le_of_ble_eq_true rfl) rfl dX12_make_24 (c_X12_lot hc) (fun v2 τ2 hq => ?_)
    obtain ⟨rfl, hτ⟩ := hq
    subst τ2
    change Z _ _ _ _ _ [.int (v), .int (1)] _
    exact zb_X12_make_27 hrc8 h
def F_X12_make_8 : Nat → Int32 → Int32 → Int32 → Int32 → Mm → Option (Mm)
  | 0 => fun _ _ _ _ _ => none
  | n + 1 => B_X12_make_8 (F_X12_make_8 n)
theorem zl_X12_make_8 {S : Shp} : ∀ (nn : Nat) {x1 : Int32} {x2 : Int32} {x3 : Int32} {x4 : Int32} {σ : Mm} {r : Mm}, F_X12_make_8 nn x1 x2 x3 x4 σ = some r → Z m_X12_make S (Qv r) 8 [(0, .ref (sL S 3 0 0)), (1, .int (x1)), (2, .int (x2)), (3, .int (x3)), (4, .int (x4))] [] σ := by
  intro nn
  induction nn with
  | zero => intro x1 x2 x3 x4 σ r h; cases h
  | succ nn ih => intro x1 x2 x3 x4 σ r h; exact zB_X12_make_8 @ih h
def F_X12_make_5 (x1 : Int32) (x2 : Int32) (x3 : Int32) (σ : Mm) : Option (Mm) := (F_X12_make_8 FU x1 x2 x3 0 σ)
set_option maxRecDepth 20000 in
theorem zb_X12_make_5 {S : Shp} {x1 : Int32} {x2 : Int32} {x3 : Int32} {σ : Mm} {r : Mm} (h : F_X12_make_5 x1 x2 x3 σ = some r) : Z m_X12_make S (Qv r) 5 [(0, .ref (sL S 3 0 0)), (1, .int (x1)), (2, .int (x2)), (3, .int (x3))] [] σ := by
  unfold F_X12_make_5 at h
  refine z_iconst (v := 0) dX12_make_5 (by decide) ?_
  refine z_istore (lv' := [(0, .ref (sL S 3 0 0)), (1, .int (x1)), (2, .int (x2)), (3, .int (x3)), (4, .int (0))]) dX12_make_6 (by decide) [1, 2, 3, 4, 0] rfl ?_
  exact zl_X12_make_8 FU h
def F_X12_make (x1 : Int32) (x2 : Int32) (x3 : Int32) (σ : Mm) : Option (Mm) := (bnv (F_X12_laySky 0 σ) (fun τ => (F_X12_make_5 x1 x2 x3 τ)))
set_option maxRecDepth 20000 in
theorem zb_X12_make {S : Shp} {x1 : Int32} {x2 : Int32} {x3 : Int32} {σ : Mm} {r : Mm} (h : F_X12_make x1 x2 x3 σ = some r) : Z m_X12_make S (Qv r) 0 [(0, .ref (sL S 3 0 0)), (1, .int (x1)), (2, .int (x2)), (3, .int (x3))] [] σ := by
  unfold F_X12_make at h
  refine z_aload_n dX12_make_0 rfl 0 rfl ?_
  refine z_iconst (v := 0) dX12_make_1 (by decide) ?_
  obtain ⟨τ, hc, h⟩ := bnv_e h
  refine z_callV (M' := m_X12_laySky) (t := 3) (i := 0) (k := 0) (As := [.int (0)]) (rest := []) kl_12_481 oy_X12_laySky ⟨Nat.le_of_ble_eq_true rfl, Nat.le_of_ble_eq_true rfl⟩ rfl rfl rfl rfl (Nat.le_of_ble_eq_true rfl) rfl dX12_make_2 (c_X12_laySky hc) (fun v2 τ2 hq => ?_)
  obtain ⟨rfl, hτ⟩ := hq
  subst τ2
  change Z _ _ _ _ _ [] _
  exact zb_X12_make_5 h
/-- SkyStonesModel.make(III)V -/
theorem c_X12_make {S : Shp} {x1 : Int32} {x2 : Int32} {x3 : Int32} {σ : Mm} {r : Mm} (h : F_X12_make x1 x2 x3 σ = some r) : Ct m_X12_make S [.ref (sL S 3 0 0), .int (x1), .int (x2), .int (x3)] σ (Qv r) := Ct.of (by decide +kernel) (Nat.le_of_ble_eq_true rfl) (zb_X12_make h)
def F_X12_madeHits_103 (rc13 : Int32 → Int32 → Int32 → Mm → Option (Int32 × Mm)) (rc24 : Int32 → Int32 → Int32 → Int32 → Mm → Option (Int32 × Mm)) (x2 : Int32) (x4 : Int32) (x5 : Int32) (x6 : Int32) (σ : Mm) : Option (Int32 × Mm) := (rc24 x2 x4 x5 (x6 + 1) σ)
set_option maxRecDepth 20000 in
theorem zb_X12_madeHits_103 {S : Shp} {rc13 : Int32 → Int32 → Int32 → Mm → Option (Int32 × Mm)} (hrc13 : ∀ {x2 : Int32} {x4 : Int32} {x5 : Int32} {σ : Mm} {r : Int32 × Mm}, rc13 x2 x4 x5 σ = some r → Z m_X12_madeHits S (Qi r) 13 [(0, .ref (sL S 3 0 0)), (2, .int (x2)), (4, .int (x4)), (5, .int (x5))] [] σ) {rc24 : Int32 → Int32 → Int32 → Int32 → Mm → Option (Int32 × Mm)} (hrc24 : ∀ {x2 : Int32} {x4 : Int32} {x5 : Int32} {x6 : Int32} {σ : Mm} {r : Int32 × Mm}, rc24 x2 x4 x5 x6 σ = some r → Z m_X12_madeHits S (Qi r) 24 [(0, .ref (sL S 3 0 0)), (2, .int (x2)), (4, .int (x4)), (5, .int (x5)), (6, .int (x6))] [] σ) {x2 : Int32} {x4 : Int32} {x5 : Int32} {x6 : Int32} {σ : Mm} {r : Int32 × Mm} (h : F_X12_madeHits_103 rc13 rc24 x2 x4 x5 x6 σ = some r) : Z m_X12_madeHits S (Qi r) 103 [(0, .ref (sL S 3 0 0)), (2, .int (x2)), (4, .int (x4)), (5, .int (x5)), (6, .int (x6))] [] σ := by
  unfold F_X12_madeHits_103 at h
  refine z_iinc (j := 4) (v := x6 + 1) (lv' := [(0, .ref (sL S 3 0 0)), (2, .int (x2)), (4, .int (x4)), (5, .int (x5)), (6, .int (x6 + 1))]) dX12_madeHits_103 rfl rfl (by decide) [1, 2, 3, 4, 0] rfl ?_
  refine z_goto (tgt := 24) dX12_madeHits_106 (by decide) ?_
  exact hrc24 h
def F_X12_madeHits_97 (rc13 : Int32 → Int32 → Int32 → Mm → Option (Int32 × Mm)) (rc24 : Int32 → Int32 → Int32 → Int32 → Mm → Option (Int32 × Mm)) (x2 : Int32) (x4 : Int32) (x5 : Int32) (x6 : Int32) (s0 : Int32) (σ : Mm) : Option (Int32 × Mm) := (if s0 = 0 then (F_X12_madeHits_103 rc13 rc24 x2 x4 x5 x6 σ) else (F_X12_madeHits_103 rc13 rc24 x2 (x4 + 1) x5 x6 σ))
set_option maxRecDepth 20000 in
theorem zb_X12_madeHits_97 {S : Shp} {rc13 : Int32 → Int32 → Int32 → Mm → Option (Int32 × Mm)} (hrc13 : ∀ {x2 : Int32} {x4 : Int32} {x5 : Int32} {σ : Mm} {r : Int32 × Mm}, rc13 x2 x4 x5 σ = some r → Z m_X12_madeHits S (Qi r) 13 [(0, .ref (sL S 3 0 0)), (2, .int (x2)), (4, .int (x4)), (5, .int (x5))] [] σ) {rc24 : Int32 → Int32 → Int32 → Int32 → Mm → Option (Int32 × Mm)} (hrc24 : ∀ {x2 : Int32} {x4 : Int32} {x5 : Int32} {x6 : Int32} {σ : Mm} {r : Int32 × Mm}, rc24 x2 x4 x5 x6 σ = some r → Z m_X12_madeHits S (Qi r) 24 [(0, .ref (sL S 3 0 0)), (2, .int (x2)), (4, .int (x4)), (5, .int (x5)), (6, .int (x6))] [] σ) {x2 : Int32} {x4 : Int32} {x5 : Int32} {x6 : Int32} {s0 : Int32} {σ : Mm} {r : Int32 × Mm} (h : F_X12_madeHits_97 rc13 rc24 x2 x4 x5 x6 s0 σ = some r) : Z m_X12_madeHits S (Qi r) 97 [(0, .ref (sL S 3 0 0)), (2, .int (x2)), (4, .int (x4)), (5, .int (x5)), (6, .int (x6))] [.int (s0)] σ := by
  unfold F_X12_madeHits_97 at h
  refine z_if_eq (tgt := 103) dX12_madeHits_97 (by decide) (fun q => ?_) (fun q => ?_)
  · have h := (if_pos q).symm.trans h
    exact zb_X12_madeHits_103 hrc13 hrc24 h
  · have h := (if_neg q).symm.trans h
    refine z_iinc (j := 2) (v := x4 + 1) (lv' := [(0, .ref (sL S 3 0 0)), (2, .int (x2)), (4, .int (x4 + 1)), (5, .int (x5)), (6, .int (x6))]) dX12_madeHits_100 rfl rfl (by decide) [1, 2, 0, 3, 4] rfl ?_
    exact zb_X12_madeHits_103 hrc13 hrc24 h
def F_X12_madeHits_87 (rc13 : Int32 → Int32 → Int32 → Mm → Option (Int32 × Mm)) (rc24 : Int32 → Int32 → Int32 → Int32 → Mm → Option (Int32 × Mm)) (x2 : Int32) (x4 : Int32) (x5 : Int32) (x6 : Int32) (s0 : Int32) (σ : Mm) : Option (Int32 × Mm) := (if inb 0 5 = true then (bnd (F_X12_hitBy s0 (mA σ 3 0 7 (0 : Int32).toNatClampNeg) 0 σ) (fun v τ => (F_X12_madeHits_97 rc13 rc24 x2 x4 x5 x6 v τ))) else none)
set_option maxRecDepth 20000 in
theorem zb_X12_madeHits_87 {S : Shp} {rc13 : Int32 → Int32 → Int32 → Mm → Option (Int32 × Mm)} (hrc13 : ∀ {x2 : Int32} {x4 : Int32} {x5 : Int32} {σ : Mm} {r : Int32 × Mm}, rc13 x2 x4 x5 σ = some r → Z m_X12_madeHits S (Qi r) 13 [(0, .ref (sL S 3 0 0)), (2, .int (x2)), (4, .int (x4)), (5, .int (x5))] [] σ) {rc24 : Int32 → Int32 → Int32 → Int32 → Mm → Option (Int32 × Mm)} (hrc24 : ∀ {x2 : Int32} {x4 : Int32} {x5 : Int32} {x6 : Int32} {σ : Mm} {r : Int32 × Mm}, rc24 x2 x4 x5 x6 σ = some r → Z m_X12_madeHits S (Qi r) 24 [(0, .ref (sL S 3 0 0)), (2, .int (x2)), (4, .int (x4)), (5, .int (x5)), (6, .int (x6))] [] σ) {x2 : Int32} {x4 : Int32} {x5 : Int32} {x6 : Int32} {s0 : Int32} {σ : Mm} {r : Int32 × Mm} (h : F_X12_madeHits_87 rc13 rc24 x2 x4 x5 x6 s0 σ = some r) : Z m_X12_madeHits S (Qi r) 87 [(0, .ref (sL S 3 0 0)), (2, .int (x2)), (4, .int (x4)), (5, .int (x5)), (6, .int (x6))] [.int (s0), .ref (sL S 3 0 0)] σ := by
  unfold F_X12_madeHits_87 at h
  obtain ⟨g5, h⟩ := gd h
  refine z_aload_n dX12_madeHits_87 rfl 0 rfl ?_
  refine gf_12_34 rfl dX12_madeHits_88 ?_
  refine z_iconst (v := 0) dX12_madeHits_91 (by decide) ?_
  refine ia_3_7 (inb_in g5) dX12_madeHits_92 ?_
  refine z_iconst (v := 0) dX12_madeHits_93 (by decide) ?_
  obtain ⟨v, τ, hc, h⟩ := bnd_e h
  refine z_callV (M' := m_X12_hitBy) (t := 3) (i := 0) (k := 0) (As := [.int (s0), .int (mA σ 3 0 7 (0 : Int32).toNatClampNeg), .int (0)]) (rest := []) kl_12_484 oy_X12_hitBy ⟨Nat.le_of_ble_eq_true rfl, Nat.le_of_ble_eq_true rfl⟩ rfl rfl rfl rfl (Nat.le_of_ble_eq_true rfl) rfl dX12_madeHits_94 (c_X12_hitBy hc) (fun v2 τ2 hq => ?_)
  obtain ⟨rfl, hτ⟩ := hq
  subst τ2
  change Z _ _ _ _ _ [.int (v)] _
  exact zb_X12_madeHits_97 hrc13 hrc24 h
def F_X12_madeHits_79 (rc13 : Int32 → Int32 → Int32 → Mm → Option (Int32 × Mm)) (rc24 : Int32 → Int32 → Int32 → Int32 → Mm → Option (Int32 × Mm)) (x2 : Int32) (x4 : Int32) (x5 : Int32) (x6 : Int32) (x7 : Int32) (x8 : Int32) (σ : Mm) : Option (Int32 × Mm) := (bnd (F_X12_degreeOf x7 x8 σ) (fun v τ => (F_X12_madeHits_87 rc13 rc24 x2 x4 x5 x6 v τ)))
set_option maxRecDepth 20000 in
theorem zb_X12_madeHits_79 {S : Shp} {rc13 : Int32 → Int32 → Int32 → Mm → Option (Int32 × Mm)} (hrc13 : ∀ {x2 : Int32} {x4 : Int32} {x5 : Int32} {σ : Mm} {r : Int32 × Mm}, rc13 x2 x4 x5 σ = some r → Z m_X12_madeHits S (Qi r) 13 [(0, .ref (sL S 3 0 0)), (2, .int (x2)), (4, .int (x4)), (5, .int (x5))] [] σ) {rc24 : Int32 → Int32 → Int32 → Int32 → Mm → Option (Int32 × Mm)} (hrc24 : ∀ {x2 : Int32} {x4 : Int32} {x5 : Int32} {x6 : Int32} {σ : Mm} {r : Int32 × Mm}, rc24 x2 x4 x5 x6 σ = some r → Z m_X12_madeHits S (Qi r) 24 [(0, .ref (sL S 3 0 0)), (2, .int (x2)), (4, .int (x4)), (5, .int (x5)), (6, .int (x6))] [] σ) {x2 : Int32} {x4 : Int32} {x5 : Int32} {x6 : Int32} {x7 : Int32} {x8 : Int32} {σ : Mm} {r : Int32 × Mm} (h : F_X12_madeHits_79 rc13 rc24 x2 x4 x5 x6 x7 x8 σ = some r) : Z m_X12_madeHits S (Qi r) 79 [(0, .ref (sL S 3 0 0)), (2, .int (x2)), (4, .int (x4)), (5, .int (x5)), (6, .int (x6)), (7, .int (x7)), (8, .int (x8))] [] σ := by
  unfold F_X12_madeHits_79 at h
  refine z_aload_n dX12_madeHits_79 rfl 0 rfl ?_
  refine z_iload dX12_madeHits_80 5 rfl ?_
  refine z_iload dX12_madeHits_82 6 rfl ?_
  obtain ⟨v, τ, hc, h⟩ := bnd_e h
  refine z_callS (M' := m_X12_degreeOf) (As := [.int (x7), .int (x8)]) (rest := [.ref (sL S 3 0 0)]) kl_12_431 oy_X12_degreeOf ⟨Nat.le_of_ble_eq_true rfl, Nat.le_of_ble_eq_true rfl⟩ rfl (Nat.le_of_ble_eq_true rfl) rfl dX12_madeHits_84 (c_X12_degreeOf hc) (fun v2 τ2 hq => ?_)
  obtain ⟨rfl, hτ⟩ := hq
  subst τ2
  change Z _ _ _ _ _ [.int (v), .ref (sL S 3 0 0)] _
  refine Z.lv [0, 1, 2, 3, 4] rfl ?_
  exact zb_X12_madeHits_87 hrc13 hrc24 h
def F_X12_madeHits_66 (rc13 : Int32 → Int32 → Int32 → Mm → Option (Int32 × Mm)) (rc24 : Int32 → Int32 → Int32 → Int32 → Mm → Option (Int32 × Mm)) (x2 : Int32) (x4 : Int32) (x5 : Int32) (x6 : Int32) (x7 : Int32) (x8 : Int32) (σ : Mm) : Option (Int32 × Mm) := (if x7 = 0 then (if x8 = 0 then (F_X12_madeHits_103 rc13 rc24 x2 x4 x5 x6 σ) else (F_X12_madeHits_79 rc13 rc24 x2 x4 x5 x6 x7 x8 σ)) else (F_X12_madeHits_79 rc13 rc24 x2 x4 x5 x6 x7 x8 σ))
set_option maxRecDepth 20000 in
theorem zb_X12_madeHits_66 {S : Shp} {rc13 : Int32 → Int32 → Int32 → Mm → Option (Int32 × Mm)} (hrc13 : ∀ {x2 : Int32} {x4 : Int32} {x5 : Int32} {σ : Mm} {r : Int32 × Mm}, rc13 x2 x4 x5 σ = some r → Z m_X12_madeHits S (Qi r) 13 [(0, .ref (sL S 3 0 0)), (2, .int (x2)), (4, .int (x4)), (5, .int (x5))] [] σ) {rc24 : Int32 → Int32 → Int32 → Int32 → Mm → Option (Int32 × Mm)} (hrc24 : ∀ {x2 : Int32} {x4 : Int32} {x5 : Int32} {x6 : Int32} {σ : Mm} {r : Int32 × Mm}, rc24 x2 x4 x5 x6 σ = some r → Z m_X12_madeHits S (Qi r) 24 [(0, .ref (sL S 3 0 0)), (2, .int (x2)), (4, .int (x4)), (5, .int (x5)), (6, .int (x6))] [] σ) {x2 : Int32} {x4 : Int32} {x5 : Int32} {x6 : Int32} {x7 : Int32} {x8 : Int32} {σ : Mm} {r : Int32 × Mm} (h : F_X12_madeHits_66 rc13 rc24 x2 x4 x5 x6 x7 x8 σ = some r) : Z m_X12_madeHits S (Qi r) 66 [(0, .ref (sL S 3 0 0)), (2, .int (x2)), (4, .int (x4)), (5, .int (x5)), (6, .int (x6)), (7, .int (x7)), (8, .int (x8))] [] σ := by
  unfold F_X12_madeHits_66 at h
  refine z_iload dX12_madeHits_66 5 rfl ?_
  refine z_if_ne (tgt := 79) dX12_madeHits_68 (by decide) (fun q => ?_) (fun q => ?_)
  · have h := (if_neg q).symm.trans h
    exact zb_X12_madeHits_79 hrc13 hrc24 h
  · have h := (if_pos q).symm.trans h
    refine z_iload dX12_madeHits_71 6 rfl ?_
    refine z_if_ne (tgt := 79) dX12_madeHits_73 (by decide) (fun q => ?_) (fun q => ?_)
    · have h := (if_neg q).symm.trans h
      exact zb_X12_madeHits_79 hrc13 hrc24 h
    · have h := (if_pos q).symm.trans h
      refine z_goto (tgt := 103) dX12_madeHits_76 (by decide) ?_
      refine Z.lv [0, 1, 2, 3, 4] rfl ?_
      exact zb_X12_madeHits_103 hrc13 hrc24 h
def F_X12_madeHits_49 (rc13 : Int32 → Int32 → Int32 → Mm → Option (Int32 × Mm)) (rc24 : Int32 → Int32 → Int32 → Int32 → Mm → Option (Int32 × Mm)) (x2 : Int32) (x4 : Int32) (x5 : Int32) (x6 : Int32) (x7 : Int32) (σ : Mm) : Option (Int32 × Mm) := (if inb x6 14 = true then (if inb x5 14 = true then (F_X12_madeHits_66 rc13 rc24 x2 x4 x5 x6 x7 ((mA σ 3 0 67 x6.toNatClampNeg) - (mA σ 3 0 67 x5.toNatClampNeg)) σ) else none) else none)
set_option maxRecDepth 20000 in
theorem zb_X12_madeHits_49 {S : Shp} {rc13 : Int32 → Int32 → Int32 → Mm → Option (Int32 × Mm)} (hrc13 : ∀ {x2 : Int32} {x4 : Int32} {x5 : Int32} {σ : Mm} {r : Int32 × Mm}, rc13 x2 x4 x5 σ = some r → Z m_X12_madeHits S (Qi r) 13 [(0, .ref (sL S 3 0 0)), (2, .int (x2)), (4, .int (x4)), (5, .int (x5))] [] σ) {rc24 : Int32 → Int32 → Int32 → Int32 → Mm → Option (Int32 × Mm)} (hrc24 : ∀ {x2 : Int32} {x4 : Int32} {x5 : Int32} {x6 : Int32} {σ : Mm} {r : Int32 × Mm}, rc24 x2 x4 x5 x6 σ = some r → Z m_X12_madeHits S (Qi r) 24 [(0, .ref (sL S 3 0 0)), (2, .int (x2)), (4, .int (x4)), (5, .int (x5)), (6, .int (x6))] [] σ) {x2 : Int32} {x4 : Int32} {x5 : Int32} {x6 : Int32} {x7 : Int32} {σ : Mm} {r : Int32 × Mm} (h : F_X12_madeHits_49 rc13 rc24 x2 x4 x5 x6 x7 σ = some r) : Z m_X12_madeHits S (Qi r) 49 [(0, .ref (sL S 3 0 0)), (2, .int (x2)), (4, .int (x4)), (5, .int (x5)), (6, .int (x6)), (7, .int (x7))] [] σ := by
  unfold F_X12_madeHits_49 at h
  obtain ⟨g3, h⟩ := gd h
  refine z_aload_n dX12_madeHits_49 rfl 0 rfl ?_
  refine gf_12_215 rfl dX12_madeHits_50 ?_
  refine z_iload dX12_madeHits_53 4 rfl ?_
  obtain ⟨g4, h⟩ := gd h
  refine ia_3_67 (inb_in g3) dX12_madeHits_55 ?_
  refine z_aload_n dX12_madeHits_56 rfl 0 rfl ?_
  refine gf_12_215 rfl dX12_madeHits_57 ?_
  refine z_iload dX12_madeHits_60 3 rfl ?_
  refine ia_3_67 (inb_in g4) dX12_madeHits_62 ?_
  refine z_isub dX12_madeHits_63 ?_
  refine z_istore (lv' := [(0, .ref (sL S 3 0 0)), (2, .int (x2)), (4, .int (x4)), (5, .int (x5)), (6, .int (x6)), (7, .int (x7)), (8, .int ((mA σ 3 0 67 x6.toNatClampNeg) - (mA σ 3 0 67 x5.toNatClampNeg)))]) dX12_madeHits_64 (by decide) [1, 2, 3, 4, 5, 6, 0] rfl ?_
  exact zb_X12_madeHits_66 hrc13 hrc24 h
def B_X12_madeHits_24 (rc13 : Int32 → Int32 → Int32 → Mm → Option (Int32 × Mm)) (rc24 : Int32 → Int32 → Int32 → Int32 → Mm → Option (Int32 × Mm)) (x2 : Int32) (x4 : Int32) (x5 : Int32) (x6 : Int32) (σ : Mm) : Option (Int32 × Mm) := (if ((2 : Int32) * x2) ≤ x6 then (rc13 x2 x4 (x5 + 1) σ) else (if inb x6 14 = true then (if inb x5 14 = true then (F_X12_madeHits_49 rc13 rc24 x2 x4 x5 x6 ((mA σ 3 0 66 x6.toNatClampNeg) - (mA σ 3 0 66 x5.toNatClampNeg)) σ) else none) else none))
set_option maxRecDepth 20000 in
theorem zB_X12_madeHits_24 {S : Shp} {rc13 : Int32 → Int32 → Int32 → Mm → Option (Int32 × Mm)} (hrc13 : ∀ {x2 : Int32} {x4 : Int32} {x5 : Int32} {σ : Mm} {r : Int32 × Mm}, rc13 x2 x4 x5 σ = some r → Z m_X12_madeHits S (Qi r) 13 [(0, .ref (sL S 3 0 0)), (2, .int (x2)), (4, .int (x4)), (5, .int (x5))] [] σ) {rc24 : Int32 → Int32 → Int32 → Int32 → Mm → Option (Int32 × Mm)} (hrc24 : ∀ {x2 : Int32} {x4 : Int32} {x5 : Int32} {x6 : Int32} {σ : Mm} {r : Int32 × Mm}, rc24 x2 x4 x5 x6 σ = some r → Z m_X12_madeHits S (Qi r) 24 [(0, .ref (sL S 3 0 0)), (2, .int (x2)), (4, .int (x4)), (5, .int (x5)), (6, .int (x6))] [] σ) {x2 : Int32} {x4 : Int32} {x5 : Int32} {x6 : Int32} {σ : Mm} {r : Int32 × Mm} (h : B_X12_madeHits_24 rc13 rc24 x2 x4 x5 x6 σ = some r) : Z m_X12_madeHits S (Qi r) 24 [(0, .ref (sL S 3 0 0)), (2, .int (x2)), (4, .int (x4)), (5, .int (x5)), (6, .int (x6))] [] σ := by
  unfold B_X12_madeHits_24 at h
  refine z_iload dX12_madeHits_24 4 rfl ?_
  refine z_iconst (v := 2) dX12_madeHits_26 (by decide) ?_
  refine z_iload_n dX12_madeHits_27 rfl 1 rfl ?_
  refine z_imul dX12_madeHits_28 ?_
  refine z_icmp_ge (tgt := 109) dX12_madeHits_29 (by decide) (fun q => ?_) (fun q => ?_)
  · have h := (if_pos q).symm.trans h
    refine z_iinc (j := 3) (v := x5 + 1) (lv' := [(0, .ref (sL S 3 0 0)), (2, .int (x2)), (4, .int (x4)), (5, .int (x5 + 1)), (6, .int (x6))]) dX12_madeHits_109 rfl rfl (by decide) [1, 2, 3, 0, 4] rfl ?_
    refine z_goto (tgt := 13) dX12_madeHits_112 (by decide) ?_
    refine Z.lv [0, 1, 2, 3] rfl ?_
    exact hrc13 h
  · have h := (if_neg q).symm.trans h
    obtain ⟨g1, h⟩ := gd h
    refine z_aload_n dX12_madeHits_32 rfl 0 rfl ?_
    refine gf_12_212 rfl dX12_madeHits_33 ?_
    refine z_iload dX12_madeHits_36 4 rfl ?_
    obtain ⟨g2, h⟩ := gd h
    refine ia_3_66 (inb_in g1) dX12_madeHits_38 ?_
    refine z_aload_n dX12_madeHits_39 rfl 0 rfl ?_
    refine gf_12_212 rfl dX12_madeHits_40 ?_
    refine z_iload dX12_madeHits_43 3 rfl ?_
    refine ia_3_66 (inb_in g2) dX12_madeHits_45 ?_
    refine z_isub dX12_madeHits_46 ?_
    refine z_istore (lv' := [(0, .ref (sL S 3 0 0)), (2, .int (x2)), (4, .int (x4)), (5, .int (x5)), (6, .int (x6)), (7, .int ((mA σ 3 0 66 x6.toNatClampNeg) - (mA σ 3 0 66 x5.toNatClampNeg)))]) dX12_madeHits_47 (by decide) [1, 2, 3, 4, 5, 0] rfl ?_
    exact zb_X12_madeHits_49 hrc13 hrc24 h
def F_X12_madeHits_24 (rc13 : Int32 → Int32 → Int32 → Mm → Option (Int32 × Mm)) : Nat → Int32 → Int32 → Int32 → Int32 → Mm → Option (Int32 × Mm)
  | 0 => fun _ _ _ _ _ => none
  | n + 1 => B_X12_madeHits_24 rc13 (F_X12_madeHits_24 rc13 n)
theorem zl_X12_madeHits_24 {S : Shp} {rc13 : Int32 → Int32 → Int32 → Mm → Option (Int32 × Mm)} (hrc13 : ∀ {x2 : Int32} {x4 : Int32} {x5 : Int32} {σ : Mm} {r : Int32 × Mm}, rc13 x2 x4 x5 σ = some r → Z m_X12_madeHits S (Qi r) 13 [(0, .ref (sL S 3 0 0)), (2, .int (x2)), (4, .int (x4)), (5, .int (x5))] [] σ) : ∀ (nn : Nat) {x2 : Int32} {x4 : Int32} {x5 : Int32} {x6 : Int32} {σ : Mm} {r : Int32 × Mm}, F_X12_madeHits_24 rc13 nn x2 x4 x5 x6 σ = some r → Z m_X12_madeHits S (Qi r) 24 [(0, .ref (sL S 3 0 0)), (2, .int (x2)), (4, .int (x4)), (5, .int (x5)), (6, .int (x6))] [] σ := by
  intro nn
  induction nn with
  | zero => intro x2 x4 x5 x6 σ r h; cases h
  | succ nn ih => intro x2 x4 x5 x6 σ r h; exact zB_X12_madeHits_24 hrc13 @ih h
def B_X12_madeHits_13 (rc13 : Int32 → Int32 → Int32 → Mm → Option (Int32 × Mm)) (x2 : Int32) (x4 : Int32) (x5 : Int32) (σ : Mm) : Option (Int32 × Mm) := (if ((2 : Int32) * x2) ≤ x5 then some (x4, σ) else (F_X12_madeHits_24 rc13 FU x2 x4 x5 0 σ))
set_option maxRecDepth 20000 in
theorem zB_X12_madeHits_13 {S : Shp} {rc13 : Int32 → Int32 → Int32 → Mm → Option (Int32 × Mm)} (hrc13 : ∀ {x2 : Int32} {x4 : Int32} {x5 : Int32} {σ : Mm} {r : Int32 × Mm}, rc13 x2 x4 x5 σ = some r → Z m_X12_madeHits S (Qi r) 13 [(0, .ref (sL S 3 0 0)), (2, .int (x2)), (4, .int (x4)), (5, .int (x5))] [] σ) {x2 : Int32} {x4 : Int32} {x5 : Int32} {σ : Mm} {r : Int32 × Mm} (h : B_X12_madeHits_13 rc13 x2 x4 x5 σ = some r) : Z m_X12_madeHits S (Qi r) 13 [(0, .ref (sL S 3 0 0)), (2, .int (x2)), (4, .int (x4)), (5, .int (x5))] [] σ := by
  unfold B_X12_madeHits_13 at h
  refine z_iload dX12_madeHits_13 3 rfl ?_
  refine z_iconst (v := 2) dX12_madeHits_15 (by decide) ?_
  refine z_iload_n dX12_madeHits_16 rfl 1 rfl ?_
  refine z_imul dX12_madeHits_17 ?_
  refine z_icmp_ge (tgt := 115) dX12_madeHits_18 (by decide) (fun q => ?_) (fun q => ?_)
  · have h := (if_pos q).symm.trans h
    refine z_iload dX12_madeHits_115 2 rfl ?_
    cases h
    exact z_ireturn dX12_madeHits_117 rfl rfl ⟨rfl, rfl⟩
  · have h := (if_neg q).symm.trans h
    refine z_iconst (v := 0) dX12_madeHits_21 (by decide) ?_
    refine z_istore (lv' := [(0, .ref (sL S 3 0 0)), (2, .int (x2)), (4, .int (x4)), (5, .int (x5)), (6, .int (0))]) dX12_madeHits_22 (by decide) [1, 2, 3, 4, 0] rfl ?_
    exact zl_X12_madeHits_24 hrc13 FU h
def F_X12_madeHits_13 : Nat → Int32 → Int32 → Int32 → Mm → Option (Int32 × Mm)
  | 0 => fun _ _ _ _ => none
  | n + 1 => B_X12_madeHits_13 (F_X12_madeHits_13 n)
theorem zl_X12_madeHits_13 {S : Shp} : ∀ (nn : Nat) {x2 : Int32} {x4 : Int32} {x5 : Int32} {σ : Mm} {r : Int32 × Mm}, F_X12_madeHits_13 nn x2 x4 x5 σ = some r → Z m_X12_madeHits S (Qi r) 13 [(0, .ref (sL S 3 0 0)), (2, .int (x2)), (4, .int (x4)), (5, .int (x5))] [] σ := by
  intro nn
  induction nn with
  | zero => intro x2 x4 x5 σ r h; cases h
  | succ nn ih => intro x2 x4 x5 σ r h; exact zB_X12_madeHits_13 @ih h
def F_X12_madeHits_7 (x2 : Int32) (σ : Mm) : Option (Int32 × Mm) := (F_X12_madeHits_13 FU x2 0 0 σ)
set_option maxRecDepth 20000 in
theorem zb_X12_madeHits_7 {S : Shp} {x2 : Int32} {σ : Mm} {r : Int32 × Mm} (h : F_X12_madeHits_7 x2 σ = some r) : Z m_X12_madeHits S (Qi r) 7 [(0, .ref (sL S 3 0 0)), (2, .int (x2))] [] σ := by
  unfold F_X12_madeHits_7 at h
  refine z_iconst (v := 0) dX12_madeHits_7 (by decide) ?_
  refine z_istore (lv' := [(0, .ref (sL S 3 0 0)), (2, .int (x2)), (4, .int (0))]) dX12_madeHits_8 (by decide) [1, 2, 0] rfl ?_
  refine z_iconst (v := 0) dX12_madeHits_10 (by decide) ?_
  refine z_istore (lv' := [(0, .ref (sL S 3 0 0)), (2, .int (x2)), (4, .int (0)), (5, .int (0))]) dX12_madeHits_11 (by decide) [1, 2, 3, 0] rfl ?_
  exact zl_X12_madeHits_13 FU h
def F_X12_madeHits (x1 : Int32) (x2 : Int32) (x3 : Int32) (σ : Mm) : Option (Int32 × Mm) := (bnv (F_X12_make x1 x2 x3 σ) (fun τ => (F_X12_madeHits_7 x2 τ)))
set_option maxRecDepth 20000 in
theorem zb_X12_madeHits {S : Shp} {x1 : Int32} {x2 : Int32} {x3 : Int32} {σ : Mm} {r : Int32 × Mm} (h : F_X12_madeHits x1 x2 x3 σ = some r) : Z m_X12_madeHits S (Qi r) 0 [(0, .ref (sL S 3 0 0)), (1, .int (x1)), (2, .int (x2)), (3, .int (x3))] [] σ := by
  unfold F_X12_madeHits at h
  refine z_aload_n dX12_madeHits_0 rfl 0 rfl ?_
  refine z_iload_n dX12_madeHits_1 rfl 1 rfl ?_
  refine z_iload_n dX12_madeHits_2 rfl 2 rfl ?_
  refine z_iload_n dX12_madeHits_3 rfl 3 rfl ?_
  obtain ⟨τ, hc, h⟩ := bnv_e h
  refine z_callV (M' := m_X12_make) (t := 3) (i := 0) (k := 0) (As := [.int (x1), .int (x2), .int (x3)]) (rest := []) kl_12_539 oy_X12_make ⟨Nat.le_of_ble_eq_true rfl, Nat.le_of_ble_eq_true rfl⟩ rfl rfl rfl rfl (Nat.le_of_ble_eq_true rfl) rfl dX12_madeHits_4 (c_X12_make hc) (fun v2 τ2 hq => ?_)
  obtain ⟨rfl, hτ⟩ := hq
  subst τ2
  change Z _ _ _ _ _ [] _
  refine Z.lv [0, 2] rfl ?_
  exact zb_X12_madeHits_7 h
/-- SkyStonesModel.madeHits(III)I -/
theorem c_X12_madeHits {S : Shp} {x1 : Int32} {x2 : Int32} {x3 : Int32} {σ : Mm} {r : Int32 × Mm} (h : F_X12_madeHits x1 x2 x3 σ = some r) : Ct m_X12_madeHits S [.ref (sL S 3 0 0), .int (x1), .int (x2), .int (x3)] σ (Qi r) := Ct.of (by decide +kernel) (Nat.le_of_ble_eq_true rfl) (zb_X12_madeHits h)
