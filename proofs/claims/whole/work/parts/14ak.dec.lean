def F_X12_isLit_147 (x1 : Int32) (s0 : Int32) (σ : Mm) : Option (Int32 × Mm) := (if inb x1 1000 = true then (if s0 = (mA σ 3 0 32 x1.toNatClampNeg) then some (0, σ) else some (1, σ)) else none)
set_option maxRecDepth 20000 in
theorem zb_X12_isLit_147 {S : Shp} {x1 : Int32} {s0 : Int32} {σ : Mm} {r : Int32 × Mm} (h : F_X12_isLit_147 x1 s0 σ = some r) : Z m_X12_isLit S (Qi r) 147 [(0, .ref (sL S 3 0 0)), (1, .int (x1))] [.int (s0)] σ := by
  unfold F_X12_isLit_147 at h
  obtain ⟨g12, h⟩ := gd h
  refine z_istore (lv' := [(0, .ref (sL S 3 0 0)), (1, .int (x1)), (4, .int (s0))]) dX12_isLit_147 (by decide) [1, 2, 0] rfl ?_
  refine z_iload dX12_isLit_149 2 rfl ?_
  refine z_aload_n dX12_isLit_151 rfl 0 rfl ?_
  refine gf_12_109 rfl dX12_isLit_152 ?_
  refine z_iload_n dX12_isLit_155 rfl 1 rfl ?_
  refine ia_3_32 (inb_in g12) dX12_isLit_156 ?_
  refine z_icmp_eq (tgt := 164) dX12_isLit_157 (by decide) (fun q => ?_) (fun q => ?_)
  · have h := (if_pos q).symm.trans h
    refine z_iconst (v := 0) dX12_isLit_164 (by decide) ?_
    cases h
    exact z_ireturn dX12_isLit_165 rfl rfl ⟨rfl, rfl⟩
  · have h := (if_neg q).symm.trans h
    refine z_iconst (v := 1) dX12_isLit_160 (by decide) ?_
    refine z_goto (tgt := 165) dX12_isLit_161 (by decide) ?_
    cases h
    exact z_ireturn dX12_isLit_165 rfl rfl ⟨rfl, rfl⟩
def F_X12_isLit_47 (x1 : Int32) (x2 : Int32) (s0 : Int32) (σ : Mm) : Option (Int32 × Mm) := (if (mA σ 3 0 0 69) = 0 then (if inb x1 1000 = true then (if (mA σ 3 0 33 x1.toNatClampNeg) = (300 : Int32) then (if x2 = s0 then (F_X12_isLit_147 x1 1 σ) else (F_X12_isLit_147 x1 0 σ)) else (if inb x1 1000 = true then (if (mA σ 3 0 33 x1.toNatClampNeg) = (301 : Int32) then (if x2 = s0 then (F_X12_isLit_147 x1 0 σ) else (F_X12_isLit_147 x1 1 σ)) else (if inb x1 1000 = true then (if (mA σ 3 0 33 x1.toNatClampNeg) = (302 : Int32) then (if s0 < x2 then (F_X12_isLit_147 x1 0 σ) else (F_X12_isLit_147 x1 1 σ)) else (if s0 ≤ x2 then (F_X12_isLit_147 x1 0 σ) else (F_X12_isLit_147 x1 1 σ))) else none)) else none)) else none) else (if inb x1 1000 = true then (if isB (mA σ 3 0 32 x1.toNatClampNeg) = true then some (mA σ 3 0 32 x1.toNatClampNeg, σ) else none) else none))
set_option maxRecDepth 20000 in
theorem zb_X12_isLit_47 {S : Shp} {x1 : Int32} {x2 : Int32} {s0 : Int32} {σ : Mm} {r : Int32 × Mm} (h : F_X12_isLit_47 x1 x2 s0 σ = some r) : Z m_X12_isLit S (Qi r) 47 [(0, .ref (sL S 3 0 0)), (1, .int (x1)), (2, .int (x2))] [.int (s0)] σ := by
  unfold F_X12_isLit_47 at h
  refine z_istore_n (lv' := [(0, .ref (sL S 3 0 0)), (1, .int (x1)), (2, .int (x2)), (3, .int (s0))]) dX12_isLit_47 rfl (by decide) [1, 2, 3, 0] rfl ?_
  refine z_aload_n dX12_isLit_48 rfl 0 rfl ?_
  refine gf_12_447 rfl dX12_isLit_49 ?_
  refine z_if_eq (tgt := 62) dX12_isLit_52 (by decide) (fun q => ?_) (fun q => ?_)
  · have h := (if_pos q).symm.trans h
    obtain ⟨g7, h⟩ := gd h
    refine z_aload_n dX12_isLit_62 rfl 0 rfl ?_
    refine gf_12_112 rfl dX12_isLit_63 ?_
    refine z_iload_n dX12_isLit_66 rfl 1 rfl ?_
    refine ia_3_33 (inb_in g7) dX12_isLit_67 ?_
    refine z_sipush (v := 300) dX12_isLit_68 (by decide) ?_
    refine z_icmp_ne (tgt := 87) dX12_isLit_71 (by decide) (fun q => ?_) (fun q => ?_)
    · have h := (if_neg q).symm.trans h
      obtain ⟨g8, h⟩ := gd h
      refine z_aload_n dX12_isLit_87 rfl 0 rfl ?_
      refine gf_12_112 rfl dX12_isLit_88 ?_
      refine z_iload_n dX12_isLit_91 rfl 1 rfl ?_
      refine ia_3_33 (inb_in g8) dX12_isLit_92 ?_
      refine z_sipush (v := 301) dX12_isLit_93 (by decide) ?_
      refine z_icmp_ne (tgt := 112) dX12_isLit_96 (by decide) (fun q => ?_) (fun q => ?_)
      · have h := (if_neg q).symm.trans h
        obtain ⟨g9, h⟩ := gd h
        refine z_aload_n dX12_isLit_112 rfl 0 rfl ?_
        refine gf_12_112 rfl dX12_isLit_113 ?_
        refine z_iload_n dX12_isLit_116 rfl 1 rfl ?_
        refine ia_3_33 (inb_in g9) dX12_isLit_117 ?_
        refine z_sipush (v := 302) dX12_isLit_118 (by decide) ?_
        refine z_icmp_ne (tgt := 137) dX12_isLit_121 (by decide) (fun q => ?_) (fun q => ?_)
        · have h := (if_neg q).symm.trans h
          refine z_iload_n dX12_isLit_137 rfl 2 rfl ?_
          refine z_iload_n dX12_isLit_138 rfl 3 rfl ?_
          refine z_icmp_ge (tgt := 146) dX12_isLit_139 (by decide) (fun q => ?_) (fun q => ?_)
          · have h := (if_pos q).symm.trans h
            refine z_iconst (v := 0) dX12_isLit_146 (by decide) ?_
            refine Z.lv [0, 1] rfl ?_
            exact zb_X12_isLit_147 h
          · have h := (if_neg q).symm.trans h
            refine z_iconst (v := 1) dX12_isLit_142 (by decide) ?_
            refine z_goto (tgt := 147) dX12_isLit_143 (by decide) ?_
            refine Z.lv [0, 1] rfl ?_
            exact zb_X12_isLit_147 h
        · have h := (if_pos q).symm.trans h
          refine z_iload_n dX12_isLit_124 rfl 2 rfl ?_
          refine z_iload_n dX12_isLit_125 rfl 3 rfl ?_
          refine z_icmp_gt (tgt := 133) dX12_isLit_126 (by decide) (fun q => ?_) (fun q => ?_)
          · have h := (if_pos q).symm.trans h
            refine z_iconst (v := 0) dX12_isLit_133 (by decide) ?_
            refine z_goto (tgt := 147) dX12_isLit_134 (by decide) ?_
            refine Z.lv [0, 1] rfl ?_
            exact zb_X12_isLit_147 h
          · have h := (if_neg q).symm.trans h
            refine z_iconst (v := 1) dX12_isLit_129 (by decide) ?_
            refine z_goto (tgt := 147) dX12_isLit_130 (by decide) ?_
            refine Z.lv [0, 1] rfl ?_
            exact zb_X12_isLit_147 h
      · have h := (if_pos q).symm.trans h
        refine z_iload_n dX12_isLit_99 rfl 2 rfl ?_
        refine z_iload_n dX12_isLit_100 rfl 3 rfl ?_
        refine z_icmp_eq (tgt := 108) dX12_isLit_101 (by decide) (fun q => ?_) (fun q => ?_)
        · have h := (if_pos q).symm.trans h
          refine z_iconst (v := 0) dX12_isLit_108 (by decide) ?_
          refine z_goto (tgt := 147) dX12_isLit_109 (by decide) ?_
          refine Z.lv [0, 1] rfl ?_
          exact zb_X12_isLit_147 h
        · have h := (if_neg q).symm.trans h
          refine z_iconst (v := 1) dX12_isLit_104 (by decide) ?_
          refine z_goto (tgt := 147) dX12_isLit_105 (by decide) ?_
          refine Z.lv [0, 1] rfl ?_
          exact zb_X12_isLit_147 h
    · have h := (if_pos q).symm.trans h
      refine z_iload_n dX12_isLit_74 rfl 2 rfl ?_
      refine z_iload_n dX12_isLit_75 rfl 3 rfl ?_
      refine z_icmp_ne (tgt := 83) dX12_isLit_76 (by decide) (fun q => ?_) (fun q => ?_)
      · have h := (if_neg q).symm.trans h
        refine z_iconst (v := 0) dX12_isLit_83 (by decide) ?_
        refine z_goto (tgt := 147) dX12_isLit_84 (by decide) ?_
        refine Z.lv [0, 1] rfl ?_
        exact zb_X12_isLit_147 h
      · have h := (if_pos q).symm.trans h
        refine z_iconst (v := 1) dX12_isLit_79 (by decide) ?_
        refine z_goto (tgt := 147) dX12_isLit_80 (by decide) ?_
        refine Z.lv [0, 1] rfl ?_
        exact zb_X12_isLit_147 h
  · have h := (if_neg q).symm.trans h
    obtain ⟨g10, h⟩ := gd h
    refine z_aload_n dX12_isLit_55 rfl 0 rfl ?_
    refine gf_12_109 rfl dX12_isLit_56 ?_
    refine z_iload_n dX12_isLit_59 rfl 1 rfl ?_
    obtain ⟨g11, h⟩ := gd h
    refine ia_3_32 (inb_in g10) dX12_isLit_60 ?_
    cases h
    exact z_ireturn dX12_isLit_61 rfl (isB_n g11) ⟨rfl, rfl⟩
def F_X12_isLit_16 (x1 : Int32) (s0 : Int32) (σ : Mm) : Option (Int32 × Mm) := (if (mA σ 3 0 0 69) = 0 then (if inb x1 1000 = true then (if inb x1 1000 = true then (bnd (F_X12_sum (mA σ 3 0 35 x1.toNatClampNeg) (mA σ 3 0 36 x1.toNatClampNeg) σ) (fun v τ => (F_X12_isLit_47 x1 s0 v τ))) else none) else none) else (if inb x1 1000 = true then (if isB (mA σ 3 0 32 x1.toNatClampNeg) = true then some (mA σ 3 0 32 x1.toNatClampNeg, σ) else none) else none))
set_option maxRecDepth 20000 in
theorem zb_X12_isLit_16 {S : Shp} {x1 : Int32} {s0 : Int32} {σ : Mm} {r : Int32 × Mm} (h : F_X12_isLit_16 x1 s0 σ = some r) : Z m_X12_isLit S (Qi r) 16 [(0, .ref (sL S 3 0 0)), (1, .int (x1))] [.int (s0)] σ := by
  unfold F_X12_isLit_16 at h
  refine z_istore_n (lv' := [(0, .ref (sL S 3 0 0)), (1, .int (x1)), (2, .int (s0))]) dX12_isLit_16 rfl (by decide) [1, 2, 0] rfl ?_
  refine z_aload_n dX12_isLit_17 rfl 0 rfl ?_
  refine gf_12_447 rfl dX12_isLit_18 ?_
  refine z_if_eq (tgt := 31) dX12_isLit_21 (by decide) (fun q => ?_) (fun q => ?_)
  · have h := (if_pos q).symm.trans h
    obtain ⟨g3, h⟩ := gd h
    refine z_aload_n dX12_isLit_31 rfl 0 rfl ?_
    refine z_aload_n dX12_isLit_32 rfl 0 rfl ?_
    refine gf_12_118 rfl dX12_isLit_33 ?_
    refine z_iload_n dX12_isLit_36 rfl 1 rfl ?_
    obtain ⟨g4, h⟩ := gd h
    refine ia_3_35 (inb_in g3) dX12_isLit_37 ?_
    refine z_aload_n dX12_isLit_38 rfl 0 rfl ?_
    refine gf_12_121 rfl dX12_isLit_39 ?_
    refine z_iload_n dX12_isLit_42 rfl 1 rfl ?_
    refine ia_3_36 (inb_in g4) dX12_isLit_43 ?_
    obtain ⟨v, τ, hc, h⟩ := bnd_e h
    refine z_callV (M' := m_X12_sum) (t := 3) (i := 0) (k := 0) (As := [.int (mA σ 3 0 35 x1.toNatClampNeg), .int (mA σ 3 0 36 x1.toNatClampNeg)]) (rest := []) kl_12_451 oy_X12_sum ⟨Nat.le_of_ble_eq_true rfl, Nat.le_of_ble_eq_true rfl⟩ rfl rfl rfl rfl (Nat.le_of_ble_eq_true rfl) rfl dX12_isLit_44 (c_X12_sum hc) (fun v2 τ2 hq => ?_)
    obtain ⟨rfl, hτ⟩ := hq
    subst τ2
    change Z _ _ _ _ _ [.int (v)] _
    exact zb_X12_isLit_47 h
  · have h := (if_neg q).symm.trans h
    obtain ⟨g5, h⟩ := gd h
    refine z_aload_n dX12_isLit_24 rfl 0 rfl ?_
    refine gf_12_109 rfl dX12_isLit_25 ?_
    refine z_iload_n dX12_isLit_28 rfl 1 rfl ?_
    obtain ⟨g6, h⟩ := gd h
    refine ia_3_32 (inb_in g5) dX12_isLit_29 ?_
    cases h
    exact z_ireturn dX12_isLit_30 rfl (isB_n g6) ⟨rfl, rfl⟩
def F_X12_isLit (x1 : Int32) (σ : Mm) : Option (Int32 × Mm) := (if inb x1 1000 = true then (if inb x1 1000 = true then (bnd (F_X12_sum (mA σ 3 0 34 x1.toNatClampNeg) (mA σ 3 0 35 x1.toNatClampNeg) σ) (fun v τ => (F_X12_isLit_16 x1 v τ))) else none) else none)
set_option maxRecDepth 20000 in
theorem zb_X12_isLit {S : Shp} {x1 : Int32} {σ : Mm} {r : Int32 × Mm} (h : F_X12_isLit x1 σ = some r) : Z m_X12_isLit S (Qi r) 0 [(0, .ref (sL S 3 0 0)), (1, .int (x1))] [] σ := by
  unfold F_X12_isLit at h
  obtain ⟨g1, h⟩ := gd h
  refine z_aload_n dX12_isLit_0 rfl 0 rfl ?_
  refine z_aload_n dX12_isLit_1 rfl 0 rfl ?_
  refine gf_12_115 rfl dX12_isLit_2 ?_
  refine z_iload_n dX12_isLit_5 rfl 1 rfl ?_
  obtain ⟨g2, h⟩ := gd h
  refine ia_3_34 (inb_in g1) dX12_isLit_6 ?_
  refine z_aload_n dX12_isLit_7 rfl 0 rfl ?_
  refine gf_12_118 rfl dX12_isLit_8 ?_
  refine z_iload_n dX12_isLit_11 rfl 1 rfl ?_
  refine ia_3_35 (inb_in g2) dX12_isLit_12 ?_
  obtain ⟨v, τ, hc, h⟩ := bnd_e h
  refine z_callV (M' := m_X12_sum) (t := 3) (i := 0) (k := 0) (As := [.int (mA σ 3 0 34 x1.toNatClampNeg), .int (mA σ 3 0 35 x1.toNatClampNeg)]) (rest := []) kl_12_451 oy_X12_sum ⟨Nat.le_of_ble_eq_true rfl, Nat.le_of_ble_eq_true rfl⟩ rfl rfl rfl rfl (Nat.le_of_ble_eq_true rfl) rfl dX12_isLit_13 (c_X12_sum hc) (fun v2 τ2 hq => ?_)
  obtain ⟨rfl, hτ⟩ := hq
  subst τ2
  change Z _ _ _ _ _ [.int (v)] _
  exact zb_X12_isLit_16 h
/-- SkyStonesModel.isLit(I)Z -/
theorem c_X12_isLit {S : Shp} {x1 : Int32} {σ : Mm} {r : Int32 × Mm} (h : F_X12_isLit x1 σ = some r) : Ct m_X12_isLit S [.ref (sL S 3 0 0), .int (x1)] σ (Qi r) := Ct.of (by decide +kernel) (Nat.le_of_ble_eq_true rfl) (zb_X12_isLit h)
def F_X12_isHeld_52 (rc2 : Int32 → Int32 → Mm → Option (Int32 × Mm)) (x2 : Int32) (x3 : Int32) (x5 : Int32) (σ : Mm) : Option (Int32 × Mm) := (if x5 = 0 then (rc2 x2 x3 σ) else some (1, σ))
set_option maxRecDepth 20000 in
theorem zb_X12_isHeld_52 {S : Shp} {rc2 : Int32 → Int32 → Mm → Option (Int32 × Mm)} (hrc2 : ∀ {x2 : Int32} {x3 : Int32} {σ : Mm} {r : Int32 × Mm}, rc2 x2 x3 σ = some r → Z m_X12_isHeld S (Qi r) 2 [(0, .ref (sL S 3 0 0)), (2, .int (x2)), (3, .int (x3))] [] σ) {x2 : Int32} {x3 : Int32} {x5 : Int32} {σ : Mm} {r : Int32 × Mm} (h : F_X12_isHeld_52 rc2 x2 x3 x5 σ = some r) : Z m_X12_isHeld S (Qi r) 52 [(0, .ref (sL S 3 0 0)), (2, .int (x2)), (3, .int (x3)), (5, .int (x5))] [] σ := by
  unfold F_X12_isHeld_52 at h
  refine z_iload dX12_isHeld_52 3 rfl ?_
  refine z_if_eq (tgt := 59) dX12_isHeld_54 (by decide) (fun q => ?_) (fun q => ?_)
  · have h := (if_pos q).symm.trans h
    refine z_goto (tgt := 2) dX12_isHeld_59 (by decide) ?_
    refine Z.lv [0, 1, 2] rfl ?_
    exact hrc2 h
  · have h := (if_neg q).symm.trans h
    refine z_iconst (v := 1) dX12_isHeld_57 (by decide) ?_
    cases h
    exact z_ireturn dX12_isHeld_58 rfl rfl ⟨rfl, rfl⟩
def F_X12_isHeld_46 (rc2 : Int32 → Int32 → Mm → Option (Int32 × Mm)) (rc18 : Int32 → Int32 → Int32 → Int32 → Mm → Option (Int32 × Mm)) (x2 : Int32) (x3 : Int32) (x4 : Int32) (x5 : Int32) (σ : Mm) : Option (Int32 × Mm) := (rc18 x2 (x3 + 1) x4 x5 σ)
set_option maxRecDepth 20000 in
theorem zb_X12_isHeld_46 {S : Shp} {rc2 : Int32 → Int32 → Mm → Option (Int32 × Mm)} (hrc2 : ∀ {x2 : Int32} {x3 : Int32} {σ : Mm} {r : Int32 × Mm}, rc2 x2 x3 σ = some r → Z m_X12_isHeld S (Qi r) 2 [(0, .ref (sL S 3 0 0)), (2, .int (x2)), (3, .int (x3))] [] σ) {rc18 : Int32 → Int32 → Int32 → Int32 → Mm → Option (Int32 × Mm)} (hrc18 : ∀ {x2 : Int32} {x3 : Int32} {x4 : Int32} {x5 : Int32} {σ : Mm} {r : Int32 × Mm}, rc18 x2 x3 x4 x5 σ = some r → Z m_X12_isHeld S (Qi r) 18 [(0, .ref (sL S 3 0 0)), (2, .int (x2)), (3, .int (x3)), (4, .int (x4)), (5, .int (x5))] [] σ) {x2 : Int32} {x3 : Int32} {x4 : Int32} {x5 : Int32} {σ : Mm} {r : Int32 × Mm} (h : F_X12_isHeld_46 rc2 rc18 x2 x3 x4 x5 σ = some r) : Z m_X12_isHeld S (Qi r) 46 [(0, .ref (sL S 3 0 0)), (2, .int (x2)), (3, .int (x3)), (4, .int (x4)), (5, .int (x5))] [] σ := by
  unfold F_X12_isHeld_46 at h
  refine z_iinc (j := 2) (v := x3 + 1) (lv' := [(0, .ref (sL S 3 0 0)), (2, .int (x2)), (3, .int (x3 + 1)), (4, .int (x4)), (5, .int (x5))]) dX12_isHeld_46 rfl rfl (by decide) [1, 2, 0, 3, 4] rfl ?_
  refine z_goto (tgt := 18) dX12_isHeld_49 (by decide) ?_
  exact hrc18 h
def F_X12_isHeld_44 (rc2 : Int32 → Int32 → Mm → Option (Int32 × Mm)) (rc18 : Int32 → Int32 → Int32 → Int32 → Mm → Option (Int32 × Mm)) (x2 : Int32) (x3 : Int32) (x4 : Int32) (s0 : Int32) (σ : Mm) : Option (Int32 × Mm) := (F_X12_isHeld_46 rc2 rc18 x2 x3 x4 s0 σ)
set_option maxRecDepth 20000 in
theorem zb_X12_isHeld_44 {S : Shp} {rc2 : Int32 → Int32 → Mm → Option (Int32 × Mm)} (hrc2 : ∀ {x2 : Int32} {x3 : Int32} {σ : Mm} {r : Int32 × Mm}, rc2 x2 x3 σ = some r → Z m_X12_isHeld S (Qi r) 2 [(0, .ref (sL S 3 0 0)), (2, .int (x2)), (3, .int (x3))] [] σ) {rc18 : Int32 → Int32 → Int32 → Int32 → Mm → Option (Int32 × Mm)} (hrc18 : ∀ {x2 : Int32} {x3 : Int32} {x4 : Int32} {x5 : Int32} {σ : Mm} {r : Int32 × Mm}, rc18 x2 x3 x4 x5 σ = some r → Z m_X12_isHeld S (Qi r) 18 [(0, .ref (sL S 3 0 0)), (2, .int (x2)), (3, .int (x3)), (4, .int (x4)), (5, .int (x5))] [] σ) {x2 : Int32} {x3 : Int32} {x4 : Int32} {s0 : Int32} {σ : Mm} {r : Int32 × Mm} (h : F_X12_isHeld_44 rc2 rc18 x2 x3 x4 s0 σ = some r) : Z m_X12_isHeld S (Qi r) 44 [(0, .ref (sL S 3 0 0)), (2, .int (x2)), (3, .int (x3)), (4, .int (x4))] [.int (s0)] σ := by
  unfold F_X12_isHeld_44 at h
  refine z_istore (lv' := [(0, .ref (sL S 3 0 0)), (2, .int (x2)), (3, .int (x3)), (4, .int (x4)), (5, .int (s0))]) dX12_isHeld_44 (by decide) [1, 2, 3, 4, 0] rfl ?_
  exact zb_X12_isHeld_46 hrc2 hrc18 h
def B_X12_isHeld_18 (rc2 : Int32 → Int32 → Mm → Option (Int32 × Mm)) (rc18 : Int32 → Int32 → Int32 → Int32 → Mm → Option (Int32 × Mm)) (x2 : Int32) (x3 : Int32) (x4 : Int32) (x5 : Int32) (σ : Mm) : Option (Int32 × Mm) := (if x2 ≤ x3 then (F_X12_isHeld_52 rc2 x2 x3 x5 σ) else (if inb x3 1000 = true then (if (mA σ 3 0 37 x3.toNatClampNeg) = x4 then (if x5 = 0 then (F_X12_isHeld_46 rc2 rc18 x2 x3 x4 x5 σ) else (bnd (F_X12_isLit x3 σ) (fun v τ => (F_X12_isHeld_44 rc2 rc18 x2 x3 x4 v τ)))) else (F_X12_isHeld_52 rc2 x2 x3 x5 σ)) else none))
set_option maxRecDepth 20000 in
theorem zB_X12_isHeld_18 {S : Shp} {rc2 : Int32 → Int32 → Mm → Option (Int32 × Mm)} (hrc2 : ∀ {x2 : Int32} {x3 : Int32} {σ : Mm} {r : Int32 × Mm}, rc2 x2 x3 σ = some r → Z m_X12_isHeld S (Qi r) 2 [(0, .ref (sL S 3 0 0)), (2, .int (x2)), (3, .int (x3))] [] σ) {rc18 : Int32 → Int32 → Int32 → Int32 → Mm → Option (Int32 × Mm)} (hrc18 : ∀ {x2 : Int32} {x3 : Int32} {x4 : Int32} {x5 : Int32} {σ : Mm} {r : Int32 × Mm}, rc18 x2 x3 x4 x5 σ = some r → Z m_X12_isHeld S (Qi r) 18 [(0, .ref (sL S 3 0 0)), (2, .int (x2)), (3, .int (x3)), (4, .int (x4)), (5, .int (x5))] [] σ) {x2 : Int32} {x3 : Int32} {x4 : Int32} {x5 : Int32} {σ : Mm} {r : Int32 × Mm} (h : B_X12_isHeld_18 rc2 rc18 x2 x3 x4 x5 σ = some r) : Z m_X12_isHeld S (Qi r) 18 [(0, .ref (sL S 3 0 0)), (2, .int (x2)), (3, .int (x3)), (4, .int (x4)), (5, .int (x5))] [] σ := by
  unfold B_X12_isHeld_18 at h
  refine z_iload_n dX12_isHeld_18 rfl 2 rfl ?_
  refine z_iload_n dX12_isHeld_19 rfl 1 rfl ?_
  refine z_icmp_ge (tgt := 52) dX12_isHeld_20 (by decide) (fun q => ?_) (fun q => ?_)
  · have h := (if_pos q).symm.trans h
    refine Z.lv [0, 1, 2, 4] rfl ?_
    exact zb_X12_isHeld_52 hrc2 h
  · have h := (if_neg q).symm.trans h
    obtain ⟨g2, h⟩ := gd h
    refine z_aload_n dX12_isHeld_23 rfl 0 rfl ?_
    refine gf_12_124 rfl dX12_isHeld_24 ?_
    refine z_iload_n dX12_isHeld_27 rfl 2 rfl ?_
    refine ia_3_37 (inb_in g2) dX12_isHeld_28 ?_
    refine z_iload dX12_isHeld_29 3 rfl ?_
    refine z_icmp_ne (tgt := 52) dX12_isHeld_31 (by decide) (fun q => ?_) (fun q => ?_)
    · have h := (if_neg q).symm.trans h
      refine Z.lv [0, 1, 2, 4] rfl ?_
      exact zb_X12_isHeld_52 hrc2 h
    · have h := (if_pos q).symm.trans h
      refine z_iload dX12_isHeld_34 4 rfl ?_
      refine z_if_eq (tgt := 46) dX12_isHeld_36 (by decide) (fun q => ?_) (fun q => ?_)
      · have h := (if_pos q).symm.trans h
        exact zb_X12_isHeld_46 hrc2 hrc18 h
      · have h := (if_neg q).symm.trans h
        refine z_aload_n dX12_isHeld_39 rfl 0 rfl ?_
        refine z_iload_n dX12_isHeld_40 rfl 2 rfl ?_
        obtain ⟨v, τ, hc, h⟩ := bnd_e h
        refine z_callV (M' := m_X12_isLit) (t := 3) (i := 0) (k := 0) (As := [.int (x3)]) (rest := []) kl_12_454 oy_X12_isLit ⟨Nat.le_of_ble_eq_true rfl, Nat.le_of_ble_eq_true rfl⟩ rfl rfl rfl rfl (Nat.le_of_ble_eq_true rfl) rfl dX12_isHeld_41 (c_X12_isLit hc) (fun v2 τ2 hq => ?_)
        obtain ⟨rfl, hτ⟩ := hq
        subst τ2
        change Z _ _ _ _ _ [.int (v)] _
        refine Z.lv [0, 1, 2, 3] rfl ?_
        exact zb_X12_isHeld_44 hrc2 hrc18 h
def F_X12_isHeld_18 (rc2 : Int32 → Int32 → Mm → Option (Int32 × Mm)) : Nat → Int32 → Int32 → Int32 → Int32 → Mm → Option (Int32 × Mm)
  | 0 => fun _ _ _ _ _ => none
  | n + 1 => B_X12_isHeld_18 rc2 (F_X12_isHeld_18 rc2 n)
theorem zl_X12_isHeld_18 {S : Shp} {rc2 : Int32 → Int32 → Mm → Option (Int32 × Mm)} (hrc2 : ∀ {x2 : Int32} {x3 : Int32} {σ : Mm} {r : Int32 × Mm}, rc2 x2 x3 σ = some r → Z m_X12_isHeld S (Qi r) 2 [(0, .ref (sL S 3 0 0)), (2, .int (x2)), (3, .int (x3))] [] σ) : ∀ (nn : Nat) {x2 : Int32} {x3 : Int32} {x4 : Int32} {x5 : Int32} {σ : Mm} {r : Int32 × Mm}, F_X12_isHeld_18 rc2 nn x2 x3 x4 x5 σ = some r → Z m_X12_isHeld S (Qi r) 18 [(0, .ref (sL S 3 0 0)), (2, .int (x2)), (3, .int (x3)), (4, .int (x4)), (5, .int (x5))] [] σ := by
  intro nn
  induction nn with
  | zero => intro x2 x3 x4 x5 σ r h; cases h
  | succ nn ih => intro x2 x3 x4 x5 σ r h; exact zB_X12_isHeld_18 hrc2 @ih h
def B_X12_isHeld_2 (rc2 : Int32 → Int32 → Mm → Option (Int32 × Mm)) (x2 : Int32) (x3 : Int32) (σ : Mm) : Option (Int32 × Mm) := (if x2 ≤ x3 then some (0, σ) else (if inb x3 1000 = true then (F_X12_isHeld_18 rc2 FU x2 x3 (mA σ 3 0 37 x3.toNatClampNeg) 1 σ) else none))
set_option maxRecDepth 20000 in
theorem zB_X12_isHeld_2 {S : Shp} {rc2 : Int32 → Int32 → Mm → Option (Int32 × Mm)} (hrc2 : ∀ {x2 : Int32} {x3 : Int32} {σ : Mm} {r : Int32 × Mm}, rc2 x2 x3 σ = some r → Z m_X12_isHeld S (Qi r) 2 [(0, .ref (sL S 3 0 0)), (2, .int (x2)), (3, .int (x3))] [] σ) {x2 : Int32} {x3 : Int32} {σ : Mm} {r : Int32 × Mm} (h : B_X12_isHeld_2 rc2 x2 x3 σ = some r) : Z m_X12_isHeld S (Qi r) 2 [(0, .ref (sL S 3 0 0)), (2, .int (x2)), (3, .int (x3))] [] σ := by
  unfold B_X12_isHeld_2 at h
  refine z_iload_n dX12_isHeld_2 rfl 2 rfl ?_
  refine z_iload_n dX12_isHeld_3 rfl 1 rfl ?_
  refine z_icmp_ge (tgt := 62) dX12_isHeld_4 (by decide) (fun q => ?_) (fun q => ?_)
  · have h := (if_pos q).symm.trans h
    refine z_iconst (v := 0) dX12_isHeld_62 (by decide) ?_
    cases h
    exact z_ireturn dX12_isHeld_63 rfl rfl ⟨rfl, rfl⟩
  · have h := (if_neg q).symm.trans h
    obtain ⟨g1, h⟩ := gd h
    refine z_aload_n dX12_isHeld_7 rfl 0 rfl ?_
    refine gf_12_124 rfl dX12_isHeld_8 ?_
    refine z_iload_n dX12_isHeld_11 rfl 2 rfl ?_
    refine ia_3_37 (inb_in g1) dX12_isHeld_12 ?_
    refine z_istore (lv' := [(0, .ref (sL S 3 0 0)), (2, .int (x2)), (3, .int (x3)), (4, .int (mA σ 3 0 37 x3.toNatClampNeg))]) dX12_isHeld_13 (by decide) [1, 2, 3, 0] rfl ?_
    refine z_iconst (v := 1) dX12_isHeld_15 (by decide) ?_
    refine z_istore (lv' := [(0, .ref (sL S 3 0 0)), (2, .int (x2)), (3, .int (x3)), (4, .int (mA σ 3 0 37 x3.toNatClampNeg)), (5, .int (1))]) dX12_isHeld_16 (by decide) [1, 2, 3, 4, 0] rfl ?_
    exact zl_X12_isHeld_18 hrc2 FU h
def F_X12_isHeld_2 : Nat → Int32 → Int32 → Mm → Option (Int32 × Mm)
  | 0 => fun _ _ _ => none
  | n + 1 => B_X12_isHeld_2 (F_X12_isHeld_2 n)
theorem zl_X12_isHeld_2 {S : Shp} : ∀ (nn : Nat) {x2 : Int32} {x3 : Int32} {σ : Mm} {r : Int32 × Mm}, F_X12_isHeld_2 nn x2 x3 σ = some r → Z m_X12_isHeld S (Qi r) 2 [(0, .ref (sL S 3 0 0)), (2, .int (x2)), (3, .int (x3))] [] σ := by
  intro nn
  induction nn with
  | zero => intro x2 x3 σ r h; cases h
  | succ nn ih => intro x2 x3 σ r h; exact zB_X12_isHeld_2 @ih h
def F_X12_isHeld (x1 : Int32) (x2 : Int32) (σ : Mm) : Option (Int32 × Mm) := (F_X12_isHeld_2 FU x2 x1 σ)
set_option maxRecDepth 20000 in
theorem zb_X12_isHeld {S : Shp} {x1 : Int32} {x2 : Int32} {σ : Mm} {r : Int32 × Mm} (h : F_X12_isHeld x1 x2 σ = some r) : Z m_X12_isHeld S (Qi r) 0 [(0, .ref (sL S 3 0 0)), (1, .int (x1)), (2, .int (x2))] [] σ := by
  unfold F_X12_isHeld at h
  refine z_iload_n dX12_isHeld_0 rfl 1 rfl ?_
  refine z_istore_n (lv' := [(0, .ref (sL S 3 0 0)), (1, .int (x1)), (2, .int (x2)), (3, .int (x1))]) dX12_isHeld_1 rfl (by decide) [1, 2, 3, 0] rfl ?_
  refine Z.lv [0, 2, 3] rfl ?_
  exact zl_X12_isHeld_2 FU h
/-- SkyStonesModel.isHeld(II)Z -/
theorem c_X12_isHeld {S : Shp} {x1 : Int32} {x2 : Int32} {σ : Mm} {r : Int32 × Mm} (h : F_X12_isHeld x1 x2 σ = some r) : Ct m_X12_isHeld S [.ref (sL S 3 0 0), .int (x1), .int (x2)] σ (Qi r) := Ct.of (by decide +kernel) (Nat.le_of_ble_eq_true rfl) (zb_X12_isHeld h)
def F_X12_isLive_38 (rc11 : Int32 → Int32 → Int32 → Mm → Option (Int32 × Mm)) (x1 : Int32) (x2 : Int32) (x3 : Int32) (σ : Mm) : Option (Int32 × Mm) := (rc11 x1 x2 (x3 + 1) σ)
set_option maxRecDepth 20000 in
theorem zb_X12_isLive_38 {S : Shp} {rc11 : Int32 → Int32 → Int32 → Mm → Option (Int32 × Mm)} (hrc11 : ∀ {x1 : Int32} {x2 : Int32} {x3 : Int32} {σ : Mm} {r : Int32 × Mm}, rc11 x1 x2 x3 σ = some r → Z m_X12_isLive S (Qi r) 11 [(0, .ref (sL S 3 0 0)), (1, .int (x1)), (2, .int (x2)), (3, .int (x3))] [] σ) {x1 : Int32} {x2 : Int32} {x3 : Int32} {σ : Mm} {r : Int32 × Mm} (h : F_X12_isLive_38 rc11 x1 x2 x3 σ = some r) : Z m_X12_isLive S (Qi r) 38 [(0, .ref (sL S 3 0 0)), (1, .int (x1)), (2, .int (x2)), (3, .int (x3))] [] σ := by
  unfold F_X12_isLive_38 at h
  refine z_iinc (j := 3) (v := x3 + 1) (lv' := [(0, .ref (sL S 3 0 0)), (1, .int (x1)), (2, .int (x2)), (3, .int (x3 + 1))]) dX12_isLive_38 rfl rfl (by decide) [1, 2, 3, 0] rfl ?_
  refine z_goto (tgt := 11) dX12_isLive_41 (by decide) ?_
  exact hrc11 h
def B_X12_isLive_11 (rc11 : Int32 → Int32 → Int32 → Mm → Option (Int32 × Mm)) (x1 : Int32) (x2 : Int32) (x3 : Int32) (σ : Mm) : Option (Int32 × Mm) := (if x2 ≤ x3 then some (1, σ) else (if inb x3 300 = true then (if (mA σ 3 0 39 x3.toNatClampNeg) = (4 : Int32) then (if inb x3 300 = true then (if (mA σ 3 0 41 x3.toNatClampNeg) = x1 then some (0, σ) else (F_X12_isLive_38 rc11 x1 x2 x3 σ)) else none) else (F_X12_isLive_38 rc11 x1 x2 x3 σ)) else none))
set_option maxRecDepth 20000 in
theorem zB_X12_isLive_11 {S : Shp} {rc11 : Int32 → Int32 → Int32 → Mm → Option (Int32 × Mm)} (hrc11 : ∀ {x1 : Int32} {x2 : Int32} {x3 : Int32} {σ : Mm} {r : Int32 × Mm}, rc11 x1 x2 x3 σ = some r → Z m_X12_isLive S (Qi r) 11 [(0, .ref (sL S 3 0 0)), (1, .int (x1)), (2, .int (x2)), (3, .int (x3))] [] σ) {x1 : Int32} {x2 : Int32} {x3 : Int32} {σ : Mm} {r : Int32 × Mm} (h : B_X12_isLive_11 rc11 x1 x2 x3 σ = some r) : Z m_X12_isLive S (Qi r) 11 [(0, .ref (sL S 3 0 0)), (1, .int (x1)), (2, .int (x2)), (3, .int (x3))] [] σ := by
  unfold B_X12_isLive_11 at h
  refine z_iload_n dX12_isLive_11 rfl 3 rfl ?_
  refine z_iload_n dX12_isLive_12 rfl 2 rfl ?_
  refine z_icmp_ge (tgt := 44) dX12_isLive_13 (by decide) (fun q => ?_) (fun q => ?_)
  · have h := (if_pos q).symm.trans h
    refine z_iconst (v := 1) dX12_isLive_44 (by decide) ?_
    cases h
    exact z_ireturn dX12_isLive_45 rfl rfl ⟨rfl, rfl⟩
  · have h := (if_neg q).symm.trans h
    obtain ⟨g1, h⟩ := gd h
    refine z_aload_n dX12_isLive_16 rfl 0 rfl ?_
    refine gf_12_130 rfl dX12_isLive_17 ?_
    refine z_iload_n dX12_isLive_20 rfl 3 rfl ?_
    refine ia_3_39 (inb_in g1) dX12_isLive_21 ?_
    refine z_iconst (v := 4) dX12_isLive_22 (by decide) ?_
    refine z_icmp_ne (tgt := 38) dX12_isLive_23 (by decide) (fun q => ?_) (fun q => ?_)
    · have h := (if_neg q).symm.trans h
      exact zb_X12_isLive_38 hrc11 h
    · have h := (if_pos q).symm.trans h
      obtain ⟨g2, h⟩ := gd h
      refine z_aload_n dX12_isLive_26 rfl 0 rfl ?_
      refine gf_12_136 rfl dX12_isLive_27 ?_
      refine z_iload_n dX12_isLive_30 rfl 3 rfl ?_
      refine ia_3_41 (inb_in g2) dX12_isLive_31 ?_
      refine z_iload_n dX12_isLive_32 rfl 1 rfl ?_
      refine z_icmp_ne (tgt := 38) dX12_isLive_33 (by decide) (fun q => ?_) (fun q => ?_)
      · have h := (if_neg q).symm.trans h
        exact zb_X12_isLive_38 hrc11 h
      · have h := (if_pos q).symm.trans h
        refine z_iconst (v := 0) dX12_isLive_36 (by decide) ?_
        cases h
        exact z_ireturn dX12_isLive_37 rfl rfl ⟨rfl, rfl⟩
def F_X12_isLive_11 : Nat → Int32 → Int32 → Int32 → Mm → Option (Int32 × Mm)
  | 0 => fun _ _ _ _ => none
  | n + 1 => B_X12_isLive_11 (F_X12_isLive_11 n)
theorem zl_X12_isLive_11 {S : Shp} : ∀ (nn : Nat) {x1 : Int32} {x2 : Int32} {x3 : Int32} {σ : Mm} {r : Int32 × Mm}, F_X12_isLive_11 nn x1 x2 x3 σ = some r → Z m_X12_isLive S (Qi r) 11 [(0, .ref (sL S 3 0 0)), (1, .int (x1)), (2, .int (x2)), (3, .int (x3))] [] σ := by
  intro nn
  induction nn with
  | zero => intro x1 x2 x3 σ r h; cases h
  | succ nn ih => intro x1 x2 x3 σ r h; exact zB_X12_isLive_11 @ih h
def F_X12_isLive (x1 : Int32) (x2 : Int32) (σ : Mm) : Option (Int32 × Mm) := (if x1 < x2 then (F_X12_isLive_11 FU x1 x2 (x1 + (1 : Int32)) σ) else some (0, σ))
set_option maxRecDepth 20000 in
theorem zb_X12_isLive {S : Shp} {x1 : Int32} {x2 : Int32} {σ : Mm} {r : Int32 × Mm} (h : F_X12_isLive x1 x2 σ = some r) : Z m_X12_isLive S (Qi r) 0 [(0, .ref (sL S 3 0 0)), (1, .int (x1)), (2, .int (x2))] [] σ := by
  unfold F_X12_isLive at h
  refine z_iload_n dX12_isLive_0 rfl 1 rfl ?_
  refine z_iload_n dX12_isLive_1 rfl 2 rfl ?_
  refine z_icmp_lt (tgt := 7) dX12_isLive_2 (by decide) (fun q => ?_) (fun q => ?_)
  · have h := (if_pos q).symm.trans h
    refine z_iload_n dX12_isLive_7 rfl 1 rfl ?_
    refine z_iconst (v := 1) dX12_isLive_8 (by decide) ?_
    refine z_iadd dX12_isLive_9 ?_
    refine z_istore_n (lv' := [(0, .ref (sL S 3 0 0)), (1, .int (x1)), (2, .int (x2)), (3, .int (x1 + (1 : Int32)))]) dX12_isLive_10 rfl (by decide) [1, 2, 3, 0] rfl ?_
    exact zl_X12_isLive_11 FU h
  · have h := (if_neg q).symm.trans h
    refine z_iconst (v := 0) dX12_isLive_5 (by decide) ?_
    cases h
    exact z_ireturn dX12_isLive_6 rfl rfl ⟨rfl, rfl⟩
/-- SkyStonesModel.isLive(II)Z -/
theorem c_X12_isLive {S : Shp} {x1 : Int32} {x2 : Int32} {σ : Mm} {r : Int32 × Mm} (h : F_X12_isLive x1 x2 σ = some r) : Ct m_X12_isLive S [.ref (sL S 3 0 0), .int (x1), .int (x2)] σ (Qi r) := Ct.of (by decide +kernel) (Nat.le_of_ble_eq_true rfl) (zb_X12_isLive h)
def F_X12_lastOf_45 (rc5 : Int32 → Int32 → Int32 → Int32 → Mm → Option (Int32 × Mm)) (x1 : Int32) (x2 : Int32) (x3 : Int32) (x4 : Int32) (σ : Mm) : Option (Int32 × Mm) := (rc5 x1 x2 x3 (x4 + (-1)) σ)
set_option maxRecDepth 20000 in
theorem zb_X12_lastOf_45 {S : Shp} {rc5 : Int32 → Int32 → Int32 → Int32 → Mm → Option (Int32 × Mm)} (hrc5 : ∀ {x1 : Int32} {x2 : Int32} {x3 : Int32} {x4 : Int32} {σ : Mm} {r : Int32 × Mm}, rc5 x1 x2 x3 x4 σ = some r → Z m_X12_lastOf S (Qi r) 5 [(0, .ref (sL S 3 0 0)), (1, .int (x1)), (2, .int (x2)), (3, .int (x3)), (4, .int (x4))] [] σ) {x1 : Int32} {x2 : Int32} {x3 : Int32} {x4 : Int32} {σ : Mm} {r : Int32 × Mm} (h : F_X12_lastOf_45 rc5 x1 x2 x3 x4 σ = some r) : Z m_X12_lastOf S (Qi r) 45 [(0, .ref (sL S 3 0 0)), (1, .int (x1)), (2, .int (x2)), (3, .int (x3)), (4, .int (x4))] [] σ := by
  unfold F_X12_lastOf_45 at h
  refine z_iinc (j := 4) (v := x4 + (-1)) (lv' := [(0, .ref (sL S 3 0 0)), (1, .int (x1)), (2, .int (x2)), (3, .int (x3)), (4, .int (x4 + (-1)))]) dX12_lastOf_45 rfl rfl (by decide) [1, 2, 3, 4, 0] rfl ?_
  refine z_goto (tgt := 5) dX12_lastOf_48 (by decide) ?_
  exact hrc5 h
def F_X12_lastOf_39 (rc5 : Int32 → Int32 → Int32 → Int32 → Mm → Option (Int32 × Mm)) (x1 : Int32) (x2 : Int32) (x3 : Int32) (x4 : Int32) (s0 : Int32) (σ : Mm) : Option (Int32 × Mm) := (if s0 = 0 then (F_X12_lastOf_45 rc5 x1 x2 x3 x4 σ) else some (x4, σ))
set_option maxRecDepth 20000 in
theorem zb_X12_lastOf_39 {S : Shp} {rc5 : Int32 → Int32 → Int32 → Int32 → Mm → Option (Int32 × Mm)} (hrc5 : ∀ {x1 : Int32} {x2 : Int32} {x3 : Int32} {x4 : Int32} {σ : Mm} {r : Int32 × Mm}, rc5 x1 x2 x3 x4 σ = some r → Z m_X12_lastOf S (Qi r) 5 [(0, .ref (sL S 3 0 0)), (1, .int (x1)), (2, .int (x2)), (3, .int (x3)), (4, .int (x4))] [] σ) {x1 : Int32} {x2 : Int32} {x3 : Int32} {x4 : Int32} {s0 : Int32} {σ : Mm} {r : Int32 × Mm} (h : F_X12_lastOf_39 rc5 x1 x2 x3 x4 s0 σ = some r) : Z m_X12_lastOf S (Qi r) 39 [(0, .ref (sL S 3 0 0)), (1, .int (x1)), (2, .int (x2)), (3, .int (x3)), (4, .int (x4))] [.int (s0)] σ := by
  unfold F_X12_lastOf_39 at h
  refine z_if_eq (tgt := 45) dX12_lastOf_39 (by decide) (fun q => ?_) (fun q => ?_)
  · have h := (if_pos q).symm.trans h
    exact zb_X12_lastOf_45 hrc5 h
  · have h := (if_neg q).symm.trans h
    refine z_iload dX12_lastOf_42 4 rfl ?_
    cases h
    exact z_ireturn dX12_lastOf_44 rfl rfl ⟨rfl, rfl⟩
def B_X12_lastOf_5 (rc5 : Int32 → Int32 → Int32 → Int32 → Mm → Option (Int32 × Mm)) (x1 : Int32) (x2 : Int32) (x3 : Int32) (x4 : Int32) (σ : Mm) : Option (Int32 × Mm) := (if x4 < 0 then some ((-1), σ) else (if inb x4 300 = true then (if (mA σ 3 0 39 x4.toNatClampNeg) = x2 then (if inb x4 300 = true then (if (mA σ 3 0 40 x4.toNatClampNeg) = x1 then (bnd (F_X12_isLive x4 x3 σ) (fun v τ => (F_X12_lastOf_39 rc5 x1 x2 x3 x4 v τ))) else (F_X12_lastOf_45 rc5 x1 x2 x3 x4 σ)) else none) else (F_X12_lastOf_45 rc5 x1 x2 x3 x4 σ)) else none))
set_option maxRecDepth 20000 in
theorem zB_X12_lastOf_5 {S : Shp} {rc5 : Int32 → Int32 → Int32 → Int32 → Mm → Option (Int32 × Mm)} (hrc5 : ∀ {x1 : Int32} {x2 : Int32} {x3 : Int32} {x4 : Int32} {σ : Mm} {r : Int32 × Mm}, rc5 x1 x2 x3 x4 σ = some r → Z m_X12_lastOf S (Qi r) 5 [(0, .ref (sL S 3 0 0)), (1, .int (x1)), (2, .int (x2)), (3, .int (x3)), (4, .int (x4))] [] σ) {x1 : Int32} {x2 : Int32} {x3 : Int32} {x4 : Int32} {σ : Mm} {r : Int32 × Mm} (h : B_X12_lastOf_5 rc5 x1 x2 x3 x4 σ = some r) : Z m_X12_lastOf S (Qi r) 5 [(0, .ref (sL S 3 0 0)), (1, .int (x1)), (2, .int (x2)), (3, .int (x3)), (4, .int (x4))] [] σ := by
  unfold B_X12_lastOf_5 at h
  refine z_iload dX12_lastOf_5 4 rfl ?_
  refine z_if_lt (tgt := 51) dX12_lastOf_7 (by decide) (fun q => ?_) (fun q => ?_)
  · have h := (if_pos q).symm.trans h
    refine z_iconst (v := (-1)) dX12_lastOf_51 (by decide) ?_
    cases h
    exact z_ireturn dX12_lastOf_52 rfl rfl ⟨rfl, rfl⟩
  · have h := (if_neg q).symm.trans h
    obtain ⟨g1, h⟩ := gd h
    refine z_aload_n dX12_lastOf_10 rfl 0 rfl ?_
    refine gf_12_130 rfl dX12_lastOf_11 ?_
    refine z_iload dX12_lastOf_14 4 rfl ?_
    refine ia_3_39 (inb_in g1) dX12_lastOf_16 ?_
    refine z_iload_n dX12_lastOf_17 rfl 2 rfl ?_
    refine z_icmp_ne (tgt := 45) dX12_lastOf_18 (by decide) (fun q => ?_) (fun q => ?_)
    · have h := (if_neg q).symm.trans h
      exact zb_X12_lastOf_45 hrc5 h
    · have h := (if_pos q).symm.trans h
      obtain ⟨g2, h⟩ := gd h
      refine z_aload_n dX12_lastOf_21 rfl 0 rfl ?_
      refine gf_12_133 rfl dX12_lastOf_22 ?_
      refine z_iload dX12_lastOf_25 4 rfl ?_
      refine ia_3_40 (inb_in g2) dX12_lastOf_27 ?_
      refine z_iload_n dX12_lastOf_28 rfl 1 rfl ?_
      refine z_icmp_ne (tgt := 45) dX12_lastOf_29 (by decide) (fun q => ?_) (fun q => ?_)
      · have h := (if_neg q).symm.trans h
        exact zb_X12_lastOf_45 hrc5 h
      · have h := (if_pos q).symm.trans h
        refine z_aload_n dX12_lastOf_32 rfl 0 rfl ?_
        refine z_iload dX12_lastOf_33 4 rfl ?_
        refine z_iload_n dX12_lastOf_35 rfl 3 rfl ?_
        obtain ⟨v, τ, hc, h⟩ := bnd_e h
        refine z_callV (M' := m_X12_isLive) (t := 3) (i := 0) (k := 0) (As := [.int (x4), .int (x3)]) (rest := []) kl_12_418 oy_X12_isLive ⟨Nat.le_of_ble_eq_true rfl, Nat.le_of_ble_eq_true rfl⟩ rfl rfl rfl rfl (Nat.le_of_ble_eq_true rfl) rfl dX12_lastOf_36 (c_X12_isLive hc) (fun v2 τ2 hq => ?_)
        obtain ⟨rfl, hτ⟩ := hq
        subst τ2
        change Z _ _ _ _ _ [.int (v)] _
        exact zb_X12_lastOf_39 hrc5 h
def F_X12_lastOf_5 : Nat → Int32 → Int32 → Int32 → Int32 → Mm → Option (Int32 × Mm)
  | 0 => fun _ _ _ _ _ => none
  | n + 1 => B_X12_lastOf_5 (F_X12_lastOf_5 n)
theorem zl_X12_lastOf_5 {S : Shp} : ∀ (nn : Nat) {x1 : Int32} {x2 : Int32} {x3 : Int32} {x4 : Int32} {σ : Mm} {r : Int32 × Mm}, F_X12_lastOf_5 nn x1 x2 x3 x4 σ = some r → Z m_X12_lastOf S (Qi r) 5 [(0, .ref (sL S 3 0 0)), (1, .int (x1)), (2, .int (x2)), (3, .int (x3)), (4, .int (x4))] [] σ := by
  intro nn
  induction nn with
  | zero => intro x1 x2 x3 x4 σ r h; cases h
  | succ nn ih => intro x1 x2 x3 x4 σ r h; exact zB_X12_lastOf_5 @ih h
def F_X12_lastOf (x1 : Int32) (x2 : Int32) (x3 : Int32) (σ : Mm) : Option (Int32 × Mm) := (F_X12_lastOf_5 FU x1 x2 x3 (x3 - (1 : Int32)) σ)
set_option maxRecDepth 20000 in
theorem zb_X12_lastOf {S : Shp} {x1 : Int32} {x2 : Int32} {x3 : Int32} {σ : Mm} {r : Int32 × Mm} (h : F_X12_lastOf x1 x2 x3 σ = some r) : Z m_X12_lastOf S (Qi r) 0 [(0, .ref (sL S 3 0 0)), (1, .int (x1)), (2, .int (x2)), (3, .int (x3))] [] σ := by
  unfold F_X12_lastOf at h
  refine z_iload_n dX12_lastOf_0 rfl 3 rfl ?_
  refine z_iconst (v := 1) dX12_lastOf_1 (by decide) ?_
  refine z_isub dX12_lastOf_2 ?_
  refine z_istore (lv' := [(0, .ref (sL S 3 0 0)), (1, .int (x1)), (2, .int (x2)), (3, .int (x3)), (4, .int (x3 - (1 : Int32)))]) dX12_lastOf_3 (by decide) [1, 2, 3, 4, 0] rfl ?_
  exact zl_X12_lastOf_5 FU h
/-- SkyStonesModel.lastOf(III)I -/
theorem c_X12_lastOf {S : Shp} {x1 : Int32} {x2 : Int32} {x3 : Int32} {σ : Mm} {r : Int32 × Mm} (h : F_X12_lastOf x1 x2 x3 σ = some r) : Ct m_X12_lastOf S [.ref (sL S 3 0 0), .int (x1), .int (x2), .int (x3)] σ (Qi r) := Ct.of (by decide +kernel) (Nat.le_of_ble_eq_true rfl) (zb_X12_lastOf h)
def F_X12_layThings_150 (rc2 : Int32 → Int32 → Mm → Option (Mm)) (x1 : Int32) (x2 : Int32) (σ : Mm) : Option (Mm) := (rc2 x1 (x2 + 1) σ)
set_option maxRecDepth 20000 in
theorem zb_X12_layThings_150 {S : Shp} {rc2 : Int32 → Int32 → Mm → Option (Mm)} (hrc2 : ∀ {x1 : Int32} {x2 : Int32} {σ : Mm} {r : Mm}, rc2 x1 x2 σ = some r → Z m_X12_layThings S (Qv r) 2 [(0, .ref (sL S 3 0 0)), (1, .int (x1)), (2, .int (x2))] [] σ) {x1 : Int32} {x2 : Int32} {σ : Mm} {r : Mm} (h : F_X12_layThings_150 rc2 x1 x2 σ = some r) : Z m_X12_layThings S (Qv r) 150 [(0, .ref (sL S 3 0 0)), (1, .int (x1)), (2, .int (x2))] [] σ := by
  unfold F_X12_layThings_150 at h
  refine z_iinc (j := 2) (v := x2 + 1) (lv' := [(0, .ref (sL S 3 0 0)), (1, .int (x1)), (2, .int (x2 + 1))]) dX12_layThings_150 rfl rfl (by decide) [1, 2, 0] rfl ?_
  refine z_goto (tgt := 2) dX12_layThings_153 (by decide) ?_
  exact hrc2 h
def F_X12_layThings_149 (rc2 : Int32 → Int32 → Mm → Option (Mm)) (x1 : Int32) (x2 : Int32) (s0 : Int32) (s1 : Int32) (σ : Mm) : Option (Mm) := (if inb s1 14 = true then (F_X12_layThings_150 rc2 x1 x2 (setA σ 3 0 51 (upd (mA σ 3 0 51) s1.toNatClampNeg (vp_nar .boolean s0)))) else none)
set_option maxRecDepth 20000 in
theorem zb_X12_layThings_149 {S : Shp} {rc2 : Int32 → Int32 → Mm → Option (Mm)} (hrc2 : ∀ {x1 : Int32} {x2 : Int32} {σ : Mm} {r : Mm}, rc2 x1 x2 σ = some r → Z m_X12_layThings S (Qv r) 2 [(0, .ref (sL S 3 0 0)), (1, .int (x1)), (2, .int (x2))] [] σ) {x1 : Int32} {x2 : Int32} {s0 : Int32} {s1 : Int32} {σ : Mm} {r : Mm} (h : F_X12_layThings_149 rc2 x1 x2 s0 s1 σ = some r) : Z m_X12_layThings S (Qv r) 149 [(0, .ref (sL S 3 0 0)), (1, .int (x1)), (2, .int (x2))] [.int (s0), .int (s1), .ref (sL S 3 0 51)] σ := by
  unfold F_X12_layThings_149 at h
  obtain ⟨g13, h⟩ := gd h
  refine is_3_51 (inb_in g13) dX12_layThings_149 ?_
  exact zb_X12_layThings_150 hrc2 h
def F_X12_layThings_144 (rc2 : Int32 → Int32 → Mm → Option (Mm)) (x1 : Int32) (x2 : Int32) (s0 : Int32) (σ : Mm) : Option (Mm) := (F_X12_layThings_149 rc2 x1 x2 1 s0 σ)
set_option maxRecDepth 20000 in
theorem zb_X12_layThings_144 {S : Shp} {rc2 : Int32 → Int32 → Mm → Option (Mm)} (hrc2 : ∀ {x1 : Int32} {x2 : Int32} {σ : Mm} {r : Mm}, rc2 x1 x2 σ = some r → Z m_X12_layThings S (Qv r) 2 [(0, .ref (sL S 3 0 0)), (1, .int (x1)), (2, .int (x2))] [] σ) {x1 : Int32} {x2 : Int32} {s0 : Int32} {σ : Mm} {r : Mm} (h : F_X12_layThings_144 rc2 x1 x2 s0 σ = some r) : Z m_X12_layThings S (Qv r) 144 [(0, .ref (sL S 3 0 0)), (1, .int (x1)), (2, .int (x2))] [.int (s0), .ref (sL S 3 0 51)] σ := by
  unfold F_X12_layThings_144 at h
  refine z_iconst (v := 1) dX12_layThings_144 (by decide) ?_
  refine z_goto (tgt := 149) dX12_layThings_145 (by decide) ?_
  exact zb_X12_layThings_149 hrc2 h
def F_X12_layThings_148 (rc2 : Int32 → Int32 → Mm → Option (Mm)) (x1 : Int32) (x2 : Int32) (s0 : Int32) (σ : Mm) : Option (Mm) := (F_X12_layThings_149 rc2 x1 x2 0 s0 σ)
set_option maxRecDepth 20000 in
theorem zb_X12_layThings_148 {S : Shp} {rc2 : Int32 → Int32 → Mm → Option (Mm)} (hrc2 : ∀ {x1 : Int32} {x2 : Int32} {σ : Mm} {r : Mm}, rc2 x1 x2 σ = some r → Z m_X12_layThings S (Qv r) 2 [(0, .ref (sL S 3 0 0)), (1, .int (x1)), (2, .int (x2))] [] σ) {x1 : Int32} {x2 : Int32} {s0 : Int32} {σ : Mm} {r : Mm} (h : F_X12_layThings_148 rc2 x1 x2 s0 σ = some r) : Z m_X12_layThings S (Qv r) 148 [(0, .ref (sL S 3 0 0)), (1, .int (x1)), (2, .int (x2))] [.int (s0), .ref (sL S 3 0 51)] σ := by
  unfold F_X12_layThings_148 at h
  refine z_iconst (v := 0) dX12_layThings_148 (by decide) ?_
  exact zb_X12_layThings_149 hrc2 h
def F_X12_layThings_141 (rc2 : Int32 → Int32 → Mm → Option (Mm)) (x1 : Int32) (x2 : Int32) (s0 : Int32) (s1 : Int32) (σ : Mm) : Option (Mm) := (if s0 = 0 then (F_X12_layThings_144 rc2 x1 x2 s1 σ) else (F_X12_layThings_148 rc2 x1 x2 s1 σ))
set_option maxRecDepth 20000 in
theorem zb_X12_layThings_141 {S : Shp} {rc2 : Int32 → Int32 → Mm → Option (Mm)} (hrc2 : ∀ {x1 : Int32} {x2 : Int32} {σ : Mm} {r : Mm}, rc2 x1 x2 σ = some r → Z m_X12_layThings S (Qv r) 2 [(0, .ref (sL S 3 0 0)), (1, .int (x1)), (2, .int (x2))] [] σ) {x1 : Int32} {x2 : Int32} {s0 : Int32} {s1 : Int32} {σ : Mm} {r : Mm} (h : F_X12_layThings_141 rc2 x1 x2 s0 s1 σ = some r) : Z m_X12_layThings S (Qv r) 141 [(0, .ref (sL S 3 0 0)), (1, .int (x1)), (2, .int (x2))] [.int (s0), .int (s1), .ref (sL S 3 0 51)] σ := by
  unfold F_X12_layThings_141 at h
  refine z_if_ne (tgt := 148) dX12_layThings_141 (by decide) (fun q => ?_) (fun q => ?_)
  · have h := (if_neg q).symm.trans h
    exact zb_X12_layThings_148 hrc2 h
  · have h := (if_pos q).symm.trans h
    exact zb_X12_layThings_144 hrc2 h
def F_X12_layThings_118 (rc2 : Int32 → Int32 → Mm → Option (Mm)) (x1 : Int32) (x2 : Int32) (s0 : Int32) (s1 : Int32) (σ : Mm) : Option (Mm) := (if 0 ≤ s0 then (F_X12_layThings_144 rc2 x1 x2 s1 σ) else (if inb x2 70 = true then (if (mA σ 3 0 13 x2.toNatClampNeg) < 0 then (F_X12_layThings_148 rc2 x1 x2 s1 σ) else (if inb x2 70 = true then (bnd (F_X12_isLive (mA σ 3 0 13 x2.toNatClampNeg) x1 σ) (fun v τ => (F_X12_layThings_141 rc2 x1 x2 v s1 τ))) else none)) else none))
set_option maxRecDepth 20000 in
theorem zb_X12_layThings_118 {S : Shp} {rc2 : Int32 → Int32 → Mm → Option (Mm)} (hrc2 : ∀ {x1 : Int32} {x2 : Int32} {σ : Mm} {r : Mm}, rc2 x1 x2 σ = some r → Z m_X12_layThings S (Qv r) 2 [(0, .ref (sL S 3 0 0)), (1, .int (x1)), (2, .int (x2))] [] σ) {x1 : Int32} {x2 : Int32} {s0 : Int32} {s1 : Int32} {σ : Mm} {r : Mm} (h : F_X12_layThings_118 rc2 x1 x2 s0 s1 σ = some r) : Z m_X12_layThings S (Qv r) 118 [(0, .ref (sL S 3 0 0)), (1, .int (x1)), (2, .int (x2))] [.int (s0), .int (s1), .ref (sL S 3 0 51)] σ := by
  unfold F_X12_layThings_118 at h
  refine z_if_ge (tgt := 144) dX12_layThings_118 (by decide) (fun q => ?_) (fun q => ?_)
  · have h := (if_pos q).symm.trans h
    exact zb_X12_layThings_144 hrc2 h
  · have h := (if_neg q).symm.trans h
    obtain ⟨g11, h⟩ := gd h
    refine z_aload_n dX12_layThings_121 rfl 0 rfl ?_
    refine gf_12_52 rfl dX12_layThings_122 ?_
    refine z_iload_n dX12_layThings_125 rfl 2 rfl ?_
    refine ia_3_13 (inb_in g11) dX12_layThings_126 ?_
    refine z_if_lt (tgt := 148) dX12_layThings_127 (by decide) (fun q => ?_) (fun q => ?_)
    · have h := (if_pos q).symm.trans h
      exact zb_X12_layThings_148 hrc2 h
    · have h := (if_neg q).symm.trans h
      obtain ⟨g12, h⟩ := gd h
      refine z_aload_n dX12_layThings_130 rfl 0 rfl ?_
      refine z_aload_n dX12_layThings_131 rfl 0 rfl ?_
      refine gf_12_52 rfl dX12_layThings_132 ?_
      refine z_iload_n dX12_layThings_135 rfl 2 rfl ?_
      refine ia_3_13 (inb_in g12) dX12_layThings_136 ?_
      refine z_iload_n dX12_layThings_137 rfl 1 rfl ?_
      obtain ⟨v, τ, hc, h⟩ := bnd_e h
      refine z_callV (M' := m_X12_isLive) (t := 3) (i := 0) (k := 0) (As := [.int (mA σ 3 0 13 x2.toNatClampNeg), .int (x1)]) (rest := [.int (s1), .ref (sL S 3 0 51)]) kl_12_418 oy_X12_isLive ⟨Nat.le_of_ble_eq_true rfl, Nat.le_of_ble_eq_true rfl⟩ rfl rfl rfl rfl (Nat.le_of_ble_eq_true rfl) rfl dX12_layThings_138 (c_X12_isLive hc) (fun v2 τ2 hq => ?_)
      obtain ⟨rfl, hτ⟩ := hq
      subst τ2
      change Z _ _ _ _ _ [.int (v), .int (s1), .ref (sL S 3 0 51)] _
      exact zb_X12_layThings_141 hrc2 h
def F_X12_layThings_106 (rc2 : Int32 → Int32 → Mm → Option (Mm)) (x1 : Int32) (x2 : Int32) (σ : Mm) : Option (Mm) := (bnd (F_X12_lastOf x2 2 x1 σ) (fun v τ => (F_X12_layThings_118 rc2 x1 x2 v x2 τ)))
set_option maxRecDepth 20000 in
theorem zb_X12_layThings_106 {S : Shp} {rc2 : Int32 → Int32 → Mm → Option (Mm)} (hrc2 : ∀ {x1 : Int32} {x2 : Int32} {σ : Mm} {r : Mm}, rc2 x1 x2 σ = some r → Z m_X12_layThings S (Qv r) 2 [(0, .ref (sL S 3 0 0)), (1, .int (x1)), (2, .int (x2))] [] σ) {x1 : Int32} {x2 : Int32} {σ : Mm} {r : Mm} (h : F_X12_layThings_106 rc2 x1 x2 σ = some r) : Z m_X12_layThings S (Qv r) 106 [(0, .ref (sL S 3 0 0)), (1, .int (x1)), (2, .int (x2))] [] σ := by
  unfold F_X12_layThings_106 at h
  refine z_aload_n dX12_layThings_106 rfl 0 rfl ?_
  refine gf_12_166 rfl dX12_layThings_107 ?_
  refine z_iload_n dX12_layThings_110 rfl 2 rfl ?_
  refine z_aload_n dX12_layThings_111 rfl 0 rfl ?_
  refine z_iload_n dX12_layThings_112 rfl 2 rfl ?_
  refine z_iconst (v := 2) dX12_layThings_113 (by decide) ?_
  refine z_iload_n dX12_layThings_114 rfl 1 rfl ?_
  obtain ⟨v, τ, hc, h⟩ := bnd_e h
  refine z_callV (M' := m_X12_lastOf) (t := 3) (i := 0) (k := 0) (As := [.int (x2), .int (2), .int (x1)]) (rest := [.int (x2), .ref (sL S 3 0 51)]) kl_12_421 oy_X12_lastOf ⟨Nat.le_of_ble_eq_true rfl, Nat.le_of_ble_eq_true rfl⟩ rfl rfl rfl rfl (Nat.le_of_ble_eq_true rfl) rfl dX12_layThings_115 (c_X12_lastOf hc) (fun v2 τ2 hq => ?_)
  obtain ⟨rfl, hτ⟩ := hq
  subst τ2
  change Z _ _ _ _ _ [.int (v), .int (x2), .ref (sL S 3 0 51)] _
  exact zb_X12_layThings_118 hrc2 h
def F_X12_layThings_105 (rc2 : Int32 → Int32 → Mm → Option (Mm)) (x1 : Int32) (x2 : Int32) (s0 : Int32) (s1 : Int32) (σ : Mm) : Option (Mm) := (if inb s1 14 = true then (F_X12_layThings_106 rc2 x1 x2 (setA σ 3 0 50 (upd (mA σ 3 0 50) s1.toNatClampNeg s0))) else none)
set_option maxRecDepth 20000 in
theorem zb_X12_layThings_105 {S : Shp} {rc2 : Int32 → Int32 → Mm → Option (Mm)} (hrc2 : ∀ {x1 : Int32} {x2 : Int32} {σ : Mm} {r : Mm}, rc2 x1 x2 σ = some r → Z m_X12_layThings S (Qv r) 2 [(0, .ref (sL S 3 0 0)), (1, .int (x1)), (2, .int (x2))] [] σ) {x1 : Int32} {x2 : Int32} {s0 : Int32} {s1 : Int32} {σ : Mm} {r : Mm} (h : F_X12_layThings_105 rc2 x1 x2 s0 s1 σ = some r) : Z m_X12_layThings S (Qv r) 105 [(0, .ref (sL S 3 0 0)), (1, .int (x1)), (2, .int (x2))] [.int (s0), .int (s1), .ref (sL S 3 0 50)] σ := by
  unfold F_X12_layThings_105 at h
  obtain ⟨g10, h⟩ := gd h
  refine is_3_50 (inb_in g10) dX12_layThings_105 ?_
  exact zb_X12_layThings_106 hrc2 h
def F_X12_layThings_77 (rc2 : Int32 → Int32 → Mm → Option (Mm)) (x1 : Int32) (x2 : Int32) (s0 : Int32) (σ : Mm) : Option (Mm) := (if 0 ≤ s0 then (if inb s0 300 = true then (F_X12_layThings_105 rc2 x1 x2 (mA σ 3 0 41 s0.toNatClampNeg) x2 σ) else none) else (if inb x2 70 = true then (F_X12_layThings_105 rc2 x1 x2 (mA σ 3 0 12 x2.toNatClampNeg) x2 σ) else none))
set_option maxRecDepth 20000 in
theorem zb_X12_layThings_77 {S : Shp} {rc2 : Int32 → Int32 → Mm → Option (Mm)} (hrc2 : ∀ {x1 : Int32} {x2 : Int32} {σ : Mm} {r : Mm}, rc2 x1 x2 σ = some r → Z m_X12_layThings S (Qv r) 2 [(0, .ref (sL S 3 0 0)), (1, .int (x1)), (2, .int (x2))] [] σ) {x1 : Int32} {x2 : Int32} {s0 : Int32} {σ : Mm} {r : Mm} (h : F_X12_layThings_77 rc2 x1 x2 s0 σ = some r) : Z m_X12_layThings S (Qv r) 77 [(0, .ref (sL S 3 0 0)), (1, .int (x1)), (2, .int (x2))] [.int (s0)] σ := by
  unfold F_X12_layThings_77 at h
  refine z_istore (lv' := [(0, .ref (sL S 3 0 0)), (1, .int (x1)), (2, .int (x2)), (4, .int (s0))]) dX12_layThings_77 (by decide) [1, 2, 3, 0] rfl ?_
  refine z_aload_n dX12_layThings_79 rfl 0 rfl ?_
  refine gf_12_163 rfl dX12_layThings_80 ?_
  refine z_iload_n dX12_layThings_83 rfl 2 rfl ?_
  refine z_iload dX12_layThings_84 3 rfl ?_
  refine z_if_ge (tgt := 98) dX12_layThings_86 (by decide) (fun q => ?_) (fun q => ?_)
  · have h := (if_pos q).symm.trans h
    obtain ⟨g8, h⟩ := gd h
    refine z_aload_n dX12_layThings_98 rfl 0 rfl ?_
    refine gf_12_136 rfl dX12_layThings_99 ?_
    refine z_iload dX12_layThings_102 3 rfl ?_
    refine ia_3_41 (inb_in g8) dX12_layThings_104 ?_
    refine Z.lv [0, 1, 2] rfl ?_
    exact zb_X12_layThings_105 hrc2 h
  · have h := (if_neg q).symm.trans h
    obtain ⟨g9, h⟩ := gd h
    refine z_aload_n dX12_layThings_89 rfl 0 rfl ?_
    refine gf_12_49 rfl dX12_layThings_90 ?_
    refine z_iload_n dX12_layThings_93 rfl 2 rfl ?_
    refine ia_3_12 (inb_in g9) dX12_layThings_94 ?_
    refine z_goto (tgt := 105) dX12_layThings_95 (by decide) ?_
    refine Z.lv [0, 1, 2] rfl ?_
    exact zb_X12_layThings_105 hrc2 h
def F_X12_layThings_70 (rc2 : Int32 → Int32 → Mm → Option (Mm)) (x1 : Int32) (x2 : Int32) (σ : Mm) : Option (Mm) := (bnd (F_X12_lastOf x2 3 x1 σ) (fun v τ => (F_X12_layThings_77 rc2 x1 x2 v τ)))
set_option maxRecDepth 20000 in
theorem zb_X12_layThings_70 {S : Shp} {rc2 : Int32 → Int32 → Mm → Option (Mm)} (hrc2 : ∀ {x1 : Int32} {x2 : Int32} {σ : Mm} {r : Mm}, rc2 x1 x2 σ = some r → Z m_X12_layThings S (Qv r) 2 [(0, .ref (sL S 3 0 0)), (1, .int (x1)), (2, .int (x2))] [] σ) {x1 : Int32} {x2 : Int32} {σ : Mm} {r : Mm} (h : F_X12_layThings_70 rc2 x1 x2 σ = some r) : Z m_X12_layThings S (Qv r) 70 [(0, .ref (sL S 3 0 0)), (1, .int (x1)), (2, .int (x2))] [] σ := by
  unfold F_X12_layThings_70 at h
  refine z_aload_n dX12_layThings_70 rfl 0 rfl ?_
  refine z_iload_n dX12_layThings_71 rfl 2 rfl ?_
  refine z_iconst (v := 3) dX12_layThings_72 (by decide) ?_
  refine z_iload_n dX12_layThings_73 rfl 1 rfl ?_
  obtain ⟨v, τ, hc, h⟩ := bnd_e h
  refine z_callV (M' := m_X12_lastOf) (t := 3) (i := 0) (k := 0) (As := [.int (x2), .int (3), .int (x1)]) (rest := []) kl_12_421 oy_X12_lastOf ⟨Nat.le_of_ble_eq_true rfl, Nat.le_of_ble_eq_true rfl⟩ rfl rfl rfl rfl (Nat.le_of_ble_eq_true rfl) rfl dX12_layThings_74 (c_X12_lastOf hc) (fun v2 τ2 hq => ?_)
  obtain ⟨rfl, hτ⟩ := hq
  subst τ2
  change Z _ _ _ _ _ [.int (v)] _
  exact zb_X12_layThings_77 hrc2 h
def F_X12_layThings_69 (rc2 : Int32 → Int32 → Mm → Option (Mm)) (x1 : Int32) (x2 : Int32) (s0 : Int32) (s1 : Int32) (σ : Mm) : Option (Mm) := (if inb s1 14 = true then (F_X12_layThings_70 rc2 x1 x2 (setA σ 3 0 49 (upd (mA σ 3 0 49) s1.toNatClampNeg s0))) else none)
set_option maxRecDepth 20000 in
theorem zb_X12_layThings_69 {S : Shp} {rc2 : Int32 → Int32 → Mm → Option (Mm)} (hrc2 : ∀ {x1 : Int32} {x2 : Int32} {σ : Mm} {r : Mm}, rc2 x1 x2 σ = some r → Z m_X12_layThings S (Qv r) 2 [(0, .ref (sL S 3 0 0)), (1, .int (x1)), (2, .int (x2))] [] σ) {x1 : Int32} {x2 : Int32} {s0 : Int32} {s1 : Int32} {σ : Mm} {r : Mm} (h : F_X12_layThings_69 rc2 x1 x2 s0 s1 σ = some r) : Z m_X12_layThings S (Qv r) 69 [(0, .ref (sL S 3 0 0)), (1, .int (x1)), (2, .int (x2))] [.int (s0), .int (s1), .ref (sL S 3 0 49)] σ := by
  unfold F_X12_layThings_69 at h
  obtain ⟨g7, h⟩ := gd h
  refine is_3_49 (inb_in g7) dX12_layThings_69 ?_
  exact zb_X12_layThings_70 hrc2 h
def F_X12_layThings_45 (rc2 : Int32 → Int32 → Mm → Option (Mm)) (x1 : Int32) (x2 : Int32) (x3 : Int32) (σ : Mm) : Option (Mm) := (if 0 ≤ x3 then (if inb x3 300 = true then (F_X12_layThings_69 rc2 x1 x2 (mA σ 3 0 42 x3.toNatClampNeg) x2 σ) else none) else (if inb x2 70 = true then (F_X12_layThings_69 rc2 x1 x2 (mA σ 3 0 11 x2.toNatClampNeg) x2 σ) else none))
set_option maxRecDepth 20000 in
theorem zb_X12_layThings_45 {S : Shp} {rc2 : Int32 → Int32 → Mm → Option (Mm)} (hrc2 : ∀ {x1 : Int32} {x2 : Int32} {σ : Mm} {r : Mm}, rc2 x1 x2 σ = some r → Z m_X12_layThings S (Qv r) 2 [(0, .ref (sL S 3 0 0)), (1, .int (x1)), (2, .int (x2))] [] σ) {x1 : Int32} {x2 : Int32} {x3 : Int32} {σ : Mm} {r : Mm} (h : F_X12_layThings_45 rc2 x1 x2 x3 σ = some r) : Z m_X12_layThings S (Qv r) 45 [(0, .ref (sL S 3 0 0)), (1, .int (x1)), (2, .int (x2)), (3, .int (x3))] [] σ := by
  unfold F_X12_layThings_45 at h
  refine z_aload_n dX12_layThings_45 rfl 0 rfl ?_
  refine gf_12_160 rfl dX12_layThings_46 ?_
  refine z_iload_n dX12_layThings_49 rfl 2 rfl ?_
  refine z_iload_n dX12_layThings_50 rfl 3 rfl ?_
  refine z_if_ge (tgt := 63) dX12_layThings_51 (by decide) (fun q => ?_) (fun q => ?_)
  · have h := (if_pos q).symm.trans h
    obtain ⟨g5, h⟩ := gd h
    refine z_aload_n dX12_layThings_63 rfl 0 rfl ?_
    refine gf_12_139 rfl dX12_layThings_64 ?_
    refine z_iload_n dX12_layThings_67 rfl 3 rfl ?_
    refine ia_3_42 (inb_in g5) dX12_layThings_68 ?_
    refine Z.lv [0, 1, 2] rfl ?_
    exact zb_X12_layThings_69 hrc2 h
  · have h := (if_neg q).symm.trans h
    obtain ⟨g6, h⟩ := gd h
    refine z_aload_n dX12_layThings_54 rfl 0 rfl ?_
    refine gf_12_46 rfl dX12_layThings_55 ?_
    refine z_iload_n dX12_layThings_58 rfl 2 rfl ?_
    refine ia_3_11 (inb_in g6) dX12_layThings_59 ?_
    refine z_goto (tgt := 69) dX12_layThings_60 (by decide) ?_
    refine Z.lv [0, 1, 2] rfl ?_
    exact zb_X12_layThings_69 hrc2 h
def F_X12_layThings_44 (rc2 : Int32 → Int32 → Mm → Option (Mm)) (x1 : Int32) (x2 : Int32) (x3 : Int32) (s0 : Int32) (s1 : Int32) (σ : Mm) : Option (Mm) := (if inb s1 14 = true then (F_X12_layThings_45 rc2 x1 x2 x3 (setA σ 3 0 48 (upd (mA σ 3 0 48) s1.toNatClampNeg s0))) else none)
set_option maxRecDepth 20000 in
theorem zb_X12_layThings_44 {S : Shp} {rc2 : Int32 → Int32 → Mm → Option (Mm)} (hrc2 : ∀ {x1 : Int32} {x2 : Int32} {σ : Mm} {r : Mm}, rc2 x1 x2 σ = some r → Z m_X12_layThings S (Qv r) 2 [(0, .ref (sL S 3 0 0)), (1, .int (x1)), (2, .int (x2))] [] σ) {x1 : Int32} {x2 : Int32} {x3 : Int32} {s0 : Int32} {s1 : Int32} {σ : Mm} {r : Mm} (h : F_X12_layThings_44 rc2 x1 x2 x3 s0 s1 σ = some r) : Z m_X12_layThings S (Qv r) 44 [(0, .ref (sL S 3 0 0)), (1, .int (x1)), (2, .int (x2)), (3, .int (x3))] [.int (s0), .int (s1), .ref (sL S 3 0 48)] σ := by
  unfold F_X12_layThings_44 at h
  obtain ⟨g4, h⟩ := gd h
  refine is_3_48 (inb_in g4) dX12_layThings_44 ?_
  exact zb_X12_layThings_45 hrc2 h
def F_X12_layThings_19 (rc2 : Int32 → Int32 → Mm → Option (Mm)) (x1 : Int32) (x2 : Int32) (s0 : Int32) (σ : Mm) : Option (Mm) := (if 0 ≤ s0 then (if inb s0 300 = true then (F_X12_layThings_44 rc2 x1 x2 s0 (mA σ 3 0 41 s0.toNatClampNeg) x2 σ) else none) else (if inb x2 70 = true then (F_X12_layThings_44 rc2 x1 x2 s0 (mA σ 3 0 10 x2.toNatClampNeg) x2 σ) else none))
set_option maxRecDepth 20000 in
theorem zb_X12_layThings_19 {S : Shp} {rc2 : Int32 → Int32 → Mm → Option (Mm)} (hrc2 : ∀ {x1 : Int32} {x2 : Int32} {σ : Mm} {r : Mm}, rc2 x1 x2 σ = some r → Z m_X12_layThings S (Qv r) 2 [(0, .ref (sL S 3 0 0)), (1, .int (x1)), (2, .int (x2))] [] σ) {x1 : Int32} {x2 : Int32} {s0 : Int32} {σ : Mm} {r : Mm} (h : F_X12_layThings_19 rc2 x1 x2 s0 σ = some r) : Z m_X12_layThings S (Qv r) 19 [(0, .ref (sL S 3 0 0)), (1, .int (x1)), (2, .int (x2))] [.int (s0)] σ := by
  unfold F_X12_layThings_19 at h
  refine z_istore_n (lv' := [(0, .ref (sL S 3 0 0)), (1, .int (x1)), (2, .int (x2)), (3, .int (s0))]) dX12_layThings_19 rfl (by decide) [1, 2, 3, 0] rfl ?_
  refine z_aload_n dX12_layThings_20 rfl 0 rfl ?_
  refine gf_12_157 rfl dX12_layThings_21 ?_
  refine z_iload_n dX12_layThings_24 rfl 2 rfl ?_
  refine z_iload_n dX12_layThings_25 rfl 3 rfl ?_
  refine z_if_ge (tgt := 38) dX12_layThings_26 (by decide) (fun q => ?_) (fun q => ?_)
  · have h := (if_pos q).symm.trans h
    obtain ⟨g2, h⟩ := gd h
    refine z_aload_n dX12_layThings_38 rfl 0 rfl ?_
    refine gf_12_136 rfl dX12_layThings_39 ?_
    refine z_iload_n dX12_layThings_42 rfl 3 rfl ?_
    refine ia_3_41 (inb_in g2) dX12_layThings_43 ?_
    exact zb_X12_layThings_44 hrc2 h
  · have h := (if_neg q).symm.trans h
    obtain ⟨g3, h⟩ := gd h
    refine z_aload_n dX12_layThings_29 rfl 0 rfl ?_
    refine gf_12_43 rfl dX12_layThings_30 ?_
    refine z_iload_n dX12_layThings_33 rfl 2 rfl ?_
    refine ia_3_10 (inb_in g3) dX12_layThings_34 ?_
    refine z_goto (tgt := 44) dX12_layThings_35 (by decide) ?_
    exact zb_X12_layThings_44 hrc2 h
def B_X12_layThings_2 (rc2 : Int32 → Int32 → Mm → Option (Mm)) (x1 : Int32) (x2 : Int32) (σ : Mm) : Option (Mm) := (if inb 0 5 = true then (if (mA σ 3 0 8 (0 : Int32).toNatClampNeg) ≤ x2 then some (σ) else (bnd (F_X12_lastOf x2 1 x1 σ) (fun v τ => (F_X12_layThings_19 rc2 x1 x2 v τ)))) else none)
set_option maxRecDepth 20000 in
theorem zB_X12_layThings_2 {S : Shp} {rc2 : Int32 → Int32 → Mm → Option (Mm)} (hrc2 : ∀ {x1 : Int32} {x2 : Int32} {σ : Mm} {r : Mm}, rc2 x1 x2 σ = some r → Z m_X12_layThings S (Qv r) 2 [(0, .ref (sL S 3 0 0)), (1, .int (x1)), (2, .int (x2))] [] σ) {x1 : Int32} {x2 : Int32} {σ : Mm} {r : Mm} (h : B_X12_layThings_2 rc2 x1 x2 σ = some r) : Z m_X12_layThings S (Qv r) 2 [(0, .ref (sL S 3 0 0)), (1, .int (x1)), (2, .int (x2))] [] σ := by
  unfold B_X12_layThings_2 at h
  obtain ⟨g1, h⟩ := gd h
  refine z_iload_n dX12_layThings_2 rfl 2 rfl ?_
  refine z_aload_n dX12_layThings_3 rfl 0 rfl ?_
  refine gf_12_37 rfl dX12_layThings_4 ?_
  refine z_iconst (v := 0) dX12_layThings_7 (by decide) ?_
  refine ia_3_8 (inb_in g1) dX12_layThings_8 ?_
  refine z_icmp_ge (tgt := 156) dX12_layThings_9 (by decide) (fun q => ?_) (fun q => ?_)
  · have h := (if_pos q).symm.trans h
    cases h
    exact z_return dX12_layThings_156 rfl ⟨rfl, rfl⟩
  · have h := (if_neg q).symm.trans h
    refine z_aload_n dX12_layThings_12 rfl 0 rfl ?_
    refine z_iload_n dX12_layThings_13 rfl 2 rfl ?_
    refine z_iconst (v := 1) dX12_layThings_14 (by decide) ?_
    refine z_iload_n dX12_layThings_15 rfl 1 rfl ?_
    obtain ⟨v, τ, hc, h⟩ := bnd_e h
    refine z_callV (M' := m_X12_lastOf) (t := 3) (i := 0) (k := 0) (As := [.int (x2), .int (1), .int (x1)]) (rest := []) kl_12_421 oy_X12_lastOf ⟨Nat.le_of_ble_eq_true rfl, Nat.le_of_ble_eq_true rfl⟩ rfl rfl rfl rfl (Nat.le_of_ble_eq_true rfl) rfl dX12_layThings_16 (c_X12_lastOf hc) (fun v2 τ2 hq => ?_)
    obtain ⟨rfl, hτ⟩ := hq
    subst τ2
    change Z _ _ _ _ _ [.int (v)] _
    exact zb_X12_layThings_19 hrc2 h
def F_X12_layThings_2 : Nat → Int32 → Int32 → Mm → Option (Mm)
  | 0 => fun _ _ _ => none
  | n + 1 => B_X12_layThings_2 (F_X12_layThings_2 n)
theorem zl_X12_layThings_2 {S : Shp} : ∀ (nn : Nat) {x1 : Int32} {x2 : Int32} {σ : Mm} {r : Mm}, F_X12_layThings_2 nn x1 x2 σ = some r → Z m_X12_layThings S (Qv r) 2 [(0, .ref (sL S 3 0 0)), (1, .int (x1)), (2, .int (x2))] [] σ := by
  intro nn
  induction nn with
  | zero => intro x1 x2 σ r h; cases h
  | succ nn ih => intro x1 x2 σ r h; exact zB_X12_layThings_2 @ih h
def F_X12_layThings (x1 : Int32) (σ : Mm) : Option (Mm) := (F_X12_layThings_2 FU x1 0 σ)
set_option maxRecDepth 20000 in
theorem zb_X12_layThings {S : Shp} {x1 : Int32} {σ : Mm} {r : Mm} (h : F_X12_layThings x1 σ = some r) : Z m_X12_layThings S (Qv r) 0 [(0, .ref (sL S 3 0 0)), (1, .int (x1))] [] σ := by
  unfold F_X12_layThings at h
  refine z_iconst (v := 0) dX12_layThings_0 (by decide) ?_
  refine z_istore_n (lv' := [(0, .ref (sL S 3 0 0)), (1, .int (x1)), (2, .int (0))]) dX12_layThings_1 rfl (by decide) [1, 2, 0] rfl ?_
  exact zl_X12_layThings_2 FU h
/-- SkyStonesModel.layThings(I)V -/
theorem c_X12_layThings {S : Shp} {x1 : Int32} {σ : Mm} {r : Mm} (h : F_X12_layThings x1 σ = some r) : Ct m_X12_layThings S [.ref (sL S 3 0 0), .int (x1)] σ (Qv r) := Ct.of (by decide +kernel) (Nat.le_of_ble_eq_true rfl) (zb_X12_layThings h)
def F_X12_isDoor_34 (rc2 : Int32 → Int32 → Int32 → Mm → Option (Int32 × Mm)) (x1 : Int32) (x2 : Int32) (x3 : Int32) (σ : Mm) : Option (Int32 × Mm) := (rc2 x1 x2 (x3 + 1) σ)
set_option maxRecDepth 20000 in
theorem zb_X12_isDoor_34 {S : Shp} {rc2 : Int32 → Int32 → Int32 → Mm → Option (Int32 × Mm)} (hrc2 : ∀ {x1 : Int32} {x2 : Int32} {x3 : Int32} {σ : Mm} {r : Int32 × Mm}, rc2 x1 x2 x3 σ = some r → Z m_X12_isDoor S (Qi r) 2 [(0, .ref (sL S 3 0 0)), (1, .int (x1)), (2, .int (x2)), (3, .int (x3))] [] σ) {x1 : Int32} {x2 : Int32} {x3 : Int32} {σ : Mm} {r : Int32 × Mm} (h : F_X12_isDoor_34 rc2 x1 x2 x3 σ = some r) : Z m_X12_isDoor S (Qi r) 34 [(0, .ref (sL S 3 0 0)), (1, .int (x1)), (2, .int (x2)), (3, .int (x3))] [] σ := by
  unfold F_X12_isDoor_34 at h
  refine z_iinc (j := 3) (v := x3 + 1) (lv' := [(0, .ref (sL S 3 0 0)), (1, .int (x1)), (2, .int (x2)), (3, .int (x3 + 1))]) dX12_isDoor_34 rfl rfl (by decide) [1, 2, 3, 0] rfl ?_
  refine z_goto (tgt := 2) dX12_isDoor_37 (by decide) ?_
  exact hrc2 h
def B_X12_isDoor_2 (rc2 : Int32 → Int32 → Int32 → Mm → Option (Int32 × Mm)) (x1 : Int32) (x2 : Int32) (x3 : Int32) (σ : Mm) : Option (Int32 × Mm) := (if inb 0 5 = true then (if (mA σ 3 0 14 (0 : Int32).toNatClampNeg) ≤ x3 then some (0, σ) else (if inb x3 40 = true then (if (mA σ 3 0 15 x3.toNatClampNeg) = x1 then (if inb x3 40 = true then (if (mA σ 3 0 16 x3.toNatClampNeg) = x2 then some (1, σ) else (F_X12_isDoor_34 rc2 x1 x2 x3 σ)) else none) else (F_X12_isDoor_34 rc2 x1 x2 x3 σ)) else none)) else none)
set_option maxRecDepth 20000 in
theorem zB_X12_isDoor_2 {S : Shp} {rc2 : Int32 → Int32 → Int32 → Mm → Option (Int32 × Mm)} (hrc2 : ∀ {x1 : Int32} {x2 : Int32} {x3 : Int32} {σ : Mm} {r : Int32 × Mm}, rc2 x1 x2 x3 σ = some r → Z m_X12_isDoor S (Qi r) 2 [(0, .ref (sL S 3 0 0)), (1, .int (x1)), (2, .int (x2)), (3, .int (x3))] [] σ) {x1 : Int32} {x2 : Int32} {x3 : Int32} {σ : Mm} {r : Int32 × Mm} (h : B_X12_isDoor_2 rc2 x1 x2 x3 σ = some r) : Z m_X12_isDoor S (Qi r) 2 [(0, .ref (sL S 3 0 0)), (1, .int (x1)), (2, .int (x2)), (3, .int (x3))] [] σ := by
  unfold B_X12_isDoor_2 at h
  obtain ⟨g1, h⟩ := gd h
  refine z_iload_n dX12_isDoor_2 rfl 3 rfl ?_
  refine z_aload_n dX12_isDoor_3 rfl 0 rfl ?_
  refine gf_12_55 rfl dX12_isDoor_4 ?_
  refine z_iconst (v := 0) dX12_isDoor_7 (by decide) ?_
  refine ia_3_14 (inb_in g1) dX12_isDoor_8 ?_
  refine z_icmp_ge (tgt := 40) dX12_isDoor_9 (by decide) (fun q => ?_) (fun q => ?_)
  · have h := (if_pos q).symm.trans h
    refine z_iconst (v := 0) dX12_isDoor_40 (by decide) ?_
    cases h
    exact z_ireturn dX12_isDoor_41 rfl rfl ⟨rfl, rfl⟩
  · have h := (if_neg q).symm.trans h
    obtain ⟨g2, h⟩ := gd h
    refine z_aload_n dX12_isDoor_12 rfl 0 rfl ?_
    refine gf_12_58 rfl dX12_isDoor_13 ?_
    refine z_iload_n dX12_isDoor_16 rfl 3 rfl ?_
    refine ia_3_15 (inb_in g2) dX12_isDoor_17 ?_
    refine z_iload_n dX12_isDoor_18 rfl 1 rfl ?_
    refine z_icmp_ne (tgt := 34) dX12_isDoor_19 (by decide) (fun q => ?_) (fun q => ?_)
    · have h := (if_neg q).symm.trans h
      exact zb_X12_isDoor_34 hrc2 h
    · have h := (if_pos q).symm.trans h
      obtain ⟨g3, h⟩ := gd h
      refine z_aload_n dX12_isDoor_22 rfl 0 rfl ?_
      refine gf_12_61 rfl dX12_isDoor_23 ?_
      refine z_iload_n dX12_isDoor_26 rfl 3 rfl ?_
      refine ia_3_16 (inb_in g3) dX12_isDoor_27 ?_
      refine z_iload_n dX12_isDoor_28 rfl 2 rfl ?_
      refine z_icmp_ne (tgt := 34) dX12_isDoor_29 (by decide) (fun q => ?_) (fun q => ?_)
      · have h := (if_neg q).symm.trans h
        exact zb_X12_isDoor_34 hrc2 h
      · have h := (if_pos q).symm.trans h
        refine z_iconst (v := 1) dX12_isDoor_32 (by decide) ?_
        cases h
        exact z_ireturn dX12_isDoor_33 rfl rfl ⟨rfl, rfl⟩
def F_X12_isDoor_2 : Nat → Int32 → Int32 → Int32 → Mm → Option (Int32 × Mm)
  | 0 => fun _ _ _ _ => none
  | n + 1 => B_X12_isDoor_2 (F_X12_isDoor_2 n)
theorem zl_X12_isDoor_2 {S : Shp} : ∀ (nn : Nat) {x1 : Int32} {x2 : Int32} {x3 : Int32} {σ : Mm} {r : Int32 × Mm}, F_X12_isDoor_2 nn x1 x2 x3 σ = some r → Z m_X12_isDoor S (Qi r) 2 [(0, .ref (sL S 3 0 0)), (1, .int (x1)), (2, .int (x2)), (3, .int (x3))] [] σ := by
  intro nn
  induction nn with
  | zero => intro x1 x2 x3 σ r h; cases h
  | succ nn ih => intro x1 x2 x3 σ r h; exact zB_X12_isDoor_2 @ih h
def F_X12_isDoor (x1 : Int32) (x2 : Int32) (σ : Mm) : Option (Int32 × Mm) := (F_X12_isDoor_2 FU x1 x2 0 σ)
set_option maxRecDepth 20000 in
theorem zb_X12_isDoor {S : Shp} {x1 : Int32} {x2 : Int32} {σ : Mm} {r : Int32 × Mm} (h : F_X12_isDoor x1 x2 σ = some r) : Z m_X12_isDoor S (Qi r) 0 [(0, .ref (sL S 3 0 0)), (1, .int (x1)), (2, .int (x2))] [] σ := by
  unfold F_X12_isDoor at h
  refine z_iconst (v := 0) dX12_isDoor_0 (by decide) ?_
  refine z_istore_n (lv' := [(0, .ref (sL S 3 0 0)), (1, .int (x1)), (2, .int (x2)), (3, .int (0))]) dX12_isDoor_1 rfl (by decide) [1, 2, 3, 0] rfl ?_
  exact zl_X12_isDoor_2 FU h
/-- SkyStonesModel.isDoor(II)Z -/
theorem c_X12_isDoor {S : Shp} {x1 : Int32} {x2 : Int32} {σ : Mm} {r : Int32 × Mm} (h : F_X12_isDoor x1 x2 σ = some r) : Ct m_X12_isDoor S [.ref (sL S 3 0 0), .int (x1), .int (x2)] σ (Qi r) := Ct.of (by decide +kernel) (Nat.le_of_ble_eq_true rfl) (zb_X12_isDoor h)
def F_X12_lineOf_116 (s0 : Int32) (σ : Mm) : Option (Int32 × Mm) := (if s0 = 0 then some (0, σ) else some (1, σ))
set_option maxRecDepth 20000 in
theorem zb_X12_lineOf_116 {S : Shp} {s0 : Int32} {σ : Mm} {r : Int32 × Mm} (h : F_X12_lineOf_116 s0 σ = some r) : Z m_X12_lineOf S (Qi r) 116 [] [.int (s0)] σ := by
  unfold F_X12_lineOf_116 at h
  refine z_if_eq (tgt := 123) dX12_lineOf_116 (by decide) (fun q => ?_) (fun q => ?_)
  · have h := (if_pos q).symm.trans h
    refine z_iconst (v := 0) dX12_lineOf_123 (by decide) ?_
    cases h
    exact z_ireturn dX12_lineOf_124 rfl rfl ⟨rfl, rfl⟩
  · have h := (if_neg q).symm.trans h
    refine z_iconst (v := 1) dX12_lineOf_119 (by decide) ?_
    refine z_goto (tgt := 124) dX12_lineOf_120 (by decide) ?_
    cases h
    exact z_ireturn dX12_lineOf_124 rfl rfl ⟨rfl, rfl⟩
def F_X12_lineOf_94 (s0 : Int32) (σ : Mm) : Option (Int32 × Mm) := (if s0 = 0 then some (0, σ) else some (1, σ))
set_option maxRecDepth 20000 in
theorem zb_X12_lineOf_94 {S : Shp} {s0 : Int32} {σ : Mm} {r : Int32 × Mm} (h : F_X12_lineOf_94 s0 σ = some r) : Z m_X12_lineOf S (Qi r) 94 [] [.int (s0)] σ := by
  unfold F_X12_lineOf_94 at h
  refine z_if_eq (tgt := 101) dX12_lineOf_94 (by decide) (fun q => ?_) (fun q => ?_)
  · have h := (if_pos q).symm.trans h
    refine z_iconst (v := 0) dX12_lineOf_101 (by decide) ?_
    cases h
    exact z_ireturn dX12_lineOf_102 rfl rfl ⟨rfl, rfl⟩
  · have h := (if_neg q).symm.trans h
    refine z_iconst (v := 1) dX12_lineOf_97 (by decide) ?_
    refine z_goto (tgt := 102) dX12_lineOf_98 (by decide) ?_
    cases h
    exact z_ireturn dX12_lineOf_102 rfl rfl ⟨rfl, rfl⟩
def F_X12_lineOf_65 (x4 : Int32) (s0 : Int32) (σ : Mm) : Option (Int32 × Mm) := (if inb x4 70 = true then (if (mA σ 3 0 9 x4.toNatClampNeg) = 0 then some (s0 + (0 : Int32), σ) else some (s0 + (1 : Int32), σ)) else none)
set_option maxRecDepth 20000 in
theorem zb_X12_lineOf_65 {S : Shp} {x4 : Int32} {s0 : Int32} {σ : Mm} {r : Int32 × Mm} (h : F_X12_lineOf_65 x4 s0 σ = some r) : Z m_X12_lineOf S (Qi r) 65 [(0, .ref (sL S 3 0 0)), (4, .int (x4))] [.int (s0)] σ := by
  unfold F_X12_lineOf_65 at h
  obtain ⟨g10, h⟩ := gd h
  refine z_aload_n dX12_lineOf_65 rfl 0 rfl ?_
  refine gf_12_40 rfl dX12_lineOf_66 ?_
  refine z_iload dX12_lineOf_69 1 rfl ?_
  refine ia_3_9 (inb_in g10) dX12_lineOf_71 ?_
  refine z_if_eq (tgt := 79) dX12_lineOf_72 (by decide) (fun q => ?_) (fun q => ?_)
  · have h := (if_pos q).symm.trans h
    refine z_iconst (v := 0) dX12_lineOf_79 (by decide) ?_
    refine z_iadd dX12_lineOf_80 ?_
    cases h
    exact z_ireturn dX12_lineOf_81 rfl rfl ⟨rfl, rfl⟩
  · have h := (if_neg q).symm.trans h
    refine z_iconst (v := 1) dX12_lineOf_75 (by decide) ?_
    refine z_goto (tgt := 80) dX12_lineOf_76 (by decide) ?_
    refine z_iadd dX12_lineOf_80 ?_
    cases h
    exact z_ireturn dX12_lineOf_81 rfl rfl ⟨rfl, rfl⟩
def F_X12_lineOf_11 (x1 : Int32) (x2 : Int32) (x3 : Int32) (x4 : Int32) (σ : Mm) : Option (Int32 × Mm) := (if x2 = (2 : Int32) then (if inb x3 14 = true then (if inb x4 14 = true then some (f_X12_plain ((mA σ 3 0 50 x3.toNatClampNeg) - (mA σ 3 0 50 x4.toNatClampNeg)), σ) else none) else none) else (if x2 = (3 : Int32) then (if inb x1 196 = true then some (mA σ 3 0 54 x1.toNatClampNeg, σ) else none) else (if x2 = (4 : Int32) then (if inb x3 70 = true then (if (mA σ 3 0 9 x3.toNatClampNeg) = 0 then (F_X12_lineOf_65 x4 0 σ) else (F_X12_lineOf_65 x4 1 σ)) else none) else (if x2 = (5 : Int32) then (bnd (F_X12_isDoor x3 x4 σ) (fun v τ => (F_X12_lineOf_94 v τ))) else (if x2 = (6 : Int32) then (bnd (F_X12_isDoor x4 x3 σ) (fun v τ => (F_X12_lineOf_116 v τ))) else (if x2 = (7 : Int32) then (if inb x3 14 = true then (if inb x4 14 = true then (if (mA σ 3 0 50 x4.toNatClampNeg) ≤ (mA σ 3 0 50 x3.toNatClampNeg) then (if inb x4 14 = true then some (mA σ 3 0 50 x4.toNatClampNeg, σ) else none) else (if inb x3 14 = true then some (mA σ 3 0 50 x3.toNatClampNeg, σ) else none)) else none) else none) else (if x2 = (8 : Int32) then (if inb x1 196 = true then some (mA σ 3 0 53 x1.toNatClampNeg, σ) else none) else some (0, σ))))))))
set_option maxRecDepth 20000 in
theorem zb_X12_lineOf_11 {S : Shp} {x1 : Int32} {x2 : Int32} {x3 : Int32} {x4 : Int32} {σ : Mm} {r : Int32 × Mm} (h : F_X12_lineOf_11 x1 x2 x3 x4 σ = some r) : Z m_X12_lineOf S (Qi r) 11 [(0, .ref (sL S 3 0 0)), (1, .int (x1)), (2, .int (x2)), (3, .int (x3)), (4, .int (x4))] [] σ := by
  unfold F_X12_lineOf_11 at h
  refine z_iload_n dX12_lineOf_11 rfl 2 rfl ?_
  refine z_iconst (v := 2) dX12_lineOf_12 (by decide) ?_
  refine z_icmp_ne (tgt := 34) dX12_lineOf_13 (by decide) (fun q => ?_) (fun q => ?_)
  · have h := (if_neg q).symm.trans h
    refine z_iload_n dX12_lineOf_34 rfl 2 rfl ?_
    refine z_iconst (v := 3) dX12_lineOf_35 (by decide) ?_
    refine z_icmp_ne (tgt := 46) dX12_lineOf_36 (by decide) (fun q => ?_) (fun q => ?_)
    · have h := (if_neg q).symm.trans h
      refine z_iload_n dX12_lineOf_46 rfl 2 rfl ?_
      refine z_iconst (v := 4) dX12_lineOf_47 (by decide) ?_
      refine z_icmp_ne (tgt := 82) dX12_lineOf_48 (by decide) (fun q => ?_) (fun q => ?_)
      · have h := (if_neg q).symm.trans h
        refine z_iload_n dX12_lineOf_82 rfl 2 rfl ?_
        refine z_iconst (v := 5) dX12_lineOf_83 (by decide) ?_
        refine z_icmp_ne (tgt := 103) dX12_lineOf_84 (by decide) (fun q => ?_) (fun q => ?_)
        · have h := (if_neg q).symm.trans h
          refine z_iload_n dX12_lineOf_103 rfl 2 rfl ?_
          refine z_bipush (v := 6) dX12_lineOf_104 (by decide) ?_
          refine z_icmp_ne (tgt := 125) dX12_lineOf_106 (by decide) (fun q => ?_) (fun q => ?_)
          · have h := (if_neg q).symm.trans h
            refine z_iload_n dX12_lineOf_125 rfl 2 rfl ?_
            refine z_bipush (v := 7) dX12_lineOf_126 (by decide) ?_
            refine z_icmp_ne (tgt := 164) dX12_lineOf_128 (by decide) (fun q => ?_) (fun q => ?_)
            · have h := (if_neg q).symm.trans h
              refine z_iload_n dX12_lineOf_164 rfl 2 rfl ?_
              refine z_bipush (v := 8) dX12_lineOf_165 (by decide) ?_
              refine z_icmp_ne (tgt := 179) dX12_lineOf_167 (by decide) (fun q => ?_) (fun q => ?_)
              · have h := (if_neg q).symm.trans h
                refine z_iconst (v := 0) dX12_lineOf_179 (by decide) ?_
                cases h
                exact z_ireturn dX12_lineOf_180 rfl rfl ⟨rfl, rfl⟩
              · have h := (if_pos q).symm.trans h
                obtain ⟨g1, h⟩ := gd h
                refine z_aload_n dX12_lineOf_170 rfl 0 rfl ?_
                refine gf_12_172 rfl dX12_lineOf_171 ?_
                refine z_iload_n dX12_lineOf_174 rfl 1 rfl ?_
                refine ia_3_53 (inb_in g1) dX12_lineOf_175 ?_
                refine z_goto (tgt := 180) dX12_lineOf_176 (by decide) ?_
                cases h
                exact z_ireturn dX12_lineOf_180 rfl rfl ⟨rfl, rfl⟩
            · have h := (if_pos q).symm.trans h
              obtain ⟨g2, h⟩ := gd h
              refine z_aload_n dX12_lineOf_131 rfl 0 rfl ?_
              refine gf_12_163 rfl dX12_lineOf_132 ?_
              refine z_iload_n dX12_lineOf_135 rfl 3 rfl ?_
              obtain ⟨g3, h⟩ := gd h
              refine ia_3_50 (inb_in g2) dX12_lineOf_136 ?_
              refine z_aload_n dX12_lineOf_137 rfl 0 rfl ?_
              refine gf_12_163 rfl dX12_lineOf_138 ?_
              refine z_iload dX12_lineOf_141 4 rfl ?_
              refine ia_3_50 (inb_in g3) dX12_lineOf_143 ?_
              refine z_icmp_ge (tgt := 156) dX12_lineOf_144 (by decide) (fun q => ?_) (fun q => ?_)
              · have h := (if_pos q).symm.trans h
                obtain ⟨g4, h⟩ := gd h
                refine z_aload_n dX12_lineOf_156 rfl 0 rfl ?_
                refine gf_12_163 rfl dX12_lineOf_157 ?_
                refine z_iload dX12_lineOf_160 4 rfl ?_
                refine ia_3_50 (inb_in g4) dX12_lineOf_162 ?_
                cases h
                exact z_ireturn dX12_lineOf_163 rfl rfl ⟨rfl, rfl⟩
              · have h := (if_neg q).symm.trans h
                obtain ⟨g5, h⟩ := gd h
                refine z_aload_n dX12_lineOf_147 rfl 0 rfl ?_
                refine gf_12_163 rfl dX12_lineOf_148 ?_
                refine z_iload_n dX12_lineOf_151 rfl 3 rfl ?_
                refine ia_3_50 (inb_in g5) dX12_lineOf_152 ?_
                refine z_goto (tgt := 163) dX12_lineOf_153 (by decide) ?_
                cases h
                exact z_ireturn dX12_lineOf_163 rfl rfl ⟨rfl, rfl⟩
          · have h := (if_pos q).symm.trans h
            refine z_aload_n dX12_lineOf_109 rfl 0 rfl ?_
            refine z_iload dX12_lineOf_110 4 rfl ?_
            refine z_iload_n dX12_lineOf_112 rfl 3 rfl ?_
            obtain ⟨v, τ, hc, h⟩ := bnd_e h
            refine z_callV (M' := m_X12_isDoor) (t := 3) (i := 0) (k := 0) (As := [.int (x4), .int (x3)]) (rest := []) kl_12_444 oy_X12_isDoor ⟨Nat.le_of_ble_eq_true rfl, Nat.le_of_ble_eq_true rfl⟩ rfl rfl rfl rfl (Nat.le_of_ble_eq_true rfl) rfl dX12_lineOf_113 (c_X12_isDoor hc) (fun v2 τ2 hq => ?_)
            obtain ⟨rfl, hτ⟩ := hq
            subst τ2
            change Z _ _ _ _ _ [.int (v)] _
            refine Z.lv [] rfl ?_
            exact zb_X12_lineOf_116 h
        · have h := (if_pos q).symm.trans h
          refine z_aload_n dX12_lineOf_87 rfl 0 rfl ?_
          refine z_iload_n dX12_lineOf_88 rfl 3 rfl ?_
          refine z_iload dX12_lineOf_89 4 rfl ?_
          obtain ⟨v, τ, hc, h⟩ := bnd_e h
          refine z_callV (M' := m_X12_isDoor) (t := 3) (i := 0) (k := 0) (As := [.int (x3), .int (x4)]) (rest := []) kl_12_444 oy_X12_isDoor ⟨Nat.le_of_ble_eq_true rfl, Nat.le_of_ble_eq_true rfl⟩ rfl rfl rfl rfl (Nat.le_of_ble_eq_true rfl) rfl dX12_lineOf_91 (c_X12_isDoor hc) (fun v2 τ2 hq => ?_)
          obtain ⟨rfl, hτ⟩ := hq
          subst τ2
          change Z _ _ _ _ _ [.int (v)] _
          refine Z.lv [] rfl ?_
          exact zb_X12_lineOf_94 h
      · have h := (if_pos q).symm.trans h
        obtain ⟨g6, h⟩ := gd h
        refine z_aload_n dX12_lineOf_51 rfl 0 rfl ?_
        refine gf_12_40 rfl dX12_lineOf_52 ?_
        refine z_iload_n dX12_lineOf_55 rfl 3 rfl ?_
        refine ia_3_9 (inb_in g6) dX12_lineOf_56 ?_
        refine z_if_eq (tgt := 64) dX12_lineOf_57 (by decide) (fun q => ?_) (fun q => ?_)
        · have h := (if_pos q).symm.trans h
          refine z_iconst (v := 0) dX12_lineOf_64 (by decide) ?_
          refine Z.lv [0, 4] rfl ?_
          exact zb_X12_lineOf_65 h
        · have h := (if_neg q).symm.trans h
          refine z_iconst (v := 1) dX12_lineOf_60 (by decide) ?_
          refine z_goto (tgt := 65) dX12_lineOf_61 (by decide) ?_
          refine Z.lv [0, 4] rfl ?_
          exact zb_X12_lineOf_65 h
    · have h := (if_pos q).symm.trans h
      obtain ⟨g7, h⟩ := gd h
      refine z_aload_n dX12_lineOf_39 rfl 0 rfl ?_
      refine gf_12_175 rfl dX12_lineOf_40 ?_
      refine z_iload_n dX12_lineOf_43 rfl 1 rfl ?_
      refine ia_3_54 (inb_in g7) dX12_lineOf_44 ?_
      cases h
      exact z_ireturn dX12_lineOf_45 rfl rfl ⟨rfl, rfl⟩
  · have h := (if_pos q).symm.trans h
    obtain ⟨g8, h⟩ := gd h
    refine z_aload_n dX12_lineOf_16 rfl 0 rfl ?_
    refine gf_12_163 rfl dX12_lineOf_17 ?_
    refine z_iload_n dX12_lineOf_20 rfl 3 rfl ?_
    obtain ⟨g9, h⟩ := gd h
    refine ia_3_50 (inb_in g8) dX12_lineOf_21 ?_
    refine z_aload_n dX12_lineOf_22 rfl 0 rfl ?_
    refine gf_12_163 rfl dX12_lineOf_23 ?_
    refine z_iload dX12_lineOf_26 4 rfl ?_
    refine ia_3_50 (inb_in g9) dX12_lineOf_28 ?_
    refine z_isub dX12_lineOf_29 ?_
    refine z_callS (M' := m_X12_plain) (As := [.int ((mA σ 3 0 50 x3.toNatClampNeg) - (mA σ 3 0 50 x4.toNatClampNeg))]) (rest := []) kl_12_425 oy_X12_plain ⟨Nat.le_of_ble_eq_true rfl, Nat.le_of_ble_eq_true rfl⟩ rfl (Nat.le_of_ble_eq_true rfl) rfl dX12_lineOf_30 (c_X12_plain rfl) (fun v τ hq => ?_)
    obtain ⟨rfl, hτ⟩ := hq
    subst τ
    change Z _ _ _ _ _ [.int (f_X12_plain ((mA σ 3 0 50 x3.toNatClampNeg) - (mA σ 3 0 50 x4.toNatClampNeg)))] _
    cases h
    exact z_ireturn dX12_lineOf_33 rfl rfl ⟨rfl, rfl⟩
def F_X12_lineOf (x1 : Int32) (x2 : Int32) (σ : Mm) : Option (Int32 × Mm) := (F_X12_lineOf_11 x1 x2 (x1 / (14 : Int32)) (x1 - x1 / (14 : Int32) * (14 : Int32)) σ)
set_option maxRecDepth 20000 in
theorem zb_X12_lineOf {S : Shp} {x1 : Int32} {x2 : Int32} {σ : Mm} {r : Int32 × Mm} (h : F_X12_lineOf x1 x2 σ = some r) : Z m_X12_lineOf S (Qi r) 0 [(0, .ref (sL S 3 0 0)), (1, .int (x1)), (2, .int (x2))] [] σ := by
  unfold F_X12_lineOf at h
  refine z_iload_n dX12_lineOf_0 rfl 1 rfl ?_
  refine z_bipush (v := 14) dX12_lineOf_1 (by decide) ?_
  refine z_idiv dX12_lineOf_3 (by decide) ?_
  refine z_istore_n (lv' := [(0, .ref (sL S 3 0 0)), (1, .int (x1)), (2, .int (x2)), (3, .int (x1 / (14 : Int32)))]) dX12_lineOf_4 rfl (by decide) [1, 2, 3, 0] rfl ?_
  refine z_iload_n dX12_lineOf_5 rfl 1 rfl ?_
  refine z_bipush (v := 14) dX12_lineOf_6 (by decide) ?_
  refine z_irem dX12_lineOf_8 (by decide) ?_
  refine z_istore (lv' := [(0, .ref (sL S 3 0 0)), (1, .int (x1)), (2, .int (x2)), (3, .int (x1 / (14 : Int32))), (4, .int (x1 - x1 / (14 : Int32) * (14 : Int32)))]) dX12_lineOf_9 (by decide) [1, 2, 3, 4, 0] rfl ?_
  exact zb_X12_lineOf_11 h
/-- SkyStonesModel.lineOf(II)I -/
theorem c_X12_lineOf {S : Shp} {x1 : Int32} {x2 : Int32} {σ : Mm} {r : Int32 × Mm} (h : F_X12_lineOf x1 x2 σ = some r) : Ct m_X12_lineOf S [.ref (sL S 3 0 0), .int (x1), .int (x2)] σ (Qi r) := Ct.of (by decide +kernel) (Nat.le_of_ble_eq_true rfl) (zb_X12_lineOf h)
def F_X12_look_20 (rc2 : Int32 → Int32 → Mm → Option (Mm)) (x1 : Int32) (x2 : Int32) (σ : Mm) : Option (Mm) := (rc2 x1 (x2 + 1) σ)
set_option maxRecDepth 20000 in
theorem zb_X12_look_20 {S : Shp} {rc2 : Int32 → Int32 → Mm → Option (Mm)} (hrc2 : ∀ {x1 : Int32} {x2 : Int32} {σ : Mm} {r : Mm}, rc2 x1 x2 σ = some r → Z m_X12_look S (Qv r) 2 [(0, .ref (sL S 3 0 0)), (1, .int (x1)), (2, .int (x2))] [] σ) {x1 : Int32} {x2 : Int32} {σ : Mm} {r : Mm} (h : F_X12_look_20 rc2 x1 x2 σ = some r) : Z m_X12_look S (Qv r) 20 [(0, .ref (sL S 3 0 0)), (1, .int (x1)), (2, .int (x2))] [] σ := by
  unfold F_X12_look_20 at h
  refine z_iinc (j := 2) (v := x2 + 1) (lv' := [(0, .ref (sL S 3 0 0)), (1, .int (x1)), (2, .int (x2 + 1))]) dX12_look_20 rfl rfl (by decide) [1, 2, 0] rfl ?_
  refine z_goto (tgt := 2) dX12_look_23 (by decide) ?_
  exact hrc2 h
def F_X12_look_19 (rc2 : Int32 → Int32 → Mm → Option (Mm)) (x1 : Int32) (x2 : Int32) (s0 : Int32) (s1 : Int32) (σ : Mm) : Option (Mm) := (if inb s1 9 = true then (F_X12_look_20 rc2 x1 x2 (setA σ 3 0 56 (upd (mA σ 3 0 56) s1.toNatClampNeg s0))) else none)
set_option maxRecDepth 20000 in
theorem zb_X12_look_19 {S : Shp} {rc2 : Int32 → Int32 → Mm → Option (Mm)} (hrc2 : ∀ {x1 : Int32} {x2 : Int32} {σ : Mm} {r : Mm}, rc2 x1 x2 σ = some r → Z m_X12_look S (Qv r) 2 [(0, .ref (sL S 3 0 0)), (1, .int (x1)), (2, .int (x2))] [] σ) {x1 : Int32} {x2 : Int32} {s0 : Int32} {s1 : Int32} {σ : Mm} {r : Mm} (h : F_X12_look_19 rc2 x1 x2 s0 s1 σ = some r) : Z m_X12_look S (Qv r) 19 [(0, .ref (sL S 3 0 0)), (1, .int (x1)), (2, .int (x2))] [.int (s0), .int (s1), .ref (sL S 3 0 56)] σ := by
  unfold F_X12_look_19 at h
  obtain ⟨g1, h⟩ := gd h
  refine is_3_56 (inb_in g1) dX12_look_19 ?_
  exact zb_X12_look_20 hrc2 h
def B_X12_look_2 (rc2 : Int32 → Int32 → Mm → Option (Mm)) (x1 : Int32) (x2 : Int32) (σ : Mm) : Option (Mm) := (if (9 : Int32) ≤ x2 then some (σ) else (bnd (F_X12_lineOf x1 x2 σ) (fun v τ => (F_X12_look_19 rc2 x1 x2 v x2 τ))))
set_option maxRecDepth 20000 in
theorem zB_X12_look_2 {S : Shp} {rc2 : Int32 → Int32 → Mm → Option (Mm)} (hrc2 : ∀ {x1 : Int32} {x2 : Int32} {σ : Mm} {r : Mm}, rc2 x1 x2 σ = some r → Z m_X12_look S (Qv r) 2 [(0, .ref (sL S 3 0 0)), (1, .int (x1)), (2, .int (x2))] [] σ) {x1 : Int32} {x2 : Int32} {σ : Mm} {r : Mm} (h : B_X12_look_2 rc2 x1 x2 σ = some r) : Z m_X12_look S (Qv r) 2 [(0, .ref (sL S 3 0 0)), (1, .int (x1)), (2, .int (x2))] [] σ := by
  unfold B_X12_look_2 at h
  refine z_iload_n dX12_look_2 rfl 2 rfl ?_
  refine z_bipush (v := 9) dX12_look_3 (by decide) ?_
  refine z_icmp_ge (tgt := 26) dX12_look_5 (by decide) (fun q => ?_) (fun q => ?_)
  · have h := (if_pos q).symm.trans h
    cases h
    exact z_return dX12_look_26 rfl ⟨rfl, rfl⟩
  · have h := (if_neg q).symm.trans h
    refine z_aload_n dX12_look_8 rfl 0 rfl ?_
    refine gf_12_181 rfl dX12_look_9 ?_
    refine z_iload_n dX12_look_12 rfl 2 rfl ?_
    refine z_aload_n dX12_look_13 rfl 0 rfl ?_
    refine z_iload_n dX12_look_14 rfl 1 rfl ?_
    refine z_iload_n dX12_look_15 rfl 2 rfl ?_
    obtain ⟨v, τ, hc, h⟩ := bnd_e h
    refine z_callV (M' := m_X12_lineOf) (t := 3) (i := 0) (k := 0) (As := [.int (x1), .int (x2)]) (rest := [.int (x2), .ref (sL S 3 0 56)]) kl_12_441 oy_X12_lineOf ⟨Nat.le_of_ble_eq_true rfl, Nat.le_of_ble_eq_true rfl⟩ rfl rfl rfl rfl (Nat.le_of_ble_eq_true rfl) rfl dX12_look_16 (c_X12_lineOf hc) (fun v2 τ2 hq => ?_)
    obtain ⟨rfl, hτ⟩ := hq
    subst τ2
    change Z _ _ _ _ _ [.int (v), .int (x2), .ref (sL S 3 0 56)] _
    exact zb_X12_look_19 hrc2 h
def F_X12_look_2 : Nat → Int32 → Int32 → Mm → Option (Mm)
  | 0 => fun _ _ _ => none
  | n + 1 => B_X12_look_2 (F_X12_look_2 n)
theorem zl_X12_look_2 {S : Shp} : ∀ (nn : Nat) {x1 : Int32} {x2 : Int32} {σ : Mm} {r : Mm}, F_X12_look_2 nn x1 x2 σ = some r → Z m_X12_look S (Qv r) 2 [(0, .ref (sL S 3 0 0)), (1, .int (x1)), (2, .int (x2))] [] σ := by
  intro nn
  induction nn with
  | zero => intro x1 x2 σ r h; cases h
  | succ nn ih => intro x1 x2 σ r h; exact zB_X12_look_2 @ih h
def F_X12_look (x1 : Int32) (σ : Mm) : Option (Mm) := (F_X12_look_2 FU x1 0 σ)
set_option maxRecDepth 20000 in
theorem zb_X12_look {S : Shp} {x1 : Int32} {σ : Mm} {r : Mm} (h : F_X12_look x1 σ = some r) : Z m_X12_look S (Qv r) 0 [(0, .ref (sL S 3 0 0)), (1, .int (x1))] [] σ := by
  unfold F_X12_look at h
  refine z_iconst (v := 0) dX12_look_0 (by decide) ?_
  refine z_istore_n (lv' := [(0, .ref (sL S 3 0 0)), (1, .int (x1)), (2, .int (0))]) dX12_look_1 rfl (by decide) [1, 2, 0] rfl ?_
  exact zl_X12_look_2 FU h
/-- SkyStonesModel.look(I)V -/
theorem c_X12_look {S : Shp} {x1 : Int32} {σ : Mm} {r : Mm} (h : F_X12_look x1 σ = some r) : Ct m_X12_look S [.ref (sL S 3 0 0), .int (x1)] σ (Qv r) := Ct.of (by decide +kernel) (Nat.le_of_ble_eq_true rfl) (zb_X12_look h)
def F_X12_lay_288 (rc7 : Int32 → Mm → Option (Mm)) (x2 : Int32) (σ : Mm) : Option (Mm) := (rc7 (x2 + 1) σ)
set_option maxRecDepth 20000 in
theorem zb_X12_lay_288 {S : Shp} {rc7 : Int32 → Mm → Option (Mm)} (hrc7 : ∀ {x2 : Int32} {σ : Mm} {r : Mm}, rc7 x2 σ = some r → Z m_X12_lay S (Qv r) 7 [(0, .ref (sL S 3 0 0)), (2, .int (x2))] [] σ) {x2 : Int32} {σ : Mm} {r : Mm} (h : F_X12_lay_288 rc7 x2 σ = some r) : Z m_X12_lay S (Qv r) 288 [(0, .ref (sL S 3 0 0)), (2, .int (x2))] [] σ := by
  unfold F_X12_lay_288 at h
  refine z_iinc (j := 1) (v := x2 + 1) (lv' := [(0, .ref (sL S 3 0 0)), (2, .int (x2 + 1))]) dX12_lay_288 rfl rfl (by decide) [1, 0] rfl ?_
  refine z_goto (tgt := 7) dX12_lay_291 (by decide) ?_
  exact hrc7 h
def F_X12_lay_282 (rc7 : Int32 → Mm → Option (Mm)) (rc238 : Int32 → Int32 → Mm → Option (Mm)) (x2 : Int32) (x7 : Int32) (σ : Mm) : Option (Mm) := (rc238 x2 (x7 + 1) σ)
set_option maxRecDepth 20000 in
theorem zb_X12_lay_282 {S : Shp} {rc7 : Int32 → Mm → Option (Mm)} (hrc7 : ∀ {x2 : Int32} {σ : Mm} {r : Mm}, rc7 x2 σ = some r → Z m_X12_lay S (Qv r) 7 [(0, .ref (sL S 3 0 0)), (2, .int (x2))] [] σ) {rc238 : Int32 → Int32 → Mm → Option (Mm)} (hrc238 : ∀ {x2 : Int32} {x7 : Int32} {σ : Mm} {r : Mm}, rc238 x2 x7 σ = some r → Z m_X12_lay S (Qv r) 238 [(0, .ref (sL S 3 0 0)), (2, .int (x2)), (7, .int (x7))] [] σ) {x2 : Int32} {x7 : Int32} {σ : Mm} {r : Mm} (h : F_X12_lay_282 rc7 rc238 x2 x7 σ = some r) : Z m_X12_lay S (Qv r) 282 [(0, .ref (sL S 3 0 0)), (2, .int (x2)), (7, .int (x7))] [] σ := by
  unfold F_X12_lay_282 at h
  refine z_iinc (j := 2) (v := x7 + 1) (lv' := [(0, .ref (sL S 3 0 0)), (2, .int (x2)), (7, .int (x7 + 1))]) dX12_lay_282 rfl rfl (by decide) [1, 2, 0] rfl ?_
  refine z_goto (tgt := 238) dX12_lay_285 (by decide) ?_
  exact hrc238 h
def F_X12_lay_281 (rc7 : Int32 → Mm → Option (Mm)) (rc238 : Int32 → Int32 → Mm → Option (Mm)) (x2 : Int32) (x7 : Int32) (s0 : Int32) (s1 : Int32) (σ : Mm) : Option (Mm) := (if inb s1 196 = true then (F_X12_lay_282 rc7 rc238 x2 x7 (setA σ 3 0 55 (upd (mA σ 3 0 55) s1.toNatClampNeg (vp_nar .boolean s0)))) else none)
set_option maxRecDepth 20000 in
theorem zb_X12_lay_281 {S : Shp} {rc7 : Int32 → Mm → Option (Mm)} (hrc7 : ∀ {x2 : Int32} {σ : Mm} {r : Mm}, rc7 x2 σ = some r → Z m_X12_lay S (Qv r) 7 [(0, .ref (sL S 3 0 0)), (2, .int (x2))] [] σ) {rc238 : Int32 → Int32 → Mm → Option (Mm)} (hrc238 : ∀ {x2 : Int32} {x7 : Int32} {σ : Mm} {r : Mm}, rc238 x2 x7 σ = some r → Z m_X12_lay S (Qv r) 238 [(0, .ref (sL S 3 0 0)), (2, .int (x2)), (7, .int (x7))] [] σ) {x2 : Int32} {x7 : Int32} {s0 : Int32} {s1 : Int32} {σ : Mm} {r : Mm} (h : F_X12_lay_281 rc7 rc238 x2 x7 s0 s1 σ = some r) : Z m_X12_lay S (Qv r) 281 [(0, .ref (sL S 3 0 0)), (2, .int (x2)), (7, .int (x7))] [.int (s0), .int (s1), .ref (sL S 3 0 55)] σ := by
  unfold F_X12_lay_281 at h
  obtain ⟨g24, h⟩ := gd h
  refine is_3_55 (inb_in g24) dX12_lay_281 ?_
  exact zb_X12_lay_282 hrc7 hrc238 h
def B_X12_lay_238 (rc7 : Int32 → Mm → Option (Mm)) (rc238 : Int32 → Int32 → Mm → Option (Mm)) (x2 : Int32) (x7 : Int32) (σ : Mm) : Option (Mm) := (if inb 0 5 = true then (if (mA σ 3 0 25 (0 : Int32).toNatClampNeg) ≤ x7 then (F_X12_lay_288 rc7 x2 σ) else (if inb x2 196 = true then (if (mA σ 3 0 55 x2.toNatClampNeg) = 0 then (if inb x7 30 = true then (if inb x7 30 = true then (bnd (F_X12_isHeld (mA σ 3 0 26 x7.toNatClampNeg) (mA σ 3 0 27 x7.toNatClampNeg) σ) (fun v τ => (F_X12_lay_281 rc7 rc238 x2 x7 v x2 τ))) else none) else none) else (F_X12_lay_288 rc7 x2 σ)) else none)) else none)
set_option maxRecDepth 20000 in
theorem zB_X12_lay_238 {S : Shp} {rc7 : Int32 → Mm → Option (Mm)} (hrc7 : ∀ {x2 : Int32} {σ : Mm} {r : Mm}, rc7 x2 σ = some r → Z m_X12_lay S (Qv r) 7 [(0, .ref (sL S 3 0 0)), (2, .int (x2))] [] σ) {rc238 : Int32 → Int32 → Mm → Option (Mm)} (hrc238 : ∀ {x2 : Int32} {x7 : Int32} {σ : Mm} {r : Mm}, rc238 x2 x7 σ = some r → Z m_X12_lay S (Qv r) 238 [(0, .ref (sL S 3 0 0)), (2, .int (x2)), (7, .int (x7))] [] σ) {x2 : Int32} {x7 : Int32} {σ : Mm} {r : Mm} (h : B_X12_lay_238 rc7 rc238 x2 x7 σ = some r) : Z m_X12_lay S (Qv r) 238 [(0, .ref (sL S 3 0 0)), (2, .int (x2)), (7, .int (x7))] [] σ := by
  unfold B_X12_lay_238 at h
  obtain ⟨g20, h⟩ := gd h
  refine z_iload dX12_lay_238 2 rfl ?_
  refine z_aload_n dX12_lay_240 rfl 0 rfl ?_
  refine gf_12_88 rfl dX12_lay_241 ?_
  refine z_iconst (v := 0) dX12_lay_244 (by decide) ?_
  refine ia_3_25 (inb_in g20) dX12_lay_245 ?_
  refine z_icmp_ge (tgt := 288) dX12_lay_246 (by decide) (fun q => ?_) (fun q => ?_)
  · have h := (if_pos q).symm.trans h
    refine Z.lv [0, 1] rfl ?_
    exact zb_X12_lay_288 hrc7 h
  · have h := (if_neg q).symm.trans h
    obtain ⟨g21, h⟩ := gd h
    refine z_aload_n dX12_lay_249 rfl 0 rfl ?_
    refine gf_12_178 rfl dX12_lay_250 ?_
    refine z_iload_n dX12_lay_253 rfl 1 rfl ?_
    refine ia_3_55 (inb_in g21) dX12_lay_254 ?_
    refine z_if_ne (tgt := 288) dX12_lay_255 (by decide) (fun q => ?_) (fun q => ?_)
    · have h := (if_neg q).symm.trans h
      refine Z.lv [0, 1] rfl ?_
      exact zb_X12_lay_288 hrc7 h
    · have h := (if_pos q).symm.trans h
      obtain ⟨g22, h⟩ := gd h
      refine z_aload_n dX12_lay_258 rfl 0 rfl ?_
      refine gf_12_178 rfl dX12_lay_259 ?_
      refine z_iload_n dX12_lay_262 rfl 1 rfl ?_
      refine z_aload_n dX12_lay_263 rfl 0 rfl ?_
      refine z_aload_n dX12_lay_264 rfl 0 rfl ?_
      refine gf_12_91 rfl dX12_lay_265 ?_
      refine z_iload dX12_lay_268 2 rfl ?_
      obtain ⟨g23, h⟩ := gd h
      refine ia_3_26 (inb_in g22) dX12_lay_270 ?_
      refine z_aload_n dX12_lay_271 rfl 0 rfl ?_
      refine gf_12_94 rfl dX12_lay_272 ?_
      refine z_iload dX12_lay_275 2 rfl ?_
      refine ia_3_27 (inb_in g23) dX12_lay_277 ?_
      obtain ⟨v, τ, hc, h⟩ := bnd_e h
      refine z_callV (M' := m_X12_isHeld) (t := 3) (i := 0) (k := 0) (As := [.int (mA σ 3 0 26 x7.toNatClampNeg), .int (mA σ 3 0 27 x7.toNatClampNeg)]) (rest := [.int (x2), .ref (sL S 3 0 55)]) kl_12_438 oy_X12_isHeld ⟨Nat.le_of_ble_eq_true rfl, Nat.le_of_ble_eq_true rfl⟩ rfl rfl rfl rfl (Nat.le_of_ble_eq_true rfl) rfl dX12_lay_278 (c_X12_isHeld hc) (fun v2 τ2 hq => ?_)
      obtain ⟨rfl, hτ⟩ := hq
      subst τ2
      change Z _ _ _ _ _ [.int (v), .int (x2), .ref (sL S 3 0 55)] _
      exact zb_X12_lay_281 hrc7 hrc238 h
def F_X12_lay_238 (rc7 : Int32 → Mm → Option (Mm)) : Nat → Int32 → Int32 → Mm → Option (Mm)
  | 0 => fun _ _ _ => none
  | n + 1 => B_X12_lay_238 rc7 (F_X12_lay_238 rc7 n)
theorem zl_X12_lay_238 {S : Shp} {rc7 : Int32 → Mm → Option (Mm)} (hrc7 : ∀ {x2 : Int32} {σ : Mm} {r : Mm}, rc7 x2 σ = some r → Z m_X12_lay S (Qv r) 7 [(0, .ref (sL S 3 0 0)), (2, .int (x2))] [] σ) : ∀ (nn : Nat) {x2 : Int32} {x7 : Int32} {σ : Mm} {r : Mm}, F_X12_lay_238 rc7 nn x2 x7 σ = some r → Z m_X12_lay S (Qv r) 238 [(0, .ref (sL S 3 0 0)), (2, .int (x2)), (7, .int (x7))] [] σ := by
  intro nn
  induction nn with
  | zero => intro x2 x7 σ r h; cases h
  | succ nn ih => intro x2 x7 σ r h; exact zB_X12_lay_238 hrc7 @ih h
def F_X12_lay_235 (rc7 : Int32 → Mm → Option (Mm)) (x2 : Int32) (σ : Mm) : Option (Mm) := (F_X12_lay_238 rc7 FU x2 0 σ)
set_option maxRecDepth 20000 in
theorem zb_X12_lay_235 {S : Shp} {rc7 : Int32 → Mm → Option (Mm)} (hrc7 : ∀ {x2 : Int32} {σ : Mm} {r : Mm}, rc7 x2 σ = some r → Z m_X12_lay S (Qv r) 7 [(0, .ref (sL S 3 0 0)), (2, .int (x2))] [] σ) {x2 : Int32} {σ : Mm} {r : Mm} (h : F_X12_lay_235 rc7 x2 σ = some r) : Z m_X12_lay S (Qv r) 235 [(0, .ref (sL S 3 0 0)), (2, .int (x2))] [] σ := by
  unfold F_X12_lay_235 at h
  refine z_iconst (v := 0) dX12_lay_235 (by decide) ?_
  refine z_istore (lv' := [(0, .ref (sL S 3 0 0)), (2, .int (x2)), (7, .int (0))]) dX12_lay_236 (by decide) [1, 2, 0] rfl ?_
  exact zl_X12_lay_238 hrc7 FU h
def F_X12_lay_230 (rc7 : Int32 → Mm → Option (Mm)) (x2 : Int32) (σ : Mm) : Option (Mm) := (bnv (F_X12_look x2 σ) (fun τ => (F_X12_lay_235 rc7 x2 τ)))
set_option maxRecDepth 20000 in
theorem zb_X12_lay_230 {S : Shp} {rc7 : Int32 → Mm → Option (Mm)} (hrc7 : ∀ {x2 : Int32} {σ : Mm} {r : Mm}, rc7 x2 σ = some r → Z m_X12_lay S (Qv r) 7 [(0, .ref (sL S 3 0 0)), (2, .int (x2))] [] σ) {x2 : Int32} {σ : Mm} {r : Mm} (h : F_X12_lay_230 rc7 x2 σ = some r) : Z m_X12_lay S (Qv r) 230 [(0, .ref (sL S 3 0 0)), (2, .int (x2))] [] σ := by
  unfold F_X12_lay_230 at h
  refine z_aload_n dX12_lay_230 rfl 0 rfl ?_
  refine z_iload_n dX12_lay_231 rfl 1 rfl ?_
  obtain ⟨τ, hc, h⟩ := bnv_e h
  refine z_callV (M' := m_X12_look) (t := 3) (i := 0) (k := 0) (As := [.int (x2)]) (rest := []) kl_12_435 oy_X12_look ⟨Nat.le_of_ble_eq_true rfl, Nat.le_of_ble_eq_true rfl⟩ rfl rfl rfl rfl (Nat.le_of_ble_eq_true rfl) rfl dX12_lay_232 (c_X12_look hc) (fun v2 τ2 hq => ?_)
  obtain ⟨rfl, hτ⟩ := hq
  subst τ2
  change Z _ _ _ _ _ [] _
  exact zb_X12_lay_235 hrc7 h
def F_X12_lay_229 (rc7 : Int32 → Mm → Option (Mm)) (x2 : Int32) (s0 : Int32) (s1 : Int32) (σ : Mm) : Option (Mm) := (if inb s1 196 = true then (F_X12_lay_230 rc7 x2 (setA σ 3 0 55 (upd (mA σ 3 0 55) s1.toNatClampNeg (vp_nar .boolean s0)))) else none)
set_option maxRecDepth 20000 in
theorem zb_X12_lay_229 {S : Shp} {rc7 : Int32 → Mm → Option (Mm)} (hrc7 : ∀ {x2 : Int32} {σ : Mm} {r : Mm}, rc7 x2 σ = some r → Z m_X12_lay S (Qv r) 7 [(0, .ref (sL S 3 0 0)), (2, .int (x2))] [] σ) {x2 : Int32} {s0 : Int32} {s1 : Int32} {σ : Mm} {r : Mm} (h : F_X12_lay_229 rc7 x2 s0 s1 σ = some r) : Z m_X12_lay S (Qv r) 229 [(0, .ref (sL S 3 0 0)), (2, .int (x2))] [.int (s0), .int (s1), .ref (sL S 3 0 55)] σ := by
  unfold F_X12_lay_229 at h
  obtain ⟨g19, h⟩ := gd h
  refine is_3_55 (inb_in g19) dX12_lay_229 ?_
  exact zb_X12_lay_230 hrc7 h
def F_X12_lay_210 (rc7 : Int32 → Mm → Option (Mm)) (x2 : Int32) (σ : Mm) : Option (Mm) := (if inb 0 5 = true then (if (mA σ 3 0 25 (0 : Int32).toNatClampNeg) = 0 then (F_X12_lay_229 rc7 x2 1 x2 σ) else (F_X12_lay_229 rc7 x2 0 x2 σ)) else none)
set_option maxRecDepth 20000 in
theorem zb_X12_lay_210 {S : Shp} {rc7 : Int32 → Mm → Option (Mm)} (hrc7 : ∀ {x2 : Int32} {σ : Mm} {r : Mm}, rc7 x2 σ = some r → Z m_X12_lay S (Qv r) 7 [(0, .ref (sL S 3 0 0)), (2, .int (x2))] [] σ) {x2 : Int32} {σ : Mm} {r : Mm} (h : F_X12_lay_210 rc7 x2 σ = some r) : Z m_X12_lay S (Qv r) 210 [(0, .ref (sL S 3 0 0)), (2, .int (x2))] [] σ := by
  unfold F_X12_lay_210 at h
  obtain ⟨g18, h⟩ := gd h
  refine z_aload_n dX12_lay_210 rfl 0 rfl ?_
  refine gf_12_178 rfl dX12_lay_211 ?_
  refine z_iload_n dX12_lay_214 rfl 1 rfl ?_
  refine z_aload_n dX12_lay_215 rfl 0 rfl ?_
  refine gf_12_88 rfl dX12_lay_216 ?_
  refine z_iconst (v := 0) dX12_lay_219 (by decide) ?_
  refine ia_3_25 (inb_in g18) dX12_lay_220 ?_
  refine z_if_ne (tgt := 228) dX12_lay_221 (by decide) (fun q => ?_) (fun q => ?_)
  · have h := (if_neg q).symm.trans h
    refine z_iconst (v := 0) dX12_lay_228 (by decide) ?_
    exact zb_X12_lay_229 hrc7 h
  · have h := (if_pos q).symm.trans h
    refine z_iconst (v := 1) dX12_lay_224 (by decide) ?_
    refine z_goto (tgt := 229) dX12_lay_225 (by decide) ?_
    exact zb_X12_lay_229 hrc7 h
def F_X12_lay_209 (rc7 : Int32 → Mm → Option (Mm)) (x2 : Int32) (s0 : Int32) (s1 : Int32) (σ : Mm) : Option (Mm) := (if inb s1 196 = true then (F_X12_lay_210 rc7 x2 (setA σ 3 0 54 (upd (mA σ 3 0 54) s1.toNatClampNeg s0))) else none)
set_option maxRecDepth 20000 in
theorem zb_X12_lay_209 {S : Shp} {rc7 : Int32 → Mm → Option (Mm)} (hrc7 : ∀ {x2 : Int32} {σ : Mm} {r : Mm}, rc7 x2 σ = some r → Z m_X12_lay S (Qv r) 7 [(0, .ref (sL S 3 0 0)), (2, .int (x2))] [] σ) {x2 : Int32} {s0 : Int32} {s1 : Int32} {σ : Mm} {r : Mm} (h : F_X12_lay_209 rc7 x2 s0 s1 σ = some r) : Z m_X12_lay S (Qv r) 209 [(0, .ref (sL S 3 0 0)), (2, .int (x2))] [.int (s0), .int (s1), .ref (sL S 3 0 54)] σ := by
  unfold F_X12_lay_209 at h
  obtain ⟨g17, h⟩ := gd h
  refine is_3_54 (inb_in g17) dX12_lay_209 ?_
  exact zb_X12_lay_210 hrc7 h
def F_X12_lay_178 (rc7 : Int32 → Mm → Option (Mm)) (x2 : Int32) (x5 : Int32) (x6 : Int32) (σ : Mm) : Option (Mm) := (if (f_X12_plain x5) ≤ (f_X12_plain x6) then (F_X12_lay_209 rc7 x2 (f_X12_plain x6) x2 σ) else (F_X12_lay_209 rc7 x2 (f_X12_plain x5) x2 σ))
set_option maxRecDepth 20000 in
theorem zb_X12_lay_178 {S : Shp} {rc7 : Int32 → Mm → Option (Mm)} (hrc7 : ∀ {x2 : Int32} {σ : Mm} {r : Mm}, rc7 x2 σ = some r → Z m_X12_lay S (Qv r) 7 [(0, .ref (sL S 3 0 0)), (2, .int (x2))] [] σ) {x2 : Int32} {x5 : Int32} {x6 : Int32} {σ : Mm} {r : Mm} (h : F_X12_lay_178 rc7 x2 x5 x6 σ = some r) : Z m_X12_lay S (Qv r) 178 [(0, .ref (sL S 3 0 0)), (2, .int (x2)), (5, .int (x5)), (6, .int (x6))] [] σ := by
  unfold F_X12_lay_178 at h
  refine z_aload_n dX12_lay_178 rfl 0 rfl ?_
  refine gf_12_175 rfl dX12_lay_179 ?_
  refine z_iload_n dX12_lay_182 rfl 1 rfl ?_
  refine z_iload dX12_lay_183 2 rfl ?_
  refine z_callS (M' := m_X12_plain) (As := [.int (x5)]) (rest := [.int (x2), .ref (sL S 3 0 54)]) kl_12_425 oy_X12_plain ⟨Nat.le_of_ble_eq_true rfl, Nat.le_of_ble_eq_true rfl⟩ rfl (Nat.le_of_ble_eq_true rfl) rfl dX12_lay_185 (c_X12_plain rfl) (fun v τ hq => ?_)
  obtain ⟨rfl, hτ⟩ := hq
  subst τ
  change Z _ _ _ _ _ [.int (f_X12_plain x5), .int (x2), .ref (sL S 3 0 54)] _
  refine z_iload dX12_lay_188 3 rfl ?_
  refine z_callS (M' := m_X12_plain) (As := [.int (x6)]) (rest := [.int (f_X12_plain x5), .int (x2), .ref (sL S 3 0 54)]) kl_12_425 oy_X12_plain ⟨Nat.le_of_ble_eq_true rfl, Nat.le_of_ble_eq_true rfl⟩ rfl (Nat.le_of_ble_eq_true rfl) rfl dX12_lay_190 (c_X12_plain rfl) (fun v τ hq => ?_)
  obtain ⟨rfl, hτ⟩ := hq
  subst τ
  change Z _ _ _ _ _ [.int (f_X12_plain x6), .int (f_X12_plain x5), .int (x2), .ref (sL S 3 0 54)] _
  refine z_icmp_le (tgt := 204) dX12_lay_193 (by decide) (fun q => ?_) (fun q => ?_)
  · have h := (if_pos q).symm.trans h
    refine z_iload dX12_lay_204 3 rfl ?_
    refine z_callS (M' := m_X12_plain) (As := [.int (x6)]) (rest := [.int (x2), .ref (sL S 3 0 54)]) kl_12_425 oy_X12_plain ⟨Nat.le_of_ble_eq_true rfl, Nat.le_of_ble_eq_true rfl⟩ rfl (Nat.le_of_ble_eq_true rfl) rfl dX12_lay_206 (c_X12_plain rfl) (fun v τ hq => ?_)
    obtain ⟨rfl, hτ⟩ := hq
    subst τ
    change Z _ _ _ _ _ [.int (f_X12_plain x6), .int (x2), .ref (sL S 3 0 54)] _
    refine Z.lv [0, 1] rfl ?_
    exact zb_X12_lay_209 hrc7 h
  · have h := (if_neg q).symm.trans h
    refine z_iload dX12_lay_196 2 rfl ?_
    refine z_callS (M' := m_X12_plain) (As := [.int (x5)]) (rest := [.int (x2), .ref (sL S 3 0 54)]) kl_12_425 oy_X12_plain ⟨Nat.le_of_ble_eq_true rfl, Nat.le_of_ble_eq_true rfl⟩ rfl (Nat.le_of_ble_eq_true rfl) rfl dX12_lay_198 (c_X12_plain rfl) (fun v τ hq => ?_)
    obtain ⟨rfl, hτ⟩ := hq
    subst τ
    change Z _ _ _ _ _ [.int (f_X12_plain x5), .int (x2), .ref (sL S 3 0 54)] _
    refine z_goto (tgt := 209) dX12_lay_201 (by decide) ?_
    refine Z.lv [0, 1] rfl ?_
    exact zb_X12_lay_209 hrc7 h
def F_X12_lay_177 (rc7 : Int32 → Mm → Option (Mm)) (x2 : Int32) (x5 : Int32) (x6 : Int32) (s0 : Int32) (s1 : Int32) (σ : Mm) : Option (Mm) := (if inb s1 196 = true then (F_X12_lay_178 rc7 x2 x5 x6 (setA σ 3 0 53 (upd (mA σ 3 0 53) s1.toNatClampNeg s0))) else none)
set_option maxRecDepth 20000 in
theorem zb_X12_lay_177 {S : Shp} {rc7 : Int32 → Mm → Option (Mm)} (hrc7 : ∀ {x2 : Int32} {σ : Mm} {r : Mm}, rc7 x2 σ = some r → Z m_X12_lay S (Qv r) 7 [(0, .ref (sL S 3 0 0)), (2, .int (x2))] [] σ) {x2 : Int32} {x5 : Int32} {x6 : Int32} {s0 : Int32} {s1 : Int32} {σ : Mm} {r : Mm} (h : F_X12_lay_177 rc7 x2 x5 x6 s0 s1 σ = some r) : Z m_X12_lay S (Qv r) 177 [(0, .ref (sL S 3 0 0)), (2, .int (x2)), (5, .int (x5)), (6, .int (x6))] [.int (s0), .int (s1), .ref (sL S 3 0 53)] σ := by
  unfold F_X12_lay_177 at h
  obtain ⟨g16, h⟩ := gd h
  refine is_3_53 (inb_in g16) dX12_lay_177 ?_
  exact zb_X12_lay_178 hrc7 h
def F_X12_lay_165 (rc7 : Int32 → Mm → Option (Mm)) (x2 : Int32) (x5 : Int32) (x6 : Int32) (σ : Mm) : Option (Mm) := (bnd (F_X12_degreeOf x5 x6 σ) (fun v τ => (F_X12_lay_177 rc7 x2 x5 x6 v x2 τ)))
set_option maxRecDepth 20000 in
theorem zb_X12_lay_165 {S : Shp} {rc7 : Int32 → Mm → Option (Mm)} (hrc7 : ∀ {x2 : Int32} {σ : Mm} {r : Mm}, rc7 x2 σ = some r → Z m_X12_lay S (Qv r) 7 [(0, .ref (sL S 3 0 0)), (2, .int (x2))] [] σ) {x2 : Int32} {x5 : Int32} {x6 : Int32} {σ : Mm} {r : Mm} (h : F_X12_lay_165 rc7 x2 x5 x6 σ = some r) : Z m_X12_lay S (Qv r) 165 [(0, .ref (sL S 3 0 0)), (2, .int (x2)), (5, .int (x5)), (6, .int (x6))] [] σ := by
  unfold F_X12_lay_165 at h
  refine z_aload_n dX12_lay_165 rfl 0 rfl ?_
  refine gf_12_172 rfl dX12_lay_166 ?_
  refine z_iload_n dX12_lay_169 rfl 1 rfl ?_
  refine z_iload dX12_lay_170 2 rfl ?_
  refine z_iload dX12_lay_172 3 rfl ?_
  obtain ⟨v, τ, hc, h⟩ := bnd_e h
  refine z_callS (M' := m_X12_degreeOf) (As := [.int (x5), .int (x6)]) (rest := [.int (x2), .ref (sL S 3 0 53)]) kl_12_431 oy_X12_degreeOf ⟨Nat.le_of_ble_eq_true rfl, Nat.le_of_ble_eq_true rfl⟩ rfl (Nat.le_of_ble_eq_true rfl) rfl dX12_lay_174 (c_X12_degreeOf hc) (fun v2 τ2 hq => ?_)
  obtain ⟨rfl, hτ⟩ := hq
  subst τ2
  change Z _ _ _ _ _ [.int (v), .int (x2), .ref (sL S 3 0 53)] _
  exact zb_X12_lay_177 hrc7 h
def F_X12_lay_149 (rc7 : Int32 → Mm → Option (Mm)) (x2 : Int32) (x3 : Int32) (x4 : Int32) (x5 : Int32) (σ : Mm) : Option (Mm) := (if inb x4 14 = true then (if inb x3 14 = true then (F_X12_lay_165 rc7 x2 x5 ((mA σ 3 0 49 x4.toNatClampNeg) - (mA σ 3 0 49 x3.toNatClampNeg)) σ) else none) else none)
set_option maxRecDepth 20000 in
theorem zb_X12_lay_149 {S : Shp} {rc7 : Int32 → Mm → Option (Mm)} (hrc7 : ∀ {x2 : Int32} {σ : Mm} {r : Mm}, rc7 x2 σ = some r → Z m_X12_lay S (Qv r) 7 [(0, .ref (sL S 3 0 0)), (2, .int (x2))] [] σ) {x2 : Int32} {x3 : Int32} {x4 : Int32} {x5 : Int32} {σ : Mm} {r : Mm} (h : F_X12_lay_149 rc7 x2 x3 x4 x5 σ = some r) : Z m_X12_lay S (Qv r) 149 [(0, .ref (sL S 3 0 0)), (2, .int (x2)), (3, .int (x3)), (4, .int (x4)), (5, .int (x5))] [] σ := by
  unfold F_X12_lay_149 at h
  obtain ⟨g14, h⟩ := gd h
  refine z_aload_n dX12_lay_149 rfl 0 rfl ?_
  refine gf_12_160 rfl dX12_lay_150 ?_
  refine z_iload dX12_lay_153 3 rfl ?_
  obtain ⟨g15, h⟩ := gd h
  refine ia_3_49 (inb_in g14) dX12_lay_155 ?_
  refine z_aload_n dX12_lay_156 rfl 0 rfl ?_
  refine gf_12_160 rfl dX12_lay_157 ?_
  refine z_iload_n dX12_lay_160 rfl 2 rfl ?_
  refine ia_3_49 (inb_in g15) dX12_lay_161 ?_
  refine z_isub dX12_lay_162 ?_
  refine z_istore (lv' := [(0, .ref (sL S 3 0 0)), (2, .int (x2)), (3, .int (x3)), (4, .int (x4)), (5, .int (x5)), (6, .int ((mA σ 3 0 49 x4.toNatClampNeg) - (mA σ 3 0 49 x3.toNatClampNeg)))]) dX12_lay_163 (by decide) [1, 2, 3, 4, 5, 0] rfl ?_
  refine Z.lv [0, 1, 4, 5] rfl ?_
  exact zb_X12_lay_165 hrc7 h
def F_X12_lay_121 (rc7 : Int32 → Mm → Option (Mm)) (x2 : Int32) (x3 : Int32) (x4 : Int32) (σ : Mm) : Option (Mm) := (if inb x2 196 = true then (if (mA σ 3 0 52 x2.toNatClampNeg) = 0 then (F_X12_lay_288 rc7 x2 σ) else (if inb x4 14 = true then (if inb x3 14 = true then (F_X12_lay_149 rc7 x2 x3 x4 ((mA σ 3 0 48 x4.toNatClampNeg) - (mA σ 3 0 48 x3.toNatClampNeg)) σ) else none) else none)) else none)
set_option maxRecDepth 20000 in
theorem zb_X12_lay_121 {S : Shp} {rc7 : Int32 → Mm → Option (Mm)} (hrc7 : ∀ {x2 : Int32} {σ : Mm} {r : Mm}, rc7 x2 σ = some r → Z m_X12_lay S (Qv r) 7 [(0, .ref (sL S 3 0 0)), (2, .int (x2))] [] σ) {x2 : Int32} {x3 : Int32} {x4 : Int32} {σ : Mm} {r : Mm} (h : F_X12_lay_121 rc7 x2 x3 x4 σ = some r) : Z m_X12_lay S (Qv r) 121 [(0, .ref (sL S 3 0 0)), (2, .int (x2)), (3, .int (x3)), (4, .int (x4))] [] σ := by
  unfold F_X12_lay_121 at h
  obtain ⟨g11, h⟩ := gd h
  refine z_aload_n dX12_lay_121 rfl 0 rfl ?_
  refine gf_12_169 rfl dX12_lay_122 ?_
  refine z_iload_n dX12_lay_125 rfl 1 rfl ?_
  refine ia_3_52 (inb_in g11) dX12_lay_126 ?_
  refine z_if_ne (tgt := 133) dX12_lay_127 (by decide) (fun q => ?_) (fun q => ?_)
  · have h := (if_neg q).symm.trans h
    obtain ⟨g12, h⟩ := gd h
    refine z_aload_n dX12_lay_133 rfl 0 rfl ?_
    refine gf_12_157 rfl dX12_lay_134 ?_
    refine z_iload dX12_lay_137 3 rfl ?_
    obtain ⟨g13, h⟩ := gd h
    refine ia_3_48 (inb_in g12) dX12_lay_139 ?_
    refine z_aload_n dX12_lay_140 rfl 0 rfl ?_
    refine gf_12_157 rfl dX12_lay_141 ?_
    refine z_iload_n dX12_lay_144 rfl 2 rfl ?_
    refine ia_3_48 (inb_in g13) dX12_lay_145 ?_
    refine z_isub dX12_lay_146 ?_
    refine z_istore (lv' := [(0, .ref (sL S 3 0 0)), (2, .int (x2)), (3, .int (x3)), (4, .int (x4)), (5, .int ((mA σ 3 0 48 x4.toNatClampNeg) - (mA σ 3 0 48 x3.toNatClampNeg)))]) dX12_lay_147 (by decide) [1, 2, 3, 4, 0] rfl ?_
    exact zb_X12_lay_149 hrc7 h
  · have h := (if_pos q).symm.trans h
    refine z_goto (tgt := 288) dX12_lay_130 (by decide) ?_
    refine Z.lv [0, 1] rfl ?_
    exact zb_X12_lay_288 hrc7 h
def F_X12_lay_114 (rc7 : Int32 → Mm → Option (Mm)) (x2 : Int32) (x3 : Int32) (x4 : Int32) (σ : Mm) : Option (Mm) := (if inb x2 196 = true then (F_X12_lay_121 rc7 x2 x3 x4 (setA σ 3 0 55 (upd (mA σ 3 0 55) x2.toNatClampNeg (vp_nar .boolean 0)))) else none)
set_option maxRecDepth 20000 in
theorem zb_X12_lay_114 {S : Shp} {rc7 : Int32 → Mm → Option (Mm)} (hrc7 : ∀ {x2 : Int32} {σ : Mm} {r : Mm}, rc7 x2 σ = some r → Z m_X12_lay S (Qv r) 7 [(0, .ref (sL S 3 0 0)), (2, .int (x2))] [] σ) {x2 : Int32} {x3 : Int32} {x4 : Int32} {σ : Mm} {r : Mm} (h : F_X12_lay_114 rc7 x2 x3 x4 σ = some r) : Z m_X12_lay S (Qv r) 114 [(0, .ref (sL S 3 0 0)), (2, .int (x2)), (3, .int (x3)), (4, .int (x4))] [] σ := by
  unfold F_X12_lay_114 at h
  obtain ⟨g10, h⟩ := gd h
  refine z_aload_n dX12_lay_114 rfl 0 rfl ?_
  refine gf_12_178 rfl dX12_lay_115 ?_
  refine z_iload_n dX12_lay_118 rfl 1 rfl ?_
  refine z_iconst (v := 0) dX12_lay_119 (by decide) ?_
  refine is_3_55 (inb_in g10) dX12_lay_120 ?_
  exact zb_X12_lay_121 hrc7 h
def F_X12_lay_113 (rc7 : Int32 → Mm → Option (Mm)) (x2 : Int32) (x3 : Int32) (x4 : Int32) (s0 : Int32) (s1 : Int32) (σ : Mm) : Option (Mm) := (if inb s1 196 = true then (F_X12_lay_114 rc7 x2 x3 x4 (setA σ 3 0 52 (upd (mA σ 3 0 52) s1.toNatClampNeg (vp_nar .boolean s0)))) else none)
set_option maxRecDepth 20000 in
theorem zb_X12_lay_113 {S : Shp} {rc7 : Int32 → Mm → Option (Mm)} (hrc7 : ∀ {x2 : Int32} {σ : Mm} {r : Mm}, rc7 x2 σ = some r → Z m_X12_lay S (Qv r) 7 [(0, .ref (sL S 3 0 0)), (2, .int (x2))] [] σ) {x2 : Int32} {x3 : Int32} {x4 : Int32} {s0 : Int32} {s1 : Int32} {σ : Mm} {r : Mm} (h : F_X12_lay_113 rc7 x2 x3 x4 s0 s1 σ = some r) : Z m_X12_lay S (Qv r) 113 [(0, .ref (sL S 3 0 0)), (2, .int (x2)), (3, .int (x3)), (4, .int (x4))] [.int (s0), .int (s1), .ref (sL S 3 0 52)] σ := by
  unfold F_X12_lay_113 at h
  obtain ⟨g9, h⟩ := gd h
  refine is_3_52 (inb_in g9) dX12_lay_113 ?_
  exact zb_X12_lay_114 hrc7 h
def F_X12_lay_112 (rc7 : Int32 → Mm → Option (Mm)) (x2 : Int32) (x3 : Int32) (x4 : Int32) (s0 : Int32) (σ : Mm) : Option (Mm) := (F_X12_lay_113 rc7 x2 x3 x4 0 s0 σ)
set_option maxRecDepth 20000 in
theorem zb_X12_lay_112 {S : Shp} {rc7 : Int32 → Mm → Option (Mm)} (hrc7 : ∀ {x2 : Int32} {σ : Mm} {r : Mm}, rc7 x2 σ = some r → Z m_X12_lay S (Qv r) 7 [(0, .ref (sL S 3 0 0)), (2, .int (x2))] [] σ) {x2 : Int32} {x3 : Int32} {x4 : Int32} {s0 : Int32} {σ : Mm} {r : Mm} (h : F_X12_lay_112 rc7 x2 x3 x4 s0 σ = some r) : Z m_X12_lay S (Qv r) 112 [(0, .ref (sL S 3 0 0)), (2, .int (x2)), (3, .int (x3)), (4, .int (x4))] [.int (s0), .ref (sL S 3 0 52)] σ := by
  unfold F_X12_lay_112 at h
  refine z_iconst (v := 0) dX12_lay_112 (by decide) ?_
  exact zb_X12_lay_113 hrc7 h
def F_X12_lay_108 (rc7 : Int32 → Mm → Option (Mm)) (x2 : Int32) (x3 : Int32) (x4 : Int32) (s0 : Int32) (σ : Mm) : Option (Mm) := (F_X12_lay_113 rc7 x2 x3 x4 1 s0 σ)
set_option maxRecDepth 20000 in
theorem zb_X12_lay_108 {S : Shp} {rc7 : Int32 → Mm → Option (Mm)} (hrc7 : ∀ {x2 : Int32} {σ : Mm} {r : Mm}, rc7 x2 σ = some r → Z m_X12_lay S (Qv r) 7 [(0, .ref (sL S 3 0 0)), (2, .int (x2))] [] σ) {x2 : Int32} {x3 : Int32} {x4 : Int32} {s0 : Int32} {σ : Mm} {r : Mm} (h : F_X12_lay_108 rc7 x2 x3 x4 s0 σ = some r) : Z m_X12_lay S (Qv r) 108 [(0, .ref (sL S 3 0 0)), (2, .int (x2)), (3, .int (x3)), (4, .int (x4))] [.int (s0), .ref (sL S 3 0 52)] σ := by
  unfold F_X12_lay_108 at h
  refine z_iconst (v := 1) dX12_lay_108 (by decide) ?_
  refine z_goto (tgt := 113) dX12_lay_109 (by decide) ?_
  exact zb_X12_lay_113 hrc7 h
def F_X12_lay_25 (rc7 : Int32 → Mm → Option (Mm)) (x2 : Int32) (x3 : Int32) (x4 : Int32) (σ : Mm) : Option (Mm) := (if x3 = x4 then (F_X12_lay_112 rc7 x2 x3 x4 x2 σ) else (if inb 0 5 = true then (if (mA σ 3 0 8 (0 : Int32).toNatClampNeg) ≤ x3 then (F_X12_lay_112 rc7 x2 x3 x4 x2 σ) else (if inb 0 5 = true then (if (mA σ 3 0 8 (0 : Int32).toNatClampNeg) ≤ x4 then (F_X12_lay_112 rc7 x2 x3 x4 x2 σ) else (if inb x3 14 = true then (if (mA σ 3 0 51 x3.toNatClampNeg) = 0 then (if inb x4 14 = true then (if (mA σ 3 0 51 x4.toNatClampNeg) = 0 then (if inb x3 14 = true then (if inb x4 14 = true then (if (mA σ 3 0 48 x3.toNatClampNeg) = (mA σ 3 0 48 x4.toNatClampNeg) then (if inb x3 14 = true then (if inb x4 14 = true then (if (mA σ 3 0 49 x3.toNatClampNeg) = (mA σ 3 0 49 x4.toNatClampNeg) then (F_X12_lay_112 rc7 x2 x3 x4 x2 σ) else (F_X12_lay_108 rc7 x2 x3 x4 x2 σ)) else none) else none) else (F_X12_lay_108 rc7 x2 x3 x4 x2 σ)) else none) else none) else (F_X12_lay_112 rc7 x2 x3 x4 x2 σ)) else none) else (F_X12_lay_112 rc7 x2 x3 x4 x2 σ)) else none)) else none)) else none))
set_option maxRecDepth 20000 in
theorem zb_X12_lay_25 {S : Shp} {rc7 : Int32 → Mm → Option (Mm)} (hrc7 : ∀ {x2 : Int32} {σ : Mm} {r : Mm}, rc7 x2 σ = some r → Z m_X12_lay S (Qv r) 7 [(0, .ref (sL S 3 0 0)), (2, .int (x2))] [] σ) {x2 : Int32} {x3 : Int32} {x4 : Int32} {σ : Mm} {r : Mm} (h : F_X12_lay_25 rc7 x2 x3 x4 σ = some r) : Z m_X12_lay S (Qv r) 25 [(0, .ref (sL S 3 0 0)), (2, .int (x2)), (3, .int (x3)), (4, .int (x4))] [] σ := by
  unfold F_X12_lay_25 at h
  refine z_aload_n dX12_lay_25 rfl 0 rfl ?_
  refine gf_12_169 rfl dX12_lay_26 ?_
  refine z_iload_n dX12_lay_29 rfl 1 rfl ?_
  refine z_iload_n dX12_lay_30 rfl 2 rfl ?_
  refine z_iload dX12_lay_31 3 rfl ?_
  refine z_icmp_eq (tgt := 112) dX12_lay_33 (by decide) (fun q => ?_) (fun q => ?_)
  · have h := (if_pos q).symm.trans h
    exact zb_X12_lay_112 hrc7 h
  · have h := (if_neg q).symm.trans h
    obtain ⟨g1, h⟩ := gd h
    refine z_iload_n dX12_lay_36 rfl 2 rfl ?_
    refine z_aload_n dX12_lay_37 rfl 0 rfl ?_
    refine gf_12_37 rfl dX12_lay_38 ?_
    refine z_iconst (v := 0) dX12_lay_41 (by decide) ?_
    refine ia_3_8 (inb_in g1) dX12_lay_42 ?_
    refine z_icmp_ge (tgt := 112) dX12_lay_43 (by decide) (fun q => ?_) (fun q => ?_)
    · have h := (if_pos q).symm.trans h
      exact zb_X12_lay_112 hrc7 h
    · have h := (if_neg q).symm.trans h
      obtain ⟨g2, h⟩ := gd h
      refine z_iload dX12_lay_46 3 rfl ?_
      refine z_aload_n dX12_lay_48 rfl 0 rfl ?_
      refine gf_12_37 rfl dX12_lay_49 ?_
      refine z_iconst (v := 0) dX12_lay_52 (by decide) ?_
      refine ia_3_8 (inb_in g2) dX12_lay_53 ?_
      refine z_icmp_ge (tgt := 112) dX12_lay_54 (by decide) (fun q => ?_) (fun q => ?_)
      · have h := (if_pos q).symm.trans h
        exact zb_X12_lay_112 hrc7 h
      · have h := (if_neg q).symm.trans h
        obtain ⟨g3, h⟩ := gd h
        refine z_aload_n dX12_lay_57 rfl 0 rfl ?_
        refine gf_12_166 rfl dX12_lay_58 ?_
        refine z_iload_n dX12_lay_61 rfl 2 rfl ?_
        refine ia_3_51 (inb_in g3) dX12_lay_62 ?_
        refine z_if_ne (tgt := 112) dX12_lay_63 (by decide) (fun q => ?_) (fun q => ?_)
        · have h := (if_neg q).symm.trans h
          exact zb_X12_lay_112 hrc7 h
        · have h := (if_pos q).symm.trans h
          obtain ⟨g4, h⟩ := gd h
          refine z_aload_n dX12_lay_66 rfl 0 rfl ?_
          refine gf_12_166 rfl dX12_lay_67 ?_
          refine z_iload dX12_lay_70 3 rfl ?_
          refine ia_3_51 (inb_in g4) dX12_lay_72 ?_
          refine z_if_ne (tgt := 112) dX12_lay_73 (by decide) (fun q => ?_) (fun q => ?_)
          · have h := (if_neg q).symm.trans h
            exact zb_X12_lay_112 hrc7 h
          · have h := (if_pos q).symm.trans h
            obtain ⟨g5, h⟩ := gd h
            refine z_aload_n dX12_lay_76 rfl 0 rfl ?_
            refine gf_12_157 rfl dX12_lay_77 ?_
            refine z_iload_n dX12_lay_80 rfl 2 rfl ?_
            obtain ⟨g6, h⟩ := gd h
            refine ia_3_48 (inb_in g5) dX12_lay_81 ?_
            refine z_aload_n dX12_lay_82 rfl 0 rfl ?_
            refine gf_12_157 rfl dX12_lay_83 ?_
            refine z_iload dX12_lay_86 3 rfl ?_
            refine ia_3_48 (inb_in g6) dX12_lay_88 ?_
            refine z_icmp_ne (tgt := 108) dX12_lay_89 (by decide) (fun q => ?_) (fun q => ?_)
            · have h := (if_neg q).symm.trans h
              exact zb_X12_lay_108 hrc7 h
            · have h := (if_pos q).symm.trans h
              obtain ⟨g7, h⟩ := gd h
              refine z_aload_n dX12_lay_92 rfl 0 rfl ?_
              refine gf_12_160 rfl dX12_lay_93 ?_
              refine z_iload_n dX12_lay_96 rfl 2 rfl ?_
              obtain ⟨g8, h⟩ := gd h
              refine ia_3_49 (inb_in g7) dX12_lay_97 ?_
              refine z_aload_n dX12_lay_98 rfl 0 rfl ?_
              refine gf_12_160 rfl dX12_lay_99 ?_
              refine z_iload dX12_lay_102 3 rfl ?_
              refine ia_3_49 (inb_in g8) dX12_lay_104 ?_
              refine z_icmp_eq (tgt := 112) dX12_lay_105 (by decide) (fun q => ?_) (fun q => ?_)
              · have h := (if_pos q).symm.trans h
                exact zb_X12_lay_112 hrc7 h
              · have h := (if_neg q).symm.trans h
                exact zb_X12_lay_108 hrc7 h
def B_X12_lay_7 (rc7 : Int32 → Mm → Option (Mm)) (x2 : Int32) (σ : Mm) : Option (Mm) := (if (196 : Int32) ≤ x2 then some (σ) else (F_X12_lay_25 rc7 x2 (x2 / (14 : Int32)) (x2 - x2 / (14 : Int32) * (14 : Int32)) σ))
set_option maxRecDepth 20000 in
theorem zB_X12_lay_7 {S : Shp} {rc7 : Int32 → Mm → Option (Mm)} (hrc7 : ∀ {x2 : Int32} {σ : Mm} {r : Mm}, rc7 x2 σ = some r → Z m_X12_lay S (Qv r) 7 [(0, .ref (sL S 3 0 0)), (2, .int (x2))] [] σ) {x2 : Int32} {σ : Mm} {r : Mm} (h : B_X12_lay_7 rc7 x2 σ = some r) : Z m_X12_lay S (Qv r) 7 [(0, .ref (sL S 3 0 0)), (2, .int (x2))] [] σ := by
  unfold B_X12_lay_7 at h
  refine z_iload_n dX12_lay_7 rfl 1 rfl ?_
  refine z_sipush (v := 196) dX12_lay_8 (by decide) ?_
  refine z_icmp_ge (tgt := 294) dX12_lay_11 (by decide) (fun q => ?_) (fun q => ?_)
  · have h := (if_pos q).symm.trans h
    cases h
    exact z_return dX12_lay_294 rfl ⟨rfl, rfl⟩
  · have h := (if_neg q).symm.trans h
    refine z_iload_n dX12_lay_14 rfl 1 rfl ?_
    refine z_bipush (v := 14) dX12_lay_15 (by decide) ?_
    refine z_idiv dX12_lay_17 (by decide) ?_
    refine z_istore_n (lv' := [(0, .ref (sL S 3 0 0)), (2, .int (x2)), (3, .int (x2 / (14 : Int32)))]) dX12_lay_18 rfl (by decide) [1, 2, 0] rfl ?_
    refine z_iload_n dX12_lay_19 rfl 1 rfl ?_
    refine z_bipush (v := 14) dX12_lay_20 (by decide) ?_
    refine z_irem dX12_lay_22 (by decide) ?_
    refine z_istore (lv' := [(0, .ref (sL S 3 0 0)), (2, .int (x2)), (3, .int (x2 / (14 : Int32))), (4, .int (x2 - x2 / (14 : Int32) * (14 : Int32)))]) dX12_lay_23 (by decide) [1, 2, 3, 0] rfl ?_
    exact zb_X12_lay_25 hrc7 h
def F_X12_lay_7 : Nat → Int32 → Mm → Option (Mm)
  | 0 => fun _ _ => none
  | n + 1 => B_X12_lay_7 (F_X12_lay_7 n)
theorem zl_X12_lay_7 {S : Shp} : ∀ (nn : Nat) {x2 : Int32} {σ : Mm} {r : Mm}, F_X12_lay_7 nn x2 σ = some r → Z m_X12_lay S (Qv r) 7 [(0, .ref (sL S 3 0 0)), (2, .int (x2))] [] σ := by
  intro nn
  induction nn with
  | zero => intro x2 σ r h; cases h
  | succ nn ih => intro x2 σ r h; exact zB_X12_lay_7 @ih h
def F_X12_lay_5 (σ : Mm) : Option (Mm) := (F_X12_lay_7 FU 0 σ)
set_option maxRecDepth 20000 in
theorem zb_X12_lay_5 {S : Shp} {σ : Mm} {r : Mm} (h : F_X12_lay_5 σ = some r) : Z m_X12_lay S (Qv r) 5 [(0, .ref (sL S 3 0 0))] [] σ := by
  unfold F_X12_lay_5 at h
  refine z_iconst (v := 0) dX12_lay_5 (by decide) ?_
  refine z_istore_n (lv' := [(0, .ref (sL S 3 0 0)), (2, .int (0))]) dX12_lay_6 rfl (by decide) [1, 0] rfl ?_
  exact zl_X12_lay_7 FU h
def F_X12_lay (x1 : Int32) (σ : Mm) : Option (Mm) := (bnv (F_X12_layThings x1 σ) (fun τ => (F_X12_lay_5 τ)))
set_option maxRecDepth 20000 in
theorem zb_X12_lay {S : Shp} {x1 : Int32} {σ : Mm} {r : Mm} (h : F_X12_lay x1 σ = some r) : Z m_X12_lay S (Qv r) 0 [(0, .ref (sL S 3 0 0)), (1, .int (x1))] [] σ := by
  unfold F_X12_lay at h
  refine z_aload_n dX12_lay_0 rfl 0 rfl ?_
  refine z_iload_n dX12_lay_1 rfl 1 rfl ?_
  obtain ⟨τ, hc, h⟩ := bnv_e h
  refine z_callV (M' := m_X12_layThings) (t := 3) (i := 0) (k := 0) (As := [.int (x1)]) (rest := []) kl_12_428 oy_X12_layThings ⟨Nat.le_of_ble_eq_true rfl, Nat.le_of_ble_eq_true rfl⟩ rfl rfl rfl rfl (Nat.le_of_ble_eq_true rfl) rfl dX12_lay_2 (c_X12_layThings hc) (fun v2 τ2 hq => ?_)
  obtain ⟨rfl, hτ⟩ := hq
  subst τ2
  change Z _ _ _ _ _ [] _
  refine Z.lv [0] rfl ?_
  exact zb_X12_lay_5 h
/-- SkyStonesModel.lay(I)V -/
theorem c_X12_lay {S : Shp} {x1 : Int32} {σ : Mm} {r : Mm} (h : F_X12_lay x1 σ = some r) : Ct m_X12_lay S [.ref (sL S 3 0 0), .int (x1)] σ (Qv r) := Ct.of (by decide +kernel) (Nat.le_of_ble_eq_true rfl) (zb_X12_lay h)
def F_X12_heightOf_81 (rc9 : Int32 → Int32 → Mm → Option (Int32 × Mm)) (x1 : Int32) (x2 : Int32) (s0 : Int32) (σ : Mm) : Option (Int32 × Mm) := (if s0 = 0 then (rc9 x1 (x2 + (-1)) σ) else (if inb x2 60 = true then some (mA σ 3 0 20 x2.toNatClampNeg, σ) else none))
set_option maxRecDepth 20000 in
theorem zb_X12_heightOf_81 {S : Shp} {rc9 : Int32 → Int32 → Mm → Option (Int32 × Mm)} (hrc9 : ∀ {x1 : Int32} {x2 : Int32} {σ : Mm} {r : Int32 × Mm}, rc9 x1 x2 σ = some r → Z m_X12_heightOf S (Qi r) 9 [(0, .ref (sL S 3 0 0)), (1, .int (x1)), (2, .int (x2))] [] σ) {x1 : Int32} {x2 : Int32} {s0 : Int32} {σ : Mm} {r : Int32 × Mm} (h : F_X12_heightOf_81 rc9 x1 x2 s0 σ = some r) : Z m_X12_heightOf S (Qi r) 81 [(0, .ref (sL S 3 0 0)), (1, .int (x1)), (2, .int (x2))] [.int (s0)] σ := by
  unfold F_X12_heightOf_81 at h
  refine z_istore_n (lv' := [(0, .ref (sL S 3 0 0)), (1, .int (x1)), (2, .int (x2)), (3, .int (s0))]) dX12_heightOf_81 rfl (by decide) [1, 2, 3, 0] rfl ?_
  refine z_iload_n dX12_heightOf_82 rfl 3 rfl ?_
  refine z_if_eq (tgt := 93) dX12_heightOf_83 (by decide) (fun q => ?_) (fun q => ?_)
  · have h := (if_pos q).symm.trans h
    refine z_iinc (j := 2) (v := x2 + (-1)) (lv' := [(0, .ref (sL S 3 0 0)), (1, .int (x1)), (2, .int (x2 + (-1))), (3, .int (s0))]) dX12_heightOf_93 rfl rfl (by decide) [1, 2, 0, 3] rfl ?_
    refine z_goto (tgt := 9) dX12_heightOf_96 (by decide) ?_
    refine Z.lv [0, 1, 2] rfl ?_
    exact hrc9 h
  · have h := (if_neg q).symm.trans h
    obtain ⟨g8, h⟩ := gd h
    refine z_aload_n dX12_heightOf_86 rfl 0 rfl ?_
    refine gf_12_73 rfl dX12_heightOf_87 ?_
    refine z_iload_n dX12_heightOf_90 rfl 2 rfl ?_
    refine ia_3_20 (inb_in g8) dX12_heightOf_91 ?_
    cases h
    exact z_ireturn dX12_heightOf_92 rfl rfl ⟨rfl, rfl⟩
def F_X12_heightOf_76 (rc9 : Int32 → Int32 → Mm → Option (Int32 × Mm)) (x1 : Int32) (x2 : Int32) (σ : Mm) : Option (Int32 × Mm) := (F_X12_heightOf_81 rc9 x1 x2 1 σ)
set_option maxRecDepth 20000 in
theorem zb_X12_heightOf_76 {S : Shp} {rc9 : Int32 → Int32 → Mm → Option (Int32 × Mm)} (hrc9 : ∀ {x1 : Int32} {x2 : Int32} {σ : Mm} {r : Int32 × Mm}, rc9 x1 x2 σ = some r → Z m_X12_heightOf S (Qi r) 9 [(0, .ref (sL S 3 0 0)), (1, .int (x1)), (2, .int (x2))] [] σ) {x1 : Int32} {x2 : Int32} {σ : Mm} {r : Int32 × Mm} (h : F_X12_heightOf_76 rc9 x1 x2 σ = some r) : Z m_X12_heightOf S (Qi r) 76 [(0, .ref (sL S 3 0 0)), (1, .int (x1)), (2, .int (x2))] [] σ := by
  unfold F_X12_heightOf_76 at h
  refine z_iconst (v := 1) dX12_heightOf_76 (by decide) ?_
  refine z_goto (tgt := 81) dX12_heightOf_77 (by decide) ?_
  exact zb_X12_heightOf_81 hrc9 h
def F_X12_heightOf_52 (rc9 : Int32 → Int32 → Mm → Option (Int32 × Mm)) (x1 : Int32) (x2 : Int32) (σ : Mm) : Option (Int32 × Mm) := (F_X12_heightOf_81 rc9 x1 x2 0 σ)
set_option maxRecDepth 20000 in
theorem zb_X12_heightOf_52 {S : Shp} {rc9 : Int32 → Int32 → Mm → Option (Int32 × Mm)} (hrc9 : ∀ {x1 : Int32} {x2 : Int32} {σ : Mm} {r : Int32 × Mm}, rc9 x1 x2 σ = some r → Z m_X12_heightOf S (Qi r) 9 [(0, .ref (sL S 3 0 0)), (1, .int (x1)), (2, .int (x2))] [] σ) {x1 : Int32} {x2 : Int32} {σ : Mm} {r : Int32 × Mm} (h : F_X12_heightOf_52 rc9 x1 x2 σ = some r) : Z m_X12_heightOf S (Qi r) 52 [(0, .ref (sL S 3 0 0)), (1, .int (x1)), (2, .int (x2))] [] σ := by
  unfold F_X12_heightOf_52 at h
  refine z_iconst (v := 0) dX12_heightOf_52 (by decide) ?_
  refine z_goto (tgt := 81) dX12_heightOf_53 (by decide) ?_
  exact zb_X12_heightOf_81 hrc9 h
def B_X12_heightOf_9 (rc9 : Int32 → Int32 → Mm → Option (Int32 × Mm)) (x1 : Int32) (x2 : Int32) (σ : Mm) : Option (Int32 × Mm) := (if x2 < 0 then some (0, σ) else (if inb x2 60 = true then (if inb x2 60 = true then (if (mA σ 3 0 19 x2.toNatClampNeg) < (mA σ 3 0 18 x2.toNatClampNeg) then (if inb x2 60 = true then (if (mA σ 3 0 18 x2.toNatClampNeg) ≤ x1 then (F_X12_heightOf_76 rc9 x1 x2 σ) else (if inb x2 60 = true then (if (mA σ 3 0 19 x2.toNatClampNeg) < x1 then (F_X12_heightOf_81 rc9 x1 x2 0 σ) else (F_X12_heightOf_76 rc9 x1 x2 σ)) else none)) else none) else (if inb x2 60 = true then (if x1 < (mA σ 3 0 18 x2.toNatClampNeg) then (F_X12_heightOf_52 rc9 x1 x2 σ) else (if inb x2 60 = true then (if (mA σ 3 0 19 x2.toNatClampNeg) < x1 then (F_X12_heightOf_52 rc9 x1 x2 σ) else (F_X12_heightOf_81 rc9 x1 x2 1 σ)) else none)) else none)) else none) else none))
set_option maxRecDepth 20000 in
theorem zB_X12_heightOf_9 {S : Shp} {rc9 : Int32 → Int32 → Mm → Option (Int32 × Mm)} (hrc9 : ∀ {x1 : Int32} {x2 : Int32} {σ : Mm} {r : Int32 × Mm}, rc9 x1 x2 σ = some r → Z m_X12_heightOf S (Qi r) 9 [(0, .ref (sL S 3 0 0)), (1, .int (x1)), (2, .int (x2))] [] σ) {x1 : Int32} {x2 : Int32} {σ : Mm} {r : Int32 × Mm} (h : B_X12_heightOf_9 rc9 x1 x2 σ = some r) : Z m_X12_heightOf S (Qi r) 9 [(0, .ref (sL S 3 0 0)), (1, .int (x1)), (2, .int (x2))] [] σ := by
  unfold B_X12_heightOf_9 at h
  refine z_iload_n dX12_heightOf_9 rfl 2 rfl ?_
  refine z_if_lt (tgt := 99) dX12_heightOf_10 (by decide) (fun q => ?_) (fun q => ?_)
  · have h := (if_pos q).symm.trans h
    refine z_iconst (v := 0) dX12_heightOf_99 (by decide) ?_
    cases h
    exact z_ireturn dX12_heightOf_100 rfl rfl ⟨rfl, rfl⟩
  · have h := (if_neg q).symm.trans h
    obtain ⟨g2, h⟩ := gd h
    refine z_aload_n dX12_heightOf_13 rfl 0 rfl ?_
    refine gf_12_67 rfl dX12_heightOf_14 ?_
    refine z_iload_n dX12_heightOf_17 rfl 2 rfl ?_
    obtain ⟨g3, h⟩ := gd h
    refine ia_3_18 (inb_in g2) dX12_heightOf_18 ?_
    refine z_aload_n dX12_heightOf_19 rfl 0 rfl ?_
    refine gf_12_70 rfl dX12_heightOf_20 ?_
    refine z_iload_n dX12_heightOf_23 rfl 2 rfl ?_
    refine ia_3_19 (inb_in g3) dX12_heightOf_24 ?_
    refine z_icmp_gt (tgt := 56) dX12_heightOf_25 (by decide) (fun q => ?_) (fun q => ?_)
    · have h := (if_pos q).symm.trans h
      obtain ⟨g4, h⟩ := gd h
      refine z_iload_n dX12_heightOf_56 rfl 1 rfl ?_
      refine z_aload_n dX12_heightOf_57 rfl 0 rfl ?_
      refine gf_12_67 rfl dX12_heightOf_58 ?_
      refine z_iload_n dX12_heightOf_61 rfl 2 rfl ?_
      refine ia_3_18 (inb_in g4) dX12_heightOf_62 ?_
      refine z_icmp_ge (tgt := 76) dX12_heightOf_63 (by decide) (fun q => ?_) (fun q => ?_)
      · have h := (if_pos q).symm.trans h
        exact zb_X12_heightOf_76 hrc9 h
      · have h := (if_neg q).symm.trans h
        obtain ⟨g5, h⟩ := gd h
        refine z_iload_n dX12_heightOf_66 rfl 1 rfl ?_
        refine z_aload_n dX12_heightOf_67 rfl 0 rfl ?_
        refine gf_12_70 rfl dX12_heightOf_68 ?_
        refine z_iload_n dX12_heightOf_71 rfl 2 rfl ?_
        refine ia_3_19 (inb_in g5) dX12_heightOf_72 ?_
        refine z_icmp_gt (tgt := 80) dX12_heightOf_73 (by decide) (fun q => ?_) (fun q => ?_)
        · have h := (if_pos q).symm.trans h
          refine z_iconst (v := 0) dX12_heightOf_80 (by decide) ?_
          exact zb_X12_heightOf_81 hrc9 h
        · have h := (if_neg q).symm.trans h
          exact zb_X12_heightOf_76 hrc9 h
    · have h := (if_neg q).symm.trans h
      obtain ⟨g6, h⟩ := gd h
      refine z_iload_n dX12_heightOf_28 rfl 1 rfl ?_
      refine z_aload_n dX12_heightOf_29 rfl 0 rfl ?_
      refine gf_12_67 rfl dX12_heightOf_30 ?_
      refine z_iload_n dX12_heightOf_33 rfl 2 rfl ?_
      refine ia_3_18 (inb_in g6) dX12_heightOf_34 ?_
      refine z_icmp_lt (tgt := 52) dX12_heightOf_35 (by decide) (fun q => ?_) (fun q => ?_)
      · have h := (if_pos q).symm.trans h
        exact zb_X12_heightOf_52 hrc9 h
      · have h := (if_neg q).symm.trans h
        obtain ⟨g7, h⟩ := gd h
        refine z_iload_n dX12_heightOf_38 rfl 1 rfl ?_
        refine z_aload_n dX12_heightOf_39 rfl 0 rfl ?_
        refine gf_12_70 rfl dX12_heightOf_40 ?_
        refine z_iload_n dX12_heightOf_43 rfl 2 rfl ?_
        refine ia_3_19 (inb_in g7) dX12_heightOf_44 ?_
        refine z_icmp_gt (tgt := 52) dX12_heightOf_45 (by decide) (fun q => ?_) (fun q => ?_)
        · have h := (if_pos q).symm.trans h
          exact zb_X12_heightOf_52 hrc9 h
        · have h := (if_neg q).symm.trans h
          refine z_iconst (v := 1) dX12_heightOf_48 (by decide) ?_
          refine z_goto (tgt := 81) dX12_heightOf_49 (by decide) ?_
          exact zb_X12_heightOf_81 hrc9 h
def F_X12_heightOf_9 : Nat → Int32 → Int32 → Mm → Option (Int32 × Mm)
  | 0 => fun _ _ _ => none
  | n + 1 => B_X12_heightOf_9 (F_X12_heightOf_9 n)
theorem zl_X12_heightOf_9 {S : Shp} : ∀ (nn : Nat) {x1 : Int32} {x2 : Int32} {σ : Mm} {r : Int32 × Mm}, F_X12_heightOf_9 nn x1 x2 σ = some r → Z m_X12_heightOf S (Qi r) 9 [(0, .ref (sL S 3 0 0)), (1, .int (x1)), (2, .int (x2))] [] σ := by
  intro nn
  induction nn with
  | zero => intro x1 x2 σ r h; cases h
  | succ nn ih => intro x1 x2 σ r h; exact zB_X12_heightOf_9 @ih h
def F_X12_heightOf (x1 : Int32) (σ : Mm) : Option (Int32 × Mm) := (if inb 0 5 = true then (F_X12_heightOf_9 FU x1 ((mA σ 3 0 17 (0 : Int32).toNatClampNeg) - (1 : Int32)) σ) else none)
set_option maxRecDepth 20000 in
theorem zb_X12_heightOf {S : Shp} {x1 : Int32} {σ : Mm} {r : Int32 × Mm} (h : F_X12_heightOf x1 σ = some r) : Z m_X12_heightOf S (Qi r) 0 [(0, .ref (sL S 3 0 0)), (1, .int (x1))] [] σ := by
  unfold F_X12_heightOf at h
  obtain ⟨g1, h⟩ := gd h
  refine z_aload_n dX12_heightOf_0 rfl 0 rfl ?_
  refine gf_12_64 rfl dX12_heightOf_1 ?_
  refine z_iconst (v := 0) dX12_heightOf_4 (by decide) ?_
  refine ia_3_17 (inb_in g1) dX12_heightOf_5 ?_
  refine z_iconst (v := 1) dX12_heightOf_6 (by decide) ?_
  refine z_isub dX12_heightOf_7 ?_
  refine z_istore_n (lv' := [(0, .ref (sL S 3 0 0)), (1, .int (x1)), (2, .int ((mA σ 3 0 17 (0 : Int32).toNatClampNeg) - (1 : Int32)))]) dX12_heightOf_8 rfl (by decide) [1, 2, 0] rfl ?_
  exact zl_X12_heightOf_9 FU h
/-- SkyStonesModel.heightOf(I)I -/
theorem c_X12_heightOf {S : Shp} {x1 : Int32} {σ : Mm} {r : Int32 × Mm} (h : F_X12_heightOf x1 σ = some r) : Ct m_X12_heightOf S [.ref (sL S 3 0 0), .int (x1)] σ (Qi r) := Ct.of (by decide +kernel) (Nat.le_of_ble_eq_true rfl) (zb_X12_heightOf h)
