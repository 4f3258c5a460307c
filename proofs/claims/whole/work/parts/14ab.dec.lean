def F_X2_apply_141 (x4 : Int32) (x5 : Int32) (σ : Mm) : Option (Mm) := (if x5 = 2 then (if inb x4 14 = true then some (setA σ 0 0 20 (upd (mA σ 0 0 20) x4.toNatClampNeg (vp_nar .boolean 1))) else none) else some (σ))
set_option maxRecDepth 20000 in
theorem zb_X2_apply_141 {S : Shp} {x4 : Int32} {x5 : Int32} {σ : Mm} {r : Mm} (h : F_X2_apply_141 x4 x5 σ = some r) : Z m_X2_apply S (Qv r) 141 [(0, .ref (sL S 0 0 15)), (4, .int (x4)), (5, .int (x5))] [] σ := by
  unfold F_X2_apply_141 at h
  refine z_iload dX2_apply_141 2 rfl ?_
  refine z_iconst (v := 2) dX2_apply_143 (by decide) ?_
  refine z_icmp_ne (tgt := 155) dX2_apply_144 (by decide) (fun q => ?_) (fun q => ?_)
  · have h := (if_neg q).symm.trans h
    cases h
    exact z_return dX2_apply_155 rfl ⟨rfl, rfl⟩
  · have h := (if_pos q).symm.trans h
    obtain ⟨g11, h⟩ := gd h
    refine z_aload_n dX2_apply_147 rfl 0 rfl ?_
    refine gf_2_28 rfl dX2_apply_148 ?_
    refine z_iload dX2_apply_151 1 rfl ?_
    refine z_iconst (v := 1) dX2_apply_153 (by decide) ?_
    refine is_0_20 (inb_in g11) dX2_apply_154 ?_
    cases h
    exact z_return dX2_apply_155 rfl ⟨rfl, rfl⟩
def F_X2_apply_128 (i0 : Nat) (x2 : Int32) (x4 : Int32) (x5 : Int32) (σ : Mm) : Option (Mm) := (if inb x2 60 = true then (if inb x4 14 = true then (F_X2_apply_141 x4 x5 (setA σ 0 0 18 (upd (mA σ 0 0 18) x4.toNatClampNeg (mA σ 2 i0 5 x2.toNatClampNeg)))) else none) else none)
set_option maxRecDepth 20000 in
theorem zb_X2_apply_128 {S : Shp} {i0 : Nat} (hi0 : slv (sH S) i0 = true) {x2 : Int32} {x4 : Int32} {x5 : Int32} {σ : Mm} {r : Mm} (h : F_X2_apply_128 i0 x2 x4 x5 σ = some r) : Z m_X2_apply S (Qv r) 128 [(0, .ref (sL S 0 0 15)), (1, .ref (sL S 2 i0 0)), (2, .int (x2)), (4, .int (x4)), (5, .int (x5))] [] σ := by
  unfold F_X2_apply_128 at h
  obtain ⟨g9, h⟩ := gd h
  refine z_aload_n dX2_apply_128 rfl 0 rfl ?_
  refine gf_2_22 rfl dX2_apply_129 ?_
  refine z_iload dX2_apply_132 3 rfl ?_
  refine z_aload_n dX2_apply_134 rfl 1 rfl ?_
  refine gf_2_77 (lv2 (hi0) rfl) rfl dX2_apply_135 ?_
  refine z_iload_n dX2_apply_138 rfl 2 rfl ?_
  obtain ⟨g10, h⟩ := gd h
  refine ia_2_5 (lv2 (hi0) rfl) (inb_in g9) dX2_apply_139 ?_
  refine is_0_18 (inb_in g10) dX2_apply_140 ?_
  refine Z.lv [0, 3, 4] rfl ?_
  exact zb_X2_apply_141 h
def F_X2_apply_117 (i0 : Nat) (x2 : Int32) (x4 : Int32) (x5 : Int32) (σ : Mm) : Option (Mm) := (if x5 = 0 then (F_X2_apply_128 i0 x2 x4 x5 σ) else (if x5 = 3 then (F_X2_apply_128 i0 x2 x4 x5 σ) else (F_X2_apply_141 x4 x5 σ)))
set_option maxRecDepth 20000 in
theorem zb_X2_apply_117 {S : Shp} {i0 : Nat} (hi0 : slv (sH S) i0 = true) {x2 : Int32} {x4 : Int32} {x5 : Int32} {σ : Mm} {r : Mm} (h : F_X2_apply_117 i0 x2 x4 x5 σ = some r) : Z m_X2_apply S (Qv r) 117 [(0, .ref (sL S 0 0 15)), (1, .ref (sL S 2 i0 0)), (2, .int (x2)), (4, .int (x4)), (5, .int (x5))] [] σ := by
  unfold F_X2_apply_117 at h
  refine z_iload dX2_apply_117 4 rfl ?_
  refine z_if_eq (tgt := 128) dX2_apply_119 (by decide) (fun q => ?_) (fun q => ?_)
  · have h := (if_pos q).symm.trans h
    exact zb_X2_apply_128 (hi0) h
  · have h := (if_neg q).symm.trans h
    refine z_iload dX2_apply_122 4 rfl ?_
    refine z_iconst (v := 3) dX2_apply_124 (by decide) ?_
    refine z_icmp_ne (tgt := 141) dX2_apply_125 (by decide) (fun q => ?_) (fun q => ?_)
    · have h := (if_neg q).symm.trans h
      refine Z.lv [0, 3, 4] rfl ?_
      exact zb_X2_apply_141 h
    · have h := (if_pos q).symm.trans h
      exact zb_X2_apply_128 (hi0) h
def F_X2_apply_115 (i0 : Nat) (x2 : Int32) (x4 : Int32) (x5 : Int32) (s0 : Int32) (s2 : Int32) (σ : Mm) : Option (Mm) := (if inb s0 60 = true then (if inb s2 14 = true then (F_X2_apply_117 i0 x2 x4 x5 (setA σ 0 0 17 (upd (mA σ 0 0 17) s2.toNatClampNeg (mA σ 2 i0 4 s0.toNatClampNeg)))) else none) else none)
set_option maxRecDepth 20000 in
theorem zb_X2_apply_115 {S : Shp} {i0 : Nat} (hi0 : slv (sH S) i0 = true) {x2 : Int32} {x4 : Int32} {x5 : Int32} {s0 : Int32} {s2 : Int32} {σ : Mm} {r : Mm} (h : F_X2_apply_115 i0 x2 x4 x5 s0 s2 σ = some r) : Z m_X2_apply S (Qv r) 115 [(0, .ref (sL S 0 0 15)), (1, .ref (sL S 2 i0 0)), (2, .int (x2)), (4, .int (x4)), (5, .int (x5))] [.int (s0), .ref (sL S 2 i0 4), .int (s2), .ref (sL S 0 0 17)] σ := by
  unfold F_X2_apply_115 at h
  obtain ⟨g7, h⟩ := gd h
  obtain ⟨g8, h⟩ := gd h
  refine ia_2_4 (lv2 (hi0) rfl) (inb_in g7) dX2_apply_115 ?_
  refine is_0_17 (inb_in g8) dX2_apply_116 ?_
  exact zb_X2_apply_117 (hi0) h
def F_X2_apply_91 (i0 : Nat) (x2 : Int32) (x4 : Int32) (x5 : Int32) (σ : Mm) : Option (Mm) := (if inb x2 60 = true then (if inb x4 14 = true then (F_X2_apply_115 i0 x2 x4 x5 x2 x4 (setA σ 0 0 16 (upd (mA σ 0 0 16) x4.toNatClampNeg (mA σ 2 i0 3 x2.toNatClampNeg)))) else none) else none)
set_option maxRecDepth 20000 in
theorem zb_X2_apply_91 {S : Shp} {i0 : Nat} (hi0 : slv (sH S) i0 = true) {x2 : Int32} {x4 : Int32} {x5 : Int32} {σ : Mm} {r : Mm} (h : F_X2_apply_91 i0 x2 x4 x5 σ = some r) : Z m_X2_apply S (Qv r) 91 [(0, .ref (sL S 0 0 15)), (1, .ref (sL S 2 i0 0)), (2, .int (x2)), (4, .int (x4)), (5, .int (x5))] [] σ := by
  unfold F_X2_apply_91 at h
  obtain ⟨g4, h⟩ := gd h
  refine z_aload_n dX2_apply_91 rfl 0 rfl ?_
  refine gf_2_15 rfl dX2_apply_92 ?_
  refine z_iload dX2_apply_95 3 rfl ?_
  refine z_aload_n dX2_apply_97 rfl 1 rfl ?_
  refine gf_2_75 (lv2 (hi0) rfl) rfl dX2_apply_98 ?_
  refine z_iload_n dX2_apply_101 rfl 2 rfl ?_
  obtain ⟨g5, h⟩ := gd h
  refine ia_2_3 (lv2 (hi0) rfl) (inb_in g4) dX2_apply_102 ?_
  refine is_0_16 (inb_in g5) dX2_apply_103 ?_
  refine z_aload_n dX2_apply_104 rfl 0 rfl ?_
  refine gf_2_19 rfl dX2_apply_105 ?_
  refine z_iload dX2_apply_108 3 rfl ?_
  refine z_aload_n dX2_apply_110 rfl 1 rfl ?_
  refine gf_2_76 (lv2 (hi0) rfl) rfl dX2_apply_111 ?_
  refine z_iload_n dX2_apply_114 rfl 2 rfl ?_
  exact zb_X2_apply_115 (hi0) h
def F_X2_apply_80 (i0 : Nat) (x2 : Int32) (x4 : Int32) (x5 : Int32) (σ : Mm) : Option (Mm) := (if x5 = 0 then (F_X2_apply_91 i0 x2 x4 x5 σ) else (if x5 = 1 then (F_X2_apply_91 i0 x2 x4 x5 σ) else (F_X2_apply_117 i0 x2 x4 x5 σ)))
set_option maxRecDepth 20000 in
theorem zb_X2_apply_80 {S : Shp} {i0 : Nat} (hi0 : slv (sH S) i0 = true) {x2 : Int32} {x4 : Int32} {x5 : Int32} {σ : Mm} {r : Mm} (h : F_X2_apply_80 i0 x2 x4 x5 σ = some r) : Z m_X2_apply S (Qv r) 80 [(0, .ref (sL S 0 0 15)), (1, .ref (sL S 2 i0 0)), (2, .int (x2)), (4, .int (x4)), (5, .int (x5))] [] σ := by
  unfold F_X2_apply_80 at h
  refine z_iload dX2_apply_80 4 rfl ?_
  refine z_if_eq (tgt := 91) dX2_apply_82 (by decide) (fun q => ?_) (fun q => ?_)
  · have h := (if_pos q).symm.trans h
    exact zb_X2_apply_91 (hi0) h
  · have h := (if_neg q).symm.trans h
    refine z_iload dX2_apply_85 4 rfl ?_
    refine z_iconst (v := 1) dX2_apply_87 (by decide) ?_
    refine z_icmp_ne (tgt := 117) dX2_apply_88 (by decide) (fun q => ?_) (fun q => ?_)
    · have h := (if_neg q).symm.trans h
      exact zb_X2_apply_117 (hi0) h
    · have h := (if_pos q).symm.trans h
      exact zb_X2_apply_91 (hi0) h
def F_X2_apply_71 (i0 : Nat) (x2 : Int32) (x4 : Int32) (x5 : Int32) (s0 : Int32) (s1 : Int32) (σ : Mm) : Option (Mm) := (if inb s1 14 = true then (F_X2_apply_80 i0 x2 x4 x5 (setA σ 0 0 20 (upd (mA σ 0 0 20) s1.toNatClampNeg (vp_nar .boolean s0)))) else none)
set_option maxRecDepth 20000 in
theorem zb_X2_apply_71 {S : Shp} {i0 : Nat} (hi0 : slv (sH S) i0 = true) {x2 : Int32} {x4 : Int32} {x5 : Int32} {s0 : Int32} {s1 : Int32} {σ : Mm} {r : Mm} (h : F_X2_apply_71 i0 x2 x4 x5 s0 s1 σ = some r) : Z m_X2_apply S (Qv r) 71 [(0, .ref (sL S 0 0 15)), (1, .ref (sL S 2 i0 0)), (2, .int (x2)), (4, .int (x4)), (5, .int (x5))] [.int (s0), .int (s1), .ref (sL S 0 0 20)] σ := by
  unfold F_X2_apply_71 at h
  obtain ⟨g6, h⟩ := gd h
  refine is_0_20 (inb_in g6) dX2_apply_71 ?_
  refine z_goto (tgt := 80) dX2_apply_72 (by decide) ?_
  exact zb_X2_apply_80 (hi0) h
def F_X2_apply_55 (i0 : Nat) (x2 : Int32) (x3 : Int32) (x4 : Int32) (x5 : Int32) (s0 : Int32) (s1 : Int32) (σ : Mm) : Option (Mm) := (if inb s1 14 = true then (if x3 = 0 then (F_X2_apply_71 i0 x2 x4 x5 1 x4 (setA σ 0 0 19 (upd (mA σ 0 0 19) s1.toNatClampNeg s0))) else (F_X2_apply_71 i0 x2 x4 x5 0 x4 (setA σ 0 0 19 (upd (mA σ 0 0 19) s1.toNatClampNeg s0)))) else none)
set_option maxRecDepth 20000 in
theorem zb_X2_apply_55 {S : Shp} {i0 : Nat} (hi0 : slv (sH S) i0 = true) {x2 : Int32} {x3 : Int32} {x4 : Int32} {x5 : Int32} {s0 : Int32} {s1 : Int32} {σ : Mm} {r : Mm} (h : F_X2_apply_55 i0 x2 x3 x4 x5 s0 s1 σ = some r) : Z m_X2_apply S (Qv r) 55 [(0, .ref (sL S 0 0 15)), (1, .ref (sL S 2 i0 0)), (2, .int (x2)), (3, .int (x3)), (4, .int (x4)), (5, .int (x5))] [.int (s0), .int (s1), .ref (sL S 0 0 19)] σ := by
  unfold F_X2_apply_55 at h
  obtain ⟨g3, h⟩ := gd h
  refine is_0_19 (inb_in g3) dX2_apply_55 ?_
  refine z_aload_n dX2_apply_56 rfl 0 rfl ?_
  refine gf_2_28 rfl dX2_apply_57 ?_
  refine z_iload dX2_apply_60 4 rfl ?_
  refine z_iload_n dX2_apply_62 rfl 3 rfl ?_
  refine z_if_ne (tgt := 70) dX2_apply_63 (by decide) (fun q => ?_) (fun q => ?_)
  · have h := (if_neg q).symm.trans h
    refine z_iconst (v := 0) dX2_apply_70 (by decide) ?_
    refine Z.lv [0, 1, 2, 4, 5] rfl ?_
    exact zb_X2_apply_71 (hi0) h
  · have h := (if_pos q).symm.trans h
    refine z_iconst (v := 1) dX2_apply_66 (by decide) ?_
    refine z_goto (tgt := 71) dX2_apply_67 (by decide) ?_
    refine Z.lv [0, 1, 2, 4, 5] rfl ?_
    exact zb_X2_apply_71 (hi0) h
def F_X2_apply (i0 : Nat) (x2 : Int32) (x3 : Int32) (σ : Mm) : Option (Mm) := (if inb x2 60 = true then (if inb x2 60 = true then (if (mA σ 2 i0 1 x2.toNatClampNeg) = 4 then some (σ) else (if (mA σ 2 i0 2 x2.toNatClampNeg) < 0 then some (σ) else (if (mA σ 2 i0 2 x2.toNatClampNeg) < 14 then (if (mA σ 2 i0 1 x2.toNatClampNeg) = 0 then (F_X2_apply_55 i0 x2 x3 (mA σ 2 i0 2 x2.toNatClampNeg) (mA σ 2 i0 1 x2.toNatClampNeg) 0 (mA σ 2 i0 2 x2.toNatClampNeg) (setA σ 0 0 15 (upd (mA σ 0 0 15) 0 ((mA σ 2 i0 2 x2.toNatClampNeg) + 1)))) else (if x3 = 0 then some (σ) else (F_X2_apply_80 i0 x2 (mA σ 2 i0 2 x2.toNatClampNeg) (mA σ 2 i0 1 x2.toNatClampNeg) σ))) else some (σ)))) else none) else none)
set_option maxRecDepth 20000 in
theorem zb_X2_apply {S : Shp} {i0 : Nat} (hi0 : slv (sH S) i0 = true) {x2 : Int32} {x3 : Int32} {σ : Mm} {r : Mm} (h : F_X2_apply i0 x2 x3 σ = some r) : Z m_X2_apply S (Qv r) 0 [(0, .ref (sL S 0 0 15)), (1, .ref (sL S 2 i0 0)), (2, .int (x2)), (3, .int (x3))] [] σ := by
  unfold F_X2_apply at h
  obtain ⟨g1, h⟩ := gd h
  refine z_aload_n dX2_apply_0 rfl 1 rfl ?_
  refine gf_2_68 (lv2 (hi0) rfl) rfl dX2_apply_1 ?_
  refine z_iload_n dX2_apply_4 rfl 2 rfl ?_
  obtain ⟨g2, h⟩ := gd h
  refine ia_2_2 (lv2 (hi0) rfl) (inb_in g1) dX2_apply_5 ?_
  refine z_istore dX2_apply_6 (by decide) [1, 2, 3, 4, 0] rfl ?_
  refine z_aload_n dX2_apply_8 rfl 1 rfl ?_
  refine gf_2_65 (lv2 (hi0) rfl) rfl dX2_apply_9 ?_
  refine z_iload_n dX2_apply_12 rfl 2 rfl ?_
  refine ia_2_1 (lv2 (hi0) rfl) (inb_in g2) dX2_apply_13 ?_
  refine z_istore dX2_apply_14 (by decide) [1, 2, 3, 4, 5, 0] rfl ?_
  refine z_iload dX2_apply_16 5 rfl ?_
  refine z_iconst (v := 4) dX2_apply_18 (by decide) ?_
  refine z_icmp_eq (tgt := 34) dX2_apply_19 (by decide) (fun q => ?_) (fun q => ?_)
  · have h := (if_pos q).symm.trans h
    cases h
    exact z_return dX2_apply_34 rfl ⟨rfl, rfl⟩
  · have h := (if_neg q).symm.trans h
    refine z_iload dX2_apply_22 4 rfl ?_
    refine z_if_lt (tgt := 34) dX2_apply_24 (by decide) (fun q => ?_) (fun q => ?_)
    · have h := (if_pos q).symm.trans h
      cases h
      exact z_return dX2_apply_34 rfl ⟨rfl, rfl⟩
    · have h := (if_neg q).symm.trans h
      refine z_iload dX2_apply_27 4 rfl ?_
      refine z_bipush (v := 14) dX2_apply_29 (by decide) ?_
      refine z_icmp_lt (tgt := 35) dX2_apply_31 (by decide) (fun q => ?_) (fun q => ?_)
      · have h := (if_pos q).symm.trans h
        refine z_iload dX2_apply_35 5 rfl ?_
        refine z_if_ne (tgt := 75) dX2_apply_37 (by decide) (fun q => ?_) (fun q => ?_)
        · have h := (if_neg q).symm.trans h
          refine z_iload_n dX2_apply_75 rfl 3 rfl ?_
          refine z_if_ne (tgt := 80) dX2_apply_76 (by decide) (fun q => ?_) (fun q => ?_)
          · have h := (if_neg q).symm.trans h
            refine Z.lv [0, 1, 2, 4, 5] rfl ?_
            exact zb_X2_apply_80 (hi0) h
          · have h := (if_pos q).symm.trans h
            cases h
            exact z_return dX2_apply_79 rfl ⟨rfl, rfl⟩
        · have h := (if_pos q).symm.trans h
          refine z_aload_n dX2_apply_40 rfl 0 rfl ?_
          refine z_iload dX2_apply_41 4 rfl ?_
          refine z_iconst (v := 1) dX2_apply_43 (by decide) ?_
          refine z_iadd dX2_apply_44 ?_
          refine pf_2_9 rfl dX2_apply_45 ?_
          refine z_aload_n dX2_apply_48 rfl 0 rfl ?_
          refine gf_2_25 rfl dX2_apply_49 ?_
          refine z_iload dX2_apply_52 4 rfl ?_
          refine z_iconst (v := 0) dX2_apply_54 (by decide) ?_
          exact zb_X2_apply_55 (hi0) h
      · have h := (if_neg q).symm.trans h
        cases h
        exact z_return dX2_apply_34 rfl ⟨rfl, rfl⟩
/-- SkyStones$Ground.apply(LSkyStones$Survey;IZ)V -/
theorem c_X2_apply {S : Shp} {i0 : Nat} (hi0 : slv (sH S) i0 = true) {x2 : Int32} {x3 : Int32} {σ : Mm} {r : Mm} (h : F_X2_apply i0 x2 x3 σ = some r) : Ct m_X2_apply S [.ref (sL S 0 0 15), .ref (sL S 2 i1 0), .int (x2), .int (x3)] σ (Qv r) := Ct.of (by decide) (Nat.le_of_ble_eq_true rfl) (zb_X2_apply hi0 h)
def F_X9_hillOver_90 (rc7 : Nat → Int32 → Int32 → Mm → Option (Int32 × Mm)) (i0 : Nat) (x1 : Int32) (x2 : Int32) (s0 : Int32) (σ : Mm) : Option (Int32 × Mm) := (if s0 = 0 then (rc7 i0 x1 (x2 + (-1)) σ) else (if inb x2 12 = true then some (mA σ 1 i0 8 x2.toNatClampNeg, σ) else none))
set_option maxRecDepth 20000 in
theorem zb_X9_hillOver_90 {S : Shp} {rc7 : Nat → Int32 → Int32 → Mm → Option (Int32 × Mm)} (hrc7 : ∀ {i0 : Nat} (hi0 : tlv (sH S) i0 = true) {x1 : Int32} {x2 : Int32} {σ : Mm} {r : Int32 × Mm}, rc7 i0 x1 x2 σ = some r → Z m_X9_hillOver S (Qi r) 7 [(0, .ref (sL S 1 i0 0)), (1, .int (x1)), (2, .int (x2))] [] σ) {i0 : Nat} (hi0 : tlv (sH S) i0 = true) {x1 : Int32} {x2 : Int32} {s0 : Int32} {σ : Mm} {r : Int32 × Mm} (h : F_X9_hillOver_90 rc7 i0 x1 x2 s0 σ = some r) : Z m_X9_hillOver S (Qi r) 90 [(0, .ref (sL S 1 i0 0)), (1, .int (x1)), (2, .int (x2))] [.int (s0)] σ := by
  unfold F_X9_hillOver_90 at h
  refine z_istore dX9_hillOver_90 (by decide) [1, 2, 3, 0] rfl ?_
  refine z_iload dX9_hillOver_92 3 rfl ?_
  refine z_if_eq (tgt := 104) dX9_hillOver_94 (by decide) (fun q => ?_) (fun q => ?_)
  · have h := (if_pos q).symm.trans h
    refine z_iinc (j := 2) (v := x2 + (-1)) dX9_hillOver_104 rfl rfl (by decide) [1, 2, 0, 3] rfl ?_
    refine z_goto (tgt := 7) dX9_hillOver_107 (by decide) ?_
    refine Z.lv [0, 1, 2] rfl ?_
    exact hrc7 (hi0) h
  · have h := (if_neg q).symm.trans h
    obtain ⟨g5, h⟩ := gd h
    refine z_aload_n dX9_hillOver_97 rfl 0 rfl ?_
    refine gf_9_46 (lv1 (hi0) rfl) rfl dX9_hillOver_98 ?_
    refine z_iload_n dX9_hillOver_101 rfl 2 rfl ?_
    refine ia_1_8 (lv1 (hi0) rfl) (inb_in g5) dX9_hillOver_102 ?_
    cases h
    exact z_ireturn dX9_hillOver_103 rfl rfl ⟨rfl, rfl⟩
def F_X9_hillOver_85 (rc7 : Nat → Int32 → Int32 → Mm → Option (Int32 × Mm)) (i0 : Nat) (x1 : Int32) (x2 : Int32) (σ : Mm) : Option (Int32 × Mm) := (F_X9_hillOver_90 rc7 i0 x1 x2 1 σ)
set_option maxRecDepth 20000 in
theorem zb_X9_hillOver_85 {S : Shp} {rc7 : Nat → Int32 → Int32 → Mm → Option (Int32 × Mm)} (hrc7 : ∀ {i0 : Nat} (hi0 : tlv (sH S) i0 = true) {x1 : Int32} {x2 : Int32} {σ : Mm} {r : Int32 × Mm}, rc7 i0 x1 x2 σ = some r → Z m_X9_hillOver S (Qi r) 7 [(0, .ref (sL S 1 i0 0)), (1, .int (x1)), (2, .int (x2))] [] σ) {i0 : Nat} (hi0 : tlv (sH S) i0 = true) {x1 : Int32} {x2 : Int32} {σ : Mm} {r : Int32 × Mm} (h : F_X9_hillOver_85 rc7 i0 x1 x2 σ = some r) : Z m_X9_hillOver S (Qi r) 85 [(0, .ref (sL S 1 i0 0)), (1, .int (x1)), (2, .int (x2))] [] σ := by
  unfold F_X9_hillOver_85 at h
  refine z_iconst (v := 1) dX9_hillOver_85 (by decide) ?_
  refine z_goto (tgt := 90) dX9_hillOver_86 (by decide) ?_
  exact zb_X9_hillOver_90 hrc7 (hi0) h
def F_X9_hillOver_72 (rc7 : Nat → Int32 → Int32 → Mm → Option (Int32 × Mm)) (i0 : Nat) (x1 : Int32) (x2 : Int32) (σ : Mm) : Option (Int32 × Mm) := (F_X9_hillOver_90 rc7 i0 x1 x2 0 σ)
set_option maxRecDepth 20000 in
theorem zb_X9_hillOver_72 {S : Shp} {rc7 : Nat → Int32 → Int32 → Mm → Option (Int32 × Mm)} (hrc7 : ∀ {i0 : Nat} (hi0 : tlv (sH S) i0 = true) {x1 : Int32} {x2 : Int32} {σ : Mm} {r : Int32 × Mm}, rc7 i0 x1 x2 σ = some r → Z m_X9_hillOver S (Qi r) 7 [(0, .ref (sL S 1 i0 0)), (1, .int (x1)), (2, .int (x2))] [] σ) {i0 : Nat} (hi0 : tlv (sH S) i0 = true) {x1 : Int32} {x2 : Int32} {σ : Mm} {r : Int32 × Mm} (h : F_X9_hillOver_72 rc7 i0 x1 x2 σ = some r) : Z m_X9_hillOver S (Qi r) 72 [(0, .ref (sL S 1 i0 0)), (1, .int (x1)), (2, .int (x2))] [] σ := by
  unfold F_X9_hillOver_72 at h
  refine z_iconst (v := 0) dX9_hillOver_72 (by decide) ?_
  refine z_goto (tgt := 90) dX9_hillOver_73 (by decide) ?_
  exact zb_X9_hillOver_90 hrc7 (hi0) h
def F_X9_hillOver_42 (rc7 : Nat → Int32 → Int32 → Mm → Option (Int32 × Mm)) (i0 : Nat) (x1 : Int32) (x2 : Int32) (x3 : Int32) (s0 : Int32) (σ : Mm) : Option (Int32 × Mm) := (if inb x2 12 = true then (if inb x2 12 = true then (if (mA σ 1 i0 7 x2.toNatClampNeg) < (mA σ 1 i0 6 x2.toNatClampNeg) then (if x3 = 0 then (if s0 = 0 then (F_X9_hillOver_90 rc7 i0 x1 x2 0 σ) else (F_X9_hillOver_85 rc7 i0 x1 x2 σ)) else (F_X9_hillOver_85 rc7 i0 x1 x2 σ)) else (if x3 = 0 then (F_X9_hillOver_72 rc7 i0 x1 x2 σ) else (if s0 = 0 then (F_X9_hillOver_72 rc7 i0 x1 x2 σ) else (F_X9_hillOver_90 rc7 i0 x1 x2 1 σ)))) else none) else none)
set_option maxRecDepth 20000 in
theorem zb_X9_hillOver_42 {S : Shp} {rc7 : Nat → Int32 → Int32 → Mm → Option (Int32 × Mm)} (hrc7 : ∀ {i0 : Nat} (hi0 : tlv (sH S) i0 = true) {x1 : Int32} {x2 : Int32} {σ : Mm} {r : Int32 × Mm}, rc7 i0 x1 x2 σ = some r → Z m_X9_hillOver S (Qi r) 7 [(0, .ref (sL S 1 i0 0)), (1, .int (x1)), (2, .int (x2))] [] σ) {i0 : Nat} (hi0 : tlv (sH S) i0 = true) {x1 : Int32} {x2 : Int32} {x3 : Int32} {s0 : Int32} {σ : Mm} {r : Int32 × Mm} (h : F_X9_hillOver_42 rc7 i0 x1 x2 x3 s0 σ = some r) : Z m_X9_hillOver S (Qi r) 42 [(0, .ref (sL S 1 i0 0)), (1, .int (x1)), (2, .int (x2)), (3, .int (x3))] [.int (s0)] σ := by
  unfold F_X9_hillOver_42 at h
  obtain ⟨g3, h⟩ := gd h
  refine z_istore dX9_hillOver_42 (by decide) [1, 2, 3, 4, 0] rfl ?_
  refine z_aload_n dX9_hillOver_44 rfl 0 rfl ?_
  refine gf_9_40 (lv1 (hi0) rfl) rfl dX9_hillOver_45 ?_
  refine z_iload_n dX9_hillOver_48 rfl 2 rfl ?_
  obtain ⟨g4, h⟩ := gd h
  refine ia_1_6 (lv1 (hi0) rfl) (inb_in g3) dX9_hillOver_49 ?_
  refine z_aload_n dX9_hillOver_50 rfl 0 rfl ?_
  refine gf_9_43 (lv1 (hi0) rfl) rfl dX9_hillOver_51 ?_
  refine z_iload_n dX9_hillOver_54 rfl 2 rfl ?_
  refine ia_1_7 (lv1 (hi0) rfl) (inb_in g4) dX9_hillOver_55 ?_
  refine z_icmp_gt (tgt := 76) dX9_hillOver_56 (by decide) (fun q => ?_) (fun q => ?_)
  · have h := (if_pos q).symm.trans h
    refine z_iload_n dX9_hillOver_76 rfl 3 rfl ?_
    refine z_if_ne (tgt := 85) dX9_hillOver_77 (by decide) (fun q => ?_) (fun q => ?_)
    · have h := (if_neg q).symm.trans h
      refine Z.lv [0, 1, 2] rfl ?_
      exact zb_X9_hillOver_85 hrc7 (hi0) h
    · have h := (if_pos q).symm.trans h
      refine z_iload dX9_hillOver_80 4 rfl ?_
      refine z_if_eq (tgt := 89) dX9_hillOver_82 (by decide) (fun q => ?_) (fun q => ?_)
      · have h := (if_pos q).symm.trans h
        refine z_iconst (v := 0) dX9_hillOver_89 (by decide) ?_
        refine Z.lv [0, 1, 2] rfl ?_
        exact zb_X9_hillOver_90 hrc7 (hi0) h
      · have h := (if_neg q).symm.trans h
        refine Z.lv [0, 1, 2] rfl ?_
        exact zb_X9_hillOver_85 hrc7 (hi0) h
  · have h := (if_neg q).symm.trans h
    refine z_iload_n dX9_hillOver_59 rfl 3 rfl ?_
    refine z_if_eq (tgt := 72) dX9_hillOver_60 (by decide) (fun q => ?_) (fun q => ?_)
    · have h := (if_pos q).symm.trans h
      refine Z.lv [0, 1, 2] rfl ?_
      exact zb_X9_hillOver_72 hrc7 (hi0) h
    · have h := (if_neg q).symm.trans h
      refine z_iload dX9_hillOver_63 4 rfl ?_
      refine z_if_eq (tgt := 72) dX9_hillOver_65 (by decide) (fun q => ?_) (fun q => ?_)
      · have h := (if_pos q).symm.trans h
        refine Z.lv [0, 1, 2] rfl ?_
        exact zb_X9_hillOver_72 hrc7 (hi0) h
      · have h := (if_neg q).symm.trans h
        refine z_iconst (v := 1) dX9_hillOver_68 (by decide) ?_
        refine z_goto (tgt := 90) dX9_hillOver_69 (by decide) ?_
        refine Z.lv [0, 1, 2] rfl ?_
        exact zb_X9_hillOver_90 hrc7 (hi0) h
def F_X9_hillOver_26 (rc7 : Nat → Int32 → Int32 → Mm → Option (Int32 × Mm)) (i0 : Nat) (x1 : Int32) (x2 : Int32) (s0 : Int32) (σ : Mm) : Option (Int32 × Mm) := (if inb x2 12 = true then (if (mA σ 1 i0 7 x2.toNatClampNeg) < x1 then (F_X9_hillOver_42 rc7 i0 x1 x2 s0 0 σ) else (F_X9_hillOver_42 rc7 i0 x1 x2 s0 1 σ)) else none)
set_option maxRecDepth 20000 in
theorem zb_X9_hillOver_26 {S : Shp} {rc7 : Nat → Int32 → Int32 → Mm → Option (Int32 × Mm)} (hrc7 : ∀ {i0 : Nat} (hi0 : tlv (sH S) i0 = true) {x1 : Int32} {x2 : Int32} {σ : Mm} {r : Int32 × Mm}, rc7 i0 x1 x2 σ = some r → Z m_X9_hillOver S (Qi r) 7 [(0, .ref (sL S 1 i0 0)), (1, .int (x1)), (2, .int (x2))] [] σ) {i0 : Nat} (hi0 : tlv (sH S) i0 = true) {x1 : Int32} {x2 : Int32} {s0 : Int32} {σ : Mm} {r : Int32 × Mm} (h : F_X9_hillOver_26 rc7 i0 x1 x2 s0 σ = some r) : Z m_X9_hillOver S (Qi r) 26 [(0, .ref (sL S 1 i0 0)), (1, .int (x1)), (2, .int (x2))] [.int (s0)] σ := by
  unfold F_X9_hillOver_26 at h
  obtain ⟨g2, h⟩ := gd h
  refine z_istore_n dX9_hillOver_26 rfl (by decide) [1, 2, 3, 0] rfl ?_
  refine z_iload_n dX9_hillOver_27 rfl 1 rfl ?_
  refine z_aload_n dX9_hillOver_28 rfl 0 rfl ?_
  refine gf_9_43 (lv1 (hi0) rfl) rfl dX9_hillOver_29 ?_
  refine z_iload_n dX9_hillOver_32 rfl 2 rfl ?_
  refine ia_1_7 (lv1 (hi0) rfl) (inb_in g2) dX9_hillOver_33 ?_
  refine z_icmp_gt (tgt := 41) dX9_hillOver_34 (by decide) (fun q => ?_) (fun q => ?_)
  · have h := (if_pos q).symm.trans h
    refine z_iconst (v := 0) dX9_hillOver_41 (by decide) ?_
    exact zb_X9_hillOver_42 hrc7 (hi0) h
  · have h := (if_neg q).symm.trans h
    refine z_iconst (v := 1) dX9_hillOver_37 (by decide) ?_
    refine z_goto (tgt := 42) dX9_hillOver_38 (by decide) ?_
    exact zb_X9_hillOver_42 hrc7 (hi0) h
def B_X9_hillOver_7 (rc7 : Nat → Int32 → Int32 → Mm → Option (Int32 × Mm)) (i0 : Nat) (x1 : Int32) (x2 : Int32) (σ : Mm) : Option (Int32 × Mm) := (if x2 < 0 then some (0, σ) else (if inb x2 12 = true then (if x1 < (mA σ 1 i0 6 x2.toNatClampNeg) then (F_X9_hillOver_26 rc7 i0 x1 x2 0 σ) else (F_X9_hillOver_26 rc7 i0 x1 x2 1 σ)) else none))
set_option maxRecDepth 20000 in
theorem zB_X9_hillOver_7 {S : Shp} {rc7 : Nat → Int32 → Int32 → Mm → Option (Int32 × Mm)} (hrc7 : ∀ {i0 : Nat} (hi0 : tlv (sH S) i0 = true) {x1 : Int32} {x2 : Int32} {σ : Mm} {r : Int32 × Mm}, rc7 i0 x1 x2 σ = some r → Z m_X9_hillOver S (Qi r) 7 [(0, .ref (sL S 1 i0 0)), (1, .int (x1)), (2, .int (x2))] [] σ) {i0 : Nat} (hi0 : tlv (sH S) i0 = true) {x1 : Int32} {x2 : Int32} {σ : Mm} {r : Int32 × Mm} (h : B_X9_hillOver_7 rc7 i0 x1 x2 σ = some r) : Z m_X9_hillOver S (Qi r) 7 [(0, .ref (sL S 1 i0 0)), (1, .int (x1)), (2, .int (x2))] [] σ := by
  unfold B_X9_hillOver_7 at h
  refine z_iload_n dX9_hillOver_7 rfl 2 rfl ?_
  refine z_if_lt (tgt := 110) dX9_hillOver_8 (by decide) (fun q => ?_) (fun q => ?_)
  · have h := (if_pos q).symm.trans h
    refine z_iconst (v := 0) dX9_hillOver_110 (by decide) ?_
    cases h
    exact z_ireturn dX9_hillOver_111 rfl rfl ⟨rfl, rfl⟩
  · have h := (if_neg q).symm.trans h
    obtain ⟨g1, h⟩ := gd h
    refine z_iload_n dX9_hillOver_11 rfl 1 rfl ?_
    refine z_aload_n dX9_hillOver_12 rfl 0 rfl ?_
    refine gf_9_40 (lv1 (hi0) rfl) rfl dX9_hillOver_13 ?_
    refine z_iload_n dX9_hillOver_16 rfl 2 rfl ?_
    refine ia_1_6 (lv1 (hi0) rfl) (inb_in g1) dX9_hillOver_17 ?_
    refine z_icmp_lt (tgt := 25) dX9_hillOver_18 (by decide) (fun q => ?_) (fun q => ?_)
    · have h := (if_pos q).symm.trans h
      refine z_iconst (v := 0) dX9_hillOver_25 (by decide) ?_
      exact zb_X9_hillOver_26 hrc7 (hi0) h
    · have h := (if_neg q).symm.trans h
      refine z_iconst (v := 1) dX9_hillOver_21 (by decide) ?_
      refine z_goto (tgt := 26) dX9_hillOver_22 (by decide) ?_
      exact zb_X9_hillOver_26 hrc7 (hi0) h
def F_X9_hillOver_7 : Nat → Nat → Int32 → Int32 → Mm → Option (Int32 × Mm)
  | 0 => fun _ _ _ _ => none
  | n + 1 => B_X9_hillOver_7 (F_X9_hillOver_7 n)
theorem zl_X9_hillOver_7 {S : Shp} {i0 : Nat} (hi0 : tlv (sH S) i0 = true) (n : Nat) {x1 : Int32} {x2 : Int32} {σ : Mm} {r : Int32 × Mm} (h : F_X9_hillOver_7 n i0 x1 x2 σ = some r) : Z m_X9_hillOver S (Qi r) 7 [(0, .ref (sL S 1 i0 0)), (1, .int (x1)), (2, .int (x2))] [] σ := by
  induction n generalizing i0 x1 x2 σ r with
  | zero => cases h
  | succ n ih => exact zB_X9_hillOver_7 (fun hi0 h => ih hi0 h) hi0 h
def F_X9_hillOver (i0 : Nat) (x1 : Int32) (σ : Mm) : Option (Int32 × Mm) := (F_X9_hillOver_7 FU i0 x1 ((mA σ 1 i0 0 8) - 1) σ)
set_option maxRecDepth 20000 in
theorem zb_X9_hillOver {S : Shp} {i0 : Nat} (hi0 : tlv (sH S) i0 = true) {x1 : Int32} {σ : Mm} {r : Int32 × Mm} (h : F_X9_hillOver i0 x1 σ = some r) : Z m_X9_hillOver S (Qi r) 0 [(0, .ref (sL S 1 i0 0)), (1, .int (x1))] [] σ := by
  unfold F_X9_hillOver at h
  refine z_aload_n dX9_hillOver_0 rfl 0 rfl ?_
  refine gf_9_37 (lv1 (hi0) rfl) rfl dX9_hillOver_1 ?_
  refine z_iconst (v := 1) dX9_hillOver_4 (by decide) ?_
  refine z_isub dX9_hillOver_5 ?_
  refine z_istore_n dX9_hillOver_6 rfl (by decide) [1, 2, 0] rfl ?_
  exact zl_X9_hillOver_7 (hi0) FU h
/-- SkyStones$Told.hillOver(I)I -/
theorem c_X9_hillOver {S : Shp} {i0 : Nat} (hi0 : tlv (sH S) i0 = true) {x1 : Int32} {σ : Mm} {r : Int32 × Mm} (h : F_X9_hillOver i0 x1 σ = some r) : Ct m_X9_hillOver S [.ref (sL S 1 i0 0), .int (x1)] σ (Qi r) := Ct.of (by decide) (Nat.le_of_ble_eq_true rfl) (zb_X9_hillOver hi0 h)
def F_X11_strikes_16 (x2 : Int32) (s0 : Int32) (σ : Mm) : Option (Int32 × Mm) := (if (s0 &&& x2) = 0 then some (0, σ) else some (1, σ))
set_option maxRecDepth 20000 in
theorem zb_X11_strikes_16 {S : Shp} {x2 : Int32} {s0 : Int32} {σ : Mm} {r : Int32 × Mm} (h : F_X11_strikes_16 x2 s0 σ = some r) : Z m_X11_strikes S (Qi r) 16 [(2, .int (x2))] [.int (s0)] σ := by
  unfold F_X11_strikes_16 at h
  refine z_iload_n dX11_strikes_16 rfl 0 rfl ?_
  refine z_iand dX11_strikes_17 ?_
  refine z_if_eq (tgt := 25) dX11_strikes_18 (by decide) (fun q => ?_) (fun q => ?_)
  · have h := (if_pos q).symm.trans h
    refine z_iconst (v := 0) dX11_strikes_25 (by decide) ?_
    cases h
    exact z_ireturn dX11_strikes_26 rfl rfl ⟨rfl, rfl⟩
  · have h := (if_neg q).symm.trans h
    refine z_iconst (v := 1) dX11_strikes_21 (by decide) ?_
    refine z_goto (tgt := 26) dX11_strikes_22 (by decide) ?_
    cases h
    exact z_ireturn dX11_strikes_26 rfl rfl ⟨rfl, rfl⟩
def F_X11_strikes (x1 : Int32) (x2 : Int32) (x3 : Int32) (σ : Mm) : Option (Int32 × Mm) := (if okP σ = true then (bnd (F_X6_struck x1 (mA σ 1 (mP σ 0) 0 0) x3 σ) (fun v τ => (F_X11_strikes_16 x2 v τ))) else none)
set_option maxRecDepth 20000 in
theorem zb_X11_strikes {S : Shp} {x1 : Int32} {x2 : Int32} {x3 : Int32} {σ : Mm} {r : Int32 × Mm} (h : F_X11_strikes x1 x2 x3 σ = some r) : Z m_X11_strikes S (Qi r) 0 [(0, .ref (sL S 0 0 0)), (1, .int (x1)), (2, .int (x2)), (3, .int (x3))] [] σ := by
  unfold F_X11_strikes at h
  obtain ⟨g1, h⟩ := gd h
  refine z_aload_n dX11_strikes_0 rfl 0 rfl ?_
  refine gf_11_60 rfl dX11_strikes_1 ?_
  refine z_iload_n dX11_strikes_4 rfl 1 rfl ?_
  refine z_aload_n dX11_strikes_5 rfl 0 rfl ?_
  have hp := g1
  refine gf_11_19 rfl dX11_strikes_6 ?_
  refine gf_11_232 (lv1 (okP_0 hp) rfl) rfl dX11_strikes_9 ?_
  refine z_iload_n dX11_strikes_12 rfl 3 rfl ?_
  obtain ⟨v, τ, hc, h⟩ := bnd_e h
  refine z_callV (M' := m_X6_struck) (t := 0) (i := 0) (k := 25) (As := [.int (x1), .int (mA σ 1 (mP σ 0) 0 0), .int (x3)]) (rest := []) kl_11_235 oy_X6_struck ⟨Nat.le_of_ble_eq_true rfl, Nat.le_of_ble_eq_true rfl⟩ rfl rfl rfl rfl (Nat.le_of_ble_eq_true rfl) rfl dX11_strikes_13 (c_X6_struck hc) (fun v2 τ2 hq => ?_)
  obtain ⟨rfl, rfl⟩ := hq
  change Z _ _ _ _ _ [.int (v)] _
  refine Z.lv [2] rfl ?_
  exact zb_X11_strikes_16 h
/-- SkyStones.strikes(IIZ)Z -/
theorem c_X11_strikes {S : Shp} {x1 : Int32} {x2 : Int32} {x3 : Int32} {σ : Mm} {r : Int32 × Mm} (h : F_X11_strikes x1 x2 x3 σ = some r) : Ct m_X11_strikes S [.ref (sL S 0 0 0), .int (x1), .int (x2), .int (x3)] σ (Qi r) := Ct.of (by decide) (Nat.le_of_ble_eq_true rfl) (zb_X11_strikes h)
def F_X4_join_38 (x1 : Int32) (s0 : Int32) (s2 : Int32) (σ : Mm) : Option (Mm) := (if inb s0 14 = true then (if inb s2 14 = true then some (setA σ 0 0 38 (upd (mA σ 0 0 38) s2.toNatClampNeg ((mA σ 0 0 38 s0.toNatClampNeg) ||| (1 <<< (x1 &&& 31))))) else none) else none)
set_option maxRecDepth 20000 in
theorem zb_X4_join_38 {S : Shp} {x1 : Int32} {s0 : Int32} {s2 : Int32} {σ : Mm} {r : Mm} (h : F_X4_join_38 x1 s0 s2 σ = some r) : Z m_X4_join S (Qv r) 38 [(1, .int (x1))] [.int (s0), .ref (sL S 0 0 38), .int (s2), .ref (sL S 0 0 38)] σ := by
  unfold F_X4_join_38 at h
  obtain ⟨g3, h⟩ := gd h
  obtain ⟨g4, h⟩ := gd h
  refine ia_0_38 (inb_in g3) dX4_join_38 ?_
  refine z_iconst (v := 1) dX4_join_39 (by decide) ?_
  refine z_iload_n dX4_join_40 rfl 0 rfl ?_
  refine z_ishl dX4_join_41 ?_
  refine z_ior dX4_join_42 ?_
  refine is_0_38 (inb_in g4) dX4_join_43 ?_
  cases h
  exact z_return dX4_join_44 rfl ⟨rfl, rfl⟩
def F_X4_join (x1 : Int32) (x2 : Int32) (σ : Mm) : Option (Mm) := (if x1 < 0 then some (σ) else (if 14 ≤ x1 then some (σ) else (if x2 < 0 then some (σ) else (if 14 ≤ x2 then some (σ) else (if inb x1 14 = true then (if inb x1 14 = true then (F_X4_join_38 x1 x2 x2 (setA σ 0 0 38 (upd (mA σ 0 0 38) x1.toNatClampNeg ((mA σ 0 0 38 x1.toNatClampNeg) ||| (1 <<< (x2 &&& 31)))))) else none) else none)))))
set_option maxRecDepth 20000 in
theorem zb_X4_join {S : Shp} {x1 : Int32} {x2 : Int32} {σ : Mm} {r : Mm} (h : F_X4_join x1 x2 σ = some r) : Z m_X4_join S (Qv r) 0 [(0, .ref (sL S 0 0 37)), (1, .int (x1)), (2, .int (x2))] [] σ := by
  unfold F_X4_join at h
  refine z_iload_n dX4_join_0 rfl 1 rfl ?_
  refine z_if_lt (tgt := 44) dX4_join_1 (by decide) (fun q => ?_) (fun q => ?_)
  · have h := (if_pos q).symm.trans h
    cases h
    exact z_return dX4_join_44 rfl ⟨rfl, rfl⟩
  · have h := (if_neg q).symm.trans h
    refine z_iload_n dX4_join_4 rfl 1 rfl ?_
    refine z_bipush (v := 14) dX4_join_5 (by decide) ?_
    refine z_icmp_ge (tgt := 44) dX4_join_7 (by decide) (fun q => ?_) (fun q => ?_)
    · have h := (if_pos q).symm.trans h
      cases h
      exact z_return dX4_join_44 rfl ⟨rfl, rfl⟩
    · have h := (if_neg q).symm.trans h
      refine z_iload_n dX4_join_10 rfl 2 rfl ?_
      refine z_if_lt (tgt := 44) dX4_join_11 (by decide) (fun q => ?_) (fun q => ?_)
      · have h := (if_pos q).symm.trans h
        cases h
        exact z_return dX4_join_44 rfl ⟨rfl, rfl⟩
      · have h := (if_neg q).symm.trans h
        refine z_iload_n dX4_join_14 rfl 2 rfl ?_
        refine z_bipush (v := 14) dX4_join_15 (by decide) ?_
        refine z_icmp_ge (tgt := 44) dX4_join_17 (by decide) (fun q => ?_) (fun q => ?_)
        · have h := (if_pos q).symm.trans h
          cases h
          exact z_return dX4_join_44 rfl ⟨rfl, rfl⟩
        · have h := (if_neg q).symm.trans h
          obtain ⟨g1, h⟩ := gd h
          refine z_aload_n dX4_join_20 rfl 0 rfl ?_
          refine gf_4_9 rfl dX4_join_21 ?_
          refine z_iload_n dX4_join_24 rfl 1 rfl ?_
          refine z_dup2_11 dX4_join_25 rfl rfl ?_
          obtain ⟨g2, h⟩ := gd h
          refine ia_0_38 (inb_in g1) dX4_join_26 ?_
          refine z_iconst (v := 1) dX4_join_27 (by decide) ?_
          refine z_iload_n dX4_join_28 rfl 2 rfl ?_
          refine z_ishl dX4_join_29 ?_
          refine z_ior dX4_join_30 ?_
          refine is_0_38 (inb_in g2) dX4_join_31 ?_
          refine z_aload_n dX4_join_32 rfl 0 rfl ?_
          refine gf_4_9 rfl dX4_join_33 ?_
          refine z_iload_n dX4_join_36 rfl 2 rfl ?_
          refine z_dup2_11 dX4_join_37 rfl rfl ?_
          refine Z.lv [1] rfl ?_
          exact zb_X4_join_38 h
/-- SkyStones$Pairing.join(II)V -/
theorem c_X4_join {S : Shp} {x1 : Int32} {x2 : Int32} {σ : Mm} {r : Mm} (h : F_X4_join x1 x2 σ = some r) : Ct m_X4_join S [.ref (sL S 0 0 37), .int (x1), .int (x2)] σ (Qv r) := Ct.of (by decide) (Nat.le_of_ble_eq_true rfl) (zb_X4_join h)
def F_X4_bestOf (x1 : Int32) (σ : Mm) : Option (Int32 × Mm) := (if inb (x1 >>> (3 &&& 31)) 2048 = true then some (((mA σ 0 0 39 (x1 >>> (3 &&& 31)).toNatClampNeg) >>> (((x1 &&& 7) <<< (2 &&& 31)) &&& 31)) &&& 15, σ) else none)
set_option maxRecDepth 20000 in
theorem zb_X4_bestOf {S : Shp} {x1 : Int32} {σ : Mm} {r : Int32 × Mm} (h : F_X4_bestOf x1 σ = some r) : Z m_X4_bestOf S (Qi r) 0 [(0, .ref (sL S 0 0 37)), (1, .int (x1))] [] σ := by
  unfold F_X4_bestOf at h
  obtain ⟨g1, h⟩ := gd h
  refine z_aload_n dX4_bestOf_0 rfl 0 rfl ?_
  refine gf_4_15 rfl dX4_bestOf_1 ?_
  refine z_iload_n dX4_bestOf_4 rfl 1 rfl ?_
  refine z_iconst (v := 3) dX4_bestOf_5 (by decide) ?_
  refine z_ishr dX4_bestOf_6 ?_
  refine ia_0_39 (inb_in g1) dX4_bestOf_7 ?_
  refine z_iload_n dX4_bestOf_8 rfl 1 rfl ?_
  refine z_bipush (v := 7) dX4_bestOf_9 (by decide) ?_
  refine z_iand dX4_bestOf_11 ?_
  refine z_iconst (v := 2) dX4_bestOf_12 (by decide) ?_
  refine z_ishl dX4_bestOf_13 ?_
  refine z_ishr dX4_bestOf_14 ?_
  refine z_bipush (v := 15) dX4_bestOf_15 (by decide) ?_
  refine z_iand dX4_bestOf_17 ?_
  cases h
  exact z_ireturn dX4_bestOf_18 rfl rfl ⟨rfl, rfl⟩
/-- SkyStones$Pairing.bestOf(I)I -/
theorem c_X4_bestOf {S : Shp} {x1 : Int32} {σ : Mm} {r : Int32 × Mm} (h : F_X4_bestOf x1 σ = some r) : Ct m_X4_bestOf S [.ref (sL S 0 0 37), .int (x1)] σ (Qi r) := Ct.of (by decide) (Nat.le_of_ble_eq_true rfl) (zb_X4_bestOf h)
def F_X4_bestWith_54 (rc19 : Int32 → Int32 → Int32 → Int32 → Int32 → Mm → Option (Int32 × Mm)) (x1 : Int32) (x2 : Int32) (x3 : Int32) (x4 : Int32) (x5 : Int32) (σ : Mm) : Option (Int32 × Mm) := (rc19 x1 x2 x3 x4 (x5 + 1) σ)
set_option maxRecDepth 20000 in
theorem zb_X4_bestWith_54 {S : Shp} {rc19 : Int32 → Int32 → Int32 → Int32 → Int32 → Mm → Option (Int32 × Mm)} (hrc19 : ∀ {x1 : Int32} {x2 : Int32} {x3 : Int32} {x4 : Int32} {x5 : Int32} {σ : Mm} {r : Int32 × Mm}, rc19 x1 x2 x3 x4 x5 σ = some r → Z m_X4_bestWith S (Qi r) 19 [(0, .ref (sL S 0 0 37)), (1, .int (x1)), (2, .int (x2)), (3, .int (x3)), (4, .int (x4)), (5, .int (x5))] [] σ) {x1 : Int32} {x2 : Int32} {x3 : Int32} {x4 : Int32} {x5 : Int32} {σ : Mm} {r : Int32 × Mm} (h : F_X4_bestWith_54 rc19 x1 x2 x3 x4 x5 σ = some r) : Z m_X4_bestWith S (Qi r) 54 [(0, .ref (sL S 0 0 37)), (1, .int (x1)), (2, .int (x2)), (3, .int (x3)), (4, .int (x4)), (5, .int (x5))] [] σ := by
  unfold F_X4_bestWith_54 at h
  refine z_iinc (j := 5) (v := x5 + 1) dX4_bestWith_54 rfl rfl (by decide) [1, 2, 3, 4, 5, 0] rfl ?_
  refine z_goto (tgt := 19) dX4_bestWith_57 (by decide) ?_
  exact hrc19 h
def F_X4_bestWith_49 (rc19 : Int32 → Int32 → Int32 → Int32 → Int32 → Mm → Option (Int32 × Mm)) (x1 : Int32) (x2 : Int32) (x4 : Int32) (x5 : Int32) (s0 : Int32) (s1 : Int32) (s2 : Int32) (σ : Mm) : Option (Int32 × Mm) := (F_X4_bestWith_54 rc19 x1 x2 (f_J9_max_7cf53 s2 (s1 + s0)) x4 x5 σ)
set_option maxRecDepth 20000 in
theorem zb_X4_bestWith_49 {S : Shp} {rc19 : Int32 → Int32 → Int32 → Int32 → Int32 → Mm → Option (Int32 × Mm)} (hrc19 : ∀ {x1 : Int32} {x2 : Int32} {x3 : Int32} {x4 : Int32} {x5 : Int32} {σ : Mm} {r : Int32 × Mm}, rc19 x1 x2 x3 x4 x5 σ = some r → Z m_X4_bestWith S (Qi r) 19 [(0, .ref (sL S 0 0 37)), (1, .int (x1)), (2, .int (x2)), (3, .int (x3)), (4, .int (x4)), (5, .int (x5))] [] σ) {x1 : Int32} {x2 : Int32} {x4 : Int32} {x5 : Int32} {s0 : Int32} {s1 : Int32} {s2 : Int32} {σ : Mm} {r : Int32 × Mm} (h : F_X4_bestWith_49 rc19 x1 x2 x4 x5 s0 s1 s2 σ = some r) : Z m_X4_bestWith S (Qi r) 49 [(0, .ref (sL S 0 0 37)), (1, .int (x1)), (2, .int (x2)), (4, .int (x4)), (5, .int (x5))] [.int (s0), .int (s1), .int (s2)] σ := by
  unfold F_X4_bestWith_49 at h
  refine z_iadd dX4_bestWith_49 ?_
  refine z_callS (M' := m_J9_max_7cf53) (As := [.int (s2), .int (s1 + s0)]) (rest := []) kl_4_43 oy_J9_max_7cf53 ⟨Nat.le_of_ble_eq_true rfl, Nat.le_of_ble_eq_true rfl⟩ rfl (Nat.le_of_ble_eq_true rfl) rfl dX4_bestWith_50 (c_J9_max_7cf53 rfl) (fun v τ hq => ?_)
  obtain ⟨rfl, rfl⟩ := hq
  change Z _ _ _ _ _ [.int (f_J9_max_7cf53 s2 (s1 + s0))] _
  refine z_istore_n dX4_bestWith_53 rfl (by decide) [1, 2, 3, 0, 4, 5] rfl ?_
  exact zb_X4_bestWith_54 hrc19 h
def B_X4_bestWith_19 (rc19 : Int32 → Int32 → Int32 → Int32 → Int32 → Mm → Option (Int32 × Mm)) (x1 : Int32) (x2 : Int32) (x3 : Int32) (x4 : Int32) (x5 : Int32) (σ : Mm) : Option (Int32 × Mm) := (if x1 ≤ x5 then some (x3, σ) else (if ((x4 >>> (x5 &&& 31)) &&& 1) = 0 then (F_X4_bestWith_54 rc19 x1 x2 x3 x4 x5 σ) else (bnd (F_X4_bestOf (x2 &&& ((1 <<< (x5 &&& 31)) ^^^ ((-1)))) σ) (fun v τ => (F_X4_bestWith_49 rc19 x1 x2 x4 x5 v 1 x3 τ)))))
set_option maxRecDepth 20000 in
theorem zB_X4_bestWith_19 {S : Shp} {rc19 : Int32 → Int32 → Int32 → Int32 → Int32 → Mm → Option (Int32 × Mm)} (hrc19 : ∀ {x1 : Int32} {x2 : Int32} {x3 : Int32} {x4 : Int32} {x5 : Int32} {σ : Mm} {r : Int32 × Mm}, rc19 x1 x2 x3 x4 x5 σ = some r → Z m_X4_bestWith S (Qi r) 19 [(0, .ref (sL S 0 0 37)), (1, .int (x1)), (2, .int (x2)), (3, .int (x3)), (4, .int (x4)), (5, .int (x5))] [] σ) {x1 : Int32} {x2 : Int32} {x3 : Int32} {x4 : Int32} {x5 : Int32} {σ : Mm} {r : Int32 × Mm} (h : B_X4_bestWith_19 rc19 x1 x2 x3 x4 x5 σ = some r) : Z m_X4_bestWith S (Qi r) 19 [(0, .ref (sL S 0 0 37)), (1, .int (x1)), (2, .int (x2)), (3, .int (x3)), (4, .int (x4)), (5, .int (x5))] [] σ := by
  unfold B_X4_bestWith_19 at h
  refine z_iload dX4_bestWith_19 5 rfl ?_
  refine z_iload_n dX4_bestWith_21 rfl 1 rfl ?_
  refine z_icmp_ge (tgt := 60) dX4_bestWith_22 (by decide) (fun q => ?_) (fun q => ?_)
  · have h := (if_pos q).symm.trans h
    refine z_iload_n dX4_bestWith_60 rfl 3 rfl ?_
    cases h
    exact z_ireturn dX4_bestWith_61 rfl rfl ⟨rfl, rfl⟩
  · have h := (if_neg q).symm.trans h
    refine z_iload dX4_bestWith_25 4 rfl ?_
    refine z_iload dX4_bestWith_27 5 rfl ?_
    refine z_ishr dX4_bestWith_29 ?_
    refine z_iconst (v := 1) dX4_bestWith_30 (by decide) ?_
    refine z_iand dX4_bestWith_31 ?_
    refine z_if_eq (tgt := 54) dX4_bestWith_32 (by decide) (fun q => ?_) (fun q => ?_)
    · have h := (if_pos q).symm.trans h
      exact zb_X4_bestWith_54 hrc19 h
    · have h := (if_neg q).symm.trans h
      refine z_iload_n dX4_bestWith_35 rfl 3 rfl ?_
      refine z_iconst (v := 1) dX4_bestWith_36 (by decide) ?_
      refine z_aload_n dX4_bestWith_37 rfl 0 rfl ?_
      refine z_iload_n dX4_bestWith_38 rfl 2 rfl ?_
      refine z_iconst (v := 1) dX4_bestWith_39 (by decide) ?_
      refine z_iload dX4_bestWith_40 5 rfl ?_
      refine z_ishl dX4_bestWith_42 ?_
      refine z_iconst (v := (-1)) dX4_bestWith_43 (by decide) ?_
      refine z_ixor dX4_bestWith_44 ?_
      refine z_iand dX4_bestWith_45 ?_
      obtain ⟨v, τ, hc, h⟩ := bnd_e h
      refine z_callV (M' := m_X4_bestOf) (t := 0) (i := 0) (k := 37) (As := [.int (x2 &&& ((1 <<< (x5 &&& 31)) ^^^ ((-1))))]) (rest := [.int (1), .int (x3)]) kl_4_36 oy_X4_bestOf ⟨Nat.le_of_ble_eq_true rfl, Nat.le_of_ble_eq_true rfl⟩ rfl rfl rfl rfl (Nat.le_of_ble_eq_true rfl) rfl dX4_bestWith_46 (c_X4_bestOf hc) (fun v2 τ2 hq => ?_)
      obtain ⟨rfl, rfl⟩ := hq
      change Z _ _ _ _ _ [.int (v), .int (1), .int (x3)] _
      refine Z.lv [0, 1, 2, 4, 5] rfl ?_
      exact zb_X4_bestWith_49 hrc19 h
def F_X4_bestWith_19 : Nat → Int32 → Int32 → Int32 → Int32 → Int32 → Mm → Option (Int32 × Mm)
  | 0 => fun _ _ _ _ _ _ => none
  | n + 1 => B_X4_bestWith_19 (F_X4_bestWith_19 n)
theorem zl_X4_bestWith_19 {S : Shp} (n : Nat) {x1 : Int32} {x2 : Int32} {x3 : Int32} {x4 : Int32} {x5 : Int32} {σ : Mm} {r : Int32 × Mm} (h : F_X4_bestWith_19 n x1 x2 x3 x4 x5 σ = some r) : Z m_X4_bestWith S (Qi r) 19 [(0, .ref (sL S 0 0 37)), (1, .int (x1)), (2, .int (x2)), (3, .int (x3)), (4, .int (x4)), (5, .int (x5))] [] σ := by
  induction n generalizing x1 x2 x3 x4 x5 σ r with
  | zero => cases h
  | succ n ih => exact zB_X4_bestWith_19 (fun h => ih h) h
def F_X4_bestWith_5 (x1 : Int32) (x2 : Int32) (s0 : Int32) (σ : Mm) : Option (Int32 × Mm) := (if inb x1 14 = true then (F_X4_bestWith_19 FU x1 x2 s0 ((mA σ 0 0 38 x1.toNatClampNeg) &&& x2) 0 σ) else none)
set_option maxRecDepth 20000 in
theorem zb_X4_bestWith_5 {S : Shp} {x1 : Int32} {x2 : Int32} {s0 : Int32} {σ : Mm} {r : Int32 × Mm} (h : F_X4_bestWith_5 x1 x2 s0 σ = some r) : Z m_X4_bestWith S (Qi r) 5 [(0, .ref (sL S 0 0 37)), (1, .int (x1)), (2, .int (x2))] [.int (s0)] σ := by
  unfold F_X4_bestWith_5 at h
  obtain ⟨g1, h⟩ := gd h
  refine z_istore_n dX4_bestWith_5 rfl (by decide) [1, 2, 3, 0] rfl ?_
  refine z_aload_n dX4_bestWith_6 rfl 0 rfl ?_
  refine gf_4_9 rfl dX4_bestWith_7 ?_
  refine z_iload_n dX4_bestWith_10 rfl 1 rfl ?_
  refine ia_0_38 (inb_in g1) dX4_bestWith_11 ?_
  refine z_iload_n dX4_bestWith_12 rfl 2 rfl ?_
  refine z_iand dX4_bestWith_13 ?_
  refine z_istore dX4_bestWith_14 (by decide) [1, 2, 3, 4, 0] rfl ?_
  refine z_iconst (v := 0) dX4_bestWith_16 (by decide) ?_
  refine z_istore dX4_bestWith_17 (by decide) [1, 2, 3, 4, 5, 0] rfl ?_
  exact zl_X4_bestWith_19 FU h
def F_X4_bestWith (x1 : Int32) (x2 : Int32) (σ : Mm) : Option (Int32 × Mm) := (bnd (F_X4_bestOf x2 σ) (fun v τ => (F_X4_bestWith_5 x1 x2 v τ)))
set_option maxRecDepth 20000 in
theorem zb_X4_bestWith {S : Shp} {x1 : Int32} {x2 : Int32} {σ : Mm} {r : Int32 × Mm} (h : F_X4_bestWith x1 x2 σ = some r) : Z m_X4_bestWith S (Qi r) 0 [(0, .ref (sL S 0 0 37)), (1, .int (x1)), (2, .int (x2))] [] σ := by
  unfold F_X4_bestWith at h
  refine z_aload_n dX4_bestWith_0 rfl 0 rfl ?_
  refine z_iload_n dX4_bestWith_1 rfl 2 rfl ?_
  obtain ⟨v, τ, hc, h⟩ := bnd_e h
  refine z_callV (M' := m_X4_bestOf) (t := 0) (i := 0) (k := 37) (As := [.int (x2)]) (rest := []) kl_4_36 oy_X4_bestOf ⟨Nat.le_of_ble_eq_true rfl, Nat.le_of_ble_eq_true rfl⟩ rfl rfl rfl rfl (Nat.le_of_ble_eq_true rfl) rfl dX4_bestWith_2 (c_X4_bestOf hc) (fun v2 τ2 hq => ?_)
  obtain ⟨rfl, rfl⟩ := hq
  change Z _ _ _ _ _ [.int (v)] _
  exact zb_X4_bestWith_5 h
/-- SkyStones$Pairing.bestWith(II)I -/
theorem c_X4_bestWith {S : Shp} {x1 : Int32} {x2 : Int32} {σ : Mm} {r : Int32 × Mm} (h : F_X4_bestWith x1 x2 σ = some r) : Ct m_X4_bestWith S [.ref (sL S 0 0 37), .int (x1), .int (x2)] σ (Qi r) := Ct.of (by decide) (Nat.le_of_ble_eq_true rfl) (zb_X4_bestWith h)
def F_X4_put (x1 : Int32) (x2 : Int32) (σ : Mm) : Option (Mm) := (if inb (x1 >>> (3 &&& 31)) 2048 = true then (if inb (x1 >>> (3 &&& 31)) 2048 = true then some (setA σ 0 0 39 (upd (mA σ 0 0 39) (x1 >>> (3 &&& 31)).toNatClampNeg (((mA σ 0 0 39 (x1 >>> (3 &&& 31)).toNatClampNeg) &&& ((15 <<< (((x1 &&& 7) <<< (2 &&& 31)) &&& 31)) ^^^ ((-1)))) ||| (x2 <<< (((x1 &&& 7) <<< (2 &&& 31)) &&& 31))))) else none) else none)
set_option maxRecDepth 20000 in
theorem zb_X4_put {S : Shp} {x1 : Int32} {x2 : Int32} {σ : Mm} {r : Mm} (h : F_X4_put x1 x2 σ = some r) : Z m_X4_put S (Qv r) 0 [(0, .ref (sL S 0 0 37)), (1, .int (x1)), (2, .int (x2))] [] σ := by
  unfold F_X4_put at h
  obtain ⟨g1, h⟩ := gd h
  refine z_iload_n dX4_put_0 rfl 1 rfl ?_
  refine z_bipush (v := 7) dX4_put_1 (by decide) ?_
  refine z_iand dX4_put_3 ?_
  refine z_iconst (v := 2) dX4_put_4 (by decide) ?_
  refine z_ishl dX4_put_5 ?_
  refine z_istore_n dX4_put_6 rfl (by decide) [1, 2, 3, 0] rfl ?_
  refine z_aload_n dX4_put_7 rfl 0 rfl ?_
  refine gf_4_15 rfl dX4_put_8 ?_
  refine z_iload_n dX4_put_11 rfl 1 rfl ?_
  refine z_iconst (v := 3) dX4_put_12 (by decide) ?_
  refine z_ishr dX4_put_13 ?_
  refine z_aload_n dX4_put_14 rfl 0 rfl ?_
  refine gf_4_15 rfl dX4_put_15 ?_
  refine z_iload_n dX4_put_18 rfl 1 rfl ?_
  refine z_iconst (v := 3) dX4_put_19 (by decide) ?_
  refine z_ishr dX4_put_20 ?_
  obtain ⟨g2, h⟩ := gd h
  refine ia_0_39 (inb_in g1) dX4_put_21 ?_
  refine z_bipush (v := 15) dX4_put_22 (by decide) ?_
  refine z_iload_n dX4_put_24 rfl 3 rfl ?_
  refine z_ishl dX4_put_25 ?_
  refine z_iconst (v := (-1)) dX4_put_26 (by decide) ?_
  refine z_ixor dX4_put_27 ?_
  refine z_iand dX4_put_28 ?_
  refine z_iload_n dX4_put_29 rfl 2 rfl ?_
  refine z_iload_n dX4_put_30 rfl 3 rfl ?_
  refine z_ishl dX4_put_31 ?_
  refine z_ior dX4_put_32 ?_
  refine is_0_39 (inb_in g2) dX4_put_33 ?_
  cases h
  exact z_return dX4_put_34 rfl ⟨rfl, rfl⟩
/-- SkyStones$Pairing.put(II)V -/
theorem c_X4_put {S : Shp} {x1 : Int32} {x2 : Int32} {σ : Mm} {r : Mm} (h : F_X4_put x1 x2 σ = some r) : Ct m_X4_put S [.ref (sL S 0 0 37), .int (x1), .int (x2)] σ (Qv r) := Ct.of (by decide) (Nat.le_of_ble_eq_true rfl) (zb_X4_put h)
def F_X4_rename_68 (rc27 : Int32 → Int32 → Int32 → Mm → Option (Mm)) (x1 : Int32) (x2 : Int32) (x3 : Int32) (σ : Mm) : Option (Mm) := (rc27 x1 x2 (x3 + 1) σ)
set_option maxRecDepth 20000 in
theorem zb_X4_rename_68 {S : Shp} {rc27 : Int32 → Int32 → Int32 → Mm → Option (Mm)} (hrc27 : ∀ {x1 : Int32} {x2 : Int32} {x3 : Int32} {σ : Mm} {r : Mm}, rc27 x1 x2 x3 σ = some r → Z m_X4_rename S (Qv r) 27 [(0, .ref (sL S 0 0 37)), (1, .int (x1)), (2, .int (x2)), (3, .int (x3))] [] σ) {x1 : Int32} {x2 : Int32} {x3 : Int32} {σ : Mm} {r : Mm} (h : F_X4_rename_68 rc27 x1 x2 x3 σ = some r) : Z m_X4_rename S (Qv r) 68 [(0, .ref (sL S 0 0 37)), (1, .int (x1)), (2, .int (x2)), (3, .int (x3))] [] σ := by
  unfold F_X4_rename_68 at h
  refine z_iinc (j := 3) (v := x3 + 1) dX4_rename_68 rfl rfl (by decide) [1, 2, 3, 0] rfl ?_
  refine z_goto (tgt := 27) dX4_rename_71 (by decide) ?_
  exact hrc27 h
def B_X4_rename_27 (rc27 : Int32 → Int32 → Int32 → Mm → Option (Mm)) (x1 : Int32) (x2 : Int32) (x3 : Int32) (σ : Mm) : Option (Mm) := (if 14 ≤ x3 then some (σ) else (if inb x3 14 = true then (if (((mA σ 0 0 38 x3.toNatClampNeg) >>> (x1 &&& 31)) &&& 1) = 0 then (F_X4_rename_68 rc27 x1 x2 x3 σ) else (if inb x3 14 = true then (if inb x3 14 = true then (F_X4_rename_68 rc27 x1 x2 x3 (setA σ 0 0 38 (upd (mA σ 0 0 38) x3.toNatClampNeg (((mA σ 0 0 38 x3.toNatClampNeg) &&& ((1 <<< (x1 &&& 31)) ^^^ ((-1)))) ||| (1 <<< (x2 &&& 31)))))) else none) else none)) else none))
set_option maxRecDepth 20000 in
theorem zB_X4_rename_27 {S : Shp} {rc27 : Int32 → Int32 → Int32 → Mm → Option (Mm)} (hrc27 : ∀ {x1 : Int32} {x2 : Int32} {x3 : Int32} {σ : Mm} {r : Mm}, rc27 x1 x2 x3 σ = some r → Z m_X4_rename S (Qv r) 27 [(0, .ref (sL S 0 0 37)), (1, .int (x1)), (2, .int (x2)), (3, .int (x3))] [] σ) {x1 : Int32} {x2 : Int32} {x3 : Int32} {σ : Mm} {r : Mm} (h : B_X4_rename_27 rc27 x1 x2 x3 σ = some r) : Z m_X4_rename S (Qv r) 27 [(0, .ref (sL S 0 0 37)), (1, .int (x1)), (2, .int (x2)), (3, .int (x3))] [] σ := by
  unfold B_X4_rename_27 at h
  refine z_iload_n dX4_rename_27 rfl 3 rfl ?_
  refine z_bipush (v := 14) dX4_rename_28 (by decide) ?_
  refine z_icmp_ge (tgt := 74) dX4_rename_30 (by decide) (fun q => ?_) (fun q => ?_)
  · have h := (if_pos q).symm.trans h
    cases h
    exact z_return dX4_rename_74 rfl ⟨rfl, rfl⟩
  · have h := (if_neg q).symm.trans h
    obtain ⟨g4, h⟩ := gd h
    refine z_aload_n dX4_rename_33 rfl 0 rfl ?_
    refine gf_4_9 rfl dX4_rename_34 ?_
    refine z_iload_n dX4_rename_37 rfl 3 rfl ?_
    refine ia_0_38 (inb_in g4) dX4_rename_38 ?_
    refine z_iload_n dX4_rename_39 rfl 1 rfl ?_
    refine z_ishr dX4_rename_40 ?_
    refine z_iconst (v := 1) dX4_rename_41 (by decide) ?_
    refine z_iand dX4_rename_42 ?_
    refine z_if_eq (tgt := 68) dX4_rename_43 (by decide) (fun q => ?_) (fun q => ?_)
    · have h := (if_pos q).symm.trans h
      exact zb_X4_rename_68 hrc27 h
    · have h := (if_neg q).symm.trans h
      obtain ⟨g5, h⟩ := gd h
      refine z_aload_n dX4_rename_46 rfl 0 rfl ?_
      refine gf_4_9 rfl dX4_rename_47 ?_
      refine z_iload_n dX4_rename_50 rfl 3 rfl ?_
      refine z_aload_n dX4_rename_51 rfl 0 rfl ?_
      refine gf_4_9 rfl dX4_rename_52 ?_
      refine z_iload_n dX4_rename_55 rfl 3 rfl ?_
      obtain ⟨g6, h⟩ := gd h
      refine ia_0_38 (inb_in g5) dX4_rename_56 ?_
      refine z_iconst (v := 1) dX4_rename_57 (by decide) ?_
      refine z_iload_n dX4_rename_58 rfl 1 rfl ?_
      refine z_ishl dX4_rename_59 ?_
      refine z_iconst (v := (-1)) dX4_rename_60 (by decide) ?_
      refine z_ixor dX4_rename_61 ?_
      refine z_iand dX4_rename_62 ?_
      refine z_iconst (v := 1) dX4_rename_63 (by decide) ?_
      refine z_iload_n dX4_rename_64 rfl 2 rfl ?_
      refine z_ishl dX4_rename_65 ?_
      refine z_ior dX4_rename_66 ?_
      refine is_0_38 (inb_in g6) dX4_rename_67 ?_
      exact zb_X4_rename_68 hrc27 h
def F_X4_rename_27 : Nat → Int32 → Int32 → Int32 → Mm → Option (Mm)
  | 0 => fun _ _ _ _ => none
  | n + 1 => B_X4_rename_27 (F_X4_rename_27 n)
theorem zl_X4_rename_27 {S : Shp} (n : Nat) {x1 : Int32} {x2 : Int32} {x3 : Int32} {σ : Mm} {r : Mm} (h : F_X4_rename_27 n x1 x2 x3 σ = some r) : Z m_X4_rename S (Qv r) 27 [(0, .ref (sL S 0 0 37)), (1, .int (x1)), (2, .int (x2)), (3, .int (x3))] [] σ := by
  induction n generalizing x1 x2 x3 σ r with
  | zero => cases h
  | succ n ih => exact zB_X4_rename_27 (fun h => ih h) h
def F_X4_rename_24 (x1 : Int32) (x2 : Int32) (s0 : Int32) (s1 : Int32) (σ : Mm) : Option (Mm) := (if inb s1 14 = true then (F_X4_rename_27 FU x1 x2 0 (setA σ 0 0 38 (upd (mA σ 0 0 38) s1.toNatClampNeg s0))) else none)
set_option maxRecDepth 20000 in
theorem zb_X4_rename_24 {S : Shp} {x1 : Int32} {x2 : Int32} {s0 : Int32} {s1 : Int32} {σ : Mm} {r : Mm} (h : F_X4_rename_24 x1 x2 s0 s1 σ = some r) : Z m_X4_rename S (Qv r) 24 [(0, .ref (sL S 0 0 37)), (1, .int (x1)), (2, .int (x2))] [.int (s0), .int (s1), .ref (sL S 0 0 38)] σ := by
  unfold F_X4_rename_24 at h
  obtain ⟨g3, h⟩ := gd h
  refine is_0_38 (inb_in g3) dX4_rename_24 ?_
  refine z_iconst (v := 0) dX4_rename_25 (by decide) ?_
  refine z_istore_n dX4_rename_26 rfl (by decide) [1, 2, 3, 0] rfl ?_
  exact zl_X4_rename_27 FU h
def F_X4_rename (x1 : Int32) (x2 : Int32) (σ : Mm) : Option (Mm) := (if x1 = x2 then some (σ) else (if inb x1 14 = true then (if inb x2 14 = true then (F_X4_rename_24 x1 x2 0 x1 (setA σ 0 0 38 (upd (mA σ 0 0 38) x2.toNatClampNeg (mA σ 0 0 38 x1.toNatClampNeg)))) else none) else none))
set_option maxRecDepth 20000 in
theorem zb_X4_rename {S : Shp} {x1 : Int32} {x2 : Int32} {σ : Mm} {r : Mm} (h : F_X4_rename x1 x2 σ = some r) : Z m_X4_rename S (Qv r) 0 [(0, .ref (sL S 0 0 37)), (1, .int (x1)), (2, .int (x2))] [] σ := by
  unfold F_X4_rename at h
  refine z_iload_n dX4_rename_0 rfl 1 rfl ?_
  refine z_iload_n dX4_rename_1 rfl 2 rfl ?_
  refine z_icmp_ne (tgt := 6) dX4_rename_2 (by decide) (fun q => ?_) (fun q => ?_)
  · have h := (if_neg q).symm.trans h
    obtain ⟨g1, h⟩ := gd h
    refine z_aload_n dX4_rename_6 rfl 0 rfl ?_
    refine gf_4_9 rfl dX4_rename_7 ?_
    refine z_iload_n dX4_rename_10 rfl 2 rfl ?_
    refine z_aload_n dX4_rename_11 rfl 0 rfl ?_
    refine gf_4_9 rfl dX4_rename_12 ?_
    refine z_iload_n dX4_rename_15 rfl 1 rfl ?_
    obtain ⟨g2, h⟩ := gd h
    refine ia_0_38 (inb_in g1) dX4_rename_16 ?_
    refine is_0_38 (inb_in g2) dX4_rename_17 ?_
    refine z_aload_n dX4_rename_18 rfl 0 rfl ?_
    refine gf_4_9 rfl dX4_rename_19 ?_
    refine z_iload_n dX4_rename_22 rfl 1 rfl ?_
    refine z_iconst (v := 0) dX4_rename_23 (by decide) ?_
    exact zb_X4_rename_24 h
  · have h := (if_pos q).symm.trans h
    cases h
    exact z_return dX4_rename_5 rfl ⟨rfl, rfl⟩
/-- SkyStones$Pairing.rename(II)V -/
theorem c_X4_rename {S : Shp} {x1 : Int32} {x2 : Int32} {σ : Mm} {r : Mm} (h : F_X4_rename x1 x2 σ = some r) : Ct m_X4_rename S [.ref (sL S 0 0 37), .int (x1), .int (x2)] σ (Qv r) := Ct.of (by decide) (Nat.le_of_ble_eq_true rfl) (zb_X4_rename h)
def F_X4_squeeze_28 (rc4 : Int32 → Int32 → Mm → Option (Int32 × Mm)) (x1 : Int32) (x2 : Int32) (σ : Mm) : Option (Int32 × Mm) := (rc4 x1 (x2 + 1) σ)
set_option maxRecDepth 20000 in
theorem zb_X4_squeeze_28 {S : Shp} {rc4 : Int32 → Int32 → Mm → Option (Int32 × Mm)} (hrc4 : ∀ {x1 : Int32} {x2 : Int32} {σ : Mm} {r : Int32 × Mm}, rc4 x1 x2 σ = some r → Z m_X4_squeeze S (Qi r) 4 [(0, .ref (sL S 0 0 37)), (1, .int (x1)), (2, .int (x2))] [] σ) {x1 : Int32} {x2 : Int32} {σ : Mm} {r : Int32 × Mm} (h : F_X4_squeeze_28 rc4 x1 x2 σ = some r) : Z m_X4_squeeze S (Qi r) 28 [(0, .ref (sL S 0 0 37)), (1, .int (x1)), (2, .int (x2))] [] σ := by
  unfold F_X4_squeeze_28 at h
  refine z_iinc (j := 2) (v := x2 + 1) dX4_squeeze_28 rfl rfl (by decide) [1, 2, 0] rfl ?_
  refine z_goto (tgt := 4) dX4_squeeze_31 (by decide) ?_
  exact hrc4 h
def F_X4_squeeze_25 (rc4 : Int32 → Int32 → Mm → Option (Int32 × Mm)) (x1 : Int32) (x2 : Int32) (σ : Mm) : Option (Int32 × Mm) := (F_X4_squeeze_28 rc4 (x1 + 1) x2 σ)
set_option maxRecDepth 20000 in
theorem zb_X4_squeeze_25 {S : Shp} {rc4 : Int32 → Int32 → Mm → Option (Int32 × Mm)} (hrc4 : ∀ {x1 : Int32} {x2 : Int32} {σ : Mm} {r : Int32 × Mm}, rc4 x1 x2 σ = some r → Z m_X4_squeeze S (Qi r) 4 [(0, .ref (sL S 0 0 37)), (1, .int (x1)), (2, .int (x2))] [] σ) {x1 : Int32} {x2 : Int32} {σ : Mm} {r : Int32 × Mm} (h : F_X4_squeeze_25 rc4 x1 x2 σ = some r) : Z m_X4_squeeze S (Qi r) 25 [(0, .ref (sL S 0 0 37)), (1, .int (x1)), (2, .int (x2))] [] σ := by
  unfold F_X4_squeeze_25 at h
  refine z_iinc (j := 1) (v := x1 + 1) dX4_squeeze_25 rfl rfl (by decide) [1, 0, 2] rfl ?_
  exact zb_X4_squeeze_28 hrc4 h
def B_X4_squeeze_4 (rc4 : Int32 → Int32 → Mm → Option (Int32 × Mm)) (x1 : Int32) (x2 : Int32) (σ : Mm) : Option (Int32 × Mm) := (if 14 ≤ x2 then some (x1, σ) else (if inb x2 14 = true then (if (mA σ 0 0 38 x2.toNatClampNeg) = 0 then (F_X4_squeeze_28 rc4 x1 x2 σ) else (bnv (F_X4_rename x2 x1 σ) (fun τ => (F_X4_squeeze_25 rc4 x1 x2 τ)))) else none))
set_option maxRecDepth 20000 in
theorem zB_X4_squeeze_4 {S : Shp} {rc4 : Int32 → Int32 → Mm → Option (Int32 × Mm)} (hrc4 : ∀ {x1 : Int32} {x2 : Int32} {σ : Mm} {r : Int32 × Mm}, rc4 x1 x2 σ = some r → Z m_X4_squeeze S (Qi r) 4 [(0, .ref (sL S 0 0 37)), (1, .int (x1)), (2, .int (x2))] [] σ) {x1 : Int32} {x2 : Int32} {σ : Mm} {r : Int32 × Mm} (h : B_X4_squeeze_4 rc4 x1 x2 σ = some r) : Z m_X4_squeeze S (Qi r) 4 [(0, .ref (sL S 0 0 37)), (1, .int (x1)), (2, .int (x2))] [] σ := by
  unfold B_X4_squeeze_4 at h
  refine z_iload_n dX4_squeeze_4 rfl 2 rfl ?_
  refine z_bipush (v := 14) dX4_squeeze_5 (by decide) ?_
  refine z_icmp_ge (tgt := 34) dX4_squeeze_7 (by decide) (fun q => ?_) (fun q => ?_)
  · have h := (if_pos q).symm.trans h
    refine z_iload_n dX4_squeeze_34 rfl 1 rfl ?_
    cases h
    exact z_ireturn dX4_squeeze_35 rfl rfl ⟨rfl, rfl⟩
  · have h := (if_neg q).symm.trans h
    obtain ⟨g1, h⟩ := gd h
    refine z_aload_n dX4_squeeze_10 rfl 0 rfl ?_
    refine gf_4_9 rfl dX4_squeeze_11 ?_
    refine z_iload_n dX4_squeeze_14 rfl 2 rfl ?_
    refine ia_0_38 (inb_in g1) dX4_squeeze_15 ?_
    refine z_if_eq (tgt := 28) dX4_squeeze_16 (by decide) (fun q => ?_) (fun q => ?_)
    · have h := (if_pos q).symm.trans h
      exact zb_X4_squeeze_28 hrc4 h
    · have h := (if_neg q).symm.trans h
      refine z_aload_n dX4_squeeze_19 rfl 0 rfl ?_
      refine z_iload_n dX4_squeeze_20 rfl 2 rfl ?_
      refine z_iload_n dX4_squeeze_21 rfl 1 rfl ?_
      obtain ⟨τ, hc, h⟩ := bnv_e h
      refine z_callV (M' := m_X4_rename) (t := 0) (i := 0) (k := 37) (As := [.int (x2), .int (x1)]) (rest := []) kl_4_40 oy_X4_rename ⟨Nat.le_of_ble_eq_true rfl, Nat.le_of_ble_eq_true rfl⟩ rfl rfl rfl rfl (Nat.le_of_ble_eq_true rfl) rfl dX4_squeeze_22 (c_X4_rename hc) (fun v2 τ2 hq => ?_)
      obtain ⟨rfl, rfl⟩ := hq
      change Z _ _ _ _ _ [] _
      exact zb_X4_squeeze_25 hrc4 h
def F_X4_squeeze_4 : Nat → Int32 → Int32 → Mm → Option (Int32 × Mm)
  | 0 => fun _ _ _ => none
  | n + 1 => B_X4_squeeze_4 (F_X4_squeeze_4 n)
theorem zl_X4_squeeze_4 {S : Shp} (n : Nat) {x1 : Int32} {x2 : Int32} {σ : Mm} {r : Int32 × Mm} (h : F_X4_squeeze_4 n x1 x2 σ = some r) : Z m_X4_squeeze S (Qi r) 4 [(0, .ref (sL S 0 0 37)), (1, .int (x1)), (2, .int (x2))] [] σ := by
  induction n generalizing x1 x2 σ r with
  | zero => cases h
  | succ n ih => exact zB_X4_squeeze_4 (fun h => ih h) h
def F_X4_squeeze (σ : Mm) : Option (Int32 × Mm) := (F_X4_squeeze_4 FU 0 0 σ)
set_option maxRecDepth 20000 in
theorem zb_X4_squeeze {S : Shp} {σ : Mm} {r : Int32 × Mm} (h : F_X4_squeeze σ = some r) : Z m_X4_squeeze S (Qi r) 0 [(0, .ref (sL S 0 0 37))] [] σ := by
  unfold F_X4_squeeze at h
  refine z_iconst (v := 0) dX4_squeeze_0 (by decide) ?_
  refine z_istore_n dX4_squeeze_1 rfl (by decide) [1, 0] rfl ?_
  refine z_iconst (v := 0) dX4_squeeze_2 (by decide) ?_
  refine z_istore_n dX4_squeeze_3 rfl (by decide) [1, 2, 0] rfl ?_
  exact zl_X4_squeeze_4 FU h
/-- SkyStones$Pairing.squeeze()I -/
theorem c_X4_squeeze {S : Shp} {σ : Mm} {r : Int32 × Mm} (h : F_X4_squeeze σ = some r) : Ct m_X4_squeeze S [.ref (sL S 0 0 37)] σ (Qi r) := Ct.of (by decide) (Nat.le_of_ble_eq_true rfl) (zb_X4_squeeze h)
def F_X4_most_64 (s0 : Int32) (σ : Mm) : Option (Int32 × Mm) := some (s0, σ)
set_option maxRecDepth 20000 in
theorem zb_X4_most_64 {S : Shp} {s0 : Int32} {σ : Mm} {r : Int32 × Mm} (h : F_X4_most_64 s0 σ = some r) : Z m_X4_most S (Qi r) 64 [] [.int (s0)] σ := by
  unfold F_X4_most_64 at h
  cases h
  exact z_ireturn dX4_most_64 rfl rfl ⟨rfl, rfl⟩
def F_X4_most_43 (rc14 : Int32 → Int32 → Mm → Option (Int32 × Mm)) (rc21 : Int32 → Int32 → Int32 → Mm → Option (Int32 × Mm)) (x1 : Int32) (x2 : Int32) (x3 : Int32) (σ : Mm) : Option (Int32 × Mm) := (rc21 x1 x2 (x3 + 1) σ)
set_option maxRecDepth 20000 in
theorem zb_X4_most_43 {S : Shp} {rc14 : Int32 → Int32 → Mm → Option (Int32 × Mm)} (hrc14 : ∀ {x1 : Int32} {x2 : Int32} {σ : Mm} {r : Int32 × Mm}, rc14 x1 x2 σ = some r → Z m_X4_most S (Qi r) 14 [(0, .ref (sL S 0 0 37)), (1, .int (x1)), (2, .int (x2))] [] σ) {rc21 : Int32 → Int32 → Int32 → Mm → Option (Int32 × Mm)} (hrc21 : ∀ {x1 : Int32} {x2 : Int32} {x3 : Int32} {σ : Mm} {r : Int32 × Mm}, rc21 x1 x2 x3 σ = some r → Z m_X4_most S (Qi r) 21 [(0, .ref (sL S 0 0 37)), (1, .int (x1)), (2, .int (x2)), (3, .int (x3))] [] σ) {x1 : Int32} {x2 : Int32} {x3 : Int32} {σ : Mm} {r : Int32 × Mm} (h : F_X4_most_43 rc14 rc21 x1 x2 x3 σ = some r) : Z m_X4_most S (Qi r) 43 [(0, .ref (sL S 0 0 37)), (1, .int (x1)), (2, .int (x2)), (3, .int (x3))] [] σ := by
  unfold F_X4_most_43 at h
  refine z_iinc (j := 3) (v := x3 + 1) dX4_most_43 rfl rfl (by decide) [1, 2, 3, 0] rfl ?_
  refine z_goto (tgt := 21) dX4_most_46 (by decide) ?_
  exact hrc21 h
def F_X4_most_40 (rc14 : Int32 → Int32 → Mm → Option (Int32 × Mm)) (rc21 : Int32 → Int32 → Int32 → Mm → Option (Int32 × Mm)) (x1 : Int32) (x2 : Int32) (x3 : Int32) (s0 : Int32) (s1 : Int32) (σ : Mm) : Option (Int32 × Mm) := (bnv (F_X4_put s1 s0 σ) (fun τ => (F_X4_most_43 rc14 rc21 x1 x2 x3 τ)))
set_option maxRecDepth 20000 in
theorem zb_X4_most_40 {S : Shp} {rc14 : Int32 → Int32 → Mm → Option (Int32 × Mm)} (hrc14 : ∀ {x1 : Int32} {x2 : Int32} {σ : Mm} {r : Int32 × Mm}, rc14 x1 x2 σ = some r → Z m_X4_most S (Qi r) 14 [(0, .ref (sL S 0 0 37)), (1, .int (x1)), (2, .int (x2))] [] σ) {rc21 : Int32 → Int32 → Int32 → Mm → Option (Int32 × Mm)} (hrc21 : ∀ {x1 : Int32} {x2 : Int32} {x3 : Int32} {σ : Mm} {r : Int32 × Mm}, rc21 x1 x2 x3 σ = some r → Z m_X4_most S (Qi r) 21 [(0, .ref (sL S 0 0 37)), (1, .int (x1)), (2, .int (x2)), (3, .int (x3))] [] σ) {x1 : Int32} {x2 : Int32} {x3 : Int32} {s0 : Int32} {s1 : Int32} {σ : Mm} {r : Int32 × Mm} (h : F_X4_most_40 rc14 rc21 x1 x2 x3 s0 s1 σ = some r) : Z m_X4_most S (Qi r) 40 [(0, .ref (sL S 0 0 37)), (1, .int (x1)), (2, .int (x2)), (3, .int (x3))] [.int (s0), .int (s1), .ref (sL S 0 0 37)] σ := by
  unfold F_X4_most_40 at h
  obtain ⟨τ, hc, h⟩ := bnv_e h
  refine z_callV (M' := m_X4_put) (t := 0) (i := 0) (k := 37) (As := [.int (s1), .int (s0)]) (rest := []) kl_4_32 oy_X4_put ⟨Nat.le_of_ble_eq_true rfl, Nat.le_of_ble_eq_true rfl⟩ rfl rfl rfl rfl (Nat.le_of_ble_eq_true rfl) rfl dX4_most_40 (c_X4_put hc) (fun v2 τ2 hq => ?_)
  obtain ⟨rfl, rfl⟩ := hq
  change Z _ _ _ _ _ [] _
  exact zb_X4_most_43 hrc14 hrc21 h
def B_X4_most_21 (rc14 : Int32 → Int32 → Mm → Option (Int32 × Mm)) (rc21 : Int32 → Int32 → Int32 → Mm → Option (Int32 × Mm)) (x1 : Int32) (x2 : Int32) (x3 : Int32) (σ : Mm) : Option (Int32 × Mm) := (if (1 <<< (x2 &&& 31)) ≤ x3 then (rc14 x1 (x2 + 1) σ) else (bnd (F_X4_bestWith x2 x3 σ) (fun v τ => (F_X4_most_40 rc14 rc21 x1 x2 x3 v ((1 <<< (x2 &&& 31)) ||| x3) τ))))
set_option maxRecDepth 20000 in
theorem zB_X4_most_21 {S : Shp} {rc14 : Int32 → Int32 → Mm → Option (Int32 × Mm)} (hrc14 : ∀ {x1 : Int32} {x2 : Int32} {σ : Mm} {r : Int32 × Mm}, rc14 x1 x2 σ = some r → Z m_X4_most S (Qi r) 14 [(0, .ref (sL S 0 0 37)), (1, .int (x1)), (2, .int (x2))] [] σ) {rc21 : Int32 → Int32 → Int32 → Mm → Option (Int32 × Mm)} (hrc21 : ∀ {x1 : Int32} {x2 : Int32} {x3 : Int32} {σ : Mm} {r : Int32 × Mm}, rc21 x1 x2 x3 σ = some r → Z m_X4_most S (Qi r) 21 [(0, .ref (sL S 0 0 37)), (1, .int (x1)), (2, .int (x2)), (3, .int (x3))] [] σ) {x1 : Int32} {x2 : Int32} {x3 : Int32} {σ : Mm} {r : Int32 × Mm} (h : B_X4_most_21 rc14 rc21 x1 x2 x3 σ = some r) : Z m_X4_most S (Qi r) 21 [(0, .ref (sL S 0 0 37)), (1, .int (x1)), (2, .int (x2)), (3, .int (x3))] [] σ := by
  unfold B_X4_most_21 at h
  refine z_iload_n dX4_most_21 rfl 3 rfl ?_
  refine z_iconst (v := 1) dX4_most_22 (by decide) ?_
  refine z_iload_n dX4_most_23 rfl 2 rfl ?_
  refine z_ishl dX4_most_24 ?_
  refine z_icmp_ge (tgt := 49) dX4_most_25 (by decide) (fun q => ?_) (fun q => ?_)
  · have h := (if_pos q).symm.trans h
    refine z_iinc (j := 2) (v := x2 + 1) dX4_most_49 rfl rfl (by decide) [1, 2, 0, 3] rfl ?_
    refine z_goto (tgt := 14) dX4_most_52 (by decide) ?_
    refine Z.lv [0, 1, 2] rfl ?_
    exact hrc14 h
  · have h := (if_neg q).symm.trans h
    refine z_aload_n dX4_most_28 rfl 0 rfl ?_
    refine z_iconst (v := 1) dX4_most_29 (by decide) ?_
    refine z_iload_n dX4_most_30 rfl 2 rfl ?_
    refine z_ishl dX4_most_31 ?_
    refine z_iload_n dX4_most_32 rfl 3 rfl ?_
    refine z_ior dX4_most_33 ?_
    refine z_aload_n dX4_most_34 rfl 0 rfl ?_
    refine z_iload_n dX4_most_35 rfl 2 rfl ?_
    refine z_iload_n dX4_most_36 rfl 3 rfl ?_
    obtain ⟨v, τ, hc, h⟩ := bnd_e h
    refine z_callV (M' := m_X4_bestWith) (t := 0) (i := 0) (k := 37) (As := [.int (x2), .int (x3)]) (rest := [.int ((1 <<< (x2 &&& 31)) ||| x3), .ref (sL S 0 0 37)]) kl_4_28 oy_X4_bestWith ⟨Nat.le_of_ble_eq_true rfl, Nat.le_of_ble_eq_true rfl⟩ rfl rfl rfl rfl (Nat.le_of_ble_eq_true rfl) rfl dX4_most_37 (c_X4_bestWith hc) (fun v2 τ2 hq => ?_)
    obtain ⟨rfl, rfl⟩ := hq
    change Z _ _ _ _ _ [.int (v), .int ((1 <<< (x2 &&& 31)) ||| x3), .ref (sL S 0 0 37)] _
    exact zb_X4_most_40 hrc14 hrc21 h
def F_X4_most_21 (rc14 : Int32 → Int32 → Mm → Option (Int32 × Mm)) : Nat → Int32 → Int32 → Int32 → Mm → Option (Int32 × Mm)
  | 0 => fun _ _ _ _ => none
  | n + 1 => B_X4_most_21 rc14 (F_X4_most_21 rc14 n)
theorem zl_X4_most_21 {S : Shp} {rc14 : Int32 → Int32 → Mm → Option (Int32 × Mm)} (hrc14 : ∀ {x1 : Int32} {x2 : Int32} {σ : Mm} {r : Int32 × Mm}, rc14 x1 x2 σ = some r → Z m_X4_most S (Qi r) 14 [(0, .ref (sL S 0 0 37)), (1, .int (x1)), (2, .int (x2))] [] σ) (n : Nat) {x1 : Int32} {x2 : Int32} {x3 : Int32} {σ : Mm} {r : Int32 × Mm} (h : F_X4_most_21 rc14 n x1 x2 x3 σ = some r) : Z m_X4_most S (Qi r) 21 [(0, .ref (sL S 0 0 37)), (1, .int (x1)), (2, .int (x2)), (3, .int (x3))] [] σ := by
  induction n generalizing x1 x2 x3 σ r with
  | zero => cases h
  | succ n ih => exact zB_X4_most_21 hrc14 (fun h => ih h) h
def B_X4_most_14 (rc14 : Int32 → Int32 → Mm → Option (Int32 × Mm)) (x1 : Int32) (x2 : Int32) (σ : Mm) : Option (Int32 × Mm) := (if x1 ≤ x2 then (bnd (F_X4_bestOf ((1 <<< (x1 &&& 31)) - 1) σ) (fun v τ => (F_X4_most_64 v τ))) else (F_X4_most_21 rc14 FU x1 x2 0 σ))
set_option maxRecDepth 20000 in
theorem zB_X4_most_14 {S : Shp} {rc14 : Int32 → Int32 → Mm → Option (Int32 × Mm)} (hrc14 : ∀ {x1 : Int32} {x2 : Int32} {σ : Mm} {r : Int32 × Mm}, rc14 x1 x2 σ = some r → Z m_X4_most S (Qi r) 14 [(0, .ref (sL S 0 0 37)), (1, .int (x1)), (2, .int (x2))] [] σ) {x1 : Int32} {x2 : Int32} {σ : Mm} {r : Int32 × Mm} (h : B_X4_most_14 rc14 x1 x2 σ = some r) : Z m_X4_most S (Qi r) 14 [(0, .ref (sL S 0 0 37)), (1, .int (x1)), (2, .int (x2))] [] σ := by
  unfold B_X4_most_14 at h
  refine z_iload_n dX4_most_14 rfl 2 rfl ?_
  refine z_iload_n dX4_most_15 rfl 1 rfl ?_
  refine z_icmp_ge (tgt := 55) dX4_most_16 (by decide) (fun q => ?_) (fun q => ?_)
  · have h := (if_pos q).symm.trans h
    refine z_aload_n dX4_most_55 rfl 0 rfl ?_
    refine z_iconst (v := 1) dX4_most_56 (by decide) ?_
    refine z_iload_n dX4_most_57 rfl 1 rfl ?_
    refine z_ishl dX4_most_58 ?_
    refine z_iconst (v := 1) dX4_most_59 (by decide) ?_
    refine z_isub dX4_most_60 ?_
    obtain ⟨v, τ, hc, h⟩ := bnd_e h
    refine z_callV (M' := m_X4_bestOf) (t := 0) (i := 0) (k := 37) (As := [.int ((1 <<< (x1 &&& 31)) - 1)]) (rest := []) kl_4_36 oy_X4_bestOf ⟨Nat.le_of_ble_eq_true rfl, Nat.le_of_ble_eq_true rfl⟩ rfl rfl rfl rfl (Nat.le_of_ble_eq_true rfl) rfl dX4_most_61 (c_X4_bestOf hc) (fun v2 τ2 hq => ?_)
    obtain ⟨rfl, rfl⟩ := hq
    change Z _ _ _ _ _ [.int (v)] _
    refine Z.lv [] rfl ?_
    exact zb_X4_most_64 h
  · have h := (if_neg q).symm.trans h
    refine z_iconst (v := 0) dX4_most_19 (by decide) ?_
    refine z_istore_n dX4_most_20 rfl (by decide) [1, 2, 3, 0] rfl ?_
    exact zl_X4_most_21 hrc14 FU h
def F_X4_most_14 : Nat → Int32 → Int32 → Mm → Option (Int32 × Mm)
  | 0 => fun _ _ _ => none
  | n + 1 => B_X4_most_14 (F_X4_most_14 n)
theorem zl_X4_most_14 {S : Shp} (n : Nat) {x1 : Int32} {x2 : Int32} {σ : Mm} {r : Int32 × Mm} (h : F_X4_most_14 n x1 x2 σ = some r) : Z m_X4_most S (Qi r) 14 [(0, .ref (sL S 0 0 37)), (1, .int (x1)), (2, .int (x2))] [] σ := by
  induction n generalizing x1 x2 σ r with
  | zero => cases h
  | succ n ih => exact zB_X4_most_14 (fun h => ih h) h
def F_X4_most_4 (s0 : Int32) (σ : Mm) : Option (Int32 × Mm) := (if inb 0 2048 = true then (F_X4_most_14 FU s0 0 (setA σ 0 0 39 (upd (mA σ 0 0 39) (0 : Int32).toNatClampNeg 0))) else none)
set_option maxRecDepth 20000 in
theorem zb_X4_most_4 {S : Shp} {s0 : Int32} {σ : Mm} {r : Int32 × Mm} (h : F_X4_most_4 s0 σ = some r) : Z m_X4_most S (Qi r) 4 [(0, .ref (sL S 0 0 37))] [.int (s0)] σ := by
  unfold F_X4_most_4 at h
  obtain ⟨g1, h⟩ := gd h
  refine z_istore_n dX4_most_4 rfl (by decide) [1, 0] rfl ?_
  refine z_aload_n dX4_most_5 rfl 0 rfl ?_
  refine gf_4_15 rfl dX4_most_6 ?_
  refine z_iconst (v := 0) dX4_most_9 (by decide) ?_
  refine z_iconst (v := 0) dX4_most_10 (by decide) ?_
  refine is_0_39 (inb_in g1) dX4_most_11 ?_
  refine z_iconst (v := 0) dX4_most_12 (by decide) ?_
  refine z_istore_n dX4_most_13 rfl (by decide) [1, 2, 0] rfl ?_
  exact zl_X4_most_14 FU h
def F_X4_most (σ : Mm) : Option (Int32 × Mm) := (bnd (F_X4_squeeze  σ) (fun v τ => (F_X4_most_4 v τ)))
set_option maxRecDepth 20000 in
theorem zb_X4_most {S : Shp} {σ : Mm} {r : Int32 × Mm} (h : F_X4_most σ = some r) : Z m_X4_most S (Qi r) 0 [(0, .ref (sL S 0 0 37))] [] σ := by
  unfold F_X4_most at h
  refine z_aload_n dX4_most_0 rfl 0 rfl ?_
  obtain ⟨v, τ, hc, h⟩ := bnd_e h
  refine z_callV (M' := m_X4_squeeze) (t := 0) (i := 0) (k := 37) (As := []) (rest := []) kl_4_24 oy_X4_squeeze ⟨Nat.le_of_ble_eq_true rfl, Nat.le_of_ble_eq_true rfl⟩ rfl rfl rfl rfl (Nat.le_of_ble_eq_true rfl) rfl dX4_most_1 (c_X4_squeeze hc) (fun v2 τ2 hq => ?_)
  obtain ⟨rfl, rfl⟩ := hq
  change Z _ _ _ _ _ [.int (v)] _
  exact zb_X4_most_4 h
/-- SkyStones$Pairing.most()I -/
theorem c_X4_most {S : Shp} {σ : Mm} {r : Int32 × Mm} (h : F_X4_most σ = some r) : Ct m_X4_most S [.ref (sL S 0 0 37)] σ (Qi r) := Ct.of (by decide) (Nat.le_of_ble_eq_true rfl) (zb_X4_most h)
def F_X7_note_74 (i0 : Nat) (σ : Mm) : Option (Int32 × Mm) := some ((mA σ 2 i0 0 0) - 1, σ)
set_option maxRecDepth 20000 in
theorem zb_X7_note_74 {S : Shp} {i0 : Nat} (hi0 : slv (sH S) i0 = true) {σ : Mm} {r : Int32 × Mm} (h : F_X7_note_74 i0 σ = some r) : Z m_X7_note S (Qi r) 74 [] [.ref (sL S 2 i0 0)] σ := by
  unfold F_X7_note_74 at h
  refine gf_7_9 (lv2 (hi0) rfl) rfl dX7_note_74 ?_
  refine z_iconst (v := 1) dX7_note_77 (by decide) ?_
  refine z_isub dX7_note_78 ?_
  cases h
  exact z_ireturn dX7_note_79 rfl rfl ⟨rfl, rfl⟩
def F_X7_note_65 (i0 : Nat) (σ : Mm) : Option (Int32 × Mm) := (F_X7_note_74 i0 (setA σ 2 i0 0 (upd (mA σ 2 i0 0) 0 ((mA σ 2 i0 0 0) + 1))))
set_option maxRecDepth 20000 in
theorem zb_X7_note_65 {S : Shp} {i0 : Nat} (hi0 : slv (sH S) i0 = true) {σ : Mm} {r : Int32 × Mm} (h : F_X7_note_65 i0 σ = some r) : Z m_X7_note S (Qi r) 65 [(0, .ref (sL S 2 i0 0))] [.ref (sL S 2 i0 0), .ref (sL S 2 i0 0)] σ := by
  unfold F_X7_note_65 at h
  refine gf_7_9 (lv2 (hi0) rfl) rfl dX7_note_65 ?_
  refine z_iconst (v := 1) dX7_note_68 (by decide) ?_
  refine z_iadd dX7_note_69 ?_
  refine pf_7_9 (lv2 (hi0) rfl) rfl dX7_note_70 ?_
  refine z_aload_n dX7_note_73 rfl 0 rfl ?_
  refine Z.lv [] rfl ?_
  exact zb_X7_note_74 (hi0) h
def F_X7_note_57 (i0 : Nat) (x5 : Int32) (σ : Mm) : Option (Int32 × Mm) := (if inb (mA σ 2 i0 0 0) 60 = true then (F_X7_note_65 i0 (setA σ 2 i0 5 (upd (mA σ 2 i0 5) (mA σ 2 i0 0 0).toNatClampNeg x5))) else none)
set_option maxRecDepth 20000 in
theorem zb_X7_note_57 {S : Shp} {i0 : Nat} (hi0 : slv (sH S) i0 = true) {x5 : Int32} {σ : Mm} {r : Int32 × Mm} (h : F_X7_note_57 i0 x5 σ = some r) : Z m_X7_note S (Qi r) 57 [(0, .ref (sL S 2 i0 0)), (5, .int (x5))] [.ref (sL S 2 i0 0), .ref (sL S 2 i0 5)] σ := by
  unfold F_X7_note_57 at h
  obtain ⟨g5, h⟩ := gd h
  refine gf_7_9 (lv2 (hi0) rfl) rfl dX7_note_57 ?_
  refine z_iload dX7_note_60 1 rfl ?_
  refine is_2_5 (lv2 (hi0) rfl) (inb_in g5) dX7_note_62 ?_
  refine z_aload_n dX7_note_63 rfl 0 rfl ?_
  refine z_dup dX7_note_64 rfl ?_
  refine Z.lv [0] rfl ?_
  exact zb_X7_note_65 (hi0) h
def F_X7_note_46 (i0 : Nat) (x4 : Int32) (x5 : Int32) (σ : Mm) : Option (Int32 × Mm) := (if inb (mA σ 2 i0 0 0) 60 = true then (F_X7_note_57 i0 x5 (setA σ 2 i0 4 (upd (mA σ 2 i0 4) (mA σ 2 i0 0 0).toNatClampNeg x4))) else none)
set_option maxRecDepth 20000 in
theorem zb_X7_note_46 {S : Shp} {i0 : Nat} (hi0 : slv (sH S) i0 = true) {x4 : Int32} {x5 : Int32} {σ : Mm} {r : Int32 × Mm} (h : F_X7_note_46 i0 x4 x5 σ = some r) : Z m_X7_note S (Qi r) 46 [(0, .ref (sL S 2 i0 0)), (4, .int (x4)), (5, .int (x5))] [.ref (sL S 2 i0 0), .ref (sL S 2 i0 4)] σ := by
  unfold F_X7_note_46 at h
  obtain ⟨g4, h⟩ := gd h
  refine gf_7_9 (lv2 (hi0) rfl) rfl dX7_note_46 ?_
  refine z_iload dX7_note_49 1 rfl ?_
  refine is_2_4 (lv2 (hi0) rfl) (inb_in g4) dX7_note_51 ?_
  refine z_aload_n dX7_note_52 rfl 0 rfl ?_
  refine gf_7_31 (lv2 (hi0) rfl) rfl dX7_note_53 ?_
  refine z_aload_n dX7_note_56 rfl 0 rfl ?_
  refine Z.lv [0, 2] rfl ?_
  exact zb_X7_note_57 (hi0) h
def F_X7_note_36 (i0 : Nat) (x3 : Int32) (x4 : Int32) (x5 : Int32) (σ : Mm) : Option (Int32 × Mm) := (if inb (mA σ 2 i0 0 0) 60 = true then (F_X7_note_46 i0 x4 x5 (setA σ 2 i0 3 (upd (mA σ 2 i0 3) (mA σ 2 i0 0 0).toNatClampNeg x3))) else none)
set_option maxRecDepth 20000 in
theorem zb_X7_note_36 {S : Shp} {i0 : Nat} (hi0 : slv (sH S) i0 = true) {x3 : Int32} {x4 : Int32} {x5 : Int32} {σ : Mm} {r : Int32 × Mm} (h : F_X7_note_36 i0 x3 x4 x5 σ = some r) : Z m_X7_note S (Qi r) 36 [(0, .ref (sL S 2 i0 0)), (3, .int (x3)), (4, .int (x4)), (5, .int (x5))] [.ref (sL S 2 i0 0), .ref (sL S 2 i0 3)] σ := by
  unfold F_X7_note_36 at h
  obtain ⟨g3, h⟩ := gd h
  refine gf_7_9 (lv2 (hi0) rfl) rfl dX7_note_36 ?_
  refine z_iload_n dX7_note_39 rfl 1 rfl ?_
  refine is_2_3 (lv2 (hi0) rfl) (inb_in g3) dX7_note_40 ?_
  refine z_aload_n dX7_note_41 rfl 0 rfl ?_
  refine gf_7_28 (lv2 (hi0) rfl) rfl dX7_note_42 ?_
  refine z_aload_n dX7_note_45 rfl 0 rfl ?_
  refine Z.lv [0, 2, 3] rfl ?_
  exact zb_X7_note_46 (hi0) h
def F_X7_note_26 (i0 : Nat) (x2 : Int32) (x3 : Int32) (x4 : Int32) (x5 : Int32) (σ : Mm) : Option (Int32 × Mm) := (if inb (mA σ 2 i0 0 0) 60 = true then (F_X7_note_36 i0 x3 x4 x5 (setA σ 2 i0 2 (upd (mA σ 2 i0 2) (mA σ 2 i0 0 0).toNatClampNeg x2))) else none)
set_option maxRecDepth 20000 in
theorem zb_X7_note_26 {S : Shp} {i0 : Nat} (hi0 : slv (sH S) i0 = true) {x2 : Int32} {x3 : Int32} {x4 : Int32} {x5 : Int32} {σ : Mm} {r : Int32 × Mm} (h : F_X7_note_26 i0 x2 x3 x4 x5 σ = some r) : Z m_X7_note S (Qi r) 26 [(0, .ref (sL S 2 i0 0)), (2, .int (x2)), (3, .int (x3)), (4, .int (x4)), (5, .int (x5))] [.ref (sL S 2 i0 0), .ref (sL S 2 i0 2)] σ := by
  unfold F_X7_note_26 at h
  obtain ⟨g2, h⟩ := gd h
  refine gf_7_9 (lv2 (hi0) rfl) rfl dX7_note_26 ?_
  refine z_iload_n dX7_note_29 rfl 1 rfl ?_
  refine is_2_2 (lv2 (hi0) rfl) (inb_in g2) dX7_note_30 ?_
  refine z_aload_n dX7_note_31 rfl 0 rfl ?_
  refine gf_7_25 (lv2 (hi0) rfl) rfl dX7_note_32 ?_
  refine z_aload_n dX7_note_35 rfl 0 rfl ?_
  refine Z.lv [0, 2, 3, 4] rfl ?_
  exact zb_X7_note_36 (hi0) h
def F_X7_note (i0 : Nat) (x1 : Int32) (x2 : Int32) (x3 : Int32) (x4 : Int32) (x5 : Int32) (σ : Mm) : Option (Int32 × Mm) := (if (mA σ 2 i0 0 0) < 60 then (if inb (mA σ 2 i0 0 0) 60 = true then (F_X7_note_26 i0 x2 x3 x4 x5 (setA σ 2 i0 1 (upd (mA σ 2 i0 1) (mA σ 2 i0 0 0).toNatClampNeg x1))) else none) else some ((-1), σ))
set_option maxRecDepth 20000 in
theorem zb_X7_note {S : Shp} {i0 : Nat} (hi0 : slv (sH S) i0 = true) {x1 : Int32} {x2 : Int32} {x3 : Int32} {x4 : Int32} {x5 : Int32} {σ : Mm} {r : Int32 × Mm} (h : F_X7_note i0 x1 x2 x3 x4 x5 σ = some r) : Z m_X7_note S (Qi r) 0 [(0, .ref (sL S 2 i0 0)), (1, .int (x1)), (2, .int (x2)), (3, .int (x3)), (4, .int (x4)), (5, .int (x5))] [] σ := by
  unfold F_X7_note at h
  refine z_aload_n dX7_note_0 rfl 0 rfl ?_
  refine gf_7_9 (lv2 (hi0) rfl) rfl dX7_note_1 ?_
  refine z_bipush (v := 60) dX7_note_4 (by decide) ?_
  refine z_icmp_lt (tgt := 11) dX7_note_6 (by decide) (fun q => ?_) (fun q => ?_)
  · have h := (if_pos q).symm.trans h
    obtain ⟨g1, h⟩ := gd h
    refine z_aload_n dX7_note_11 rfl 0 rfl ?_
    refine gf_7_18 (lv2 (hi0) rfl) rfl dX7_note_12 ?_
    refine z_aload_n dX7_note_15 rfl 0 rfl ?_
    refine gf_7_9 (lv2 (hi0) rfl) rfl dX7_note_16 ?_
    refine z_iload_n dX7_note_19 rfl 1 rfl ?_
    refine is_2_1 (lv2 (hi0) rfl) (inb_in g1) dX7_note_20 ?_
    refine z_aload_n dX7_note_21 rfl 0 rfl ?_
    refine gf_7_22 (lv2 (hi0) rfl) rfl dX7_note_22 ?_
    refine z_aload_n dX7_note_25 rfl 0 rfl ?_
    refine Z.lv [0, 2, 3, 4, 5] rfl ?_
    exact zb_X7_note_26 (hi0) h
  · have h := (if_neg q).symm.trans h
    refine z_iconst (v := (-1)) dX7_note_9 (by decide) ?_
    cases h
    exact z_ireturn dX7_note_10 rfl rfl ⟨rfl, rfl⟩
/-- SkyStones$Survey.note(IIIII)I -/
theorem c_X7_note {S : Shp} {i0 : Nat} (hi0 : slv (sH S) i0 = true) {x1 : Int32} {x2 : Int32} {x3 : Int32} {x4 : Int32} {x5 : Int32} {σ : Mm} {r : Int32 × Mm} (h : F_X7_note i0 x1 x2 x3 x4 x5 σ = some r) : Ct m_X7_note S [.ref (sL S 2 i0 0), .int (x1), .int (x2), .int (x3), .int (x4), .int (x5)] σ (Qi r) := Ct.of (by decide) (Nat.le_of_ble_eq_true rfl) (zb_X7_note hi0 h)
def F_X11_annul_42 (s0 : Int32) (σ : Mm) : Option (Int32 × Mm) := some (s0, σ)
set_option maxRecDepth 20000 in
theorem zb_X11_annul_42 {S : Shp} {s0 : Int32} {σ : Mm} {r : Int32 × Mm} (h : F_X11_annul_42 s0 σ = some r) : Z m_X11_annul S (Qi r) 42 [] [.int (s0)] σ := by
  unfold F_X11_annul_42 at h
  cases h
  exact z_ireturn dX11_annul_42 rfl rfl ⟨rfl, rfl⟩
def F_X11_annul (x1 : Int32) (σ : Mm) : Option (Int32 × Mm) := (if x1 < 0 then some ((-1), σ) else (if (mA σ 2 0 0 0) ≤ x1 then some ((-1), σ) else (if inb x1 60 = true then (if (mA σ 2 0 1 x1.toNatClampNeg) = 4 then some ((-1), σ) else (bnd (F_X7_note 0 4 x1 0 0 0 σ) (fun v τ => (F_X11_annul_42 v τ)))) else none)))
set_option maxRecDepth 20000 in
theorem zb_X11_annul {S : Shp} {x1 : Int32} {σ : Mm} {r : Int32 × Mm} (h : F_X11_annul x1 σ = some r) : Z m_X11_annul S (Qi r) 0 [(0, .ref (sL S 0 0 0)), (1, .int (x1))] [] σ := by
  unfold F_X11_annul at h
  refine z_iload_n dX11_annul_0 rfl 1 rfl ?_
  refine z_if_lt (tgt := 28) dX11_annul_1 (by decide) (fun q => ?_) (fun q => ?_)
  · have h := (if_pos q).symm.trans h
    refine z_iconst (v := (-1)) dX11_annul_28 (by decide) ?_
    cases h
    exact z_ireturn dX11_annul_29 rfl rfl ⟨rfl, rfl⟩
  · have h := (if_neg q).symm.trans h
    refine z_iload_n dX11_annul_4 rfl 1 rfl ?_
    refine z_aload_n dX11_annul_5 rfl 0 rfl ?_
    refine gf_11_38 rfl dX11_annul_6 ?_
    refine gf_11_128 (rfl) rfl dX11_annul_9 ?_
    refine z_icmp_ge (tgt := 28) dX11_annul_12 (by decide) (fun q => ?_) (fun q => ?_)
    · have h := (if_pos q).symm.trans h
      refine z_iconst (v := (-1)) dX11_annul_28 (by decide) ?_
      cases h
      exact z_ireturn dX11_annul_29 rfl rfl ⟨rfl, rfl⟩
    · have h := (if_neg q).symm.trans h
      obtain ⟨g1, h⟩ := gd h
      refine z_aload_n dX11_annul_15 rfl 0 rfl ?_
      refine gf_11_38 rfl dX11_annul_16 ?_
      refine gf_11_149 (rfl) rfl dX11_annul_19 ?_
      refine z_iload_n dX11_annul_22 rfl 1 rfl ?_
      refine ia_2_1 (rfl) (inb_in g1) dX11_annul_23 ?_
      refine z_iconst (v := 4) dX11_annul_24 (by decide) ?_
      refine z_icmp_ne (tgt := 30) dX11_annul_25 (by decide) (fun q => ?_) (fun q => ?_)
      · have h := (if_neg q).symm.trans h
        refine z_aload_n dX11_annul_30 rfl 0 rfl ?_
        refine gf_11_38 rfl dX11_annul_31 ?_
        refine z_iconst (v := 4) dX11_annul_34 (by decide) ?_
        refine z_iload_n dX11_annul_35 rfl 1 rfl ?_
        refine z_iconst (v := 0) dX11_annul_36 (by decide) ?_
        refine z_iconst (v := 0) dX11_annul_37 (by decide) ?_
        refine z_iconst (v := 0) dX11_annul_38 (by decide) ?_
        obtain ⟨v, τ, hc, h⟩ := bnd_e h
        refine z_callV (M' := m_X7_note) (t := 2) (i := 0) (k := 0) (As := [.int (4), .int (x1), .int (0), .int (0), .int (0)]) (rest := []) kl_11_139 oy_X7_note ⟨Nat.le_of_ble_eq_true rfl, Nat.le_of_ble_eq_true rfl⟩ rfl rfl rfl rfl (Nat.le_of_ble_eq_true rfl) rfl dX11_annul_39 (c_X7_note rfl hc) (fun v2 τ2 hq => ?_)
        obtain ⟨rfl, rfl⟩ := hq
        change Z _ _ _ _ _ [.int (v)] _
        refine Z.lv [] rfl ?_
        exact zb_X11_annul_42 h
      · have h := (if_pos q).symm.trans h
        refine z_iconst (v := (-1)) dX11_annul_28 (by decide) ?_
        cases h
        exact z_ireturn dX11_annul_29 rfl rfl ⟨rfl, rfl⟩
/-- SkyStones.annul(I)I -/
theorem c_X11_annul {S : Shp} {x1 : Int32} {σ : Mm} {r : Int32 × Mm} (h : F_X11_annul x1 σ = some r) : Ct m_X11_annul S [.ref (sL S 0 0 0), .int (x1)] σ (Qi r) := Ct.of (by decide) (Nat.le_of_ble_eq_true rfl) (zb_X11_annul h)
def F_X11_markRounds_65 (rc35 : Int32 → Int32 → Int32 → Int32 → Int32 → Mm → Option (Mm)) (x1 : Int32) (x2 : Int32) (x3 : Int32) (x6 : Int32) (x7 : Int32) (σ : Mm) : Option (Mm) := (rc35 x1 x2 x3 x6 (x7 + 1) σ)
set_option maxRecDepth 20000 in
theorem zb_X11_markRounds_65 {S : Shp} {rc35 : Int32 → Int32 → Int32 → Int32 → Int32 → Mm → Option (Mm)} (hrc35 : ∀ {x1 : Int32} {x2 : Int32} {x3 : Int32} {x6 : Int32} {x7 : Int32} {σ : Mm} {r : Mm}, rc35 x1 x2 x3 x6 x7 σ = some r → Z m_X11_markRounds S (Qv r) 35 [(0, .ref (sL S 0 0 0)), (1, .int (x1)), (2, .int (x2)), (3, .int (x3)), (6, .int (x6)), (7, .int (x7))] [] σ) {x1 : Int32} {x2 : Int32} {x3 : Int32} {x6 : Int32} {x7 : Int32} {σ : Mm} {r : Mm} (h : F_X11_markRounds_65 rc35 x1 x2 x3 x6 x7 σ = some r) : Z m_X11_markRounds S (Qv r) 65 [(0, .ref (sL S 0 0 0)), (1, .int (x1)), (2, .int (x2)), (3, .int (x3)), (6, .int (x6)), (7, .int (x7))] [] σ := by
  unfold F_X11_markRounds_65 at h
  refine z_iinc (j := 5) (v := x7 + 1) dX11_markRounds_65 rfl rfl (by decide) [1, 2, 3, 4, 5, 0] rfl ?_
  refine z_goto (tgt := 35) dX11_markRounds_68 (by decide) ?_
  exact hrc35 h
def B_X11_markRounds_35 (rc35 : Int32 → Int32 → Int32 → Int32 → Int32 → Mm → Option (Mm)) (x1 : Int32) (x2 : Int32) (x3 : Int32) (x6 : Int32) (x7 : Int32) (σ : Mm) : Option (Mm) := (if x6 < x7 then some (σ) else (if (x3 * x2) < (f_J9_abs_0f7a4 (x1 - (x7 * x2))) then (F_X11_markRounds_65 rc35 x1 x2 x3 x6 x7 σ) else (if inb x7 2001 = true then (F_X11_markRounds_65 rc35 x1 x2 x3 x6 x7 (setA σ 0 0 5 (upd (mA σ 0 0 5) x7.toNatClampNeg (vp_nar .boolean 1)))) else none)))
set_option maxRecDepth 20000 in
theorem zB_X11_markRounds_35 {S : Shp} {rc35 : Int32 → Int32 → Int32 → Int32 → Int32 → Mm → Option (Mm)} (hrc35 : ∀ {x1 : Int32} {x2 : Int32} {x3 : Int32} {x6 : Int32} {x7 : Int32} {σ : Mm} {r : Mm}, rc35 x1 x2 x3 x6 x7 σ = some r → Z m_X11_markRounds S (Qv r) 35 [(0, .ref (sL S 0 0 0)), (1, .int (x1)), (2, .int (x2)), (3, .int (x3)), (6, .int (x6)), (7, .int (x7))] [] σ) {x1 : Int32} {x2 : Int32} {x3 : Int32} {x6 : Int32} {x7 : Int32} {σ : Mm} {r : Mm} (h : B_X11_markRounds_35 rc35 x1 x2 x3 x6 x7 σ = some r) : Z m_X11_markRounds S (Qv r) 35 [(0, .ref (sL S 0 0 0)), (1, .int (x1)), (2, .int (x2)), (3, .int (x3)), (6, .int (x6)), (7, .int (x7))] [] σ := by
  unfold B_X11_markRounds_35 at h
  refine z_iload dX11_markRounds_35 5 rfl ?_
  refine z_iload dX11_markRounds_37 4 rfl ?_
  refine z_icmp_gt (tgt := 71) dX11_markRounds_39 (by decide) (fun q => ?_) (fun q => ?_)
  · have h := (if_pos q).symm.trans h
    cases h
    exact z_return dX11_markRounds_71 rfl ⟨rfl, rfl⟩
  · have h := (if_neg q).symm.trans h
    refine z_iload_n dX11_markRounds_42 rfl 1 rfl ?_
    refine z_iload dX11_markRounds_43 5 rfl ?_
    refine z_iload_n dX11_markRounds_45 rfl 2 rfl ?_
    refine z_imul dX11_markRounds_46 ?_
    refine z_isub dX11_markRounds_47 ?_
    refine z_callS (M' := m_J9_abs_0f7a4) (As := [.int (x1 - (x7 * x2))]) (rest := []) kl_11_333 oy_J9_abs_0f7a4 ⟨Nat.le_of_ble_eq_true rfl, Nat.le_of_ble_eq_true rfl⟩ rfl (Nat.le_of_ble_eq_true rfl) rfl dX11_markRounds_48 (c_J9_abs_0f7a4 rfl) (fun v τ hq => ?_)
    obtain ⟨rfl, rfl⟩ := hq
    change Z _ _ _ _ _ [.int (f_J9_abs_0f7a4 (x1 - (x7 * x2)))] _
    refine z_iload_n dX11_markRounds_51 rfl 3 rfl ?_
    refine z_iload_n dX11_markRounds_52 rfl 2 rfl ?_
    refine z_imul dX11_markRounds_53 ?_
    refine z_icmp_gt (tgt := 65) dX11_markRounds_54 (by decide) (fun q => ?_) (fun q => ?_)
    · have h := (if_pos q).symm.trans h
      exact zb_X11_markRounds_65 hrc35 h
    · have h := (if_neg q).symm.trans h
      obtain ⟨g3, h⟩ := gd h
      refine z_aload_n dX11_markRounds_57 rfl 0 rfl ?_
      refine gf_11_96 rfl dX11_markRounds_58 ?_
      refine z_iload dX11_markRounds_61 5 rfl ?_
      refine z_iconst (v := 1) dX11_markRounds_63 (by decide) ?_
      refine is_0_5 (inb_in g3) dX11_markRounds_64 ?_
      exact zb_X11_markRounds_65 hrc35 h
def F_X11_markRounds_35 : Nat → Int32 → Int32 → Int32 → Int32 → Int32 → Mm → Option (Mm)
  | 0 => fun _ _ _ _ _ _ => none
  | n + 1 => B_X11_markRounds_35 (F_X11_markRounds_35 n)
theorem zl_X11_markRounds_35 {S : Shp} (n : Nat) {x1 : Int32} {x2 : Int32} {x3 : Int32} {x6 : Int32} {x7 : Int32} {σ : Mm} {r : Mm} (h : F_X11_markRounds_35 n x1 x2 x3 x6 x7 σ = some r) : Z m_X11_markRounds S (Qv r) 35 [(0, .ref (sL S 0 0 0)), (1, .int (x1)), (2, .int (x2)), (3, .int (x3)), (6, .int (x6)), (7, .int (x7))] [] σ := by
  induction n generalizing x1 x2 x3 x6 x7 σ r with
  | zero => cases h
  | succ n ih => exact zB_X11_markRounds_35 (fun h => ih h) h
def F_X11_markRounds (x1 : Int32) (x2 : Int32) (x3 : Int32) (x4 : Int32) (σ : Mm) : Option (Mm) := (if 1 ≤ x2 then (if ¬ x2 = 0 then (if ¬ x2 = 0 then (F_X11_markRounds_35 FU x1 x2 x3 (f_J9_min_7cf53 x4 (((x1 / x2) + x3) + 1)) (f_J9_max_7cf53 1 ((x1 / x2) - x3)) σ) else none) else none) else some (σ))
set_option maxRecDepth 20000 in
theorem zb_X11_markRounds {S : Shp} {x1 : Int32} {x2 : Int32} {x3 : Int32} {x4 : Int32} {σ : Mm} {r : Mm} (h : F_X11_markRounds x1 x2 x3 x4 σ = some r) : Z m_X11_markRounds S (Qv r) 0 [(0, .ref (sL S 0 0 0)), (1, .int (x1)), (2, .int (x2)), (3, .int (x3)), (4, .int (x4))] [] σ := by
  unfold F_X11_markRounds at h
  refine z_iload_n dX11_markRounds_0 rfl 2 rfl ?_
  refine z_iconst (v := 1) dX11_markRounds_1 (by decide) ?_
  refine z_icmp_ge (tgt := 6) dX11_markRounds_2 (by decide) (fun q => ?_) (fun q => ?_)
  · have h := (if_pos q).symm.trans h
    obtain ⟨g1, h⟩ := gd h
    refine z_iconst (v := 1) dX11_markRounds_6 (by decide) ?_
    refine z_iload_n dX11_markRounds_7 rfl 1 rfl ?_
    refine z_iload_n dX11_markRounds_8 rfl 2 rfl ?_
    obtain ⟨g2, h⟩ := gd h
    refine z_idiv dX11_markRounds_9 g1 ?_
    refine z_iload_n dX11_markRounds_10 rfl 3 rfl ?_
    refine z_isub dX11_markRounds_11 ?_
    refine z_callS (M' := m_J9_max_7cf53) (As := [.int (1), .int ((x1 / x2) - x3)]) (rest := []) kl_11_373 oy_J9_max_7cf53 ⟨Nat.le_of_ble_eq_true rfl, Nat.le_of_ble_eq_true rfl⟩ rfl (Nat.le_of_ble_eq_true rfl) rfl dX11_markRounds_12 (c_J9_max_7cf53 rfl) (fun v τ hq => ?_)
    obtain ⟨rfl, rfl⟩ := hq
    change Z _ _ _ _ _ [.int (f_J9_max_7cf53 1 ((x1 / x2) - x3))] _
    refine z_istore dX11_markRounds_15 (by decide) [1, 2, 3, 4, 5, 0] rfl ?_
    refine z_iload dX11_markRounds_17 4 rfl ?_
    refine z_iload_n dX11_markRounds_19 rfl 1 rfl ?_
    refine z_iload_n dX11_markRounds_20 rfl 2 rfl ?_
    refine z_idiv dX11_markRounds_21 g2 ?_
    refine z_iload_n dX11_markRounds_22 rfl 3 rfl ?_
    refine z_iadd dX11_markRounds_23 ?_
    refine z_iconst (v := 1) dX11_markRounds_24 (by decide) ?_
    refine z_iadd dX11_markRounds_25 ?_
    refine z_callS (M' := m_J9_min_7cf53) (As := [.int (x4), .int (((x1 / x2) + x3) + 1)]) (rest := []) kl_11_376 oy_J9_min_7cf53 ⟨Nat.le_of_ble_eq_true rfl, Nat.le_of_ble_eq_true rfl⟩ rfl (Nat.le_of_ble_eq_true rfl) rfl dX11_markRounds_26 (c_J9_min_7cf53 rfl) (fun v τ hq => ?_)
    obtain ⟨rfl, rfl⟩ := hq
    change Z _ _ _ _ _ [.int (f_J9_min_7cf53 x4 (((x1 / x2) + x3) + 1))] _
    refine z_istore dX11_markRounds_29 (by decide) [1, 2, 3, 4, 5, 6, 0] rfl ?_
    refine z_iload dX11_markRounds_31 5 rfl ?_
    refine z_istore dX11_markRounds_33 (by decide) [1, 2, 3, 4, 5, 6, 7, 0] rfl ?_
    refine Z.lv [0, 1, 2, 3, 6, 7] rfl ?_
    exact zl_X11_markRounds_35 FU h
  · have h := (if_neg q).symm.trans h
    cases h
    exact z_return dX11_markRounds_5 rfl ⟨rfl, rfl⟩
/-- SkyStones.markRounds(IIII)V -/
theorem c_X11_markRounds {S : Shp} {x1 : Int32} {x2 : Int32} {x3 : Int32} {x4 : Int32} {σ : Mm} {r : Mm} (h : F_X11_markRounds x1 x2 x3 x4 σ = some r) : Ct m_X11_markRounds S [.ref (sL S 0 0 0), .int (x1), .int (x2), .int (x3), .int (x4)] σ (Qv r) := Ct.of (by decide) (Nat.le_of_ble_eq_true rfl) (zb_X11_markRounds h)
def F_X11_markedUpTo_28 (rc4 : Int32 → Int32 → Int32 → Mm → Option (Int32 × Mm)) (x1 : Int32) (x2 : Int32) (x3 : Int32) (σ : Mm) : Option (Int32 × Mm) := (rc4 x1 x2 (x3 + 1) σ)
set_option maxRecDepth 20000 in
theorem zb_X11_markedUpTo_28 {S : Shp} {rc4 : Int32 → Int32 → Int32 → Mm → Option (Int32 × Mm)} (hrc4 : ∀ {x1 : Int32} {x2 : Int32} {x3 : Int32} {σ : Mm} {r : Int32 × Mm}, rc4 x1 x2 x3 σ = some r → Z m_X11_markedUpTo S (Qi r) 4 [(0, .ref (sL S 0 0 0)), (1, .int (x1)), (2, .int (x2)), (3, .int (x3))] [] σ) {x1 : Int32} {x2 : Int32} {x3 : Int32} {σ : Mm} {r : Int32 × Mm} (h : F_X11_markedUpTo_28 rc4 x1 x2 x3 σ = some r) : Z m_X11_markedUpTo S (Qi r) 28 [(0, .ref (sL S 0 0 0)), (1, .int (x1)), (2, .int (x2)), (3, .int (x3))] [] σ := by
  unfold F_X11_markedUpTo_28 at h
  refine z_iinc (j := 3) (v := x3 + 1) dX11_markedUpTo_28 rfl rfl (by decide) [1, 2, 3, 0] rfl ?_
  refine z_goto (tgt := 4) dX11_markedUpTo_31 (by decide) ?_
  exact hrc4 h
def B_X11_markedUpTo_4 (rc4 : Int32 → Int32 → Int32 → Mm → Option (Int32 × Mm)) (x1 : Int32) (x2 : Int32) (x3 : Int32) (σ : Mm) : Option (Int32 × Mm) := (if x1 < x3 then some (x2, σ) else (if 2000 < x3 then some (x2, σ) else (if inb x3 2001 = true then (if (mA σ 0 0 5 x3.toNatClampNeg) = 0 then (F_X11_markedUpTo_28 rc4 x1 x2 x3 σ) else (F_X11_markedUpTo_28 rc4 x1 (x2 + 1) x3 σ)) else none)))
set_option maxRecDepth 20000 in
theorem zB_X11_markedUpTo_4 {S : Shp} {rc4 : Int32 → Int32 → Int32 → Mm → Option (Int32 × Mm)} (hrc4 : ∀ {x1 : Int32} {x2 : Int32} {x3 : Int32} {σ : Mm} {r : Int32 × Mm}, rc4 x1 x2 x3 σ = some r → Z m_X11_markedUpTo S (Qi r) 4 [(0, .ref (sL S 0 0 0)), (1, .int (x1)), (2, .int (x2)), (3, .int (x3))] [] σ) {x1 : Int32} {x2 : Int32} {x3 : Int32} {σ : Mm} {r : Int32 × Mm} (h : B_X11_markedUpTo_4 rc4 x1 x2 x3 σ = some r) : Z m_X11_markedUpTo S (Qi r) 4 [(0, .ref (sL S 0 0 0)), (1, .int (x1)), (2, .int (x2)), (3, .int (x3))] [] σ := by
  unfold B_X11_markedUpTo_4 at h
  refine z_iload_n dX11_markedUpTo_4 rfl 3 rfl ?_
  refine z_iload_n dX11_markedUpTo_5 rfl 1 rfl ?_
  refine z_icmp_gt (tgt := 34) dX11_markedUpTo_6 (by decide) (fun q => ?_) (fun q => ?_)
  · have h := (if_pos q).symm.trans h
    refine z_iload_n dX11_markedUpTo_34 rfl 2 rfl ?_
    cases h
    exact z_ireturn dX11_markedUpTo_35 rfl rfl ⟨rfl, rfl⟩
  · have h := (if_neg q).symm.trans h
    refine z_iload_n dX11_markedUpTo_9 rfl 3 rfl ?_
    refine z_sipush (v := 2000) dX11_markedUpTo_10 (by decide) ?_
    refine z_icmp_gt (tgt := 34) dX11_markedUpTo_13 (by decide) (fun q => ?_) (fun q => ?_)
    · have h := (if_pos q).symm.trans h
      refine z_iload_n dX11_markedUpTo_34 rfl 2 rfl ?_
      cases h
      exact z_ireturn dX11_markedUpTo_35 rfl rfl ⟨rfl, rfl⟩
    · have h := (if_neg q).symm.trans h
      obtain ⟨g1, h⟩ := gd h
      refine z_aload_n dX11_markedUpTo_16 rfl 0 rfl ?_
      refine gf_11_96 rfl dX11_markedUpTo_17 ?_
      refine z_iload_n dX11_markedUpTo_20 rfl 3 rfl ?_
      refine ia_0_5 (inb_in g1) dX11_markedUpTo_21 ?_
      refine z_if_eq (tgt := 28) dX11_markedUpTo_22 (by decide) (fun q => ?_) (fun q => ?_)
      · have h := (if_pos q).symm.trans h
        exact zb_X11_markedUpTo_28 hrc4 h
      · have h := (if_neg q).symm.trans h
        refine z_iinc (j := 2) (v := x2 + 1) dX11_markedUpTo_25 rfl rfl (by decide) [1, 2, 0, 3] rfl ?_
        exact zb_X11_markedUpTo_28 hrc4 h
def F_X11_markedUpTo_4 : Nat → Int32 → Int32 → Int32 → Mm → Option (Int32 × Mm)
  | 0 => fun _ _ _ _ => none
  | n + 1 => B_X11_markedUpTo_4 (F_X11_markedUpTo_4 n)
theorem zl_X11_markedUpTo_4 {S : Shp} (n : Nat) {x1 : Int32} {x2 : Int32} {x3 : Int32} {σ : Mm} {r : Int32 × Mm} (h : F_X11_markedUpTo_4 n x1 x2 x3 σ = some r) : Z m_X11_markedUpTo S (Qi r) 4 [(0, .ref (sL S 0 0 0)), (1, .int (x1)), (2, .int (x2)), (3, .int (x3))] [] σ := by
  induction n generalizing x1 x2 x3 σ r with
  | zero => cases h
  | succ n ih => exact zB_X11_markedUpTo_4 (fun h => ih h) h
def F_X11_markedUpTo (x1 : Int32) (σ : Mm) : Option (Int32 × Mm) := (F_X11_markedUpTo_4 FU x1 0 0 σ)
set_option maxRecDepth 20000 in
theorem zb_X11_markedUpTo {S : Shp} {x1 : Int32} {σ : Mm} {r : Int32 × Mm} (h : F_X11_markedUpTo x1 σ = some r) : Z m_X11_markedUpTo S (Qi r) 0 [(0, .ref (sL S 0 0 0)), (1, .int (x1))] [] σ := by
  unfold F_X11_markedUpTo at h
  refine z_iconst (v := 0) dX11_markedUpTo_0 (by decide) ?_
  refine z_istore_n dX11_markedUpTo_1 rfl (by decide) [1, 2, 0] rfl ?_
  refine z_iconst (v := 0) dX11_markedUpTo_2 (by decide) ?_
  refine z_istore_n dX11_markedUpTo_3 rfl (by decide) [1, 2, 3, 0] rfl ?_
  exact zl_X11_markedUpTo_4 FU h
/-- SkyStones.markedUpTo(I)I -/
theorem c_X11_markedUpTo {S : Shp} {x1 : Int32} {σ : Mm} {r : Int32 × Mm} (h : F_X11_markedUpTo x1 σ = some r) : Ct m_X11_markedUpTo S [.ref (sL S 0 0 0), .int (x1)] σ (Qi r) := Ct.of (by decide) (Nat.le_of_ble_eq_true rfl) (zb_X11_markedUpTo h)
def F_X11_anything_137 (s0 : Int32) (σ : Mm) : Option (Int32 × Mm) := some (s0, σ)
set_option maxRecDepth 20000 in
theorem zb_X11_anything_137 {S : Shp} {s0 : Int32} {σ : Mm} {r : Int32 × Mm} (h : F_X11_anything_137 s0 σ = some r) : Z m_X11_anything S (Qi r) 137 [] [.int (s0)] σ := by
  unfold F_X11_anything_137 at h
  cases h
  exact z_ireturn dX11_anything_137 rfl rfl ⟨rfl, rfl⟩
def F_X11_anything_119 (rc90 : Int32 → Int32 → Int32 → Int32 → Int32 → Int32 → Mm → Option (Int32 × Mm)) (rc99 : Int32 → Int32 → Int32 → Int32 → Int32 → Int32 → Int32 → Mm → Option (Int32 × Mm)) (x1 : Int32) (x2 : Int32) (x3 : Int32) (x4 : Int32) (x5 : Int32) (x6 : Int32) (x7 : Int32) (σ : Mm) : Option (Int32 × Mm) := (rc99 x1 x2 x3 x4 x5 x6 (x7 + 1) σ)
set_option maxRecDepth 20000 in
theorem zb_X11_anything_119 {S : Shp} {rc90 : Int32 → Int32 → Int32 → Int32 → Int32 → Int32 → Mm → Option (Int32 × Mm)} (hrc90 : ∀ {x1 : Int32} {x2 : Int32} {x3 : Int32} {x4 : Int32} {x5 : Int32} {x6 : Int32} {σ : Mm} {r : Int32 × Mm}, rc90 x1 x2 x3 x4 x5 x6 σ = some r → Z m_X11_anything S (Qi r) 90 [(0, .ref (sL S 0 0 0)), (1, .int (x1)), (2, .int (x2)), (3, .int (x3)), (4, .int (x4)), (5, .int (x5)), (6, .int (x6))] [] σ) {rc99 : Int32 → Int32 → Int32 → Int32 → Int32 → Int32 → Int32 → Mm → Option (Int32 × Mm)} (hrc99 : ∀ {x1 : Int32} {x2 : Int32} {x3 : Int32} {x4 : Int32} {x5 : Int32} {x6 : Int32} {x7 : Int32} {σ : Mm} {r : Int32 × Mm}, rc99 x1 x2 x3 x4 x5 x6 x7 σ = some r → Z m_X11_anything S (Qi r) 99 [(0, .ref (sL S 0 0 0)), (1, .int (x1)), (2, .int (x2)), (3, .int (x3)), (4, .int (x4)), (5, .int (x5)), (6, .int (x6)), (7, .int (x7))] [] σ) {x1 : Int32} {x2 : Int32} {x3 : Int32} {x4 : Int32} {x5 : Int32} {x6 : Int32} {x7 : Int32} {σ : Mm} {r : Int32 × Mm} (h : F_X11_anything_119 rc90 rc99 x1 x2 x3 x4 x5 x6 x7 σ = some r) : Z m_X11_anything S (Qi r) 119 [(0, .ref (sL S 0 0 0)), (1, .int (x1)), (2, .int (x2)), (3, .int (x3)), (4, .int (x4)), (5, .int (x5)), (6, .int (x6)), (7, .int (x7))] [] σ := by
  unfold F_X11_anything_119 at h
  refine z_iinc (j := 7) (v := x7 + 1) dX11_anything_119 rfl rfl (by decide) [1, 2, 3, 4, 5, 6, 7, 0] rfl ?_
  refine z_goto (tgt := 99) dX11_anything_122 (by decide) ?_
  exact hrc99 h
def B_X11_anything_99 (rc90 : Int32 → Int32 → Int32 → Int32 → Int32 → Int32 → Mm → Option (Int32 × Mm)) (rc99 : Int32 → Int32 → Int32 → Int32 → Int32 → Int32 → Int32 → Mm → Option (Int32 × Mm)) (x1 : Int32) (x2 : Int32) (x3 : Int32) (x4 : Int32) (x5 : Int32) (x6 : Int32) (x7 : Int32) (σ : Mm) : Option (Int32 × Mm) := (if x3 < x7 then (rc90 x1 x2 x3 x4 x5 (x6 + 1) σ) else (bnv (F_X11_markRounds (x1 * x7) x6 x4 x5 σ) (fun τ => (F_X11_anything_119 rc90 rc99 x1 x2 x3 x4 x5 x6 x7 τ))))
set_option maxRecDepth 20000 in
theorem zB_X11_anything_99 {S : Shp} {rc90 : Int32 → Int32 → Int32 → Int32 → Int32 → Int32 → Mm → Option (Int32 × Mm)} (hrc90 : ∀ {x1 : Int32} {x2 : Int32} {x3 : Int32} {x4 : Int32} {x5 : Int32} {x6 : Int32} {σ : Mm} {r : Int32 × Mm}, rc90 x1 x2 x3 x4 x5 x6 σ = some r → Z m_X11_anything S (Qi r) 90 [(0, .ref (sL S 0 0 0)), (1, .int (x1)), (2, .int (x2)), (3, .int (x3)), (4, .int (x4)), (5, .int (x5)), (6, .int (x6))] [] σ) {rc99 : Int32 → Int32 → Int32 → Int32 → Int32 → Int32 → Int32 → Mm → Option (Int32 × Mm)} (hrc99 : ∀ {x1 : Int32} {x2 : Int32} {x3 : Int32} {x4 : Int32} {x5 : Int32} {x6 : Int32} {x7 : Int32} {σ : Mm} {r : Int32 × Mm}, rc99 x1 x2 x3 x4 x5 x6 x7 σ = some r → Z m_X11_anything S (Qi r) 99 [(0, .ref (sL S 0 0 0)), (1, .int (x1)), (2, .int (x2)), (3, .int (x3)), (4, .int (x4)), (5, .int (x5)), (6, .int (x6)), (7, .int (x7))] [] σ) {x1 : Int32} {x2 : Int32} {x3 : Int32} {x4 : Int32} {x5 : Int32} {x6 : Int32} {x7 : Int32} {σ : Mm} {r : Int32 × Mm} (h : B_X11_anything_99 rc90 rc99 x1 x2 x3 x4 x5 x6 x7 σ = some r) : Z m_X11_anything S (Qi r) 99 [(0, .ref (sL S 0 0 0)), (1, .int (x1)), (2, .int (x2)), (3, .int (x3)), (4, .int (x4)), (5, .int (x5)), (6, .int (x6)), (7, .int (x7))] [] σ := by
  unfold B_X11_anything_99 at h
  refine z_iload dX11_anything_99 7 rfl ?_
  refine z_iload_n dX11_anything_101 rfl 3 rfl ?_
  refine z_icmp_gt (tgt := 125) dX11_anything_102 (by decide) (fun q => ?_) (fun q => ?_)
  · have h := (if_pos q).symm.trans h
    refine z_iinc (j := 6) (v := x6 + 1) dX11_anything_125 rfl rfl (by decide) [1, 2, 3, 4, 5, 6, 0, 7] rfl ?_
    refine z_goto (tgt := 90) dX11_anything_128 (by decide) ?_
    refine Z.lv [0, 1, 2, 3, 4, 5, 6] rfl ?_
    exact hrc90 h
  · have h := (if_neg q).symm.trans h
    refine z_aload_n dX11_anything_105 rfl 0 rfl ?_
    refine z_iload_n dX11_anything_106 rfl 1 rfl ?_
    refine z_iload dX11_anything_107 7 rfl ?_
    refine z_imul dX11_anything_109 ?_
    refine z_iload dX11_anything_110 6 rfl ?_
    refine z_iload dX11_anything_112 4 rfl ?_
    refine z_iload dX11_anything_114 5 rfl ?_
    obtain ⟨τ, hc, h⟩ := bnv_e h
    refine z_callV (M' := m_X11_markRounds) (t := 0) (i := 0) (k := 0) (As := [.int (x1 * x7), .int (x6), .int (x4), .int (x5)]) (rest := []) kl_11_338 oy_X11_markRounds ⟨Nat.le_of_ble_eq_true rfl, Nat.le_of_ble_eq_true rfl⟩ rfl rfl rfl rfl (Nat.le_of_ble_eq_true rfl) rfl dX11_anything_116 (c_X11_markRounds hc) (fun v2 τ2 hq => ?_)
    obtain ⟨rfl, rfl⟩ := hq
    change Z _ _ _ _ _ [] _
    exact zb_X11_anything_119 hrc90 hrc99 h
def F_X11_anything_99 (rc90 : Int32 → Int32 → Int32 → Int32 → Int32 → Int32 → Mm → Option (Int32 × Mm)) : Nat → Int32 → Int32 → Int32 → Int32 → Int32 → Int32 → Int32 → Mm → Option (Int32 × Mm)
  | 0 => fun _ _ _ _ _ _ _ _ => none
  | n + 1 => B_X11_anything_99 rc90 (F_X11_anything_99 rc90 n)
theorem zl_X11_anything_99 {S : Shp} {rc90 : Int32 → Int32 → Int32 → Int32 → Int32 → Int32 → Mm → Option (Int32 × Mm)} (hrc90 : ∀ {x1 : Int32} {x2 : Int32} {x3 : Int32} {x4 : Int32} {x5 : Int32} {x6 : Int32} {σ : Mm} {r : Int32 × Mm}, rc90 x1 x2 x3 x4 x5 x6 σ = some r → Z m_X11_anything S (Qi r) 90 [(0, .ref (sL S 0 0 0)), (1, .int (x1)), (2, .int (x2)), (3, .int (x3)), (4, .int (x4)), (5, .int (x5)), (6, .int (x6))] [] σ) (n : Nat) {x1 : Int32} {x2 : Int32} {x3 : Int32} {x4 : Int32} {x5 : Int32} {x6 : Int32} {x7 : Int32} {σ : Mm} {r : Int32 × Mm} (h : F_X11_anything_99 rc90 n x1 x2 x3 x4 x5 x6 x7 σ = some r) : Z m_X11_anything S (Qi r) 99 [(0, .ref (sL S 0 0 0)), (1, .int (x1)), (2, .int (x2)), (3, .int (x3)), (4, .int (x4)), (5, .int (x5)), (6, .int (x6)), (7, .int (x7))] [] σ := by
  induction n generalizing x1 x2 x3 x4 x5 x6 x7 σ r with
  | zero => cases h
  | succ n ih => exact zB_X11_anything_99 hrc90 (fun h => ih h) h
def B_X11_anything_90 (rc90 : Int32 → Int32 → Int32 → Int32 → Int32 → Int32 → Mm → Option (Int32 × Mm)) (x1 : Int32) (x2 : Int32) (x3 : Int32) (x4 : Int32) (x5 : Int32) (x6 : Int32) (σ : Mm) : Option (Int32 × Mm) := (if x2 < x6 then (bnd (F_X11_markedUpTo x5 σ) (fun v τ => (F_X11_anything_137 v τ))) else (F_X11_anything_99 rc90 FU x1 x2 x3 x4 x5 x6 1 σ))
set_option maxRecDepth 20000 in
theorem zB_X11_anything_90 {S : Shp} {rc90 : Int32 → Int32 → Int32 → Int32 → Int32 → Int32 → Mm → Option (Int32 × Mm)} (hrc90 : ∀ {x1 : Int32} {x2 : Int32} {x3 : Int32} {x4 : Int32} {x5 : Int32} {x6 : Int32} {σ : Mm} {r : Int32 × Mm}, rc90 x1 x2 x3 x4 x5 x6 σ = some r → Z m_X11_anything S (Qi r) 90 [(0, .ref (sL S 0 0 0)), (1, .int (x1)), (2, .int (x2)), (3, .int (x3)), (4, .int (x4)), (5, .int (x5)), (6, .int (x6))] [] σ) {x1 : Int32} {x2 : Int32} {x3 : Int32} {x4 : Int32} {x5 : Int32} {x6 : Int32} {σ : Mm} {r : Int32 × Mm} (h : B_X11_anything_90 rc90 x1 x2 x3 x4 x5 x6 σ = some r) : Z m_X11_anything S (Qi r) 90 [(0, .ref (sL S 0 0 0)), (1, .int (x1)), (2, .int (x2)), (3, .int (x3)), (4, .int (x4)), (5, .int (x5)), (6, .int (x6))] [] σ := by
  unfold B_X11_anything_90 at h
  refine z_iload dX11_anything_90 6 rfl ?_
  refine z_iload_n dX11_anything_92 rfl 2 rfl ?_
  refine z_icmp_gt (tgt := 131) dX11_anything_93 (by decide) (fun q => ?_) (fun q => ?_)
  · have h := (if_pos q).symm.trans h
    refine z_aload_n dX11_anything_131 rfl 0 rfl ?_
    refine z_iload dX11_anything_132 5 rfl ?_
    obtain ⟨v, τ, hc, h⟩ := bnd_e h
    refine z_callV (M' := m_X11_markedUpTo) (t := 0) (i := 0) (k := 0) (As := [.int (x5)]) (rest := []) kl_11_291 oy_X11_markedUpTo ⟨Nat.le_of_ble_eq_true rfl, Nat.le_of_ble_eq_true rfl⟩ rfl rfl rfl rfl (Nat.le_of_ble_eq_true rfl) rfl dX11_anything_134 (c_X11_markedUpTo hc) (fun v2 τ2 hq => ?_)
    obtain ⟨rfl, rfl⟩ := hq
    change Z _ _ _ _ _ [.int (v)] _
    refine Z.lv [] rfl ?_
    exact zb_X11_anything_137 h
  · have h := (if_neg q).symm.trans h
    refine z_iconst (v := 1) dX11_anything_96 (by decide) ?_
    refine z_istore dX11_anything_97 (by decide) [1, 2, 3, 4, 5, 6, 7, 0] rfl ?_
    exact zl_X11_anything_99 hrc90 FU h
def F_X11_anything_90 : Nat → Int32 → Int32 → Int32 → Int32 → Int32 → Int32 → Mm → Option (Int32 × Mm)
  | 0 => fun _ _ _ _ _ _ _ => none
  | n + 1 => B_X11_anything_90 (F_X11_anything_90 n)
theorem zl_X11_anything_90 {S : Shp} (n : Nat) {x1 : Int32} {x2 : Int32} {x3 : Int32} {x4 : Int32} {x5 : Int32} {x6 : Int32} {σ : Mm} {r : Int32 × Mm} (h : F_X11_anything_90 n x1 x2 x3 x4 x5 x6 σ = some r) : Z m_X11_anything S (Qi r) 90 [(0, .ref (sL S 0 0 0)), (1, .int (x1)), (2, .int (x2)), (3, .int (x3)), (4, .int (x4)), (5, .int (x5)), (6, .int (x6))] [] σ := by
  induction n generalizing x1 x2 x3 x4 x5 x6 σ r with
  | zero => cases h
  | succ n ih => exact zB_X11_anything_90 (fun h => ih h) h
def B_X11_anything_66 (rc66 : Int32 → Int32 → Int32 → Int32 → Int32 → Int32 → Mm → Option (Int32 × Mm)) (x1 : Int32) (x2 : Int32) (x3 : Int32) (x4 : Int32) (x5 : Int32) (x6 : Int32) (σ : Mm) : Option (Int32 × Mm) := (if x5 < x6 then (F_X11_anything_90 FU x1 x2 x3 x4 x5 1 σ) else (if inb x6 2001 = true then (rc66 x1 x2 x3 x4 x5 (x6 + 1) (setA σ 0 0 5 (upd (mA σ 0 0 5) x6.toNatClampNeg (vp_nar .boolean 0)))) else none))
set_option maxRecDepth 20000 in
theorem zB_X11_anything_66 {S : Shp} {rc66 : Int32 → Int32 → Int32 → Int32 → Int32 → Int32 → Mm → Option (Int32 × Mm)} (hrc66 : ∀ {x1 : Int32} {x2 : Int32} {x3 : Int32} {x4 : Int32} {x5 : Int32} {x6 : Int32} {σ : Mm} {r : Int32 × Mm}, rc66 x1 x2 x3 x4 x5 x6 σ = some r → Z m_X11_anything S (Qi r) 66 [(0, .ref (sL S 0 0 0)), (1, .int (x1)), (2, .int (x2)), (3, .int (x3)), (4, .int (x4)), (5, .int (x5)), (6, .int (x6))] [] σ) {x1 : Int32} {x2 : Int32} {x3 : Int32} {x4 : Int32} {x5 : Int32} {x6 : Int32} {σ : Mm} {r : Int32 × Mm} (h : B_X11_anything_66 rc66 x1 x2 x3 x4 x5 x6 σ = some r) : Z m_X11_anything S (Qi r) 66 [(0, .ref (sL S 0 0 0)), (1, .int (x1)), (2, .int (x2)), (3, .int (x3)), (4, .int (x4)), (5, .int (x5)), (6, .int (x6))] [] σ := by
  unfold B_X11_anything_66 at h
  refine z_iload dX11_anything_66 6 rfl ?_
  refine z_iload dX11_anything_68 5 rfl ?_
  refine z_icmp_gt (tgt := 87) dX11_anything_70 (by decide) (fun q => ?_) (fun q => ?_)
  · have h := (if_pos q).symm.trans h
    refine z_iconst (v := 1) dX11_anything_87 (by decide) ?_
    refine z_istore dX11_anything_88 (by decide) [1, 2, 3, 4, 5, 6, 0] rfl ?_
    exact zl_X11_anything_90 FU h
  · have h := (if_neg q).symm.trans h
    obtain ⟨g1, h⟩ := gd h
    refine z_aload_n dX11_anything_73 rfl 0 rfl ?_
    refine gf_11_96 rfl dX11_anything_74 ?_
    refine z_iload dX11_anything_77 6 rfl ?_
    refine z_iconst (v := 0) dX11_anything_79 (by decide) ?_
    refine is_0_5 (inb_in g1) dX11_anything_80 ?_
    refine z_iinc (j := 6) (v := x6 + 1) dX11_anything_81 rfl rfl (by decide) [1, 2, 3, 4, 5, 6, 0] rfl ?_
    refine z_goto (tgt := 66) dX11_anything_84 (by decide) ?_
    exact hrc66 h
def F_X11_anything_66 : Nat → Int32 → Int32 → Int32 → Int32 → Int32 → Int32 → Mm → Option (Int32 × Mm)
  | 0 => fun _ _ _ _ _ _ _ => none
  | n + 1 => B_X11_anything_66 (F_X11_anything_66 n)
theorem zl_X11_anything_66 {S : Shp} (n : Nat) {x1 : Int32} {x2 : Int32} {x3 : Int32} {x4 : Int32} {x5 : Int32} {x6 : Int32} {σ : Mm} {r : Int32 × Mm} (h : F_X11_anything_66 n x1 x2 x3 x4 x5 x6 σ = some r) : Z m_X11_anything S (Qi r) 66 [(0, .ref (sL S 0 0 0)), (1, .int (x1)), (2, .int (x2)), (3, .int (x3)), (4, .int (x4)), (5, .int (x5)), (6, .int (x6))] [] σ := by
  induction n generalizing x1 x2 x3 x4 x5 x6 σ r with
  | zero => cases h
  | succ n ih => exact zB_X11_anything_66 (fun h => ih h) h
def F_X11_anything (x1 : Int32) (x2 : Int32) (x3 : Int32) (x4 : Int32) (x5 : Int32) (σ : Mm) : Option (Int32 × Mm) := (if x1 < 1 then some ((-1), σ) else (if 100 < x1 then some ((-1), σ) else (if x2 < 1 then some ((-1), σ) else (if 20 < x2 then some ((-1), σ) else (if x3 < 1 then some ((-1), σ) else (if x3 ≤ 20 then (if x4 < 0 then some ((-1), σ) else (if 9 < x4 then some ((-1), σ) else (if x5 < 1 then some ((-1), σ) else (if x5 ≤ 2000 then (F_X11_anything_66 FU x1 x2 x3 x4 x5 0 σ) else some ((-1), σ))))) else some ((-1), σ)))))))
set_option maxRecDepth 20000 in
theorem zb_X11_anything {S : Shp} {x1 : Int32} {x2 : Int32} {x3 : Int32} {x4 : Int32} {x5 : Int32} {σ : Mm} {r : Int32 × Mm} (h : F_X11_anything x1 x2 x3 x4 x5 σ = some r) : Z m_X11_anything S (Qi r) 0 [(0, .ref (sL S 0 0 0)), (1, .int (x1)), (2, .int (x2)), (3, .int (x3)), (4, .int (x4)), (5, .int (x5))] [] σ := by
  unfold F_X11_anything at h
  refine z_iload_n dX11_anything_0 rfl 1 rfl ?_
  refine z_iconst (v := 1) dX11_anything_1 (by decide) ?_
  refine z_icmp_lt (tgt := 33) dX11_anything_2 (by decide) (fun q => ?_) (fun q => ?_)
  · have h := (if_pos q).symm.trans h
    refine z_iconst (v := (-1)) dX11_anything_33 (by decide) ?_
    cases h
    exact z_ireturn dX11_anything_34 rfl rfl ⟨rfl, rfl⟩
  · have h := (if_neg q).symm.trans h
    refine z_iload_n dX11_anything_5 rfl 1 rfl ?_
    refine z_bipush (v := 100) dX11_anything_6 (by decide) ?_
    refine z_icmp_gt (tgt := 33) dX11_anything_8 (by decide) (fun q => ?_) (fun q => ?_)
    · have h := (if_pos q).symm.trans h
      refine z_iconst (v := (-1)) dX11_anything_33 (by decide) ?_
      cases h
      exact z_ireturn dX11_anything_34 rfl rfl ⟨rfl, rfl⟩
    · have h := (if_neg q).symm.trans h
      refine z_iload_n dX11_anything_11 rfl 2 rfl ?_
      refine z_iconst (v := 1) dX11_anything_12 (by decide) ?_
      refine z_icmp_lt (tgt := 33) dX11_anything_13 (by decide) (fun q => ?_) (fun q => ?_)
      · have h := (if_pos q).symm.trans h
        refine z_iconst (v := (-1)) dX11_anything_33 (by decide) ?_
        cases h
        exact z_ireturn dX11_anything_34 rfl rfl ⟨rfl, rfl⟩
      · have h := (if_neg q).symm.trans h
        refine z_iload_n dX11_anything_16 rfl 2 rfl ?_
        refine z_bipush (v := 20) dX11_anything_17 (by decide) ?_
        refine z_icmp_gt (tgt := 33) dX11_anything_19 (by decide) (fun q => ?_) (fun q => ?_)
        · have h := (if_pos q).symm.trans h
          refine z_iconst (v := (-1)) dX11_anything_33 (by decide) ?_
          cases h
          exact z_ireturn dX11_anything_34 rfl rfl ⟨rfl, rfl⟩
        · have h := (if_neg q).symm.trans h
          refine z_iload_n dX11_anything_22 rfl 3 rfl ?_
          refine z_iconst (v := 1) dX11_anything_23 (by decide) ?_
          refine z_icmp_lt (tgt := 33) dX11_anything_24 (by decide) (fun q => ?_) (fun q => ?_)
          · have h := (if_pos q).symm.trans h
            refine z_iconst (v := (-1)) dX11_anything_33 (by decide) ?_
            cases h
            exact z_ireturn dX11_anything_34 rfl rfl ⟨rfl, rfl⟩
          · have h := (if_neg q).symm.trans h
            refine z_iload_n dX11_anything_27 rfl 3 rfl ?_
            refine z_bipush (v := 20) dX11_anything_28 (by decide) ?_
            refine z_icmp_le (tgt := 35) dX11_anything_30 (by decide) (fun q => ?_) (fun q => ?_)
            · have h := (if_pos q).symm.trans h
              refine z_iload dX11_anything_35 4 rfl ?_
              refine z_if_lt (tgt := 61) dX11_anything_37 (by decide) (fun q => ?_) (fun q => ?_)
              · have h := (if_pos q).symm.trans h
                refine z_iconst (v := (-1)) dX11_anything_61 (by decide) ?_
                cases h
                exact z_ireturn dX11_anything_62 rfl rfl ⟨rfl, rfl⟩
              · have h := (if_neg q).symm.trans h
                refine z_iload dX11_anything_40 4 rfl ?_
                refine z_bipush (v := 9) dX11_anything_42 (by decide) ?_
                refine z_icmp_gt (tgt := 61) dX11_anything_44 (by decide) (fun q => ?_) (fun q => ?_)
                · have h := (if_pos q).symm.trans h
                  refine z_iconst (v := (-1)) dX11_anything_61 (by decide) ?_
                  cases h
                  exact z_ireturn dX11_anything_62 rfl rfl ⟨rfl, rfl⟩
                · have h := (if_neg q).symm.trans h
                  refine z_iload dX11_anything_47 5 rfl ?_
                  refine z_iconst (v := 1) dX11_anything_49 (by decide) ?_
                  refine z_icmp_lt (tgt := 61) dX11_anything_50 (by decide) (fun q => ?_) (fun q => ?_)
                  · have h := (if_pos q).symm.trans h
                    refine z_iconst (v := (-1)) dX11_anything_61 (by decide) ?_
                    cases h
                    exact z_ireturn dX11_anything_62 rfl rfl ⟨rfl, rfl⟩
                  · have h := (if_neg q).symm.trans h
                    refine z_iload dX11_anything_53 5 rfl ?_
                    refine z_sipush (v := 2000) dX11_anything_55 (by decide) ?_
                    refine z_icmp_le (tgt := 63) dX11_anything_58 (by decide) (fun q => ?_) (fun q => ?_)
                    · have h := (if_pos q).symm.trans h
                      refine z_iconst (v := 0) dX11_anything_63 (by decide) ?_
                      refine z_istore dX11_anything_64 (by decide) [1, 2, 3, 4, 5, 6, 0] rfl ?_
                      exact zl_X11_anything_66 FU h
                    · have h := (if_neg q).symm.trans h
                      refine z_iconst (v := (-1)) dX11_anything_61 (by decide) ?_
                      cases h
                      exact z_ireturn dX11_anything_62 rfl rfl ⟨rfl, rfl⟩
            · have h := (if_neg q).symm.trans h
              refine z_iconst (v := (-1)) dX11_anything_33 (by decide) ?_
              cases h
              exact z_ireturn dX11_anything_34 rfl rfl ⟨rfl, rfl⟩
/-- SkyStones.anything(IIIII)I -/
theorem c_X11_anything {S : Shp} {x1 : Int32} {x2 : Int32} {x3 : Int32} {x4 : Int32} {x5 : Int32} {σ : Mm} {r : Int32 × Mm} (h : F_X11_anything x1 x2 x3 x4 x5 σ = some r) : Ct m_X11_anything S [.ref (sL S 0 0 0), .int (x1), .int (x2), .int (x3), .int (x4), .int (x5)] σ (Qi r) := Ct.of (by decide) (Nat.le_of_ble_eq_true rfl) (zb_X11_anything h)
def F_X11_back_34 (σ : Mm) : Option (Int32 × Mm) := some (mA σ 0 0 6 0, σ)
set_option maxRecDepth 20000 in
theorem zb_X11_back_34 {S : Shp} {σ : Mm} {r : Int32 × Mm} (h : F_X11_back_34 σ = some r) : Z m_X11_back S (Qi r) 34 [] [.ref (sL S 0 0 6)] σ := by
  unfold F_X11_back_34 at h
  refine gf_11_100 rfl dX11_back_34 ?_
  cases h
  exact z_ireturn dX11_back_37 rfl rfl ⟨rfl, rfl⟩
def F_X11_back (x1 : Int32) (σ : Mm) : Option (Int32 × Mm) := (if x1 < 0 then some ((-1), σ) else (if x1 ≤ (mA σ 0 0 6 0) then (F_X11_back_34 (setA σ 0 0 6 (upd (mA σ 0 0 6) 0 ((mA σ 0 0 6 0) - x1)))) else some ((-1), σ)))
set_option maxRecDepth 20000 in
theorem zb_X11_back {S : Shp} {x1 : Int32} {σ : Mm} {r : Int32 × Mm} (h : F_X11_back x1 σ = some r) : Z m_X11_back S (Qi r) 0 [(0, .ref (sL S 0 0 0)), (1, .int (x1))] [] σ := by
  unfold F_X11_back at h
  refine z_iload_n dX11_back_0 rfl 1 rfl ?_
  refine z_if_lt (tgt := 15) dX11_back_1 (by decide) (fun q => ?_) (fun q => ?_)
  · have h := (if_pos q).symm.trans h
    refine z_iconst (v := (-1)) dX11_back_15 (by decide) ?_
    cases h
    exact z_ireturn dX11_back_16 rfl rfl ⟨rfl, rfl⟩
  · have h := (if_neg q).symm.trans h
    refine z_iload_n dX11_back_4 rfl 1 rfl ?_
    refine z_aload_n dX11_back_5 rfl 0 rfl ?_
    refine gf_11_12 rfl dX11_back_6 ?_
    refine gf_11_100 rfl dX11_back_9 ?_
    refine z_icmp_le (tgt := 17) dX11_back_12 (by decide) (fun q => ?_) (fun q => ?_)
    · have h := (if_pos q).symm.trans h
      refine z_aload_n dX11_back_17 rfl 0 rfl ?_
      refine gf_11_12 rfl dX11_back_18 ?_
      refine z_dup dX11_back_21 rfl ?_
      refine gf_11_100 rfl dX11_back_22 ?_
      refine z_iload_n dX11_back_25 rfl 1 rfl ?_
      refine z_isub dX11_back_26 ?_
      refine pf_11_100 rfl dX11_back_27 ?_
      refine z_aload_n dX11_back_30 rfl 0 rfl ?_
      refine gf_11_12 rfl dX11_back_31 ?_
      refine Z.lv [] rfl ?_
      exact zb_X11_back_34 h
    · have h := (if_neg q).symm.trans h
      refine z_iconst (v := (-1)) dX11_back_15 (by decide) ?_
      cases h
      exact z_ireturn dX11_back_16 rfl rfl ⟨rfl, rfl⟩
/-- SkyStones.back(I)I -/
theorem c_X11_back {S : Shp} {x1 : Int32} {σ : Mm} {r : Int32 × Mm} (h : F_X11_back x1 σ = some r) : Ct m_X11_back S [.ref (sL S 0 0 0), .int (x1)] σ (Qi r) := Ct.of (by decide) (Nat.le_of_ble_eq_true rfl) (zb_X11_back h)
def f_X11_isDegree (x0 : Int32) : Int32 := (if x0 < 0 then 0 else (if 360 ≤ x0 then 0 else 1))
set_option maxRecDepth 20000 in
theorem zb_X11_isDegree {S : Shp} {x0 : Int32} {σ : Mm} {r : Int32} (h : f_X11_isDegree x0 = r) : Z m_X11_isDegree S (Qi (r, σ)) 0 [(0, .int (x0))] [] σ := by
  unfold f_X11_isDegree at h
  refine z_iload_n dX11_isDegree_0 rfl 0 rfl ?_
  refine z_if_lt (tgt := 15) dX11_isDegree_1 (by decide) (fun q => ?_) (fun q => ?_)
  · have h := (if_pos q).symm.trans h
    refine z_iconst (v := 0) dX11_isDegree_15 (by decide) ?_
    subst h
    exact z_ireturn dX11_isDegree_16 rfl rfl ⟨rfl, rfl⟩
  · have h := (if_neg q).symm.trans h
    refine z_iload_n dX11_isDegree_4 rfl 0 rfl ?_
    refine z_sipush (v := 360) dX11_isDegree_5 (by decide) ?_
    refine z_icmp_ge (tgt := 15) dX11_isDegree_8 (by decide) (fun q => ?_) (fun q => ?_)
    · have h := (if_pos q).symm.trans h
      refine z_iconst (v := 0) dX11_isDegree_15 (by decide) ?_
      subst h
      exact z_ireturn dX11_isDegree_16 rfl rfl ⟨rfl, rfl⟩
    · have h := (if_neg q).symm.trans h
      refine z_iconst (v := 1) dX11_isDegree_11 (by decide) ?_
      refine z_goto (tgt := 16) dX11_isDegree_12 (by decide) ?_
      subst h
      exact z_ireturn dX11_isDegree_16 rfl rfl ⟨rfl, rfl⟩
/-- SkyStones.isDegree(I)Z -/
theorem c_X11_isDegree {S : Shp} {x0 : Int32} {σ : Mm} {r : Int32} (h : f_X11_isDegree x0 = r) : Ct m_X11_isDegree S [.int (x0)] σ (Qi (r, σ)) := Ct.of (by decide) (Nat.le_of_ble_eq_true rfl) (zb_X11_isDegree h)
def F_X11_near_w_30 (rc6 : Int32 → Int32 → Int32 → Int32 → Mm → Option (Int32 × Mm)) (x1 : Int32) (x2 : Int32) (x4 : Int32) (x5 : Int32) (σ : Mm) : Option (Int32 × Mm) := (rc6 x1 x2 x4 (x5 + 1) σ)
set_option maxRecDepth 20000 in
theorem zb_X11_near_w_30 {S : Shp} {rc6 : Int32 → Int32 → Int32 → Int32 → Mm → Option (Int32 × Mm)} (hrc6 : ∀ {x1 : Int32} {x2 : Int32} {x4 : Int32} {x5 : Int32} {σ : Mm} {r : Int32 × Mm}, rc6 x1 x2 x4 x5 σ = some r → Z m_X11_near S (Qi r) 6 [(0, .ref (sL S 0 0 0)), (1, .int (x1)), (2, .int (x2)), (3, .ref (sL S 0 0 3)), (4, .int (x4)), (5, .int (x5))] [] σ) {x1 : Int32} {x2 : Int32} {x4 : Int32} {x5 : Int32} {σ : Mm} {r : Int32 × Mm} (h : F_X11_near_w_30 rc6 x1 x2 x4 x5 σ = some r) : Z m_X11_near S (Qi r) 30 [(0, .ref (sL S 0 0 0)), (1, .int (x1)), (2, .int (x2)), (3, .ref (sL S 0 0 3)), (4, .int (x4)), (5, .int (x5))] [] σ := by
  unfold F_X11_near_w_30 at h
  refine z_iinc (j := 5) (v := x5 + 1) dX11_near_30 rfl rfl (by decide) [1, 2, 3, 4, 5, 0] rfl ?_
  refine z_goto (tgt := 6) dX11_near_33 (by decide) ?_
  exact hrc6 h
def B_X11_near_w_6 (rc6 : Int32 → Int32 → Int32 → Int32 → Mm → Option (Int32 × Mm)) (x1 : Int32) (x2 : Int32) (x4 : Int32) (x5 : Int32) (σ : Mm) : Option (Int32 × Mm) := (if (mA σ 0 0 0 12) ≤ x5 then some (x4, σ) else (if inb x5 6 = true then (if x2 < (f_X1_apart (mA σ 0 0 3 x5.toNatClampNeg) x1) then (F_X11_near_w_30 rc6 x1 x2 x4 x5 σ) else (F_X11_near_w_30 rc6 x1 x2 (x4 + 1) x5 σ)) else none))
set_option maxRecDepth 20000 in
theorem zB_X11_near_w_6 {S : Shp} {rc6 : Int32 → Int32 → Int32 → Int32 → Mm → Option (Int32 × Mm)} (hrc6 : ∀ {x1 : Int32} {x2 : Int32} {x4 : Int32} {x5 : Int32} {σ : Mm} {r : Int32 × Mm}, rc6 x1 x2 x4 x5 σ = some r → Z m_X11_near S (Qi r) 6 [(0, .ref (sL S 0 0 0)), (1, .int (x1)), (2, .int (x2)), (3, .ref (sL S 0 0 3)), (4, .int (x4)), (5, .int (x5))] [] σ) {x1 : Int32} {x2 : Int32} {x4 : Int32} {x5 : Int32} {σ : Mm} {r : Int32 × Mm} (h : B_X11_near_w_6 rc6 x1 x2 x4 x5 σ = some r) : Z m_X11_near S (Qi r) 6 [(0, .ref (sL S 0 0 0)), (1, .int (x1)), (2, .int (x2)), (3, .ref (sL S 0 0 3)), (4, .int (x4)), (5, .int (x5))] [] σ := by
  unfold B_X11_near_w_6 at h
  refine z_iload dX11_near_6 5 rfl ?_
  refine z_aload_n dX11_near_8 rfl 0 rfl ?_
  refine gf_11_85 rfl dX11_near_9 ?_
  refine z_icmp_ge (tgt := 36) dX11_near_12 (by decide) (fun q => ?_) (fun q => ?_)
  · have h := (if_pos q).symm.trans h
    refine z_iload dX11_near_36 4 rfl ?_
    cases h
    exact z_ireturn dX11_near_38 rfl rfl ⟨rfl, rfl⟩
  · have h := (if_neg q).symm.trans h
    obtain ⟨g1, h⟩ := gd h
    refine z_aload_n dX11_near_15 rfl 3 rfl ?_
    refine z_iload dX11_near_16 5 rfl ?_
    refine ia_0_3 (inb_in g1) dX11_near_18 ?_
    refine z_iload_n dX11_near_19 rfl 1 rfl ?_
    refine z_callS (M' := m_X1_apart) (As := [.int (mA σ 0 0 3 x5.toNatClampNeg), .int (x1)]) (rest := []) kl_11_370 oy_X1_apart ⟨Nat.le_of_ble_eq_true rfl, Nat.le_of_ble_eq_true rfl⟩ rfl (Nat.le_of_ble_eq_true rfl) rfl dX11_near_20 (c_X1_apart rfl) (fun v τ hq => ?_)
    obtain ⟨rfl, rfl⟩ := hq
    change Z _ _ _ _ _ [.int (f_X1_apart (mA σ 0 0 3 x5.toNatClampNeg) x1)] _
    refine z_iload_n dX11_near_23 rfl 2 rfl ?_
    refine z_icmp_gt (tgt := 30) dX11_near_24 (by decide) (fun q => ?_) (fun q => ?_)
    · have h := (if_pos q).symm.trans h
      exact zb_X11_near_w_30 hrc6 h
    · have h := (if_neg q).symm.trans h
      refine z_iinc (j := 4) (v := x4 + 1) dX11_near_27 rfl rfl (by decide) [1, 2, 3, 4, 0, 5] rfl ?_
      exact zb_X11_near_w_30 hrc6 h
def F_X11_near_w_6 : Nat → Int32 → Int32 → Int32 → Int32 → Mm → Option (Int32 × Mm)
  | 0 => fun _ _ _ _ _ => none
  | n + 1 => B_X11_near_w_6 (F_X11_near_w_6 n)
theorem zl_X11_near_w_6 {S : Shp} (n : Nat) {x1 : Int32} {x2 : Int32} {x4 : Int32} {x5 : Int32} {σ : Mm} {r : Int32 × Mm} (h : F_X11_near_w_6 n x1 x2 x4 x5 σ = some r) : Z m_X11_near S (Qi r) 6 [(0, .ref (sL S 0 0 0)), (1, .int (x1)), (2, .int (x2)), (3, .ref (sL S 0 0 3)), (4, .int (x4)), (5, .int (x5))] [] σ := by
  induction n generalizing x1 x2 x4 x5 σ r with
  | zero => cases h
  | succ n ih => exact zB_X11_near_w_6 (fun h => ih h) h
def F_X11_near_w (x1 : Int32) (x2 : Int32) (σ : Mm) : Option (Int32 × Mm) := (F_X11_near_w_6 FU x1 x2 0 0 σ)
set_option maxRecDepth 20000 in
theorem zb_X11_near_w {S : Shp} {x1 : Int32} {x2 : Int32} {σ : Mm} {r : Int32 × Mm} (h : F_X11_near_w x1 x2 σ = some r) : Z m_X11_near S (Qi r) 0 [(0, .ref (sL S 0 0 0)), (1, .int (x1)), (2, .int (x2)), (3, .ref (sL S 0 0 3))] [] σ := by
  unfold F_X11_near_w at h
  refine z_iconst (v := 0) dX11_near_0 (by decide) ?_
  refine z_istore dX11_near_1 (by decide) [1, 2, 3, 4, 0] rfl ?_
  refine z_iconst (v := 0) dX11_near_3 (by decide) ?_
  refine z_istore dX11_near_4 (by decide) [1, 2, 3, 4, 5, 0] rfl ?_
  exact zl_X11_near_w_6 FU h
/-- SkyStones.near(II[I)I -/
theorem c_X11_near_w {S : Shp} {x1 : Int32} {x2 : Int32} {σ : Mm} {r : Int32 × Mm} (h : F_X11_near_w x1 x2 σ = some r) : Ct m_X11_near S [.ref (sL S 0 0 0), .int (x1), .int (x2), .ref (sL S 0 0 3)] σ (Qi r) := Ct.of (by decide) (Nat.le_of_ble_eq_true rfl) (zb_X11_near_w h)
def F_X11_near_l_30 (rc6 : Int32 → Int32 → Int32 → Int32 → Mm → Option (Int32 × Mm)) (x1 : Int32) (x2 : Int32) (x4 : Int32) (x5 : Int32) (σ : Mm) : Option (Int32 × Mm) := (rc6 x1 x2 x4 (x5 + 1) σ)
set_option maxRecDepth 20000 in
theorem zb_X11_near_l_30 {S : Shp} {rc6 : Int32 → Int32 → Int32 → Int32 → Mm → Option (Int32 × Mm)} (hrc6 : ∀ {x1 : Int32} {x2 : Int32} {x4 : Int32} {x5 : Int32} {σ : Mm} {r : Int32 × Mm}, rc6 x1 x2 x4 x5 σ = some r → Z m_X11_near S (Qi r) 6 [(0, .ref (sL S 0 0 0)), (1, .int (x1)), (2, .int (x2)), (3, .ref (sL S 0 0 4)), (4, .int (x4)), (5, .int (x5))] [] σ) {x1 : Int32} {x2 : Int32} {x4 : Int32} {x5 : Int32} {σ : Mm} {r : Int32 × Mm} (h : F_X11_near_l_30 rc6 x1 x2 x4 x5 σ = some r) : Z m_X11_near S (Qi r) 30 [(0, .ref (sL S 0 0 0)), (1, .int (x1)), (2, .int (x2)), (3, .ref (sL S 0 0 4)), (4, .int (x4)), (5, .int (x5))] [] σ := by
  unfold F_X11_near_l_30 at h
  refine z_iinc (j := 5) (v := x5 + 1) dX11_near_30 rfl rfl (by decide) [1, 2, 3, 4, 5, 0] rfl ?_
  refine z_goto (tgt := 6) dX11_near_33 (by decide) ?_
  exact hrc6 h
def B_X11_near_l_6 (rc6 : Int32 → Int32 → Int32 → Int32 → Mm → Option (Int32 × Mm)) (x1 : Int32) (x2 : Int32) (x4 : Int32) (x5 : Int32) (σ : Mm) : Option (Int32 × Mm) := (if (mA σ 0 0 0 12) ≤ x5 then some (x4, σ) else (if inb x5 6 = true then (if x2 < (f_X1_apart (mA σ 0 0 4 x5.toNatClampNeg) x1) then (F_X11_near_l_30 rc6 x1 x2 x4 x5 σ) else (F_X11_near_l_30 rc6 x1 x2 (x4 + 1) x5 σ)) else none))
set_option maxRecDepth 20000 in
theorem zB_X11_near_l_6 {S : Shp} {rc6 : Int32 → Int32 → Int32 → Int32 → Mm → Option (Int32 × Mm)} (hrc6 : ∀ {x1 : Int32} {x2 : Int32} {x4 : Int32} {x5 : Int32} {σ : Mm} {r : Int32 × Mm}, rc6 x1 x2 x4 x5 σ = some r → Z m_X11_near S (Qi r) 6 [(0, .ref (sL S 0 0 0)), (1, .int (x1)), (2, .int (x2)), (3, .ref (sL S 0 0 4)), (4, .int (x4)), (5, .int (x5))] [] σ) {x1 : Int32} {x2 : Int32} {x4 : Int32} {x5 : Int32} {σ : Mm} {r : Int32 × Mm} (h : B_X11_near_l_6 rc6 x1 x2 x4 x5 σ = some r) : Z m_X11_near S (Qi r) 6 [(0, .ref (sL S 0 0 0)), (1, .int (x1)), (2, .int (x2)), (3, .ref (sL S 0 0 4)), (4, .int (x4)), (5, .int (x5))] [] σ := by
  unfold B_X11_near_l_6 at h
  refine z_iload dX11_near_6 5 rfl ?_
  refine z_aload_n dX11_near_8 rfl 0 rfl ?_
  refine gf_11_85 rfl dX11_near_9 ?_
  refine z_icmp_ge (tgt := 36) dX11_near_12 (by decide) (fun q => ?_) (fun q => ?_)
  · have h := (if_pos q).symm.trans h
    refine z_iload dX11_near_36 4 rfl ?_
    cases h
    exact z_ireturn dX11_near_38 rfl rfl ⟨rfl, rfl⟩
  · have h := (if_neg q).symm.trans h
    obtain ⟨g1, h⟩ := gd h
    refine z_aload_n dX11_near_15 rfl 3 rfl ?_
    refine z_iload dX11_near_16 5 rfl ?_
    refine ia_0_4 (inb_in g1) dX11_near_18 ?_
    refine z_iload_n dX11_near_19 rfl 1 rfl ?_
    refine z_callS (M' := m_X1_apart) (As := [.int (mA σ 0 0 4 x5.toNatClampNeg), .int (x1)]) (rest := []) kl_11_370 oy_X1_apart ⟨Nat.le_of_ble_eq_true rfl, Nat.le_of_ble_eq_true rfl⟩ rfl (Nat.le_of_ble_eq_true rfl) rfl dX11_near_20 (c_X1_apart rfl) (fun v τ hq => ?_)
    obtain ⟨rfl, rfl⟩ := hq
    change Z _ _ _ _ _ [.int (f_X1_apart (mA σ 0 0 4 x5.toNatClampNeg) x1)] _
    refine z_iload_n dX11_near_23 rfl 2 rfl ?_
    refine z_icmp_gt (tgt := 30) dX11_near_24 (by decide) (fun q => ?_) (fun q => ?_)
    · have h := (if_pos q).symm.trans h
      exact zb_X11_near_l_30 hrc6 h
    · have h := (if_neg q).symm.trans h
      refine z_iinc (j := 4) (v := x4 + 1) dX11_near_27 rfl rfl (by decide) [1, 2, 3, 4, 0, 5] rfl ?_
      exact zb_X11_near_l_30 hrc6 h
def F_X11_near_l_6 : Nat → Int32 → Int32 → Int32 → Int32 → Mm → Option (Int32 × Mm)
  | 0 => fun _ _ _ _ _ => none
  | n + 1 => B_X11_near_l_6 (F_X11_near_l_6 n)
theorem zl_X11_near_l_6 {S : Shp} (n : Nat) {x1 : Int32} {x2 : Int32} {x4 : Int32} {x5 : Int32} {σ : Mm} {r : Int32 × Mm} (h : F_X11_near_l_6 n x1 x2 x4 x5 σ = some r) : Z m_X11_near S (Qi r) 6 [(0, .ref (sL S 0 0 0)), (1, .int (x1)), (2, .int (x2)), (3, .ref (sL S 0 0 4)), (4, .int (x4)), (5, .int (x5))] [] σ := by
  induction n generalizing x1 x2 x4 x5 σ r with
  | zero => cases h
  | succ n ih => exact zB_X11_near_l_6 (fun h => ih h) h
def F_X11_near_l (x1 : Int32) (x2 : Int32) (σ : Mm) : Option (Int32 × Mm) := (F_X11_near_l_6 FU x1 x2 0 0 σ)
set_option maxRecDepth 20000 in
theorem zb_X11_near_l {S : Shp} {x1 : Int32} {x2 : Int32} {σ : Mm} {r : Int32 × Mm} (h : F_X11_near_l x1 x2 σ = some r) : Z m_X11_near S (Qi r) 0 [(0, .ref (sL S 0 0 0)), (1, .int (x1)), (2, .int (x2)), (3, .ref (sL S 0 0 4))] [] σ := by
  unfold F_X11_near_l at h
  refine z_iconst (v := 0) dX11_near_0 (by decide) ?_
  refine z_istore dX11_near_1 (by decide) [1, 2, 3, 4, 0] rfl ?_
  refine z_iconst (v := 0) dX11_near_3 (by decide) ?_
  refine z_istore dX11_near_4 (by decide) [1, 2, 3, 4, 5, 0] rfl ?_
  exact zl_X11_near_l_6 FU h
/-- SkyStones.near(II[I)I -/
theorem c_X11_near_l {S : Shp} {x1 : Int32} {x2 : Int32} {σ : Mm} {r : Int32 × Mm} (h : F_X11_near_l x1 x2 σ = some r) : Ct m_X11_near S [.ref (sL S 0 0 0), .int (x1), .int (x2), .ref (sL S 0 0 4)] σ (Qi r) := Ct.of (by decide) (Nat.le_of_ble_eq_true rfl) (zb_X11_near_l h)
