def F_X12_tellRule_105 (σ : Mm) : Option (Int32 × Mm) := some (1, σ)
set_option maxRecDepth 20000 in
theorem zb_X12_tellRule_105 {S : Shp} {σ : Mm} {r : Int32 × Mm} (h : F_X12_tellRule_105 σ = some r) : Z m_X12_tellRule S (Qi r) 105 [] [] σ := by
  unfold F_X12_tellRule_105 at h
  refine z_iconst (v := 1) dX12_tellRule_105 (by decide) ?_
  cases h
  exact z_ireturn dX12_tellRule_106 rfl rfl ⟨rfl, rfl⟩
def F_X12_tellRule_95 (σ : Mm) : Option (Int32 × Mm) := (if inb 1 5 = true then (if inb 1 5 = true then (F_X12_tellRule_105 (setA σ 3 0 25 (upd (mA σ 3 0 25) (1 : Int32).toNatClampNeg ((mA σ 3 0 25 (1 : Int32).toNatClampNeg) + (1 : Int32))))) else none) else none)
set_option maxRecDepth 20000 in
theorem zb_X12_tellRule_95 {S : Shp} {σ : Mm} {r : Int32 × Mm} (h : F_X12_tellRule_95 σ = some r) : Z m_X12_tellRule S (Qi r) 95 [(0, .ref (sL S 3 0 0))] [] σ := by
  unfold F_X12_tellRule_95 at h
  obtain ⟨g9, h⟩ := gd h
  refine z_aload_n dX12_tellRule_95 rfl 0 rfl ?_
  refine gf_12_88 rfl dX12_tellRule_96 ?_
  refine z_iconst (v := 1) dX12_tellRule_99 (by decide) ?_
  refine z_dup2_11 dX12_tellRule_100 rfl rfl ?_
  obtain ⟨g10, h⟩ := gd h
  refine ia_3_25 (inb_in g9) dX12_tellRule_101 ?_
  refine z_iconst (v := 1) dX12_tellRule_102 (by decide) ?_
  refine z_iadd dX12_tellRule_103 ?_
  refine is_3_25 (inb_in g10) dX12_tellRule_104 ?_
  refine Z.lv [] rfl ?_
  exact zb_X12_tellRule_105 h
def F_X12_tellRule_75 (σ : Mm) : Option (Int32 × Mm) := (if inb 1 5 = true then (if inb 1 5 = true then (if inb ((6 : Int32) + (mA σ 3 0 25 (1 : Int32).toNatClampNeg)) 30 = true then (F_X12_tellRule_95 (setA σ 3 0 27 (upd (mA σ 3 0 27) ((6 : Int32) + (mA σ 3 0 25 (1 : Int32).toNatClampNeg)).toNatClampNeg (mA σ 3 0 31 (1 : Int32).toNatClampNeg)))) else none) else none) else none)
set_option maxRecDepth 20000 in
theorem zb_X12_tellRule_75 {S : Shp} {σ : Mm} {r : Int32 × Mm} (h : F_X12_tellRule_75 σ = some r) : Z m_X12_tellRule S (Qi r) 75 [(0, .ref (sL S 3 0 0))] [] σ := by
  unfold F_X12_tellRule_75 at h
  obtain ⟨g6, h⟩ := gd h
  refine z_aload_n dX12_tellRule_75 rfl 0 rfl ?_
  refine gf_12_94 rfl dX12_tellRule_76 ?_
  refine z_bipush (v := 6) dX12_tellRule_79 (by decide) ?_
  refine z_aload_n dX12_tellRule_81 rfl 0 rfl ?_
  refine gf_12_88 rfl dX12_tellRule_82 ?_
  refine z_iconst (v := 1) dX12_tellRule_85 (by decide) ?_
  obtain ⟨g7, h⟩ := gd h
  refine ia_3_25 (inb_in g6) dX12_tellRule_86 ?_
  refine z_iadd dX12_tellRule_87 ?_
  refine z_aload_n dX12_tellRule_88 rfl 0 rfl ?_
  refine gf_12_106 rfl dX12_tellRule_89 ?_
  refine z_iconst (v := 1) dX12_tellRule_92 (by decide) ?_
  obtain ⟨g8, h⟩ := gd h
  refine ia_3_31 (inb_in g7) dX12_tellRule_93 ?_
  refine is_3_27 (inb_in g8) dX12_tellRule_94 ?_
  exact zb_X12_tellRule_95 h
def F_X12_tellRule_52 (s0 : Int32) (σ : Mm) : Option (Int32 × Mm) := (if s0 = 0 then some (0, σ) else (if inb 1 5 = true then (if inb ((6 : Int32) + (mA σ 3 0 25 (1 : Int32).toNatClampNeg)) 30 = true then (F_X12_tellRule_75 (setA σ 3 0 26 (upd (mA σ 3 0 26) ((6 : Int32) + (mA σ 3 0 25 (1 : Int32).toNatClampNeg)).toNatClampNeg (mA σ 3 0 0 59)))) else none) else none))
set_option maxRecDepth 20000 in
theorem zb_X12_tellRule_52 {S : Shp} {s0 : Int32} {σ : Mm} {r : Int32 × Mm} (h : F_X12_tellRule_52 s0 σ = some r) : Z m_X12_tellRule S (Qi r) 52 [(0, .ref (sL S 3 0 0))] [.int (s0)] σ := by
  unfold F_X12_tellRule_52 at h
  refine z_if_ne (tgt := 57) dX12_tellRule_52 (by decide) (fun q => ?_) (fun q => ?_)
  · have h := (if_neg q).symm.trans h
    obtain ⟨g4, h⟩ := gd h
    refine z_aload_n dX12_tellRule_57 rfl 0 rfl ?_
    refine gf_12_91 rfl dX12_tellRule_58 ?_
    refine z_bipush (v := 6) dX12_tellRule_61 (by decide) ?_
    refine z_aload_n dX12_tellRule_63 rfl 0 rfl ?_
    refine gf_12_88 rfl dX12_tellRule_64 ?_
    refine z_iconst (v := 1) dX12_tellRule_67 (by decide) ?_
    obtain ⟨g5, h⟩ := gd h
    refine ia_3_25 (inb_in g4) dX12_tellRule_68 ?_
    refine z_iadd dX12_tellRule_69 ?_
    refine z_aload_n dX12_tellRule_70 rfl 0 rfl ?_
    refine gf_12_355 rfl dX12_tellRule_71 ?_
    refine is_3_26 (inb_in g5) dX12_tellRule_74 ?_
    exact zb_X12_tellRule_75 h
  · have h := (if_pos q).symm.trans h
    refine z_iconst (v := 0) dX12_tellRule_55 (by decide) ?_
    cases h
    exact z_ireturn dX12_tellRule_56 rfl rfl ⟨rfl, rfl⟩
def F_X12_tellRule_45 (s0 : Int32) (σ : Mm) : Option (Int32 × Mm) := (if s0 = 0 then some (0, σ) else (bnd (F_X12_cond  σ) (fun v τ => (F_X12_tellRule_52 v τ))))
set_option maxRecDepth 20000 in
theorem zb_X12_tellRule_45 {S : Shp} {s0 : Int32} {σ : Mm} {r : Int32 × Mm} (h : F_X12_tellRule_45 s0 σ = some r) : Z m_X12_tellRule S (Qi r) 45 [(0, .ref (sL S 3 0 0))] [.int (s0)] σ := by
  unfold F_X12_tellRule_45 at h
  refine z_if_eq (tgt := 55) dX12_tellRule_45 (by decide) (fun q => ?_) (fun q => ?_)
  · have h := (if_pos q).symm.trans h
    refine z_iconst (v := 0) dX12_tellRule_55 (by decide) ?_
    cases h
    exact z_ireturn dX12_tellRule_56 rfl rfl ⟨rfl, rfl⟩
  · have h := (if_neg q).symm.trans h
    refine z_aload_n dX12_tellRule_48 rfl 0 rfl ?_
    obtain ⟨v, τ, hc, h⟩ := bnd_e h
    refine z_callV (M' := m_X12_cond) (t := 3) (i := 0) (k := 0) (As := []) (rest := []) kl_12_376 oy_X12_cond ⟨Nat.le_of_ble_eq_true rfl, Nat.le_of_ble_eq_true rfl⟩ rfl rfl rfl rfl (Nat.le_of_ble_eq_true rfl) rfl dX12_tellRule_49 (c_X12_cond hc) (fun v2 τ2 hq => ?_)
    obtain ⟨rfl, hτ⟩ := hq
    subst τ2
    change Z _ _ _ _ _ [.int (v)] _
    exact zb_X12_tellRule_52 h
def F_X12_tellRule_40 (s0 : Int32) (σ : Mm) : Option (Int32 × Mm) := (if isB s0 = true then some (s0, σ) else none)
set_option maxRecDepth 20000 in
theorem zb_X12_tellRule_40 {S : Shp} {s0 : Int32} {σ : Mm} {r : Int32 × Mm} (h : F_X12_tellRule_40 s0 σ = some r) : Z m_X12_tellRule S (Qi r) 40 [] [.int (s0)] σ := by
  unfold F_X12_tellRule_40 at h
  obtain ⟨g3, h⟩ := gd h
  cases h
  exact z_ireturn dX12_tellRule_40 rfl (isB_n g3) ⟨rfl, rfl⟩
def F_X12_tellRule_32 (s0 : Int32) (σ : Mm) : Option (Int32 × Mm) := (if s0 = 0 then (bnd (F_X12_wrong 1 σ) (fun v τ => (F_X12_tellRule_40 v τ))) else (bnd (F_X12_pass  σ) (fun v τ => (F_X12_tellRule_45 v τ))))
set_option maxRecDepth 20000 in
theorem zb_X12_tellRule_32 {S : Shp} {s0 : Int32} {σ : Mm} {r : Int32 × Mm} (h : F_X12_tellRule_32 s0 σ = some r) : Z m_X12_tellRule S (Qi r) 32 [(0, .ref (sL S 3 0 0))] [.int (s0)] σ := by
  unfold F_X12_tellRule_32 at h
  refine z_if_ne (tgt := 41) dX12_tellRule_32 (by decide) (fun q => ?_) (fun q => ?_)
  · have h := (if_neg q).symm.trans h
    refine z_aload_n dX12_tellRule_41 rfl 0 rfl ?_
    obtain ⟨v, τ, hc, h⟩ := bnd_e h
    refine z_callV (M' := m_X12_pass) (t := 3) (i := 0) (k := 0) (As := []) (rest := []) kl_12_317 oy_X12_pass ⟨Nat.le_of_ble_eq_true rfl, Nat.le_of_ble_eq_true rfl⟩ rfl rfl rfl rfl (Nat.le_of_ble_eq_true rfl) rfl dX12_tellRule_42 (c_X12_pass hc) (fun v2 τ2 hq => ?_)
    obtain ⟨rfl, hτ⟩ := hq
    subst τ2
    change Z _ _ _ _ _ [.int (v)] _
    exact zb_X12_tellRule_45 h
  · have h := (if_pos q).symm.trans h
    refine z_aload_n dX12_tellRule_35 rfl 0 rfl ?_
    refine z_iconst (v := 1) dX12_tellRule_36 (by decide) ?_
    obtain ⟨v, τ, hc, h⟩ := bnd_e h
    refine z_callV (M' := m_X12_wrong) (t := 3) (i := 0) (k := 0) (As := [.int (1)]) (rest := []) kl_12_314 oy_X12_wrong ⟨Nat.le_of_ble_eq_true rfl, Nat.le_of_ble_eq_true rfl⟩ rfl rfl rfl rfl (Nat.le_of_ble_eq_true rfl) rfl dX12_tellRule_37 (c_X12_wrong hc) (fun v2 τ2 hq => ?_)
    obtain ⟨rfl, hτ⟩ := hq
    subst τ2
    change Z _ _ _ _ _ [.int (v)] _
    refine Z.lv [] rfl ?_
    exact zb_X12_tellRule_40 h
def F_X12_tellRule_21 (s0 : Int32) (σ : Mm) : Option (Int32 × Mm) := (if s0 = 0 then some (0, σ) else (bnd (F_X12_isWord 8 σ) (fun v τ => (F_X12_tellRule_32 v τ))))
set_option maxRecDepth 20000 in
theorem zb_X12_tellRule_21 {S : Shp} {s0 : Int32} {σ : Mm} {r : Int32 × Mm} (h : F_X12_tellRule_21 s0 σ = some r) : Z m_X12_tellRule S (Qi r) 21 [(0, .ref (sL S 3 0 0))] [.int (s0)] σ := by
  unfold F_X12_tellRule_21 at h
  refine z_if_ne (tgt := 26) dX12_tellRule_21 (by decide) (fun q => ?_) (fun q => ?_)
  · have h := (if_neg q).symm.trans h
    refine z_aload_n dX12_tellRule_26 rfl 0 rfl ?_
    refine z_bipush (v := 8) dX12_tellRule_27 (by decide) ?_
    obtain ⟨v, τ, hc, h⟩ := bnd_e h
    refine z_callV (M' := m_X12_isWord) (t := 3) (i := 0) (k := 0) (As := [.int (8)]) (rest := []) kl_12_358 oy_X12_isWord ⟨Nat.le_of_ble_eq_true rfl, Nat.le_of_ble_eq_true rfl⟩ rfl rfl rfl rfl (Nat.le_of_ble_eq_true rfl) rfl dX12_tellRule_29 (c_X12_isWord hc) (fun v2 τ2 hq => ?_)
    obtain ⟨rfl, hτ⟩ := hq
    subst τ2
    change Z _ _ _ _ _ [.int (v)] _
    exact zb_X12_tellRule_32 h
  · have h := (if_pos q).symm.trans h
    refine z_iconst (v := 0) dX12_tellRule_24 (by decide) ?_
    cases h
    exact z_ireturn dX12_tellRule_25 rfl rfl ⟨rfl, rfl⟩
def F_X12_tellRule_16 (s0 : Int32) (σ : Mm) : Option (Int32 × Mm) := (if isB s0 = true then some (s0, σ) else none)
set_option maxRecDepth 20000 in
theorem zb_X12_tellRule_16 {S : Shp} {s0 : Int32} {σ : Mm} {r : Int32 × Mm} (h : F_X12_tellRule_16 s0 σ = some r) : Z m_X12_tellRule S (Qi r) 16 [] [.int (s0)] σ := by
  unfold F_X12_tellRule_16 at h
  obtain ⟨g2, h⟩ := gd h
  cases h
  exact z_ireturn dX12_tellRule_16 rfl (isB_n g2) ⟨rfl, rfl⟩
def F_X12_tellRule (σ : Mm) : Option (Int32 × Mm) := (if inb 1 5 = true then (if (mA σ 3 0 25 (1 : Int32).toNatClampNeg) = (6 : Int32) then (bnd (F_X12_wrong 2 σ) (fun v τ => (F_X12_tellRule_16 v τ))) else (bnd (F_X12_pass  σ) (fun v τ => (F_X12_tellRule_21 v τ)))) else none)
set_option maxRecDepth 20000 in
theorem zb_X12_tellRule {S : Shp} {σ : Mm} {r : Int32 × Mm} (h : F_X12_tellRule σ = some r) : Z m_X12_tellRule S (Qi r) 0 [(0, .ref (sL S 3 0 0))] [] σ := by
  unfold F_X12_tellRule at h
  obtain ⟨g1, h⟩ := gd h
  refine z_aload_n dX12_tellRule_0 rfl 0 rfl ?_
  refine gf_12_88 rfl dX12_tellRule_1 ?_
  refine z_iconst (v := 1) dX12_tellRule_4 (by decide) ?_
  refine ia_3_25 (inb_in g1) dX12_tellRule_5 ?_
  refine z_bipush (v := 6) dX12_tellRule_6 (by decide) ?_
  refine z_icmp_ne (tgt := 17) dX12_tellRule_8 (by decide) (fun q => ?_) (fun q => ?_)
  · have h := (if_neg q).symm.trans h
    refine z_aload_n dX12_tellRule_17 rfl 0 rfl ?_
    obtain ⟨v, τ, hc, h⟩ := bnd_e h
    refine z_callV (M' := m_X12_pass) (t := 3) (i := 0) (k := 0) (As := []) (rest := []) kl_12_317 oy_X12_pass ⟨Nat.le_of_ble_eq_true rfl, Nat.le_of_ble_eq_true rfl⟩ rfl rfl rfl rfl (Nat.le_of_ble_eq_true rfl) rfl dX12_tellRule_18 (c_X12_pass hc) (fun v2 τ2 hq => ?_)
    obtain ⟨rfl, hτ⟩ := hq
    subst τ2
    change Z _ _ _ _ _ [.int (v)] _
    exact zb_X12_tellRule_21 h
  · have h := (if_pos q).symm.trans h
    refine z_aload_n dX12_tellRule_11 rfl 0 rfl ?_
    refine z_iconst (v := 2) dX12_tellRule_12 (by decide) ?_
    obtain ⟨v, τ, hc, h⟩ := bnd_e h
    refine z_callV (M' := m_X12_wrong) (t := 3) (i := 0) (k := 0) (As := [.int (2)]) (rest := []) kl_12_314 oy_X12_wrong ⟨Nat.le_of_ble_eq_true rfl, Nat.le_of_ble_eq_true rfl⟩ rfl rfl rfl rfl (Nat.le_of_ble_eq_true rfl) rfl dX12_tellRule_13 (c_X12_wrong hc) (fun v2 τ2 hq => ?_)
    obtain ⟨rfl, hτ⟩ := hq
    subst τ2
    change Z _ _ _ _ _ [.int (v)] _
    refine Z.lv [] rfl ?_
    exact zb_X12_tellRule_16 h
/-- SkyStonesModel.tellRule()Z -/
theorem c_X12_tellRule {S : Shp} {σ : Mm} {r : Int32 × Mm} (h : F_X12_tellRule σ = some r) : Ct m_X12_tellRule S [.ref (sL S 3 0 0)] σ (Qi r) := Ct.of (by decide +kernel) (Nat.le_of_ble_eq_true rfl) (zb_X12_tellRule h)
def F_X12_tellSky_149 (σ : Mm) : Option (Int32 × Mm) := some (1, σ)
set_option maxRecDepth 20000 in
theorem zb_X12_tellSky_149 {S : Shp} {σ : Mm} {r : Int32 × Mm} (h : F_X12_tellSky_149 σ = some r) : Z m_X12_tellSky S (Qi r) 149 [] [] σ := by
  unfold F_X12_tellSky_149 at h
  refine z_iconst (v := 1) dX12_tellSky_149 (by decide) ?_
  cases h
  exact z_ireturn dX12_tellSky_150 rfl rfl ⟨rfl, rfl⟩
def F_X12_tellSky_139 (σ : Mm) : Option (Int32 × Mm) := (if inb 1 5 = true then (if inb 1 5 = true then (F_X12_tellSky_149 (setA σ 3 0 21 (upd (mA σ 3 0 21) (1 : Int32).toNatClampNeg ((mA σ 3 0 21 (1 : Int32).toNatClampNeg) + (1 : Int32))))) else none) else none)
set_option maxRecDepth 20000 in
theorem zb_X12_tellSky_139 {S : Shp} {σ : Mm} {r : Int32 × Mm} (h : F_X12_tellSky_139 σ = some r) : Z m_X12_tellSky S (Qi r) 139 [(0, .ref (sL S 3 0 0))] [] σ := by
  unfold F_X12_tellSky_139 at h
  obtain ⟨g10, h⟩ := gd h
  refine z_aload_n dX12_tellSky_139 rfl 0 rfl ?_
  refine gf_12_76 rfl dX12_tellSky_140 ?_
  refine z_iconst (v := 1) dX12_tellSky_143 (by decide) ?_
  refine z_dup2_11 dX12_tellSky_144 rfl rfl ?_
  obtain ⟨g11, h⟩ := gd h
  refine ia_3_21 (inb_in g10) dX12_tellSky_145 ?_
  refine z_iconst (v := 1) dX12_tellSky_146 (by decide) ?_
  refine z_iadd dX12_tellSky_147 ?_
  refine is_3_21 (inb_in g11) dX12_tellSky_148 ?_
  refine Z.lv [] rfl ?_
  exact zb_X12_tellSky_149 h
def F_X12_tellSky_127 (x1 : Int32) (σ : Mm) : Option (Int32 × Mm) := (if inb 1 5 = true then (if inb x1 25 = true then (F_X12_tellSky_139 (setA σ 3 0 24 (upd (mA σ 3 0 24) x1.toNatClampNeg (mA σ 3 0 28 (1 : Int32).toNatClampNeg)))) else none) else none)
set_option maxRecDepth 20000 in
theorem zb_X12_tellSky_127 {S : Shp} {x1 : Int32} {σ : Mm} {r : Int32 × Mm} (h : F_X12_tellSky_127 x1 σ = some r) : Z m_X12_tellSky S (Qi r) 127 [(0, .ref (sL S 3 0 0)), (1, .int (x1))] [] σ := by
  unfold F_X12_tellSky_127 at h
  obtain ⟨g8, h⟩ := gd h
  refine z_aload_n dX12_tellSky_127 rfl 0 rfl ?_
  refine gf_12_85 rfl dX12_tellSky_128 ?_
  refine z_iload_n dX12_tellSky_131 rfl 1 rfl ?_
  refine z_aload_n dX12_tellSky_132 rfl 0 rfl ?_
  refine gf_12_97 rfl dX12_tellSky_133 ?_
  refine z_iconst (v := 1) dX12_tellSky_136 (by decide) ?_
  obtain ⟨g9, h⟩ := gd h
  refine ia_3_28 (inb_in g8) dX12_tellSky_137 ?_
  refine is_3_24 (inb_in g9) dX12_tellSky_138 ?_
  refine Z.lv [0] rfl ?_
  exact zb_X12_tellSky_139 h
def F_X12_tellSky_112 (x1 : Int32) (s0 : Int32) (σ : Mm) : Option (Int32 × Mm) := (if s0 = 0 then some (0, σ) else (if inb x1 25 = true then (F_X12_tellSky_127 x1 (setA σ 3 0 23 (upd (mA σ 3 0 23) x1.toNatClampNeg (mA σ 3 0 0 58)))) else none))
set_option maxRecDepth 20000 in
theorem zb_X12_tellSky_112 {S : Shp} {x1 : Int32} {s0 : Int32} {σ : Mm} {r : Int32 × Mm} (h : F_X12_tellSky_112 x1 s0 σ = some r) : Z m_X12_tellSky S (Qi r) 112 [(0, .ref (sL S 3 0 0)), (1, .int (x1))] [.int (s0)] σ := by
  unfold F_X12_tellSky_112 at h
  refine z_if_ne (tgt := 117) dX12_tellSky_112 (by decide) (fun q => ?_) (fun q => ?_)
  · have h := (if_neg q).symm.trans h
    obtain ⟨g7, h⟩ := gd h
    refine z_aload_n dX12_tellSky_117 rfl 0 rfl ?_
    refine gf_12_82 rfl dX12_tellSky_118 ?_
    refine z_iload_n dX12_tellSky_121 rfl 1 rfl ?_
    refine z_aload_n dX12_tellSky_122 rfl 0 rfl ?_
    refine gf_12_340 rfl dX12_tellSky_123 ?_
    refine is_3_23 (inb_in g7) dX12_tellSky_126 ?_
    exact zb_X12_tellSky_127 h
  · have h := (if_pos q).symm.trans h
    refine z_iconst (v := 0) dX12_tellSky_115 (by decide) ?_
    cases h
    exact z_ireturn dX12_tellSky_116 rfl rfl ⟨rfl, rfl⟩
def F_X12_tellSky_105 (x1 : Int32) (s0 : Int32) (σ : Mm) : Option (Int32 × Mm) := (if s0 = 0 then some (0, σ) else (bnd (F_X12_expr  σ) (fun v τ => (F_X12_tellSky_112 x1 v τ))))
set_option maxRecDepth 20000 in
theorem zb_X12_tellSky_105 {S : Shp} {x1 : Int32} {s0 : Int32} {σ : Mm} {r : Int32 × Mm} (h : F_X12_tellSky_105 x1 s0 σ = some r) : Z m_X12_tellSky S (Qi r) 105 [(0, .ref (sL S 3 0 0)), (1, .int (x1))] [.int (s0)] σ := by
  unfold F_X12_tellSky_105 at h
  refine z_if_eq (tgt := 115) dX12_tellSky_105 (by decide) (fun q => ?_) (fun q => ?_)
  · have h := (if_pos q).symm.trans h
    refine z_iconst (v := 0) dX12_tellSky_115 (by decide) ?_
    cases h
    exact z_ireturn dX12_tellSky_116 rfl rfl ⟨rfl, rfl⟩
  · have h := (if_neg q).symm.trans h
    refine z_aload_n dX12_tellSky_108 rfl 0 rfl ?_
    obtain ⟨v, τ, hc, h⟩ := bnd_e h
    refine z_callV (M' := m_X12_expr) (t := 3) (i := 0) (k := 0) (As := []) (rest := []) kl_12_361 oy_X12_expr ⟨Nat.le_of_ble_eq_true rfl, Nat.le_of_ble_eq_true rfl⟩ rfl rfl rfl rfl (Nat.le_of_ble_eq_true rfl) rfl dX12_tellSky_109 (c_X12_expr hc) (fun v2 τ2 hq => ?_)
    obtain ⟨rfl, hτ⟩ := hq
    subst τ2
    change Z _ _ _ _ _ [.int (v)] _
    exact zb_X12_tellSky_112 h
def F_X12_tellSky_100 (s0 : Int32) (σ : Mm) : Option (Int32 × Mm) := (if isB s0 = true then some (s0, σ) else none)
set_option maxRecDepth 20000 in
theorem zb_X12_tellSky_100 {S : Shp} {s0 : Int32} {σ : Mm} {r : Int32 × Mm} (h : F_X12_tellSky_100 s0 σ = some r) : Z m_X12_tellSky S (Qi r) 100 [] [.int (s0)] σ := by
  unfold F_X12_tellSky_100 at h
  obtain ⟨g6, h⟩ := gd h
  cases h
  exact z_ireturn dX12_tellSky_100 rfl (isB_n g6) ⟨rfl, rfl⟩
def F_X12_tellSky_92 (x1 : Int32) (s0 : Int32) (σ : Mm) : Option (Int32 × Mm) := (if s0 = 0 then (bnd (F_X12_wrong 1 σ) (fun v τ => (F_X12_tellSky_100 v τ))) else (bnd (F_X12_pass  σ) (fun v τ => (F_X12_tellSky_105 x1 v τ))))
set_option maxRecDepth 20000 in
theorem zb_X12_tellSky_92 {S : Shp} {x1 : Int32} {s0 : Int32} {σ : Mm} {r : Int32 × Mm} (h : F_X12_tellSky_92 x1 s0 σ = some r) : Z m_X12_tellSky S (Qi r) 92 [(0, .ref (sL S 3 0 0)), (1, .int (x1))] [.int (s0)] σ := by
  unfold F_X12_tellSky_92 at h
  refine z_if_ne (tgt := 101) dX12_tellSky_92 (by decide) (fun q => ?_) (fun q => ?_)
  · have h := (if_neg q).symm.trans h
    refine z_aload_n dX12_tellSky_101 rfl 0 rfl ?_
    obtain ⟨v, τ, hc, h⟩ := bnd_e h
    refine z_callV (M' := m_X12_pass) (t := 3) (i := 0) (k := 0) (As := []) (rest := []) kl_12_317 oy_X12_pass ⟨Nat.le_of_ble_eq_true rfl, Nat.le_of_ble_eq_true rfl⟩ rfl rfl rfl rfl (Nat.le_of_ble_eq_true rfl) rfl dX12_tellSky_102 (c_X12_pass hc) (fun v2 τ2 hq => ?_)
    obtain ⟨rfl, hτ⟩ := hq
    subst τ2
    change Z _ _ _ _ _ [.int (v)] _
    exact zb_X12_tellSky_105 h
  · have h := (if_pos q).symm.trans h
    refine z_aload_n dX12_tellSky_95 rfl 0 rfl ?_
    refine z_iconst (v := 1) dX12_tellSky_96 (by decide) ?_
    obtain ⟨v, τ, hc, h⟩ := bnd_e h
    refine z_callV (M' := m_X12_wrong) (t := 3) (i := 0) (k := 0) (As := [.int (1)]) (rest := []) kl_12_314 oy_X12_wrong ⟨Nat.le_of_ble_eq_true rfl, Nat.le_of_ble_eq_true rfl⟩ rfl rfl rfl rfl (Nat.le_of_ble_eq_true rfl) rfl dX12_tellSky_97 (c_X12_wrong hc) (fun v2 τ2 hq => ?_)
    obtain ⟨rfl, hτ⟩ := hq
    subst τ2
    change Z _ _ _ _ _ [.int (v)] _
    refine Z.lv [] rfl ?_
    exact zb_X12_tellSky_100 h
def F_X12_tellSky_86 (x1 : Int32) (σ : Mm) : Option (Int32 × Mm) := (bnd (F_X12_isSign 61 σ) (fun v τ => (F_X12_tellSky_92 x1 v τ)))
set_option maxRecDepth 20000 in
theorem zb_X12_tellSky_86 {S : Shp} {x1 : Int32} {σ : Mm} {r : Int32 × Mm} (h : F_X12_tellSky_86 x1 σ = some r) : Z m_X12_tellSky S (Qi r) 86 [(0, .ref (sL S 3 0 0)), (1, .int (x1))] [] σ := by
  unfold F_X12_tellSky_86 at h
  refine z_aload_n dX12_tellSky_86 rfl 0 rfl ?_
  refine z_bipush (v := 61) dX12_tellSky_87 (by decide) ?_
  obtain ⟨v, τ, hc, h⟩ := bnd_e h
  refine z_callV (M' := m_X12_isSign) (t := 3) (i := 0) (k := 0) (As := [.int (61)]) (rest := []) kl_12_343 oy_X12_isSign ⟨Nat.le_of_ble_eq_true rfl, Nat.le_of_ble_eq_true rfl⟩ rfl rfl rfl rfl (Nat.le_of_ble_eq_true rfl) rfl dX12_tellSky_89 (c_X12_isSign hc) (fun v2 τ2 hq => ?_)
  obtain ⟨rfl, hτ⟩ := hq
  subst τ2
  change Z _ _ _ _ _ [.int (v)] _
  exact zb_X12_tellSky_92 h
def F_X12_tellSky_71 (x1 : Int32) (s0 : Int32) (σ : Mm) : Option (Int32 × Mm) := (if s0 = 0 then some (0, σ) else (if inb x1 25 = true then (F_X12_tellSky_86 x1 (setA σ 3 0 22 (upd (mA σ 3 0 22) x1.toNatClampNeg (mA σ 3 0 0 55)))) else none))
set_option maxRecDepth 20000 in
theorem zb_X12_tellSky_71 {S : Shp} {x1 : Int32} {s0 : Int32} {σ : Mm} {r : Int32 × Mm} (h : F_X12_tellSky_71 x1 s0 σ = some r) : Z m_X12_tellSky S (Qi r) 71 [(0, .ref (sL S 3 0 0)), (1, .int (x1))] [.int (s0)] σ := by
  unfold F_X12_tellSky_71 at h
  refine z_if_ne (tgt := 76) dX12_tellSky_71 (by decide) (fun q => ?_) (fun q => ?_)
  · have h := (if_neg q).symm.trans h
    obtain ⟨g5, h⟩ := gd h
    refine z_aload_n dX12_tellSky_76 rfl 0 rfl ?_
    refine gf_12_79 rfl dX12_tellSky_77 ?_
    refine z_iload_n dX12_tellSky_80 rfl 1 rfl ?_
    refine z_aload_n dX12_tellSky_81 rfl 0 rfl ?_
    refine gf_12_324 rfl dX12_tellSky_82 ?_
    refine is_3_22 (inb_in g5) dX12_tellSky_85 ?_
    exact zb_X12_tellSky_86 h
  · have h := (if_pos q).symm.trans h
    refine z_iconst (v := 0) dX12_tellSky_74 (by decide) ?_
    cases h
    exact z_ireturn dX12_tellSky_75 rfl rfl ⟨rfl, rfl⟩
def F_X12_tellSky_61 (x1 : Int32) (s0 : Int32) (σ : Mm) : Option (Int32 × Mm) := (if s0 = 0 then some (0, σ) else (bnd (F_X12_takesInt 0 20 σ) (fun v τ => (F_X12_tellSky_71 x1 v τ))))
set_option maxRecDepth 20000 in
theorem zb_X12_tellSky_61 {S : Shp} {x1 : Int32} {s0 : Int32} {σ : Mm} {r : Int32 × Mm} (h : F_X12_tellSky_61 x1 s0 σ = some r) : Z m_X12_tellSky S (Qi r) 61 [(0, .ref (sL S 3 0 0)), (1, .int (x1))] [.int (s0)] σ := by
  unfold F_X12_tellSky_61 at h
  refine z_if_eq (tgt := 74) dX12_tellSky_61 (by decide) (fun q => ?_) (fun q => ?_)
  · have h := (if_pos q).symm.trans h
    refine z_iconst (v := 0) dX12_tellSky_74 (by decide) ?_
    cases h
    exact z_ireturn dX12_tellSky_75 rfl rfl ⟨rfl, rfl⟩
  · have h := (if_neg q).symm.trans h
    refine z_aload_n dX12_tellSky_64 rfl 0 rfl ?_
    refine z_iconst (v := 0) dX12_tellSky_65 (by decide) ?_
    refine z_bipush (v := 20) dX12_tellSky_66 (by decide) ?_
    obtain ⟨v, τ, hc, h⟩ := bnd_e h
    refine z_callV (M' := m_X12_takesInt) (t := 3) (i := 0) (k := 0) (As := [.int (0), .int (20)]) (rest := []) kl_12_369 oy_X12_takesInt ⟨Nat.le_of_ble_eq_true rfl, Nat.le_of_ble_eq_true rfl⟩ rfl rfl rfl rfl (Nat.le_of_ble_eq_true rfl) rfl dX12_tellSky_68 (c_X12_takesInt hc) (fun v2 τ2 hq => ?_)
    obtain ⟨rfl, hτ⟩ := hq
    subst τ2
    change Z _ _ _ _ _ [.int (v)] _
    exact zb_X12_tellSky_71 h
def F_X12_tellSky_54 (x1 : Int32) (s0 : Int32) (σ : Mm) : Option (Int32 × Mm) := (if s0 = 0 then (F_X12_tellSky_86 x1 σ) else (bnd (F_X12_pass  σ) (fun v τ => (F_X12_tellSky_61 x1 v τ))))
set_option maxRecDepth 20000 in
theorem zb_X12_tellSky_54 {S : Shp} {x1 : Int32} {s0 : Int32} {σ : Mm} {r : Int32 × Mm} (h : F_X12_tellSky_54 x1 s0 σ = some r) : Z m_X12_tellSky S (Qi r) 54 [(0, .ref (sL S 3 0 0)), (1, .int (x1))] [.int (s0)] σ := by
  unfold F_X12_tellSky_54 at h
  refine z_if_eq (tgt := 86) dX12_tellSky_54 (by decide) (fun q => ?_) (fun q => ?_)
  · have h := (if_pos q).symm.trans h
    exact zb_X12_tellSky_86 h
  · have h := (if_neg q).symm.trans h
    refine z_aload_n dX12_tellSky_57 rfl 0 rfl ?_
    obtain ⟨v, τ, hc, h⟩ := bnd_e h
    refine z_callV (M' := m_X12_pass) (t := 3) (i := 0) (k := 0) (As := []) (rest := []) kl_12_317 oy_X12_pass ⟨Nat.le_of_ble_eq_true rfl, Nat.le_of_ble_eq_true rfl⟩ rfl rfl rfl rfl (Nat.le_of_ble_eq_true rfl) rfl dX12_tellSky_58 (c_X12_pass hc) (fun v2 τ2 hq => ?_)
    obtain ⟨rfl, hτ⟩ := hq
    subst τ2
    change Z _ _ _ _ _ [.int (v)] _
    exact zb_X12_tellSky_61 h
def F_X12_tellSky_49 (x1 : Int32) (σ : Mm) : Option (Int32 × Mm) := (bnd (F_X12_isWord 5 σ) (fun v τ => (F_X12_tellSky_54 x1 v τ)))
set_option maxRecDepth 20000 in
theorem zb_X12_tellSky_49 {S : Shp} {x1 : Int32} {σ : Mm} {r : Int32 × Mm} (h : F_X12_tellSky_49 x1 σ = some r) : Z m_X12_tellSky S (Qi r) 49 [(0, .ref (sL S 3 0 0)), (1, .int (x1))] [] σ := by
  unfold F_X12_tellSky_49 at h
  refine z_aload_n dX12_tellSky_49 rfl 0 rfl ?_
  refine z_iconst (v := 5) dX12_tellSky_50 (by decide) ?_
  obtain ⟨v, τ, hc, h⟩ := bnd_e h
  refine z_callV (M' := m_X12_isWord) (t := 3) (i := 0) (k := 0) (As := [.int (5)]) (rest := []) kl_12_358 oy_X12_isWord ⟨Nat.le_of_ble_eq_true rfl, Nat.le_of_ble_eq_true rfl⟩ rfl rfl rfl rfl (Nat.le_of_ble_eq_true rfl) rfl dX12_tellSky_51 (c_X12_isWord hc) (fun v2 τ2 hq => ?_)
  obtain ⟨rfl, hτ⟩ := hq
  subst τ2
  change Z _ _ _ _ _ [.int (v)] _
  exact zb_X12_tellSky_54 h
def F_X12_tellSky_37 (x1 : Int32) (s0 : Int32) (σ : Mm) : Option (Int32 × Mm) := (if s0 = 0 then some (0, σ) else (if inb x1 25 = true then (F_X12_tellSky_49 x1 (setA σ 3 0 22 (upd (mA σ 3 0 22) x1.toNatClampNeg 0))) else none))
set_option maxRecDepth 20000 in
theorem zb_X12_tellSky_37 {S : Shp} {x1 : Int32} {s0 : Int32} {σ : Mm} {r : Int32 × Mm} (h : F_X12_tellSky_37 x1 s0 σ = some r) : Z m_X12_tellSky S (Qi r) 37 [(0, .ref (sL S 3 0 0)), (1, .int (x1))] [.int (s0)] σ := by
  unfold F_X12_tellSky_37 at h
  refine z_if_ne (tgt := 42) dX12_tellSky_37 (by decide) (fun q => ?_) (fun q => ?_)
  · have h := (if_neg q).symm.trans h
    obtain ⟨g4, h⟩ := gd h
    refine z_aload_n dX12_tellSky_42 rfl 0 rfl ?_
    refine gf_12_79 rfl dX12_tellSky_43 ?_
    refine z_iload_n dX12_tellSky_46 rfl 1 rfl ?_
    refine z_iconst (v := 0) dX12_tellSky_47 (by decide) ?_
    refine is_3_22 (inb_in g4) dX12_tellSky_48 ?_
    exact zb_X12_tellSky_49 h
  · have h := (if_pos q).symm.trans h
    refine z_iconst (v := 0) dX12_tellSky_40 (by decide) ?_
    cases h
    exact z_ireturn dX12_tellSky_41 rfl rfl ⟨rfl, rfl⟩
def F_X12_tellSky_29 (x1 : Int32) (s0 : Int32) (σ : Mm) : Option (Int32 × Mm) := (if s0 = 0 then some (0, σ) else (bnd (F_X12_names ((-1)) σ) (fun v τ => (F_X12_tellSky_37 x1 v τ))))
set_option maxRecDepth 20000 in
theorem zb_X12_tellSky_29 {S : Shp} {x1 : Int32} {s0 : Int32} {σ : Mm} {r : Int32 × Mm} (h : F_X12_tellSky_29 x1 s0 σ = some r) : Z m_X12_tellSky S (Qi r) 29 [(0, .ref (sL S 3 0 0)), (1, .int (x1))] [.int (s0)] σ := by
  unfold F_X12_tellSky_29 at h
  refine z_if_eq (tgt := 40) dX12_tellSky_29 (by decide) (fun q => ?_) (fun q => ?_)
  · have h := (if_pos q).symm.trans h
    refine z_iconst (v := 0) dX12_tellSky_40 (by decide) ?_
    cases h
    exact z_ireturn dX12_tellSky_41 rfl rfl ⟨rfl, rfl⟩
  · have h := (if_neg q).symm.trans h
    refine z_aload_n dX12_tellSky_32 rfl 0 rfl ?_
    refine z_iconst (v := (-1)) dX12_tellSky_33 (by decide) ?_
    obtain ⟨v, τ, hc, h⟩ := bnd_e h
    refine z_callV (M' := m_X12_names) (t := 3) (i := 0) (k := 0) (As := [.int ((-1))]) (rest := []) kl_12_367 oy_X12_names ⟨Nat.le_of_ble_eq_true rfl, Nat.le_of_ble_eq_true rfl⟩ rfl rfl rfl rfl (Nat.le_of_ble_eq_true rfl) rfl dX12_tellSky_34 (c_X12_names hc) (fun v2 τ2 hq => ?_)
    obtain ⟨rfl, hτ⟩ := hq
    subst τ2
    change Z _ _ _ _ _ [.int (v)] _
    exact zb_X12_tellSky_37 h
def F_X12_tellSky_25 (x1 : Int32) (σ : Mm) : Option (Int32 × Mm) := (bnd (F_X12_pass  σ) (fun v τ => (F_X12_tellSky_29 x1 v τ)))
set_option maxRecDepth 20000 in
theorem zb_X12_tellSky_25 {S : Shp} {x1 : Int32} {σ : Mm} {r : Int32 × Mm} (h : F_X12_tellSky_25 x1 σ = some r) : Z m_X12_tellSky S (Qi r) 25 [(0, .ref (sL S 3 0 0)), (1, .int (x1))] [] σ := by
  unfold F_X12_tellSky_25 at h
  refine z_aload_n dX12_tellSky_25 rfl 0 rfl ?_
  obtain ⟨v, τ, hc, h⟩ := bnd_e h
  refine z_callV (M' := m_X12_pass) (t := 3) (i := 0) (k := 0) (As := []) (rest := []) kl_12_317 oy_X12_pass ⟨Nat.le_of_ble_eq_true rfl, Nat.le_of_ble_eq_true rfl⟩ rfl rfl rfl rfl (Nat.le_of_ble_eq_true rfl) rfl dX12_tellSky_26 (c_X12_pass hc) (fun v2 τ2 hq => ?_)
  obtain ⟨rfl, hτ⟩ := hq
  subst τ2
  change Z _ _ _ _ _ [.int (v)] _
  exact zb_X12_tellSky_29 h
def F_X12_tellSky_15 (s0 : Int32) (σ : Mm) : Option (Int32 × Mm) := (if isB s0 = true then some (s0, σ) else none)
set_option maxRecDepth 20000 in
theorem zb_X12_tellSky_15 {S : Shp} {s0 : Int32} {σ : Mm} {r : Int32 × Mm} (h : F_X12_tellSky_15 s0 σ = some r) : Z m_X12_tellSky S (Qi r) 15 [] [.int (s0)] σ := by
  unfold F_X12_tellSky_15 at h
  obtain ⟨g3, h⟩ := gd h
  cases h
  exact z_ireturn dX12_tellSky_15 rfl (isB_n g3) ⟨rfl, rfl⟩
def F_X12_tellSky (σ : Mm) : Option (Int32 × Mm) := (if inb 1 5 = true then (if (mA σ 3 0 21 (1 : Int32).toNatClampNeg) = (5 : Int32) then (bnd (F_X12_wrong 2 σ) (fun v τ => (F_X12_tellSky_15 v τ))) else (if inb 1 5 = true then (F_X12_tellSky_25 ((5 : Int32) + (mA σ 3 0 21 (1 : Int32).toNatClampNeg)) σ) else none)) else none)
set_option maxRecDepth 20000 in
theorem zb_X12_tellSky {S : Shp} {σ : Mm} {r : Int32 × Mm} (h : F_X12_tellSky σ = some r) : Z m_X12_tellSky S (Qi r) 0 [(0, .ref (sL S 3 0 0))] [] σ := by
  unfold F_X12_tellSky at h
  obtain ⟨g1, h⟩ := gd h
  refine z_aload_n dX12_tellSky_0 rfl 0 rfl ?_
  refine gf_12_76 rfl dX12_tellSky_1 ?_
  refine z_iconst (v := 1) dX12_tellSky_4 (by decide) ?_
  refine ia_3_21 (inb_in g1) dX12_tellSky_5 ?_
  refine z_iconst (v := 5) dX12_tellSky_6 (by decide) ?_
  refine z_icmp_ne (tgt := 16) dX12_tellSky_7 (by decide) (fun q => ?_) (fun q => ?_)
  · have h := (if_neg q).symm.trans h
    obtain ⟨g2, h⟩ := gd h
    refine z_iconst (v := 5) dX12_tellSky_16 (by decide) ?_
    refine z_aload_n dX12_tellSky_17 rfl 0 rfl ?_
    refine gf_12_76 rfl dX12_tellSky_18 ?_
    refine z_iconst (v := 1) dX12_tellSky_21 (by decide) ?_
    refine ia_3_21 (inb_in g2) dX12_tellSky_22 ?_
    refine z_iadd dX12_tellSky_23 ?_
    refine z_istore_n (lv' := [(0, .ref (sL S 3 0 0)), (1, .int ((5 : Int32) + (mA σ 3 0 21 (1 : Int32).toNatClampNeg)))]) dX12_tellSky_24 rfl (by decide) [1, 0] rfl ?_
    exact zb_X12_tellSky_25 h
  · have h := (if_pos q).symm.trans h
    refine z_aload_n dX12_tellSky_10 rfl 0 rfl ?_
    refine z_iconst (v := 2) dX12_tellSky_11 (by decide) ?_
    obtain ⟨v, τ, hc, h⟩ := bnd_e h
    refine z_callV (M' := m_X12_wrong) (t := 3) (i := 0) (k := 0) (As := [.int (2)]) (rest := []) kl_12_314 oy_X12_wrong ⟨Nat.le_of_ble_eq_true rfl, Nat.le_of_ble_eq_true rfl⟩ rfl rfl rfl rfl (Nat.le_of_ble_eq_true rfl) rfl dX12_tellSky_12 (c_X12_wrong hc) (fun v2 τ2 hq => ?_)
    obtain ⟨rfl, hτ⟩ := hq
    subst τ2
    change Z _ _ _ _ _ [.int (v)] _
    refine Z.lv [] rfl ?_
    exact zb_X12_tellSky_15 h
/-- SkyStonesModel.tellSky()Z -/
theorem c_X12_tellSky {S : Shp} {σ : Mm} {r : Int32 × Mm} (h : F_X12_tellSky σ = some r) : Ct m_X12_tellSky S [.ref (sL S 3 0 0)] σ (Qi r) := Ct.of (by decide +kernel) (Nat.le_of_ble_eq_true rfl) (zb_X12_tellSky h)
def F_X12_tellThing_201 (σ : Mm) : Option (Int32 × Mm) := some (1, σ)
set_option maxRecDepth 20000 in
theorem zb_X12_tellThing_201 {S : Shp} {σ : Mm} {r : Int32 × Mm} (h : F_X12_tellThing_201 σ = some r) : Z m_X12_tellThing S (Qi r) 201 [] [] σ := by
  unfold F_X12_tellThing_201 at h
  refine z_iconst (v := 1) dX12_tellThing_201 (by decide) ?_
  cases h
  exact z_ireturn dX12_tellThing_202 rfl rfl ⟨rfl, rfl⟩
def F_X12_tellThing_191 (σ : Mm) : Option (Int32 × Mm) := (if inb 1 5 = true then (if inb 1 5 = true then (F_X12_tellThing_201 (setA σ 3 0 8 (upd (mA σ 3 0 8) (1 : Int32).toNatClampNeg ((mA σ 3 0 8 (1 : Int32).toNatClampNeg) + (1 : Int32))))) else none) else none)
set_option maxRecDepth 20000 in
theorem zb_X12_tellThing_191 {S : Shp} {σ : Mm} {r : Int32 × Mm} (h : F_X12_tellThing_191 σ = some r) : Z m_X12_tellThing S (Qi r) 191 [(0, .ref (sL S 3 0 0))] [] σ := by
  unfold F_X12_tellThing_191 at h
  obtain ⟨g14, h⟩ := gd h
  refine z_aload_n dX12_tellThing_191 rfl 0 rfl ?_
  refine gf_12_37 rfl dX12_tellThing_192 ?_
  refine z_iconst (v := 1) dX12_tellThing_195 (by decide) ?_
  refine z_dup2_11 dX12_tellThing_196 rfl rfl ?_
  obtain ⟨g15, h⟩ := gd h
  refine ia_3_8 (inb_in g14) dX12_tellThing_197 ?_
  refine z_iconst (v := 1) dX12_tellThing_198 (by decide) ?_
  refine z_iadd dX12_tellThing_199 ?_
  refine is_3_8 (inb_in g15) dX12_tellThing_200 ?_
  refine Z.lv [] rfl ?_
  exact zb_X12_tellThing_201 h
def F_X12_tellThing_184 (x2 : Int32) (σ : Mm) : Option (Int32 × Mm) := (if inb x2 70 = true then (F_X12_tellThing_191 (setA σ 3 0 13 (upd (mA σ 3 0 13) x2.toNatClampNeg ((-1))))) else none)
set_option maxRecDepth 20000 in
theorem zb_X12_tellThing_184 {S : Shp} {x2 : Int32} {σ : Mm} {r : Int32 × Mm} (h : F_X12_tellThing_184 x2 σ = some r) : Z m_X12_tellThing S (Qi r) 184 [(0, .ref (sL S 3 0 0)), (2, .int (x2))] [] σ := by
  unfold F_X12_tellThing_184 at h
  obtain ⟨g13, h⟩ := gd h
  refine z_aload_n dX12_tellThing_184 rfl 0 rfl ?_
  refine gf_12_52 rfl dX12_tellThing_185 ?_
  refine z_iload_n dX12_tellThing_188 rfl 1 rfl ?_
  refine z_iconst (v := (-1)) dX12_tellThing_189 (by decide) ?_
  refine is_3_13 (inb_in g13) dX12_tellThing_190 ?_
  refine Z.lv [0] rfl ?_
  exact zb_X12_tellThing_191 h
def F_X12_tellThing_177 (x1 : Int32) (x2 : Int32) (σ : Mm) : Option (Int32 × Mm) := (if inb x2 70 = true then (F_X12_tellThing_184 x2 (setA σ 3 0 9 (upd (mA σ 3 0 9) x2.toNatClampNeg (vp_nar .boolean x1)))) else none)
set_option maxRecDepth 20000 in
theorem zb_X12_tellThing_177 {S : Shp} {x1 : Int32} {x2 : Int32} {σ : Mm} {r : Int32 × Mm} (h : F_X12_tellThing_177 x1 x2 σ = some r) : Z m_X12_tellThing S (Qi r) 177 [(0, .ref (sL S 3 0 0)), (1, .int (x1)), (2, .int (x2))] [] σ := by
  unfold F_X12_tellThing_177 at h
  obtain ⟨g12, h⟩ := gd h
  refine z_aload_n dX12_tellThing_177 rfl 0 rfl ?_
  refine gf_12_40 rfl dX12_tellThing_178 ?_
  refine z_iload_n dX12_tellThing_181 rfl 2 rfl ?_
  refine z_iload_n dX12_tellThing_182 rfl 1 rfl ?_
  refine is_3_9 (inb_in g12) dX12_tellThing_183 ?_
  refine Z.lv [0, 2] rfl ?_
  exact zb_X12_tellThing_184 h
def F_X12_tellThing_162 (x1 : Int32) (x2 : Int32) (s0 : Int32) (σ : Mm) : Option (Int32 × Mm) := (if s0 = 0 then some (0, σ) else (if inb x2 70 = true then (F_X12_tellThing_177 x1 x2 (setA σ 3 0 12 (upd (mA σ 3 0 12) x2.toNatClampNeg (mA σ 3 0 0 55)))) else none))
set_option maxRecDepth 20000 in
theorem zb_X12_tellThing_162 {S : Shp} {x1 : Int32} {x2 : Int32} {s0 : Int32} {σ : Mm} {r : Int32 × Mm} (h : F_X12_tellThing_162 x1 x2 s0 σ = some r) : Z m_X12_tellThing S (Qi r) 162 [(0, .ref (sL S 3 0 0)), (1, .int (x1)), (2, .int (x2))] [.int (s0)] σ := by
  unfold F_X12_tellThing_162 at h
  refine z_if_ne (tgt := 167) dX12_tellThing_162 (by decide) (fun q => ?_) (fun q => ?_)
  · have h := (if_neg q).symm.trans h
    obtain ⟨g11, h⟩ := gd h
    refine z_aload_n dX12_tellThing_167 rfl 0 rfl ?_
    refine gf_12_49 rfl dX12_tellThing_168 ?_
    refine z_iload_n dX12_tellThing_171 rfl 2 rfl ?_
    refine z_aload_n dX12_tellThing_172 rfl 0 rfl ?_
    refine gf_12_324 rfl dX12_tellThing_173 ?_
    refine is_3_12 (inb_in g11) dX12_tellThing_176 ?_
    exact zb_X12_tellThing_177 h
  · have h := (if_pos q).symm.trans h
    refine z_iconst (v := 0) dX12_tellThing_165 (by decide) ?_
    cases h
    exact z_ireturn dX12_tellThing_166 rfl rfl ⟨rfl, rfl⟩
def F_X12_tellThing_148 (rc104 : Int32 → Int32 → Int32 → Int32 → Mm → Option (Int32 × Mm)) (x1 : Int32) (x2 : Int32) (x3 : Int32) (x4 : Int32) (σ : Mm) : Option (Int32 × Mm) := (rc104 x1 x2 x3 (x4 + 1) σ)
set_option maxRecDepth 20000 in
theorem zb_X12_tellThing_148 {S : Shp} {rc104 : Int32 → Int32 → Int32 → Int32 → Mm → Option (Int32 × Mm)} (hrc104 : ∀ {x1 : Int32} {x2 : Int32} {x3 : Int32} {x4 : Int32} {σ : Mm} {r : Int32 × Mm}, rc104 x1 x2 x3 x4 σ = some r → Z m_X12_tellThing S (Qi r) 104 [(0, .ref (sL S 3 0 0)), (1, .int (x1)), (2, .int (x2)), (3, .int (x3)), (4, .int (x4))] [] σ) {x1 : Int32} {x2 : Int32} {x3 : Int32} {x4 : Int32} {σ : Mm} {r : Int32 × Mm} (h : F_X12_tellThing_148 rc104 x1 x2 x3 x4 σ = some r) : Z m_X12_tellThing S (Qi r) 148 [(0, .ref (sL S 3 0 0)), (1, .int (x1)), (2, .int (x2)), (3, .int (x3)), (4, .int (x4))] [] σ := by
  unfold F_X12_tellThing_148 at h
  refine z_iinc (j := 4) (v := x4 + 1) (lv' := [(0, .ref (sL S 3 0 0)), (1, .int (x1)), (2, .int (x2)), (3, .int (x3)), (4, .int (x4 + 1))]) dX12_tellThing_148 rfl rfl (by decide) [1, 2, 3, 4, 0] rfl ?_
  refine z_goto (tgt := 104) dX12_tellThing_151 (by decide) ?_
  exact hrc104 h
def B_X12_tellThing_104 (rc104 : Int32 → Int32 → Int32 → Int32 → Mm → Option (Int32 × Mm)) (x1 : Int32) (x2 : Int32) (x3 : Int32) (x4 : Int32) (σ : Mm) : Option (Int32 × Mm) := (if x2 ≤ x4 then (bnd (F_X12_takesInt 0 9999 σ) (fun v τ => (F_X12_tellThing_162 x1 x2 v τ))) else (if inb x4 70 = true then (if inb x2 70 = true then (if (mA σ 3 0 10 x4.toNatClampNeg) = (mA σ 3 0 10 x2.toNatClampNeg) then (if inb x4 70 = true then (if inb x2 70 = true then (if (mA σ 3 0 11 x4.toNatClampNeg) = (mA σ 3 0 11 x2.toNatClampNeg) then (bnv (F_X12_tells 3 x3 σ) (fun τ => (F_X12_tellThing_148 rc104 x1 x2 x3 x4 τ))) else (F_X12_tellThing_148 rc104 x1 x2 x3 x4 σ)) else none) else none) else (F_X12_tellThing_148 rc104 x1 x2 x3 x4 σ)) else none) else none))
set_option maxRecDepth 20000 in
theorem zB_X12_tellThing_104 {S : Shp} {rc104 : Int32 → Int32 → Int32 → Int32 → Mm → Option (Int32 × Mm)} (hrc104 : ∀ {x1 : Int32} {x2 : Int32} {x3 : Int32} {x4 : Int32} {σ : Mm} {r : Int32 × Mm}, rc104 x1 x2 x3 x4 σ = some r → Z m_X12_tellThing S (Qi r) 104 [(0, .ref (sL S 3 0 0)), (1, .int (x1)), (2, .int (x2)), (3, .int (x3)), (4, .int (x4))] [] σ) {x1 : Int32} {x2 : Int32} {x3 : Int32} {x4 : Int32} {σ : Mm} {r : Int32 × Mm} (h : B_X12_tellThing_104 rc104 x1 x2 x3 x4 σ = some r) : Z m_X12_tellThing S (Qi r) 104 [(0, .ref (sL S 3 0 0)), (1, .int (x1)), (2, .int (x2)), (3, .int (x3)), (4, .int (x4))] [] σ := by
  unfold B_X12_tellThing_104 at h
  refine z_iload dX12_tellThing_104 4 rfl ?_
  refine z_iload_n dX12_tellThing_106 rfl 2 rfl ?_
  refine z_icmp_ge (tgt := 154) dX12_tellThing_107 (by decide) (fun q => ?_) (fun q => ?_)
  · have h := (if_pos q).symm.trans h
    refine z_aload_n dX12_tellThing_154 rfl 0 rfl ?_
    refine z_iconst (v := 0) dX12_tellThing_155 (by decide) ?_
    refine z_sipush (v := 9999) dX12_tellThing_156 (by decide) ?_
    obtain ⟨v, τ, hc, h⟩ := bnd_e h
    refine z_callV (M' := m_X12_takesInt) (t := 3) (i := 0) (k := 0) (As := [.int (0), .int (9999)]) (rest := []) kl_12_369 oy_X12_takesInt ⟨Nat.le_of_ble_eq_true rfl, Nat.le_of_ble_eq_true rfl⟩ rfl rfl rfl rfl (Nat.le_of_ble_eq_true rfl) rfl dX12_tellThing_159 (c_X12_takesInt hc) (fun v2 τ2 hq => ?_)
    obtain ⟨rfl, hτ⟩ := hq
    subst τ2
    change Z _ _ _ _ _ [.int (v)] _
    refine Z.lv [0, 1, 2] rfl ?_
    exact zb_X12_tellThing_162 h
  · have h := (if_neg q).symm.trans h
    obtain ⟨g7, h⟩ := gd h
    refine z_aload_n dX12_tellThing_110 rfl 0 rfl ?_
    refine gf_12_43 rfl dX12_tellThing_111 ?_
    refine z_iload dX12_tellThing_114 4 rfl ?_
    obtain ⟨g8, h⟩ := gd h
    refine ia_3_10 (inb_in g7) dX12_tellThing_116 ?_
    refine z_aload_n dX12_tellThing_117 rfl 0 rfl ?_
    refine gf_12_43 rfl dX12_tellThing_118 ?_
    refine z_iload_n dX12_tellThing_121 rfl 2 rfl ?_
    refine ia_3_10 (inb_in g8) dX12_tellThing_122 ?_
    refine z_icmp_ne (tgt := 148) dX12_tellThing_123 (by decide) (fun q => ?_) (fun q => ?_)
    · have h := (if_neg q).symm.trans h
      exact zb_X12_tellThing_148 hrc104 h
    · have h := (if_pos q).symm.trans h
      obtain ⟨g9, h⟩ := gd h
      refine z_aload_n dX12_tellThing_126 rfl 0 rfl ?_
      refine gf_12_46 rfl dX12_tellThing_127 ?_
      refine z_iload dX12_tellThing_130 4 rfl ?_
      obtain ⟨g10, h⟩ := gd h
      refine ia_3_11 (inb_in g9) dX12_tellThing_132 ?_
      refine z_aload_n dX12_tellThing_133 rfl 0 rfl ?_
      refine gf_12_46 rfl dX12_tellThing_134 ?_
      refine z_iload_n dX12_tellThing_137 rfl 2 rfl ?_
      refine ia_3_11 (inb_in g10) dX12_tellThing_138 ?_
      refine z_icmp_ne (tgt := 148) dX12_tellThing_139 (by decide) (fun q => ?_) (fun q => ?_)
      · have h := (if_neg q).symm.trans h
        exact zb_X12_tellThing_148 hrc104 h
      · have h := (if_pos q).symm.trans h
        refine z_aload_n dX12_tellThing_142 rfl 0 rfl ?_
        refine z_iconst (v := 3) dX12_tellThing_143 (by decide) ?_
        refine z_iload_n dX12_tellThing_144 rfl 3 rfl ?_
        obtain ⟨τ, hc, h⟩ := bnv_e h
        refine z_callV (M' := m_X12_tells) (t := 3) (i := 0) (k := 0) (As := [.int (3), .int (x3)]) (rest := []) kl_12_327 oy_X12_tells ⟨Nat.le_of_ble_eq_true rfl, Nat.le_of_ble_eq_true rfl⟩ rfl rfl rfl rfl (Nat.le_of_ble_eq_true rfl) rfl dX12_tellThing_145 (c_X12_tells hc) (fun v2 τ2 hq => ?_)
        obtain ⟨rfl, hτ⟩ := hq
        subst τ2
        change Z _ _ _ _ _ [] _
        exact zb_X12_tellThing_148 hrc104 h
def F_X12_tellThing_104 : Nat → Int32 → Int32 → Int32 → Int32 → Mm → Option (Int32 × Mm)
  | 0 => fun _ _ _ _ _ => none
  | n + 1 => B_X12_tellThing_104 (F_X12_tellThing_104 n)
theorem zl_X12_tellThing_104 {S : Shp} : ∀ (nn : Nat) {x1 : Int32} {x2 : Int32} {x3 : Int32} {x4 : Int32} {σ : Mm} {r : Int32 × Mm}, F_X12_tellThing_104 nn x1 x2 x3 x4 σ = some r → Z m_X12_tellThing S (Qi r) 104 [(0, .ref (sL S 3 0 0)), (1, .int (x1)), (2, .int (x2)), (3, .int (x3)), (4, .int (x4))] [] σ := by
  intro nn
  induction nn with
  | zero => intro x1 x2 x3 x4 σ r h; cases h
  | succ nn ih => intro x1 x2 x3 x4 σ r h; exact zB_X12_tellThing_104 @ih h
def F_X12_tellThing_100 (x1 : Int32) (x2 : Int32) (x3 : Int32) (σ : Mm) : Option (Int32 × Mm) := (F_X12_tellThing_104 FU x1 x2 x3 14 σ)
set_option maxRecDepth 20000 in
theorem zb_X12_tellThing_100 {S : Shp} {x1 : Int32} {x2 : Int32} {x3 : Int32} {σ : Mm} {r : Int32 × Mm} (h : F_X12_tellThing_100 x1 x2 x3 σ = some r) : Z m_X12_tellThing S (Qi r) 100 [(0, .ref (sL S 3 0 0)), (1, .int (x1)), (2, .int (x2)), (3, .int (x3))] [] σ := by
  unfold F_X12_tellThing_100 at h
  refine z_bipush (v := 14) dX12_tellThing_100 (by decide) ?_
  refine z_istore (lv' := [(0, .ref (sL S 3 0 0)), (1, .int (x1)), (2, .int (x2)), (3, .int (x3)), (4, .int (14))]) dX12_tellThing_102 (by decide) [1, 2, 3, 4, 0] rfl ?_
  exact zl_X12_tellThing_104 FU h
def F_X12_tellThing_85 (x1 : Int32) (x2 : Int32) (x3 : Int32) (s0 : Int32) (σ : Mm) : Option (Int32 × Mm) := (if s0 = 0 then some (0, σ) else (if inb x2 70 = true then (F_X12_tellThing_100 x1 x2 x3 (setA σ 3 0 11 (upd (mA σ 3 0 11) x2.toNatClampNeg (mA σ 3 0 0 55)))) else none))
set_option maxRecDepth 20000 in
theorem zb_X12_tellThing_85 {S : Shp} {x1 : Int32} {x2 : Int32} {x3 : Int32} {s0 : Int32} {σ : Mm} {r : Int32 × Mm} (h : F_X12_tellThing_85 x1 x2 x3 s0 σ = some r) : Z m_X12_tellThing S (Qi r) 85 [(0, .ref (sL S 3 0 0)), (1, .int (x1)), (2, .int (x2)), (3, .int (x3))] [.int (s0)] σ := by
  unfold F_X12_tellThing_85 at h
  refine z_if_ne (tgt := 90) dX12_tellThing_85 (by decide) (fun q => ?_) (fun q => ?_)
  · have h := (if_neg q).symm.trans h
    obtain ⟨g6, h⟩ := gd h
    refine z_aload_n dX12_tellThing_90 rfl 0 rfl ?_
    refine gf_12_46 rfl dX12_tellThing_91 ?_
    refine z_iload_n dX12_tellThing_94 rfl 2 rfl ?_
    refine z_aload_n dX12_tellThing_95 rfl 0 rfl ?_
    refine gf_12_324 rfl dX12_tellThing_96 ?_
    refine is_3_11 (inb_in g6) dX12_tellThing_99 ?_
    exact zb_X12_tellThing_100 h
  · have h := (if_pos q).symm.trans h
    refine z_iconst (v := 0) dX12_tellThing_88 (by decide) ?_
    cases h
    exact z_ireturn dX12_tellThing_89 rfl rfl ⟨rfl, rfl⟩
def F_X12_tellThing_72 (x1 : Int32) (x2 : Int32) (σ : Mm) : Option (Int32 × Mm) := (bnd (F_X12_takesInt 0 999 σ) (fun v τ => (F_X12_tellThing_85 x1 x2 (mA σ 3 0 0 7) v τ)))
set_option maxRecDepth 20000 in
theorem zb_X12_tellThing_72 {S : Shp} {x1 : Int32} {x2 : Int32} {σ : Mm} {r : Int32 × Mm} (h : F_X12_tellThing_72 x1 x2 σ = some r) : Z m_X12_tellThing S (Qi r) 72 [(0, .ref (sL S 3 0 0)), (1, .int (x1)), (2, .int (x2))] [] σ := by
  unfold F_X12_tellThing_72 at h
  refine z_aload_n dX12_tellThing_72 rfl 0 rfl ?_
  refine gf_12_305 rfl dX12_tellThing_73 ?_
  refine z_istore_n (lv' := [(0, .ref (sL S 3 0 0)), (1, .int (x1)), (2, .int (x2)), (3, .int (mA σ 3 0 0 7))]) dX12_tellThing_76 rfl (by decide) [1, 2, 3, 0] rfl ?_
  refine z_aload_n dX12_tellThing_77 rfl 0 rfl ?_
  refine z_iconst (v := 0) dX12_tellThing_78 (by decide) ?_
  refine z_sipush (v := 999) dX12_tellThing_79 (by decide) ?_
  obtain ⟨v, τ, hc, h⟩ := bnd_e h
  refine z_callV (M' := m_X12_takesInt) (t := 3) (i := 0) (k := 0) (As := [.int (0), .int (999)]) (rest := []) kl_12_369 oy_X12_takesInt ⟨Nat.le_of_ble_eq_true rfl, Nat.le_of_ble_eq_true rfl⟩ rfl rfl rfl rfl (Nat.le_of_ble_eq_true rfl) rfl dX12_tellThing_82 (c_X12_takesInt hc) (fun v2 τ2 hq => ?_)
  obtain ⟨rfl, hτ⟩ := hq
  subst τ2
  change Z _ _ _ _ _ [.int (v)] _
  exact zb_X12_tellThing_85 h
def F_X12_tellThing_57 (x1 : Int32) (x2 : Int32) (s0 : Int32) (σ : Mm) : Option (Int32 × Mm) := (if s0 = 0 then some (0, σ) else (if inb x2 70 = true then (F_X12_tellThing_72 x1 x2 (setA σ 3 0 10 (upd (mA σ 3 0 10) x2.toNatClampNeg (mA σ 3 0 0 55)))) else none))
set_option maxRecDepth 20000 in
theorem zb_X12_tellThing_57 {S : Shp} {x1 : Int32} {x2 : Int32} {s0 : Int32} {σ : Mm} {r : Int32 × Mm} (h : F_X12_tellThing_57 x1 x2 s0 σ = some r) : Z m_X12_tellThing S (Qi r) 57 [(0, .ref (sL S 3 0 0)), (1, .int (x1)), (2, .int (x2))] [.int (s0)] σ := by
  unfold F_X12_tellThing_57 at h
  refine z_if_ne (tgt := 62) dX12_tellThing_57 (by decide) (fun q => ?_) (fun q => ?_)
  · have h := (if_neg q).symm.trans h
    obtain ⟨g5, h⟩ := gd h
    refine z_aload_n dX12_tellThing_62 rfl 0 rfl ?_
    refine gf_12_43 rfl dX12_tellThing_63 ?_
    refine z_iload_n dX12_tellThing_66 rfl 2 rfl ?_
    refine z_aload_n dX12_tellThing_67 rfl 0 rfl ?_
    refine gf_12_324 rfl dX12_tellThing_68 ?_
    refine is_3_10 (inb_in g5) dX12_tellThing_71 ?_
    exact zb_X12_tellThing_72 h
  · have h := (if_pos q).symm.trans h
    refine z_iconst (v := 0) dX12_tellThing_60 (by decide) ?_
    cases h
    exact z_ireturn dX12_tellThing_61 rfl rfl ⟨rfl, rfl⟩
def F_X12_tellThing_44 (x1 : Int32) (x2 : Int32) (s0 : Int32) (σ : Mm) : Option (Int32 × Mm) := (if s0 = 0 then some (0, σ) else (bnd (F_X12_takesInt 0 999 σ) (fun v τ => (F_X12_tellThing_57 x1 x2 v τ))))
set_option maxRecDepth 20000 in
theorem zb_X12_tellThing_44 {S : Shp} {x1 : Int32} {x2 : Int32} {s0 : Int32} {σ : Mm} {r : Int32 × Mm} (h : F_X12_tellThing_44 x1 x2 s0 σ = some r) : Z m_X12_tellThing S (Qi r) 44 [(0, .ref (sL S 3 0 0)), (1, .int (x1)), (2, .int (x2))] [.int (s0)] σ := by
  unfold F_X12_tellThing_44 at h
  refine z_if_ne (tgt := 49) dX12_tellThing_44 (by decide) (fun q => ?_) (fun q => ?_)
  · have h := (if_neg q).symm.trans h
    refine z_aload_n dX12_tellThing_49 rfl 0 rfl ?_
    refine z_iconst (v := 0) dX12_tellThing_50 (by decide) ?_
    refine z_sipush (v := 999) dX12_tellThing_51 (by decide) ?_
    obtain ⟨v, τ, hc, h⟩ := bnd_e h
    refine z_callV (M' := m_X12_takesInt) (t := 3) (i := 0) (k := 0) (As := [.int (0), .int (999)]) (rest := []) kl_12_369 oy_X12_takesInt ⟨Nat.le_of_ble_eq_true rfl, Nat.le_of_ble_eq_true rfl⟩ rfl rfl rfl rfl (Nat.le_of_ble_eq_true rfl) rfl dX12_tellThing_54 (c_X12_takesInt hc) (fun v2 τ2 hq => ?_)
    obtain ⟨rfl, hτ⟩ := hq
    subst τ2
    change Z _ _ _ _ _ [.int (v)] _
    exact zb_X12_tellThing_57 h
  · have h := (if_pos q).symm.trans h
    refine z_iconst (v := 0) dX12_tellThing_47 (by decide) ?_
    cases h
    exact z_ireturn dX12_tellThing_48 rfl rfl ⟨rfl, rfl⟩
def F_X12_tellThing_31 (x1 : Int32) (x2 : Int32) (s0 : Int32) (σ : Mm) : Option (Int32 × Mm) := (if s0 = 0 then some (0, σ) else (if inb 1 5 = true then (bnd (F_X12_names (mA σ 3 0 8 (1 : Int32).toNatClampNeg) σ) (fun v τ => (F_X12_tellThing_44 x1 x2 v τ))) else none))
set_option maxRecDepth 20000 in
theorem zb_X12_tellThing_31 {S : Shp} {x1 : Int32} {x2 : Int32} {s0 : Int32} {σ : Mm} {r : Int32 × Mm} (h : F_X12_tellThing_31 x1 x2 s0 σ = some r) : Z m_X12_tellThing S (Qi r) 31 [(0, .ref (sL S 3 0 0)), (1, .int (x1)), (2, .int (x2))] [.int (s0)] σ := by
  unfold F_X12_tellThing_31 at h
  refine z_if_eq (tgt := 47) dX12_tellThing_31 (by decide) (fun q => ?_) (fun q => ?_)
  · have h := (if_pos q).symm.trans h
    refine z_iconst (v := 0) dX12_tellThing_47 (by decide) ?_
    cases h
    exact z_ireturn dX12_tellThing_48 rfl rfl ⟨rfl, rfl⟩
  · have h := (if_neg q).symm.trans h
    obtain ⟨g4, h⟩ := gd h
    refine z_aload_n dX12_tellThing_34 rfl 0 rfl ?_
    refine z_aload_n dX12_tellThing_35 rfl 0 rfl ?_
    refine gf_12_37 rfl dX12_tellThing_36 ?_
    refine z_iconst (v := 1) dX12_tellThing_39 (by decide) ?_
    refine ia_3_8 (inb_in g4) dX12_tellThing_40 ?_
    obtain ⟨v, τ, hc, h⟩ := bnd_e h
    refine z_callV (M' := m_X12_names) (t := 3) (i := 0) (k := 0) (As := [.int (mA σ 3 0 8 (1 : Int32).toNatClampNeg)]) (rest := []) kl_12_367 oy_X12_names ⟨Nat.le_of_ble_eq_true rfl, Nat.le_of_ble_eq_true rfl⟩ rfl rfl rfl rfl (Nat.le_of_ble_eq_true rfl) rfl dX12_tellThing_41 (c_X12_names hc) (fun v2 τ2 hq => ?_)
    obtain ⟨rfl, hτ⟩ := hq
    subst τ2
    change Z _ _ _ _ _ [.int (v)] _
    exact zb_X12_tellThing_44 h
def F_X12_tellThing_27 (x1 : Int32) (x2 : Int32) (σ : Mm) : Option (Int32 × Mm) := (bnd (F_X12_pass  σ) (fun v τ => (F_X12_tellThing_31 x1 x2 v τ)))
set_option maxRecDepth 20000 in
theorem zb_X12_tellThing_27 {S : Shp} {x1 : Int32} {x2 : Int32} {σ : Mm} {r : Int32 × Mm} (h : F_X12_tellThing_27 x1 x2 σ = some r) : Z m_X12_tellThing S (Qi r) 27 [(0, .ref (sL S 3 0 0)), (1, .int (x1)), (2, .int (x2))] [] σ := by
  unfold F_X12_tellThing_27 at h
  refine z_aload_n dX12_tellThing_27 rfl 0 rfl ?_
  obtain ⟨v, τ, hc, h⟩ := bnd_e h
  refine z_callV (M' := m_X12_pass) (t := 3) (i := 0) (k := 0) (As := []) (rest := []) kl_12_317 oy_X12_pass ⟨Nat.le_of_ble_eq_true rfl, Nat.le_of_ble_eq_true rfl⟩ rfl rfl rfl rfl (Nat.le_of_ble_eq_true rfl) rfl dX12_tellThing_28 (c_X12_pass hc) (fun v2 τ2 hq => ?_)
  obtain ⟨rfl, hτ⟩ := hq
  subst τ2
  change Z _ _ _ _ _ [.int (v)] _
  exact zb_X12_tellThing_31 h
def F_X12_tellThing_16 (s0 : Int32) (σ : Mm) : Option (Int32 × Mm) := (if isB s0 = true then some (s0, σ) else none)
set_option maxRecDepth 20000 in
theorem zb_X12_tellThing_16 {S : Shp} {s0 : Int32} {σ : Mm} {r : Int32 × Mm} (h : F_X12_tellThing_16 s0 σ = some r) : Z m_X12_tellThing S (Qi r) 16 [] [.int (s0)] σ := by
  unfold F_X12_tellThing_16 at h
  obtain ⟨g3, h⟩ := gd h
  cases h
  exact z_ireturn dX12_tellThing_16 rfl (isB_n g3) ⟨rfl, rfl⟩
def F_X12_tellThing (x1 : Int32) (σ : Mm) : Option (Int32 × Mm) := (if inb 1 5 = true then (if (mA σ 3 0 8 (1 : Int32).toNatClampNeg) = (14 : Int32) then (bnd (F_X12_wrong 2 σ) (fun v τ => (F_X12_tellThing_16 v τ))) else (if inb 1 5 = true then (F_X12_tellThing_27 x1 ((14 : Int32) + (mA σ 3 0 8 (1 : Int32).toNatClampNeg)) σ) else none)) else none)
set_option maxRecDepth 20000 in
theorem zb_X12_tellThing {S : Shp} {x1 : Int32} {σ : Mm} {r : Int32 × Mm} (h : F_X12_tellThing x1 σ = some r) : Z m_X12_tellThing S (Qi r) 0 [(0, .ref (sL S 3 0 0)), (1, .int (x1))] [] σ := by
  unfold F_X12_tellThing at h
  obtain ⟨g1, h⟩ := gd h
  refine z_aload_n dX12_tellThing_0 rfl 0 rfl ?_
  refine gf_12_37 rfl dX12_tellThing_1 ?_
  refine z_iconst (v := 1) dX12_tellThing_4 (by decide) ?_
  refine ia_3_8 (inb_in g1) dX12_tellThing_5 ?_
  refine z_bipush (v := 14) dX12_tellThing_6 (by decide) ?_
  refine z_icmp_ne (tgt := 17) dX12_tellThing_8 (by decide) (fun q => ?_) (fun q => ?_)
  · have h := (if_neg q).symm.trans h
    obtain ⟨g2, h⟩ := gd h
    refine z_bipush (v := 14) dX12_tellThing_17 (by decide) ?_
    refine z_aload_n dX12_tellThing_19 rfl 0 rfl ?_
    refine gf_12_37 rfl dX12_tellThing_20 ?_
    refine z_iconst (v := 1) dX12_tellThing_23 (by decide) ?_
    refine ia_3_8 (inb_in g2) dX12_tellThing_24 ?_
    refine z_iadd dX12_tellThing_25 ?_
    refine z_istore_n (lv' := [(0, .ref (sL S 3 0 0)), (1, .int (x1)), (2, .int ((14 : Int32) + (mA σ 3 0 8 (1 : Int32).toNatClampNeg)))]) dX12_tellThing_26 rfl (by decide) [1, 2, 0] rfl ?_
    exact zb_X12_tellThing_27 h
  · have h := (if_pos q).symm.trans h
    refine z_aload_n dX12_tellThing_11 rfl 0 rfl ?_
    refine z_iconst (v := 2) dX12_tellThing_12 (by decide) ?_
    obtain ⟨v, τ, hc, h⟩ := bnd_e h
    refine z_callV (M' := m_X12_wrong) (t := 3) (i := 0) (k := 0) (As := [.int (2)]) (rest := []) kl_12_314 oy_X12_wrong ⟨Nat.le_of_ble_eq_true rfl, Nat.le_of_ble_eq_true rfl⟩ rfl rfl rfl rfl (Nat.le_of_ble_eq_true rfl) rfl dX12_tellThing_13 (c_X12_wrong hc) (fun v2 τ2 hq => ?_)
    obtain ⟨rfl, hτ⟩ := hq
    subst τ2
    change Z _ _ _ _ _ [.int (v)] _
    refine Z.lv [] rfl ?_
    exact zb_X12_tellThing_16 h
/-- SkyStonesModel.tellThing(Z)Z -/
theorem c_X12_tellThing {S : Shp} {x1 : Int32} {σ : Mm} {r : Int32 × Mm} (h : F_X12_tellThing x1 σ = some r) : Ct m_X12_tellThing S [.ref (sL S 3 0 0), .int (x1)] σ (Qi r) := Ct.of (by decide +kernel) (Nat.le_of_ble_eq_true rfl) (zb_X12_tellThing h)
def F_X12_tell_49 (s0 : Int32) (σ : Mm) : Option (Int32 × Mm) := (if isB s0 = true then some (s0, σ) else none)
set_option maxRecDepth 20000 in
theorem zb_X12_tell_49 {S : Shp} {s0 : Int32} {σ : Mm} {r : Int32 × Mm} (h : F_X12_tell_49 s0 σ = some r) : Z m_X12_tell S (Qi r) 49 [] [.int (s0)] σ := by
  unfold F_X12_tell_49 at h
  obtain ⟨g9, h⟩ := gd h
  cases h
  exact z_ireturn dX12_tell_49 rfl (isB_n g9) ⟨rfl, rfl⟩
def F_X12_tell_46 (s0 : Int32) (σ : Mm) : Option (Int32 × Mm) := (bnd (F_X12_tellThing s0 σ) (fun v τ => (F_X12_tell_49 v τ)))
set_option maxRecDepth 20000 in
theorem zb_X12_tell_46 {S : Shp} {s0 : Int32} {σ : Mm} {r : Int32 × Mm} (h : F_X12_tell_46 s0 σ = some r) : Z m_X12_tell S (Qi r) 46 [] [.int (s0), .ref (sL S 3 0 0)] σ := by
  unfold F_X12_tell_46 at h
  obtain ⟨v, τ, hc, h⟩ := bnd_e h
  refine z_callV (M' := m_X12_tellThing) (t := 3) (i := 0) (k := 0) (As := [.int (s0)]) (rest := []) kl_12_379 oy_X12_tellThing ⟨Nat.le_of_ble_eq_true rfl, Nat.le_of_ble_eq_true rfl⟩ rfl rfl rfl rfl (Nat.le_of_ble_eq_true rfl) rfl dX12_tell_46 (c_X12_tellThing hc) (fun v2 τ2 hq => ?_)
  obtain ⟨rfl, hτ⟩ := hq
  subst τ2
  change Z _ _ _ _ _ [.int (v)] _
  exact zb_X12_tell_49 h
def F_X12_tell_36 (x1 : Int32) (σ : Mm) : Option (Int32 × Mm) := (if x1 = 0 then (F_X12_tell_46 1 σ) else (F_X12_tell_46 0 σ))
set_option maxRecDepth 20000 in
theorem zb_X12_tell_36 {S : Shp} {x1 : Int32} {σ : Mm} {r : Int32 × Mm} (h : F_X12_tell_36 x1 σ = some r) : Z m_X12_tell S (Qi r) 36 [(0, .ref (sL S 3 0 0)), (1, .int (x1))] [] σ := by
  unfold F_X12_tell_36 at h
  refine z_aload_n dX12_tell_36 rfl 0 rfl ?_
  refine z_iload_n dX12_tell_37 rfl 1 rfl ?_
  refine z_if_ne (tgt := 45) dX12_tell_38 (by decide) (fun q => ?_) (fun q => ?_)
  · have h := (if_neg q).symm.trans h
    refine z_iconst (v := 0) dX12_tell_45 (by decide) ?_
    refine Z.lv [] rfl ?_
    exact zb_X12_tell_46 h
  · have h := (if_pos q).symm.trans h
    refine z_iconst (v := 1) dX12_tell_41 (by decide) ?_
    refine z_goto (tgt := 46) dX12_tell_42 (by decide) ?_
    refine Z.lv [] rfl ?_
    exact zb_X12_tell_46 h
def F_X12_tell_132 (σ : Mm) : Option (Int32 × Mm) := some (1, σ)
set_option maxRecDepth 20000 in
theorem zb_X12_tell_132 {S : Shp} {σ : Mm} {r : Int32 × Mm} (h : F_X12_tell_132 σ = some r) : Z m_X12_tell S (Qi r) 132 [] [] σ := by
  unfold F_X12_tell_132 at h
  refine z_iconst (v := 1) dX12_tell_132 (by decide) ?_
  cases h
  exact z_ireturn dX12_tell_133 rfl rfl ⟨rfl, rfl⟩
def F_X12_tell_117 (s0 : Int32) (σ : Mm) : Option (Int32 × Mm) := (if s0 = 0 then some (0, σ) else (if inb 1 5 = true then (F_X12_tell_132 (setA σ 3 0 7 (upd (mA σ 3 0 7) (1 : Int32).toNatClampNeg (mA σ 3 0 0 55)))) else none))
set_option maxRecDepth 20000 in
theorem zb_X12_tell_117 {S : Shp} {s0 : Int32} {σ : Mm} {r : Int32 × Mm} (h : F_X12_tell_117 s0 σ = some r) : Z m_X12_tell S (Qi r) 117 [(0, .ref (sL S 3 0 0))] [.int (s0)] σ := by
  unfold F_X12_tell_117 at h
  refine z_if_ne (tgt := 122) dX12_tell_117 (by decide) (fun q => ?_) (fun q => ?_)
  · have h := (if_neg q).symm.trans h
    obtain ⟨g8, h⟩ := gd h
    refine z_aload_n dX12_tell_122 rfl 0 rfl ?_
    refine gf_12_34 rfl dX12_tell_123 ?_
    refine z_iconst (v := 1) dX12_tell_126 (by decide) ?_
    refine z_aload_n dX12_tell_127 rfl 0 rfl ?_
    refine gf_12_324 rfl dX12_tell_128 ?_
    refine is_3_7 (inb_in g8) dX12_tell_131 ?_
    refine Z.lv [] rfl ?_
    exact zb_X12_tell_132 h
  · have h := (if_pos q).symm.trans h
    refine z_iconst (v := 0) dX12_tell_120 (by decide) ?_
    cases h
    exact z_ireturn dX12_tell_121 rfl rfl ⟨rfl, rfl⟩
def F_X12_tell_107 (s0 : Int32) (σ : Mm) : Option (Int32 × Mm) := (if s0 = 0 then some (0, σ) else (bnd (F_X12_takesInt 0 20 σ) (fun v τ => (F_X12_tell_117 v τ))))
set_option maxRecDepth 20000 in
theorem zb_X12_tell_107 {S : Shp} {s0 : Int32} {σ : Mm} {r : Int32 × Mm} (h : F_X12_tell_107 s0 σ = some r) : Z m_X12_tell S (Qi r) 107 [(0, .ref (sL S 3 0 0))] [.int (s0)] σ := by
  unfold F_X12_tell_107 at h
  refine z_if_eq (tgt := 120) dX12_tell_107 (by decide) (fun q => ?_) (fun q => ?_)
  · have h := (if_pos q).symm.trans h
    refine z_iconst (v := 0) dX12_tell_120 (by decide) ?_
    cases h
    exact z_ireturn dX12_tell_121 rfl rfl ⟨rfl, rfl⟩
  · have h := (if_neg q).symm.trans h
    refine z_aload_n dX12_tell_110 rfl 0 rfl ?_
    refine z_iconst (v := 0) dX12_tell_111 (by decide) ?_
    refine z_bipush (v := 20) dX12_tell_112 (by decide) ?_
    obtain ⟨v, τ, hc, h⟩ := bnd_e h
    refine z_callV (M' := m_X12_takesInt) (t := 3) (i := 0) (k := 0) (As := [.int (0), .int (20)]) (rest := []) kl_12_369 oy_X12_takesInt ⟨Nat.le_of_ble_eq_true rfl, Nat.le_of_ble_eq_true rfl⟩ rfl rfl rfl rfl (Nat.le_of_ble_eq_true rfl) rfl dX12_tell_114 (c_X12_takesInt hc) (fun v2 τ2 hq => ?_)
    obtain ⟨rfl, hτ⟩ := hq
    subst τ2
    change Z _ _ _ _ _ [.int (v)] _
    exact zb_X12_tell_117 h
def F_X12_tell_102 (s0 : Int32) (σ : Mm) : Option (Int32 × Mm) := (if isB s0 = true then some (s0, σ) else none)
set_option maxRecDepth 20000 in
theorem zb_X12_tell_102 {S : Shp} {s0 : Int32} {σ : Mm} {r : Int32 × Mm} (h : F_X12_tell_102 s0 σ = some r) : Z m_X12_tell S (Qi r) 102 [] [.int (s0)] σ := by
  unfold F_X12_tell_102 at h
  obtain ⟨g3, h⟩ := gd h
  cases h
  exact z_ireturn dX12_tell_102 rfl (isB_n g3) ⟨rfl, rfl⟩
def F_X12_tell_90 (s0 : Int32) (σ : Mm) : Option (Int32 × Mm) := (if isB s0 = true then some (s0, σ) else none)
set_option maxRecDepth 20000 in
theorem zb_X12_tell_90 {S : Shp} {s0 : Int32} {σ : Mm} {r : Int32 × Mm} (h : F_X12_tell_90 s0 σ = some r) : Z m_X12_tell S (Qi r) 90 [] [.int (s0)] σ := by
  unfold F_X12_tell_90 at h
  obtain ⟨g4, h⟩ := gd h
  cases h
  exact z_ireturn dX12_tell_90 rfl (isB_n g4) ⟨rfl, rfl⟩
def F_X12_tell_79 (s0 : Int32) (σ : Mm) : Option (Int32 × Mm) := (if isB s0 = true then some (s0, σ) else none)
set_option maxRecDepth 20000 in
theorem zb_X12_tell_79 {S : Shp} {s0 : Int32} {σ : Mm} {r : Int32 × Mm} (h : F_X12_tell_79 s0 σ = some r) : Z m_X12_tell S (Qi r) 79 [] [.int (s0)] σ := by
  unfold F_X12_tell_79 at h
  obtain ⟨g5, h⟩ := gd h
  cases h
  exact z_ireturn dX12_tell_79 rfl (isB_n g5) ⟨rfl, rfl⟩
def F_X12_tell_69 (s0 : Int32) (σ : Mm) : Option (Int32 × Mm) := (if isB s0 = true then some (s0, σ) else none)
set_option maxRecDepth 20000 in
theorem zb_X12_tell_69 {S : Shp} {s0 : Int32} {σ : Mm} {r : Int32 × Mm} (h : F_X12_tell_69 s0 σ = some r) : Z m_X12_tell S (Qi r) 69 [] [.int (s0)] σ := by
  unfold F_X12_tell_69 at h
  obtain ⟨g6, h⟩ := gd h
  cases h
  exact z_ireturn dX12_tell_69 rfl (isB_n g6) ⟨rfl, rfl⟩
def F_X12_tell_59 (s0 : Int32) (σ : Mm) : Option (Int32 × Mm) := (if isB s0 = true then some (s0, σ) else none)
set_option maxRecDepth 20000 in
theorem zb_X12_tell_59 {S : Shp} {s0 : Int32} {σ : Mm} {r : Int32 × Mm} (h : F_X12_tell_59 s0 σ = some r) : Z m_X12_tell S (Qi r) 59 [] [.int (s0)] σ := by
  unfold F_X12_tell_59 at h
  obtain ⟨g7, h⟩ := gd h
  cases h
  exact z_ireturn dX12_tell_59 rfl (isB_n g7) ⟨rfl, rfl⟩
def F_X12_tell_26 (s0 : Int32) (σ : Mm) : Option (Int32 × Mm) := (if s0 = 0 then (F_X12_tell_36 s0 σ) else (if s0 = (1 : Int32) then (F_X12_tell_36 s0 σ) else (if s0 = (2 : Int32) then (bnd (F_X12_tellDoor  σ) (fun v τ => (F_X12_tell_59 v τ))) else (if s0 = (3 : Int32) then (bnd (F_X12_tellHill  σ) (fun v τ => (F_X12_tell_69 v τ))) else (if s0 = (4 : Int32) then (bnd (F_X12_tellSky  σ) (fun v τ => (F_X12_tell_79 v τ))) else (if s0 = (7 : Int32) then (bnd (F_X12_tellRule  σ) (fun v τ => (F_X12_tell_90 v τ))) else (if s0 = (6 : Int32) then (bnd (F_X12_pass  σ) (fun v τ => (F_X12_tell_107 v τ))) else (bnd (F_X12_wrong 1 σ) (fun v τ => (F_X12_tell_102 v τ))))))))))
set_option maxRecDepth 20000 in
theorem zb_X12_tell_26 {S : Shp} {s0 : Int32} {σ : Mm} {r : Int32 × Mm} (h : F_X12_tell_26 s0 σ = some r) : Z m_X12_tell S (Qi r) 26 [(0, .ref (sL S 3 0 0))] [.int (s0)] σ := by
  unfold F_X12_tell_26 at h
  refine z_istore_n (lv' := [(0, .ref (sL S 3 0 0)), (1, .int (s0))]) dX12_tell_26 rfl (by decide) [1, 0] rfl ?_
  refine z_iload_n dX12_tell_27 rfl 1 rfl ?_
  refine z_if_eq (tgt := 36) dX12_tell_28 (by decide) (fun q => ?_) (fun q => ?_)
  · have h := (if_pos q).symm.trans h
    exact zb_X12_tell_36 h
  · have h := (if_neg q).symm.trans h
    refine z_iload_n dX12_tell_31 rfl 1 rfl ?_
    refine z_iconst (v := 1) dX12_tell_32 (by decide) ?_
    refine z_icmp_ne (tgt := 50) dX12_tell_33 (by decide) (fun q => ?_) (fun q => ?_)
    · have h := (if_neg q).symm.trans h
      refine z_iload_n dX12_tell_50 rfl 1 rfl ?_
      refine z_iconst (v := 2) dX12_tell_51 (by decide) ?_
      refine z_icmp_ne (tgt := 60) dX12_tell_52 (by decide) (fun q => ?_) (fun q => ?_)
      · have h := (if_neg q).symm.trans h
        refine z_iload_n dX12_tell_60 rfl 1 rfl ?_
        refine z_iconst (v := 3) dX12_tell_61 (by decide) ?_
        refine z_icmp_ne (tgt := 70) dX12_tell_62 (by decide) (fun q => ?_) (fun q => ?_)
        · have h := (if_neg q).symm.trans h
          refine z_iload_n dX12_tell_70 rfl 1 rfl ?_
          refine z_iconst (v := 4) dX12_tell_71 (by decide) ?_
          refine z_icmp_ne (tgt := 80) dX12_tell_72 (by decide) (fun q => ?_) (fun q => ?_)
          · have h := (if_neg q).symm.trans h
            refine z_iload_n dX12_tell_80 rfl 1 rfl ?_
            refine z_bipush (v := 7) dX12_tell_81 (by decide) ?_
            refine z_icmp_ne (tgt := 91) dX12_tell_83 (by decide) (fun q => ?_) (fun q => ?_)
            · have h := (if_neg q).symm.trans h
              refine z_iload_n dX12_tell_91 rfl 1 rfl ?_
              refine z_bipush (v := 6) dX12_tell_92 (by decide) ?_
              refine z_icmp_eq (tgt := 103) dX12_tell_94 (by decide) (fun q => ?_) (fun q => ?_)
              · have h := (if_pos q).symm.trans h
                refine z_aload_n dX12_tell_103 rfl 0 rfl ?_
                obtain ⟨v, τ, hc, h⟩ := bnd_e h
                refine z_callV (M' := m_X12_pass) (t := 3) (i := 0) (k := 0) (As := []) (rest := []) kl_12_317 oy_X12_pass ⟨Nat.le_of_ble_eq_true rfl, Nat.le_of_ble_eq_true rfl⟩ rfl rfl rfl rfl (Nat.le_of_ble_eq_true rfl) rfl dX12_tell_104 (c_X12_pass hc) (fun v2 τ2 hq => ?_)
                obtain ⟨rfl, hτ⟩ := hq
                subst τ2
                change Z _ _ _ _ _ [.int (v)] _
                refine Z.lv [0] rfl ?_
                exact zb_X12_tell_107 h
              · have h := (if_neg q).symm.trans h
                refine z_aload_n dX12_tell_97 rfl 0 rfl ?_
                refine z_iconst (v := 1) dX12_tell_98 (by decide) ?_
                obtain ⟨v, τ, hc, h⟩ := bnd_e h
                refine z_callV (M' := m_X12_wrong) (t := 3) (i := 0) (k := 0) (As := [.int (1)]) (rest := []) kl_12_314 oy_X12_wrong ⟨Nat.le_of_ble_eq_true rfl, Nat.le_of_ble_eq_true rfl⟩ rfl rfl rfl rfl (Nat.le_of_ble_eq_true rfl) rfl dX12_tell_99 (c_X12_wrong hc) (fun v2 τ2 hq => ?_)
                obtain ⟨rfl, hτ⟩ := hq
                subst τ2
                change Z _ _ _ _ _ [.int (v)] _
                refine Z.lv [] rfl ?_
                exact zb_X12_tell_102 h
            · have h := (if_pos q).symm.trans h
              refine z_aload_n dX12_tell_86 rfl 0 rfl ?_
              obtain ⟨v, τ, hc, h⟩ := bnd_e h
              refine z_callV (M' := m_X12_tellRule) (t := 3) (i := 0) (k := 0) (As := []) (rest := []) kl_12_392 oy_X12_tellRule ⟨Nat.le_of_ble_eq_true rfl, Nat.le_of_ble_eq_true rfl⟩ rfl rfl rfl rfl (Nat.le_of_ble_eq_true rfl) rfl dX12_tell_87 (c_X12_tellRule hc) (fun v2 τ2 hq => ?_)
              obtain ⟨rfl, hτ⟩ := hq
              subst τ2
              change Z _ _ _ _ _ [.int (v)] _
              refine Z.lv [] rfl ?_
              exact zb_X12_tell_90 h
          · have h := (if_pos q).symm.trans h
            refine z_aload_n dX12_tell_75 rfl 0 rfl ?_
            obtain ⟨v, τ, hc, h⟩ := bnd_e h
            refine z_callV (M' := m_X12_tellSky) (t := 3) (i := 0) (k := 0) (As := []) (rest := []) kl_12_389 oy_X12_tellSky ⟨Nat.le_of_ble_eq_true rfl, Nat.le_of_ble_eq_true rfl⟩ rfl rfl rfl rfl (Nat.le_of_ble_eq_true rfl) rfl dX12_tell_76 (c_X12_tellSky hc) (fun v2 τ2 hq => ?_)
            obtain ⟨rfl, hτ⟩ := hq
            subst τ2
            change Z _ _ _ _ _ [.int (v)] _
            refine Z.lv [] rfl ?_
            exact zb_X12_tell_79 h
        · have h := (if_pos q).symm.trans h
          refine z_aload_n dX12_tell_65 rfl 0 rfl ?_
          obtain ⟨v, τ, hc, h⟩ := bnd_e h
          refine z_callV (M' := m_X12_tellHill) (t := 3) (i := 0) (k := 0) (As := []) (rest := []) kl_12_386 oy_X12_tellHill ⟨Nat.le_of_ble_eq_true rfl, Nat.le_of_ble_eq_true rfl⟩ rfl rfl rfl rfl (Nat.le_of_ble_eq_true rfl) rfl dX12_tell_66 (c_X12_tellHill hc) (fun v2 τ2 hq => ?_)
          obtain ⟨rfl, hτ⟩ := hq
          subst τ2
          change Z _ _ _ _ _ [.int (v)] _
          refine Z.lv [] rfl ?_
          exact zb_X12_tell_69 h
      · have h := (if_pos q).symm.trans h
        refine z_aload_n dX12_tell_55 rfl 0 rfl ?_
        obtain ⟨v, τ, hc, h⟩ := bnd_e h
        refine z_callV (M' := m_X12_tellDoor) (t := 3) (i := 0) (k := 0) (As := []) (rest := []) kl_12_383 oy_X12_tellDoor ⟨Nat.le_of_ble_eq_true rfl, Nat.le_of_ble_eq_true rfl⟩ rfl rfl rfl rfl (Nat.le_of_ble_eq_true rfl) rfl dX12_tell_56 (c_X12_tellDoor hc) (fun v2 τ2 hq => ?_)
        obtain ⟨rfl, hτ⟩ := hq
        subst τ2
        change Z _ _ _ _ _ [.int (v)] _
        refine Z.lv [] rfl ?_
        exact zb_X12_tell_59 h
    · have h := (if_pos q).symm.trans h
      exact zb_X12_tell_36 h
def F_X12_tell (σ : Mm) : Option (Int32 × Mm) := (if inb (mA σ 3 0 0 7) 2001 = true then (if (mA σ 3 0 2 (mA σ 3 0 0 7).toNatClampNeg) = (3 : Int32) then (if inb (mA σ 3 0 0 7) 2001 = true then (F_X12_tell_26 (mA σ 3 0 4 (mA σ 3 0 0 7).toNatClampNeg) σ) else none) else (F_X12_tell_26 ((-1)) σ)) else none)
set_option maxRecDepth 20000 in
theorem zb_X12_tell {S : Shp} {σ : Mm} {r : Int32 × Mm} (h : F_X12_tell σ = some r) : Z m_X12_tell S (Qi r) 0 [(0, .ref (sL S 3 0 0))] [] σ := by
  unfold F_X12_tell at h
  obtain ⟨g1, h⟩ := gd h
  refine z_aload_n dX12_tell_0 rfl 0 rfl ?_
  refine gf_12_13 rfl dX12_tell_1 ?_
  refine z_aload_n dX12_tell_4 rfl 0 rfl ?_
  refine gf_12_305 rfl dX12_tell_5 ?_
  refine ia_3_2 (inb_in g1) dX12_tell_8 ?_
  refine z_iconst (v := 3) dX12_tell_9 (by decide) ?_
  refine z_icmp_ne (tgt := 25) dX12_tell_10 (by decide) (fun q => ?_) (fun q => ?_)
  · have h := (if_neg q).symm.trans h
    refine z_iconst (v := (-1)) dX12_tell_25 (by decide) ?_
    exact zb_X12_tell_26 h
  · have h := (if_pos q).symm.trans h
    obtain ⟨g2, h⟩ := gd h
    refine z_aload_n dX12_tell_13 rfl 0 rfl ?_
    refine gf_12_19 rfl dX12_tell_14 ?_
    refine z_aload_n dX12_tell_17 rfl 0 rfl ?_
    refine gf_12_305 rfl dX12_tell_18 ?_
    refine ia_3_4 (inb_in g2) dX12_tell_21 ?_
    refine z_goto (tgt := 26) dX12_tell_22 (by decide) ?_
    exact zb_X12_tell_26 h
/-- SkyStonesModel.tell()Z -/
theorem c_X12_tell {S : Shp} {σ : Mm} {r : Int32 × Mm} (h : F_X12_tell σ = some r) : Ct m_X12_tell S [.ref (sL S 3 0 0)] σ (Qi r) := Ct.of (by decide +kernel) (Nat.le_of_ble_eq_true rfl) (zb_X12_tell h)
def F_X12_parses_46 (rc5 : Mm → Option (Int32 × Mm)) (s0 : Int32) (σ : Mm) : Option (Int32 × Mm) := (if s0 = 0 then some (0, σ) else (rc5 σ))
set_option maxRecDepth 20000 in
theorem zb_X12_parses_46 {S : Shp} {rc5 : Mm → Option (Int32 × Mm)} (hrc5 : ∀ {σ : Mm} {r : Int32 × Mm}, rc5 σ = some r → Z m_X12_parses S (Qi r) 5 [(0, .ref (sL S 3 0 0))] [] σ) {s0 : Int32} {σ : Mm} {r : Int32 × Mm} (h : F_X12_parses_46 rc5 s0 σ = some r) : Z m_X12_parses S (Qi r) 46 [(0, .ref (sL S 3 0 0))] [.int (s0)] σ := by
  unfold F_X12_parses_46 at h
  refine z_if_ne (tgt := 5) dX12_parses_46 (by decide) (fun q => ?_) (fun q => ?_)
  · have h := (if_neg q).symm.trans h
    exact hrc5 h
  · have h := (if_pos q).symm.trans h
    refine z_iconst (v := 0) dX12_parses_49 (by decide) ?_
    cases h
    exact z_ireturn dX12_parses_50 rfl rfl ⟨rfl, rfl⟩
def F_X12_parses_41 (s0 : Int32) (σ : Mm) : Option (Int32 × Mm) := (if isB s0 = true then some (s0, σ) else none)
set_option maxRecDepth 20000 in
theorem zb_X12_parses_41 {S : Shp} {s0 : Int32} {σ : Mm} {r : Int32 × Mm} (h : F_X12_parses_41 s0 σ = some r) : Z m_X12_parses S (Qi r) 41 [] [.int (s0)] σ := by
  unfold F_X12_parses_41 at h
  obtain ⟨g2, h⟩ := gd h
  cases h
  exact z_ireturn dX12_parses_41 rfl (isB_n g2) ⟨rfl, rfl⟩
def F_X12_parses_33 (rc5 : Mm → Option (Int32 × Mm)) (s0 : Int32) (σ : Mm) : Option (Int32 × Mm) := (if s0 = 0 then (bnd (F_X12_wrong 1 σ) (fun v τ => (F_X12_parses_41 v τ))) else (bnd (F_X12_pass  σ) (fun v τ => (F_X12_parses_46 rc5 v τ))))
set_option maxRecDepth 20000 in
theorem zb_X12_parses_33 {S : Shp} {rc5 : Mm → Option (Int32 × Mm)} (hrc5 : ∀ {σ : Mm} {r : Int32 × Mm}, rc5 σ = some r → Z m_X12_parses S (Qi r) 5 [(0, .ref (sL S 3 0 0))] [] σ) {s0 : Int32} {σ : Mm} {r : Int32 × Mm} (h : F_X12_parses_33 rc5 s0 σ = some r) : Z m_X12_parses S (Qi r) 33 [(0, .ref (sL S 3 0 0))] [.int (s0)] σ := by
  unfold F_X12_parses_33 at h
  refine z_if_ne (tgt := 42) dX12_parses_33 (by decide) (fun q => ?_) (fun q => ?_)
  · have h := (if_neg q).symm.trans h
    refine z_aload_n dX12_parses_42 rfl 0 rfl ?_
    obtain ⟨v, τ, hc, h⟩ := bnd_e h
    refine z_callV (M' := m_X12_pass) (t := 3) (i := 0) (k := 0) (As := []) (rest := []) kl_12_317 oy_X12_pass ⟨Nat.le_of_ble_eq_true rfl, Nat.le_of_ble_eq_true rfl⟩ rfl rfl rfl rfl (Nat.le_of_ble_eq_true rfl) rfl dX12_parses_43 (c_X12_pass hc) (fun v2 τ2 hq => ?_)
    obtain ⟨rfl, hτ⟩ := hq
    subst τ2
    change Z _ _ _ _ _ [.int (v)] _
    exact zb_X12_parses_46 hrc5 h
  · have h := (if_pos q).symm.trans h
    refine z_aload_n dX12_parses_36 rfl 0 rfl ?_
    refine z_iconst (v := 1) dX12_parses_37 (by decide) ?_
    obtain ⟨v, τ, hc, h⟩ := bnd_e h
    refine z_callV (M' := m_X12_wrong) (t := 3) (i := 0) (k := 0) (As := [.int (1)]) (rest := []) kl_12_314 oy_X12_wrong ⟨Nat.le_of_ble_eq_true rfl, Nat.le_of_ble_eq_true rfl⟩ rfl rfl rfl rfl (Nat.le_of_ble_eq_true rfl) rfl dX12_parses_38 (c_X12_wrong hc) (fun v2 τ2 hq => ?_)
    obtain ⟨rfl, hτ⟩ := hq
    subst τ2
    change Z _ _ _ _ _ [.int (v)] _
    refine Z.lv [] rfl ?_
    exact zb_X12_parses_41 h
def F_X12_parses_22 (rc5 : Mm → Option (Int32 × Mm)) (s0 : Int32) (σ : Mm) : Option (Int32 × Mm) := (if s0 = 0 then some (0, σ) else (bnd (F_X12_isSign 59 σ) (fun v τ => (F_X12_parses_33 rc5 v τ))))
set_option maxRecDepth 20000 in
theorem zb_X12_parses_22 {S : Shp} {rc5 : Mm → Option (Int32 × Mm)} (hrc5 : ∀ {σ : Mm} {r : Int32 × Mm}, rc5 σ = some r → Z m_X12_parses S (Qi r) 5 [(0, .ref (sL S 3 0 0))] [] σ) {s0 : Int32} {σ : Mm} {r : Int32 × Mm} (h : F_X12_parses_22 rc5 s0 σ = some r) : Z m_X12_parses S (Qi r) 22 [(0, .ref (sL S 3 0 0))] [.int (s0)] σ := by
  unfold F_X12_parses_22 at h
  refine z_if_ne (tgt := 27) dX12_parses_22 (by decide) (fun q => ?_) (fun q => ?_)
  · have h := (if_neg q).symm.trans h
    refine z_aload_n dX12_parses_27 rfl 0 rfl ?_
    refine z_bipush (v := 59) dX12_parses_28 (by decide) ?_
    obtain ⟨v, τ, hc, h⟩ := bnd_e h
    refine z_callV (M' := m_X12_isSign) (t := 3) (i := 0) (k := 0) (As := [.int (59)]) (rest := []) kl_12_343 oy_X12_isSign ⟨Nat.le_of_ble_eq_true rfl, Nat.le_of_ble_eq_true rfl⟩ rfl rfl rfl rfl (Nat.le_of_ble_eq_true rfl) rfl dX12_parses_30 (c_X12_isSign hc) (fun v2 τ2 hq => ?_)
    obtain ⟨rfl, hτ⟩ := hq
    subst τ2
    change Z _ _ _ _ _ [.int (v)] _
    exact zb_X12_parses_33 hrc5 h
  · have h := (if_pos q).symm.trans h
    refine z_iconst (v := 0) dX12_parses_25 (by decide) ?_
    cases h
    exact z_ireturn dX12_parses_26 rfl rfl ⟨rfl, rfl⟩
def B_X12_parses_5 (rc5 : Mm → Option (Int32 × Mm)) (σ : Mm) : Option (Int32 × Mm) := (if inb (mA σ 3 0 0 7) 2001 = true then (if (mA σ 3 0 2 (mA σ 3 0 0 7).toNatClampNeg) = (4 : Int32) then some (1, σ) else (bnd (F_X12_tell  σ) (fun v τ => (F_X12_parses_22 rc5 v τ)))) else none)
set_option maxRecDepth 20000 in
theorem zB_X12_parses_5 {S : Shp} {rc5 : Mm → Option (Int32 × Mm)} (hrc5 : ∀ {σ : Mm} {r : Int32 × Mm}, rc5 σ = some r → Z m_X12_parses S (Qi r) 5 [(0, .ref (sL S 3 0 0))] [] σ) {σ : Mm} {r : Int32 × Mm} (h : B_X12_parses_5 rc5 σ = some r) : Z m_X12_parses S (Qi r) 5 [(0, .ref (sL S 3 0 0))] [] σ := by
  unfold B_X12_parses_5 at h
  obtain ⟨g1, h⟩ := gd h
  refine z_aload_n dX12_parses_5 rfl 0 rfl ?_
  refine gf_12_13 rfl dX12_parses_6 ?_
  refine z_aload_n dX12_parses_9 rfl 0 rfl ?_
  refine gf_12_305 rfl dX12_parses_10 ?_
  refine ia_3_2 (inb_in g1) dX12_parses_13 ?_
  refine z_iconst (v := 4) dX12_parses_14 (by decide) ?_
  refine z_icmp_eq (tgt := 51) dX12_parses_15 (by decide) (fun q => ?_) (fun q => ?_)
  · have h := (if_pos q).symm.trans h
    refine z_iconst (v := 1) dX12_parses_51 (by decide) ?_
    cases h
    exact z_ireturn dX12_parses_52 rfl rfl ⟨rfl, rfl⟩
  · have h := (if_neg q).symm.trans h
    refine z_aload_n dX12_parses_18 rfl 0 rfl ?_
    obtain ⟨v, τ, hc, h⟩ := bnd_e h
    refine z_callV (M' := m_X12_tell) (t := 3) (i := 0) (k := 0) (As := []) (rest := []) kl_12_395 oy_X12_tell ⟨Nat.le_of_ble_eq_true rfl, Nat.le_of_ble_eq_true rfl⟩ rfl rfl rfl rfl (Nat.le_of_ble_eq_true rfl) rfl dX12_parses_19 (c_X12_tell hc) (fun v2 τ2 hq => ?_)
    obtain ⟨rfl, hτ⟩ := hq
    subst τ2
    change Z _ _ _ _ _ [.int (v)] _
    exact zb_X12_parses_22 hrc5 h
def F_X12_parses_5 : Nat → Mm → Option (Int32 × Mm)
  | 0 => fun _ => none
  | n + 1 => B_X12_parses_5 (F_X12_parses_5 n)
theorem zl_X12_parses_5 {S : Shp} : ∀ (nn : Nat) {σ : Mm} {r : Int32 × Mm}, F_X12_parses_5 nn σ = some r → Z m_X12_parses S (Qi r) 5 [(0, .ref (sL S 3 0 0))] [] σ := by
  intro nn
  induction nn with
  | zero => intro σ r h; cases h
  | succ nn ih => intro σ r h; exact zB_X12_parses_5 @ih h
def F_X12_parses (σ : Mm) : Option (Int32 × Mm) := (F_X12_parses_5 FU (setA σ 3 0 0 (upd (mA σ 3 0 0) 7 0)))
set_option maxRecDepth 20000 in
theorem zb_X12_parses {S : Shp} {σ : Mm} {r : Int32 × Mm} (h : F_X12_parses σ = some r) : Z m_X12_parses S (Qi r) 0 [(0, .ref (sL S 3 0 0))] [] σ := by
  unfold F_X12_parses at h
  refine z_aload_n dX12_parses_0 rfl 0 rfl ?_
  refine z_iconst (v := 0) dX12_parses_1 (by decide) ?_
  refine pf_12_305 rfl dX12_parses_2 ?_
  exact zl_X12_parses_5 FU h
/-- SkyStonesModel.parses()Z -/
theorem c_X12_parses {S : Shp} {σ : Mm} {r : Int32 × Mm} (h : F_X12_parses σ = some r) : Ct m_X12_parses S [.ref (sL S 3 0 0)] σ (Qi r) := Ct.of (by decide +kernel) (Nat.le_of_ble_eq_true rfl) (zb_X12_parses h)
def f_X12_place (σ : Mm) : Int32 := mA σ 3 0 0 9
set_option maxRecDepth 20000 in
theorem zb_X12_place {S : Shp} {σ : Mm} {r : Int32} (hp : okP σ = true) (h : f_X12_place σ = r) : Z m_X12_place S (Qi (r, σ)) 0 [(0, .ref (sL S 3 0 0))] [] σ := by
  unfold f_X12_place at h
  refine z_aload_n dX12_place_0 rfl 0 rfl ?_
  refine gf_12_26 rfl dX12_place_1 ?_
  subst h
  exact z_ireturn dX12_place_4 rfl rfl ⟨rfl, rfl⟩
/-- SkyStonesModel.place()I -/
theorem c_X12_place {S : Shp} {σ : Mm} {r : Int32} (hp : okP σ = true) (h : f_X12_place σ = r) : Ct m_X12_place S [.ref (sL S 3 0 0)] σ (Qi (r, σ)) := Ct.of (by decide +kernel) (Nat.le_of_ble_eq_true rfl) (zb_X12_place hp h)
def F_X12_pointing_28 (s0 : Int32) (σ : Mm) : Option (Int32 × Mm) := some (s0, σ)
set_option maxRecDepth 20000 in
theorem zb_X12_pointing_28 {S : Shp} {s0 : Int32} {σ : Mm} {r : Int32 × Mm} (h : F_X12_pointing_28 s0 σ = some r) : Z m_X12_pointing S (Qi r) 28 [] [.int (s0)] σ := by
  unfold F_X12_pointing_28 at h
  refine z_goto (tgt := 32) dX12_pointing_28 (by decide) ?_
  cases h
  exact z_ireturn dX12_pointing_32 rfl rfl ⟨rfl, rfl⟩
def F_X12_pointing (x1 : Int32) (x2 : Int32) (x3 : Int32) (σ : Mm) : Option (Int32 × Mm) := (if (f_X12_isIn x1 0 359) = 0 then some ((-1), σ) else (if (f_X12_isIn x2 0 20) = 0 then some ((-1), σ) else (bnd (F_X12_pointed x1 x2 x3 σ) (fun v τ => (F_X12_pointing_28 v τ)))))
set_option maxRecDepth 20000 in
theorem zb_X12_pointing {S : Shp} {x1 : Int32} {x2 : Int32} {x3 : Int32} {σ : Mm} {r : Int32 × Mm} (h : F_X12_pointing x1 x2 x3 σ = some r) : Z m_X12_pointing S (Qi r) 0 [(0, .ref (sL S 3 0 0)), (1, .int (x1)), (2, .int (x2)), (3, .int (x3))] [] σ := by
  unfold F_X12_pointing at h
  refine z_iload_n dX12_pointing_0 rfl 1 rfl ?_
  refine z_iconst (v := 0) dX12_pointing_1 (by decide) ?_
  refine z_sipush (v := 359) dX12_pointing_2 (by decide) ?_
  refine z_callS (M' := m_X12_isIn) (As := [.int (x1), .int (0), .int (359)]) (rest := []) kl_12_407 oy_X12_isIn ⟨Nat.le_of_ble_eq_true rfl, Nat.le_of_ble_eq_true rfl⟩ rfl (Nat.le_of_ble_eq_true rfl) rfl dX12_pointing_5 (c_X12_isIn rfl) (fun v τ hq => ?_)
  obtain ⟨rfl, hτ⟩ := hq
  subst τ
  change Z _ _ _ _ _ [.int (f_X12_isIn x1 0 359)] _
  refine z_if_eq (tgt := 31) dX12_pointing_8 (by decide) (fun q => ?_) (fun q => ?_)
  · have h := (if_pos q).symm.trans h
    refine z_iconst (v := (-1)) dX12_pointing_31 (by decide) ?_
    cases h
    exact z_ireturn dX12_pointing_32 rfl rfl ⟨rfl, rfl⟩
  · have h := (if_neg q).symm.trans h
    refine z_iload_n dX12_pointing_11 rfl 2 rfl ?_
    refine z_iconst (v := 0) dX12_pointing_12 (by decide) ?_
    refine z_bipush (v := 20) dX12_pointing_13 (by decide) ?_
    refine z_callS (M' := m_X12_isIn) (As := [.int (x2), .int (0), .int (20)]) (rest := []) kl_12_407 oy_X12_isIn ⟨Nat.le_of_ble_eq_true rfl, Nat.le_of_ble_eq_true rfl⟩ rfl (Nat.le_of_ble_eq_true rfl) rfl dX12_pointing_15 (c_X12_isIn rfl) (fun v τ hq => ?_)
    obtain ⟨rfl, hτ⟩ := hq
    subst τ
    change Z _ _ _ _ _ [.int (f_X12_isIn x2 0 20)] _
    refine z_if_eq (tgt := 31) dX12_pointing_18 (by decide) (fun q => ?_) (fun q => ?_)
    · have h := (if_pos q).symm.trans h
      refine z_iconst (v := (-1)) dX12_pointing_31 (by decide) ?_
      cases h
      exact z_ireturn dX12_pointing_32 rfl rfl ⟨rfl, rfl⟩
    · have h := (if_neg q).symm.trans h
      refine z_aload_n dX12_pointing_21 rfl 0 rfl ?_
      refine z_iload_n dX12_pointing_22 rfl 1 rfl ?_
      refine z_iload_n dX12_pointing_23 rfl 2 rfl ?_
      refine z_iload_n dX12_pointing_24 rfl 3 rfl ?_
      obtain ⟨v, τ, hc, h⟩ := bnd_e h
      refine z_callV (M' := m_X12_pointed) (t := 3) (i := 0) (k := 0) (As := [.int (x1), .int (x2), .int (x3)]) (rest := []) kl_12_516 oy_X12_pointed ⟨Nat.le_of_ble_eq_true rfl, Nat.le_of_ble_eq_true rfl⟩ rfl rfl rfl rfl (Nat.le_of_ble_eq_true rfl) rfl dX12_pointing_25 (c_X12_pointed hc) (fun v2 τ2 hq => ?_)
      obtain ⟨rfl, hτ⟩ := hq
      subst τ2
      change Z _ _ _ _ _ [.int (v)] _
      refine Z.lv [] rfl ?_
      exact zb_X12_pointing_28 h
/-- SkyStonesModel.pointing(IIZ)I -/
theorem c_X12_pointing {S : Shp} {x1 : Int32} {x2 : Int32} {x3 : Int32} {σ : Mm} {r : Int32 × Mm} (h : F_X12_pointing x1 x2 x3 σ = some r) : Ct m_X12_pointing S [.ref (sL S 3 0 0), .int (x1), .int (x2), .int (x3)] σ (Qi r) := Ct.of (by decide +kernel) (Nat.le_of_ble_eq_true rfl) (zb_X12_pointing h)
def F_X12_strikeBy_171 (rc127 : Int32 → Mm → Option (Mm)) (x2 : Int32) (σ : Mm) : Option (Mm) := (rc127 (x2 + 1) σ)
set_option maxRecDepth 20000 in
theorem zb_X12_strikeBy_171 {S : Shp} {rc127 : Int32 → Mm → Option (Mm)} (hrc127 : ∀ {x2 : Int32} {σ : Mm} {r : Mm}, rc127 x2 σ = some r → Z m_X12_strikeBy S (Qv r) 127 [(0, .ref (sL S 3 0 0)), (2, .int (x2))] [] σ) {x2 : Int32} {σ : Mm} {r : Mm} (h : F_X12_strikeBy_171 rc127 x2 σ = some r) : Z m_X12_strikeBy S (Qv r) 171 [(0, .ref (sL S 3 0 0)), (2, .int (x2))] [] σ := by
  unfold F_X12_strikeBy_171 at h
  refine z_iinc (j := 1) (v := x2 + 1) (lv' := [(0, .ref (sL S 3 0 0)), (2, .int (x2 + 1))]) dX12_strikeBy_171 rfl rfl (by decide) [1, 0] rfl ?_
  refine z_goto (tgt := 127) dX12_strikeBy_174 (by decide) ?_
  exact hrc127 h
def B_X12_strikeBy_127 (rc127 : Int32 → Mm → Option (Mm)) (x2 : Int32) (σ : Mm) : Option (Mm) := (if (360 : Int32) ≤ x2 then some (σ) else (if inb x2 360 = true then (if inb (mA σ 3 0 62 x2.toNatClampNeg) 200 = true then (if inb x2 360 = true then (if (mA σ 3 0 61 x2.toNatClampNeg) ≤ (mA σ 3 0 63 (mA σ 3 0 62 x2.toNatClampNeg).toNatClampNeg) then (F_X12_strikeBy_171 rc127 x2 σ) else (if inb x2 360 = true then (if inb (mA σ 3 0 62 x2.toNatClampNeg) 200 = true then (if inb x2 360 = true then (F_X12_strikeBy_171 rc127 x2 (setA σ 3 0 61 (upd (mA σ 3 0 61) x2.toNatClampNeg (mA σ 3 0 63 (mA σ 3 0 62 x2.toNatClampNeg).toNatClampNeg)))) else none) else none) else none)) else none) else none) else none))
set_option maxRecDepth 20000 in
theorem zB_X12_strikeBy_127 {S : Shp} {rc127 : Int32 → Mm → Option (Mm)} (hrc127 : ∀ {x2 : Int32} {σ : Mm} {r : Mm}, rc127 x2 σ = some r → Z m_X12_strikeBy S (Qv r) 127 [(0, .ref (sL S 3 0 0)), (2, .int (x2))] [] σ) {x2 : Int32} {σ : Mm} {r : Mm} (h : B_X12_strikeBy_127 rc127 x2 σ = some r) : Z m_X12_strikeBy S (Qv r) 127 [(0, .ref (sL S 3 0 0)), (2, .int (x2))] [] σ := by
  unfold B_X12_strikeBy_127 at h
  refine z_iload_n dX12_strikeBy_127 rfl 1 rfl ?_
  refine z_sipush (v := 360) dX12_strikeBy_128 (by decide) ?_
  refine z_icmp_ge (tgt := 177) dX12_strikeBy_131 (by decide) (fun q => ?_) (fun q => ?_)
  · have h := (if_pos q).symm.trans h
    cases h
    exact z_return dX12_strikeBy_177 rfl ⟨rfl, rfl⟩
  · have h := (if_neg q).symm.trans h
    obtain ⟨g7, h⟩ := gd h
    refine z_aload_n dX12_strikeBy_134 rfl 0 rfl ?_
    refine gf_12_202 rfl dX12_strikeBy_135 ?_
    refine z_aload_n dX12_strikeBy_138 rfl 0 rfl ?_
    refine gf_12_199 rfl dX12_strikeBy_139 ?_
    refine z_iload_n dX12_strikeBy_142 rfl 1 rfl ?_
    obtain ⟨g8, h⟩ := gd h
    refine ia_3_62 (inb_in g7) dX12_strikeBy_143 ?_
    obtain ⟨g9, h⟩ := gd h
    refine ia_3_63 (inb_in g8) dX12_strikeBy_144 ?_
    refine z_aload_n dX12_strikeBy_145 rfl 0 rfl ?_
    refine gf_12_196 rfl dX12_strikeBy_146 ?_
    refine z_iload_n dX12_strikeBy_149 rfl 1 rfl ?_
    refine ia_3_61 (inb_in g9) dX12_strikeBy_150 ?_
    refine z_icmp_ge (tgt := 171) dX12_strikeBy_151 (by decide) (fun q => ?_) (fun q => ?_)
    · have h := (if_pos q).symm.trans h
      exact zb_X12_strikeBy_171 hrc127 h
    · have h := (if_neg q).symm.trans h
      obtain ⟨g10, h⟩ := gd h
      refine z_aload_n dX12_strikeBy_154 rfl 0 rfl ?_
      refine gf_12_196 rfl dX12_strikeBy_155 ?_
      refine z_iload_n dX12_strikeBy_158 rfl 1 rfl ?_
      refine z_aload_n dX12_strikeBy_159 rfl 0 rfl ?_
      refine gf_12_202 rfl dX12_strikeBy_160 ?_
      refine z_aload_n dX12_strikeBy_163 rfl 0 rfl ?_
      refine gf_12_199 rfl dX12_strikeBy_164 ?_
      refine z_iload_n dX12_strikeBy_167 rfl 1 rfl ?_
      obtain ⟨g11, h⟩ := gd h
      refine ia_3_62 (inb_in g10) dX12_strikeBy_168 ?_
      obtain ⟨g12, h⟩ := gd h
      refine ia_3_63 (inb_in g11) dX12_strikeBy_169 ?_
      refine is_3_61 (inb_in g12) dX12_strikeBy_170 ?_
      exact zb_X12_strikeBy_171 hrc127 h
def F_X12_strikeBy_127 : Nat → Int32 → Mm → Option (Mm)
  | 0 => fun _ _ => none
  | n + 1 => B_X12_strikeBy_127 (F_X12_strikeBy_127 n)
theorem zl_X12_strikeBy_127 {S : Shp} : ∀ (nn : Nat) {x2 : Int32} {σ : Mm} {r : Mm}, F_X12_strikeBy_127 nn x2 σ = some r → Z m_X12_strikeBy S (Qv r) 127 [(0, .ref (sL S 3 0 0)), (2, .int (x2))] [] σ := by
  intro nn
  induction nn with
  | zero => intro x2 σ r h; cases h
  | succ nn ih => intro x2 σ r h; exact zB_X12_strikeBy_127 @ih h
def F_X12_strikeBy_119 (rc98 : Int32 → Mm → Option (Mm)) (x2 : Int32) (σ : Mm) : Option (Mm) := (rc98 (x2 + (-1)) σ)
set_option maxRecDepth 20000 in
theorem zb_X12_strikeBy_119 {S : Shp} {rc98 : Int32 → Mm → Option (Mm)} (hrc98 : ∀ {x2 : Int32} {σ : Mm} {r : Mm}, rc98 x2 σ = some r → Z m_X12_strikeBy S (Qv r) 98 [(0, .ref (sL S 3 0 0)), (2, .int (x2))] [] σ) {x2 : Int32} {σ : Mm} {r : Mm} (h : F_X12_strikeBy_119 rc98 x2 σ = some r) : Z m_X12_strikeBy S (Qv r) 119 [(0, .ref (sL S 3 0 0)), (2, .int (x2))] [] σ := by
  unfold F_X12_strikeBy_119 at h
  refine z_iinc (j := 1) (v := x2 + (-1)) (lv' := [(0, .ref (sL S 3 0 0)), (2, .int (x2 + (-1)))]) dX12_strikeBy_119 rfl rfl (by decide) [1, 0] rfl ?_
  refine z_goto (tgt := 98) dX12_strikeBy_122 (by decide) ?_
  exact hrc98 h
def B_X12_strikeBy_98 (rc98 : Int32 → Mm → Option (Mm)) (x2 : Int32) (σ : Mm) : Option (Mm) := (if x2 < 0 then (F_X12_strikeBy_127 FU 0 σ) else (if inb x2 200 = true then (if inb (x2 + (1 : Int32)) 200 = true then (if inb x2 200 = true then (F_X12_strikeBy_119 rc98 x2 (setA σ 3 0 63 (upd (mA σ 3 0 63) x2.toNatClampNeg ((mA σ 3 0 63 x2.toNatClampNeg) + (mA σ 3 0 63 (x2 + (1 : Int32)).toNatClampNeg))))) else none) else none) else none))
set_option maxRecDepth 20000 in
theorem zB_X12_strikeBy_98 {S : Shp} {rc98 : Int32 → Mm → Option (Mm)} (hrc98 : ∀ {x2 : Int32} {σ : Mm} {r : Mm}, rc98 x2 σ = some r → Z m_X12_strikeBy S (Qv r) 98 [(0, .ref (sL S 3 0 0)), (2, .int (x2))] [] σ) {x2 : Int32} {σ : Mm} {r : Mm} (h : B_X12_strikeBy_98 rc98 x2 σ = some r) : Z m_X12_strikeBy S (Qv r) 98 [(0, .ref (sL S 3 0 0)), (2, .int (x2))] [] σ := by
  unfold B_X12_strikeBy_98 at h
  refine z_iload_n dX12_strikeBy_98 rfl 1 rfl ?_
  refine z_if_lt (tgt := 125) dX12_strikeBy_99 (by decide) (fun q => ?_) (fun q => ?_)
  · have h := (if_pos q).symm.trans h
    refine z_iconst (v := 0) dX12_strikeBy_125 (by decide) ?_
    refine z_istore_n (lv' := [(0, .ref (sL S 3 0 0)), (2, .int (0))]) dX12_strikeBy_126 rfl (by decide) [1, 0] rfl ?_
    exact zl_X12_strikeBy_127 FU h
  · have h := (if_neg q).symm.trans h
    obtain ⟨g2, h⟩ := gd h
    refine z_aload_n dX12_strikeBy_102 rfl 0 rfl ?_
    refine gf_12_202 rfl dX12_strikeBy_103 ?_
    refine z_iload_n dX12_strikeBy_106 rfl 1 rfl ?_
    refine z_dup2_11 dX12_strikeBy_107 rfl rfl ?_
    obtain ⟨g3, h⟩ := gd h
    refine ia_3_63 (inb_in g2) dX12_strikeBy_108 ?_
    refine z_aload_n dX12_strikeBy_109 rfl 0 rfl ?_
    refine gf_12_202 rfl dX12_strikeBy_110 ?_
    refine z_iload_n dX12_strikeBy_113 rfl 1 rfl ?_
    refine z_iconst (v := 1) dX12_strikeBy_114 (by decide) ?_
    refine z_iadd dX12_strikeBy_115 ?_
    obtain ⟨g4, h⟩ := gd h
    refine ia_3_63 (inb_in g3) dX12_strikeBy_116 ?_
    refine z_iadd dX12_strikeBy_117 ?_
    refine is_3_63 (inb_in g4) dX12_strikeBy_118 ?_
    exact zb_X12_strikeBy_119 hrc98 h
def F_X12_strikeBy_98 : Nat → Int32 → Mm → Option (Mm)
  | 0 => fun _ _ => none
  | n + 1 => B_X12_strikeBy_98 (F_X12_strikeBy_98 n)
theorem zl_X12_strikeBy_98 {S : Shp} : ∀ (nn : Nat) {x2 : Int32} {σ : Mm} {r : Mm}, F_X12_strikeBy_98 nn x2 σ = some r → Z m_X12_strikeBy S (Qv r) 98 [(0, .ref (sL S 3 0 0)), (2, .int (x2))] [] σ := by
  intro nn
  induction nn with
  | zero => intro x2 σ r h; cases h
  | succ nn ih => intro x2 σ r h; exact zB_X12_strikeBy_98 @ih h
def F_X12_strikeBy_88 (rc24 : Int32 → Int32 → Mm → Option (Mm)) (x1 : Int32) (x2 : Int32) (σ : Mm) : Option (Mm) := (rc24 x1 (x2 + 1) σ)
set_option maxRecDepth 20000 in
theorem zb_X12_strikeBy_88 {S : Shp} {rc24 : Int32 → Int32 → Mm → Option (Mm)} (hrc24 : ∀ {x1 : Int32} {x2 : Int32} {σ : Mm} {r : Mm}, rc24 x1 x2 σ = some r → Z m_X12_strikeBy S (Qv r) 24 [(0, .ref (sL S 3 0 0)), (1, .int (x1)), (2, .int (x2))] [] σ) {x1 : Int32} {x2 : Int32} {σ : Mm} {r : Mm} (h : F_X12_strikeBy_88 rc24 x1 x2 σ = some r) : Z m_X12_strikeBy S (Qv r) 88 [(0, .ref (sL S 3 0 0)), (1, .int (x1)), (2, .int (x2))] [] σ := by
  unfold F_X12_strikeBy_88 at h
  refine z_iinc (j := 2) (v := x2 + 1) (lv' := [(0, .ref (sL S 3 0 0)), (1, .int (x1)), (2, .int (x2 + 1))]) dX12_strikeBy_88 rfl rfl (by decide) [1, 2, 0] rfl ?_
  refine z_goto (tgt := 24) dX12_strikeBy_91 (by decide) ?_
  exact hrc24 h
def F_X12_strikeBy_78 (rc24 : Int32 → Int32 → Mm → Option (Mm)) (x1 : Int32) (x2 : Int32) (x3 : Int32) (σ : Mm) : Option (Mm) := (if inb x3 200 = true then (if inb x3 200 = true then (F_X12_strikeBy_88 rc24 x1 x2 (setA σ 3 0 63 (upd (mA σ 3 0 63) x3.toNatClampNeg ((mA σ 3 0 63 x3.toNatClampNeg) + (1 : Int32))))) else none) else none)
set_option maxRecDepth 20000 in
theorem zb_X12_strikeBy_78 {S : Shp} {rc24 : Int32 → Int32 → Mm → Option (Mm)} (hrc24 : ∀ {x1 : Int32} {x2 : Int32} {σ : Mm} {r : Mm}, rc24 x1 x2 σ = some r → Z m_X12_strikeBy S (Qv r) 24 [(0, .ref (sL S 3 0 0)), (1, .int (x1)), (2, .int (x2))] [] σ) {x1 : Int32} {x2 : Int32} {x3 : Int32} {σ : Mm} {r : Mm} (h : F_X12_strikeBy_78 rc24 x1 x2 x3 σ = some r) : Z m_X12_strikeBy S (Qv r) 78 [(0, .ref (sL S 3 0 0)), (1, .int (x1)), (2, .int (x2)), (3, .int (x3))] [] σ := by
  unfold F_X12_strikeBy_78 at h
  obtain ⟨g13, h⟩ := gd h
  refine z_aload_n dX12_strikeBy_78 rfl 0 rfl ?_
  refine gf_12_202 rfl dX12_strikeBy_79 ?_
  refine z_iload_n dX12_strikeBy_82 rfl 3 rfl ?_
  refine z_dup2_11 dX12_strikeBy_83 rfl rfl ?_
  obtain ⟨g14, h⟩ := gd h
  refine ia_3_63 (inb_in g13) dX12_strikeBy_84 ?_
  refine z_iconst (v := 1) dX12_strikeBy_85 (by decide) ?_
  refine z_iadd dX12_strikeBy_86 ?_
  refine is_3_63 (inb_in g14) dX12_strikeBy_87 ?_
  refine Z.lv [0, 1, 2] rfl ?_
  exact zb_X12_strikeBy_88 hrc24 h
def F_X12_strikeBy_65 (rc24 : Int32 → Int32 → Mm → Option (Mm)) (rc36 : Int32 → Int32 → Int32 → Int32 → Mm → Option (Mm)) (x1 : Int32) (x2 : Int32) (x3 : Int32) (x4 : Int32) (σ : Mm) : Option (Mm) := (rc36 x1 x2 x3 (x4 + 1) σ)
set_option maxRecDepth 20000 in
theorem zb_X12_strikeBy_65 {S : Shp} {rc24 : Int32 → Int32 → Mm → Option (Mm)} (hrc24 : ∀ {x1 : Int32} {x2 : Int32} {σ : Mm} {r : Mm}, rc24 x1 x2 σ = some r → Z m_X12_strikeBy S (Qv r) 24 [(0, .ref (sL S 3 0 0)), (1, .int (x1)), (2, .int (x2))] [] σ) {rc36 : Int32 → Int32 → Int32 → Int32 → Mm → Option (Mm)} (hrc36 : ∀ {x1 : Int32} {x2 : Int32} {x3 : Int32} {x4 : Int32} {σ : Mm} {r : Mm}, rc36 x1 x2 x3 x4 σ = some r → Z m_X12_strikeBy S (Qv r) 36 [(0, .ref (sL S 3 0 0)), (1, .int (x1)), (2, .int (x2)), (3, .int (x3)), (4, .int (x4))] [] σ) {x1 : Int32} {x2 : Int32} {x3 : Int32} {x4 : Int32} {σ : Mm} {r : Mm} (h : F_X12_strikeBy_65 rc24 rc36 x1 x2 x3 x4 σ = some r) : Z m_X12_strikeBy S (Qv r) 65 [(0, .ref (sL S 3 0 0)), (1, .int (x1)), (2, .int (x2)), (3, .int (x3)), (4, .int (x4))] [] σ := by
  unfold F_X12_strikeBy_65 at h
  refine z_iinc (j := 4) (v := x4 + 1) (lv' := [(0, .ref (sL S 3 0 0)), (1, .int (x1)), (2, .int (x2)), (3, .int (x3)), (4, .int (x4 + 1))]) dX12_strikeBy_65 rfl rfl (by decide) [1, 2, 3, 4, 0] rfl ?_
  refine z_goto (tgt := 36) dX12_strikeBy_68 (by decide) ?_
  exact hrc36 h
def B_X12_strikeBy_36 (rc24 : Int32 → Int32 → Mm → Option (Mm)) (rc36 : Int32 → Int32 → Int32 → Int32 → Mm → Option (Mm)) (x1 : Int32) (x2 : Int32) (x3 : Int32) (x4 : Int32) (σ : Mm) : Option (Mm) := (if (196 : Int32) ≤ x4 then (if inb x2 360 = true then (F_X12_strikeBy_78 rc24 x1 x2 x3 (setA σ 3 0 62 (upd (mA σ 3 0 62) x2.toNatClampNeg x3))) else none) else (if inb (((196 : Int32) * x2) + x4) 70560 = true then (if ((mA σ 3 0 64 (((196 : Int32) * x2) + x4).toNatClampNeg) &&& x1) = 0 then (F_X12_strikeBy_65 rc24 rc36 x1 x2 x3 x4 σ) else (F_X12_strikeBy_65 rc24 rc36 x1 x2 (x3 + 1) x4 σ)) else none))
set_option maxRecDepth 20000 in
theorem zB_X12_strikeBy_36 {S : Shp} {rc24 : Int32 → Int32 → Mm → Option (Mm)} (hrc24 : ∀ {x1 : Int32} {x2 : Int32} {σ : Mm} {r : Mm}, rc24 x1 x2 σ = some r → Z m_X12_strikeBy S (Qv r) 24 [(0, .ref (sL S 3 0 0)), (1, .int (x1)), (2, .int (x2))] [] σ) {rc36 : Int32 → Int32 → Int32 → Int32 → Mm → Option (Mm)} (hrc36 : ∀ {x1 : Int32} {x2 : Int32} {x3 : Int32} {x4 : Int32} {σ : Mm} {r : Mm}, rc36 x1 x2 x3 x4 σ = some r → Z m_X12_strikeBy S (Qv r) 36 [(0, .ref (sL S 3 0 0)), (1, .int (x1)), (2, .int (x2)), (3, .int (x3)), (4, .int (x4))] [] σ) {x1 : Int32} {x2 : Int32} {x3 : Int32} {x4 : Int32} {σ : Mm} {r : Mm} (h : B_X12_strikeBy_36 rc24 rc36 x1 x2 x3 x4 σ = some r) : Z m_X12_strikeBy S (Qv r) 36 [(0, .ref (sL S 3 0 0)), (1, .int (x1)), (2, .int (x2)), (3, .int (x3)), (4, .int (x4))] [] σ := by
  unfold B_X12_strikeBy_36 at h
  refine z_iload dX12_strikeBy_36 4 rfl ?_
  refine z_sipush (v := 196) dX12_strikeBy_38 (by decide) ?_
  refine z_icmp_ge (tgt := 71) dX12_strikeBy_41 (by decide) (fun q => ?_) (fun q => ?_)
  · have h := (if_pos q).symm.trans h
    obtain ⟨g5, h⟩ := gd h
    refine z_aload_n dX12_strikeBy_71 rfl 0 rfl ?_
    refine gf_12_199 rfl dX12_strikeBy_72 ?_
    refine z_iload_n dX12_strikeBy_75 rfl 2 rfl ?_
    refine z_iload_n dX12_strikeBy_76 rfl 3 rfl ?_
    refine is_3_62 (inb_in g5) dX12_strikeBy_77 ?_
    refine Z.lv [0, 1, 2, 3] rfl ?_
    exact zb_X12_strikeBy_78 hrc24 h
  · have h := (if_neg q).symm.trans h
    obtain ⟨g6, h⟩ := gd h
    refine z_aload_n dX12_strikeBy_44 rfl 0 rfl ?_
    refine gf_12_206 rfl dX12_strikeBy_45 ?_
    refine z_sipush (v := 196) dX12_strikeBy_48 (by decide) ?_
    refine z_iload_n dX12_strikeBy_51 rfl 2 rfl ?_
    refine z_imul dX12_strikeBy_52 ?_
    refine z_iload dX12_strikeBy_53 4 rfl ?_
    refine z_iadd dX12_strikeBy_55 ?_
    refine ia_3_64 (inb_in g6) dX12_strikeBy_56 ?_
    refine z_iload_n dX12_strikeBy_57 rfl 1 rfl ?_
    refine z_iand dX12_strikeBy_58 ?_
    refine z_if_eq (tgt := 65) dX12_strikeBy_59 (by decide) (fun q => ?_) (fun q => ?_)
    · have h := (if_pos q).symm.trans h
      exact zb_X12_strikeBy_65 hrc24 hrc36 h
    · have h := (if_neg q).symm.trans h
      refine z_iinc (j := 3) (v := x3 + 1) (lv' := [(0, .ref (sL S 3 0 0)), (1, .int (x1)), (2, .int (x2)), (3, .int (x3 + 1)), (4, .int (x4))]) dX12_strikeBy_62 rfl rfl (by decide) [1, 2, 3, 0, 4] rfl ?_
      exact zb_X12_strikeBy_65 hrc24 hrc36 h
def F_X12_strikeBy_36 (rc24 : Int32 → Int32 → Mm → Option (Mm)) : Nat → Int32 → Int32 → Int32 → Int32 → Mm → Option (Mm)
  | 0 => fun _ _ _ _ _ => none
  | n + 1 => B_X12_strikeBy_36 rc24 (F_X12_strikeBy_36 rc24 n)
theorem zl_X12_strikeBy_36 {S : Shp} {rc24 : Int32 → Int32 → Mm → Option (Mm)} (hrc24 : ∀ {x1 : Int32} {x2 : Int32} {σ : Mm} {r : Mm}, rc24 x1 x2 σ = some r → Z m_X12_strikeBy S (Qv r) 24 [(0, .ref (sL S 3 0 0)), (1, .int (x1)), (2, .int (x2))] [] σ) : ∀ (nn : Nat) {x1 : Int32} {x2 : Int32} {x3 : Int32} {x4 : Int32} {σ : Mm} {r : Mm}, F_X12_strikeBy_36 rc24 nn x1 x2 x3 x4 σ = some r → Z m_X12_strikeBy S (Qv r) 36 [(0, .ref (sL S 3 0 0)), (1, .int (x1)), (2, .int (x2)), (3, .int (x3)), (4, .int (x4))] [] σ := by
  intro nn
  induction nn with
  | zero => intro x1 x2 x3 x4 σ r h; cases h
  | succ nn ih => intro x1 x2 x3 x4 σ r h; exact zB_X12_strikeBy_36 hrc24 @ih h
def B_X12_strikeBy_24 (rc24 : Int32 → Int32 → Mm → Option (Mm)) (x1 : Int32) (x2 : Int32) (σ : Mm) : Option (Mm) := (if (360 : Int32) ≤ x2 then (F_X12_strikeBy_98 FU 198 σ) else (F_X12_strikeBy_36 rc24 FU x1 x2 0 0 σ))
set_option maxRecDepth 20000 in
theorem zB_X12_strikeBy_24 {S : Shp} {rc24 : Int32 → Int32 → Mm → Option (Mm)} (hrc24 : ∀ {x1 : Int32} {x2 : Int32} {σ : Mm} {r : Mm}, rc24 x1 x2 σ = some r → Z m_X12_strikeBy S (Qv r) 24 [(0, .ref (sL S 3 0 0)), (1, .int (x1)), (2, .int (x2))] [] σ) {x1 : Int32} {x2 : Int32} {σ : Mm} {r : Mm} (h : B_X12_strikeBy_24 rc24 x1 x2 σ = some r) : Z m_X12_strikeBy S (Qv r) 24 [(0, .ref (sL S 3 0 0)), (1, .int (x1)), (2, .int (x2))] [] σ := by
  unfold B_X12_strikeBy_24 at h
  refine z_iload_n dX12_strikeBy_24 rfl 2 rfl ?_
  refine z_sipush (v := 360) dX12_strikeBy_25 (by decide) ?_
  refine z_icmp_ge (tgt := 94) dX12_strikeBy_28 (by decide) (fun q => ?_) (fun q => ?_)
  · have h := (if_pos q).symm.trans h
    refine z_sipush (v := 198) dX12_strikeBy_94 (by decide) ?_
    refine z_istore_n (lv' := [(0, .ref (sL S 3 0 0)), (1, .int (x1)), (2, .int (198))]) dX12_strikeBy_97 rfl (by decide) [1, 2, 0] rfl ?_
    refine Z.lv [0, 2] rfl ?_
    exact zl_X12_strikeBy_98 FU h
  · have h := (if_neg q).symm.trans h
    refine z_iconst (v := 0) dX12_strikeBy_31 (by decide) ?_
    refine z_istore_n (lv' := [(0, .ref (sL S 3 0 0)), (1, .int (x1)), (2, .int (x2)), (3, .int (0))]) dX12_strikeBy_32 rfl (by decide) [1, 2, 3, 0] rfl ?_
    refine z_iconst (v := 0) dX12_strikeBy_33 (by decide) ?_
    refine z_istore (lv' := [(0, .ref (sL S 3 0 0)), (1, .int (x1)), (2, .int (x2)), (3, .int (0)), (4, .int (0))]) dX12_strikeBy_34 (by decide) [1, 2, 3, 4, 0] rfl ?_
    exact zl_X12_strikeBy_36 hrc24 FU h
def F_X12_strikeBy_24 : Nat → Int32 → Int32 → Mm → Option (Mm)
  | 0 => fun _ _ _ => none
  | n + 1 => B_X12_strikeBy_24 (F_X12_strikeBy_24 n)
theorem zl_X12_strikeBy_24 {S : Shp} : ∀ (nn : Nat) {x1 : Int32} {x2 : Int32} {σ : Mm} {r : Mm}, F_X12_strikeBy_24 nn x1 x2 σ = some r → Z m_X12_strikeBy S (Qv r) 24 [(0, .ref (sL S 3 0 0)), (1, .int (x1)), (2, .int (x2))] [] σ := by
  intro nn
  induction nn with
  | zero => intro x1 x2 σ r h; cases h
  | succ nn ih => intro x1 x2 σ r h; exact zB_X12_strikeBy_24 @ih h
def F_X12_strikeBy_16 (rc2 : Int32 → Int32 → Mm → Option (Mm)) (x1 : Int32) (x2 : Int32) (σ : Mm) : Option (Mm) := (rc2 x1 (x2 + 1) σ)
set_option maxRecDepth 20000 in
theorem zb_X12_strikeBy_16 {S : Shp} {rc2 : Int32 → Int32 → Mm → Option (Mm)} (hrc2 : ∀ {x1 : Int32} {x2 : Int32} {σ : Mm} {r : Mm}, rc2 x1 x2 σ = some r → Z m_X12_strikeBy S (Qv r) 2 [(0, .ref (sL S 3 0 0)), (1, .int (x1)), (2, .int (x2))] [] σ) {x1 : Int32} {x2 : Int32} {σ : Mm} {r : Mm} (h : F_X12_strikeBy_16 rc2 x1 x2 σ = some r) : Z m_X12_strikeBy S (Qv r) 16 [(0, .ref (sL S 3 0 0)), (1, .int (x1)), (2, .int (x2))] [] σ := by
  unfold F_X12_strikeBy_16 at h
  refine z_iinc (j := 2) (v := x2 + 1) (lv' := [(0, .ref (sL S 3 0 0)), (1, .int (x1)), (2, .int (x2 + 1))]) dX12_strikeBy_16 rfl rfl (by decide) [1, 2, 0] rfl ?_
  refine z_goto (tgt := 2) dX12_strikeBy_19 (by decide) ?_
  exact hrc2 h
def B_X12_strikeBy_2 (rc2 : Int32 → Int32 → Mm → Option (Mm)) (x1 : Int32) (x2 : Int32) (σ : Mm) : Option (Mm) := (if (200 : Int32) ≤ x2 then (F_X12_strikeBy_24 FU x1 0 σ) else (if inb x2 200 = true then (F_X12_strikeBy_16 rc2 x1 x2 (setA σ 3 0 63 (upd (mA σ 3 0 63) x2.toNatClampNeg 0))) else none))
set_option maxRecDepth 20000 in
theorem zB_X12_strikeBy_2 {S : Shp} {rc2 : Int32 → Int32 → Mm → Option (Mm)} (hrc2 : ∀ {x1 : Int32} {x2 : Int32} {σ : Mm} {r : Mm}, rc2 x1 x2 σ = some r → Z m_X12_strikeBy S (Qv r) 2 [(0, .ref (sL S 3 0 0)), (1, .int (x1)), (2, .int (x2))] [] σ) {x1 : Int32} {x2 : Int32} {σ : Mm} {r : Mm} (h : B_X12_strikeBy_2 rc2 x1 x2 σ = some r) : Z m_X12_strikeBy S (Qv r) 2 [(0, .ref (sL S 3 0 0)), (1, .int (x1)), (2, .int (x2))] [] σ := by
  unfold B_X12_strikeBy_2 at h
  refine z_iload_n dX12_strikeBy_2 rfl 2 rfl ?_
  refine z_sipush (v := 200) dX12_strikeBy_3 (by decide) ?_
  refine z_icmp_ge (tgt := 22) dX12_strikeBy_6 (by decide) (fun q => ?_) (fun q => ?_)
  · have h := (if_pos q).symm.trans h
    refine z_iconst (v := 0) dX12_strikeBy_22 (by decide) ?_
    refine z_istore_n (lv' := [(0, .ref (sL S 3 0 0)), (1, .int (x1)), (2, .int (0))]) dX12_strikeBy_23 rfl (by decide) [1, 2, 0] rfl ?_
    exact zl_X12_strikeBy_24 FU h
  · have h := (if_neg q).symm.trans h
    obtain ⟨g1, h⟩ := gd h
    refine z_aload_n dX12_strikeBy_9 rfl 0 rfl ?_
    refine gf_12_202 rfl dX12_strikeBy_10 ?_
    refine z_iload_n dX12_strikeBy_13 rfl 2 rfl ?_
    refine z_iconst (v := 0) dX12_strikeBy_14 (by decide) ?_
    refine is_3_63 (inb_in g1) dX12_strikeBy_15 ?_
    exact zb_X12_strikeBy_16 hrc2 h
def F_X12_strikeBy_2 : Nat → Int32 → Int32 → Mm → Option (Mm)
  | 0 => fun _ _ _ => none
  | n + 1 => B_X12_strikeBy_2 (F_X12_strikeBy_2 n)
theorem zl_X12_strikeBy_2 {S : Shp} : ∀ (nn : Nat) {x1 : Int32} {x2 : Int32} {σ : Mm} {r : Mm}, F_X12_strikeBy_2 nn x1 x2 σ = some r → Z m_X12_strikeBy S (Qv r) 2 [(0, .ref (sL S 3 0 0)), (1, .int (x1)), (2, .int (x2))] [] σ := by
  intro nn
  induction nn with
  | zero => intro x1 x2 σ r h; cases h
  | succ nn ih => intro x1 x2 σ r h; exact zB_X12_strikeBy_2 @ih h
def F_X12_strikeBy (x1 : Int32) (σ : Mm) : Option (Mm) := (F_X12_strikeBy_2 FU x1 0 σ)
set_option maxRecDepth 20000 in
theorem zb_X12_strikeBy {S : Shp} {x1 : Int32} {σ : Mm} {r : Mm} (h : F_X12_strikeBy x1 σ = some r) : Z m_X12_strikeBy S (Qv r) 0 [(0, .ref (sL S 3 0 0)), (1, .int (x1))] [] σ := by
  unfold F_X12_strikeBy at h
  refine z_iconst (v := 0) dX12_strikeBy_0 (by decide) ?_
  refine z_istore_n (lv' := [(0, .ref (sL S 3 0 0)), (1, .int (x1)), (2, .int (0))]) dX12_strikeBy_1 rfl (by decide) [1, 2, 0] rfl ?_
  exact zl_X12_strikeBy_2 FU h
/-- SkyStonesModel.strikeBy(I)V -/
theorem c_X12_strikeBy {S : Shp} {x1 : Int32} {σ : Mm} {r : Mm} (h : F_X12_strikeBy x1 σ = some r) : Ct m_X12_strikeBy S [.ref (sL S 3 0 0), .int (x1)] σ (Qv r) := Ct.of (by decide +kernel) (Nat.le_of_ble_eq_true rfl) (zb_X12_strikeBy h)
def F_X12_strike_121 (rc26 : Int32 → Mm → Option (Mm)) (rc104 : Int32 → Int32 → Mm → Option (Mm)) (x1 : Int32) (x2 : Int32) (σ : Mm) : Option (Mm) := (rc104 x1 (x2 + 1) σ)
set_option maxRecDepth 20000 in
theorem zb_X12_strike_121 {S : Shp} {rc26 : Int32 → Mm → Option (Mm)} (hrc26 : ∀ {x1 : Int32} {σ : Mm} {r : Mm}, rc26 x1 σ = some r → Z m_X12_strike S (Qv r) 26 [(0, .ref (sL S 3 0 0)), (1, .int (x1))] [] σ) {rc104 : Int32 → Int32 → Mm → Option (Mm)} (hrc104 : ∀ {x1 : Int32} {x2 : Int32} {σ : Mm} {r : Mm}, rc104 x1 x2 σ = some r → Z m_X12_strike S (Qv r) 104 [(0, .ref (sL S 3 0 0)), (1, .int (x1)), (2, .int (x2))] [] σ) {x1 : Int32} {x2 : Int32} {σ : Mm} {r : Mm} (h : F_X12_strike_121 rc26 rc104 x1 x2 σ = some r) : Z m_X12_strike S (Qv r) 121 [(0, .ref (sL S 3 0 0)), (1, .int (x1)), (2, .int (x2))] [] σ := by
  unfold F_X12_strike_121 at h
  refine z_iinc (j := 2) (v := x2 + 1) (lv' := [(0, .ref (sL S 3 0 0)), (1, .int (x1)), (2, .int (x2 + 1))]) dX12_strike_121 rfl rfl (by decide) [1, 2, 0] rfl ?_
  refine z_goto (tgt := 104) dX12_strike_124 (by decide) ?_
  exact hrc104 h
def B_X12_strike_104 (rc26 : Int32 → Mm → Option (Mm)) (rc104 : Int32 → Int32 → Mm → Option (Mm)) (x1 : Int32) (x2 : Int32) (σ : Mm) : Option (Mm) := (if inb 0 5 = true then (if ((1 : Int32) <<< ((mA σ 3 0 21 (0 : Int32).toNatClampNeg) &&& 31)) ≤ x2 then (rc26 (x1 + 1) σ) else (bnv (F_X12_strikeBy x2 σ) (fun τ => (F_X12_strike_121 rc26 rc104 x1 x2 τ)))) else none)
set_option maxRecDepth 20000 in
theorem zB_X12_strike_104 {S : Shp} {rc26 : Int32 → Mm → Option (Mm)} (hrc26 : ∀ {x1 : Int32} {σ : Mm} {r : Mm}, rc26 x1 σ = some r → Z m_X12_strike S (Qv r) 26 [(0, .ref (sL S 3 0 0)), (1, .int (x1))] [] σ) {rc104 : Int32 → Int32 → Mm → Option (Mm)} (hrc104 : ∀ {x1 : Int32} {x2 : Int32} {σ : Mm} {r : Mm}, rc104 x1 x2 σ = some r → Z m_X12_strike S (Qv r) 104 [(0, .ref (sL S 3 0 0)), (1, .int (x1)), (2, .int (x2))] [] σ) {x1 : Int32} {x2 : Int32} {σ : Mm} {r : Mm} (h : B_X12_strike_104 rc26 rc104 x1 x2 σ = some r) : Z m_X12_strike S (Qv r) 104 [(0, .ref (sL S 3 0 0)), (1, .int (x1)), (2, .int (x2))] [] σ := by
  unfold B_X12_strike_104 at h
  obtain ⟨g2, h⟩ := gd h
  refine z_iload_n dX12_strike_104 rfl 2 rfl ?_
  refine z_iconst (v := 1) dX12_strike_105 (by decide) ?_
  refine z_aload_n dX12_strike_106 rfl 0 rfl ?_
  refine gf_12_76 rfl dX12_strike_107 ?_
  refine z_iconst (v := 0) dX12_strike_110 (by decide) ?_
  refine ia_3_21 (inb_in g2) dX12_strike_111 ?_
  refine z_ishl dX12_strike_112 ?_
  refine z_icmp_ge (tgt := 127) dX12_strike_113 (by decide) (fun q => ?_) (fun q => ?_)
  · have h := (if_pos q).symm.trans h
    refine z_iinc (j := 1) (v := x1 + 1) (lv' := [(0, .ref (sL S 3 0 0)), (1, .int (x1 + 1)), (2, .int (x2))]) dX12_strike_127 rfl rfl (by decide) [1, 0, 2] rfl ?_
    refine z_goto (tgt := 26) dX12_strike_130 (by decide) ?_
    refine Z.lv [0, 1] rfl ?_
    exact hrc26 h
  · have h := (if_neg q).symm.trans h
    refine z_aload_n dX12_strike_116 rfl 0 rfl ?_
    refine z_iload_n dX12_strike_117 rfl 2 rfl ?_
    obtain ⟨τ, hc, h⟩ := bnv_e h
    refine z_callV (M' := m_X12_strikeBy) (t := 3) (i := 0) (k := 0) (As := [.int (x2)]) (rest := []) kl_12_503 oy_X12_strikeBy ⟨Nat.le_of_ble_eq_true rfl, Nat.le_of_ble_eq_true rfl⟩ rfl rfl rfl rfl (Nat.le_of_ble_eq_true rfl) rfl dX12_strike_118 (c_X12_strikeBy hc) (fun v2 τ2 hq => ?_)
    obtain ⟨rfl, hτ⟩ := hq
    subst τ2
    change Z _ _ _ _ _ [] _
    exact zb_X12_strike_121 hrc26 hrc104 h
def F_X12_strike_104 (rc26 : Int32 → Mm → Option (Mm)) : Nat → Int32 → Int32 → Mm → Option (Mm)
  | 0 => fun _ _ _ => none
  | n + 1 => B_X12_strike_104 rc26 (F_X12_strike_104 rc26 n)
theorem zl_X12_strike_104 {S : Shp} {rc26 : Int32 → Mm → Option (Mm)} (hrc26 : ∀ {x1 : Int32} {σ : Mm} {r : Mm}, rc26 x1 σ = some r → Z m_X12_strike S (Qv r) 26 [(0, .ref (sL S 3 0 0)), (1, .int (x1))] [] σ) : ∀ (nn : Nat) {x1 : Int32} {x2 : Int32} {σ : Mm} {r : Mm}, F_X12_strike_104 rc26 nn x1 x2 σ = some r → Z m_X12_strike S (Qv r) 104 [(0, .ref (sL S 3 0 0)), (1, .int (x1)), (2, .int (x2))] [] σ := by
  intro nn
  induction nn with
  | zero => intro x1 x2 σ r h; cases h
  | succ nn ih => intro x1 x2 σ r h; exact zB_X12_strike_104 hrc26 @ih h
def F_X12_strike_90 (rc26 : Int32 → Mm → Option (Mm)) (rc33 : Int32 → Int32 → Mm → Option (Mm)) (rc42 : Int32 → Int32 → Int32 → Mm → Option (Mm)) (x1 : Int32) (x2 : Int32) (x3 : Int32) (σ : Mm) : Option (Mm) := (rc42 x1 x2 (x3 + 1) σ)
set_option maxRecDepth 20000 in
theorem zb_X12_strike_90 {S : Shp} {rc26 : Int32 → Mm → Option (Mm)} (hrc26 : ∀ {x1 : Int32} {σ : Mm} {r : Mm}, rc26 x1 σ = some r → Z m_X12_strike S (Qv r) 26 [(0, .ref (sL S 3 0 0)), (1, .int (x1))] [] σ) {rc33 : Int32 → Int32 → Mm → Option (Mm)} (hrc33 : ∀ {x1 : Int32} {x2 : Int32} {σ : Mm} {r : Mm}, rc33 x1 x2 σ = some r → Z m_X12_strike S (Qv r) 33 [(0, .ref (sL S 3 0 0)), (1, .int (x1)), (2, .int (x2))] [] σ) {rc42 : Int32 → Int32 → Int32 → Mm → Option (Mm)} (hrc42 : ∀ {x1 : Int32} {x2 : Int32} {x3 : Int32} {σ : Mm} {r : Mm}, rc42 x1 x2 x3 σ = some r → Z m_X12_strike S (Qv r) 42 [(0, .ref (sL S 3 0 0)), (1, .int (x1)), (2, .int (x2)), (3, .int (x3))] [] σ) {x1 : Int32} {x2 : Int32} {x3 : Int32} {σ : Mm} {r : Mm} (h : F_X12_strike_90 rc26 rc33 rc42 x1 x2 x3 σ = some r) : Z m_X12_strike S (Qv r) 90 [(0, .ref (sL S 3 0 0)), (1, .int (x1)), (2, .int (x2)), (3, .int (x3))] [] σ := by
  unfold F_X12_strike_90 at h
  refine z_iinc (j := 3) (v := x3 + 1) (lv' := [(0, .ref (sL S 3 0 0)), (1, .int (x1)), (2, .int (x2)), (3, .int (x3 + 1))]) dX12_strike_90 rfl rfl (by decide) [1, 2, 3, 0] rfl ?_
  refine z_goto (tgt := 42) dX12_strike_93 (by decide) ?_
  exact hrc42 h
def F_X12_strike_89 (rc26 : Int32 → Mm → Option (Mm)) (rc33 : Int32 → Int32 → Mm → Option (Mm)) (rc42 : Int32 → Int32 → Int32 → Mm → Option (Mm)) (x1 : Int32) (x2 : Int32) (x3 : Int32) (s0 : Int32) (s1 : Int32) (σ : Mm) : Option (Mm) := (if inb s1 70560 = true then (F_X12_strike_90 rc26 rc33 rc42 x1 x2 x3 (setA σ 3 0 64 (upd (mA σ 3 0 64) s1.toNatClampNeg s0))) else none)
set_option maxRecDepth 20000 in
theorem zb_X12_strike_89 {S : Shp} {rc26 : Int32 → Mm → Option (Mm)} (hrc26 : ∀ {x1 : Int32} {σ : Mm} {r : Mm}, rc26 x1 σ = some r → Z m_X12_strike S (Qv r) 26 [(0, .ref (sL S 3 0 0)), (1, .int (x1))] [] σ) {rc33 : Int32 → Int32 → Mm → Option (Mm)} (hrc33 : ∀ {x1 : Int32} {x2 : Int32} {σ : Mm} {r : Mm}, rc33 x1 x2 σ = some r → Z m_X12_strike S (Qv r) 33 [(0, .ref (sL S 3 0 0)), (1, .int (x1)), (2, .int (x2))] [] σ) {rc42 : Int32 → Int32 → Int32 → Mm → Option (Mm)} (hrc42 : ∀ {x1 : Int32} {x2 : Int32} {x3 : Int32} {σ : Mm} {r : Mm}, rc42 x1 x2 x3 σ = some r → Z m_X12_strike S (Qv r) 42 [(0, .ref (sL S 3 0 0)), (1, .int (x1)), (2, .int (x2)), (3, .int (x3))] [] σ) {x1 : Int32} {x2 : Int32} {x3 : Int32} {s0 : Int32} {s1 : Int32} {σ : Mm} {r : Mm} (h : F_X12_strike_89 rc26 rc33 rc42 x1 x2 x3 s0 s1 σ = some r) : Z m_X12_strike S (Qv r) 89 [(0, .ref (sL S 3 0 0)), (1, .int (x1)), (2, .int (x2)), (3, .int (x3))] [.int (s0), .int (s1), .ref (sL S 3 0 64)] σ := by
  unfold F_X12_strike_89 at h
  obtain ⟨g5, h⟩ := gd h
  refine is_3_64 (inb_in g5) dX12_strike_89 ?_
  exact zb_X12_strike_90 hrc26 hrc33 hrc42 h
def F_X12_strike_85 (rc26 : Int32 → Mm → Option (Mm)) (rc33 : Int32 → Int32 → Mm → Option (Mm)) (rc42 : Int32 → Int32 → Int32 → Mm → Option (Mm)) (x1 : Int32) (x2 : Int32) (x3 : Int32) (s0 : Int32) (s1 : Int32) (σ : Mm) : Option (Mm) := (F_X12_strike_89 rc26 rc33 rc42 x1 x2 x3 s0 s1 σ)
set_option maxRecDepth 20000 in
theorem zb_X12_strike_85 {S : Shp} {rc26 : Int32 → Mm → Option (Mm)} (hrc26 : ∀ {x1 : Int32} {σ : Mm} {r : Mm}, rc26 x1 σ = some r → Z m_X12_strike S (Qv r) 26 [(0, .ref (sL S 3 0 0)), (1, .int (x1))] [] σ) {rc33 : Int32 → Int32 → Mm → Option (Mm)} (hrc33 : ∀ {x1 : Int32} {x2 : Int32} {σ : Mm} {r : Mm}, rc33 x1 x2 σ = some r → Z m_X12_strike S (Qv r) 33 [(0, .ref (sL S 3 0 0)), (1, .int (x1)), (2, .int (x2))] [] σ) {rc42 : Int32 → Int32 → Int32 → Mm → Option (Mm)} (hrc42 : ∀ {x1 : Int32} {x2 : Int32} {x3 : Int32} {σ : Mm} {r : Mm}, rc42 x1 x2 x3 σ = some r → Z m_X12_strike S (Qv r) 42 [(0, .ref (sL S 3 0 0)), (1, .int (x1)), (2, .int (x2)), (3, .int (x3))] [] σ) {x1 : Int32} {x2 : Int32} {x3 : Int32} {s0 : Int32} {s1 : Int32} {σ : Mm} {r : Mm} (h : F_X12_strike_85 rc26 rc33 rc42 x1 x2 x3 s0 s1 σ = some r) : Z m_X12_strike S (Qv r) 85 [(0, .ref (sL S 3 0 0)), (1, .int (x1)), (2, .int (x2)), (3, .int (x3))] [.int (s0), .int (s1), .ref (sL S 3 0 64)] σ := by
  unfold F_X12_strike_85 at h
  refine z_goto (tgt := 89) dX12_strike_85 (by decide) ?_
  exact zb_X12_strike_89 hrc26 hrc33 hrc42 h
def B_X12_strike_42 (rc26 : Int32 → Mm → Option (Mm)) (rc33 : Int32 → Int32 → Mm → Option (Mm)) (rc42 : Int32 → Int32 → Int32 → Mm → Option (Mm)) (x1 : Int32) (x2 : Int32) (x3 : Int32) (σ : Mm) : Option (Mm) := (if (196 : Int32) ≤ x3 then (rc33 x1 (x2 + 1) σ) else (if inb x3 196 = true then (if (mA σ 3 0 55 x3.toNatClampNeg) = 0 then (F_X12_strike_89 rc26 rc33 rc42 x1 x2 x3 0 (((196 : Int32) * x2) + x3) σ) else (if inb x3 196 = true then (bnd (F_X12_hitBy (f_X12_turned (mA σ 3 0 53 x3.toNatClampNeg) x2) x1 0 σ) (fun v τ => (F_X12_strike_85 rc26 rc33 rc42 x1 x2 x3 v (((196 : Int32) * x2) + x3) τ))) else none)) else none))
set_option maxRecDepth 20000 in
theorem zB_X12_strike_42 {S : Shp} {rc26 : Int32 → Mm → Option (Mm)} (hrc26 : ∀ {x1 : Int32} {σ : Mm} {r : Mm}, rc26 x1 σ = some r → Z m_X12_strike S (Qv r) 26 [(0, .ref (sL S 3 0 0)), (1, .int (x1))] [] σ) {rc33 : Int32 → Int32 → Mm → Option (Mm)} (hrc33 : ∀ {x1 : Int32} {x2 : Int32} {σ : Mm} {r : Mm}, rc33 x1 x2 σ = some r → Z m_X12_strike S (Qv r) 33 [(0, .ref (sL S 3 0 0)), (1, .int (x1)), (2, .int (x2))] [] σ) {rc42 : Int32 → Int32 → Int32 → Mm → Option (Mm)} (hrc42 : ∀ {x1 : Int32} {x2 : Int32} {x3 : Int32} {σ : Mm} {r : Mm}, rc42 x1 x2 x3 σ = some r → Z m_X12_strike S (Qv r) 42 [(0, .ref (sL S 3 0 0)), (1, .int (x1)), (2, .int (x2)), (3, .int (x3))] [] σ) {x1 : Int32} {x2 : Int32} {x3 : Int32} {σ : Mm} {r : Mm} (h : B_X12_strike_42 rc26 rc33 rc42 x1 x2 x3 σ = some r) : Z m_X12_strike S (Qv r) 42 [(0, .ref (sL S 3 0 0)), (1, .int (x1)), (2, .int (x2)), (3, .int (x3))] [] σ := by
  unfold B_X12_strike_42 at h
  refine z_iload_n dX12_strike_42 rfl 3 rfl ?_
  refine z_sipush (v := 196) dX12_strike_43 (by decide) ?_
  refine z_icmp_ge (tgt := 96) dX12_strike_46 (by decide) (fun q => ?_) (fun q => ?_)
  · have h := (if_pos q).symm.trans h
    refine z_iinc (j := 2) (v := x2 + 1) (lv' := [(0, .ref (sL S 3 0 0)), (1, .int (x1)), (2, .int (x2 + 1)), (3, .int (x3))]) dX12_strike_96 rfl rfl (by decide) [1, 2, 0, 3] rfl ?_
    refine z_goto (tgt := 33) dX12_strike_99 (by decide) ?_
    refine Z.lv [0, 1, 2] rfl ?_
    exact hrc33 h
  · have h := (if_neg q).symm.trans h
    obtain ⟨g3, h⟩ := gd h
    refine z_aload_n dX12_strike_49 rfl 0 rfl ?_
    refine gf_12_206 rfl dX12_strike_50 ?_
    refine z_sipush (v := 196) dX12_strike_53 (by decide) ?_
    refine z_iload_n dX12_strike_56 rfl 2 rfl ?_
    refine z_imul dX12_strike_57 ?_
    refine z_iload_n dX12_strike_58 rfl 3 rfl ?_
    refine z_iadd dX12_strike_59 ?_
    refine z_aload_n dX12_strike_60 rfl 0 rfl ?_
    refine gf_12_178 rfl dX12_strike_61 ?_
    refine z_iload_n dX12_strike_64 rfl 3 rfl ?_
    refine ia_3_55 (inb_in g3) dX12_strike_65 ?_
    refine z_if_eq (tgt := 88) dX12_strike_66 (by decide) (fun q => ?_) (fun q => ?_)
    · have h := (if_pos q).symm.trans h
      refine z_iconst (v := 0) dX12_strike_88 (by decide) ?_
      exact zb_X12_strike_89 hrc26 hrc33 hrc42 h
    · have h := (if_neg q).symm.trans h
      obtain ⟨g4, h⟩ := gd h
      refine z_aload_n dX12_strike_69 rfl 0 rfl ?_
      refine z_aload_n dX12_strike_70 rfl 0 rfl ?_
      refine gf_12_172 rfl dX12_strike_71 ?_
      refine z_iload_n dX12_strike_74 rfl 3 rfl ?_
      refine ia_3_53 (inb_in g4) dX12_strike_75 ?_
      refine z_iload_n dX12_strike_76 rfl 2 rfl ?_
      refine z_callS (M' := m_X12_turned) (As := [.int (mA σ 3 0 53 x3.toNatClampNeg), .int (x2)]) (rest := [.ref (sL S 3 0 0), .int (((196 : Int32) * x2) + x3), .ref (sL S 3 0 64)]) kl_12_488 oy_X12_turned ⟨Nat.le_of_ble_eq_true rfl, Nat.le_of_ble_eq_true rfl⟩ rfl (Nat.le_of_ble_eq_true rfl) rfl dX12_strike_77 (c_X12_turned rfl) (fun v τ hq => ?_)
      obtain ⟨rfl, hτ⟩ := hq
      subst τ
      change Z _ _ _ _ _ [.int (f_X12_turned (mA σ 3 0 53 x3.toNatClampNeg) x2), .ref (sL S 3 0 0), .int (((196 : Int32) * x2) + x3), .ref (sL S 3 0 64)] _
      refine z_iload_n dX12_strike_80 rfl 1 rfl ?_
      refine z_iconst (v := 0) dX12_strike_81 (by decide) ?_
      obtain ⟨v, τ, hc, h⟩ := bnd_e h
      refine z_callV (M' := m_X12_hitBy) (t := 3) (i := 0) (k := 0) (As := [.int (f_X12_turned (mA σ 3 0 53 x3.toNatClampNeg) x2), .int (x1), .int (0)]) (rest := [.int (((196 : Int32) * x2) + x3), .ref (sL S 3 0 64)]) kl_12_484 oy_X12_hitBy ⟨Nat.le_of_ble_eq_true rfl, Nat.le_of_ble_eq_true rfl⟩ rfl rfl rfl rfl (Nat.le_of_ble_eq_true rfl) rfl dX12_strike_82 (c_X12_hitBy hc) (fun v2 τ2 hq => ?_)
      obtain ⟨rfl, hτ⟩ := hq
      subst τ2
      change Z _ _ _ _ _ [.int (v), .int (((196 : Int32) * x2) + x3), .ref (sL S 3 0 64)] _
      exact zb_X12_strike_85 hrc26 hrc33 hrc42 h
def F_X12_strike_42 (rc26 : Int32 → Mm → Option (Mm)) (rc33 : Int32 → Int32 → Mm → Option (Mm)) : Nat → Int32 → Int32 → Int32 → Mm → Option (Mm)
  | 0 => fun _ _ _ _ => none
  | n + 1 => B_X12_strike_42 rc26 rc33 (F_X12_strike_42 rc26 rc33 n)
theorem zl_X12_strike_42 {S : Shp} {rc26 : Int32 → Mm → Option (Mm)} (hrc26 : ∀ {x1 : Int32} {σ : Mm} {r : Mm}, rc26 x1 σ = some r → Z m_X12_strike S (Qv r) 26 [(0, .ref (sL S 3 0 0)), (1, .int (x1))] [] σ) {rc33 : Int32 → Int32 → Mm → Option (Mm)} (hrc33 : ∀ {x1 : Int32} {x2 : Int32} {σ : Mm} {r : Mm}, rc33 x1 x2 σ = some r → Z m_X12_strike S (Qv r) 33 [(0, .ref (sL S 3 0 0)), (1, .int (x1)), (2, .int (x2))] [] σ) : ∀ (nn : Nat) {x1 : Int32} {x2 : Int32} {x3 : Int32} {σ : Mm} {r : Mm}, F_X12_strike_42 rc26 rc33 nn x1 x2 x3 σ = some r → Z m_X12_strike S (Qv r) 42 [(0, .ref (sL S 3 0 0)), (1, .int (x1)), (2, .int (x2)), (3, .int (x3))] [] σ := by
  intro nn
  induction nn with
  | zero => intro x1 x2 x3 σ r h; cases h
  | succ nn ih => intro x1 x2 x3 σ r h; exact zB_X12_strike_42 hrc26 hrc33 @ih h
def B_X12_strike_33 (rc26 : Int32 → Mm → Option (Mm)) (rc33 : Int32 → Int32 → Mm → Option (Mm)) (x1 : Int32) (x2 : Int32) (σ : Mm) : Option (Mm) := (if (360 : Int32) ≤ x2 then (F_X12_strike_104 rc26 FU x1 1 σ) else (F_X12_strike_42 rc26 rc33 FU x1 x2 0 σ))
set_option maxRecDepth 20000 in
theorem zB_X12_strike_33 {S : Shp} {rc26 : Int32 → Mm → Option (Mm)} (hrc26 : ∀ {x1 : Int32} {σ : Mm} {r : Mm}, rc26 x1 σ = some r → Z m_X12_strike S (Qv r) 26 [(0, .ref (sL S 3 0 0)), (1, .int (x1))] [] σ) {rc33 : Int32 → Int32 → Mm → Option (Mm)} (hrc33 : ∀ {x1 : Int32} {x2 : Int32} {σ : Mm} {r : Mm}, rc33 x1 x2 σ = some r → Z m_X12_strike S (Qv r) 33 [(0, .ref (sL S 3 0 0)), (1, .int (x1)), (2, .int (x2))] [] σ) {x1 : Int32} {x2 : Int32} {σ : Mm} {r : Mm} (h : B_X12_strike_33 rc26 rc33 x1 x2 σ = some r) : Z m_X12_strike S (Qv r) 33 [(0, .ref (sL S 3 0 0)), (1, .int (x1)), (2, .int (x2))] [] σ := by
  unfold B_X12_strike_33 at h
  refine z_iload_n dX12_strike_33 rfl 2 rfl ?_
  refine z_sipush (v := 360) dX12_strike_34 (by decide) ?_
  refine z_icmp_ge (tgt := 102) dX12_strike_37 (by decide) (fun q => ?_) (fun q => ?_)
  · have h := (if_pos q).symm.trans h
    refine z_iconst (v := 1) dX12_strike_102 (by decide) ?_
    refine z_istore_n (lv' := [(0, .ref (sL S 3 0 0)), (1, .int (x1)), (2, .int (1))]) dX12_strike_103 rfl (by decide) [1, 2, 0] rfl ?_
    exact zl_X12_strike_104 hrc26 FU h
  · have h := (if_neg q).symm.trans h
    refine z_iconst (v := 0) dX12_strike_40 (by decide) ?_
    refine z_istore_n (lv' := [(0, .ref (sL S 3 0 0)), (1, .int (x1)), (2, .int (x2)), (3, .int (0))]) dX12_strike_41 rfl (by decide) [1, 2, 3, 0] rfl ?_
    exact zl_X12_strike_42 hrc26 hrc33 FU h
def F_X12_strike_33 (rc26 : Int32 → Mm → Option (Mm)) : Nat → Int32 → Int32 → Mm → Option (Mm)
  | 0 => fun _ _ _ => none
  | n + 1 => B_X12_strike_33 rc26 (F_X12_strike_33 rc26 n)
theorem zl_X12_strike_33 {S : Shp} {rc26 : Int32 → Mm → Option (Mm)} (hrc26 : ∀ {x1 : Int32} {σ : Mm} {r : Mm}, rc26 x1 σ = some r → Z m_X12_strike S (Qv r) 26 [(0, .ref (sL S 3 0 0)), (1, .int (x1))] [] σ) : ∀ (nn : Nat) {x1 : Int32} {x2 : Int32} {σ : Mm} {r : Mm}, F_X12_strike_33 rc26 nn x1 x2 σ = some r → Z m_X12_strike S (Qv r) 33 [(0, .ref (sL S 3 0 0)), (1, .int (x1)), (2, .int (x2))] [] σ := by
  intro nn
  induction nn with
  | zero => intro x1 x2 σ r h; cases h
  | succ nn ih => intro x1 x2 σ r h; exact zB_X12_strike_33 hrc26 @ih h
def B_X12_strike_26 (rc26 : Int32 → Mm → Option (Mm)) (x1 : Int32) (σ : Mm) : Option (Mm) := (if (5 : Int32) ≤ x1 then some (σ) else (F_X12_strike_33 rc26 FU x1 0 σ))
set_option maxRecDepth 20000 in
theorem zB_X12_strike_26 {S : Shp} {rc26 : Int32 → Mm → Option (Mm)} (hrc26 : ∀ {x1 : Int32} {σ : Mm} {r : Mm}, rc26 x1 σ = some r → Z m_X12_strike S (Qv r) 26 [(0, .ref (sL S 3 0 0)), (1, .int (x1))] [] σ) {x1 : Int32} {σ : Mm} {r : Mm} (h : B_X12_strike_26 rc26 x1 σ = some r) : Z m_X12_strike S (Qv r) 26 [(0, .ref (sL S 3 0 0)), (1, .int (x1))] [] σ := by
  unfold B_X12_strike_26 at h
  refine z_iload_n dX12_strike_26 rfl 1 rfl ?_
  refine z_iconst (v := 5) dX12_strike_27 (by decide) ?_
  refine z_icmp_ge (tgt := 133) dX12_strike_28 (by decide) (fun q => ?_) (fun q => ?_)
  · have h := (if_pos q).symm.trans h
    cases h
    exact z_return dX12_strike_133 rfl ⟨rfl, rfl⟩
  · have h := (if_neg q).symm.trans h
    refine z_iconst (v := 0) dX12_strike_31 (by decide) ?_
    refine z_istore_n (lv' := [(0, .ref (sL S 3 0 0)), (1, .int (x1)), (2, .int (0))]) dX12_strike_32 rfl (by decide) [1, 2, 0] rfl ?_
    exact zl_X12_strike_33 hrc26 FU h
def F_X12_strike_26 : Nat → Int32 → Mm → Option (Mm)
  | 0 => fun _ _ => none
  | n + 1 => B_X12_strike_26 (F_X12_strike_26 n)
theorem zl_X12_strike_26 {S : Shp} : ∀ (nn : Nat) {x1 : Int32} {σ : Mm} {r : Mm}, F_X12_strike_26 nn x1 σ = some r → Z m_X12_strike S (Qv r) 26 [(0, .ref (sL S 3 0 0)), (1, .int (x1))] [] σ := by
  intro nn
  induction nn with
  | zero => intro x1 σ r h; cases h
  | succ nn ih => intro x1 σ r h; exact zB_X12_strike_26 @ih h
def F_X12_strike_18 (rc2 : Int32 → Mm → Option (Mm)) (x1 : Int32) (σ : Mm) : Option (Mm) := (rc2 (x1 + 1) σ)
set_option maxRecDepth 20000 in
theorem zb_X12_strike_18 {S : Shp} {rc2 : Int32 → Mm → Option (Mm)} (hrc2 : ∀ {x1 : Int32} {σ : Mm} {r : Mm}, rc2 x1 σ = some r → Z m_X12_strike S (Qv r) 2 [(0, .ref (sL S 3 0 0)), (1, .int (x1))] [] σ) {x1 : Int32} {σ : Mm} {r : Mm} (h : F_X12_strike_18 rc2 x1 σ = some r) : Z m_X12_strike S (Qv r) 18 [(0, .ref (sL S 3 0 0)), (1, .int (x1))] [] σ := by
  unfold F_X12_strike_18 at h
  refine z_iinc (j := 1) (v := x1 + 1) (lv' := [(0, .ref (sL S 3 0 0)), (1, .int (x1 + 1))]) dX12_strike_18 rfl rfl (by decide) [1, 0] rfl ?_
  refine z_goto (tgt := 2) dX12_strike_21 (by decide) ?_
  exact hrc2 h
def B_X12_strike_2 (rc2 : Int32 → Mm → Option (Mm)) (x1 : Int32) (σ : Mm) : Option (Mm) := (if (360 : Int32) ≤ x1 then (F_X12_strike_26 FU 0 σ) else (if inb x1 360 = true then (F_X12_strike_18 rc2 x1 (setA σ 3 0 61 (upd (mA σ 3 0 61) x1.toNatClampNeg 360))) else none))
set_option maxRecDepth 20000 in
theorem zB_X12_strike_2 {S : Shp} {rc2 : Int32 → Mm → Option (Mm)} (hrc2 : ∀ {x1 : Int32} {σ : Mm} {r : Mm}, rc2 x1 σ = some r → Z m_X12_strike S (Qv r) 2 [(0, .ref (sL S 3 0 0)), (1, .int (x1))] [] σ) {x1 : Int32} {σ : Mm} {r : Mm} (h : B_X12_strike_2 rc2 x1 σ = some r) : Z m_X12_strike S (Qv r) 2 [(0, .ref (sL S 3 0 0)), (1, .int (x1))] [] σ := by
  unfold B_X12_strike_2 at h
  refine z_iload_n dX12_strike_2 rfl 1 rfl ?_
  refine z_sipush (v := 360) dX12_strike_3 (by decide) ?_
  refine z_icmp_ge (tgt := 24) dX12_strike_6 (by decide) (fun q => ?_) (fun q => ?_)
  · have h := (if_pos q).symm.trans h
    refine z_iconst (v := 0) dX12_strike_24 (by decide) ?_
    refine z_istore_n (lv' := [(0, .ref (sL S 3 0 0)), (1, .int (0))]) dX12_strike_25 rfl (by decide) [1, 0] rfl ?_
    exact zl_X12_strike_26 FU h
  · have h := (if_neg q).symm.trans h
    obtain ⟨g1, h⟩ := gd h
    refine z_aload_n dX12_strike_9 rfl 0 rfl ?_
    refine gf_12_196 rfl dX12_strike_10 ?_
    refine z_iload_n dX12_strike_13 rfl 1 rfl ?_
    refine z_sipush (v := 360) dX12_strike_14 (by decide) ?_
    refine is_3_61 (inb_in g1) dX12_strike_17 ?_
    exact zb_X12_strike_18 hrc2 h
def F_X12_strike_2 : Nat → Int32 → Mm → Option (Mm)
  | 0 => fun _ _ => none
  | n + 1 => B_X12_strike_2 (F_X12_strike_2 n)
theorem zl_X12_strike_2 {S : Shp} : ∀ (nn : Nat) {x1 : Int32} {σ : Mm} {r : Mm}, F_X12_strike_2 nn x1 σ = some r → Z m_X12_strike S (Qv r) 2 [(0, .ref (sL S 3 0 0)), (1, .int (x1))] [] σ := by
  intro nn
  induction nn with
  | zero => intro x1 σ r h; cases h
  | succ nn ih => intro x1 σ r h; exact zB_X12_strike_2 @ih h
def F_X12_strike (σ : Mm) : Option (Mm) := (F_X12_strike_2 FU 0 σ)
set_option maxRecDepth 20000 in
theorem zb_X12_strike {S : Shp} {σ : Mm} {r : Mm} (h : F_X12_strike σ = some r) : Z m_X12_strike S (Qv r) 0 [(0, .ref (sL S 3 0 0))] [] σ := by
  unfold F_X12_strike at h
  refine z_iconst (v := 0) dX12_strike_0 (by decide) ?_
  refine z_istore_n (lv' := [(0, .ref (sL S 3 0 0)), (1, .int (0))]) dX12_strike_1 rfl (by decide) [1, 0] rfl ?_
  exact zl_X12_strike_2 FU h
/-- SkyStonesModel.strike()V -/
theorem c_X12_strike {S : Shp} {σ : Mm} {r : Mm} (h : F_X12_strike σ = some r) : Ct m_X12_strike S [.ref (sL S 3 0 0)] σ (Qv r) := Ct.of (by decide +kernel) (Nat.le_of_ble_eq_true rfl) (zb_X12_strike h)
