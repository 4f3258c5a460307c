def F_X12_story_161 (s0 : Int32) (σ : Mm) : Option (Int32 × Mm) := some (s0, σ)
set_option maxRecDepth 20000 in
theorem zb_X12_story_161 {S : Shp} {s0 : Int32} {σ : Mm} {r : Int32 × Mm} (h : F_X12_story_161 s0 σ = some r) : Z m_X12_story S (Qi r) 161 [] [.int (s0)] σ := by
  unfold F_X12_story_161 at h
  cases h
  exact z_ireturn dX12_story_161 rfl rfl ⟨rfl, rfl⟩
def F_X12_story_153 (s0 : Int32) (σ : Mm) : Option (Int32 × Mm) := some (s0, σ)
set_option maxRecDepth 20000 in
theorem zb_X12_story_153 {S : Shp} {s0 : Int32} {σ : Mm} {r : Int32 × Mm} (h : F_X12_story_153 s0 σ = some r) : Z m_X12_story S (Qi r) 153 [] [.int (s0)] σ := by
  unfold F_X12_story_153 at h
  refine z_goto (tgt := 161) dX12_story_153 (by decide) ?_
  cases h
  exact z_ireturn dX12_story_161 rfl rfl ⟨rfl, rfl⟩
def F_X12_story_130 (x2 : Int32) (x5 : Int32) (x6 : Int32) (σ : Mm) : Option (Int32 × Mm) := (if x5 = 0 then some (x6, σ) else (if x5 = (1 : Int32) then (bnd (F_X12_hitsOf x2 0 0 σ) (fun v τ => (F_X12_story_153 v τ))) else (bnd (F_X12_asMany x2 σ) (fun v τ => (F_X12_story_161 v τ)))))
set_option maxRecDepth 20000 in
theorem zb_X12_story_130 {S : Shp} {x2 : Int32} {x5 : Int32} {x6 : Int32} {σ : Mm} {r : Int32 × Mm} (h : F_X12_story_130 x2 x5 x6 σ = some r) : Z m_X12_story S (Qi r) 130 [(0, .ref (sL S 3 0 0)), (2, .int (x2)), (5, .int (x5)), (6, .int (x6))] [] σ := by
  unfold F_X12_story_130 at h
  refine z_iload dX12_story_130 2 rfl ?_
  refine z_if_ne (tgt := 140) dX12_story_132 (by decide) (fun q => ?_) (fun q => ?_)
  · have h := (if_neg q).symm.trans h
    refine z_iload dX12_story_140 2 rfl ?_
    refine z_iconst (v := 1) dX12_story_142 (by decide) ?_
    refine z_icmp_ne (tgt := 156) dX12_story_143 (by decide) (fun q => ?_) (fun q => ?_)
    · have h := (if_neg q).symm.trans h
      refine z_aload_n dX12_story_156 rfl 0 rfl ?_
      refine z_iload_n dX12_story_157 rfl 1 rfl ?_
      obtain ⟨v, τ, hc, h⟩ := bnd_e h
      refine z_callV (M' := m_X12_asMany) (t := 3) (i := 0) (k := 0) (As := [.int (x2)]) (rest := []) kl_12_500 oy_X12_asMany ⟨Nat.le_of_ble_eq_true rfl, Nat.le_of_ble_eq_true rfl⟩ rfl rfl rfl rfl (Nat.le_of_ble_eq_true rfl) rfl dX12_story_158 (c_X12_asMany hc) (fun v2 τ2 hq => ?_)
      obtain ⟨rfl, hτ⟩ := hq
      subst τ2
      change Z _ _ _ _ _ [.int (v)] _
      refine Z.lv [] rfl ?_
      exact zb_X12_story_161 h
    · have h := (if_pos q).symm.trans h
      refine z_aload_n dX12_story_146 rfl 0 rfl ?_
      refine z_iload_n dX12_story_147 rfl 1 rfl ?_
      refine z_iconst (v := 0) dX12_story_148 (by decide) ?_
      refine z_iconst (v := 0) dX12_story_149 (by decide) ?_
      obtain ⟨v, τ, hc, h⟩ := bnd_e h
      refine z_callV (M' := m_X12_hitsOf) (t := 3) (i := 0) (k := 0) (As := [.int (x2), .int (0), .int (0)]) (rest := []) kl_12_497 oy_X12_hitsOf ⟨Nat.le_of_ble_eq_true rfl, Nat.le_of_ble_eq_true rfl⟩ rfl rfl rfl rfl (Nat.le_of_ble_eq_true rfl) rfl dX12_story_150 (c_X12_hitsOf hc) (fun v2 τ2 hq => ?_)
      obtain ⟨rfl, hτ⟩ := hq
      subst τ2
      change Z _ _ _ _ _ [.int (v)] _
      refine Z.lv [] rfl ?_
      exact zb_X12_story_153 h
  · have h := (if_pos q).symm.trans h
    refine z_iload dX12_story_135 3 rfl ?_
    refine z_goto (tgt := 161) dX12_story_137 (by decide) ?_
    cases h
    exact z_ireturn dX12_story_161 rfl rfl ⟨rfl, rfl⟩
def F_X12_story_119 (rc49 : Int32 → Int32 → Int32 → Int32 → Int32 → Int32 → Mm → Option (Int32 × Mm)) (x1 : Int32) (x2 : Int32) (x3 : Int32) (x5 : Int32) (x6 : Int32) (x7 : Int32) (σ : Mm) : Option (Int32 × Mm) := (rc49 x1 x2 x3 x5 x6 (x7 + 1) σ)
set_option maxRecDepth 20000 in
theorem zb_X12_story_119 {S : Shp} {rc49 : Int32 → Int32 → Int32 → Int32 → Int32 → Int32 → Mm → Option (Int32 × Mm)} (hrc49 : ∀ {x1 : Int32} {x2 : Int32} {x3 : Int32} {x5 : Int32} {x6 : Int32} {x7 : Int32} {σ : Mm} {r : Int32 × Mm}, rc49 x1 x2 x3 x5 x6 x7 σ = some r → Z m_X12_story S (Qi r) 49 [(0, .ref (sL S 3 0 0)), (1, .int (x1)), (2, .int (x2)), (3, .int (x3)), (5, .int (x5)), (6, .int (x6)), (7, .int (x7))] [] σ) {x1 : Int32} {x2 : Int32} {x3 : Int32} {x5 : Int32} {x6 : Int32} {x7 : Int32} {σ : Mm} {r : Int32 × Mm} (h : F_X12_story_119 rc49 x1 x2 x3 x5 x6 x7 σ = some r) : Z m_X12_story S (Qi r) 119 [(0, .ref (sL S 3 0 0)), (1, .int (x1)), (2, .int (x2)), (3, .int (x3)), (5, .int (x5)), (6, .int (x6)), (7, .int (x7))] [] σ := by
  unfold F_X12_story_119 at h
  refine z_iinc (j := 6) (v := x7 + 1) (lv' := [(0, .ref (sL S 3 0 0)), (1, .int (x1)), (2, .int (x2)), (3, .int (x3)), (5, .int (x5)), (6, .int (x6)), (7, .int (x7 + 1))]) dX12_story_119 rfl rfl (by decide) [1, 2, 3, 4, 5, 6, 0] rfl ?_
  refine z_goto (tgt := 49) dX12_story_122 (by decide) ?_
  exact hrc49 h
def F_X12_story_116 (rc49 : Int32 → Int32 → Int32 → Int32 → Int32 → Int32 → Mm → Option (Int32 × Mm)) (x1 : Int32) (x2 : Int32) (x3 : Int32) (x5 : Int32) (x7 : Int32) (s0 : Int32) (s1 : Int32) (σ : Mm) : Option (Int32 × Mm) := (F_X12_story_119 rc49 x1 x2 x3 x5 (s1 + s0) x7 σ)
set_option maxRecDepth 20000 in
theorem zb_X12_story_116 {S : Shp} {rc49 : Int32 → Int32 → Int32 → Int32 → Int32 → Int32 → Mm → Option (Int32 × Mm)} (hrc49 : ∀ {x1 : Int32} {x2 : Int32} {x3 : Int32} {x5 : Int32} {x6 : Int32} {x7 : Int32} {σ : Mm} {r : Int32 × Mm}, rc49 x1 x2 x3 x5 x6 x7 σ = some r → Z m_X12_story S (Qi r) 49 [(0, .ref (sL S 3 0 0)), (1, .int (x1)), (2, .int (x2)), (3, .int (x3)), (5, .int (x5)), (6, .int (x6)), (7, .int (x7))] [] σ) {x1 : Int32} {x2 : Int32} {x3 : Int32} {x5 : Int32} {x7 : Int32} {s0 : Int32} {s1 : Int32} {σ : Mm} {r : Int32 × Mm} (h : F_X12_story_116 rc49 x1 x2 x3 x5 x7 s0 s1 σ = some r) : Z m_X12_story S (Qi r) 116 [(0, .ref (sL S 3 0 0)), (1, .int (x1)), (2, .int (x2)), (3, .int (x3)), (5, .int (x5)), (7, .int (x7))] [.int (s0), .int (s1)] σ := by
  unfold F_X12_story_116 at h
  refine z_iadd dX12_story_116 ?_
  refine z_istore (lv' := [(0, .ref (sL S 3 0 0)), (1, .int (x1)), (2, .int (x2)), (3, .int (x3)), (5, .int (x5)), (6, .int (s1 + s0)), (7, .int (x7))]) dX12_story_117 (by decide) [1, 2, 3, 4, 5, 0, 6] rfl ?_
  exact zb_X12_story_119 hrc49 h
def F_X12_story_99 (rc49 : Int32 → Int32 → Int32 → Int32 → Int32 → Int32 → Mm → Option (Int32 × Mm)) (x1 : Int32) (x2 : Int32) (x3 : Int32) (x5 : Int32) (x6 : Int32) (x7 : Int32) (σ : Mm) : Option (Int32 × Mm) := (if inb x7 196 = true then (if (mA σ 3 0 55 x7.toNatClampNeg) = 0 then (F_X12_story_116 rc49 x1 x2 x3 x5 x7 0 x6 σ) else (F_X12_story_116 rc49 x1 x2 x3 x5 x7 1 x6 σ)) else none)
set_option maxRecDepth 20000 in
theorem zb_X12_story_99 {S : Shp} {rc49 : Int32 → Int32 → Int32 → Int32 → Int32 → Int32 → Mm → Option (Int32 × Mm)} (hrc49 : ∀ {x1 : Int32} {x2 : Int32} {x3 : Int32} {x5 : Int32} {x6 : Int32} {x7 : Int32} {σ : Mm} {r : Int32 × Mm}, rc49 x1 x2 x3 x5 x6 x7 σ = some r → Z m_X12_story S (Qi r) 49 [(0, .ref (sL S 3 0 0)), (1, .int (x1)), (2, .int (x2)), (3, .int (x3)), (5, .int (x5)), (6, .int (x6)), (7, .int (x7))] [] σ) {x1 : Int32} {x2 : Int32} {x3 : Int32} {x5 : Int32} {x6 : Int32} {x7 : Int32} {σ : Mm} {r : Int32 × Mm} (h : F_X12_story_99 rc49 x1 x2 x3 x5 x6 x7 σ = some r) : Z m_X12_story S (Qi r) 99 [(0, .ref (sL S 3 0 0)), (1, .int (x1)), (2, .int (x2)), (3, .int (x3)), (5, .int (x5)), (6, .int (x6)), (7, .int (x7))] [] σ := by
  unfold F_X12_story_99 at h
  obtain ⟨g6, h⟩ := gd h
  refine z_iload dX12_story_99 5 rfl ?_
  refine z_aload_n dX12_story_101 rfl 0 rfl ?_
  refine gf_12_178 rfl dX12_story_102 ?_
  refine z_iload dX12_story_105 6 rfl ?_
  refine ia_3_55 (inb_in g6) dX12_story_107 ?_
  refine z_if_eq (tgt := 115) dX12_story_108 (by decide) (fun q => ?_) (fun q => ?_)
  · have h := (if_pos q).symm.trans h
    refine z_iconst (v := 0) dX12_story_115 (by decide) ?_
    refine Z.lv [0, 1, 2, 3, 4, 6] rfl ?_
    exact zb_X12_story_116 hrc49 h
  · have h := (if_neg q).symm.trans h
    refine z_iconst (v := 1) dX12_story_111 (by decide) ?_
    refine z_goto (tgt := 116) dX12_story_112 (by decide) ?_
    refine Z.lv [0, 1, 2, 3, 4, 6] rfl ?_
    exact zb_X12_story_116 hrc49 h
def F_X12_story_98 (rc49 : Int32 → Int32 → Int32 → Int32 → Int32 → Int32 → Mm → Option (Int32 × Mm)) (x1 : Int32) (x2 : Int32) (x3 : Int32) (x5 : Int32) (x6 : Int32) (x7 : Int32) (s0 : Int32) (s1 : Int32) (σ : Mm) : Option (Int32 × Mm) := (if inb s1 196 = true then (F_X12_story_99 rc49 x1 x2 x3 x5 x6 x7 (setA σ 3 0 55 (upd (mA σ 3 0 55) s1.toNatClampNeg (vp_nar .boolean s0)))) else none)
set_option maxRecDepth 20000 in
theorem zb_X12_story_98 {S : Shp} {rc49 : Int32 → Int32 → Int32 → Int32 → Int32 → Int32 → Mm → Option (Int32 × Mm)} (hrc49 : ∀ {x1 : Int32} {x2 : Int32} {x3 : Int32} {x5 : Int32} {x6 : Int32} {x7 : Int32} {σ : Mm} {r : Int32 × Mm}, rc49 x1 x2 x3 x5 x6 x7 σ = some r → Z m_X12_story S (Qi r) 49 [(0, .ref (sL S 3 0 0)), (1, .int (x1)), (2, .int (x2)), (3, .int (x3)), (5, .int (x5)), (6, .int (x6)), (7, .int (x7))] [] σ) {x1 : Int32} {x2 : Int32} {x3 : Int32} {x5 : Int32} {x6 : Int32} {x7 : Int32} {s0 : Int32} {s1 : Int32} {σ : Mm} {r : Int32 × Mm} (h : F_X12_story_98 rc49 x1 x2 x3 x5 x6 x7 s0 s1 σ = some r) : Z m_X12_story S (Qi r) 98 [(0, .ref (sL S 3 0 0)), (1, .int (x1)), (2, .int (x2)), (3, .int (x3)), (5, .int (x5)), (6, .int (x6)), (7, .int (x7))] [.int (s0), .int (s1), .ref (sL S 3 0 55)] σ := by
  unfold F_X12_story_98 at h
  obtain ⟨g5, h⟩ := gd h
  refine is_3_55 (inb_in g5) dX12_story_98 ?_
  exact zb_X12_story_99 hrc49 h
def F_X12_story_76 (rc49 : Int32 → Int32 → Int32 → Int32 → Int32 → Int32 → Mm → Option (Int32 × Mm)) (x1 : Int32) (x2 : Int32) (x3 : Int32) (x5 : Int32) (x6 : Int32) (x7 : Int32) (σ : Mm) : Option (Int32 × Mm) := (if inb x1 30 = true then (if inb x1 30 = true then (bnd (F_X12_isHeld (mA σ 3 0 26 x1.toNatClampNeg) (mA σ 3 0 27 x1.toNatClampNeg) σ) (fun v τ => (F_X12_story_98 rc49 x1 x2 x3 x5 x6 x7 v x7 τ))) else none) else none)
set_option maxRecDepth 20000 in
theorem zb_X12_story_76 {S : Shp} {rc49 : Int32 → Int32 → Int32 → Int32 → Int32 → Int32 → Mm → Option (Int32 × Mm)} (hrc49 : ∀ {x1 : Int32} {x2 : Int32} {x3 : Int32} {x5 : Int32} {x6 : Int32} {x7 : Int32} {σ : Mm} {r : Int32 × Mm}, rc49 x1 x2 x3 x5 x6 x7 σ = some r → Z m_X12_story S (Qi r) 49 [(0, .ref (sL S 3 0 0)), (1, .int (x1)), (2, .int (x2)), (3, .int (x3)), (5, .int (x5)), (6, .int (x6)), (7, .int (x7))] [] σ) {x1 : Int32} {x2 : Int32} {x3 : Int32} {x5 : Int32} {x6 : Int32} {x7 : Int32} {σ : Mm} {r : Int32 × Mm} (h : F_X12_story_76 rc49 x1 x2 x3 x5 x6 x7 σ = some r) : Z m_X12_story S (Qi r) 76 [(0, .ref (sL S 3 0 0)), (1, .int (x1)), (2, .int (x2)), (3, .int (x3)), (5, .int (x5)), (6, .int (x6)), (7, .int (x7))] [] σ := by
  unfold F_X12_story_76 at h
  obtain ⟨g3, h⟩ := gd h
  refine z_aload_n dX12_story_76 rfl 0 rfl ?_
  refine gf_12_178 rfl dX12_story_77 ?_
  refine z_iload dX12_story_80 6 rfl ?_
  refine z_aload_n dX12_story_82 rfl 0 rfl ?_
  refine z_aload_n dX12_story_83 rfl 0 rfl ?_
  refine gf_12_91 rfl dX12_story_84 ?_
  refine z_iload_n dX12_story_87 rfl 1 rfl ?_
  obtain ⟨g4, h⟩ := gd h
  refine ia_3_26 (inb_in g3) dX12_story_88 ?_
  refine z_aload_n dX12_story_89 rfl 0 rfl ?_
  refine gf_12_94 rfl dX12_story_90 ?_
  refine z_iload_n dX12_story_93 rfl 1 rfl ?_
  refine ia_3_27 (inb_in g4) dX12_story_94 ?_
  obtain ⟨v, τ, hc, h⟩ := bnd_e h
  refine z_callV (M' := m_X12_isHeld) (t := 3) (i := 0) (k := 0) (As := [.int (mA σ 3 0 26 x1.toNatClampNeg), .int (mA σ 3 0 27 x1.toNatClampNeg)]) (rest := [.int (x7), .ref (sL S 3 0 55)]) kl_12_438 oy_X12_isHeld ⟨Nat.le_of_ble_eq_true rfl, Nat.le_of_ble_eq_true rfl⟩ rfl rfl rfl rfl (Nat.le_of_ble_eq_true rfl) rfl dX12_story_95 (c_X12_isHeld hc) (fun v2 τ2 hq => ?_)
  obtain ⟨rfl, hτ⟩ := hq
  subst τ2
  change Z _ _ _ _ _ [.int (v), .int (x7), .ref (sL S 3 0 55)] _
  exact zb_X12_story_98 hrc49 h
def B_X12_story_49 (rc49 : Int32 → Int32 → Int32 → Int32 → Int32 → Int32 → Mm → Option (Int32 × Mm)) (x1 : Int32) (x2 : Int32) (x3 : Int32) (x5 : Int32) (x6 : Int32) (x7 : Int32) (σ : Mm) : Option (Int32 × Mm) := (if (196 : Int32) ≤ x7 then (bnv (F_X12_laySky x3 σ) (fun τ => (F_X12_story_130 x2 x5 x6 τ))) else (if inb x7 196 = true then (if (mA σ 3 0 52 x7.toNatClampNeg) = 0 then (F_X12_story_119 rc49 x1 x2 x3 x5 x6 x7 σ) else (bnv (F_X12_look x7 σ) (fun τ => (F_X12_story_76 rc49 x1 x2 x3 x5 x6 x7 τ)))) else none))
set_option maxRecDepth 20000 in
theorem zB_X12_story_49 {S : Shp} {rc49 : Int32 → Int32 → Int32 → Int32 → Int32 → Int32 → Mm → Option (Int32 × Mm)} (hrc49 : ∀ {x1 : Int32} {x2 : Int32} {x3 : Int32} {x5 : Int32} {x6 : Int32} {x7 : Int32} {σ : Mm} {r : Int32 × Mm}, rc49 x1 x2 x3 x5 x6 x7 σ = some r → Z m_X12_story S (Qi r) 49 [(0, .ref (sL S 3 0 0)), (1, .int (x1)), (2, .int (x2)), (3, .int (x3)), (5, .int (x5)), (6, .int (x6)), (7, .int (x7))] [] σ) {x1 : Int32} {x2 : Int32} {x3 : Int32} {x5 : Int32} {x6 : Int32} {x7 : Int32} {σ : Mm} {r : Int32 × Mm} (h : B_X12_story_49 rc49 x1 x2 x3 x5 x6 x7 σ = some r) : Z m_X12_story S (Qi r) 49 [(0, .ref (sL S 3 0 0)), (1, .int (x1)), (2, .int (x2)), (3, .int (x3)), (5, .int (x5)), (6, .int (x6)), (7, .int (x7))] [] σ := by
  unfold B_X12_story_49 at h
  refine z_iload dX12_story_49 6 rfl ?_
  refine z_sipush (v := 196) dX12_story_51 (by decide) ?_
  refine z_icmp_ge (tgt := 125) dX12_story_54 (by decide) (fun q => ?_) (fun q => ?_)
  · have h := (if_pos q).symm.trans h
    refine z_aload_n dX12_story_125 rfl 0 rfl ?_
    refine z_iload_n dX12_story_126 rfl 3 rfl ?_
    obtain ⟨τ, hc, h⟩ := bnv_e h
    refine z_callV (M' := m_X12_laySky) (t := 3) (i := 0) (k := 0) (As := [.int (x3)]) (rest := []) kl_12_481 oy_X12_laySky ⟨Nat.le_of_ble_eq_true rfl, Nat.le_of_ble_eq_true rfl⟩ rfl rfl rfl rfl (Nat.le_of_ble_eq_true rfl) rfl dX12_story_127 (c_X12_laySky hc) (fun v2 τ2 hq => ?_)
    obtain ⟨rfl, hτ⟩ := hq
    subst τ2
    change Z _ _ _ _ _ [] _
    refine Z.lv [0, 2, 4, 5] rfl ?_
    exact zb_X12_story_130 h
  · have h := (if_neg q).symm.trans h
    obtain ⟨g2, h⟩ := gd h
    refine z_aload_n dX12_story_57 rfl 0 rfl ?_
    refine gf_12_169 rfl dX12_story_58 ?_
    refine z_iload dX12_story_61 6 rfl ?_
    refine ia_3_52 (inb_in g2) dX12_story_63 ?_
    refine z_if_ne (tgt := 70) dX12_story_64 (by decide) (fun q => ?_) (fun q => ?_)
    · have h := (if_neg q).symm.trans h
      refine z_aload_n dX12_story_70 rfl 0 rfl ?_
      refine z_iload dX12_story_71 6 rfl ?_
      obtain ⟨τ, hc, h⟩ := bnv_e h
      refine z_callV (M' := m_X12_look) (t := 3) (i := 0) (k := 0) (As := [.int (x7)]) (rest := []) kl_12_435 oy_X12_look ⟨Nat.le_of_ble_eq_true rfl, Nat.le_of_ble_eq_true rfl⟩ rfl rfl rfl rfl (Nat.le_of_ble_eq_true rfl) rfl dX12_story_73 (c_X12_look hc) (fun v2 τ2 hq => ?_)
      obtain ⟨rfl, hτ⟩ := hq
      subst τ2
      change Z _ _ _ _ _ [] _
      exact zb_X12_story_76 hrc49 h
    · have h := (if_pos q).symm.trans h
      refine z_goto (tgt := 119) dX12_story_67 (by decide) ?_
      exact zb_X12_story_119 hrc49 h
def F_X12_story_49 : Nat → Int32 → Int32 → Int32 → Int32 → Int32 → Int32 → Mm → Option (Int32 × Mm)
  | 0 => fun _ _ _ _ _ _ _ => none
  | n + 1 => B_X12_story_49 (F_X12_story_49 n)
theorem zl_X12_story_49 {S : Shp} : ∀ (nn : Nat) {x1 : Int32} {x2 : Int32} {x3 : Int32} {x5 : Int32} {x6 : Int32} {x7 : Int32} {σ : Mm} {r : Int32 × Mm}, F_X12_story_49 nn x1 x2 x3 x5 x6 x7 σ = some r → Z m_X12_story S (Qi r) 49 [(0, .ref (sL S 3 0 0)), (1, .int (x1)), (2, .int (x2)), (3, .int (x3)), (5, .int (x5)), (6, .int (x6)), (7, .int (x7))] [] σ := by
  intro nn
  induction nn with
  | zero => intro x1 x2 x3 x5 x6 x7 σ r h; cases h
  | succ nn ih => intro x1 x2 x3 x5 x6 x7 σ r h; exact zB_X12_story_49 @ih h
def F_X12_story_43 (x1 : Int32) (x2 : Int32) (x3 : Int32) (x5 : Int32) (σ : Mm) : Option (Int32 × Mm) := (F_X12_story_49 FU x1 x2 x3 x5 0 0 σ)
set_option maxRecDepth 20000 in
theorem zb_X12_story_43 {S : Shp} {x1 : Int32} {x2 : Int32} {x3 : Int32} {x5 : Int32} {σ : Mm} {r : Int32 × Mm} (h : F_X12_story_43 x1 x2 x3 x5 σ = some r) : Z m_X12_story S (Qi r) 43 [(0, .ref (sL S 3 0 0)), (1, .int (x1)), (2, .int (x2)), (3, .int (x3)), (5, .int (x5))] [] σ := by
  unfold F_X12_story_43 at h
  refine z_iconst (v := 0) dX12_story_43 (by decide) ?_
  refine z_istore (lv' := [(0, .ref (sL S 3 0 0)), (1, .int (x1)), (2, .int (x2)), (3, .int (x3)), (5, .int (x5)), (6, .int (0))]) dX12_story_44 (by decide) [1, 2, 3, 4, 5, 0] rfl ?_
  refine z_iconst (v := 0) dX12_story_46 (by decide) ?_
  refine z_istore (lv' := [(0, .ref (sL S 3 0 0)), (1, .int (x1)), (2, .int (x2)), (3, .int (x3)), (5, .int (x5)), (6, .int (0)), (7, .int (0))]) dX12_story_47 (by decide) [1, 2, 3, 4, 5, 6, 0] rfl ?_
  exact zl_X12_story_49 FU h
def F_X12_story_22 (x1 : Int32) (x2 : Int32) (x3 : Int32) (x4 : Int32) (x5 : Int32) (s0 : Int32) (σ : Mm) : Option (Int32 × Mm) := (if s0 = 0 then some ((-1), σ) else (if (f_X12_isIn x5 0 2) = 0 then some ((-1), σ) else (bnv (F_X12_lay x4 σ) (fun τ => (F_X12_story_43 x1 x2 x3 x5 τ)))))
set_option maxRecDepth 20000 in
theorem zb_X12_story_22 {S : Shp} {x1 : Int32} {x2 : Int32} {x3 : Int32} {x4 : Int32} {x5 : Int32} {s0 : Int32} {σ : Mm} {r : Int32 × Mm} (h : F_X12_story_22 x1 x2 x3 x4 x5 s0 σ = some r) : Z m_X12_story S (Qi r) 22 [(0, .ref (sL S 3 0 0)), (1, .int (x1)), (2, .int (x2)), (3, .int (x3)), (4, .int (x4)), (5, .int (x5))] [.int (s0)] σ := by
  unfold F_X12_story_22 at h
  refine z_if_eq (tgt := 35) dX12_story_22 (by decide) (fun q => ?_) (fun q => ?_)
  · have h := (if_pos q).symm.trans h
    refine z_iconst (v := (-1)) dX12_story_35 (by decide) ?_
    cases h
    exact z_ireturn dX12_story_36 rfl rfl ⟨rfl, rfl⟩
  · have h := (if_neg q).symm.trans h
    refine z_iload dX12_story_25 5 rfl ?_
    refine z_iconst (v := 0) dX12_story_27 (by decide) ?_
    refine z_iconst (v := 2) dX12_story_28 (by decide) ?_
    refine z_callS (M' := m_X12_isIn) (As := [.int (x5), .int (0), .int (2)]) (rest := []) kl_12_407 oy_X12_isIn ⟨Nat.le_of_ble_eq_true rfl, Nat.le_of_ble_eq_true rfl⟩ rfl (Nat.le_of_ble_eq_true rfl) rfl dX12_story_29 (c_X12_isIn rfl) (fun v τ hq => ?_)
    obtain ⟨rfl, hτ⟩ := hq
    subst τ
    change Z _ _ _ _ _ [.int (f_X12_isIn x5 0 2)] _
    refine z_if_ne (tgt := 37) dX12_story_32 (by decide) (fun q => ?_) (fun q => ?_)
    · have h := (if_neg q).symm.trans h
      refine z_aload_n dX12_story_37 rfl 0 rfl ?_
      refine z_iload dX12_story_38 4 rfl ?_
      obtain ⟨τ, hc, h⟩ := bnv_e h
      refine z_callV (M' := m_X12_lay) (t := 3) (i := 0) (k := 0) (As := [.int (x4)]) (rest := []) kl_12_463 oy_X12_lay ⟨Nat.le_of_ble_eq_true rfl, Nat.le_of_ble_eq_true rfl⟩ rfl rfl rfl rfl (Nat.le_of_ble_eq_true rfl) rfl dX12_story_40 (c_X12_lay hc) (fun v2 τ2 hq => ?_)
      obtain ⟨rfl, hτ⟩ := hq
      subst τ2
      change Z _ _ _ _ _ [] _
      refine Z.lv [0, 1, 2, 3, 5] rfl ?_
      exact zb_X12_story_43 h
    · have h := (if_pos q).symm.trans h
      refine z_iconst (v := (-1)) dX12_story_35 (by decide) ?_
      cases h
      exact z_ireturn dX12_story_36 rfl rfl ⟨rfl, rfl⟩
def F_X12_story (x1 : Int32) (x2 : Int32) (x3 : Int32) (x4 : Int32) (x5 : Int32) (σ : Mm) : Option (Int32 × Mm) := (if x1 < 0 then some ((-1), σ) else (if inb 0 5 = true then (if (mA σ 3 0 25 (0 : Int32).toNatClampNeg) ≤ x1 then some ((-1), σ) else (bnd (F_X12_isSet x2 x3 x4 σ) (fun v τ => (F_X12_story_22 x1 x2 x3 x4 x5 v τ)))) else none))
set_option maxRecDepth 20000 in
theorem zb_X12_story {S : Shp} {x1 : Int32} {x2 : Int32} {x3 : Int32} {x4 : Int32} {x5 : Int32} {σ : Mm} {r : Int32 × Mm} (h : F_X12_story x1 x2 x3 x4 x5 σ = some r) : Z m_X12_story S (Qi r) 0 [(0, .ref (sL S 3 0 0)), (1, .int (x1)), (2, .int (x2)), (3, .int (x3)), (4, .int (x4)), (5, .int (x5))] [] σ := by
  unfold F_X12_story at h
  refine z_iload_n dX12_story_0 rfl 1 rfl ?_
  refine z_if_lt (tgt := 35) dX12_story_1 (by decide) (fun q => ?_) (fun q => ?_)
  · have h := (if_pos q).symm.trans h
    refine z_iconst (v := (-1)) dX12_story_35 (by decide) ?_
    cases h
    exact z_ireturn dX12_story_36 rfl rfl ⟨rfl, rfl⟩
  · have h := (if_neg q).symm.trans h
    obtain ⟨g1, h⟩ := gd h
    refine z_iload_n dX12_story_4 rfl 1 rfl ?_
    refine z_aload_n dX12_story_5 rfl 0 rfl ?_
    refine gf_12_88 rfl dX12_story_6 ?_
    refine z_iconst (v := 0) dX12_story_9 (by decide) ?_
    refine ia_3_25 (inb_in g1) dX12_story_10 ?_
    refine z_icmp_ge (tgt := 35) dX12_story_11 (by decide) (fun q => ?_) (fun q => ?_)
    · have h := (if_pos q).symm.trans h
      refine z_iconst (v := (-1)) dX12_story_35 (by decide) ?_
      cases h
      exact z_ireturn dX12_story_36 rfl rfl ⟨rfl, rfl⟩
    · have h := (if_neg q).symm.trans h
      refine z_aload_n dX12_story_14 rfl 0 rfl ?_
      refine z_iload_n dX12_story_15 rfl 2 rfl ?_
      refine z_iload_n dX12_story_16 rfl 3 rfl ?_
      refine z_iload dX12_story_17 4 rfl ?_
      obtain ⟨v, τ, hc, h⟩ := bnd_e h
      refine z_callV (M' := m_X12_isSet) (t := 3) (i := 0) (k := 0) (As := [.int (x2), .int (x3), .int (x4)]) (rest := []) kl_12_491 oy_X12_isSet ⟨Nat.le_of_ble_eq_true rfl, Nat.le_of_ble_eq_true rfl⟩ rfl rfl rfl rfl (Nat.le_of_ble_eq_true rfl) rfl dX12_story_19 (c_X12_isSet hc) (fun v2 τ2 hq => ?_)
      obtain ⟨rfl, hτ⟩ := hq
      subst τ2
      change Z _ _ _ _ _ [.int (v)] _
      exact zb_X12_story_22 h
/-- SkyStonesModel.story(IIIII)I -/
theorem c_X12_story {S : Shp} {x1 : Int32} {x2 : Int32} {x3 : Int32} {x4 : Int32} {x5 : Int32} {σ : Mm} {r : Int32 × Mm} (h : F_X12_story x1 x2 x3 x4 x5 σ = some r) : Ct m_X12_story S [.ref (sL S 3 0 0), .int (x1), .int (x2), .int (x3), .int (x4), .int (x5)] σ (Qi r) := Ct.of (by decide +kernel) (Nat.le_of_ble_eq_true rfl) (zb_X12_story h)
def F_X12_striking_38 (x2 : Int32) (σ : Mm) : Option (Int32 × Mm) := (if inb x2 360 = true then some (mA σ 3 0 61 x2.toNatClampNeg, σ) else none)
set_option maxRecDepth 20000 in
theorem zb_X12_striking_38 {S : Shp} {x2 : Int32} {σ : Mm} {r : Int32 × Mm} (h : F_X12_striking_38 x2 σ = some r) : Z m_X12_striking S (Qi r) 38 [(0, .ref (sL S 3 0 0)), (2, .int (x2))] [] σ := by
  unfold F_X12_striking_38 at h
  obtain ⟨g1, h⟩ := gd h
  refine z_aload_n dX12_striking_38 rfl 0 rfl ?_
  refine gf_12_196 rfl dX12_striking_39 ?_
  refine z_iload_n dX12_striking_42 rfl 1 rfl ?_
  refine ia_3_61 (inb_in g1) dX12_striking_43 ?_
  cases h
  exact z_ireturn dX12_striking_44 rfl rfl ⟨rfl, rfl⟩
def F_X12_striking_34 (x2 : Int32) (σ : Mm) : Option (Int32 × Mm) := (bnv (F_X12_strike  σ) (fun τ => (F_X12_striking_38 x2 τ)))
set_option maxRecDepth 20000 in
theorem zb_X12_striking_34 {S : Shp} {x2 : Int32} {σ : Mm} {r : Int32 × Mm} (h : F_X12_striking_34 x2 σ = some r) : Z m_X12_striking S (Qi r) 34 [(0, .ref (sL S 3 0 0)), (2, .int (x2))] [] σ := by
  unfold F_X12_striking_34 at h
  refine z_aload_n dX12_striking_34 rfl 0 rfl ?_
  obtain ⟨τ, hc, h⟩ := bnv_e h
  refine z_callV (M' := m_X12_strike) (t := 3) (i := 0) (k := 0) (As := []) (rest := []) kl_12_506 oy_X12_strike ⟨Nat.le_of_ble_eq_true rfl, Nat.le_of_ble_eq_true rfl⟩ rfl rfl rfl rfl (Nat.le_of_ble_eq_true rfl) rfl dX12_striking_35 (c_X12_strike hc) (fun v2 τ2 hq => ?_)
  obtain ⟨rfl, hτ⟩ := hq
  subst τ2
  change Z _ _ _ _ _ [] _
  exact zb_X12_striking_38 h
def F_X12_striking_23 (x1 : Int32) (x2 : Int32) (x3 : Int32) (s0 : Int32) (σ : Mm) : Option (Int32 × Mm) := (if s0 = 0 then some ((-1), σ) else (bnv (F_X12_layAll x1 x3 σ) (fun τ => (F_X12_striking_34 x2 τ))))
set_option maxRecDepth 20000 in
theorem zb_X12_striking_23 {S : Shp} {x1 : Int32} {x2 : Int32} {x3 : Int32} {s0 : Int32} {σ : Mm} {r : Int32 × Mm} (h : F_X12_striking_23 x1 x2 x3 s0 σ = some r) : Z m_X12_striking S (Qi r) 23 [(0, .ref (sL S 3 0 0)), (1, .int (x1)), (2, .int (x2)), (3, .int (x3))] [.int (s0)] σ := by
  unfold F_X12_striking_23 at h
  refine z_if_ne (tgt := 28) dX12_striking_23 (by decide) (fun q => ?_) (fun q => ?_)
  · have h := (if_neg q).symm.trans h
    refine z_aload_n dX12_striking_28 rfl 0 rfl ?_
    refine z_iload_n dX12_striking_29 rfl 1 rfl ?_
    refine z_iload_n dX12_striking_30 rfl 3 rfl ?_
    obtain ⟨τ, hc, h⟩ := bnv_e h
    refine z_callV (M' := m_X12_layAll) (t := 3) (i := 0) (k := 0) (As := [.int (x1), .int (x3)]) (rest := []) kl_12_494 oy_X12_layAll ⟨Nat.le_of_ble_eq_true rfl, Nat.le_of_ble_eq_true rfl⟩ rfl rfl rfl rfl (Nat.le_of_ble_eq_true rfl) rfl dX12_striking_31 (c_X12_layAll hc) (fun v2 τ2 hq => ?_)
    obtain ⟨rfl, hτ⟩ := hq
    subst τ2
    change Z _ _ _ _ _ [] _
    refine Z.lv [0, 2] rfl ?_
    exact zb_X12_striking_34 h
  · have h := (if_pos q).symm.trans h
    refine z_iconst (v := (-1)) dX12_striking_26 (by decide) ?_
    cases h
    exact z_ireturn dX12_striking_27 rfl rfl ⟨rfl, rfl⟩
def F_X12_striking (x1 : Int32) (x2 : Int32) (x3 : Int32) (σ : Mm) : Option (Int32 × Mm) := (if (f_X12_isYear x1) = 0 then some ((-1), σ) else (if (f_X12_isIn x2 0 359) = 0 then some ((-1), σ) else (bnd (F_X12_isKnown x3 σ) (fun v τ => (F_X12_striking_23 x1 x2 x3 v τ)))))
set_option maxRecDepth 20000 in
theorem zb_X12_striking {S : Shp} {x1 : Int32} {x2 : Int32} {x3 : Int32} {σ : Mm} {r : Int32 × Mm} (h : F_X12_striking x1 x2 x3 σ = some r) : Z m_X12_striking S (Qi r) 0 [(0, .ref (sL S 3 0 0)), (1, .int (x1)), (2, .int (x2)), (3, .int (x3))] [] σ := by
  unfold F_X12_striking at h
  refine z_iload_n dX12_striking_0 rfl 1 rfl ?_
  refine z_callS (M' := m_X12_isYear) (As := [.int (x1)]) (rest := []) kl_12_472 oy_X12_isYear ⟨Nat.le_of_ble_eq_true rfl, Nat.le_of_ble_eq_true rfl⟩ rfl (Nat.le_of_ble_eq_true rfl) rfl dX12_striking_1 (c_X12_isYear rfl) (fun v τ hq => ?_)
  obtain ⟨rfl, hτ⟩ := hq
  subst τ
  change Z _ _ _ _ _ [.int (f_X12_isYear x1)] _
  refine z_if_eq (tgt := 26) dX12_striking_4 (by decide) (fun q => ?_) (fun q => ?_)
  · have h := (if_pos q).symm.trans h
    refine z_iconst (v := (-1)) dX12_striking_26 (by decide) ?_
    cases h
    exact z_ireturn dX12_striking_27 rfl rfl ⟨rfl, rfl⟩
  · have h := (if_neg q).symm.trans h
    refine z_iload_n dX12_striking_7 rfl 2 rfl ?_
    refine z_iconst (v := 0) dX12_striking_8 (by decide) ?_
    refine z_sipush (v := 359) dX12_striking_9 (by decide) ?_
    refine z_callS (M' := m_X12_isIn) (As := [.int (x2), .int (0), .int (359)]) (rest := []) kl_12_407 oy_X12_isIn ⟨Nat.le_of_ble_eq_true rfl, Nat.le_of_ble_eq_true rfl⟩ rfl (Nat.le_of_ble_eq_true rfl) rfl dX12_striking_12 (c_X12_isIn rfl) (fun v τ hq => ?_)
    obtain ⟨rfl, hτ⟩ := hq
    subst τ
    change Z _ _ _ _ _ [.int (f_X12_isIn x2 0 359)] _
    refine z_if_eq (tgt := 26) dX12_striking_15 (by decide) (fun q => ?_) (fun q => ?_)
    · have h := (if_pos q).symm.trans h
      refine z_iconst (v := (-1)) dX12_striking_26 (by decide) ?_
      cases h
      exact z_ireturn dX12_striking_27 rfl rfl ⟨rfl, rfl⟩
    · have h := (if_neg q).symm.trans h
      refine z_aload_n dX12_striking_18 rfl 0 rfl ?_
      refine z_iload_n dX12_striking_19 rfl 3 rfl ?_
      obtain ⟨v, τ, hc, h⟩ := bnd_e h
      refine z_callV (M' := m_X12_isKnown) (t := 3) (i := 0) (k := 0) (As := [.int (x3)]) (rest := []) kl_12_457 oy_X12_isKnown ⟨Nat.le_of_ble_eq_true rfl, Nat.le_of_ble_eq_true rfl⟩ rfl rfl rfl rfl (Nat.le_of_ble_eq_true rfl) rfl dX12_striking_20 (c_X12_isKnown hc) (fun v2 τ2 hq => ?_)
      obtain ⟨rfl, hτ⟩ := hq
      subst τ2
      change Z _ _ _ _ _ [.int (v)] _
      exact zb_X12_striking_23 h
/-- SkyStonesModel.striking(III)I -/
theorem c_X12_striking {S : Shp} {x1 : Int32} {x2 : Int32} {x3 : Int32} {σ : Mm} {r : Int32 × Mm} (h : F_X12_striking x1 x2 x3 σ = some r) : Ct m_X12_striking S [.ref (sL S 3 0 0), .int (x1), .int (x2), .int (x3)] σ (Qi r) := Ct.of (by decide +kernel) (Nat.le_of_ble_eq_true rfl) (zb_X12_striking h)
def F_X12_thing_32 (x1 : Int32) (x2 : Int32) (σ : Mm) : Option (Int32 × Mm) := (if x2 = 0 then (if inb x1 14 = true then some (mA σ 3 0 48 x1.toNatClampNeg, σ) else none) else (if x2 = (1 : Int32) then (if inb x1 14 = true then some (mA σ 3 0 49 x1.toNatClampNeg, σ) else none) else (if x2 = (2 : Int32) then (if inb x1 14 = true then some (mA σ 3 0 50 x1.toNatClampNeg, σ) else none) else (if x2 = (3 : Int32) then (if inb x1 70 = true then (if (mA σ 3 0 9 x1.toNatClampNeg) = 0 then some (0, σ) else some (1, σ)) else none) else (if inb x1 14 = true then (if (mA σ 3 0 51 x1.toNatClampNeg) = 0 then some (0, σ) else some (1, σ)) else none)))))
set_option maxRecDepth 20000 in
theorem zb_X12_thing_32 {S : Shp} {x1 : Int32} {x2 : Int32} {σ : Mm} {r : Int32 × Mm} (h : F_X12_thing_32 x1 x2 σ = some r) : Z m_X12_thing S (Qi r) 32 [(0, .ref (sL S 3 0 0)), (1, .int (x1)), (2, .int (x2))] [] σ := by
  unfold F_X12_thing_32 at h
  refine z_iload_n dX12_thing_32 rfl 2 rfl ?_
  refine z_if_ne (tgt := 45) dX12_thing_33 (by decide) (fun q => ?_) (fun q => ?_)
  · have h := (if_neg q).symm.trans h
    refine z_iload_n dX12_thing_45 rfl 2 rfl ?_
    refine z_iconst (v := 1) dX12_thing_46 (by decide) ?_
    refine z_icmp_ne (tgt := 59) dX12_thing_47 (by decide) (fun q => ?_) (fun q => ?_)
    · have h := (if_neg q).symm.trans h
      refine z_iload_n dX12_thing_59 rfl 2 rfl ?_
      refine z_iconst (v := 2) dX12_thing_60 (by decide) ?_
      refine z_icmp_ne (tgt := 73) dX12_thing_61 (by decide) (fun q => ?_) (fun q => ?_)
      · have h := (if_neg q).symm.trans h
        refine z_iload_n dX12_thing_73 rfl 2 rfl ?_
        refine z_iconst (v := 3) dX12_thing_74 (by decide) ?_
        refine z_icmp_ne (tgt := 95) dX12_thing_75 (by decide) (fun q => ?_) (fun q => ?_)
        · have h := (if_neg q).symm.trans h
          obtain ⟨g1, h⟩ := gd h
          refine z_aload_n dX12_thing_95 rfl 0 rfl ?_
          refine gf_12_166 rfl dX12_thing_96 ?_
          refine z_iload_n dX12_thing_99 rfl 1 rfl ?_
          refine ia_3_51 (inb_in g1) dX12_thing_100 ?_
          refine z_if_eq (tgt := 108) dX12_thing_101 (by decide) (fun q => ?_) (fun q => ?_)
          · have h := (if_pos q).symm.trans h
            refine z_iconst (v := 0) dX12_thing_108 (by decide) ?_
            cases h
            exact z_ireturn dX12_thing_109 rfl rfl ⟨rfl, rfl⟩
          · have h := (if_neg q).symm.trans h
            refine z_iconst (v := 1) dX12_thing_104 (by decide) ?_
            refine z_goto (tgt := 109) dX12_thing_105 (by decide) ?_
            cases h
            exact z_ireturn dX12_thing_109 rfl rfl ⟨rfl, rfl⟩
        · have h := (if_pos q).symm.trans h
          obtain ⟨g2, h⟩ := gd h
          refine z_aload_n dX12_thing_78 rfl 0 rfl ?_
          refine gf_12_40 rfl dX12_thing_79 ?_
          refine z_iload_n dX12_thing_82 rfl 1 rfl ?_
          refine ia_3_9 (inb_in g2) dX12_thing_83 ?_
          refine z_if_eq (tgt := 91) dX12_thing_84 (by decide) (fun q => ?_) (fun q => ?_)
          · have h := (if_pos q).symm.trans h
            refine z_iconst (v := 0) dX12_thing_91 (by decide) ?_
            refine z_goto (tgt := 109) dX12_thing_92 (by decide) ?_
            cases h
            exact z_ireturn dX12_thing_109 rfl rfl ⟨rfl, rfl⟩
          · have h := (if_neg q).symm.trans h
            refine z_iconst (v := 1) dX12_thing_87 (by decide) ?_
            refine z_goto (tgt := 109) dX12_thing_88 (by decide) ?_
            cases h
            exact z_ireturn dX12_thing_109 rfl rfl ⟨rfl, rfl⟩
      · have h := (if_pos q).symm.trans h
        obtain ⟨g3, h⟩ := gd h
        refine z_aload_n dX12_thing_64 rfl 0 rfl ?_
        refine gf_12_163 rfl dX12_thing_65 ?_
        refine z_iload_n dX12_thing_68 rfl 1 rfl ?_
        refine ia_3_50 (inb_in g3) dX12_thing_69 ?_
        refine z_goto (tgt := 109) dX12_thing_70 (by decide) ?_
        cases h
        exact z_ireturn dX12_thing_109 rfl rfl ⟨rfl, rfl⟩
    · have h := (if_pos q).symm.trans h
      obtain ⟨g4, h⟩ := gd h
      refine z_aload_n dX12_thing_50 rfl 0 rfl ?_
      refine gf_12_160 rfl dX12_thing_51 ?_
      refine z_iload_n dX12_thing_54 rfl 1 rfl ?_
      refine ia_3_49 (inb_in g4) dX12_thing_55 ?_
      refine z_goto (tgt := 109) dX12_thing_56 (by decide) ?_
      cases h
      exact z_ireturn dX12_thing_109 rfl rfl ⟨rfl, rfl⟩
  · have h := (if_pos q).symm.trans h
    obtain ⟨g5, h⟩ := gd h
    refine z_aload_n dX12_thing_36 rfl 0 rfl ?_
    refine gf_12_157 rfl dX12_thing_37 ?_
    refine z_iload_n dX12_thing_40 rfl 1 rfl ?_
    refine ia_3_48 (inb_in g5) dX12_thing_41 ?_
    refine z_goto (tgt := 109) dX12_thing_42 (by decide) ?_
    cases h
    exact z_ireturn dX12_thing_109 rfl rfl ⟨rfl, rfl⟩
def F_X12_thing_22 (x1 : Int32) (x2 : Int32) (x3 : Int32) (s0 : Int32) (σ : Mm) : Option (Int32 × Mm) := (if s0 = 0 then some ((-1), σ) else (bnv (F_X12_layThings x3 σ) (fun τ => (F_X12_thing_32 x1 x2 τ))))
set_option maxRecDepth 20000 in
theorem zb_X12_thing_22 {S : Shp} {x1 : Int32} {x2 : Int32} {x3 : Int32} {s0 : Int32} {σ : Mm} {r : Int32 × Mm} (h : F_X12_thing_22 x1 x2 x3 s0 σ = some r) : Z m_X12_thing S (Qi r) 22 [(0, .ref (sL S 3 0 0)), (1, .int (x1)), (2, .int (x2)), (3, .int (x3))] [.int (s0)] σ := by
  unfold F_X12_thing_22 at h
  refine z_if_ne (tgt := 27) dX12_thing_22 (by decide) (fun q => ?_) (fun q => ?_)
  · have h := (if_neg q).symm.trans h
    refine z_aload_n dX12_thing_27 rfl 0 rfl ?_
    refine z_iload_n dX12_thing_28 rfl 3 rfl ?_
    obtain ⟨τ, hc, h⟩ := bnv_e h
    refine z_callV (M' := m_X12_layThings) (t := 3) (i := 0) (k := 0) (As := [.int (x3)]) (rest := []) kl_12_428 oy_X12_layThings ⟨Nat.le_of_ble_eq_true rfl, Nat.le_of_ble_eq_true rfl⟩ rfl rfl rfl rfl (Nat.le_of_ble_eq_true rfl) rfl dX12_thing_29 (c_X12_layThings hc) (fun v2 τ2 hq => ?_)
    obtain ⟨rfl, hτ⟩ := hq
    subst τ2
    change Z _ _ _ _ _ [] _
    refine Z.lv [0, 1, 2] rfl ?_
    exact zb_X12_thing_32 h
  · have h := (if_pos q).symm.trans h
    refine z_iconst (v := (-1)) dX12_thing_25 (by decide) ?_
    cases h
    exact z_ireturn dX12_thing_26 rfl rfl ⟨rfl, rfl⟩
def F_X12_thing_5 (x1 : Int32) (x2 : Int32) (x3 : Int32) (s0 : Int32) (σ : Mm) : Option (Int32 × Mm) := (if s0 = 0 then some ((-1), σ) else (if (f_X12_isIn x2 0 4) = 0 then some ((-1), σ) else (bnd (F_X12_isKnown x3 σ) (fun v τ => (F_X12_thing_22 x1 x2 x3 v τ)))))
set_option maxRecDepth 20000 in
theorem zb_X12_thing_5 {S : Shp} {x1 : Int32} {x2 : Int32} {x3 : Int32} {s0 : Int32} {σ : Mm} {r : Int32 × Mm} (h : F_X12_thing_5 x1 x2 x3 s0 σ = some r) : Z m_X12_thing S (Qi r) 5 [(0, .ref (sL S 3 0 0)), (1, .int (x1)), (2, .int (x2)), (3, .int (x3))] [.int (s0)] σ := by
  unfold F_X12_thing_5 at h
  refine z_if_eq (tgt := 25) dX12_thing_5 (by decide) (fun q => ?_) (fun q => ?_)
  · have h := (if_pos q).symm.trans h
    refine z_iconst (v := (-1)) dX12_thing_25 (by decide) ?_
    cases h
    exact z_ireturn dX12_thing_26 rfl rfl ⟨rfl, rfl⟩
  · have h := (if_neg q).symm.trans h
    refine z_iload_n dX12_thing_8 rfl 2 rfl ?_
    refine z_iconst (v := 0) dX12_thing_9 (by decide) ?_
    refine z_iconst (v := 4) dX12_thing_10 (by decide) ?_
    refine z_callS (M' := m_X12_isIn) (As := [.int (x2), .int (0), .int (4)]) (rest := []) kl_12_407 oy_X12_isIn ⟨Nat.le_of_ble_eq_true rfl, Nat.le_of_ble_eq_true rfl⟩ rfl (Nat.le_of_ble_eq_true rfl) rfl dX12_thing_11 (c_X12_isIn rfl) (fun v τ hq => ?_)
    obtain ⟨rfl, hτ⟩ := hq
    subst τ
    change Z _ _ _ _ _ [.int (f_X12_isIn x2 0 4)] _
    refine z_if_eq (tgt := 25) dX12_thing_14 (by decide) (fun q => ?_) (fun q => ?_)
    · have h := (if_pos q).symm.trans h
      refine z_iconst (v := (-1)) dX12_thing_25 (by decide) ?_
      cases h
      exact z_ireturn dX12_thing_26 rfl rfl ⟨rfl, rfl⟩
    · have h := (if_neg q).symm.trans h
      refine z_aload_n dX12_thing_17 rfl 0 rfl ?_
      refine z_iload_n dX12_thing_18 rfl 3 rfl ?_
      obtain ⟨v, τ, hc, h⟩ := bnd_e h
      refine z_callV (M' := m_X12_isKnown) (t := 3) (i := 0) (k := 0) (As := [.int (x3)]) (rest := []) kl_12_457 oy_X12_isKnown ⟨Nat.le_of_ble_eq_true rfl, Nat.le_of_ble_eq_true rfl⟩ rfl rfl rfl rfl (Nat.le_of_ble_eq_true rfl) rfl dX12_thing_19 (c_X12_isKnown hc) (fun v2 τ2 hq => ?_)
      obtain ⟨rfl, hτ⟩ := hq
      subst τ2
      change Z _ _ _ _ _ [.int (v)] _
      exact zb_X12_thing_22 h
def F_X12_thing (x1 : Int32) (x2 : Int32) (x3 : Int32) (σ : Mm) : Option (Int32 × Mm) := (bnd (F_X12_isThing x1 σ) (fun v τ => (F_X12_thing_5 x1 x2 x3 v τ)))
set_option maxRecDepth 20000 in
theorem zb_X12_thing {S : Shp} {x1 : Int32} {x2 : Int32} {x3 : Int32} {σ : Mm} {r : Int32 × Mm} (h : F_X12_thing x1 x2 x3 σ = some r) : Z m_X12_thing S (Qi r) 0 [(0, .ref (sL S 3 0 0)), (1, .int (x1)), (2, .int (x2)), (3, .int (x3))] [] σ := by
  unfold F_X12_thing at h
  refine z_aload_n dX12_thing_0 rfl 0 rfl ?_
  refine z_iload_n dX12_thing_1 rfl 1 rfl ?_
  obtain ⟨v, τ, hc, h⟩ := bnd_e h
  refine z_callV (M' := m_X12_isThing) (t := 3) (i := 0) (k := 0) (As := [.int (x1)]) (rest := []) kl_12_415 oy_X12_isThing ⟨Nat.le_of_ble_eq_true rfl, Nat.le_of_ble_eq_true rfl⟩ rfl rfl rfl rfl (Nat.le_of_ble_eq_true rfl) rfl dX12_thing_2 (c_X12_isThing hc) (fun v2 τ2 hq => ?_)
  obtain ⟨rfl, hτ⟩ := hq
  subst τ2
  change Z _ _ _ _ _ [.int (v)] _
  exact zb_X12_thing_5 h
/-- SkyStonesModel.thing(III)I -/
theorem c_X12_thing {S : Shp} {x1 : Int32} {x2 : Int32} {x3 : Int32} {σ : Mm} {r : Int32 × Mm} (h : F_X12_thing x1 x2 x3 σ = some r) : Ct m_X12_thing S [.ref (sL S 3 0 0), .int (x1), .int (x2), .int (x3)] σ (Qi r) := Ct.of (by decide +kernel) (Nat.le_of_ble_eq_true rfl) (zb_X12_thing h)
def f_X12_vector (x1 : Int32) (x2 : Int32) (σ : Mm) : Int32 := (if (f_X12_isIn x1 0 359) = 0 then (-100) else (if (f_X12_isIn x2 0 1) = 0 then (-100) else f_X12_vectorOf x1 x2))
set_option maxRecDepth 20000 in
theorem zb_X12_vector {S : Shp} {x1 : Int32} {x2 : Int32} {σ : Mm} {r : Int32} (hp : okP σ = true) (h : f_X12_vector x1 x2 σ = r) : Z m_X12_vector S (Qi (r, σ)) 0 [(0, .ref (sL S 3 0 0)), (1, .int (x1)), (2, .int (x2))] [] σ := by
  unfold f_X12_vector at h
  refine z_iload_n dX12_vector_0 rfl 1 rfl ?_
  refine z_iconst (v := 0) dX12_vector_1 (by decide) ?_
  refine z_sipush (v := 359) dX12_vector_2 (by decide) ?_
  refine z_callS (M' := m_X12_isIn) (As := [.int (x1), .int (0), .int (359)]) (rest := []) kl_12_407 oy_X12_isIn ⟨Nat.le_of_ble_eq_true rfl, Nat.le_of_ble_eq_true rfl⟩ rfl (Nat.le_of_ble_eq_true rfl) rfl dX12_vector_5 (c_X12_isIn rfl) (fun v τ hq => ?_)
  obtain ⟨rfl, hτ⟩ := hq
  subst τ
  change Z _ _ _ _ _ [.int (f_X12_isIn x1 0 359)] _
  refine z_if_eq (tgt := 28) dX12_vector_8 (by decide) (fun q => ?_) (fun q => ?_)
  · have h := (if_pos q).symm.trans h
    refine z_bipush (v := (-100)) dX12_vector_28 (by decide) ?_
    subst h
    exact z_ireturn dX12_vector_30 rfl rfl ⟨rfl, rfl⟩
  · have h := (if_neg q).symm.trans h
    refine z_iload_n dX12_vector_11 rfl 2 rfl ?_
    refine z_iconst (v := 0) dX12_vector_12 (by decide) ?_
    refine z_iconst (v := 1) dX12_vector_13 (by decide) ?_
    refine z_callS (M' := m_X12_isIn) (As := [.int (x2), .int (0), .int (1)]) (rest := []) kl_12_407 oy_X12_isIn ⟨Nat.le_of_ble_eq_true rfl, Nat.le_of_ble_eq_true rfl⟩ rfl (Nat.le_of_ble_eq_true rfl) rfl dX12_vector_14 (c_X12_isIn rfl) (fun v τ hq => ?_)
    obtain ⟨rfl, hτ⟩ := hq
    subst τ
    change Z _ _ _ _ _ [.int (f_X12_isIn x2 0 1)] _
    refine z_if_eq (tgt := 28) dX12_vector_17 (by decide) (fun q => ?_) (fun q => ?_)
    · have h := (if_pos q).symm.trans h
      refine z_bipush (v := (-100)) dX12_vector_28 (by decide) ?_
      subst h
      exact z_ireturn dX12_vector_30 rfl rfl ⟨rfl, rfl⟩
    · have h := (if_neg q).symm.trans h
      refine z_iload_n dX12_vector_20 rfl 1 rfl ?_
      refine z_iload_n dX12_vector_21 rfl 2 rfl ?_
      refine z_callS (M' := m_X12_vectorOf) (As := [.int (x1), .int (x2)]) (rest := []) kl_12_460 oy_X12_vectorOf ⟨Nat.le_of_ble_eq_true rfl, Nat.le_of_ble_eq_true rfl⟩ rfl (Nat.le_of_ble_eq_true rfl) rfl dX12_vector_22 (c_X12_vectorOf rfl) (fun v τ hq => ?_)
      obtain ⟨rfl, hτ⟩ := hq
      subst τ
      change Z _ _ _ _ _ [.int (f_X12_vectorOf x1 x2)] _
      refine z_goto (tgt := 30) dX12_vector_25 (by decide) ?_
      subst h
      exact z_ireturn dX12_vector_30 rfl rfl ⟨rfl, rfl⟩
/-- SkyStonesModel.vector(II)I -/
theorem c_X12_vector {S : Shp} {x1 : Int32} {x2 : Int32} {σ : Mm} {r : Int32} (hp : okP σ = true) (h : f_X12_vector x1 x2 σ = r) : Ct m_X12_vector S [.ref (sL S 3 0 0), .int (x1), .int (x2)] σ (Qi (r, σ)) := Ct.of (by decide +kernel) (Nat.le_of_ble_eq_true rfl) (zb_X12_vector hp h)
