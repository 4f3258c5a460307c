def F_X11_otherwise_176 (s0 : Int32) (σ : Mm) : Option (Int32 × Mm) := some (s0, σ)
set_option maxRecDepth 20000 in
theorem zb_X11_otherwise_176 {S : Shp} {s0 : Int32} {σ : Mm} {r : Int32 × Mm} (h : F_X11_otherwise_176 s0 σ = some r) : Z m_X11_otherwise S (Qi r) 176 [] [.int (s0)] σ := by
  unfold F_X11_otherwise_176 at h
  cases h
  exact z_ireturn dX11_otherwise_176 rfl rfl ⟨rfl, rfl⟩
def F_X11_otherwise_163 (rc116 : Int32 → Int32 → Mm → Option (Int32 × Mm)) (x1 : Int32) (x5 : Int32) (σ : Mm) : Option (Int32 × Mm) := (rc116 x1 (x5 + 1) σ)
set_option maxRecDepth 20000 in
theorem zb_X11_otherwise_163 {S : Shp} {rc116 : Int32 → Int32 → Mm → Option (Int32 × Mm)} (hrc116 : ∀ {x1 : Int32} {x5 : Int32} {σ : Mm} {r : Int32 × Mm}, rc116 x1 x5 σ = some r → Z m_X11_otherwise S (Qi r) 116 [(0, .ref (sL S 0 0 0)), (1, .int (x1)), (5, .int (x5))] [] σ) {x1 : Int32} {x5 : Int32} {σ : Mm} {r : Int32 × Mm} (h : F_X11_otherwise_163 rc116 x1 x5 σ = some r) : Z m_X11_otherwise S (Qi r) 163 [(0, .ref (sL S 0 0 0)), (1, .int (x1)), (5, .int (x5))] [] σ := by
  unfold F_X11_otherwise_163 at h
  refine z_iinc (j := 2) (v := x5 + 1) (lv' := [(0, .ref (sL S 0 0 0)), (1, .int (x1)), (5, .int (x5 + 1))]) dX11_otherwise_163 rfl rfl (by decide) [1, 2, 0] rfl ?_
  refine z_goto (tgt := 116) dX11_otherwise_166 (by decide) ?_
  exact hrc116 h
def F_X11_otherwise_144 (rc116 : Int32 → Int32 → Mm → Option (Int32 × Mm)) (x1 : Int32) (x5 : Int32) (s0 : Int32) (σ : Mm) : Option (Int32 × Mm) := (if s0 = 0 then (F_X11_otherwise_163 rc116 x1 x5 σ) else (if inb x5 182 = true then (if inb (mA σ 0 0 23 x5.toNatClampNeg) 2001 = true then (F_X11_otherwise_163 rc116 x1 x5 (setA σ 0 0 5 (upd (mA σ 0 0 5) (mA σ 0 0 23 x5.toNatClampNeg).toNatClampNeg (vp_nar .boolean 0)))) else none) else none))
set_option maxRecDepth 20000 in
theorem zb_X11_otherwise_144 {S : Shp} {rc116 : Int32 → Int32 → Mm → Option (Int32 × Mm)} (hrc116 : ∀ {x1 : Int32} {x5 : Int32} {σ : Mm} {r : Int32 × Mm}, rc116 x1 x5 σ = some r → Z m_X11_otherwise S (Qi r) 116 [(0, .ref (sL S 0 0 0)), (1, .int (x1)), (5, .int (x5))] [] σ) {x1 : Int32} {x5 : Int32} {s0 : Int32} {σ : Mm} {r : Int32 × Mm} (h : F_X11_otherwise_144 rc116 x1 x5 s0 σ = some r) : Z m_X11_otherwise S (Qi r) 144 [(0, .ref (sL S 0 0 0)), (1, .int (x1)), (5, .int (x5))] [.int (s0)] σ := by
  unfold F_X11_otherwise_144 at h
  refine z_if_eq (tgt := 163) dX11_otherwise_144 (by decide) (fun q => ?_) (fun q => ?_)
  · have h := (if_pos q).symm.trans h
    exact zb_X11_otherwise_163 hrc116 h
  · have h := (if_neg q).symm.trans h
    obtain ⟨g7, h⟩ := gd h
    refine z_aload_n dX11_otherwise_147 rfl 0 rfl ?_
    refine gf_11_96 rfl dX11_otherwise_148 ?_
    refine z_aload_n dX11_otherwise_151 rfl 0 rfl ?_
    refine gf_11_53 rfl dX11_otherwise_152 ?_
    refine gf_11_257 rfl dX11_otherwise_155 ?_
    refine z_iload dX11_otherwise_158 2 rfl ?_
    obtain ⟨g8, h⟩ := gd h
    refine ia_0_23 (inb_in g7) dX11_otherwise_160 ?_
    refine z_iconst (v := 0) dX11_otherwise_161 (by decide) ?_
    refine is_0_5 (inb_in g8) dX11_otherwise_162 ?_
    exact zb_X11_otherwise_163 hrc116 h
def B_X11_otherwise_116 (rc116 : Int32 → Int32 → Mm → Option (Int32 × Mm)) (x1 : Int32) (x5 : Int32) (σ : Mm) : Option (Int32 × Mm) := (if (mA σ 0 0 15 8) ≤ x5 then (bnd (F_X11_markedUpTo 195 σ) (fun v τ => (F_X11_otherwise_176 v τ))) else (if inb x5 182 = true then (bnd (F_X11_strikes (mA σ 0 0 24 x5.toNatClampNeg) x1 0 σ) (fun v τ => (F_X11_otherwise_144 rc116 x1 x5 v τ))) else none))
set_option maxRecDepth 20000 in
theorem zB_X11_otherwise_116 {S : Shp} {rc116 : Int32 → Int32 → Mm → Option (Int32 × Mm)} (hrc116 : ∀ {x1 : Int32} {x5 : Int32} {σ : Mm} {r : Int32 × Mm}, rc116 x1 x5 σ = some r → Z m_X11_otherwise S (Qi r) 116 [(0, .ref (sL S 0 0 0)), (1, .int (x1)), (5, .int (x5))] [] σ) {x1 : Int32} {x5 : Int32} {σ : Mm} {r : Int32 × Mm} (h : B_X11_otherwise_116 rc116 x1 x5 σ = some r) : Z m_X11_otherwise S (Qi r) 116 [(0, .ref (sL S 0 0 0)), (1, .int (x1)), (5, .int (x5))] [] σ := by
  unfold B_X11_otherwise_116 at h
  refine z_iload dX11_otherwise_116 2 rfl ?_
  refine z_aload_n dX11_otherwise_118 rfl 0 rfl ?_
  refine gf_11_53 rfl dX11_otherwise_119 ?_
  refine gf_11_210 rfl dX11_otherwise_122 ?_
  refine z_icmp_ge (tgt := 169) dX11_otherwise_125 (by decide) (fun q => ?_) (fun q => ?_)
  · have h := (if_pos q).symm.trans h
    refine z_aload_n dX11_otherwise_169 rfl 0 rfl ?_
    refine z_sipush (v := 195) dX11_otherwise_170 (by decide) ?_
    obtain ⟨v, τ, hc, h⟩ := bnd_e h
    refine z_callV (M' := m_X11_markedUpTo) (t := 0) (i := 0) (k := 0) (As := [.int (195)]) (rest := []) kl_11_291 oy_X11_markedUpTo ⟨Nat.le_of_ble_eq_true rfl, Nat.le_of_ble_eq_true rfl⟩ rfl rfl rfl rfl (Nat.le_of_ble_eq_true rfl) rfl dX11_otherwise_173 (c_X11_markedUpTo hc) (fun v2 τ2 hq => ?_)
    obtain ⟨rfl, hτ⟩ := hq
    subst τ2
    change Z _ _ _ _ _ [.int (v)] _
    refine Z.lv [] rfl ?_
    exact zb_X11_otherwise_176 h
  · have h := (if_neg q).symm.trans h
    obtain ⟨g6, h⟩ := gd h
    refine z_aload_n dX11_otherwise_128 rfl 0 rfl ?_
    refine z_aload_n dX11_otherwise_129 rfl 0 rfl ?_
    refine gf_11_53 rfl dX11_otherwise_130 ?_
    refine gf_11_250 rfl dX11_otherwise_133 ?_
    refine z_iload dX11_otherwise_136 2 rfl ?_
    refine ia_0_24 (inb_in g6) dX11_otherwise_138 ?_
    refine z_iload_n dX11_otherwise_139 rfl 1 rfl ?_
    refine z_iconst (v := 0) dX11_otherwise_140 (by decide) ?_
    obtain ⟨v, τ, hc, h⟩ := bnd_e h
    refine z_callV (M' := m_X11_strikes) (t := 0) (i := 0) (k := 0) (As := [.int (mA σ 0 0 24 x5.toNatClampNeg), .int (x1), .int (0)]) (rest := []) kl_11_253 oy_X11_strikes ⟨Nat.le_of_ble_eq_true rfl, Nat.le_of_ble_eq_true rfl⟩ rfl rfl rfl rfl (Nat.le_of_ble_eq_true rfl) rfl dX11_otherwise_141 (c_X11_strikes hc) (fun v2 τ2 hq => ?_)
    obtain ⟨rfl, hτ⟩ := hq
    subst τ2
    change Z _ _ _ _ _ [.int (v)] _
    exact zb_X11_otherwise_144 hrc116 h
def F_X11_otherwise_116 : Nat → Int32 → Int32 → Mm → Option (Int32 × Mm)
  | 0 => fun _ _ _ => none
  | n + 1 => B_X11_otherwise_116 (F_X11_otherwise_116 n)
theorem zl_X11_otherwise_116 {S : Shp} : ∀ (nn : Nat) {x1 : Int32} {x5 : Int32} {σ : Mm} {r : Int32 × Mm}, F_X11_otherwise_116 nn x1 x5 σ = some r → Z m_X11_otherwise S (Qi r) 116 [(0, .ref (sL S 0 0 0)), (1, .int (x1)), (5, .int (x5))] [] σ := by
  intro nn
  induction nn with
  | zero => intro x1 x5 σ r h; cases h
  | succ nn ih => intro x1 x5 σ r h; exact zB_X11_otherwise_116 @ih h
def F_X11_otherwise_113 (x1 : Int32) (σ : Mm) : Option (Int32 × Mm) := (F_X11_otherwise_116 FU x1 0 σ)
set_option maxRecDepth 20000 in
theorem zb_X11_otherwise_113 {S : Shp} {x1 : Int32} {σ : Mm} {r : Int32 × Mm} (h : F_X11_otherwise_113 x1 σ = some r) : Z m_X11_otherwise S (Qi r) 113 [(0, .ref (sL S 0 0 0)), (1, .int (x1))] [] σ := by
  unfold F_X11_otherwise_113 at h
  refine z_iconst (v := 0) dX11_otherwise_113 (by decide) ?_
  refine z_istore (lv' := [(0, .ref (sL S 0 0 0)), (1, .int (x1)), (5, .int (0))]) dX11_otherwise_114 (by decide) [1, 2, 0] rfl ?_
  exact zl_X11_otherwise_116 FU h
def F_X11_otherwise_99 (rc56 : Int32 → Int32 → Int32 → Int32 → Mm → Option (Int32 × Mm)) (x1 : Int32) (x2 : Int32) (x4 : Int32) (x5 : Int32) (σ : Mm) : Option (Int32 × Mm) := (rc56 x1 x2 x4 (x5 + 1) σ)
set_option maxRecDepth 20000 in
theorem zb_X11_otherwise_99 {S : Shp} {rc56 : Int32 → Int32 → Int32 → Int32 → Mm → Option (Int32 × Mm)} (hrc56 : ∀ {x1 : Int32} {x2 : Int32} {x4 : Int32} {x5 : Int32} {σ : Mm} {r : Int32 × Mm}, rc56 x1 x2 x4 x5 σ = some r → Z m_X11_otherwise S (Qi r) 56 [(0, .ref (sL S 0 0 0)), (1, .int (x1)), (2, .int (x2)), (4, .int (x4)), (5, .int (x5))] [] σ) {x1 : Int32} {x2 : Int32} {x4 : Int32} {x5 : Int32} {σ : Mm} {r : Int32 × Mm} (h : F_X11_otherwise_99 rc56 x1 x2 x4 x5 σ = some r) : Z m_X11_otherwise S (Qi r) 99 [(0, .ref (sL S 0 0 0)), (1, .int (x1)), (2, .int (x2)), (4, .int (x4)), (5, .int (x5))] [] σ := by
  unfold F_X11_otherwise_99 at h
  refine z_iinc (j := 4) (v := x5 + 1) (lv' := [(0, .ref (sL S 0 0 0)), (1, .int (x1)), (2, .int (x2)), (4, .int (x4)), (5, .int (x5 + 1))]) dX11_otherwise_99 rfl rfl (by decide) [1, 2, 3, 4, 0] rfl ?_
  refine z_goto (tgt := 56) dX11_otherwise_102 (by decide) ?_
  exact hrc56 h
def F_X11_otherwise_98 (rc56 : Int32 → Int32 → Int32 → Int32 → Mm → Option (Int32 × Mm)) (x1 : Int32) (x2 : Int32) (x4 : Int32) (x5 : Int32) (s0 : Int32) (s1 : Int32) (σ : Mm) : Option (Int32 × Mm) := (if inb s1 2001 = true then (F_X11_otherwise_99 rc56 x1 x2 x4 x5 (setA σ 0 0 5 (upd (mA σ 0 0 5) s1.toNatClampNeg (vp_nar .boolean s0)))) else none)
set_option maxRecDepth 20000 in
theorem zb_X11_otherwise_98 {S : Shp} {rc56 : Int32 → Int32 → Int32 → Int32 → Mm → Option (Int32 × Mm)} (hrc56 : ∀ {x1 : Int32} {x2 : Int32} {x4 : Int32} {x5 : Int32} {σ : Mm} {r : Int32 × Mm}, rc56 x1 x2 x4 x5 σ = some r → Z m_X11_otherwise S (Qi r) 56 [(0, .ref (sL S 0 0 0)), (1, .int (x1)), (2, .int (x2)), (4, .int (x4)), (5, .int (x5))] [] σ) {x1 : Int32} {x2 : Int32} {x4 : Int32} {x5 : Int32} {s0 : Int32} {s1 : Int32} {σ : Mm} {r : Int32 × Mm} (h : F_X11_otherwise_98 rc56 x1 x2 x4 x5 s0 s1 σ = some r) : Z m_X11_otherwise S (Qi r) 98 [(0, .ref (sL S 0 0 0)), (1, .int (x1)), (2, .int (x2)), (4, .int (x4)), (5, .int (x5))] [.int (s0), .int (s1), .ref (sL S 0 0 5)] σ := by
  unfold F_X11_otherwise_98 at h
  obtain ⟨g5, h⟩ := gd h
  refine is_0_5 (inb_in g5) dX11_otherwise_98 ?_
  exact zb_X11_otherwise_99 hrc56 h
def B_X11_otherwise_56 (rc56 : Int32 → Int32 → Int32 → Int32 → Mm → Option (Int32 × Mm)) (x1 : Int32) (x2 : Int32) (x4 : Int32) (x5 : Int32) (σ : Mm) : Option (Int32 × Mm) := (if (mA σ 0 0 15 8) ≤ x5 then (bnv (F_X11_lookAt x2 x4 ((-1)) σ) (fun τ => (F_X11_otherwise_113 x1 τ))) else (if inb x5 182 = true then (if inb x5 182 = true then (bnd (F_X11_strikes (mA σ 0 0 24 x5.toNatClampNeg) x1 0 σ) (fun v τ => (F_X11_otherwise_98 rc56 x1 x2 x4 x5 v (mA σ 0 0 23 x5.toNatClampNeg) τ))) else none) else none))
set_option maxRecDepth 20000 in
theorem zB_X11_otherwise_56 {S : Shp} {rc56 : Int32 → Int32 → Int32 → Int32 → Mm → Option (Int32 × Mm)} (hrc56 : ∀ {x1 : Int32} {x2 : Int32} {x4 : Int32} {x5 : Int32} {σ : Mm} {r : Int32 × Mm}, rc56 x1 x2 x4 x5 σ = some r → Z m_X11_otherwise S (Qi r) 56 [(0, .ref (sL S 0 0 0)), (1, .int (x1)), (2, .int (x2)), (4, .int (x4)), (5, .int (x5))] [] σ) {x1 : Int32} {x2 : Int32} {x4 : Int32} {x5 : Int32} {σ : Mm} {r : Int32 × Mm} (h : B_X11_otherwise_56 rc56 x1 x2 x4 x5 σ = some r) : Z m_X11_otherwise S (Qi r) 56 [(0, .ref (sL S 0 0 0)), (1, .int (x1)), (2, .int (x2)), (4, .int (x4)), (5, .int (x5))] [] σ := by
  unfold B_X11_otherwise_56 at h
  refine z_iload dX11_otherwise_56 4 rfl ?_
  refine z_aload_n dX11_otherwise_58 rfl 0 rfl ?_
  refine gf_11_53 rfl dX11_otherwise_59 ?_
  refine gf_11_210 rfl dX11_otherwise_62 ?_
  refine z_icmp_ge (tgt := 105) dX11_otherwise_65 (by decide) (fun q => ?_) (fun q => ?_)
  · have h := (if_pos q).symm.trans h
    refine z_aload_n dX11_otherwise_105 rfl 0 rfl ?_
    refine z_iload_n dX11_otherwise_106 rfl 2 rfl ?_
    refine z_iload dX11_otherwise_107 3 rfl ?_
    refine z_iconst (v := (-1)) dX11_otherwise_109 (by decide) ?_
    obtain ⟨τ, hc, h⟩ := bnv_e h
    refine z_callV (M' := m_X11_lookAt) (t := 0) (i := 0) (k := 0) (As := [.int (x2), .int (x4), .int ((-1))]) (rest := []) kl_11_243 oy_X11_lookAt ⟨Nat.le_of_ble_eq_true rfl, Nat.le_of_ble_eq_true rfl⟩ rfl rfl rfl rfl (Nat.le_of_ble_eq_true rfl) rfl dX11_otherwise_110 (c_X11_lookAt hc) (fun v2 τ2 hq => ?_)
    obtain ⟨rfl, hτ⟩ := hq
    subst τ2
    change Z _ _ _ _ _ [] _
    refine Z.lv [0, 1] rfl ?_
    exact zb_X11_otherwise_113 h
  · have h := (if_neg q).symm.trans h
    obtain ⟨g3, h⟩ := gd h
    refine z_aload_n dX11_otherwise_68 rfl 0 rfl ?_
    refine gf_11_96 rfl dX11_otherwise_69 ?_
    refine z_aload_n dX11_otherwise_72 rfl 0 rfl ?_
    refine gf_11_53 rfl dX11_otherwise_73 ?_
    refine gf_11_257 rfl dX11_otherwise_76 ?_
    refine z_iload dX11_otherwise_79 4 rfl ?_
    obtain ⟨g4, h⟩ := gd h
    refine ia_0_23 (inb_in g3) dX11_otherwise_81 ?_
    refine z_aload_n dX11_otherwise_82 rfl 0 rfl ?_
    refine z_aload_n dX11_otherwise_83 rfl 0 rfl ?_
    refine gf_11_53 rfl dX11_otherwise_84 ?_
    refine gf_11_250 rfl dX11_otherwise_87 ?_
    refine z_iload dX11_otherwise_90 4 rfl ?_
    refine ia_0_24 (inb_in g4) dX11_otherwise_92 ?_
    refine z_iload_n dX11_otherwise_93 rfl 1 rfl ?_
    refine z_iconst (v := 0) dX11_otherwise_94 (by decide) ?_
    obtain ⟨v, τ, hc, h⟩ := bnd_e h
    refine z_callV (M' := m_X11_strikes) (t := 0) (i := 0) (k := 0) (As := [.int (mA σ 0 0 24 x5.toNatClampNeg), .int (x1), .int (0)]) (rest := [.int (mA σ 0 0 23 x5.toNatClampNeg), .ref (sL S 0 0 5)]) kl_11_253 oy_X11_strikes ⟨Nat.le_of_ble_eq_true rfl, Nat.le_of_ble_eq_true rfl⟩ rfl rfl rfl rfl (Nat.le_of_ble_eq_true rfl) rfl dX11_otherwise_95 (c_X11_strikes hc) (fun v2 τ2 hq => ?_)
    obtain ⟨rfl, hτ⟩ := hq
    subst τ2
    change Z _ _ _ _ _ [.int (v), .int (mA σ 0 0 23 x5.toNatClampNeg), .ref (sL S 0 0 5)] _
    exact zb_X11_otherwise_98 hrc56 h
def F_X11_otherwise_56 : Nat → Int32 → Int32 → Int32 → Int32 → Mm → Option (Int32 × Mm)
  | 0 => fun _ _ _ _ _ => none
  | n + 1 => B_X11_otherwise_56 (F_X11_otherwise_56 n)
theorem zl_X11_otherwise_56 {S : Shp} : ∀ (nn : Nat) {x1 : Int32} {x2 : Int32} {x4 : Int32} {x5 : Int32} {σ : Mm} {r : Int32 × Mm}, F_X11_otherwise_56 nn x1 x2 x4 x5 σ = some r → Z m_X11_otherwise S (Qi r) 56 [(0, .ref (sL S 0 0 0)), (1, .int (x1)), (2, .int (x2)), (4, .int (x4)), (5, .int (x5))] [] σ := by
  intro nn
  induction nn with
  | zero => intro x1 x2 x4 x5 σ r h; cases h
  | succ nn ih => intro x1 x2 x4 x5 σ r h; exact zB_X11_otherwise_56 @ih h
def F_X11_otherwise_47 (rc31 : Int32 → Int32 → Int32 → Int32 → Mm → Option (Int32 × Mm)) (x1 : Int32) (x2 : Int32) (x4 : Int32) (x5 : Int32) (σ : Mm) : Option (Int32 × Mm) := (rc31 x1 x2 x4 (x5 + 1) σ)
set_option maxRecDepth 20000 in
theorem zb_X11_otherwise_47 {S : Shp} {rc31 : Int32 → Int32 → Int32 → Int32 → Mm → Option (Int32 × Mm)} (hrc31 : ∀ {x1 : Int32} {x2 : Int32} {x4 : Int32} {x5 : Int32} {σ : Mm} {r : Int32 × Mm}, rc31 x1 x2 x4 x5 σ = some r → Z m_X11_otherwise S (Qi r) 31 [(0, .ref (sL S 0 0 0)), (1, .int (x1)), (2, .int (x2)), (4, .int (x4)), (5, .int (x5))] [] σ) {x1 : Int32} {x2 : Int32} {x4 : Int32} {x5 : Int32} {σ : Mm} {r : Int32 × Mm} (h : F_X11_otherwise_47 rc31 x1 x2 x4 x5 σ = some r) : Z m_X11_otherwise S (Qi r) 47 [(0, .ref (sL S 0 0 0)), (1, .int (x1)), (2, .int (x2)), (4, .int (x4)), (5, .int (x5))] [] σ := by
  unfold F_X11_otherwise_47 at h
  refine z_iinc (j := 4) (v := x5 + 1) (lv' := [(0, .ref (sL S 0 0 0)), (1, .int (x1)), (2, .int (x2)), (4, .int (x4)), (5, .int (x5 + 1))]) dX11_otherwise_47 rfl rfl (by decide) [1, 2, 3, 4, 0] rfl ?_
  refine z_goto (tgt := 31) dX11_otherwise_50 (by decide) ?_
  exact hrc31 h
def B_X11_otherwise_31 (rc31 : Int32 → Int32 → Int32 → Int32 → Mm → Option (Int32 × Mm)) (x1 : Int32) (x2 : Int32) (x4 : Int32) (x5 : Int32) (σ : Mm) : Option (Int32 × Mm) := (if (196 : Int32) ≤ x5 then (F_X11_otherwise_56 FU x1 x2 x4 0 σ) else (if inb x5 2001 = true then (F_X11_otherwise_47 rc31 x1 x2 x4 x5 (setA σ 0 0 5 (upd (mA σ 0 0 5) x5.toNatClampNeg (vp_nar .boolean 0)))) else none))
set_option maxRecDepth 20000 in
theorem zB_X11_otherwise_31 {S : Shp} {rc31 : Int32 → Int32 → Int32 → Int32 → Mm → Option (Int32 × Mm)} (hrc31 : ∀ {x1 : Int32} {x2 : Int32} {x4 : Int32} {x5 : Int32} {σ : Mm} {r : Int32 × Mm}, rc31 x1 x2 x4 x5 σ = some r → Z m_X11_otherwise S (Qi r) 31 [(0, .ref (sL S 0 0 0)), (1, .int (x1)), (2, .int (x2)), (4, .int (x4)), (5, .int (x5))] [] σ) {x1 : Int32} {x2 : Int32} {x4 : Int32} {x5 : Int32} {σ : Mm} {r : Int32 × Mm} (h : B_X11_otherwise_31 rc31 x1 x2 x4 x5 σ = some r) : Z m_X11_otherwise S (Qi r) 31 [(0, .ref (sL S 0 0 0)), (1, .int (x1)), (2, .int (x2)), (4, .int (x4)), (5, .int (x5))] [] σ := by
  unfold B_X11_otherwise_31 at h
  refine z_iload dX11_otherwise_31 4 rfl ?_
  refine z_sipush (v := 196) dX11_otherwise_33 (by decide) ?_
  refine z_icmp_ge (tgt := 53) dX11_otherwise_36 (by decide) (fun q => ?_) (fun q => ?_)
  · have h := (if_pos q).symm.trans h
    refine z_iconst (v := 0) dX11_otherwise_53 (by decide) ?_
    refine z_istore (lv' := [(0, .ref (sL S 0 0 0)), (1, .int (x1)), (2, .int (x2)), (4, .int (x4)), (5, .int (0))]) dX11_otherwise_54 (by decide) [1, 2, 3, 4, 0] rfl ?_
    exact zl_X11_otherwise_56 FU h
  · have h := (if_neg q).symm.trans h
    obtain ⟨g2, h⟩ := gd h
    refine z_aload_n dX11_otherwise_39 rfl 0 rfl ?_
    refine gf_11_96 rfl dX11_otherwise_40 ?_
    refine z_iload dX11_otherwise_43 4 rfl ?_
    refine z_iconst (v := 0) dX11_otherwise_45 (by decide) ?_
    refine is_0_5 (inb_in g2) dX11_otherwise_46 ?_
    exact zb_X11_otherwise_47 hrc31 h
def F_X11_otherwise_31 : Nat → Int32 → Int32 → Int32 → Int32 → Mm → Option (Int32 × Mm)
  | 0 => fun _ _ _ _ _ => none
  | n + 1 => B_X11_otherwise_31 (F_X11_otherwise_31 n)
theorem zl_X11_otherwise_31 {S : Shp} : ∀ (nn : Nat) {x1 : Int32} {x2 : Int32} {x4 : Int32} {x5 : Int32} {σ : Mm} {r : Int32 × Mm}, F_X11_otherwise_31 nn x1 x2 x4 x5 σ = some r → Z m_X11_otherwise S (Qi r) 31 [(0, .ref (sL S 0 0 0)), (1, .int (x1)), (2, .int (x2)), (4, .int (x4)), (5, .int (x5))] [] σ := by
  intro nn
  induction nn with
  | zero => intro x1 x2 x4 x5 σ r h; cases h
  | succ nn ih => intro x1 x2 x4 x5 σ r h; exact zB_X11_otherwise_31 @ih h
def F_X11_otherwise_28 (x1 : Int32) (x2 : Int32) (x4 : Int32) (σ : Mm) : Option (Int32 × Mm) := (F_X11_otherwise_31 FU x1 x2 x4 0 σ)
set_option maxRecDepth 20000 in
theorem zb_X11_otherwise_28 {S : Shp} {x1 : Int32} {x2 : Int32} {x4 : Int32} {σ : Mm} {r : Int32 × Mm} (h : F_X11_otherwise_28 x1 x2 x4 σ = some r) : Z m_X11_otherwise S (Qi r) 28 [(0, .ref (sL S 0 0 0)), (1, .int (x1)), (2, .int (x2)), (4, .int (x4))] [] σ := by
  unfold F_X11_otherwise_28 at h
  refine z_iconst (v := 0) dX11_otherwise_28 (by decide) ?_
  refine z_istore (lv' := [(0, .ref (sL S 0 0 0)), (1, .int (x1)), (2, .int (x2)), (4, .int (x4)), (5, .int (0))]) dX11_otherwise_29 (by decide) [1, 2, 3, 4, 0] rfl ?_
  exact zl_X11_otherwise_31 FU h
def F_X11_otherwise (x1 : Int32) (x2 : Int32) (x3 : Int32) (x4 : Int32) (σ : Mm) : Option (Int32 × Mm) := (if okP σ = true then (if (f_X11_isAsked x1 x2 x3 σ) = 0 then some ((-1), σ) else (if (f_X11_isKnown x4 σ) = 0 then some ((-1), σ) else (bnv (F_X11_lookAt x2 x3 ((-1)) σ) (fun τ => (F_X11_otherwise_28 x1 x2 x4 τ))))) else none)
set_option maxRecDepth 20000 in
theorem zb_X11_otherwise {S : Shp} {x1 : Int32} {x2 : Int32} {x3 : Int32} {x4 : Int32} {σ : Mm} {r : Int32 × Mm} (h : F_X11_otherwise x1 x2 x3 x4 σ = some r) : Z m_X11_otherwise S (Qi r) 0 [(0, .ref (sL S 0 0 0)), (1, .int (x1)), (2, .int (x2)), (3, .int (x3)), (4, .int (x4))] [] σ := by
  unfold F_X11_otherwise at h
  obtain ⟨g1, h⟩ := gd h
  refine z_aload_n dX11_otherwise_0 rfl 0 rfl ?_
  refine z_iload_n dX11_otherwise_1 rfl 1 rfl ?_
  refine z_iload_n dX11_otherwise_2 rfl 2 rfl ?_
  refine z_iload_n dX11_otherwise_3 rfl 3 rfl ?_
  have hp := g1
  refine z_callV (M' := m_X11_isAsked) (t := 0) (i := 0) (k := 0) (As := [.int (x1), .int (x2), .int (x3)]) (rest := []) kl_11_239 oy_X11_isAsked ⟨Nat.le_of_ble_eq_true rfl, Nat.le_of_ble_eq_true rfl⟩ rfl rfl rfl rfl (Nat.le_of_ble_eq_true rfl) rfl dX11_otherwise_4 (c_X11_isAsked hp rfl) (fun v τ hq => ?_)
  obtain ⟨rfl, hτ⟩ := hq
  subst τ
  change Z _ _ _ _ _ [.int (f_X11_isAsked x1 x2 x3 σ)] _
  refine z_if_eq (tgt := 19) dX11_otherwise_7 (by decide) (fun q => ?_) (fun q => ?_)
  · have h := (if_pos q).symm.trans h
    refine z_iconst (v := (-1)) dX11_otherwise_19 (by decide) ?_
    cases h
    exact z_ireturn dX11_otherwise_20 rfl rfl ⟨rfl, rfl⟩
  · have h := (if_neg q).symm.trans h
    refine z_aload_n dX11_otherwise_10 rfl 0 rfl ?_
    refine z_iload dX11_otherwise_11 4 rfl ?_
    refine z_callV (M' := m_X11_isKnown) (t := 0) (i := 0) (k := 0) (As := [.int (x4)]) (rest := []) kl_11_152 oy_X11_isKnown ⟨Nat.le_of_ble_eq_true rfl, Nat.le_of_ble_eq_true rfl⟩ rfl rfl rfl rfl (Nat.le_of_ble_eq_true rfl) rfl dX11_otherwise_13 (c_X11_isKnown hp rfl) (fun v τ hq => ?_)
    obtain ⟨rfl, hτ⟩ := hq
    subst τ
    change Z _ _ _ _ _ [.int (f_X11_isKnown x4 σ)] _
    refine z_if_ne (tgt := 21) dX11_otherwise_16 (by decide) (fun q => ?_) (fun q => ?_)
    · have h := (if_neg q).symm.trans h
      refine z_aload_n dX11_otherwise_21 rfl 0 rfl ?_
      refine z_iload_n dX11_otherwise_22 rfl 2 rfl ?_
      refine z_iload_n dX11_otherwise_23 rfl 3 rfl ?_
      refine z_iconst (v := (-1)) dX11_otherwise_24 (by decide) ?_
      obtain ⟨τ, hc, h⟩ := bnv_e h
      refine z_callV (M' := m_X11_lookAt) (t := 0) (i := 0) (k := 0) (As := [.int (x2), .int (x3), .int ((-1))]) (rest := []) kl_11_243 oy_X11_lookAt ⟨Nat.le_of_ble_eq_true rfl, Nat.le_of_ble_eq_true rfl⟩ rfl rfl rfl rfl (Nat.le_of_ble_eq_true rfl) rfl dX11_otherwise_25 (c_X11_lookAt hc) (fun v2 τ2 hq => ?_)
      obtain ⟨rfl, hτ⟩ := hq
      subst τ2
      change Z _ _ _ _ _ [] _
      refine Z.lv [0, 1, 2, 4] rfl ?_
      exact zb_X11_otherwise_28 h
    · have h := (if_pos q).symm.trans h
      refine z_iconst (v := (-1)) dX11_otherwise_19 (by decide) ?_
      cases h
      exact z_ireturn dX11_otherwise_20 rfl rfl ⟨rfl, rfl⟩
/-- SkyStones.otherwise(IIII)I -/
theorem c_X11_otherwise {S : Shp} {x1 : Int32} {x2 : Int32} {x3 : Int32} {x4 : Int32} {σ : Mm} {r : Int32 × Mm} (h : F_X11_otherwise x1 x2 x3 x4 σ = some r) : Ct m_X11_otherwise S [.ref (sL S 0 0 0), .int (x1), .int (x2), .int (x3), .int (x4)] σ (Qi r) := Ct.of (by decide +kernel) (Nat.le_of_ble_eq_true rfl) (zb_X11_otherwise h)
def f_X11_place (σ : Mm) : Int32 := mA σ 0 0 12 1
set_option maxRecDepth 20000 in
theorem zb_X11_place {S : Shp} {σ : Mm} {r : Int32} (hp : okP σ = true) (h : f_X11_place σ = r) : Z m_X11_place S (Qi (r, σ)) 0 [(0, .ref (sL S 0 0 0))] [] σ := by
  unfold f_X11_place at h
  refine z_aload_n dX11_place_0 rfl 0 rfl ?_
  refine gf_11_31 rfl dX11_place_1 ?_
  refine gf_11_121 rfl dX11_place_4 ?_
  subst h
  exact z_ireturn dX11_place_7 rfl rfl ⟨rfl, rfl⟩
/-- SkyStones.place()I -/
theorem c_X11_place {S : Shp} {σ : Mm} {r : Int32} (hp : okP σ = true) (h : f_X11_place σ = r) : Ct m_X11_place S [.ref (sL S 0 0 0)] σ (Qi (r, σ)) := Ct.of (by decide +kernel) (Nat.le_of_ble_eq_true rfl) (zb_X11_place hp h)
def F_X11_pointing_40 (s0 : Int32) (σ : Mm) : Option (Int32 × Mm) := some (s0, σ)
set_option maxRecDepth 20000 in
theorem zb_X11_pointing_40 {S : Shp} {s0 : Int32} {σ : Mm} {r : Int32 × Mm} (h : F_X11_pointing_40 s0 σ = some r) : Z m_X11_pointing S (Qi r) 40 [] [.int (s0)] σ := by
  unfold F_X11_pointing_40 at h
  cases h
  exact z_ireturn dX11_pointing_40 rfl rfl ⟨rfl, rfl⟩
def F_X11_pointing_37 (s1 : Int32) (s2 : Int32) (σ : Mm) : Option (Int32 × Mm) := (bnd (F_X11_near_w s2 s1 σ) (fun v τ => (F_X11_pointing_40 v τ)))
set_option maxRecDepth 20000 in
theorem zb_X11_pointing_37 {S : Shp} {s1 : Int32} {s2 : Int32} {σ : Mm} {r : Int32 × Mm} (h : F_X11_pointing_37 s1 s2 σ = some r) : Z m_X11_pointing S (Qi r) 37 [] [.ref (sL S 0 0 3), .int (s1), .int (s2), .ref (sL S 0 0 0)] σ := by
  unfold F_X11_pointing_37 at h
  obtain ⟨v, τ, hc, h⟩ := bnd_e h
  refine z_callV (M' := m_X11_near) (t := 0) (i := 0) (k := 0) (As := [.int (s2), .int (s1), .ref (sL S 0 0 3)]) (rest := []) kl_11_306 oy_X11_near ⟨Nat.le_of_ble_eq_true rfl, Nat.le_of_ble_eq_true rfl⟩ rfl rfl rfl rfl (Nat.le_of_ble_eq_true rfl) rfl dX11_pointing_37 (c_X11_near_w hc) (fun v2 τ2 hq => ?_)
  obtain ⟨rfl, hτ⟩ := hq
  subst τ2
  change Z _ _ _ _ _ [.int (v)] _
  exact zb_X11_pointing_40 h
def F_X11_pointing_37_1 (s1 : Int32) (s2 : Int32) (σ : Mm) : Option (Int32 × Mm) := (bnd (F_X11_near_l s2 s1 σ) (fun v τ => (F_X11_pointing_40 v τ)))
set_option maxRecDepth 20000 in
theorem zb_X11_pointing_37_1 {S : Shp} {s1 : Int32} {s2 : Int32} {σ : Mm} {r : Int32 × Mm} (h : F_X11_pointing_37_1 s1 s2 σ = some r) : Z m_X11_pointing S (Qi r) 37 [] [.ref (sL S 0 0 4), .int (s1), .int (s2), .ref (sL S 0 0 0)] σ := by
  unfold F_X11_pointing_37_1 at h
  obtain ⟨v, τ, hc, h⟩ := bnd_e h
  refine z_callV (M' := m_X11_near) (t := 0) (i := 0) (k := 0) (As := [.int (s2), .int (s1), .ref (sL S 0 0 4)]) (rest := []) kl_11_306 oy_X11_near ⟨Nat.le_of_ble_eq_true rfl, Nat.le_of_ble_eq_true rfl⟩ rfl rfl rfl rfl (Nat.le_of_ble_eq_true rfl) rfl dX11_pointing_37 (c_X11_near_l hc) (fun v2 τ2 hq => ?_)
  obtain ⟨rfl, hτ⟩ := hq
  subst τ2
  change Z _ _ _ _ _ [.int (v)] _
  exact zb_X11_pointing_40 h
def F_X11_pointing (x1 : Int32) (x2 : Int32) (x3 : Int32) (σ : Mm) : Option (Int32 × Mm) := (if (f_X11_isDegree x1) = 0 then some ((-1), σ) else (if x2 < 0 then some ((-1), σ) else (if x2 ≤ (20 : Int32) then (if x3 = 0 then (F_X11_pointing_37 x2 x1 σ) else (F_X11_pointing_37_1 x2 x1 σ)) else some ((-1), σ))))
set_option maxRecDepth 20000 in
theorem zb_X11_pointing {S : Shp} {x1 : Int32} {x2 : Int32} {x3 : Int32} {σ : Mm} {r : Int32 × Mm} (h : F_X11_pointing x1 x2 x3 σ = some r) : Z m_X11_pointing S (Qi r) 0 [(0, .ref (sL S 0 0 0)), (1, .int (x1)), (2, .int (x2)), (3, .int (x3))] [] σ := by
  unfold F_X11_pointing at h
  refine z_iload_n dX11_pointing_0 rfl 1 rfl ?_
  refine z_callS (M' := m_X11_isDegree) (As := [.int (x1)]) (rest := []) kl_11_180 oy_X11_isDegree ⟨Nat.le_of_ble_eq_true rfl, Nat.le_of_ble_eq_true rfl⟩ rfl (Nat.le_of_ble_eq_true rfl) rfl dX11_pointing_1 (c_X11_isDegree rfl) (fun v τ hq => ?_)
  obtain ⟨rfl, hτ⟩ := hq
  subst τ
  change Z _ _ _ _ _ [.int (f_X11_isDegree x1)] _
  refine z_if_eq (tgt := 17) dX11_pointing_4 (by decide) (fun q => ?_) (fun q => ?_)
  · have h := (if_pos q).symm.trans h
    refine z_iconst (v := (-1)) dX11_pointing_17 (by decide) ?_
    cases h
    exact z_ireturn dX11_pointing_18 rfl rfl ⟨rfl, rfl⟩
  · have h := (if_neg q).symm.trans h
    refine z_iload_n dX11_pointing_7 rfl 2 rfl ?_
    refine z_if_lt (tgt := 17) dX11_pointing_8 (by decide) (fun q => ?_) (fun q => ?_)
    · have h := (if_pos q).symm.trans h
      refine z_iconst (v := (-1)) dX11_pointing_17 (by decide) ?_
      cases h
      exact z_ireturn dX11_pointing_18 rfl rfl ⟨rfl, rfl⟩
    · have h := (if_neg q).symm.trans h
      refine z_iload_n dX11_pointing_11 rfl 2 rfl ?_
      refine z_bipush (v := 20) dX11_pointing_12 (by decide) ?_
      refine z_icmp_le (tgt := 19) dX11_pointing_14 (by decide) (fun q => ?_) (fun q => ?_)
      · have h := (if_pos q).symm.trans h
        refine z_aload_n dX11_pointing_19 rfl 0 rfl ?_
        refine z_iload_n dX11_pointing_20 rfl 1 rfl ?_
        refine z_iload_n dX11_pointing_21 rfl 2 rfl ?_
        refine z_iload_n dX11_pointing_22 rfl 3 rfl ?_
        refine z_if_eq (tgt := 33) dX11_pointing_23 (by decide) (fun q => ?_) (fun q => ?_)
        · have h := (if_pos q).symm.trans h
          refine z_aload_n dX11_pointing_33 rfl 0 rfl ?_
          refine gf_11_89 rfl dX11_pointing_34 ?_
          refine Z.lv [] rfl ?_
          exact zb_X11_pointing_37 h
        · have h := (if_neg q).symm.trans h
          refine z_aload_n dX11_pointing_26 rfl 0 rfl ?_
          refine gf_11_93 rfl dX11_pointing_27 ?_
          refine z_goto (tgt := 37) dX11_pointing_30 (by decide) ?_
          refine Z.lv [] rfl ?_
          exact zb_X11_pointing_37_1 h
      · have h := (if_neg q).symm.trans h
        refine z_iconst (v := (-1)) dX11_pointing_17 (by decide) ?_
        cases h
        exact z_ireturn dX11_pointing_18 rfl rfl ⟨rfl, rfl⟩
/-- SkyStones.pointing(IIZ)I -/
theorem c_X11_pointing {S : Shp} {x1 : Int32} {x2 : Int32} {x3 : Int32} {σ : Mm} {r : Int32 × Mm} (h : F_X11_pointing x1 x2 x3 σ = some r) : Ct m_X11_pointing S [.ref (sL S 0 0 0), .int (x1), .int (x2), .int (x3)] σ (Qi r) := Ct.of (by decide +kernel) (Nat.le_of_ble_eq_true rfl) (zb_X11_pointing h)
def F_X11_price_77 (rc44 : Int32 → Int32 → Mm → Option (Int32 × Mm)) (x3 : Int32) (x4 : Int32) (σ : Mm) : Option (Int32 × Mm) := (rc44 x3 (x4 + 1) σ)
set_option maxRecDepth 20000 in
theorem zb_X11_price_77 {S : Shp} {rc44 : Int32 → Int32 → Mm → Option (Int32 × Mm)} (hrc44 : ∀ {x3 : Int32} {x4 : Int32} {σ : Mm} {r : Int32 × Mm}, rc44 x3 x4 σ = some r → Z m_X11_price S (Qi r) 44 [(0, .ref (sL S 0 0 0)), (3, .int (x3)), (4, .int (x4))] [] σ) {x3 : Int32} {x4 : Int32} {σ : Mm} {r : Int32 × Mm} (h : F_X11_price_77 rc44 x3 x4 σ = some r) : Z m_X11_price S (Qi r) 77 [(0, .ref (sL S 0 0 0)), (3, .int (x3)), (4, .int (x4))] [] σ := by
  unfold F_X11_price_77 at h
  refine z_iinc (j := 2) (v := x4 + 1) (lv' := [(0, .ref (sL S 0 0 0)), (3, .int (x3)), (4, .int (x4 + 1))]) dX11_price_77 rfl rfl (by decide) [1, 2, 0] rfl ?_
  refine z_goto (tgt := 44) dX11_price_80 (by decide) ?_
  exact hrc44 h
def B_X11_price_44 (rc44 : Int32 → Int32 → Mm → Option (Int32 × Mm)) (x3 : Int32) (x4 : Int32) (σ : Mm) : Option (Int32 × Mm) := (if (360 : Int32) ≤ x4 then some (x3, σ) else (if inb x4 360 = true then (if inb 0 360 = true then (if (mA σ 0 0 33 (0 : Int32).toNatClampNeg) < (mA σ 0 0 33 x4.toNatClampNeg) then (F_X11_price_77 rc44 x3 x4 σ) else (F_X11_price_77 rc44 (x3 + 1) x4 σ)) else none) else none))
set_option maxRecDepth 20000 in
theorem zB_X11_price_44 {S : Shp} {rc44 : Int32 → Int32 → Mm → Option (Int32 × Mm)} (hrc44 : ∀ {x3 : Int32} {x4 : Int32} {σ : Mm} {r : Int32 × Mm}, rc44 x3 x4 σ = some r → Z m_X11_price S (Qi r) 44 [(0, .ref (sL S 0 0 0)), (3, .int (x3)), (4, .int (x4))] [] σ) {x3 : Int32} {x4 : Int32} {σ : Mm} {r : Int32 × Mm} (h : B_X11_price_44 rc44 x3 x4 σ = some r) : Z m_X11_price S (Qi r) 44 [(0, .ref (sL S 0 0 0)), (3, .int (x3)), (4, .int (x4))] [] σ := by
  unfold B_X11_price_44 at h
  refine z_iload dX11_price_44 2 rfl ?_
  refine z_sipush (v := 360) dX11_price_46 (by decide) ?_
  refine z_icmp_ge (tgt := 83) dX11_price_49 (by decide) (fun q => ?_) (fun q => ?_)
  · have h := (if_pos q).symm.trans h
    refine z_iload_n dX11_price_83 rfl 1 rfl ?_
    cases h
    exact z_ireturn dX11_price_84 rfl rfl ⟨rfl, rfl⟩
  · have h := (if_neg q).symm.trans h
    obtain ⟨g2, h⟩ := gd h
    refine z_aload_n dX11_price_52 rfl 0 rfl ?_
    refine gf_11_67 rfl dX11_price_53 ?_
    refine gf_11_282 rfl dX11_price_56 ?_
    refine z_iload dX11_price_59 2 rfl ?_
    obtain ⟨g3, h⟩ := gd h
    refine ia_0_33 (inb_in g2) dX11_price_61 ?_
    refine z_aload_n dX11_price_62 rfl 0 rfl ?_
    refine gf_11_67 rfl dX11_price_63 ?_
    refine gf_11_282 rfl dX11_price_66 ?_
    refine z_iconst (v := 0) dX11_price_69 (by decide) ?_
    refine ia_0_33 (inb_in g3) dX11_price_70 ?_
    refine z_icmp_gt (tgt := 77) dX11_price_71 (by decide) (fun q => ?_) (fun q => ?_)
    · have h := (if_pos q).symm.trans h
      exact zb_X11_price_77 hrc44 h
    · have h := (if_neg q).symm.trans h
      refine z_iinc (j := 1) (v := x3 + 1) (lv' := [(0, .ref (sL S 0 0 0)), (3, .int (x3 + 1)), (4, .int (x4))]) dX11_price_74 rfl rfl (by decide) [1, 0, 2] rfl ?_
      exact zb_X11_price_77 hrc44 h
def F_X11_price_44 : Nat → Int32 → Int32 → Mm → Option (Int32 × Mm)
  | 0 => fun _ _ _ => none
  | n + 1 => B_X11_price_44 (F_X11_price_44 n)
theorem zl_X11_price_44 {S : Shp} : ∀ (nn : Nat) {x3 : Int32} {x4 : Int32} {σ : Mm} {r : Int32 × Mm}, F_X11_price_44 nn x3 x4 σ = some r → Z m_X11_price S (Qi r) 44 [(0, .ref (sL S 0 0 0)), (3, .int (x3)), (4, .int (x4))] [] σ := by
  intro nn
  induction nn with
  | zero => intro x3 x4 σ r h; cases h
  | succ nn ih => intro x3 x4 σ r h; exact zB_X11_price_44 @ih h
def F_X11_price_39 (σ : Mm) : Option (Int32 × Mm) := (F_X11_price_44 FU 0 0 σ)
set_option maxRecDepth 20000 in
theorem zb_X11_price_39 {S : Shp} {σ : Mm} {r : Int32 × Mm} (h : F_X11_price_39 σ = some r) : Z m_X11_price S (Qi r) 39 [(0, .ref (sL S 0 0 0))] [] σ := by
  unfold F_X11_price_39 at h
  refine z_iconst (v := 0) dX11_price_39 (by decide) ?_
  refine z_istore_n (lv' := [(0, .ref (sL S 0 0 0)), (3, .int (0))]) dX11_price_40 rfl (by decide) [1, 0] rfl ?_
  refine z_iconst (v := 0) dX11_price_41 (by decide) ?_
  refine z_istore (lv' := [(0, .ref (sL S 0 0 0)), (3, .int (0)), (4, .int (0))]) dX11_price_42 (by decide) [1, 2, 0] rfl ?_
  exact zl_X11_price_44 FU h
def F_X11_price_24 (σ : Mm) : Option (Int32 × Mm) := (bnv (F_X10_tellAfter  σ) (fun τ => (F_X11_price_39 τ)))
set_option maxRecDepth 20000 in
theorem zb_X11_price_24 {S : Shp} {σ : Mm} {r : Int32 × Mm} (h : F_X11_price_24 σ = some r) : Z m_X11_price S (Qi r) 24 [(0, .ref (sL S 0 0 0))] [] σ := by
  unfold F_X11_price_24 at h
  refine z_aload_n dX11_price_24 rfl 0 rfl ?_
  refine gf_11_67 rfl dX11_price_25 ?_
  refine z_aload_n dX11_price_28 rfl 0 rfl ?_
  refine gf_11_53 rfl dX11_price_29 ?_
  refine z_aload_n dX11_price_32 rfl 0 rfl ?_
  refine gf_11_60 rfl dX11_price_33 ?_
  obtain ⟨τ, hc, h⟩ := bnv_e h
  refine z_callV (M' := m_X10_tellAfter) (t := 0) (i := 0) (k := 29) (As := [.ref (sL S 0 0 15), .ref (sL S 0 0 25)]) (rest := []) kl_11_278 oy_X10_tellAfter ⟨Nat.le_of_ble_eq_true rfl, Nat.le_of_ble_eq_true rfl⟩ rfl rfl rfl rfl (Nat.le_of_ble_eq_true rfl) rfl dX11_price_36 (c_X10_tellAfter hc) (fun v2 τ2 hq => ?_)
  obtain ⟨rfl, hτ⟩ := hq
  subst τ2
  change Z _ _ _ _ _ [] _
  exact zb_X11_price_39 h
def F_X11_price (x1 : Int32) (x2 : Int32) (σ : Mm) : Option (Int32 × Mm) := (if (f_X11_isYear x1) = 0 then some ((-1), σ) else (if okP σ = true then (if (f_X11_isKnown x2 σ) = 0 then some ((-1), σ) else (bnv (F_X11_lookAt x1 x2 ((-1)) σ) (fun τ => (F_X11_price_24 τ)))) else none))
set_option maxRecDepth 20000 in
theorem zb_X11_price {S : Shp} {x1 : Int32} {x2 : Int32} {σ : Mm} {r : Int32 × Mm} (h : F_X11_price x1 x2 σ = some r) : Z m_X11_price S (Qi r) 0 [(0, .ref (sL S 0 0 0)), (1, .int (x1)), (2, .int (x2))] [] σ := by
  unfold F_X11_price at h
  refine z_iload_n dX11_price_0 rfl 1 rfl ?_
  refine z_callS (M' := m_X11_isYear) (As := [.int (x1)]) (rest := []) kl_11_219 oy_X11_isYear ⟨Nat.le_of_ble_eq_true rfl, Nat.le_of_ble_eq_true rfl⟩ rfl (Nat.le_of_ble_eq_true rfl) rfl dX11_price_1 (c_X11_isYear rfl) (fun v τ hq => ?_)
  obtain ⟨rfl, hτ⟩ := hq
  subst τ
  change Z _ _ _ _ _ [.int (f_X11_isYear x1)] _
  refine z_if_eq (tgt := 15) dX11_price_4 (by decide) (fun q => ?_) (fun q => ?_)
  · have h := (if_pos q).symm.trans h
    refine z_iconst (v := (-1)) dX11_price_15 (by decide) ?_
    cases h
    exact z_ireturn dX11_price_16 rfl rfl ⟨rfl, rfl⟩
  · have h := (if_neg q).symm.trans h
    obtain ⟨g1, h⟩ := gd h
    refine z_aload_n dX11_price_7 rfl 0 rfl ?_
    refine z_iload_n dX11_price_8 rfl 2 rfl ?_
    have hp := g1
    refine z_callV (M' := m_X11_isKnown) (t := 0) (i := 0) (k := 0) (As := [.int (x2)]) (rest := []) kl_11_152 oy_X11_isKnown ⟨Nat.le_of_ble_eq_true rfl, Nat.le_of_ble_eq_true rfl⟩ rfl rfl rfl rfl (Nat.le_of_ble_eq_true rfl) rfl dX11_price_9 (c_X11_isKnown hp rfl) (fun v τ hq => ?_)
    obtain ⟨rfl, hτ⟩ := hq
    subst τ
    change Z _ _ _ _ _ [.int (f_X11_isKnown x2 σ)] _
    refine z_if_ne (tgt := 17) dX11_price_12 (by decide) (fun q => ?_) (fun q => ?_)
    · have h := (if_neg q).symm.trans h
      refine z_aload_n dX11_price_17 rfl 0 rfl ?_
      refine z_iload_n dX11_price_18 rfl 1 rfl ?_
      refine z_iload_n dX11_price_19 rfl 2 rfl ?_
      refine z_iconst (v := (-1)) dX11_price_20 (by decide) ?_
      obtain ⟨τ, hc, h⟩ := bnv_e h
      refine z_callV (M' := m_X11_lookAt) (t := 0) (i := 0) (k := 0) (As := [.int (x1), .int (x2), .int ((-1))]) (rest := []) kl_11_243 oy_X11_lookAt ⟨Nat.le_of_ble_eq_true rfl, Nat.le_of_ble_eq_true rfl⟩ rfl rfl rfl rfl (Nat.le_of_ble_eq_true rfl) rfl dX11_price_21 (c_X11_lookAt hc) (fun v2 τ2 hq => ?_)
      obtain ⟨rfl, hτ⟩ := hq
      subst τ2
      change Z _ _ _ _ _ [] _
      refine Z.lv [0] rfl ?_
      exact zb_X11_price_24 h
    · have h := (if_pos q).symm.trans h
      refine z_iconst (v := (-1)) dX11_price_15 (by decide) ?_
      cases h
      exact z_ireturn dX11_price_16 rfl rfl ⟨rfl, rfl⟩
/-- SkyStones.price(II)I -/
theorem c_X11_price {S : Shp} {x1 : Int32} {x2 : Int32} {σ : Mm} {r : Int32 × Mm} (h : F_X11_price x1 x2 σ = some r) : Ct m_X11_price S [.ref (sL S 0 0 0), .int (x1), .int (x2)] σ (Qi r) := Ct.of (by decide +kernel) (Nat.le_of_ble_eq_true rfl) (zb_X11_price h)
def F_X5_kindHere (σ : Mm) : Option (Int32 × Mm) := (if (400 : Int32) < (mA σ 0 0 12 4) then some (0, σ) else (if inb (mA σ 0 0 12 4) 402 = true then some (mA σ 0 0 8 (mA σ 0 0 12 4).toNatClampNeg, σ) else none))
set_option maxRecDepth 20000 in
theorem zb_X5_kindHere {S : Shp} {σ : Mm} {r : Int32 × Mm} (h : F_X5_kindHere σ = some r) : Z m_X5_kindHere S (Qi r) 0 [(0, .ref (sL S 0 0 12))] [] σ := by
  unfold F_X5_kindHere at h
  refine z_aload_n dX5_kindHere_0 rfl 0 rfl ?_
  refine gf_5_18 rfl dX5_kindHere_1 ?_
  refine z_sipush (v := 400) dX5_kindHere_4 (by decide) ?_
  refine z_icmp_gt (tgt := 25) dX5_kindHere_7 (by decide) (fun q => ?_) (fun q => ?_)
  · have h := (if_pos q).symm.trans h
    refine z_iconst (v := 0) dX5_kindHere_25 (by decide) ?_
    cases h
    exact z_ireturn dX5_kindHere_26 rfl rfl ⟨rfl, rfl⟩
  · have h := (if_neg q).symm.trans h
    obtain ⟨g1, h⟩ := gd h
    refine z_aload_n dX5_kindHere_10 rfl 0 rfl ?_
    refine gf_5_34 rfl dX5_kindHere_11 ?_
    refine gf_5_68 rfl dX5_kindHere_14 ?_
    refine z_aload_n dX5_kindHere_17 rfl 0 rfl ?_
    refine gf_5_18 rfl dX5_kindHere_18 ?_
    refine ia_0_8 (inb_in g1) dX5_kindHere_21 ?_
    refine z_goto (tgt := 26) dX5_kindHere_22 (by decide) ?_
    cases h
    exact z_ireturn dX5_kindHere_26 rfl rfl ⟨rfl, rfl⟩
/-- SkyStones$Reader.kindHere()I -/
theorem c_X5_kindHere {S : Shp} {σ : Mm} {r : Int32 × Mm} (h : F_X5_kindHere σ = some r) : Ct m_X5_kindHere S [.ref (sL S 0 0 12)] σ (Qi r) := Ct.of (by decide +kernel) (Nat.le_of_ble_eq_true rfl) (zb_X5_kindHere h)
def F_X5_stop_22 (σ : Mm) : Option (Mm) := (if inb (mA σ 0 0 12 4) 402 = true then some (setA σ 0 0 12 (upd (mA σ 0 0 12) 1 (mA σ 0 0 9 (mA σ 0 0 12 4).toNatClampNeg))) else none)
set_option maxRecDepth 20000 in
theorem zb_X5_stop_22 {S : Shp} {σ : Mm} {r : Mm} (h : F_X5_stop_22 σ = some r) : Z m_X5_stop S (Qv r) 22 [(0, .ref (sL S 0 0 12))] [] σ := by
  unfold F_X5_stop_22 at h
  obtain ⟨g1, h⟩ := gd h
  refine z_aload_n dX5_stop_22 rfl 0 rfl ?_
  refine z_aload_n dX5_stop_23 rfl 0 rfl ?_
  refine gf_5_34 rfl dX5_stop_24 ?_
  refine gf_5_74 rfl dX5_stop_27 ?_
  refine z_aload_n dX5_stop_30 rfl 0 rfl ?_
  refine gf_5_18 rfl dX5_stop_31 ?_
  refine ia_0_9 (inb_in g1) dX5_stop_34 ?_
  refine pf_5_15 rfl dX5_stop_35 ?_
  cases h
  exact z_return dX5_stop_38 rfl ⟨rfl, rfl⟩
def F_X5_stop (x1 : Int32) (σ : Mm) : Option (Mm) := (if (mA σ 0 0 12 0) = 0 then (if (400 : Int32) < (mA σ 0 0 12 4) then some (σ) else (F_X5_stop_22 (setA σ 0 0 12 (upd (mA σ 0 0 12) 0 x1)))) else some (σ))
set_option maxRecDepth 20000 in
theorem zb_X5_stop {S : Shp} {x1 : Int32} {σ : Mm} {r : Mm} (h : F_X5_stop x1 σ = some r) : Z m_X5_stop S (Qv r) 0 [(0, .ref (sL S 0 0 12)), (1, .int (x1))] [] σ := by
  unfold F_X5_stop at h
  refine z_aload_n dX5_stop_0 rfl 0 rfl ?_
  refine gf_5_9 rfl dX5_stop_1 ?_
  refine z_if_ne (tgt := 38) dX5_stop_4 (by decide) (fun q => ?_) (fun q => ?_)
  · have h := (if_neg q).symm.trans h
    cases h
    exact z_return dX5_stop_38 rfl ⟨rfl, rfl⟩
  · have h := (if_pos q).symm.trans h
    refine z_aload_n dX5_stop_7 rfl 0 rfl ?_
    refine gf_5_18 rfl dX5_stop_8 ?_
    refine z_sipush (v := 400) dX5_stop_11 (by decide) ?_
    refine z_icmp_gt (tgt := 38) dX5_stop_14 (by decide) (fun q => ?_) (fun q => ?_)
    · have h := (if_pos q).symm.trans h
      cases h
      exact z_return dX5_stop_38 rfl ⟨rfl, rfl⟩
    · have h := (if_neg q).symm.trans h
      refine z_aload_n dX5_stop_17 rfl 0 rfl ?_
      refine z_iload_n dX5_stop_18 rfl 1 rfl ?_
      refine pf_5_9 rfl dX5_stop_19 ?_
      refine Z.lv [0] rfl ?_
      exact zb_X5_stop_22 h
/-- SkyStones$Reader.stop(I)V -/
theorem c_X5_stop {S : Shp} {x1 : Int32} {σ : Mm} {r : Mm} (h : F_X5_stop x1 σ = some r) : Ct m_X5_stop S [.ref (sL S 0 0 12), .int (x1)] σ (Qv r) := Ct.of (by decide +kernel) (Nat.le_of_ble_eq_true rfl) (zb_X5_stop h)
def F_X5_blame_23 (x2 : Int32) (σ : Mm) : Option (Mm) := (if inb x2 402 = true then some (setA σ 0 0 12 (upd (mA σ 0 0 12) 6 (mA σ 0 0 9 x2.toNatClampNeg))) else none)
set_option maxRecDepth 20000 in
theorem zb_X5_blame_23 {S : Shp} {x2 : Int32} {σ : Mm} {r : Mm} (h : F_X5_blame_23 x2 σ = some r) : Z m_X5_blame S (Qv r) 23 [(0, .ref (sL S 0 0 12)), (2, .int (x2))] [] σ := by
  unfold F_X5_blame_23 at h
  obtain ⟨g1, h⟩ := gd h
  refine z_aload_n dX5_blame_23 rfl 0 rfl ?_
  refine z_aload_n dX5_blame_24 rfl 0 rfl ?_
  refine gf_5_34 rfl dX5_blame_25 ?_
  refine gf_5_74 rfl dX5_blame_28 ?_
  refine z_iload_n dX5_blame_31 rfl 1 rfl ?_
  refine ia_0_9 (inb_in g1) dX5_blame_32 ?_
  refine pf_5_24 rfl dX5_blame_33 ?_
  cases h
  exact z_return dX5_blame_36 rfl ⟨rfl, rfl⟩
def F_X5_blame (x1 : Int32) (x2 : Int32) (σ : Mm) : Option (Mm) := (if (mA σ 0 0 12 5) = 0 then (if x2 < 0 then some (σ) else (if (400 : Int32) < x2 then some (σ) else (F_X5_blame_23 x2 (setA σ 0 0 12 (upd (mA σ 0 0 12) 5 x1))))) else some (σ))
set_option maxRecDepth 20000 in
theorem zb_X5_blame {S : Shp} {x1 : Int32} {x2 : Int32} {σ : Mm} {r : Mm} (h : F_X5_blame x1 x2 σ = some r) : Z m_X5_blame S (Qv r) 0 [(0, .ref (sL S 0 0 12)), (1, .int (x1)), (2, .int (x2))] [] σ := by
  unfold F_X5_blame at h
  refine z_aload_n dX5_blame_0 rfl 0 rfl ?_
  refine gf_5_21 rfl dX5_blame_1 ?_
  refine z_if_ne (tgt := 36) dX5_blame_4 (by decide) (fun q => ?_) (fun q => ?_)
  · have h := (if_neg q).symm.trans h
    cases h
    exact z_return dX5_blame_36 rfl ⟨rfl, rfl⟩
  · have h := (if_pos q).symm.trans h
    refine z_iload_n dX5_blame_7 rfl 2 rfl ?_
    refine z_if_lt (tgt := 36) dX5_blame_8 (by decide) (fun q => ?_) (fun q => ?_)
    · have h := (if_pos q).symm.trans h
      cases h
      exact z_return dX5_blame_36 rfl ⟨rfl, rfl⟩
    · have h := (if_neg q).symm.trans h
      refine z_iload_n dX5_blame_11 rfl 2 rfl ?_
      refine z_sipush (v := 400) dX5_blame_12 (by decide) ?_
      refine z_icmp_gt (tgt := 36) dX5_blame_15 (by decide) (fun q => ?_) (fun q => ?_)
      · have h := (if_pos q).symm.trans h
        cases h
        exact z_return dX5_blame_36 rfl ⟨rfl, rfl⟩
      · have h := (if_neg q).symm.trans h
        refine z_aload_n dX5_blame_18 rfl 0 rfl ?_
        refine z_iload_n dX5_blame_19 rfl 1 rfl ?_
        refine pf_5_21 rfl dX5_blame_20 ?_
        refine Z.lv [0, 2] rfl ?_
        exact zb_X5_blame_23 h
/-- SkyStones$Reader.blame(II)V -/
theorem c_X5_blame {S : Shp} {x1 : Int32} {x2 : Int32} {σ : Mm} {r : Mm} (h : F_X5_blame x1 x2 σ = some r) : Ct m_X5_blame S [.ref (sL S 0 0 12), .int (x1), .int (x2)] σ (Qv r) := Ct.of (by decide +kernel) (Nat.le_of_ble_eq_true rfl) (zb_X5_blame h)
def F_X5_hasRoom_10 (σ : Mm) : Option (Int32 × Mm) := (if (mA σ 0 0 12 0) = 0 then some (1, σ) else some (0, σ))
set_option maxRecDepth 20000 in
theorem zb_X5_hasRoom_10 {S : Shp} {σ : Mm} {r : Int32 × Mm} (h : F_X5_hasRoom_10 σ = some r) : Z m_X5_hasRoom S (Qi r) 10 [(0, .ref (sL S 0 0 12))] [] σ := by
  unfold F_X5_hasRoom_10 at h
  refine z_aload_n dX5_hasRoom_10 rfl 0 rfl ?_
  refine gf_5_9 rfl dX5_hasRoom_11 ?_
  refine z_if_ne (tgt := 21) dX5_hasRoom_14 (by decide) (fun q => ?_) (fun q => ?_)
  · have h := (if_neg q).symm.trans h
    refine z_iconst (v := 0) dX5_hasRoom_21 (by decide) ?_
    cases h
    exact z_ireturn dX5_hasRoom_22 rfl rfl ⟨rfl, rfl⟩
  · have h := (if_pos q).symm.trans h
    refine z_iconst (v := 1) dX5_hasRoom_17 (by decide) ?_
    refine z_goto (tgt := 22) dX5_hasRoom_18 (by decide) ?_
    cases h
    exact z_ireturn dX5_hasRoom_22 rfl rfl ⟨rfl, rfl⟩
def F_X5_hasRoom (x1 : Int32) (x2 : Int32) (σ : Mm) : Option (Int32 × Mm) := (if x1 < x2 then (F_X5_hasRoom_10 σ) else (bnv (F_X5_stop 2 σ) (fun τ => (F_X5_hasRoom_10 τ))))
set_option maxRecDepth 20000 in
theorem zb_X5_hasRoom {S : Shp} {x1 : Int32} {x2 : Int32} {σ : Mm} {r : Int32 × Mm} (h : F_X5_hasRoom x1 x2 σ = some r) : Z m_X5_hasRoom S (Qi r) 0 [(0, .ref (sL S 0 0 12)), (1, .int (x1)), (2, .int (x2))] [] σ := by
  unfold F_X5_hasRoom at h
  refine z_iload_n dX5_hasRoom_0 rfl 1 rfl ?_
  refine z_iload_n dX5_hasRoom_1 rfl 2 rfl ?_
  refine z_icmp_lt (tgt := 10) dX5_hasRoom_2 (by decide) (fun q => ?_) (fun q => ?_)
  · have h := (if_pos q).symm.trans h
    refine Z.lv [0] rfl ?_
    exact zb_X5_hasRoom_10 h
  · have h := (if_neg q).symm.trans h
    refine z_aload_n dX5_hasRoom_5 rfl 0 rfl ?_
    refine z_iconst (v := 2) dX5_hasRoom_6 (by decide) ?_
    obtain ⟨τ, hc, h⟩ := bnv_e h
    refine z_callV (M' := m_X5_stop) (t := 0) (i := 0) (k := 12) (As := [.int (2)]) (rest := []) kl_5_65 oy_X5_stop ⟨Nat.le_of_ble_eq_true rfl, Nat.le_of_ble_eq_true rfl⟩ rfl rfl rfl rfl (Nat.le_of_ble_eq_true rfl) rfl dX5_hasRoom_7 (c_X5_stop hc) (fun v2 τ2 hq => ?_)
    obtain ⟨rfl, hτ⟩ := hq
    subst τ2
    change Z _ _ _ _ _ [] _
    refine Z.lv [0] rfl ?_
    exact zb_X5_hasRoom_10 h
/-- SkyStones$Reader.hasRoom(II)Z -/
theorem c_X5_hasRoom {S : Shp} {x1 : Int32} {x2 : Int32} {σ : Mm} {r : Int32 × Mm} (h : F_X5_hasRoom x1 x2 σ = some r) : Ct m_X5_hasRoom S [.ref (sL S 0 0 12), .int (x1), .int (x2)] σ (Qi r) := Ct.of (by decide +kernel) (Nat.le_of_ble_eq_true rfl) (zb_X5_hasRoom h)
def F_X5_take_98 (σ : Mm) : Option (Int32 × Mm) := some (0, σ)
set_option maxRecDepth 20000 in
theorem zb_X5_take_98 {S : Shp} {σ : Mm} {r : Int32 × Mm} (h : F_X5_take_98 σ = some r) : Z m_X5_take S (Qi r) 98 [] [] σ := by
  unfold F_X5_take_98 at h
  refine z_iconst (v := 0) dX5_take_98 (by decide) ?_
  cases h
  exact z_ireturn dX5_take_99 rfl rfl ⟨rfl, rfl⟩
def F_X5_take_82 (σ : Mm) : Option (Int32 × Mm) := (if inb (mA σ 0 0 12 4) 402 = true then (F_X5_take_98 (setA σ 0 0 12 (upd (mA σ 0 0 12) 1 (mA σ 0 0 9 (mA σ 0 0 12 4).toNatClampNeg)))) else none)
set_option maxRecDepth 20000 in
theorem zb_X5_take_82 {S : Shp} {σ : Mm} {r : Int32 × Mm} (h : F_X5_take_82 σ = some r) : Z m_X5_take S (Qi r) 82 [(0, .ref (sL S 0 0 12))] [] σ := by
  unfold F_X5_take_82 at h
  obtain ⟨g3, h⟩ := gd h
  refine z_aload_n dX5_take_82 rfl 0 rfl ?_
  refine z_aload_n dX5_take_83 rfl 0 rfl ?_
  refine gf_5_34 rfl dX5_take_84 ?_
  refine gf_5_74 rfl dX5_take_87 ?_
  refine z_aload_n dX5_take_90 rfl 0 rfl ?_
  refine gf_5_18 rfl dX5_take_91 ?_
  refine ia_0_9 (inb_in g3) dX5_take_94 ?_
  refine pf_5_15 rfl dX5_take_95 ?_
  refine Z.lv [] rfl ?_
  exact zb_X5_take_98 h
def F_X5_take_79 (s0 : Int32) (σ : Mm) : Option (Int32 × Mm) := (F_X5_take_82 (setA σ 0 0 12 (upd (mA σ 0 0 12) 0 s0)))
set_option maxRecDepth 20000 in
theorem zb_X5_take_79 {S : Shp} {s0 : Int32} {σ : Mm} {r : Int32 × Mm} (h : F_X5_take_79 s0 σ = some r) : Z m_X5_take S (Qi r) 79 [(0, .ref (sL S 0 0 12))] [.int (s0), .ref (sL S 0 0 12)] σ := by
  unfold F_X5_take_79 at h
  refine pf_5_9 rfl dX5_take_79 ?_
  exact zb_X5_take_82 h
def F_X5_take_57 (x1 : Int32) (σ : Mm) : Option (Int32 × Mm) := (if inb (mA σ 0 0 12 4) 402 = true then (if (mA σ 0 0 8 (mA σ 0 0 12 4).toNatClampNeg) = x1 then (F_X5_take_79 2 σ) else (F_X5_take_79 1 σ)) else none)
set_option maxRecDepth 20000 in
theorem zb_X5_take_57 {S : Shp} {x1 : Int32} {σ : Mm} {r : Int32 × Mm} (h : F_X5_take_57 x1 σ = some r) : Z m_X5_take S (Qi r) 57 [(0, .ref (sL S 0 0 12)), (1, .int (x1))] [] σ := by
  unfold F_X5_take_57 at h
  obtain ⟨g2, h⟩ := gd h
  refine z_aload_n dX5_take_57 rfl 0 rfl ?_
  refine z_aload_n dX5_take_58 rfl 0 rfl ?_
  refine gf_5_34 rfl dX5_take_59 ?_
  refine gf_5_68 rfl dX5_take_62 ?_
  refine z_aload_n dX5_take_65 rfl 0 rfl ?_
  refine gf_5_18 rfl dX5_take_66 ?_
  refine ia_0_8 (inb_in g2) dX5_take_69 ?_
  refine z_iload_n dX5_take_70 rfl 1 rfl ?_
  refine z_icmp_ne (tgt := 78) dX5_take_71 (by decide) (fun q => ?_) (fun q => ?_)
  · have h := (if_neg q).symm.trans h
    refine z_iconst (v := 1) dX5_take_78 (by decide) ?_
    refine Z.lv [0] rfl ?_
    exact zb_X5_take_79 h
  · have h := (if_pos q).symm.trans h
    refine z_iconst (v := 2) dX5_take_74 (by decide) ?_
    refine z_goto (tgt := 79) dX5_take_75 (by decide) ?_
    refine Z.lv [0] rfl ?_
    exact zb_X5_take_79 h
def F_X5_take_55 (σ : Mm) : Option (Int32 × Mm) := some (1, σ)
set_option maxRecDepth 20000 in
theorem zb_X5_take_55 {S : Shp} {σ : Mm} {r : Int32 × Mm} (h : F_X5_take_55 σ = some r) : Z m_X5_take S (Qi r) 55 [] [] σ := by
  unfold F_X5_take_55 at h
  refine z_iconst (v := 1) dX5_take_55 (by decide) ?_
  cases h
  exact z_ireturn dX5_take_56 rfl rfl ⟨rfl, rfl⟩
def F_X5_take (x1 : Int32) (σ : Mm) : Option (Int32 × Mm) := (if (mA σ 0 0 12 0) = 0 then (if (mA σ 0 0 12 4) ≤ (400 : Int32) then (if inb (mA σ 0 0 12 4) 402 = true then (if (mA σ 0 0 8 (mA σ 0 0 12 4).toNatClampNeg) = x1 then (if (400 : Int32) ≤ (mA σ 0 0 12 4) then (F_X5_take_57 x1 σ) else (F_X5_take_55 (setA σ 0 0 12 (upd (mA σ 0 0 12) 4 ((mA σ 0 0 12 4) + (1 : Int32)))))) else (F_X5_take_57 x1 σ)) else none) else some (0, σ)) else some (0, σ))
set_option maxRecDepth 20000 in
theorem zb_X5_take {S : Shp} {x1 : Int32} {σ : Mm} {r : Int32 × Mm} (h : F_X5_take x1 σ = some r) : Z m_X5_take S (Qi r) 0 [(0, .ref (sL S 0 0 12)), (1, .int (x1))] [] σ := by
  unfold F_X5_take at h
  refine z_aload_n dX5_take_0 rfl 0 rfl ?_
  refine gf_5_9 rfl dX5_take_1 ?_
  refine z_if_ne (tgt := 17) dX5_take_4 (by decide) (fun q => ?_) (fun q => ?_)
  · have h := (if_neg q).symm.trans h
    refine z_iconst (v := 0) dX5_take_17 (by decide) ?_
    cases h
    exact z_ireturn dX5_take_18 rfl rfl ⟨rfl, rfl⟩
  · have h := (if_pos q).symm.trans h
    refine z_aload_n dX5_take_7 rfl 0 rfl ?_
    refine gf_5_18 rfl dX5_take_8 ?_
    refine z_sipush (v := 400) dX5_take_11 (by decide) ?_
    refine z_icmp_le (tgt := 19) dX5_take_14 (by decide) (fun q => ?_) (fun q => ?_)
    · have h := (if_pos q).symm.trans h
      obtain ⟨g1, h⟩ := gd h
      refine z_aload_n dX5_take_19 rfl 0 rfl ?_
      refine gf_5_34 rfl dX5_take_20 ?_
      refine gf_5_68 rfl dX5_take_23 ?_
      refine z_aload_n dX5_take_26 rfl 0 rfl ?_
      refine gf_5_18 rfl dX5_take_27 ?_
      refine ia_0_8 (inb_in g1) dX5_take_30 ?_
      refine z_iload_n dX5_take_31 rfl 1 rfl ?_
      refine z_icmp_ne (tgt := 57) dX5_take_32 (by decide) (fun q => ?_) (fun q => ?_)
      · have h := (if_neg q).symm.trans h
        exact zb_X5_take_57 h
      · have h := (if_pos q).symm.trans h
        refine z_aload_n dX5_take_35 rfl 0 rfl ?_
        refine gf_5_18 rfl dX5_take_36 ?_
        refine z_sipush (v := 400) dX5_take_39 (by decide) ?_
        refine z_icmp_ge (tgt := 57) dX5_take_42 (by decide) (fun q => ?_) (fun q => ?_)
        · have h := (if_pos q).symm.trans h
          exact zb_X5_take_57 h
        · have h := (if_neg q).symm.trans h
          refine z_aload_n dX5_take_45 rfl 0 rfl ?_
          refine z_dup dX5_take_46 rfl ?_
          refine gf_5_18 rfl dX5_take_47 ?_
          refine z_iconst (v := 1) dX5_take_50 (by decide) ?_
          refine z_iadd dX5_take_51 ?_
          refine pf_5_18 rfl dX5_take_52 ?_
          refine Z.lv [] rfl ?_
          exact zb_X5_take_55 h
    · have h := (if_neg q).symm.trans h
      refine z_iconst (v := 0) dX5_take_17 (by decide) ?_
      cases h
      exact z_ireturn dX5_take_18 rfl rfl ⟨rfl, rfl⟩
/-- SkyStones$Reader.take(I)Z -/
theorem c_X5_take {S : Shp} {x1 : Int32} {σ : Mm} {r : Int32 × Mm} (h : F_X5_take x1 σ = some r) : Ct m_X5_take S [.ref (sL S 0 0 12), .int (x1)] σ (Qi r) := Ct.of (by decide +kernel) (Nat.le_of_ble_eq_true rfl) (zb_X5_take h)
def F_X5_unit_101 (rcS : Int32 → Mm → Option Mm) (σ : Mm) : Option (Mm) := some (σ)
set_option maxRecDepth 20000 in
theorem zb_X5_unit_101 {S : Shp} {n : Nat} {rcS : Int32 → Mm → Option Mm} (hrcS : ∀ {x1 : Int32} {σ r : Mm}, rcS x1 σ = some r → Ct (m_X5_sum n) S [.ref (sL S 0 0 12), .int x1] σ (Qv r)) {σ : Mm} {r : Mm} (h : F_X5_unit_101 rcS σ = some r) : Z (m_X5_unit n) S (Qv r) 101 [] [] σ := by
  unfold F_X5_unit_101 at h
  refine z_goto (tgt := 109) dX5_unit_101 (by decide) ?_
  cases h
  exact z_return dX5_unit_109 rfl ⟨rfl, rfl⟩
def F_X5_unit_78 (rcS : Int32 → Mm → Option Mm) (x2 : Int32) (x3 : Int32) (s0 : Int32) (σ : Mm) : Option (Mm) := (if s0 = 0 then some (σ) else (if okP σ = true then (if inb x3 402 = true then (bnv (F_X0_put (mP σ 2) x2 (mA σ 0 0 10 x3.toNatClampNeg) σ) (fun τ => (F_X5_unit_101 rcS τ))) else none) else none))
set_option maxRecDepth 20000 in
theorem zb_X5_unit_78 {S : Shp} {n : Nat} {rcS : Int32 → Mm → Option Mm} (hrcS : ∀ {x1 : Int32} {σ r : Mm}, rcS x1 σ = some r → Ct (m_X5_sum n) S [.ref (sL S 0 0 12), .int x1] σ (Qv r)) {x2 : Int32} {x3 : Int32} {s0 : Int32} {σ : Mm} {r : Mm} (h : F_X5_unit_78 rcS x2 x3 s0 σ = some r) : Z (m_X5_unit n) S (Qv r) 78 [(0, .ref (sL S 0 0 12)), (2, .int (x2)), (3, .int (x3))] [.int (s0)] σ := by
  unfold F_X5_unit_78 at h
  refine z_if_eq (tgt := 109) dX5_unit_78 (by decide) (fun q => ?_) (fun q => ?_)
  · have h := (if_pos q).symm.trans h
    cases h
    exact z_return dX5_unit_109 rfl ⟨rfl, rfl⟩
  · have h := (if_neg q).symm.trans h
    obtain ⟨g1, h⟩ := gd h
    refine z_aload_n dX5_unit_81 rfl 0 rfl ?_
    obtain ⟨g2, h⟩ := gd h
    have hp := g1
    refine gf_5_38 rfl dX5_unit_82 ?_
    refine gf_5_152 (lv1 (okP_2 hp) rfl) rfl dX5_unit_85 ?_
    refine z_iload_n dX5_unit_88 rfl 1 rfl ?_
    refine z_aload_n dX5_unit_89 rfl 0 rfl ?_
    refine gf_5_34 rfl dX5_unit_90 ?_
    refine gf_5_77 rfl dX5_unit_93 ?_
    refine z_iload_n dX5_unit_96 rfl 2 rfl ?_
    refine ia_0_10 (inb_in g2) dX5_unit_97 ?_
    obtain ⟨τ, hc, h⟩ := bnv_e h
    refine z_callV (M' := m_X0_put) (t := 1) (i := (mP σ 2)) (k := 10) (As := [.int (x2), .int (mA σ 0 0 10 x3.toNatClampNeg)]) (rest := []) kl_5_173 oy_X0_put ⟨(by omega : 0 + 1 ≤ 3 * n + 6), (by omega : 8 + (3 + 11) + 40 * (0) ≤ 40 * (3 * n + 6))⟩ (lv1 (okP_2 hp) rfl) rfl rfl rfl (Nat.le_of_ble_eq_true rfl) rfl dX5_unit_98 (c_X0_put (okP_2 hp) hc) (fun v2 τ2 hq => ?_)
    obtain ⟨rfl, hτ⟩ := hq
    subst τ2
    change Z _ _ _ _ _ [] _
    refine Z.lv [] rfl ?_
    exact zb_X5_unit_101 hrcS h
def F_X5_unit_73 (rcS : Int32 → Mm → Option Mm) (x2 : Int32) (x3 : Int32) (σ : Mm) : Option (Mm) := (bnd (F_X5_take x2 σ) (fun v τ => (F_X5_unit_78 rcS x2 x3 v τ)))
set_option maxRecDepth 20000 in
theorem zb_X5_unit_73 {S : Shp} {n : Nat} {rcS : Int32 → Mm → Option Mm} (hrcS : ∀ {x1 : Int32} {σ r : Mm}, rcS x1 σ = some r → Ct (m_X5_sum n) S [.ref (sL S 0 0 12), .int x1] σ (Qv r)) {x2 : Int32} {x3 : Int32} {σ : Mm} {r : Mm} (h : F_X5_unit_73 rcS x2 x3 σ = some r) : Z (m_X5_unit n) S (Qv r) 73 [(0, .ref (sL S 0 0 12)), (2, .int (x2)), (3, .int (x3))] [] σ := by
  unfold F_X5_unit_73 at h
  refine z_aload_n dX5_unit_73 rfl 0 rfl ?_
  refine z_iload_n dX5_unit_74 rfl 1 rfl ?_
  obtain ⟨v, τ, hc, h⟩ := bnd_e h
  refine z_callV (M' := m_X5_take) (t := 0) (i := 0) (k := 12) (As := [.int (x2)]) (rest := []) kl_5_103 oy_X5_take ⟨(by omega : 0 + 1 ≤ 3 * n + 6), (by omega : 8 + (2 + 11) + 40 * (0) ≤ 40 * (3 * n + 6))⟩ rfl rfl rfl rfl (Nat.le_of_ble_eq_true rfl) rfl dX5_unit_75 (c_X5_take hc) (fun v2 τ2 hq => ?_)
  obtain ⟨rfl, hτ⟩ := hq
  subst τ2
  change Z _ _ _ _ _ [.int (v)] _
  exact zb_X5_unit_78 hrcS h
def F_X5_unit_58 (rcS : Int32 → Mm → Option Mm) (s0 : Int32) (σ : Mm) : Option (Mm) := some (σ)
set_option maxRecDepth 20000 in
theorem zb_X5_unit_58 {S : Shp} {n : Nat} {rcS : Int32 → Mm → Option Mm} (hrcS : ∀ {x1 : Int32} {σ r : Mm}, rcS x1 σ = some r → Ct (m_X5_sum n) S [.ref (sL S 0 0 12), .int x1] σ (Qv r)) {s0 : Int32} {σ : Mm} {r : Mm} (h : F_X5_unit_58 rcS s0 σ = some r) : Z (m_X5_unit n) S (Qv r) 58 [] [.int (s0)] σ := by
  unfold F_X5_unit_58 at h
  refine z_pop dX5_unit_58 rfl ?_
  refine z_goto (tgt := 109) dX5_unit_59 (by decide) ?_
  cases h
  exact z_return dX5_unit_109 rfl ⟨rfl, rfl⟩
def F_X5_unit_52 (rcS : Int32 → Mm → Option Mm) (σ : Mm) : Option (Mm) := (bnd (F_X5_take 15 σ) (fun v τ => (F_X5_unit_58 rcS v τ)))
set_option maxRecDepth 20000 in
theorem zb_X5_unit_52 {S : Shp} {n : Nat} {rcS : Int32 → Mm → Option Mm} (hrcS : ∀ {x1 : Int32} {σ r : Mm}, rcS x1 σ = some r → Ct (m_X5_sum n) S [.ref (sL S 0 0 12), .int x1] σ (Qv r)) {σ : Mm} {r : Mm} (h : F_X5_unit_52 rcS σ = some r) : Z (m_X5_unit n) S (Qv r) 52 [(0, .ref (sL S 0 0 12))] [] σ := by
  unfold F_X5_unit_52 at h
  refine z_aload_n dX5_unit_52 rfl 0 rfl ?_
  refine z_bipush (v := 15) dX5_unit_53 (by decide) ?_
  obtain ⟨v, τ, hc, h⟩ := bnd_e h
  refine z_callV (M' := m_X5_take) (t := 0) (i := 0) (k := 12) (As := [.int (15)]) (rest := []) kl_5_103 oy_X5_take ⟨(by omega : 0 + 1 ≤ 3 * n + 6), (by omega : 8 + (2 + 11) + 40 * (0) ≤ 40 * (3 * n + 6))⟩ rfl rfl rfl rfl (Nat.le_of_ble_eq_true rfl) rfl dX5_unit_55 (c_X5_take hc) (fun v2 τ2 hq => ?_)
  obtain ⟨rfl, hτ⟩ := hq
  subst τ2
  change Z _ _ _ _ _ [.int (v)] _
  refine Z.lv [] rfl ?_
  exact zb_X5_unit_58 hrcS h
def F_X5_unit_42 (rcS : Int32 → Mm → Option Mm) (x1 : Int32) (s0 : Int32) (σ : Mm) : Option (Mm) := (if s0 = 0 then some (σ) else (bnv (rcS (x1 + (1 : Int32)) σ) (fun τ => (F_X5_unit_52 rcS τ))))
set_option maxRecDepth 20000 in
theorem zb_X5_unit_42 {S : Shp} {n : Nat} {rcS : Int32 → Mm → Option Mm} (hrcS : ∀ {x1 : Int32} {σ r : Mm}, rcS x1 σ = some r → Ct (m_X5_sum n) S [.ref (sL S 0 0 12), .int x1] σ (Qv r)) {x1 : Int32} {s0 : Int32} {σ : Mm} {r : Mm} (h : F_X5_unit_42 rcS x1 s0 σ = some r) : Z (m_X5_unit n) S (Qv r) 42 [(0, .ref (sL S 0 0 12)), (1, .int (x1))] [.int (s0)] σ := by
  unfold F_X5_unit_42 at h
  refine z_if_eq (tgt := 109) dX5_unit_42 (by decide) (fun q => ?_) (fun q => ?_)
  · have h := (if_pos q).symm.trans h
    cases h
    exact z_return dX5_unit_109 rfl ⟨rfl, rfl⟩
  · have h := (if_neg q).symm.trans h
    refine z_aload_n dX5_unit_45 rfl 0 rfl ?_
    refine z_iload_n dX5_unit_46 rfl 1 rfl ?_
    refine z_iconst (v := 1) dX5_unit_47 (by decide) ?_
    refine z_iadd dX5_unit_48 ?_
    obtain ⟨τ, hc, h⟩ := bnv_e h
    refine z_callV (M' := m_X5_sum n) (t := 0) (i := 0) (k := 12) (As := [.int (x1 + (1 : Int32))]) (rest := []) kl_5_161 oy_X5_sum ⟨(by omega : 3 * n + 5 + 1 ≤ 3 * n + 6), (by omega : 8 + (4 + 11) + 40 * (3 * n + 5) ≤ 40 * (3 * n + 6))⟩ rfl rfl rfl rfl (Nat.le_of_ble_eq_true rfl) rfl dX5_unit_49 (hrcS hc) (fun v2 τ2 hq => ?_)
    obtain ⟨rfl, hτ⟩ := hq
    subst τ2
    change Z _ _ _ _ _ [] _
    refine Z.lv [0] rfl ?_
    exact zb_X5_unit_52 hrcS h
def F_X5_unit_30 (rcS : Int32 → Mm → Option Mm) (x1 : Int32) (x2 : Int32) (x3 : Int32) (σ : Mm) : Option (Mm) := (if x2 = (14 : Int32) then (bnd (F_X5_take 14 σ) (fun v τ => (F_X5_unit_42 rcS x1 v τ))) else (if x2 = (3 : Int32) then (F_X5_unit_73 rcS x2 x3 σ) else (if x2 < (28 : Int32) then (bnv (F_X5_stop 1 σ) (fun τ => some (τ))) else (F_X5_unit_73 rcS x2 x3 σ))))
set_option maxRecDepth 20000 in
theorem zb_X5_unit_30 {S : Shp} {n : Nat} {rcS : Int32 → Mm → Option Mm} (hrcS : ∀ {x1 : Int32} {σ r : Mm}, rcS x1 σ = some r → Ct (m_X5_sum n) S [.ref (sL S 0 0 12), .int x1] σ (Qv r)) {x1 : Int32} {x2 : Int32} {x3 : Int32} {σ : Mm} {r : Mm} (h : F_X5_unit_30 rcS x1 x2 x3 σ = some r) : Z (m_X5_unit n) S (Qv r) 30 [(0, .ref (sL S 0 0 12)), (1, .int (x1)), (2, .int (x2)), (3, .int (x3))] [] σ := by
  unfold F_X5_unit_30 at h
  refine z_iload_n dX5_unit_30 rfl 2 rfl ?_
  refine z_bipush (v := 14) dX5_unit_31 (by decide) ?_
  refine z_icmp_ne (tgt := 62) dX5_unit_33 (by decide) (fun q => ?_) (fun q => ?_)
  · have h := (if_neg q).symm.trans h
    refine z_iload_n dX5_unit_62 rfl 2 rfl ?_
    refine z_iconst (v := 3) dX5_unit_63 (by decide) ?_
    refine z_icmp_eq (tgt := 73) dX5_unit_64 (by decide) (fun q => ?_) (fun q => ?_)
    · have h := (if_pos q).symm.trans h
      refine Z.lv [0, 2, 3] rfl ?_
      exact zb_X5_unit_73 hrcS h
    · have h := (if_neg q).symm.trans h
      refine z_iload_n dX5_unit_67 rfl 2 rfl ?_
      refine z_bipush (v := 28) dX5_unit_68 (by decide) ?_
      refine z_icmp_lt (tgt := 104) dX5_unit_70 (by decide) (fun q => ?_) (fun q => ?_)
      · have h := (if_pos q).symm.trans h
        refine z_aload_n dX5_unit_104 rfl 0 rfl ?_
        refine z_iconst (v := 1) dX5_unit_105 (by decide) ?_
        obtain ⟨τ, hc, h⟩ := bnv_e h
        refine z_callV (M' := m_X5_stop) (t := 0) (i := 0) (k := 12) (As := [.int (1)]) (rest := []) kl_5_65 oy_X5_stop ⟨(by omega : 0 + 1 ≤ 3 * n + 6), (by omega : 8 + (2 + 11) + 40 * (0) ≤ 40 * (3 * n + 6))⟩ rfl rfl rfl rfl (Nat.le_of_ble_eq_true rfl) rfl dX5_unit_106 (c_X5_stop hc) (fun v2 τ2 hq => ?_)
        obtain ⟨rfl, hτ⟩ := hq
        subst τ2
        change Z _ _ _ _ _ [] _
        cases h
        exact z_return dX5_unit_109 rfl ⟨rfl, rfl⟩
      · have h := (if_neg q).symm.trans h
        refine Z.lv [0, 2, 3] rfl ?_
        exact zb_X5_unit_73 hrcS h
  · have h := (if_pos q).symm.trans h
    refine z_aload_n dX5_unit_36 rfl 0 rfl ?_
    refine z_bipush (v := 14) dX5_unit_37 (by decide) ?_
    obtain ⟨v, τ, hc, h⟩ := bnd_e h
    refine z_callV (M' := m_X5_take) (t := 0) (i := 0) (k := 12) (As := [.int (14)]) (rest := []) kl_5_103 oy_X5_take ⟨(by omega : 0 + 1 ≤ 3 * n + 6), (by omega : 8 + (2 + 11) + 40 * (0) ≤ 40 * (3 * n + 6))⟩ rfl rfl rfl rfl (Nat.le_of_ble_eq_true rfl) rfl dX5_unit_39 (c_X5_take hc) (fun v2 τ2 hq => ?_)
    obtain ⟨rfl, hτ⟩ := hq
    subst τ2
    change Z _ _ _ _ _ [.int (v)] _
    refine Z.lv [0, 1] rfl ?_
    exact zb_X5_unit_42 hrcS h
def F_X5_unit_27 (rcS : Int32 → Mm → Option Mm) (σ : Mm) : Option (Mm) := some (σ)
set_option maxRecDepth 20000 in
theorem zb_X5_unit_27 {S : Shp} {n : Nat} {rcS : Int32 → Mm → Option Mm} (hrcS : ∀ {x1 : Int32} {σ r : Mm}, rcS x1 σ = some r → Ct (m_X5_sum n) S [.ref (sL S 0 0 12), .int x1] σ (Qv r)) {σ : Mm} {r : Mm} (h : F_X5_unit_27 rcS σ = some r) : Z (m_X5_unit n) S (Qv r) 27 [] [] σ := by
  unfold F_X5_unit_27 at h
  refine z_goto (tgt := 109) dX5_unit_27 (by decide) ?_
  cases h
  exact z_return dX5_unit_109 rfl ⟨rfl, rfl⟩
def F_X5_unit_4 (rcS : Int32 → Mm → Option Mm) (x1 : Int32) (s0 : Int32) (σ : Mm) : Option (Mm) := (if s0 = (14 : Int32) then (if x1 < (6 : Int32) then (F_X5_unit_30 rcS x1 s0 (mA σ 0 0 12 4) σ) else (bnv (F_X5_stop 2 σ) (fun τ => (F_X5_unit_27 rcS τ)))) else (F_X5_unit_30 rcS x1 s0 (mA σ 0 0 12 4) σ))
set_option maxRecDepth 20000 in
theorem zb_X5_unit_4 {S : Shp} {n : Nat} {rcS : Int32 → Mm → Option Mm} (hrcS : ∀ {x1 : Int32} {σ r : Mm}, rcS x1 σ = some r → Ct (m_X5_sum n) S [.ref (sL S 0 0 12), .int x1] σ (Qv r)) {x1 : Int32} {s0 : Int32} {σ : Mm} {r : Mm} (h : F_X5_unit_4 rcS x1 s0 σ = some r) : Z (m_X5_unit n) S (Qv r) 4 [(0, .ref (sL S 0 0 12)), (1, .int (x1))] [.int (s0)] σ := by
  unfold F_X5_unit_4 at h
  refine z_istore_n (lv' := [(0, .ref (sL S 0 0 12)), (1, .int (x1)), (2, .int (s0))]) dX5_unit_4 rfl (Nat.le_of_ble_eq_true rfl) [1, 2, 0] rfl ?_
  refine z_aload_n dX5_unit_5 rfl 0 rfl ?_
  refine gf_5_18 rfl dX5_unit_6 ?_
  refine z_istore_n (lv' := [(0, .ref (sL S 0 0 12)), (1, .int (x1)), (2, .int (s0)), (3, .int (mA σ 0 0 12 4))]) dX5_unit_9 rfl (Nat.le_of_ble_eq_true rfl) [1, 2, 3, 0] rfl ?_
  refine z_iload_n dX5_unit_10 rfl 2 rfl ?_
  refine z_bipush (v := 14) dX5_unit_11 (by decide) ?_
  refine z_icmp_ne (tgt := 30) dX5_unit_13 (by decide) (fun q => ?_) (fun q => ?_)
  · have h := (if_neg q).symm.trans h
    exact zb_X5_unit_30 hrcS h
  · have h := (if_pos q).symm.trans h
    refine z_iload_n dX5_unit_16 rfl 1 rfl ?_
    refine z_bipush (v := 6) dX5_unit_17 (by decide) ?_
    refine z_icmp_lt (tgt := 30) dX5_unit_19 (by decide) (fun q => ?_) (fun q => ?_)
    · have h := (if_pos q).symm.trans h
      exact zb_X5_unit_30 hrcS h
    · have h := (if_neg q).symm.trans h
      refine z_aload_n dX5_unit_22 rfl 0 rfl ?_
      refine z_iconst (v := 2) dX5_unit_23 (by decide) ?_
      obtain ⟨τ, hc, h⟩ := bnv_e h
      refine z_callV (M' := m_X5_stop) (t := 0) (i := 0) (k := 12) (As := [.int (2)]) (rest := []) kl_5_65 oy_X5_stop ⟨(by omega : 0 + 1 ≤ 3 * n + 6), (by omega : 8 + (2 + 11) + 40 * (0) ≤ 40 * (3 * n + 6))⟩ rfl rfl rfl rfl (Nat.le_of_ble_eq_true rfl) rfl dX5_unit_24 (c_X5_stop hc) (fun v2 τ2 hq => ?_)
      obtain ⟨rfl, hτ⟩ := hq
      subst τ2
      change Z _ _ _ _ _ [] _
      refine Z.lv [] rfl ?_
      exact zb_X5_unit_27 hrcS h
def F_X5_unit (rcS : Int32 → Mm → Option Mm) (x1 : Int32) (σ : Mm) : Option (Mm) := (bnd (F_X5_kindHere  σ) (fun v τ => (F_X5_unit_4 rcS x1 v τ)))
set_option maxRecDepth 20000 in
theorem zb_X5_unit {S : Shp} {n : Nat} {rcS : Int32 → Mm → Option Mm} (hrcS : ∀ {x1 : Int32} {σ r : Mm}, rcS x1 σ = some r → Ct (m_X5_sum n) S [.ref (sL S 0 0 12), .int x1] σ (Qv r)) {x1 : Int32} {σ : Mm} {r : Mm} (h : F_X5_unit rcS x1 σ = some r) : Z (m_X5_unit n) S (Qv r) 0 [(0, .ref (sL S 0 0 12)), (1, .int (x1))] [] σ := by
  unfold F_X5_unit at h
  refine z_aload_n dX5_unit_0 rfl 0 rfl ?_
  obtain ⟨v, τ, hc, h⟩ := bnd_e h
  refine z_callV (M' := m_X5_kindHere) (t := 0) (i := 0) (k := 12) (As := []) (rest := []) kl_5_42 oy_X5_kindHere ⟨(by omega : 0 + 1 ≤ 3 * n + 6), (by omega : 8 + (1 + 11) + 40 * (0) ≤ 40 * (3 * n + 6))⟩ rfl rfl rfl rfl (Nat.le_of_ble_eq_true rfl) rfl dX5_unit_1 (c_X5_kindHere hc) (fun v2 τ2 hq => ?_)
  obtain ⟨rfl, hτ⟩ := hq
  subst τ2
  change Z _ _ _ _ _ [.int (v)] _
  exact zb_X5_unit_4 hrcS h
/-- SkyStones$Reader.unit(I)V -/
theorem c_X5_unit {S : Shp} {n : Nat} {rcS : Int32 → Mm → Option Mm} (hrcS : ∀ {x1 : Int32} {σ r : Mm}, rcS x1 σ = some r → Ct (m_X5_sum n) S [.ref (sL S 0 0 12), .int x1] σ (Qv r)) {x1 : Int32} {σ : Mm} {r : Mm} (h : F_X5_unit rcS x1 σ = some r) : Ct (m_X5_unit n) S [.ref (sL S 0 0 12), .int (x1)] σ (Qv r) := Ct.of (show plainFor yX5_unit = true by decide +kernel) (Nat.le_of_ble_eq_true rfl) (zb_X5_unit hrcS h)
def F_X5_product_64 (rcS : Int32 → Mm → Option Mm) (rc7 : Int32 → Int32 → Mm → Option (Mm)) (x1 : Int32) (x2 : Int32) (σ : Mm) : Option (Mm) := (rc7 x1 (x2 + 1) σ)
set_option maxRecDepth 20000 in
theorem zb_X5_product_64 {S : Shp} {n : Nat} {rcS : Int32 → Mm → Option Mm} (hrcS : ∀ {x1 : Int32} {σ r : Mm}, rcS x1 σ = some r → Ct (m_X5_sum n) S [.ref (sL S 0 0 12), .int x1] σ (Qv r)) {rc7 : Int32 → Int32 → Mm → Option (Mm)} (hrc7 : ∀ {x1 : Int32} {x2 : Int32} {σ : Mm} {r : Mm}, rc7 x1 x2 σ = some r → Z (m_X5_product n) S (Qv r) 7 [(0, .ref (sL S 0 0 12)), (1, .int (x1)), (2, .int (x2))] [] σ) {x1 : Int32} {x2 : Int32} {σ : Mm} {r : Mm} (h : F_X5_product_64 rcS rc7 x1 x2 σ = some r) : Z (m_X5_product n) S (Qv r) 64 [(0, .ref (sL S 0 0 12)), (1, .int (x1)), (2, .int (x2))] [] σ := by
  unfold F_X5_product_64 at h
  refine z_iinc (j := 2) (v := x2 + 1) (lv' := [(0, .ref (sL S 0 0 12)), (1, .int (x1)), (2, .int (x2 + 1))]) dX5_product_64 rfl rfl (Nat.le_of_ble_eq_true rfl) [1, 2, 0] rfl ?_
  refine z_goto (tgt := 7) dX5_product_67 (by decide) ?_
  exact hrc7 h
def F_X5_product_52 (rcS : Int32 → Mm → Option Mm) (rc7 : Int32 → Int32 → Mm → Option (Mm)) (x1 : Int32) (x2 : Int32) (x3 : Int32) (σ : Mm) : Option (Mm) := (if okP σ = true then (bnv (F_X0_put (mP σ 2) x3 0 σ) (fun τ => (F_X5_product_64 rcS rc7 x1 x2 τ))) else none)
set_option maxRecDepth 20000 in
theorem zb_X5_product_52 {S : Shp} {n : Nat} {rcS : Int32 → Mm → Option Mm} (hrcS : ∀ {x1 : Int32} {σ r : Mm}, rcS x1 σ = some r → Ct (m_X5_sum n) S [.ref (sL S 0 0 12), .int x1] σ (Qv r)) {rc7 : Int32 → Int32 → Mm → Option (Mm)} (hrc7 : ∀ {x1 : Int32} {x2 : Int32} {σ : Mm} {r : Mm}, rc7 x1 x2 σ = some r → Z (m_X5_product n) S (Qv r) 7 [(0, .ref (sL S 0 0 12)), (1, .int (x1)), (2, .int (x2))] [] σ) {x1 : Int32} {x2 : Int32} {x3 : Int32} {σ : Mm} {r : Mm} (h : F_X5_product_52 rcS rc7 x1 x2 x3 σ = some r) : Z (m_X5_product n) S (Qv r) 52 [(0, .ref (sL S 0 0 12)), (1, .int (x1)), (2, .int (x2)), (3, .int (x3))] [] σ := by
  unfold F_X5_product_52 at h
  obtain ⟨g1, h⟩ := gd h
  refine z_aload_n dX5_product_52 rfl 0 rfl ?_
  have hp := g1
  refine gf_5_38 rfl dX5_product_53 ?_
  refine gf_5_152 (lv1 (okP_2 hp) rfl) rfl dX5_product_56 ?_
  refine z_iload_n dX5_product_59 rfl 3 rfl ?_
  refine z_iconst (v := 0) dX5_product_60 (by decide) ?_
  obtain ⟨τ, hc, h⟩ := bnv_e h
  refine z_callV (M' := m_X0_put) (t := 1) (i := (mP σ 2)) (k := 10) (As := [.int (x3), .int (0)]) (rest := []) kl_5_173 oy_X0_put ⟨(by omega : 0 + 1 ≤ 3 * n + 7), (by omega : 8 + (3 + 11) + 40 * (0) ≤ 40 * (3 * n + 7))⟩ (lv1 (okP_2 hp) rfl) rfl rfl rfl (Nat.le_of_ble_eq_true rfl) rfl dX5_product_61 (c_X0_put (okP_2 hp) hc) (fun v2 τ2 hq => ?_)
  obtain ⟨rfl, hτ⟩ := hq
  subst τ2
  change Z _ _ _ _ _ [] _
  refine Z.lv [0, 1, 2] rfl ?_
  exact zb_X5_product_64 hrcS hrc7 h
def F_X5_product_46 (rcS : Int32 → Mm → Option Mm) (rc7 : Int32 → Int32 → Mm → Option (Mm)) (x1 : Int32) (x2 : Int32) (x3 : Int32) (s0 : Int32) (σ : Mm) : Option (Mm) := (bnv (F_X5_unit rcS x1 σ) (fun τ => (F_X5_product_52 rcS rc7 x1 x2 x3 τ)))
set_option maxRecDepth 20000 in
theorem zb_X5_product_46 {S : Shp} {n : Nat} {rcS : Int32 → Mm → Option Mm} (hrcS : ∀ {x1 : Int32} {σ r : Mm}, rcS x1 σ = some r → Ct (m_X5_sum n) S [.ref (sL S 0 0 12), .int x1] σ (Qv r)) {rc7 : Int32 → Int32 → Mm → Option (Mm)} (hrc7 : ∀ {x1 : Int32} {x2 : Int32} {σ : Mm} {r : Mm}, rc7 x1 x2 σ = some r → Z (m_X5_product n) S (Qv r) 7 [(0, .ref (sL S 0 0 12)), (1, .int (x1)), (2, .int (x2))] [] σ) {x1 : Int32} {x2 : Int32} {x3 : Int32} {s0 : Int32} {σ : Mm} {r : Mm} (h : F_X5_product_46 rcS rc7 x1 x2 x3 s0 σ = some r) : Z (m_X5_product n) S (Qv r) 46 [(0, .ref (sL S 0 0 12)), (1, .int (x1)), (2, .int (x2)), (3, .int (x3))] [.int (s0)] σ := by
  unfold F_X5_product_46 at h
  refine z_pop dX5_product_46 rfl ?_
  refine z_aload_n dX5_product_47 rfl 0 rfl ?_
  refine z_iload_n dX5_product_48 rfl 1 rfl ?_
  obtain ⟨τ, hc, h⟩ := bnv_e h
  refine z_callV (M' := m_X5_unit n) (t := 0) (i := 0) (k := 12) (As := [.int (x1)]) (rest := []) kl_5_179 oy_X5_unit ⟨(by omega : 3 * n + 6 + 1 ≤ 3 * n + 7), (by omega : 8 + (4 + 11) + 40 * (3 * n + 6) ≤ 40 * (3 * n + 7))⟩ rfl rfl rfl rfl (Nat.le_of_ble_eq_true rfl) rfl dX5_product_49 (c_X5_unit hrcS hc) (fun v2 τ2 hq => ?_)
  obtain ⟨rfl, hτ⟩ := hq
  subst τ2
  change Z _ _ _ _ _ [] _
  exact zb_X5_product_52 hrcS hrc7 h
def F_X5_product_41 (rcS : Int32 → Mm → Option Mm) (rc7 : Int32 → Int32 → Mm → Option (Mm)) (x1 : Int32) (x2 : Int32) (x3 : Int32) (σ : Mm) : Option (Mm) := (bnd (F_X5_take x3 σ) (fun v τ => (F_X5_product_46 rcS rc7 x1 x2 x3 v τ)))
set_option maxRecDepth 20000 in
theorem zb_X5_product_41 {S : Shp} {n : Nat} {rcS : Int32 → Mm → Option Mm} (hrcS : ∀ {x1 : Int32} {σ r : Mm}, rcS x1 σ = some r → Ct (m_X5_sum n) S [.ref (sL S 0 0 12), .int x1] σ (Qv r)) {rc7 : Int32 → Int32 → Mm → Option (Mm)} (hrc7 : ∀ {x1 : Int32} {x2 : Int32} {σ : Mm} {r : Mm}, rc7 x1 x2 σ = some r → Z (m_X5_product n) S (Qv r) 7 [(0, .ref (sL S 0 0 12)), (1, .int (x1)), (2, .int (x2))] [] σ) {x1 : Int32} {x2 : Int32} {x3 : Int32} {σ : Mm} {r : Mm} (h : F_X5_product_41 rcS rc7 x1 x2 x3 σ = some r) : Z (m_X5_product n) S (Qv r) 41 [(0, .ref (sL S 0 0 12)), (1, .int (x1)), (2, .int (x2)), (3, .int (x3))] [] σ := by
  unfold F_X5_product_41 at h
  refine z_aload_n dX5_product_41 rfl 0 rfl ?_
  refine z_iload_n dX5_product_42 rfl 3 rfl ?_
  obtain ⟨v, τ, hc, h⟩ := bnd_e h
  refine z_callV (M' := m_X5_take) (t := 0) (i := 0) (k := 12) (As := [.int (x3)]) (rest := []) kl_5_103 oy_X5_take ⟨(by omega : 0 + 1 ≤ 3 * n + 7), (by omega : 8 + (2 + 11) + 40 * (0) ≤ 40 * (3 * n + 7))⟩ rfl rfl rfl rfl (Nat.le_of_ble_eq_true rfl) rfl dX5_product_43 (c_X5_take hc) (fun v2 τ2 hq => ?_)
  obtain ⟨rfl, hτ⟩ := hq
  subst τ2
  change Z _ _ _ _ _ [.int (v)] _
  exact zb_X5_product_46 hrcS hrc7 h
def F_X5_product_25 (rcS : Int32 → Mm → Option Mm) (rc7 : Int32 → Int32 → Mm → Option (Mm)) (x1 : Int32) (x2 : Int32) (s0 : Int32) (σ : Mm) : Option (Mm) := (if s0 = (8 : Int32) then (F_X5_product_41 rcS rc7 x1 x2 s0 σ) else (if s0 = (9 : Int32) then (F_X5_product_41 rcS rc7 x1 x2 s0 σ) else some (σ)))
set_option maxRecDepth 20000 in
theorem zb_X5_product_25 {S : Shp} {n : Nat} {rcS : Int32 → Mm → Option Mm} (hrcS : ∀ {x1 : Int32} {σ r : Mm}, rcS x1 σ = some r → Ct (m_X5_sum n) S [.ref (sL S 0 0 12), .int x1] σ (Qv r)) {rc7 : Int32 → Int32 → Mm → Option (Mm)} (hrc7 : ∀ {x1 : Int32} {x2 : Int32} {σ : Mm} {r : Mm}, rc7 x1 x2 σ = some r → Z (m_X5_product n) S (Qv r) 7 [(0, .ref (sL S 0 0 12)), (1, .int (x1)), (2, .int (x2))] [] σ) {x1 : Int32} {x2 : Int32} {s0 : Int32} {σ : Mm} {r : Mm} (h : F_X5_product_25 rcS rc7 x1 x2 s0 σ = some r) : Z (m_X5_product n) S (Qv r) 25 [(0, .ref (sL S 0 0 12)), (1, .int (x1)), (2, .int (x2))] [.int (s0)] σ := by
  unfold F_X5_product_25 at h
  refine z_istore_n (lv' := [(0, .ref (sL S 0 0 12)), (1, .int (x1)), (2, .int (x2)), (3, .int (s0))]) dX5_product_25 rfl (Nat.le_of_ble_eq_true rfl) [1, 2, 3, 0] rfl ?_
  refine z_iload_n dX5_product_26 rfl 3 rfl ?_
  refine z_bipush (v := 8) dX5_product_27 (by decide) ?_
  refine z_icmp_eq (tgt := 41) dX5_product_29 (by decide) (fun q => ?_) (fun q => ?_)
  · have h := (if_pos q).symm.trans h
    exact zb_X5_product_41 hrcS hrc7 h
  · have h := (if_neg q).symm.trans h
    refine z_iload_n dX5_product_32 rfl 3 rfl ?_
    refine z_bipush (v := 9) dX5_product_33 (by decide) ?_
    refine z_icmp_eq (tgt := 41) dX5_product_35 (by decide) (fun q => ?_) (fun q => ?_)
    · have h := (if_pos q).symm.trans h
      exact zb_X5_product_41 hrcS hrc7 h
    · have h := (if_neg q).symm.trans h
      refine z_goto (tgt := 70) dX5_product_38 (by decide) ?_
      cases h
      exact z_return dX5_product_70 rfl ⟨rfl, rfl⟩
def B_X5_product_7 (rcS : Int32 → Mm → Option Mm) (rc7 : Int32 → Int32 → Mm → Option (Mm)) (x1 : Int32) (x2 : Int32) (σ : Mm) : Option (Mm) := (if (400 : Int32) ≤ x2 then some (σ) else (if (mA σ 0 0 12 0) = 0 then (bnd (F_X5_kindHere  σ) (fun v τ => (F_X5_product_25 rcS rc7 x1 x2 v τ))) else some (σ)))
set_option maxRecDepth 20000 in
theorem zB_X5_product_7 {S : Shp} {n : Nat} {rcS : Int32 → Mm → Option Mm} (hrcS : ∀ {x1 : Int32} {σ r : Mm}, rcS x1 σ = some r → Ct (m_X5_sum n) S [.ref (sL S 0 0 12), .int x1] σ (Qv r)) {rc7 : Int32 → Int32 → Mm → Option (Mm)} (hrc7 : ∀ {x1 : Int32} {x2 : Int32} {σ : Mm} {r : Mm}, rc7 x1 x2 σ = some r → Z (m_X5_product n) S (Qv r) 7 [(0, .ref (sL S 0 0 12)), (1, .int (x1)), (2, .int (x2))] [] σ) {x1 : Int32} {x2 : Int32} {σ : Mm} {r : Mm} (h : B_X5_product_7 rcS rc7 x1 x2 σ = some r) : Z (m_X5_product n) S (Qv r) 7 [(0, .ref (sL S 0 0 12)), (1, .int (x1)), (2, .int (x2))] [] σ := by
  unfold B_X5_product_7 at h
  refine z_iload_n dX5_product_7 rfl 2 rfl ?_
  refine z_sipush (v := 400) dX5_product_8 (by decide) ?_
  refine z_icmp_ge (tgt := 70) dX5_product_11 (by decide) (fun q => ?_) (fun q => ?_)
  · have h := (if_pos q).symm.trans h
    cases h
    exact z_return dX5_product_70 rfl ⟨rfl, rfl⟩
  · have h := (if_neg q).symm.trans h
    refine z_aload_n dX5_product_14 rfl 0 rfl ?_
    refine gf_5_9 rfl dX5_product_15 ?_
    refine z_if_ne (tgt := 70) dX5_product_18 (by decide) (fun q => ?_) (fun q => ?_)
    · have h := (if_neg q).symm.trans h
      cases h
      exact z_return dX5_product_70 rfl ⟨rfl, rfl⟩
    · have h := (if_pos q).symm.trans h
      refine z_aload_n dX5_product_21 rfl 0 rfl ?_
      obtain ⟨v, τ, hc, h⟩ := bnd_e h
      refine z_callV (M' := m_X5_kindHere) (t := 0) (i := 0) (k := 12) (As := []) (rest := []) kl_5_42 oy_X5_kindHere ⟨(by omega : 0 + 1 ≤ 3 * n + 7), (by omega : 8 + (1 + 11) + 40 * (0) ≤ 40 * (3 * n + 7))⟩ rfl rfl rfl rfl (Nat.le_of_ble_eq_true rfl) rfl dX5_product_22 (c_X5_kindHere hc) (fun v2 τ2 hq => ?_)
      obtain ⟨rfl, hτ⟩ := hq
      subst τ2
      change Z _ _ _ _ _ [.int (v)] _
      exact zb_X5_product_25 hrcS hrc7 h
def F_X5_product_7 (rcS : Int32 → Mm → Option Mm) : Nat → Int32 → Int32 → Mm → Option (Mm)
  | 0 => fun _ _ _ => none
  | n + 1 => B_X5_product_7 rcS (F_X5_product_7 rcS n)
theorem zl_X5_product_7 {S : Shp} {n : Nat} {rcS : Int32 → Mm → Option Mm} (hrcS : ∀ {x1 : Int32} {σ r : Mm}, rcS x1 σ = some r → Ct (m_X5_sum n) S [.ref (sL S 0 0 12), .int x1] σ (Qv r)) : ∀ (nn : Nat) {x1 : Int32} {x2 : Int32} {σ : Mm} {r : Mm}, F_X5_product_7 rcS nn x1 x2 σ = some r → Z (m_X5_product n) S (Qv r) 7 [(0, .ref (sL S 0 0 12)), (1, .int (x1)), (2, .int (x2))] [] σ := by
  intro nn
  induction nn with
  | zero => intro x1 x2 σ r h; cases h
  | succ nn ih => intro x1 x2 σ r h; exact zB_X5_product_7 hrcS @ih h
def F_X5_product_5 (rcS : Int32 → Mm → Option Mm) (x1 : Int32) (σ : Mm) : Option (Mm) := (F_X5_product_7 rcS FU x1 0 σ)
set_option maxRecDepth 20000 in
theorem zb_X5_product_5 {S : Shp} {n : Nat} {rcS : Int32 → Mm → Option Mm} (hrcS : ∀ {x1 : Int32} {σ r : Mm}, rcS x1 σ = some r → Ct (m_X5_sum n) S [.ref (sL S 0 0 12), .int x1] σ (Qv r)) {x1 : Int32} {σ : Mm} {r : Mm} (h : F_X5_product_5 rcS x1 σ = some r) : Z (m_X5_product n) S (Qv r) 5 [(0, .ref (sL S 0 0 12)), (1, .int (x1))] [] σ := by
  unfold F_X5_product_5 at h
  refine z_iconst (v := 0) dX5_product_5 (by decide) ?_
  refine z_istore_n (lv' := [(0, .ref (sL S 0 0 12)), (1, .int (x1)), (2, .int (0))]) dX5_product_6 rfl (Nat.le_of_ble_eq_true rfl) [1, 2, 0] rfl ?_
  exact zl_X5_product_7 hrcS FU h
def F_X5_product (rcS : Int32 → Mm → Option Mm) (x1 : Int32) (σ : Mm) : Option (Mm) := (bnv (F_X5_unit rcS x1 σ) (fun τ => (F_X5_product_5 rcS x1 τ)))
set_option maxRecDepth 20000 in
theorem zb_X5_product {S : Shp} {n : Nat} {rcS : Int32 → Mm → Option Mm} (hrcS : ∀ {x1 : Int32} {σ r : Mm}, rcS x1 σ = some r → Ct (m_X5_sum n) S [.ref (sL S 0 0 12), .int x1] σ (Qv r)) {x1 : Int32} {σ : Mm} {r : Mm} (h : F_X5_product rcS x1 σ = some r) : Z (m_X5_product n) S (Qv r) 0 [(0, .ref (sL S 0 0 12)), (1, .int (x1))] [] σ := by
  unfold F_X5_product at h
  refine z_aload_n dX5_product_0 rfl 0 rfl ?_
  refine z_iload_n dX5_product_1 rfl 1 rfl ?_
  obtain ⟨τ, hc, h⟩ := bnv_e h
  refine z_callV (M' := m_X5_unit n) (t := 0) (i := 0) (k := 12) (As := [.int (x1)]) (rest := []) kl_5_179 oy_X5_unit ⟨(by omega : 3 * n + 6 + 1 ≤ 3 * n + 7), (by omega : 8 + (4 + 11) + 40 * (3 * n + 6) ≤ 40 * (3 * n + 7))⟩ rfl rfl rfl rfl (Nat.le_of_ble_eq_true rfl) rfl dX5_product_2 (c_X5_unit hrcS hc) (fun v2 τ2 hq => ?_)
  obtain ⟨rfl, hτ⟩ := hq
  subst τ2
  change Z _ _ _ _ _ [] _
  exact zb_X5_product_5 hrcS h
/-- SkyStones$Reader.product(I)V -/
theorem c_X5_product {S : Shp} {n : Nat} {rcS : Int32 → Mm → Option Mm} (hrcS : ∀ {x1 : Int32} {σ r : Mm}, rcS x1 σ = some r → Ct (m_X5_sum n) S [.ref (sL S 0 0 12), .int x1] σ (Qv r)) {x1 : Int32} {σ : Mm} {r : Mm} (h : F_X5_product rcS x1 σ = some r) : Ct (m_X5_product n) S [.ref (sL S 0 0 12), .int (x1)] σ (Qv r) := Ct.of (show plainFor yX5_product = true by decide +kernel) (Nat.le_of_ble_eq_true rfl) (zb_X5_product hrcS h)
def F_X5_sum_64 (rcS : Int32 → Mm → Option Mm) (rc7 : Int32 → Int32 → Mm → Option (Mm)) (x1 : Int32) (x2 : Int32) (σ : Mm) : Option (Mm) := (rc7 x1 (x2 + 1) σ)
set_option maxRecDepth 20000 in
theorem zb_X5_sum_64 {S : Shp} {n : Nat} {rcS : Int32 → Mm → Option Mm} (hrcS : ∀ {x1 : Int32} {σ r : Mm}, rcS x1 σ = some r → Ct (m_X5_sum n) S [.ref (sL S 0 0 12), .int x1] σ (Qv r)) {rc7 : Int32 → Int32 → Mm → Option (Mm)} (hrc7 : ∀ {x1 : Int32} {x2 : Int32} {σ : Mm} {r : Mm}, rc7 x1 x2 σ = some r → Z (m_X5_sum (n + 1)) S (Qv r) 7 [(0, .ref (sL S 0 0 12)), (1, .int (x1)), (2, .int (x2))] [] σ) {x1 : Int32} {x2 : Int32} {σ : Mm} {r : Mm} (h : F_X5_sum_64 rcS rc7 x1 x2 σ = some r) : Z (m_X5_sum (n + 1)) S (Qv r) 64 [(0, .ref (sL S 0 0 12)), (1, .int (x1)), (2, .int (x2))] [] σ := by
  unfold F_X5_sum_64 at h
  refine z_iinc (j := 2) (v := x2 + 1) (lv' := [(0, .ref (sL S 0 0 12)), (1, .int (x1)), (2, .int (x2 + 1))]) dX5_sum_64 rfl rfl (Nat.le_of_ble_eq_true rfl) [1, 2, 0] rfl ?_
  refine z_goto (tgt := 7) dX5_sum_67 (by decide) ?_
  exact hrc7 h
def F_X5_sum_52 (rcS : Int32 → Mm → Option Mm) (rc7 : Int32 → Int32 → Mm → Option (Mm)) (x1 : Int32) (x2 : Int32) (x3 : Int32) (σ : Mm) : Option (Mm) := (if okP σ = true then (bnv (F_X0_put (mP σ 2) x3 0 σ) (fun τ => (F_X5_sum_64 rcS rc7 x1 x2 τ))) else none)
set_option maxRecDepth 20000 in
theorem zb_X5_sum_52 {S : Shp} {n : Nat} {rcS : Int32 → Mm → Option Mm} (hrcS : ∀ {x1 : Int32} {σ r : Mm}, rcS x1 σ = some r → Ct (m_X5_sum n) S [.ref (sL S 0 0 12), .int x1] σ (Qv r)) {rc7 : Int32 → Int32 → Mm → Option (Mm)} (hrc7 : ∀ {x1 : Int32} {x2 : Int32} {σ : Mm} {r : Mm}, rc7 x1 x2 σ = some r → Z (m_X5_sum (n + 1)) S (Qv r) 7 [(0, .ref (sL S 0 0 12)), (1, .int (x1)), (2, .int (x2))] [] σ) {x1 : Int32} {x2 : Int32} {x3 : Int32} {σ : Mm} {r : Mm} (h : F_X5_sum_52 rcS rc7 x1 x2 x3 σ = some r) : Z (m_X5_sum (n + 1)) S (Qv r) 52 [(0, .ref (sL S 0 0 12)), (1, .int (x1)), (2, .int (x2)), (3, .int (x3))] [] σ := by
  unfold F_X5_sum_52 at h
  obtain ⟨g1, h⟩ := gd h
  refine z_aload_n dX5_sum_52 rfl 0 rfl ?_
  have hp := g1
  refine gf_5_38 rfl dX5_sum_53 ?_
  refine gf_5_152 (lv1 (okP_2 hp) rfl) rfl dX5_sum_56 ?_
  refine z_iload_n dX5_sum_59 rfl 3 rfl ?_
  refine z_iconst (v := 0) dX5_sum_60 (by decide) ?_
  obtain ⟨τ, hc, h⟩ := bnv_e h
  refine z_callV (M' := m_X0_put) (t := 1) (i := (mP σ 2)) (k := 10) (As := [.int (x3), .int (0)]) (rest := []) kl_5_173 oy_X0_put ⟨(by omega : 0 + 1 ≤ 3 * (n + 1) + 5), (by omega : 8 + (3 + 11) + 40 * (0) ≤ 40 * (3 * (n + 1) + 5))⟩ (lv1 (okP_2 hp) rfl) rfl rfl rfl (Nat.le_of_ble_eq_true rfl) rfl dX5_sum_61 (c_X0_put (okP_2 hp) hc) (fun v2 τ2 hq => ?_)
  obtain ⟨rfl, hτ⟩ := hq
  subst τ2
  change Z _ _ _ _ _ [] _
  refine Z.lv [0, 1, 2] rfl ?_
  exact zb_X5_sum_64 hrcS hrc7 h
def F_X5_sum_46 (rcS : Int32 → Mm → Option Mm) (rc7 : Int32 → Int32 → Mm → Option (Mm)) (x1 : Int32) (x2 : Int32) (x3 : Int32) (s0 : Int32) (σ : Mm) : Option (Mm) := (bnv (F_X5_product rcS x1 σ) (fun τ => (F_X5_sum_52 rcS rc7 x1 x2 x3 τ)))
set_option maxRecDepth 20000 in
theorem zb_X5_sum_46 {S : Shp} {n : Nat} {rcS : Int32 → Mm → Option Mm} (hrcS : ∀ {x1 : Int32} {σ r : Mm}, rcS x1 σ = some r → Ct (m_X5_sum n) S [.ref (sL S 0 0 12), .int x1] σ (Qv r)) {rc7 : Int32 → Int32 → Mm → Option (Mm)} (hrc7 : ∀ {x1 : Int32} {x2 : Int32} {σ : Mm} {r : Mm}, rc7 x1 x2 σ = some r → Z (m_X5_sum (n + 1)) S (Qv r) 7 [(0, .ref (sL S 0 0 12)), (1, .int (x1)), (2, .int (x2))] [] σ) {x1 : Int32} {x2 : Int32} {x3 : Int32} {s0 : Int32} {σ : Mm} {r : Mm} (h : F_X5_sum_46 rcS rc7 x1 x2 x3 s0 σ = some r) : Z (m_X5_sum (n + 1)) S (Qv r) 46 [(0, .ref (sL S 0 0 12)), (1, .int (x1)), (2, .int (x2)), (3, .int (x3))] [.int (s0)] σ := by
  unfold F_X5_sum_46 at h
  refine z_pop dX5_sum_46 rfl ?_
  refine z_aload_n dX5_sum_47 rfl 0 rfl ?_
  refine z_iload_n dX5_sum_48 rfl 1 rfl ?_
  obtain ⟨τ, hc, h⟩ := bnv_e h
  refine z_callV (M' := m_X5_product n) (t := 0) (i := 0) (k := 12) (As := [.int (x1)]) (rest := []) kl_5_176 oy_X5_product ⟨(by omega : 3 * n + 7 + 1 ≤ 3 * (n + 1) + 5), (by omega : 8 + (4 + 11) + 40 * (3 * n + 7) ≤ 40 * (3 * (n + 1) + 5))⟩ rfl rfl rfl rfl (Nat.le_of_ble_eq_true rfl) rfl dX5_sum_49 (c_X5_product hrcS hc) (fun v2 τ2 hq => ?_)
  obtain ⟨rfl, hτ⟩ := hq
  subst τ2
  change Z _ _ _ _ _ [] _
  exact zb_X5_sum_52 hrcS hrc7 h
def F_X5_sum_41 (rcS : Int32 → Mm → Option Mm) (rc7 : Int32 → Int32 → Mm → Option (Mm)) (x1 : Int32) (x2 : Int32) (x3 : Int32) (σ : Mm) : Option (Mm) := (bnd (F_X5_take x3 σ) (fun v τ => (F_X5_sum_46 rcS rc7 x1 x2 x3 v τ)))
set_option maxRecDepth 20000 in
theorem zb_X5_sum_41 {S : Shp} {n : Nat} {rcS : Int32 → Mm → Option Mm} (hrcS : ∀ {x1 : Int32} {σ r : Mm}, rcS x1 σ = some r → Ct (m_X5_sum n) S [.ref (sL S 0 0 12), .int x1] σ (Qv r)) {rc7 : Int32 → Int32 → Mm → Option (Mm)} (hrc7 : ∀ {x1 : Int32} {x2 : Int32} {σ : Mm} {r : Mm}, rc7 x1 x2 σ = some r → Z (m_X5_sum (n + 1)) S (Qv r) 7 [(0, .ref (sL S 0 0 12)), (1, .int (x1)), (2, .int (x2))] [] σ) {x1 : Int32} {x2 : Int32} {x3 : Int32} {σ : Mm} {r : Mm} (h : F_X5_sum_41 rcS rc7 x1 x2 x3 σ = some r) : Z (m_X5_sum (n + 1)) S (Qv r) 41 [(0, .ref (sL S 0 0 12)), (1, .int (x1)), (2, .int (x2)), (3, .int (x3))] [] σ := by
  unfold F_X5_sum_41 at h
  refine z_aload_n dX5_sum_41 rfl 0 rfl ?_
  refine z_iload_n dX5_sum_42 rfl 3 rfl ?_
  obtain ⟨v, τ, hc, h⟩ := bnd_e h
  refine z_callV (M' := m_X5_take) (t := 0) (i := 0) (k := 12) (As := [.int (x3)]) (rest := []) kl_5_103 oy_X5_take ⟨(by omega : 0 + 1 ≤ 3 * (n + 1) + 5), (by omega : 8 + (2 + 11) + 40 * (0) ≤ 40 * (3 * (n + 1) + 5))⟩ rfl rfl rfl rfl (Nat.le_of_ble_eq_true rfl) rfl dX5_sum_43 (c_X5_take hc) (fun v2 τ2 hq => ?_)
  obtain ⟨rfl, hτ⟩ := hq
  subst τ2
  change Z _ _ _ _ _ [.int (v)] _
  exact zb_X5_sum_46 hrcS hrc7 h
def F_X5_sum_25 (rcS : Int32 → Mm → Option Mm) (rc7 : Int32 → Int32 → Mm → Option (Mm)) (x1 : Int32) (x2 : Int32) (s0 : Int32) (σ : Mm) : Option (Mm) := (if s0 = (6 : Int32) then (F_X5_sum_41 rcS rc7 x1 x2 s0 σ) else (if s0 = (7 : Int32) then (F_X5_sum_41 rcS rc7 x1 x2 s0 σ) else some (σ)))
set_option maxRecDepth 20000 in
theorem zb_X5_sum_25 {S : Shp} {n : Nat} {rcS : Int32 → Mm → Option Mm} (hrcS : ∀ {x1 : Int32} {σ r : Mm}, rcS x1 σ = some r → Ct (m_X5_sum n) S [.ref (sL S 0 0 12), .int x1] σ (Qv r)) {rc7 : Int32 → Int32 → Mm → Option (Mm)} (hrc7 : ∀ {x1 : Int32} {x2 : Int32} {σ : Mm} {r : Mm}, rc7 x1 x2 σ = some r → Z (m_X5_sum (n + 1)) S (Qv r) 7 [(0, .ref (sL S 0 0 12)), (1, .int (x1)), (2, .int (x2))] [] σ) {x1 : Int32} {x2 : Int32} {s0 : Int32} {σ : Mm} {r : Mm} (h : F_X5_sum_25 rcS rc7 x1 x2 s0 σ = some r) : Z (m_X5_sum (n + 1)) S (Qv r) 25 [(0, .ref (sL S 0 0 12)), (1, .int (x1)), (2, .int (x2))] [.int (s0)] σ := by
  unfold F_X5_sum_25 at h
  refine z_istore_n (lv' := [(0, .ref (sL S 0 0 12)), (1, .int (x1)), (2, .int (x2)), (3, .int (s0))]) dX5_sum_25 rfl (Nat.le_of_ble_eq_true rfl) [1, 2, 3, 0] rfl ?_
  refine z_iload_n dX5_sum_26 rfl 3 rfl ?_
  refine z_bipush (v := 6) dX5_sum_27 (by decide) ?_
  refine z_icmp_eq (tgt := 41) dX5_sum_29 (by decide) (fun q => ?_) (fun q => ?_)
  · have h := (if_pos q).symm.trans h
    exact zb_X5_sum_41 hrcS hrc7 h
  · have h := (if_neg q).symm.trans h
    refine z_iload_n dX5_sum_32 rfl 3 rfl ?_
    refine z_bipush (v := 7) dX5_sum_33 (by decide) ?_
    refine z_icmp_eq (tgt := 41) dX5_sum_35 (by decide) (fun q => ?_) (fun q => ?_)
    · have h := (if_pos q).symm.trans h
      exact zb_X5_sum_41 hrcS hrc7 h
    · have h := (if_neg q).symm.trans h
      refine z_goto (tgt := 70) dX5_sum_38 (by decide) ?_
      cases h
      exact z_return dX5_sum_70 rfl ⟨rfl, rfl⟩
def B_X5_sum_7 (rcS : Int32 → Mm → Option Mm) (rc7 : Int32 → Int32 → Mm → Option (Mm)) (x1 : Int32) (x2 : Int32) (σ : Mm) : Option (Mm) := (if (400 : Int32) ≤ x2 then some (σ) else (if (mA σ 0 0 12 0) = 0 then (bnd (F_X5_kindHere  σ) (fun v τ => (F_X5_sum_25 rcS rc7 x1 x2 v τ))) else some (σ)))
set_option maxRecDepth 20000 in
theorem zB_X5_sum_7 {S : Shp} {n : Nat} {rcS : Int32 → Mm → Option Mm} (hrcS : ∀ {x1 : Int32} {σ r : Mm}, rcS x1 σ = some r → Ct (m_X5_sum n) S [.ref (sL S 0 0 12), .int x1] σ (Qv r)) {rc7 : Int32 → Int32 → Mm → Option (Mm)} (hrc7 : ∀ {x1 : Int32} {x2 : Int32} {σ : Mm} {r : Mm}, rc7 x1 x2 σ = some r → Z (m_X5_sum (n + 1)) S (Qv r) 7 [(0, .ref (sL S 0 0 12)), (1, .int (x1)), (2, .int (x2))] [] σ) {x1 : Int32} {x2 : Int32} {σ : Mm} {r : Mm} (h : B_X5_sum_7 rcS rc7 x1 x2 σ = some r) : Z (m_X5_sum (n + 1)) S (Qv r) 7 [(0, .ref (sL S 0 0 12)), (1, .int (x1)), (2, .int (x2))] [] σ := by
  unfold B_X5_sum_7 at h
  refine z_iload_n dX5_sum_7 rfl 2 rfl ?_
  refine z_sipush (v := 400) dX5_sum_8 (by decide) ?_
  refine z_icmp_ge (tgt := 70) dX5_sum_11 (by decide) (fun q => ?_) (fun q => ?_)
  · have h := (if_pos q).symm.trans h
    cases h
    exact z_return dX5_sum_70 rfl ⟨rfl, rfl⟩
  · have h := (if_neg q).symm.trans h
    refine z_aload_n dX5_sum_14 rfl 0 rfl ?_
    refine gf_5_9 rfl dX5_sum_15 ?_
    refine z_if_ne (tgt := 70) dX5_sum_18 (by decide) (fun q => ?_) (fun q => ?_)
    · have h := (if_neg q).symm.trans h
      cases h
      exact z_return dX5_sum_70 rfl ⟨rfl, rfl⟩
    · have h := (if_pos q).symm.trans h
      refine z_aload_n dX5_sum_21 rfl 0 rfl ?_
      obtain ⟨v, τ, hc, h⟩ := bnd_e h
      refine z_callV (M' := m_X5_kindHere) (t := 0) (i := 0) (k := 12) (As := []) (rest := []) kl_5_42 oy_X5_kindHere ⟨(by omega : 0 + 1 ≤ 3 * (n + 1) + 5), (by omega : 8 + (1 + 11) + 40 * (0) ≤ 40 * (3 * (n + 1) + 5))⟩ rfl rfl rfl rfl (Nat.le_of_ble_eq_true rfl) rfl dX5_sum_22 (c_X5_kindHere hc) (fun v2 τ2 hq => ?_)
      obtain ⟨rfl, hτ⟩ := hq
      subst τ2
      change Z _ _ _ _ _ [.int (v)] _
      exact zb_X5_sum_25 hrcS hrc7 h
def F_X5_sum_7 (rcS : Int32 → Mm → Option Mm) : Nat → Int32 → Int32 → Mm → Option (Mm)
  | 0 => fun _ _ _ => none
  | n + 1 => B_X5_sum_7 rcS (F_X5_sum_7 rcS n)
theorem zl_X5_sum_7 {S : Shp} {n : Nat} {rcS : Int32 → Mm → Option Mm} (hrcS : ∀ {x1 : Int32} {σ r : Mm}, rcS x1 σ = some r → Ct (m_X5_sum n) S [.ref (sL S 0 0 12), .int x1] σ (Qv r)) : ∀ (nn : Nat) {x1 : Int32} {x2 : Int32} {σ : Mm} {r : Mm}, F_X5_sum_7 rcS nn x1 x2 σ = some r → Z (m_X5_sum (n + 1)) S (Qv r) 7 [(0, .ref (sL S 0 0 12)), (1, .int (x1)), (2, .int (x2))] [] σ := by
  intro nn
  induction nn with
  | zero => intro x1 x2 σ r h; cases h
  | succ nn ih => intro x1 x2 σ r h; exact zB_X5_sum_7 hrcS @ih h
def F_X5_sum_5 (rcS : Int32 → Mm → Option Mm) (x1 : Int32) (σ : Mm) : Option (Mm) := (F_X5_sum_7 rcS FU x1 0 σ)
set_option maxRecDepth 20000 in
theorem zb_X5_sum_5 {S : Shp} {n : Nat} {rcS : Int32 → Mm → Option Mm} (hrcS : ∀ {x1 : Int32} {σ r : Mm}, rcS x1 σ = some r → Ct (m_X5_sum n) S [.ref (sL S 0 0 12), .int x1] σ (Qv r)) {x1 : Int32} {σ : Mm} {r : Mm} (h : F_X5_sum_5 rcS x1 σ = some r) : Z (m_X5_sum (n + 1)) S (Qv r) 5 [(0, .ref (sL S 0 0 12)), (1, .int (x1))] [] σ := by
  unfold F_X5_sum_5 at h
  refine z_iconst (v := 0) dX5_sum_5 (by decide) ?_
  refine z_istore_n (lv' := [(0, .ref (sL S 0 0 12)), (1, .int (x1)), (2, .int (0))]) dX5_sum_6 rfl (Nat.le_of_ble_eq_true rfl) [1, 2, 0] rfl ?_
  exact zl_X5_sum_7 hrcS FU h
def F_X5_sum (rcS : Int32 → Mm → Option Mm) (x1 : Int32) (σ : Mm) : Option (Mm) := (bnv (F_X5_product rcS x1 σ) (fun τ => (F_X5_sum_5 rcS x1 τ)))
set_option maxRecDepth 20000 in
theorem zb_X5_sum {S : Shp} {n : Nat} {rcS : Int32 → Mm → Option Mm} (hrcS : ∀ {x1 : Int32} {σ r : Mm}, rcS x1 σ = some r → Ct (m_X5_sum n) S [.ref (sL S 0 0 12), .int x1] σ (Qv r)) {x1 : Int32} {σ : Mm} {r : Mm} (h : F_X5_sum rcS x1 σ = some r) : Z (m_X5_sum (n + 1)) S (Qv r) 0 [(0, .ref (sL S 0 0 12)), (1, .int (x1))] [] σ := by
  unfold F_X5_sum at h
  refine z_aload_n dX5_sum_0 rfl 0 rfl ?_
  refine z_iload_n dX5_sum_1 rfl 1 rfl ?_
  obtain ⟨τ, hc, h⟩ := bnv_e h
  refine z_callV (M' := m_X5_product n) (t := 0) (i := 0) (k := 12) (As := [.int (x1)]) (rest := []) kl_5_176 oy_X5_product ⟨(by omega : 3 * n + 7 + 1 ≤ 3 * (n + 1) + 5), (by omega : 8 + (4 + 11) + 40 * (3 * n + 7) ≤ 40 * (3 * (n + 1) + 5))⟩ rfl rfl rfl rfl (Nat.le_of_ble_eq_true rfl) rfl dX5_sum_2 (c_X5_product hrcS hc) (fun v2 τ2 hq => ?_)
  obtain ⟨rfl, hτ⟩ := hq
  subst τ2
  change Z _ _ _ _ _ [] _
  exact zb_X5_sum_5 hrcS h
/-- SkyStones$Reader.sum(I)V -/
theorem c_X5_sum {S : Shp} {n : Nat} {rcS : Int32 → Mm → Option Mm} (hrcS : ∀ {x1 : Int32} {σ r : Mm}, rcS x1 σ = some r → Ct (m_X5_sum n) S [.ref (sL S 0 0 12), .int x1] σ (Qv r)) {x1 : Int32} {σ : Mm} {r : Mm} (h : F_X5_sum rcS x1 σ = some r) : Ct (m_X5_sum (n + 1)) S [.ref (sL S 0 0 12), .int (x1)] σ (Qv r) := Ct.of (show plainFor yX5_sum = true by decide +kernel) (Nat.le_of_ble_eq_true rfl) (zb_X5_sum hrcS h)
def FS : Nat → Int32 → Mm → Option Mm
  | 0 => fun _ _ => none
  | n + 1 => F_X5_sum (FS n)
theorem c_FS {S : Shp} (n : Nat) {x1 : Int32} {σ r : Mm} (h : FS n x1 σ = some r) : Ct (m_X5_sum n) S [.ref (sL S 0 0 12), .int x1] σ (Qv r) := by
  induction n generalizing x1 σ r with
  | zero => cases h
  | succ n ih => exact c_X5_sum (fun h => ih h) h
def B_X5_thingNamed_2 (rc2 : Int64 → Int32 → Mm → Option (Int32 × Mm)) (x1 : Int64) (x3 : Int32) (σ : Mm) : Option (Int32 × Mm) := (if okP σ = true then (if (mA σ 1 (mP σ 2) 0 1) ≤ x3 then some ((-1), σ) else (if inb x3 14 = true then (if (lg_cmp (mL σ 0 0 13 x3.toNatClampNeg) x1) = 0 then some (x3, σ) else (rc2 x1 (x3 + 1) σ)) else none)) else none)
set_option maxRecDepth 20000 in
theorem zB_X5_thingNamed_2 {S : Shp} {rc2 : Int64 → Int32 → Mm → Option (Int32 × Mm)} (hrc2 : ∀ {x1 : Int64} {x3 : Int32} {σ : Mm} {r : Int32 × Mm}, rc2 x1 x3 σ = some r → Z m_X5_thingNamed S (Qi r) 2 [(0, .ref (sL S 0 0 12)), (1, .long (x1)), (3, .int (x3))] [] σ) {x1 : Int64} {x3 : Int32} {σ : Mm} {r : Int32 × Mm} (h : B_X5_thingNamed_2 rc2 x1 x3 σ = some r) : Z m_X5_thingNamed S (Qi r) 2 [(0, .ref (sL S 0 0 12)), (1, .long (x1)), (3, .int (x3))] [] σ := by
  unfold B_X5_thingNamed_2 at h
  obtain ⟨g1, h⟩ := gd h
  refine z_iload_n dX5_thingNamed_2 rfl 2 rfl ?_
  refine z_aload_n dX5_thingNamed_3 rfl 0 rfl ?_
  have hp := g1
  refine gf_5_38 rfl dX5_thingNamed_4 ?_
  refine gf_5_84 (lv1 (okP_2 hp) rfl) rfl dX5_thingNamed_7 ?_
  refine z_icmp_ge (tgt := 32) dX5_thingNamed_10 (by decide) (fun q => ?_) (fun q => ?_)
  · have h := (if_pos q).symm.trans h
    refine z_iconst (v := (-1)) dX5_thingNamed_32 (by decide) ?_
    cases h
    exact z_ireturn dX5_thingNamed_33 rfl rfl ⟨rfl, rfl⟩
  · have h := (if_neg q).symm.trans h
    obtain ⟨g2, h⟩ := gd h
    refine z_aload_n dX5_thingNamed_13 rfl 0 rfl ?_
    refine gf_5_27 rfl dX5_thingNamed_14 ?_
    refine z_iload_n dX5_thingNamed_17 rfl 2 rfl ?_
    refine ia_0_13 (inb_in g2) dX5_thingNamed_18 ?_
    refine z_lload_n dX5_thingNamed_19 rfl 1 rfl ?_
    refine z_lcmp dX5_thingNamed_20 ?_
    refine z_if_ne (tgt := 26) dX5_thingNamed_21 (by decide) (fun q => ?_) (fun q => ?_)
    · have h := (if_neg q).symm.trans h
      refine z_iinc (j := 2) (v := x3 + 1) (lv' := [(0, .ref (sL S 0 0 12)), (1, .long (x1)), (3, .int (x3 + 1))]) dX5_thingNamed_26 rfl rfl (by decide) [1, 2, 0] rfl ?_
      refine z_goto (tgt := 2) dX5_thingNamed_29 (by decide) ?_
      exact hrc2 h
    · have h := (if_pos q).symm.trans h
      refine z_iload_n dX5_thingNamed_24 rfl 2 rfl ?_
      cases h
      exact z_ireturn dX5_thingNamed_25 rfl rfl ⟨rfl, rfl⟩
def F_X5_thingNamed_2 : Nat → Int64 → Int32 → Mm → Option (Int32 × Mm)
  | 0 => fun _ _ _ => none
  | n + 1 => B_X5_thingNamed_2 (F_X5_thingNamed_2 n)
theorem zl_X5_thingNamed_2 {S : Shp} : ∀ (nn : Nat) {x1 : Int64} {x3 : Int32} {σ : Mm} {r : Int32 × Mm}, F_X5_thingNamed_2 nn x1 x3 σ = some r → Z m_X5_thingNamed S (Qi r) 2 [(0, .ref (sL S 0 0 12)), (1, .long (x1)), (3, .int (x3))] [] σ := by
  intro nn
  induction nn with
  | zero => intro x1 x3 σ r h; cases h
  | succ nn ih => intro x1 x3 σ r h; exact zB_X5_thingNamed_2 @ih h
def F_X5_thingNamed (x1 : Int64) (σ : Mm) : Option (Int32 × Mm) := (F_X5_thingNamed_2 FU x1 0 σ)
set_option maxRecDepth 20000 in
theorem zb_X5_thingNamed {S : Shp} {x1 : Int64} {σ : Mm} {r : Int32 × Mm} (h : F_X5_thingNamed x1 σ = some r) : Z m_X5_thingNamed S (Qi r) 0 [(0, .ref (sL S 0 0 12)), (1, .long (x1))] [] σ := by
  unfold F_X5_thingNamed at h
  refine z_iconst (v := 0) dX5_thingNamed_0 (by decide) ?_
  refine z_istore_n (lv' := [(0, .ref (sL S 0 0 12)), (1, .long (x1)), (3, .int (0))]) dX5_thingNamed_1 rfl (by decide) [1, 2, 0] rfl ?_
  exact zl_X5_thingNamed_2 FU h
/-- SkyStones$Reader.thingNamed(J)I -/
theorem c_X5_thingNamed {S : Shp} {x1 : Int64} {σ : Mm} {r : Int32 × Mm} (h : F_X5_thingNamed x1 σ = some r) : Ct m_X5_thingNamed S [.ref (sL S 0 0 12), .long (x1)] σ (Qi r) := Ct.of (by decide +kernel) (Nat.le_of_ble_eq_true rfl) (zb_X5_thingNamed h)
def F_X5_tellDoor_150 (σ : Mm) : Option (Mm) := (if okP σ = true then some (setA σ 1 (mP σ 2) 0 (upd (mA σ 1 (mP σ 2) 0) 6 ((mA σ 1 (mP σ 2) 0 6) + (1 : Int32)))) else none)
set_option maxRecDepth 20000 in
theorem zb_X5_tellDoor_150 {S : Shp} {σ : Mm} {r : Mm} (h : F_X5_tellDoor_150 σ = some r) : Z m_X5_tellDoor S (Qv r) 150 [(0, .ref (sL S 0 0 12))] [] σ := by
  unfold F_X5_tellDoor_150 at h
  obtain ⟨g7, h⟩ := gd h
  refine z_aload_n dX5_tellDoor_150 rfl 0 rfl ?_
  have hp := g7
  refine gf_5_38 rfl dX5_tellDoor_151 ?_
  refine z_dup dX5_tellDoor_154 rfl ?_
  refine gf_5_128 (lv1 (okP_2 hp) rfl) rfl dX5_tellDoor_155 ?_
  refine z_iconst (v := 1) dX5_tellDoor_158 (by decide) ?_
  refine z_iadd dX5_tellDoor_159 ?_
  refine pf_5_128 (lv1 (okP_2 hp) rfl) rfl dX5_tellDoor_160 ?_
  cases h
  exact z_return dX5_tellDoor_163 rfl ⟨rfl, rfl⟩
def F_X5_tellDoor_132 (σ : Mm) : Option (Mm) := (F_X5_tellDoor_150 σ)
set_option maxRecDepth 20000 in
theorem zb_X5_tellDoor_132 {S : Shp} {σ : Mm} {r : Mm} (h : F_X5_tellDoor_132 σ = some r) : Z m_X5_tellDoor S (Qv r) 132 [(0, .ref (sL S 0 0 12))] [] σ := by
  unfold F_X5_tellDoor_132 at h
  refine z_goto (tgt := 150) dX5_tellDoor_132 (by decide) ?_
  exact zb_X5_tellDoor_150 h
def F_X5_tellDoor_116 (σ : Mm) : Option (Mm) := (F_X5_tellDoor_150 σ)
set_option maxRecDepth 20000 in
theorem zb_X5_tellDoor_116 {S : Shp} {σ : Mm} {r : Mm} (h : F_X5_tellDoor_116 σ = some r) : Z m_X5_tellDoor S (Qv r) 116 [(0, .ref (sL S 0 0 12))] [] σ := by
  unfold F_X5_tellDoor_116 at h
  refine z_goto (tgt := 150) dX5_tellDoor_116 (by decide) ?_
  exact zb_X5_tellDoor_150 h
def F_X5_tellDoor_100 (σ : Mm) : Option (Mm) := (F_X5_tellDoor_150 σ)
set_option maxRecDepth 20000 in
theorem zb_X5_tellDoor_100 {S : Shp} {σ : Mm} {r : Mm} (h : F_X5_tellDoor_100 σ = some r) : Z m_X5_tellDoor S (Qv r) 100 [(0, .ref (sL S 0 0 12))] [] σ := by
  unfold F_X5_tellDoor_100 at h
  refine z_goto (tgt := 150) dX5_tellDoor_100 (by decide) ?_
  exact zb_X5_tellDoor_150 h
def F_X5_tellDoor_86 (x1 : Int32) (x2 : Int32) (s0 : Int32) (σ : Mm) : Option (Mm) := (if x2 = (-1 : Int32) then (bnv (F_X5_blame 4 (x1 + (1 : Int32)) σ) (fun τ => (F_X5_tellDoor_100 τ))) else (if s0 = (-1 : Int32) then (bnv (F_X5_blame 4 (x1 + (2 : Int32)) σ) (fun τ => (F_X5_tellDoor_116 τ))) else (if x2 = s0 then (bnv (F_X5_blame 5 (x1 + (2 : Int32)) σ) (fun τ => (F_X5_tellDoor_132 τ))) else (if okP σ = true then (if inb x2 14 = true then (if inb x2 14 = true then (F_X5_tellDoor_150 (setA σ 1 (mP σ 2) 5 (upd (mA σ 1 (mP σ 2) 5) x2.toNatClampNeg ((mA σ 1 (mP σ 2) 5 x2.toNatClampNeg) ||| ((1 : Int32) <<< (s0 &&& 31)))))) else none) else none) else none))))
set_option maxRecDepth 20000 in
theorem zb_X5_tellDoor_86 {S : Shp} {x1 : Int32} {x2 : Int32} {s0 : Int32} {σ : Mm} {r : Mm} (h : F_X5_tellDoor_86 x1 x2 s0 σ = some r) : Z m_X5_tellDoor S (Qv r) 86 [(0, .ref (sL S 0 0 12)), (1, .int (x1)), (2, .int (x2))] [.int (s0)] σ := by
  unfold F_X5_tellDoor_86 at h
  refine z_istore_n (lv' := [(0, .ref (sL S 0 0 12)), (1, .int (x1)), (2, .int (x2)), (3, .int (s0))]) dX5_tellDoor_86 rfl (by decide) [1, 2, 3, 0] rfl ?_
  refine z_iload_n dX5_tellDoor_87 rfl 2 rfl ?_
  refine z_iconst (v := (-1)) dX5_tellDoor_88 (by decide) ?_
  refine z_icmp_ne (tgt := 103) dX5_tellDoor_89 (by decide) (fun q => ?_) (fun q => ?_)
  · have h := (if_neg q).symm.trans h
    refine z_iload_n dX5_tellDoor_103 rfl 3 rfl ?_
    refine z_iconst (v := (-1)) dX5_tellDoor_104 (by decide) ?_
    refine z_icmp_ne (tgt := 119) dX5_tellDoor_105 (by decide) (fun q => ?_) (fun q => ?_)
    · have h := (if_neg q).symm.trans h
      refine z_iload_n dX5_tellDoor_119 rfl 2 rfl ?_
      refine z_iload_n dX5_tellDoor_120 rfl 3 rfl ?_
      refine z_icmp_ne (tgt := 135) dX5_tellDoor_121 (by decide) (fun q => ?_) (fun q => ?_)
      · have h := (if_neg q).symm.trans h
        obtain ⟨g4, h⟩ := gd h
        refine z_aload_n dX5_tellDoor_135 rfl 0 rfl ?_
        obtain ⟨g5, h⟩ := gd h
        have hp := g4
        refine gf_5_38 rfl dX5_tellDoor_136 ?_
        refine gf_5_131 (lv1 (okP_2 hp) rfl) rfl dX5_tellDoor_139 ?_
        refine z_iload_n dX5_tellDoor_142 rfl 2 rfl ?_
        refine z_dup2_11 dX5_tellDoor_143 rfl rfl ?_
        obtain ⟨g6, h⟩ := gd h
        refine ia_1_5 (lv1 (okP_2 hp) rfl) (inb_in g5) dX5_tellDoor_144 ?_
        refine z_iconst (v := 1) dX5_tellDoor_145 (by decide) ?_
        refine z_iload_n dX5_tellDoor_146 rfl 3 rfl ?_
        refine z_ishl dX5_tellDoor_147 ?_
        refine z_ior dX5_tellDoor_148 ?_
        refine is_1_5 (lv1 (okP_2 hp) rfl) (inb_in g6) dX5_tellDoor_149 ?_
        refine Z.lv [0] rfl ?_
        exact zb_X5_tellDoor_150 h
      · have h := (if_pos q).symm.trans h
        refine z_aload_n dX5_tellDoor_124 rfl 0 rfl ?_
        refine z_iconst (v := 5) dX5_tellDoor_125 (by decide) ?_
        refine z_iload_n dX5_tellDoor_126 rfl 1 rfl ?_
        refine z_iconst (v := 2) dX5_tellDoor_127 (by decide) ?_
        refine z_iadd dX5_tellDoor_128 ?_
        obtain ⟨τ, hc, h⟩ := bnv_e h
        refine z_callV (M' := m_X5_blame) (t := 0) (i := 0) (k := 12) (As := [.int (5), .int (x1 + (2 : Int32))]) (rest := []) kl_5_80 oy_X5_blame ⟨Nat.le_of_ble_eq_true rfl, Nat.le_of_ble_eq_true rfl⟩ rfl rfl rfl rfl (Nat.le_of_ble_eq_true rfl) rfl dX5_tellDoor_129 (c_X5_blame hc) (fun v2 τ2 hq => ?_)
        obtain ⟨rfl, hτ⟩ := hq
        subst τ2
        change Z _ _ _ _ _ [] _
        refine Z.lv [0] rfl ?_
        exact zb_X5_tellDoor_132 h
    · have h := (if_pos q).symm.trans h
      refine z_aload_n dX5_tellDoor_108 rfl 0 rfl ?_
      refine z_iconst (v := 4) dX5_tellDoor_109 (by decide) ?_
      refine z_iload_n dX5_tellDoor_110 rfl 1 rfl ?_
      refine z_iconst (v := 2) dX5_tellDoor_111 (by decide) ?_
      refine z_iadd dX5_tellDoor_112 ?_
      obtain ⟨τ, hc, h⟩ := bnv_e h
      refine z_callV (M' := m_X5_blame) (t := 0) (i := 0) (k := 12) (As := [.int (4), .int (x1 + (2 : Int32))]) (rest := []) kl_5_80 oy_X5_blame ⟨Nat.le_of_ble_eq_true rfl, Nat.le_of_ble_eq_true rfl⟩ rfl rfl rfl rfl (Nat.le_of_ble_eq_true rfl) rfl dX5_tellDoor_113 (c_X5_blame hc) (fun v2 τ2 hq => ?_)
      obtain ⟨rfl, hτ⟩ := hq
      subst τ2
      change Z _ _ _ _ _ [] _
      refine Z.lv [0] rfl ?_
      exact zb_X5_tellDoor_116 h
  · have h := (if_pos q).symm.trans h
    refine z_aload_n dX5_tellDoor_92 rfl 0 rfl ?_
    refine z_iconst (v := 4) dX5_tellDoor_93 (by decide) ?_
    refine z_iload_n dX5_tellDoor_94 rfl 1 rfl ?_
    refine z_iconst (v := 1) dX5_tellDoor_95 (by decide) ?_
    refine z_iadd dX5_tellDoor_96 ?_
    obtain ⟨τ, hc, h⟩ := bnv_e h
    refine z_callV (M' := m_X5_blame) (t := 0) (i := 0) (k := 12) (As := [.int (4), .int (x1 + (1 : Int32))]) (rest := []) kl_5_80 oy_X5_blame ⟨Nat.le_of_ble_eq_true rfl, Nat.le_of_ble_eq_true rfl⟩ rfl rfl rfl rfl (Nat.le_of_ble_eq_true rfl) rfl dX5_tellDoor_97 (c_X5_blame hc) (fun v2 τ2 hq => ?_)
    obtain ⟨rfl, hτ⟩ := hq
    subst τ2
    change Z _ _ _ _ _ [] _
    refine Z.lv [0] rfl ?_
    exact zb_X5_tellDoor_100 h
def F_X5_tellDoor_70 (x1 : Int32) (s0 : Int32) (σ : Mm) : Option (Mm) := (if inb (x1 + (2 : Int32)) 402 = true then (bnd (F_X5_thingNamed (mL σ 0 0 11 (x1 + (2 : Int32)).toNatClampNeg) σ) (fun v τ => (F_X5_tellDoor_86 x1 s0 v τ))) else none)
set_option maxRecDepth 20000 in
theorem zb_X5_tellDoor_70 {S : Shp} {x1 : Int32} {s0 : Int32} {σ : Mm} {r : Mm} (h : F_X5_tellDoor_70 x1 s0 σ = some r) : Z m_X5_tellDoor S (Qv r) 70 [(0, .ref (sL S 0 0 12)), (1, .int (x1))] [.int (s0)] σ := by
  unfold F_X5_tellDoor_70 at h
  obtain ⟨g3, h⟩ := gd h
  refine z_istore_n (lv' := [(0, .ref (sL S 0 0 12)), (1, .int (x1)), (2, .int (s0))]) dX5_tellDoor_70 rfl (by decide) [1, 2, 0] rfl ?_
  refine z_aload_n dX5_tellDoor_71 rfl 0 rfl ?_
  refine z_aload_n dX5_tellDoor_72 rfl 0 rfl ?_
  refine gf_5_34 rfl dX5_tellDoor_73 ?_
  refine gf_5_89 rfl dX5_tellDoor_76 ?_
  refine z_iload_n dX5_tellDoor_79 rfl 1 rfl ?_
  refine z_iconst (v := 2) dX5_tellDoor_80 (by decide) ?_
  refine z_iadd dX5_tellDoor_81 ?_
  refine ia_0_11 (inb_in g3) dX5_tellDoor_82 ?_
  obtain ⟨v, τ, hc, h⟩ := bnd_e h
  refine z_callV (M' := m_X5_thingNamed) (t := 0) (i := 0) (k := 12) (As := [.long (mL σ 0 0 11 (x1 + (2 : Int32)).toNatClampNeg)]) (rest := []) kl_5_92 oy_X5_thingNamed ⟨Nat.le_of_ble_eq_true rfl, Nat.le_of_ble_eq_true rfl⟩ rfl rfl rfl rfl (Nat.le_of_ble_eq_true rfl) rfl dX5_tellDoor_83 (c_X5_thingNamed hc) (fun v2 τ2 hq => ?_)
  obtain ⟨rfl, hτ⟩ := hq
  subst τ2
  change Z _ _ _ _ _ [.int (v)] _
  exact zb_X5_tellDoor_86 h
def F_X5_tellDoor_52 (x1 : Int32) (s0 : Int32) (σ : Mm) : Option (Mm) := (if s0 = 0 then some (σ) else (if inb (x1 + (1 : Int32)) 402 = true then (bnd (F_X5_thingNamed (mL σ 0 0 11 (x1 + (1 : Int32)).toNatClampNeg) σ) (fun v τ => (F_X5_tellDoor_70 x1 v τ))) else none))
set_option maxRecDepth 20000 in
theorem zb_X5_tellDoor_52 {S : Shp} {x1 : Int32} {s0 : Int32} {σ : Mm} {r : Mm} (h : F_X5_tellDoor_52 x1 s0 σ = some r) : Z m_X5_tellDoor S (Qv r) 52 [(0, .ref (sL S 0 0 12)), (1, .int (x1))] [.int (s0)] σ := by
  unfold F_X5_tellDoor_52 at h
  refine z_if_eq (tgt := 163) dX5_tellDoor_52 (by decide) (fun q => ?_) (fun q => ?_)
  · have h := (if_pos q).symm.trans h
    cases h
    exact z_return dX5_tellDoor_163 rfl ⟨rfl, rfl⟩
  · have h := (if_neg q).symm.trans h
    obtain ⟨g2, h⟩ := gd h
    refine z_aload_n dX5_tellDoor_55 rfl 0 rfl ?_
    refine z_aload_n dX5_tellDoor_56 rfl 0 rfl ?_
    refine gf_5_34 rfl dX5_tellDoor_57 ?_
    refine gf_5_89 rfl dX5_tellDoor_60 ?_
    refine z_iload_n dX5_tellDoor_63 rfl 1 rfl ?_
    refine z_iconst (v := 1) dX5_tellDoor_64 (by decide) ?_
    refine z_iadd dX5_tellDoor_65 ?_
    refine ia_0_11 (inb_in g2) dX5_tellDoor_66 ?_
    obtain ⟨v, τ, hc, h⟩ := bnd_e h
    refine z_callV (M' := m_X5_thingNamed) (t := 0) (i := 0) (k := 12) (As := [.long (mL σ 0 0 11 (x1 + (1 : Int32)).toNatClampNeg)]) (rest := []) kl_5_92 oy_X5_thingNamed ⟨Nat.le_of_ble_eq_true rfl, Nat.le_of_ble_eq_true rfl⟩ rfl rfl rfl rfl (Nat.le_of_ble_eq_true rfl) rfl dX5_tellDoor_67 (c_X5_thingNamed hc) (fun v2 τ2 hq => ?_)
    obtain ⟨rfl, hτ⟩ := hq
    subst τ2
    change Z _ _ _ _ _ [.int (v)] _
    exact zb_X5_tellDoor_70 h
def F_X5_tellDoor_44 (x1 : Int32) (s0 : Int32) (σ : Mm) : Option (Mm) := (if s0 = 0 then some (σ) else (bnd (F_X5_take 4 σ) (fun v τ => (F_X5_tellDoor_52 x1 v τ))))
set_option maxRecDepth 20000 in
theorem zb_X5_tellDoor_44 {S : Shp} {x1 : Int32} {s0 : Int32} {σ : Mm} {r : Mm} (h : F_X5_tellDoor_44 x1 s0 σ = some r) : Z m_X5_tellDoor S (Qv r) 44 [(0, .ref (sL S 0 0 12)), (1, .int (x1))] [.int (s0)] σ := by
  unfold F_X5_tellDoor_44 at h
  refine z_if_eq (tgt := 163) dX5_tellDoor_44 (by decide) (fun q => ?_) (fun q => ?_)
  · have h := (if_pos q).symm.trans h
    cases h
    exact z_return dX5_tellDoor_163 rfl ⟨rfl, rfl⟩
  · have h := (if_neg q).symm.trans h
    refine z_aload_n dX5_tellDoor_47 rfl 0 rfl ?_
    refine z_iconst (v := 4) dX5_tellDoor_48 (by decide) ?_
    obtain ⟨v, τ, hc, h⟩ := bnd_e h
    refine z_callV (M' := m_X5_take) (t := 0) (i := 0) (k := 12) (As := [.int (4)]) (rest := []) kl_5_103 oy_X5_take ⟨Nat.le_of_ble_eq_true rfl, Nat.le_of_ble_eq_true rfl⟩ rfl rfl rfl rfl (Nat.le_of_ble_eq_true rfl) rfl dX5_tellDoor_49 (c_X5_take hc) (fun v2 τ2 hq => ?_)
    obtain ⟨rfl, hτ⟩ := hq
    subst τ2
    change Z _ _ _ _ _ [.int (v)] _
    exact zb_X5_tellDoor_52 h
def F_X5_tellDoor_36 (x1 : Int32) (s0 : Int32) (σ : Mm) : Option (Mm) := (if s0 = 0 then some (σ) else (bnd (F_X5_take 2 σ) (fun v τ => (F_X5_tellDoor_44 x1 v τ))))
set_option maxRecDepth 20000 in
theorem zb_X5_tellDoor_36 {S : Shp} {x1 : Int32} {s0 : Int32} {σ : Mm} {r : Mm} (h : F_X5_tellDoor_36 x1 s0 σ = some r) : Z m_X5_tellDoor S (Qv r) 36 [(0, .ref (sL S 0 0 12)), (1, .int (x1))] [.int (s0)] σ := by
  unfold F_X5_tellDoor_36 at h
  refine z_if_eq (tgt := 163) dX5_tellDoor_36 (by decide) (fun q => ?_) (fun q => ?_)
  · have h := (if_pos q).symm.trans h
    cases h
    exact z_return dX5_tellDoor_163 rfl ⟨rfl, rfl⟩
  · have h := (if_neg q).symm.trans h
    refine z_aload_n dX5_tellDoor_39 rfl 0 rfl ?_
    refine z_iconst (v := 2) dX5_tellDoor_40 (by decide) ?_
    obtain ⟨v, τ, hc, h⟩ := bnd_e h
    refine z_callV (M' := m_X5_take) (t := 0) (i := 0) (k := 12) (As := [.int (2)]) (rest := []) kl_5_103 oy_X5_take ⟨Nat.le_of_ble_eq_true rfl, Nat.le_of_ble_eq_true rfl⟩ rfl rfl rfl rfl (Nat.le_of_ble_eq_true rfl) rfl dX5_tellDoor_41 (c_X5_take hc) (fun v2 τ2 hq => ?_)
    obtain ⟨rfl, hτ⟩ := hq
    subst τ2
    change Z _ _ _ _ _ [.int (v)] _
    exact zb_X5_tellDoor_44 h
def F_X5_tellDoor_28 (x1 : Int32) (s0 : Int32) (σ : Mm) : Option (Mm) := (if s0 = 0 then some (σ) else (bnd (F_X5_take 2 σ) (fun v τ => (F_X5_tellDoor_36 x1 v τ))))
set_option maxRecDepth 20000 in
theorem zb_X5_tellDoor_28 {S : Shp} {x1 : Int32} {s0 : Int32} {σ : Mm} {r : Mm} (h : F_X5_tellDoor_28 x1 s0 σ = some r) : Z m_X5_tellDoor S (Qv r) 28 [(0, .ref (sL S 0 0 12)), (1, .int (x1))] [.int (s0)] σ := by
  unfold F_X5_tellDoor_28 at h
  refine z_if_eq (tgt := 163) dX5_tellDoor_28 (by decide) (fun q => ?_) (fun q => ?_)
  · have h := (if_pos q).symm.trans h
    cases h
    exact z_return dX5_tellDoor_163 rfl ⟨rfl, rfl⟩
  · have h := (if_neg q).symm.trans h
    refine z_aload_n dX5_tellDoor_31 rfl 0 rfl ?_
    refine z_iconst (v := 2) dX5_tellDoor_32 (by decide) ?_
    obtain ⟨v, τ, hc, h⟩ := bnd_e h
    refine z_callV (M' := m_X5_take) (t := 0) (i := 0) (k := 12) (As := [.int (2)]) (rest := []) kl_5_103 oy_X5_take ⟨Nat.le_of_ble_eq_true rfl, Nat.le_of_ble_eq_true rfl⟩ rfl rfl rfl rfl (Nat.le_of_ble_eq_true rfl) rfl dX5_tellDoor_33 (c_X5_take hc) (fun v2 τ2 hq => ?_)
    obtain ⟨rfl, hτ⟩ := hq
    subst τ2
    change Z _ _ _ _ _ [.int (v)] _
    exact zb_X5_tellDoor_36 h
def F_X5_tellDoor_18 (x1 : Int32) (s0 : Int32) (σ : Mm) : Option (Mm) := (if s0 = 0 then some (σ) else (bnd (F_X5_take 18 σ) (fun v τ => (F_X5_tellDoor_28 x1 v τ))))
set_option maxRecDepth 20000 in
theorem zb_X5_tellDoor_18 {S : Shp} {x1 : Int32} {s0 : Int32} {σ : Mm} {r : Mm} (h : F_X5_tellDoor_18 x1 s0 σ = some r) : Z m_X5_tellDoor S (Qv r) 18 [(0, .ref (sL S 0 0 12)), (1, .int (x1))] [.int (s0)] σ := by
  unfold F_X5_tellDoor_18 at h
  refine z_if_ne (tgt := 22) dX5_tellDoor_18 (by decide) (fun q => ?_) (fun q => ?_)
  · have h := (if_neg q).symm.trans h
    refine z_aload_n dX5_tellDoor_22 rfl 0 rfl ?_
    refine z_bipush (v := 18) dX5_tellDoor_23 (by decide) ?_
    obtain ⟨v, τ, hc, h⟩ := bnd_e h
    refine z_callV (M' := m_X5_take) (t := 0) (i := 0) (k := 12) (As := [.int (18)]) (rest := []) kl_5_103 oy_X5_take ⟨Nat.le_of_ble_eq_true rfl, Nat.le_of_ble_eq_true rfl⟩ rfl rfl rfl rfl (Nat.le_of_ble_eq_true rfl) rfl dX5_tellDoor_25 (c_X5_take hc) (fun v2 τ2 hq => ?_)
    obtain ⟨rfl, hτ⟩ := hq
    subst τ2
    change Z _ _ _ _ _ [.int (v)] _
    exact zb_X5_tellDoor_28 h
  · have h := (if_pos q).symm.trans h
    cases h
    exact z_return dX5_tellDoor_21 rfl ⟨rfl, rfl⟩
def F_X5_tellDoor (σ : Mm) : Option (Mm) := (if okP σ = true then (bnd (F_X5_hasRoom (mA σ 1 (mP σ 2) 0 6) 8 σ) (fun v τ => (F_X5_tellDoor_18 (mA σ 0 0 12 4) v τ))) else none)
set_option maxRecDepth 20000 in
theorem zb_X5_tellDoor {S : Shp} {σ : Mm} {r : Mm} (h : F_X5_tellDoor σ = some r) : Z m_X5_tellDoor S (Qv r) 0 [(0, .ref (sL S 0 0 12))] [] σ := by
  unfold F_X5_tellDoor at h
  obtain ⟨g1, h⟩ := gd h
  refine z_aload_n dX5_tellDoor_0 rfl 0 rfl ?_
  refine gf_5_18 rfl dX5_tellDoor_1 ?_
  refine z_istore_n (lv' := [(0, .ref (sL S 0 0 12)), (1, .int (mA σ 0 0 12 4))]) dX5_tellDoor_4 rfl (by decide) [1, 0] rfl ?_
  refine z_aload_n dX5_tellDoor_5 rfl 0 rfl ?_
  refine z_aload_n dX5_tellDoor_6 rfl 0 rfl ?_
  have hp := g1
  refine gf_5_38 rfl dX5_tellDoor_7 ?_
  refine gf_5_128 (lv1 (okP_2 hp) rfl) rfl dX5_tellDoor_10 ?_
  refine z_bipush (v := 8) dX5_tellDoor_13 (by decide) ?_
  obtain ⟨v, τ, hc, h⟩ := bnd_e h
  refine z_callV (M' := m_X5_hasRoom) (t := 0) (i := 0) (k := 12) (As := [.int (mA σ 1 (mP σ 2) 0 6), .int (8)]) (rest := []) kl_5_99 oy_X5_hasRoom ⟨Nat.le_of_ble_eq_true rfl, Nat.le_of_ble_eq_true rfl⟩ rfl rfl rfl rfl (Nat.le_of_ble_eq_true rfl) rfl dX5_tellDoor_15 (c_X5_hasRoom hc) (fun v2 τ2 hq => ?_)
  obtain ⟨rfl, hτ⟩ := hq
  subst τ2
  change Z _ _ _ _ _ [.int (v)] _
  exact zb_X5_tellDoor_18 h
/-- SkyStones$Reader.tellDoor()V -/
theorem c_X5_tellDoor {S : Shp} {σ : Mm} {r : Mm} (h : F_X5_tellDoor σ = some r) : Ct m_X5_tellDoor S [.ref (sL S 0 0 12)] σ (Qv r) := Ct.of (by decide +kernel) (Nat.le_of_ble_eq_true rfl) (zb_X5_tellDoor h)
def F_X5_blameAbove (x1 : Int32) (x2 : Int32) (σ : Mm) : Option (Mm) := (if inb x2 402 = true then (if (mA σ 0 0 10 x2.toNatClampNeg) ≤ x1 then some (σ) else (bnv (F_X5_blame 5 x2 σ) (fun τ => some (τ)))) else none)
set_option maxRecDepth 20000 in
theorem zb_X5_blameAbove {S : Shp} {x1 : Int32} {x2 : Int32} {σ : Mm} {r : Mm} (h : F_X5_blameAbove x1 x2 σ = some r) : Z m_X5_blameAbove S (Qv r) 0 [(0, .ref (sL S 0 0 12)), (1, .int (x1)), (2, .int (x2))] [] σ := by
  unfold F_X5_blameAbove at h
  obtain ⟨g1, h⟩ := gd h
  refine z_aload_n dX5_blameAbove_0 rfl 0 rfl ?_
  refine gf_5_34 rfl dX5_blameAbove_1 ?_
  refine gf_5_77 rfl dX5_blameAbove_4 ?_
  refine z_iload_n dX5_blameAbove_7 rfl 2 rfl ?_
  refine ia_0_10 (inb_in g1) dX5_blameAbove_8 ?_
  refine z_iload_n dX5_blameAbove_9 rfl 1 rfl ?_
  refine z_icmp_le (tgt := 19) dX5_blameAbove_10 (by decide) (fun q => ?_) (fun q => ?_)
  · have h := (if_pos q).symm.trans h
    cases h
    exact z_return dX5_blameAbove_19 rfl ⟨rfl, rfl⟩
  · have h := (if_neg q).symm.trans h
    refine z_aload_n dX5_blameAbove_13 rfl 0 rfl ?_
    refine z_iconst (v := 5) dX5_blameAbove_14 (by decide) ?_
    refine z_iload_n dX5_blameAbove_15 rfl 2 rfl ?_
    obtain ⟨τ, hc, h⟩ := bnv_e h
    refine z_callV (M' := m_X5_blame) (t := 0) (i := 0) (k := 12) (As := [.int (5), .int (x2)]) (rest := []) kl_5_80 oy_X5_blame ⟨Nat.le_of_ble_eq_true rfl, Nat.le_of_ble_eq_true rfl⟩ rfl rfl rfl rfl (Nat.le_of_ble_eq_true rfl) rfl dX5_blameAbove_16 (c_X5_blame hc) (fun v2 τ2 hq => ?_)
    obtain ⟨rfl, hτ⟩ := hq
    subst τ2
    change Z _ _ _ _ _ [] _
    cases h
    exact z_return dX5_blameAbove_19 rfl ⟨rfl, rfl⟩
/-- SkyStones$Reader.blameAbove(II)V -/
theorem c_X5_blameAbove {S : Shp} {x1 : Int32} {x2 : Int32} {σ : Mm} {r : Mm} (h : F_X5_blameAbove x1 x2 σ = some r) : Ct m_X5_blameAbove S [.ref (sL S 0 0 12), .int (x1), .int (x2)] σ (Qv r) := Ct.of (by decide +kernel) (Nat.le_of_ble_eq_true rfl) (zb_X5_blameAbove h)
def F_X5_tellHill_160 (σ : Mm) : Option (Mm) := (if okP σ = true then some (setA σ 1 (mP σ 2) 0 (upd (mA σ 1 (mP σ 2) 0) 8 ((mA σ 1 (mP σ 2) 0 8) + (1 : Int32)))) else none)
set_option maxRecDepth 20000 in
theorem zb_X5_tellHill_160 {S : Shp} {σ : Mm} {r : Mm} (h : F_X5_tellHill_160 σ = some r) : Z m_X5_tellHill S (Qv r) 160 [(0, .ref (sL S 0 0 12))] [] σ := by
  unfold F_X5_tellHill_160 at h
  obtain ⟨g11, h⟩ := gd h
  refine z_aload_n dX5_tellHill_160 rfl 0 rfl ?_
  have hp := g11
  refine gf_5_38 rfl dX5_tellHill_161 ?_
  refine z_dup dX5_tellHill_164 rfl ?_
  refine gf_5_134 (lv1 (okP_2 hp) rfl) rfl dX5_tellHill_165 ?_
  refine z_iconst (v := 1) dX5_tellHill_168 (by decide) ?_
  refine z_iadd dX5_tellHill_169 ?_
  refine pf_5_134 (lv1 (okP_2 hp) rfl) rfl dX5_tellHill_170 ?_
  cases h
  exact z_return dX5_tellHill_173 rfl ⟨rfl, rfl⟩
def F_X5_tellHill_140 (x1 : Int32) (x2 : Int32) (σ : Mm) : Option (Mm) := (if okP σ = true then (if inb (x1 + (3 : Int32)) 402 = true then (if inb x2 12 = true then (F_X5_tellHill_160 (setA σ 1 (mP σ 2) 8 (upd (mA σ 1 (mP σ 2) 8) x2.toNatClampNeg (mA σ 0 0 10 (x1 + (3 : Int32)).toNatClampNeg)))) else none) else none) else none)
set_option maxRecDepth 20000 in
theorem zb_X5_tellHill_140 {S : Shp} {x1 : Int32} {x2 : Int32} {σ : Mm} {r : Mm} (h : F_X5_tellHill_140 x1 x2 σ = some r) : Z m_X5_tellHill S (Qv r) 140 [(0, .ref (sL S 0 0 12)), (1, .int (x1)), (2, .int (x2))] [] σ := by
  unfold F_X5_tellHill_140 at h
  obtain ⟨g8, h⟩ := gd h
  refine z_aload_n dX5_tellHill_140 rfl 0 rfl ?_
  obtain ⟨g9, h⟩ := gd h
  have hp := g8
  refine gf_5_38 rfl dX5_tellHill_141 ?_
  refine gf_5_143 (lv1 (okP_2 hp) rfl) rfl dX5_tellHill_144 ?_
  refine z_iload_n dX5_tellHill_147 rfl 2 rfl ?_
  refine z_aload_n dX5_tellHill_148 rfl 0 rfl ?_
  refine gf_5_34 rfl dX5_tellHill_149 ?_
  refine gf_5_77 rfl dX5_tellHill_152 ?_
  refine z_iload_n dX5_tellHill_155 rfl 1 rfl ?_
  refine z_iconst (v := 3) dX5_tellHill_156 (by decide) ?_
  refine z_iadd dX5_tellHill_157 ?_
  obtain ⟨g10, h⟩ := gd h
  refine ia_0_10 (inb_in g9) dX5_tellHill_158 ?_
  refine is_1_8 (lv1 (okP_2 hp) rfl) (inb_in g10) dX5_tellHill_159 ?_
  refine Z.lv [0] rfl ?_
  exact zb_X5_tellHill_160 h
def F_X5_tellHill_120 (x1 : Int32) (x2 : Int32) (σ : Mm) : Option (Mm) := (if okP σ = true then (if inb (x1 + (2 : Int32)) 402 = true then (if inb x2 12 = true then (F_X5_tellHill_140 x1 x2 (setA σ 1 (mP σ 2) 7 (upd (mA σ 1 (mP σ 2) 7) x2.toNatClampNeg (mA σ 0 0 10 (x1 + (2 : Int32)).toNatClampNeg)))) else none) else none) else none)
set_option maxRecDepth 20000 in
theorem zb_X5_tellHill_120 {S : Shp} {x1 : Int32} {x2 : Int32} {σ : Mm} {r : Mm} (h : F_X5_tellHill_120 x1 x2 σ = some r) : Z m_X5_tellHill S (Qv r) 120 [(0, .ref (sL S 0 0 12)), (1, .int (x1)), (2, .int (x2))] [] σ := by
  unfold F_X5_tellHill_120 at h
  obtain ⟨g5, h⟩ := gd h
  refine z_aload_n dX5_tellHill_120 rfl 0 rfl ?_
  obtain ⟨g6, h⟩ := gd h
  have hp := g5
  refine gf_5_38 rfl dX5_tellHill_121 ?_
  refine gf_5_140 (lv1 (okP_2 hp) rfl) rfl dX5_tellHill_124 ?_
  refine z_iload_n dX5_tellHill_127 rfl 2 rfl ?_
  refine z_aload_n dX5_tellHill_128 rfl 0 rfl ?_
  refine gf_5_34 rfl dX5_tellHill_129 ?_
  refine gf_5_77 rfl dX5_tellHill_132 ?_
  refine z_iload_n dX5_tellHill_135 rfl 1 rfl ?_
  refine z_iconst (v := 2) dX5_tellHill_136 (by decide) ?_
  refine z_iadd dX5_tellHill_137 ?_
  obtain ⟨g7, h⟩ := gd h
  refine ia_0_10 (inb_in g6) dX5_tellHill_138 ?_
  refine is_1_7 (lv1 (okP_2 hp) rfl) (inb_in g7) dX5_tellHill_139 ?_
  exact zb_X5_tellHill_140 h
def F_X5_tellHill_92 (x1 : Int32) (σ : Mm) : Option (Mm) := (if okP σ = true then (if inb (x1 + (1 : Int32)) 402 = true then (if inb (mA σ 1 (mP σ 2) 0 8) 12 = true then (F_X5_tellHill_120 x1 (mA σ 1 (mP σ 2) 0 8) (setA σ 1 (mP σ 2) 6 (upd (mA σ 1 (mP σ 2) 6) (mA σ 1 (mP σ 2) 0 8).toNatClampNeg (mA σ 0 0 10 (x1 + (1 : Int32)).toNatClampNeg)))) else none) else none) else none)
set_option maxRecDepth 20000 in
theorem zb_X5_tellHill_92 {S : Shp} {x1 : Int32} {σ : Mm} {r : Mm} (h : F_X5_tellHill_92 x1 σ = some r) : Z m_X5_tellHill S (Qv r) 92 [(0, .ref (sL S 0 0 12)), (1, .int (x1))] [] σ := by
  unfold F_X5_tellHill_92 at h
  obtain ⟨g2, h⟩ := gd h
  refine z_aload_n dX5_tellHill_92 rfl 0 rfl ?_
  obtain ⟨g3, h⟩ := gd h
  have hp := g2
  refine gf_5_38 rfl dX5_tellHill_93 ?_
  refine gf_5_134 (lv1 (okP_2 hp) rfl) rfl dX5_tellHill_96 ?_
  refine z_istore_n (lv' := [(0, .ref (sL S 0 0 12)), (1, .int (x1)), (2, .int (mA σ 1 (mP σ 2) 0 8))]) dX5_tellHill_99 rfl (by decide) [1, 2, 0] rfl ?_
  refine z_aload_n dX5_tellHill_100 rfl 0 rfl ?_
  refine gf_5_38 rfl dX5_tellHill_101 ?_
  refine gf_5_137 (lv1 (okP_2 hp) rfl) rfl dX5_tellHill_104 ?_
  refine z_iload_n dX5_tellHill_107 rfl 2 rfl ?_
  refine z_aload_n dX5_tellHill_108 rfl 0 rfl ?_
  refine gf_5_34 rfl dX5_tellHill_109 ?_
  refine gf_5_77 rfl dX5_tellHill_112 ?_
  refine z_iload_n dX5_tellHill_115 rfl 1 rfl ?_
  refine z_iconst (v := 1) dX5_tellHill_116 (by decide) ?_
  refine z_iadd dX5_tellHill_117 ?_
  obtain ⟨g4, h⟩ := gd h
  refine ia_0_10 (inb_in g3) dX5_tellHill_118 ?_
  refine is_1_6 (lv1 (okP_2 hp) rfl) (inb_in g4) dX5_tellHill_119 ?_
  exact zb_X5_tellHill_120 h
def F_X5_tellHill_83 (x1 : Int32) (σ : Mm) : Option (Mm) := (bnv (F_X5_blameAbove 20 (x1 + (3 : Int32)) σ) (fun τ => (F_X5_tellHill_92 x1 τ)))
set_option maxRecDepth 20000 in
theorem zb_X5_tellHill_83 {S : Shp} {x1 : Int32} {σ : Mm} {r : Mm} (h : F_X5_tellHill_83 x1 σ = some r) : Z m_X5_tellHill S (Qv r) 83 [(0, .ref (sL S 0 0 12)), (1, .int (x1))] [] σ := by
  unfold F_X5_tellHill_83 at h
  refine z_aload_n dX5_tellHill_83 rfl 0 rfl ?_
  refine z_bipush (v := 20) dX5_tellHill_84 (by decide) ?_
  refine z_iload_n dX5_tellHill_86 rfl 1 rfl ?_
  refine z_iconst (v := 3) dX5_tellHill_87 (by decide) ?_
  refine z_iadd dX5_tellHill_88 ?_
  obtain ⟨τ, hc, h⟩ := bnv_e h
  refine z_callV (M' := m_X5_blameAbove) (t := 0) (i := 0) (k := 12) (As := [.int (20), .int (x1 + (3 : Int32))]) (rest := []) kl_5_110 oy_X5_blameAbove ⟨Nat.le_of_ble_eq_true rfl, Nat.le_of_ble_eq_true rfl⟩ rfl rfl rfl rfl (Nat.le_of_ble_eq_true rfl) rfl dX5_tellHill_89 (c_X5_blameAbove hc) (fun v2 τ2 hq => ?_)
  obtain ⟨rfl, hτ⟩ := hq
  subst τ2
  change Z _ _ _ _ _ [] _
  exact zb_X5_tellHill_92 h
def F_X5_tellHill_73 (x1 : Int32) (σ : Mm) : Option (Mm) := (bnv (F_X5_blameAbove 359 (x1 + (2 : Int32)) σ) (fun τ => (F_X5_tellHill_83 x1 τ)))
set_option maxRecDepth 20000 in
theorem zb_X5_tellHill_73 {S : Shp} {x1 : Int32} {σ : Mm} {r : Mm} (h : F_X5_tellHill_73 x1 σ = some r) : Z m_X5_tellHill S (Qv r) 73 [(0, .ref (sL S 0 0 12)), (1, .int (x1))] [] σ := by
  unfold F_X5_tellHill_73 at h
  refine z_aload_n dX5_tellHill_73 rfl 0 rfl ?_
  refine z_sipush (v := 359) dX5_tellHill_74 (by decide) ?_
  refine z_iload_n dX5_tellHill_77 rfl 1 rfl ?_
  refine z_iconst (v := 2) dX5_tellHill_78 (by decide) ?_
  refine z_iadd dX5_tellHill_79 ?_
  obtain ⟨τ, hc, h⟩ := bnv_e h
  refine z_callV (M' := m_X5_blameAbove) (t := 0) (i := 0) (k := 12) (As := [.int (359), .int (x1 + (2 : Int32))]) (rest := []) kl_5_110 oy_X5_blameAbove ⟨Nat.le_of_ble_eq_true rfl, Nat.le_of_ble_eq_true rfl⟩ rfl rfl rfl rfl (Nat.le_of_ble_eq_true rfl) rfl dX5_tellHill_80 (c_X5_blameAbove hc) (fun v2 τ2 hq => ?_)
  obtain ⟨rfl, hτ⟩ := hq
  subst τ2
  change Z _ _ _ _ _ [] _
  exact zb_X5_tellHill_83 h
def F_X5_tellHill_60 (x1 : Int32) (s0 : Int32) (σ : Mm) : Option (Mm) := (if s0 = 0 then some (σ) else (bnv (F_X5_blameAbove 359 (x1 + (1 : Int32)) σ) (fun τ => (F_X5_tellHill_73 x1 τ))))
set_option maxRecDepth 20000 in
theorem zb_X5_tellHill_60 {S : Shp} {x1 : Int32} {s0 : Int32} {σ : Mm} {r : Mm} (h : F_X5_tellHill_60 x1 s0 σ = some r) : Z m_X5_tellHill S (Qv r) 60 [(0, .ref (sL S 0 0 12)), (1, .int (x1))] [.int (s0)] σ := by
  unfold F_X5_tellHill_60 at h
  refine z_if_eq (tgt := 173) dX5_tellHill_60 (by decide) (fun q => ?_) (fun q => ?_)
  · have h := (if_pos q).symm.trans h
    cases h
    exact z_return dX5_tellHill_173 rfl ⟨rfl, rfl⟩
  · have h := (if_neg q).symm.trans h
    refine z_aload_n dX5_tellHill_63 rfl 0 rfl ?_
    refine z_sipush (v := 359) dX5_tellHill_64 (by decide) ?_
    refine z_iload_n dX5_tellHill_67 rfl 1 rfl ?_
    refine z_iconst (v := 1) dX5_tellHill_68 (by decide) ?_
    refine z_iadd dX5_tellHill_69 ?_
    obtain ⟨τ, hc, h⟩ := bnv_e h
    refine z_callV (M' := m_X5_blameAbove) (t := 0) (i := 0) (k := 12) (As := [.int (359), .int (x1 + (1 : Int32))]) (rest := []) kl_5_110 oy_X5_blameAbove ⟨Nat.le_of_ble_eq_true rfl, Nat.le_of_ble_eq_true rfl⟩ rfl rfl rfl rfl (Nat.le_of_ble_eq_true rfl) rfl dX5_tellHill_70 (c_X5_blameAbove hc) (fun v2 τ2 hq => ?_)
    obtain ⟨rfl, hτ⟩ := hq
    subst τ2
    change Z _ _ _ _ _ [] _
    exact zb_X5_tellHill_73 h
def F_X5_tellHill_52 (x1 : Int32) (s0 : Int32) (σ : Mm) : Option (Mm) := (if s0 = 0 then some (σ) else (bnd (F_X5_take 4 σ) (fun v τ => (F_X5_tellHill_60 x1 v τ))))
set_option maxRecDepth 20000 in
theorem zb_X5_tellHill_52 {S : Shp} {x1 : Int32} {s0 : Int32} {σ : Mm} {r : Mm} (h : F_X5_tellHill_52 x1 s0 σ = some r) : Z m_X5_tellHill S (Qv r) 52 [(0, .ref (sL S 0 0 12)), (1, .int (x1))] [.int (s0)] σ := by
  unfold F_X5_tellHill_52 at h
  refine z_if_eq (tgt := 173) dX5_tellHill_52 (by decide) (fun q => ?_) (fun q => ?_)
  · have h := (if_pos q).symm.trans h
    cases h
    exact z_return dX5_tellHill_173 rfl ⟨rfl, rfl⟩
  · have h := (if_neg q).symm.trans h
    refine z_aload_n dX5_tellHill_55 rfl 0 rfl ?_
    refine z_iconst (v := 4) dX5_tellHill_56 (by decide) ?_
    obtain ⟨v, τ, hc, h⟩ := bnd_e h
    refine z_callV (M' := m_X5_take) (t := 0) (i := 0) (k := 12) (As := [.int (4)]) (rest := []) kl_5_103 oy_X5_take ⟨Nat.le_of_ble_eq_true rfl, Nat.le_of_ble_eq_true rfl⟩ rfl rfl rfl rfl (Nat.le_of_ble_eq_true rfl) rfl dX5_tellHill_57 (c_X5_take hc) (fun v2 τ2 hq => ?_)
    obtain ⟨rfl, hτ⟩ := hq
    subst τ2
    change Z _ _ _ _ _ [.int (v)] _
    exact zb_X5_tellHill_60 h
def F_X5_tellHill_44 (x1 : Int32) (s0 : Int32) (σ : Mm) : Option (Mm) := (if s0 = 0 then some (σ) else (bnd (F_X5_take 3 σ) (fun v τ => (F_X5_tellHill_52 x1 v τ))))
set_option maxRecDepth 20000 in
theorem zb_X5_tellHill_44 {S : Shp} {x1 : Int32} {s0 : Int32} {σ : Mm} {r : Mm} (h : F_X5_tellHill_44 x1 s0 σ = some r) : Z m_X5_tellHill S (Qv r) 44 [(0, .ref (sL S 0 0 12)), (1, .int (x1))] [.int (s0)] σ := by
  unfold F_X5_tellHill_44 at h
  refine z_if_eq (tgt := 173) dX5_tellHill_44 (by decide) (fun q => ?_) (fun q => ?_)
  · have h := (if_pos q).symm.trans h
    cases h
    exact z_return dX5_tellHill_173 rfl ⟨rfl, rfl⟩
  · have h := (if_neg q).symm.trans h
    refine z_aload_n dX5_tellHill_47 rfl 0 rfl ?_
    refine z_iconst (v := 3) dX5_tellHill_48 (by decide) ?_
    obtain ⟨v, τ, hc, h⟩ := bnd_e h
    refine z_callV (M' := m_X5_take) (t := 0) (i := 0) (k := 12) (As := [.int (3)]) (rest := []) kl_5_103 oy_X5_take ⟨Nat.le_of_ble_eq_true rfl, Nat.le_of_ble_eq_true rfl⟩ rfl rfl rfl rfl (Nat.le_of_ble_eq_true rfl) rfl dX5_tellHill_49 (c_X5_take hc) (fun v2 τ2 hq => ?_)
    obtain ⟨rfl, hτ⟩ := hq
    subst τ2
    change Z _ _ _ _ _ [.int (v)] _
    exact zb_X5_tellHill_52 h
def F_X5_tellHill_36 (x1 : Int32) (s0 : Int32) (σ : Mm) : Option (Mm) := (if s0 = 0 then some (σ) else (bnd (F_X5_take 3 σ) (fun v τ => (F_X5_tellHill_44 x1 v τ))))
set_option maxRecDepth 20000 in
theorem zb_X5_tellHill_36 {S : Shp} {x1 : Int32} {s0 : Int32} {σ : Mm} {r : Mm} (h : F_X5_tellHill_36 x1 s0 σ = some r) : Z m_X5_tellHill S (Qv r) 36 [(0, .ref (sL S 0 0 12)), (1, .int (x1))] [.int (s0)] σ := by
  unfold F_X5_tellHill_36 at h
  refine z_if_eq (tgt := 173) dX5_tellHill_36 (by decide) (fun q => ?_) (fun q => ?_)
  · have h := (if_pos q).symm.trans h
    cases h
    exact z_return dX5_tellHill_173 rfl ⟨rfl, rfl⟩
  · have h := (if_neg q).symm.trans h
    refine z_aload_n dX5_tellHill_39 rfl 0 rfl ?_
    refine z_iconst (v := 3) dX5_tellHill_40 (by decide) ?_
    obtain ⟨v, τ, hc, h⟩ := bnd_e h
    refine z_callV (M' := m_X5_take) (t := 0) (i := 0) (k := 12) (As := [.int (3)]) (rest := []) kl_5_103 oy_X5_take ⟨Nat.le_of_ble_eq_true rfl, Nat.le_of_ble_eq_true rfl⟩ rfl rfl rfl rfl (Nat.le_of_ble_eq_true rfl) rfl dX5_tellHill_41 (c_X5_take hc) (fun v2 τ2 hq => ?_)
    obtain ⟨rfl, hτ⟩ := hq
    subst τ2
    change Z _ _ _ _ _ [.int (v)] _
    exact zb_X5_tellHill_44 h
def F_X5_tellHill_28 (x1 : Int32) (s0 : Int32) (σ : Mm) : Option (Mm) := (if s0 = 0 then some (σ) else (bnd (F_X5_take 3 σ) (fun v τ => (F_X5_tellHill_36 x1 v τ))))
set_option maxRecDepth 20000 in
theorem zb_X5_tellHill_28 {S : Shp} {x1 : Int32} {s0 : Int32} {σ : Mm} {r : Mm} (h : F_X5_tellHill_28 x1 s0 σ = some r) : Z m_X5_tellHill S (Qv r) 28 [(0, .ref (sL S 0 0 12)), (1, .int (x1))] [.int (s0)] σ := by
  unfold F_X5_tellHill_28 at h
  refine z_if_eq (tgt := 173) dX5_tellHill_28 (by decide) (fun q => ?_) (fun q => ?_)
  · have h := (if_pos q).symm.trans h
    cases h
    exact z_return dX5_tellHill_173 rfl ⟨rfl, rfl⟩
  · have h := (if_neg q).symm.trans h
    refine z_aload_n dX5_tellHill_31 rfl 0 rfl ?_
    refine z_iconst (v := 3) dX5_tellHill_32 (by decide) ?_
    obtain ⟨v, τ, hc, h⟩ := bnd_e h
    refine z_callV (M' := m_X5_take) (t := 0) (i := 0) (k := 12) (As := [.int (3)]) (rest := []) kl_5_103 oy_X5_take ⟨Nat.le_of_ble_eq_true rfl, Nat.le_of_ble_eq_true rfl⟩ rfl rfl rfl rfl (Nat.le_of_ble_eq_true rfl) rfl dX5_tellHill_33 (c_X5_take hc) (fun v2 τ2 hq => ?_)
    obtain ⟨rfl, hτ⟩ := hq
    subst τ2
    change Z _ _ _ _ _ [.int (v)] _
    exact zb_X5_tellHill_36 h
def F_X5_tellHill_18 (x1 : Int32) (s0 : Int32) (σ : Mm) : Option (Mm) := (if s0 = 0 then some (σ) else (bnd (F_X5_take 19 σ) (fun v τ => (F_X5_tellHill_28 x1 v τ))))
set_option maxRecDepth 20000 in
theorem zb_X5_tellHill_18 {S : Shp} {x1 : Int32} {s0 : Int32} {σ : Mm} {r : Mm} (h : F_X5_tellHill_18 x1 s0 σ = some r) : Z m_X5_tellHill S (Qv r) 18 [(0, .ref (sL S 0 0 12)), (1, .int (x1))] [.int (s0)] σ := by
  unfold F_X5_tellHill_18 at h
  refine z_if_ne (tgt := 22) dX5_tellHill_18 (by decide) (fun q => ?_) (fun q => ?_)
  · have h := (if_neg q).symm.trans h
    refine z_aload_n dX5_tellHill_22 rfl 0 rfl ?_
    refine z_bipush (v := 19) dX5_tellHill_23 (by decide) ?_
    obtain ⟨v, τ, hc, h⟩ := bnd_e h
    refine z_callV (M' := m_X5_take) (t := 0) (i := 0) (k := 12) (As := [.int (19)]) (rest := []) kl_5_103 oy_X5_take ⟨Nat.le_of_ble_eq_true rfl, Nat.le_of_ble_eq_true rfl⟩ rfl rfl rfl rfl (Nat.le_of_ble_eq_true rfl) rfl dX5_tellHill_25 (c_X5_take hc) (fun v2 τ2 hq => ?_)
    obtain ⟨rfl, hτ⟩ := hq
    subst τ2
    change Z _ _ _ _ _ [.int (v)] _
    exact zb_X5_tellHill_28 h
  · have h := (if_pos q).symm.trans h
    cases h
    exact z_return dX5_tellHill_21 rfl ⟨rfl, rfl⟩
def F_X5_tellHill (σ : Mm) : Option (Mm) := (if okP σ = true then (bnd (F_X5_hasRoom (mA σ 1 (mP σ 2) 0 8) 12 σ) (fun v τ => (F_X5_tellHill_18 (mA σ 0 0 12 4) v τ))) else none)
set_option maxRecDepth 20000 in
theorem zb_X5_tellHill {S : Shp} {σ : Mm} {r : Mm} (h : F_X5_tellHill σ = some r) : Z m_X5_tellHill S (Qv r) 0 [(0, .ref (sL S 0 0 12))] [] σ := by
  unfold F_X5_tellHill at h
  obtain ⟨g1, h⟩ := gd h
  refine z_aload_n dX5_tellHill_0 rfl 0 rfl ?_
  refine gf_5_18 rfl dX5_tellHill_1 ?_
  refine z_istore_n (lv' := [(0, .ref (sL S 0 0 12)), (1, .int (mA σ 0 0 12 4))]) dX5_tellHill_4 rfl (by decide) [1, 0] rfl ?_
  refine z_aload_n dX5_tellHill_5 rfl 0 rfl ?_
  refine z_aload_n dX5_tellHill_6 rfl 0 rfl ?_
  have hp := g1
  refine gf_5_38 rfl dX5_tellHill_7 ?_
  refine gf_5_134 (lv1 (okP_2 hp) rfl) rfl dX5_tellHill_10 ?_
  refine z_bipush (v := 12) dX5_tellHill_13 (by decide) ?_
  obtain ⟨v, τ, hc, h⟩ := bnd_e h
  refine z_callV (M' := m_X5_hasRoom) (t := 0) (i := 0) (k := 12) (As := [.int (mA σ 1 (mP σ 2) 0 8), .int (12)]) (rest := []) kl_5_99 oy_X5_hasRoom ⟨Nat.le_of_ble_eq_true rfl, Nat.le_of_ble_eq_true rfl⟩ rfl rfl rfl rfl (Nat.le_of_ble_eq_true rfl) rfl dX5_tellHill_15 (c_X5_hasRoom hc) (fun v2 τ2 hq => ?_)
  obtain ⟨rfl, hτ⟩ := hq
  subst τ2
  change Z _ _ _ _ _ [.int (v)] _
  exact zb_X5_tellHill_18 h
/-- SkyStones$Reader.tellHill()V -/
theorem c_X5_tellHill {S : Shp} {σ : Mm} {r : Mm} (h : F_X5_tellHill σ = some r) : Ct m_X5_tellHill S [.ref (sL S 0 0 12)] σ (Qv r) := Ct.of (by decide +kernel) (Nat.le_of_ble_eq_true rfl) (zb_X5_tellHill h)
