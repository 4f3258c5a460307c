def F_X12_skyAt_60 (x4 : Int32) (σ : Mm) : Option (Int32 × Mm) := (if 0 ≤ x4 then some (x4, σ) else some (x4 + (360 : Int32), σ))
set_option maxRecDepth 20000 in
theorem zb_X12_skyAt_60 {S : Shp} {x4 : Int32} {σ : Mm} {r : Int32 × Mm} (h : F_X12_skyAt_60 x4 σ = some r) : Z m_X12_skyAt S (Qi r) 60 [(4, .int (x4))] [] σ := by
  unfold F_X12_skyAt_60 at h
  refine z_iload dX12_skyAt_60 0 rfl ?_
  refine z_if_ge (tgt := 74) dX12_skyAt_62 (by decide) (fun q => ?_) (fun q => ?_)
  · have h := (if_pos q).symm.trans h
    refine z_iload dX12_skyAt_74 0 rfl ?_
    cases h
    exact z_ireturn dX12_skyAt_76 rfl rfl ⟨rfl, rfl⟩
  · have h := (if_neg q).symm.trans h
    refine z_iload dX12_skyAt_65 0 rfl ?_
    refine z_sipush (v := 360) dX12_skyAt_67 (by decide) ?_
    refine z_iadd dX12_skyAt_70 ?_
    refine z_goto (tgt := 76) dX12_skyAt_71 (by decide) ?_
    cases h
    exact z_ireturn dX12_skyAt_76 rfl rfl ⟨rfl, rfl⟩
def F_X12_skyAt_54 (s0 : Int32) (σ : Mm) : Option (Int32 × Mm) := (F_X12_skyAt_60 (s0 - s0 / (360 : Int32) * (360 : Int32)) σ)
set_option maxRecDepth 20000 in
theorem zb_X12_skyAt_54 {S : Shp} {s0 : Int32} {σ : Mm} {r : Int32 × Mm} (h : F_X12_skyAt_54 s0 σ = some r) : Z m_X12_skyAt S (Qi r) 54 [] [.int (s0)] σ := by
  unfold F_X12_skyAt_54 at h
  refine z_sipush (v := 360) dX12_skyAt_54 (by decide) ?_
  refine z_irem dX12_skyAt_57 (by decide) ?_
  refine z_istore (lv' := [(4, .int (s0 - s0 / (360 : Int32) * (360 : Int32)))]) dX12_skyAt_58 (by decide) [0] rfl ?_
  exact zb_X12_skyAt_60 h
def F_X12_skyAt_38 (x1 : Int32) (σ : Mm) : Option (Int32 × Mm) := (if inb x1 25 = true then (if inb x1 25 = true then (bnd (F_X12_sum (mA σ 3 0 23 x1.toNatClampNeg) (mA σ 3 0 24 x1.toNatClampNeg) σ) (fun v τ => (F_X12_skyAt_54 v τ))) else none) else none)
set_option maxRecDepth 20000 in
theorem zb_X12_skyAt_38 {S : Shp} {x1 : Int32} {σ : Mm} {r : Int32 × Mm} (h : F_X12_skyAt_38 x1 σ = some r) : Z m_X12_skyAt S (Qi r) 38 [(0, .ref (sL S 3 0 0)), (1, .int (x1))] [] σ := by
  unfold F_X12_skyAt_38 at h
  obtain ⟨g4, h⟩ := gd h
  refine z_aload_n dX12_skyAt_38 rfl 0 rfl ?_
  refine z_aload_n dX12_skyAt_39 rfl 0 rfl ?_
  refine gf_12_82 rfl dX12_skyAt_40 ?_
  refine z_iload_n dX12_skyAt_43 rfl 1 rfl ?_
  obtain ⟨g5, h⟩ := gd h
  refine ia_3_23 (inb_in g4) dX12_skyAt_44 ?_
  refine z_aload_n dX12_skyAt_45 rfl 0 rfl ?_
  refine gf_12_85 rfl dX12_skyAt_46 ?_
  refine z_iload_n dX12_skyAt_49 rfl 1 rfl ?_
  refine ia_3_24 (inb_in g5) dX12_skyAt_50 ?_
  obtain ⟨v, τ, hc, h⟩ := bnd_e h
  refine z_callV (M' := m_X12_sum) (t := 3) (i := 0) (k := 0) (As := [.int (mA σ 3 0 23 x1.toNatClampNeg), .int (mA σ 3 0 24 x1.toNatClampNeg)]) (rest := []) kl_12_451 oy_X12_sum ⟨Nat.le_of_ble_eq_true rfl, Nat.le_of_ble_eq_true rfl⟩ rfl rfl rfl rfl (Nat.le_of_ble_eq_true rfl) rfl dX12_skyAt_51 (c_X12_sum hc) (fun v2 τ2 hq => ?_)
  obtain ⟨rfl, hτ⟩ := hq
  subst τ2
  change Z _ _ _ _ _ [.int (v)] _
  refine Z.lv [] rfl ?_
  exact zb_X12_skyAt_54 h
def F_X12_skyAt_31 (x1 : Int32) (x3 : Int32) (σ : Mm) : Option (Int32 × Mm) := (if inb 1 9 = true then (F_X12_skyAt_38 x1 (setA σ 3 0 56 (upd (mA σ 3 0 56) (1 : Int32).toNatClampNeg x3))) else none)
set_option maxRecDepth 20000 in
theorem zb_X12_skyAt_31 {S : Shp} {x1 : Int32} {x3 : Int32} {σ : Mm} {r : Int32 × Mm} (h : F_X12_skyAt_31 x1 x3 σ = some r) : Z m_X12_skyAt S (Qi r) 31 [(0, .ref (sL S 3 0 0)), (1, .int (x1)), (3, .int (x3))] [] σ := by
  unfold F_X12_skyAt_31 at h
  obtain ⟨g3, h⟩ := gd h
  refine z_aload_n dX12_skyAt_31 rfl 0 rfl ?_
  refine gf_12_181 rfl dX12_skyAt_32 ?_
  refine z_iconst (v := 1) dX12_skyAt_35 (by decide) ?_
  refine z_iload_n dX12_skyAt_36 rfl 2 rfl ?_
  refine is_3_56 (inb_in g3) dX12_skyAt_37 ?_
  refine Z.lv [0, 1] rfl ?_
  exact zb_X12_skyAt_38 h
def F_X12_skyAt_18 (rc3 : Int32 → Int32 → Int32 → Int32 → Mm → Option (Int32 × Mm)) (x1 : Int32) (x2 : Int32) (x3 : Int32) (x4 : Int32) (σ : Mm) : Option (Int32 × Mm) := (rc3 x1 x2 x3 (x4 + 1) σ)
set_option maxRecDepth 20000 in
theorem zb_X12_skyAt_18 {S : Shp} {rc3 : Int32 → Int32 → Int32 → Int32 → Mm → Option (Int32 × Mm)} (hrc3 : ∀ {x1 : Int32} {x2 : Int32} {x3 : Int32} {x4 : Int32} {σ : Mm} {r : Int32 × Mm}, rc3 x1 x2 x3 x4 σ = some r → Z m_X12_skyAt S (Qi r) 3 [(0, .ref (sL S 3 0 0)), (1, .int (x1)), (2, .int (x2)), (3, .int (x3)), (4, .int (x4))] [] σ) {x1 : Int32} {x2 : Int32} {x3 : Int32} {x4 : Int32} {σ : Mm} {r : Int32 × Mm} (h : F_X12_skyAt_18 rc3 x1 x2 x3 x4 σ = some r) : Z m_X12_skyAt S (Qi r) 18 [(0, .ref (sL S 3 0 0)), (1, .int (x1)), (2, .int (x2)), (3, .int (x3)), (4, .int (x4))] [] σ := by
  unfold F_X12_skyAt_18 at h
  refine z_iinc (j := 4) (v := x4 + 1) (lv' := [(0, .ref (sL S 3 0 0)), (1, .int (x1)), (2, .int (x2)), (3, .int (x3)), (4, .int (x4 + 1))]) dX12_skyAt_18 rfl rfl (by decide) [1, 2, 3, 4, 0] rfl ?_
  refine z_goto (tgt := 3) dX12_skyAt_21 (by decide) ?_
  exact hrc3 h
def B_X12_skyAt_3 (rc3 : Int32 → Int32 → Int32 → Int32 → Mm → Option (Int32 × Mm)) (x1 : Int32) (x2 : Int32) (x3 : Int32) (x4 : Int32) (σ : Mm) : Option (Int32 × Mm) := (if (9 : Int32) ≤ x4 then (if inb 0 9 = true then (F_X12_skyAt_31 x1 x3 (setA σ 3 0 56 (upd (mA σ 3 0 56) (0 : Int32).toNatClampNeg x2))) else none) else (if inb x4 9 = true then (F_X12_skyAt_18 rc3 x1 x2 x3 x4 (setA σ 3 0 56 (upd (mA σ 3 0 56) x4.toNatClampNeg 0))) else none))
set_option maxRecDepth 20000 in
theorem zB_X12_skyAt_3 {S : Shp} {rc3 : Int32 → Int32 → Int32 → Int32 → Mm → Option (Int32 × Mm)} (hrc3 : ∀ {x1 : Int32} {x2 : Int32} {x3 : Int32} {x4 : Int32} {σ : Mm} {r : Int32 × Mm}, rc3 x1 x2 x3 x4 σ = some r → Z m_X12_skyAt S (Qi r) 3 [(0, .ref (sL S 3 0 0)), (1, .int (x1)), (2, .int (x2)), (3, .int (x3)), (4, .int (x4))] [] σ) {x1 : Int32} {x2 : Int32} {x3 : Int32} {x4 : Int32} {σ : Mm} {r : Int32 × Mm} (h : B_X12_skyAt_3 rc3 x1 x2 x3 x4 σ = some r) : Z m_X12_skyAt S (Qi r) 3 [(0, .ref (sL S 3 0 0)), (1, .int (x1)), (2, .int (x2)), (3, .int (x3)), (4, .int (x4))] [] σ := by
  unfold B_X12_skyAt_3 at h
  refine z_iload dX12_skyAt_3 4 rfl ?_
  refine z_bipush (v := 9) dX12_skyAt_5 (by decide) ?_
  refine z_icmp_ge (tgt := 24) dX12_skyAt_7 (by decide) (fun q => ?_) (fun q => ?_)
  · have h := (if_pos q).symm.trans h
    obtain ⟨g1, h⟩ := gd h
    refine z_aload_n dX12_skyAt_24 rfl 0 rfl ?_
    refine gf_12_181 rfl dX12_skyAt_25 ?_
    refine z_iconst (v := 0) dX12_skyAt_28 (by decide) ?_
    refine z_iload_n dX12_skyAt_29 rfl 2 rfl ?_
    refine is_3_56 (inb_in g1) dX12_skyAt_30 ?_
    refine Z.lv [0, 1, 3] rfl ?_
    exact zb_X12_skyAt_31 h
  · have h := (if_neg q).symm.trans h
    obtain ⟨g2, h⟩ := gd h
    refine z_aload_n dX12_skyAt_10 rfl 0 rfl ?_
    refine gf_12_181 rfl dX12_skyAt_11 ?_
    refine z_iload dX12_skyAt_14 4 rfl ?_
    refine z_iconst (v := 0) dX12_skyAt_16 (by decide) ?_
    refine is_3_56 (inb_in g2) dX12_skyAt_17 ?_
    exact zb_X12_skyAt_18 hrc3 h
def F_X12_skyAt_3 : Nat → Int32 → Int32 → Int32 → Int32 → Mm → Option (Int32 × Mm)
  | 0 => fun _ _ _ _ _ => none
  | n + 1 => B_X12_skyAt_3 (F_X12_skyAt_3 n)
theorem zl_X12_skyAt_3 {S : Shp} : ∀ (nn : Nat) {x1 : Int32} {x2 : Int32} {x3 : Int32} {x4 : Int32} {σ : Mm} {r : Int32 × Mm}, F_X12_skyAt_3 nn x1 x2 x3 x4 σ = some r → Z m_X12_skyAt S (Qi r) 3 [(0, .ref (sL S 3 0 0)), (1, .int (x1)), (2, .int (x2)), (3, .int (x3)), (4, .int (x4))] [] σ := by
  intro nn
  induction nn with
  | zero => intro x1 x2 x3 x4 σ r h; cases h
  | succ nn ih => intro x1 x2 x3 x4 σ r h; exact zB_X12_skyAt_3 @ih h
def F_X12_skyAt (x1 : Int32) (x2 : Int32) (x3 : Int32) (σ : Mm) : Option (Int32 × Mm) := (F_X12_skyAt_3 FU x1 x2 x3 0 σ)
set_option maxRecDepth 20000 in
theorem zb_X12_skyAt {S : Shp} {x1 : Int32} {x2 : Int32} {x3 : Int32} {σ : Mm} {r : Int32 × Mm} (h : F_X12_skyAt x1 x2 x3 σ = some r) : Z m_X12_skyAt S (Qi r) 0 [(0, .ref (sL S 3 0 0)), (1, .int (x1)), (2, .int (x2)), (3, .int (x3))] [] σ := by
  unfold F_X12_skyAt at h
  refine z_iconst (v := 0) dX12_skyAt_0 (by decide) ?_
  refine z_istore (lv' := [(0, .ref (sL S 3 0 0)), (1, .int (x1)), (2, .int (x2)), (3, .int (x3)), (4, .int (0))]) dX12_skyAt_1 (by decide) [1, 2, 3, 4, 0] rfl ?_
  exact zl_X12_skyAt_3 FU h
/-- SkyStonesModel.skyAt(III)I -/
theorem c_X12_skyAt {S : Shp} {x1 : Int32} {x2 : Int32} {x3 : Int32} {σ : Mm} {r : Int32 × Mm} (h : F_X12_skyAt x1 x2 x3 σ = some r) : Ct m_X12_skyAt S [.ref (sL S 3 0 0), .int (x1), .int (x2), .int (x3)] σ (Qi r) := Ct.of (by decide +kernel) (Nat.le_of_ble_eq_true rfl) (zb_X12_skyAt h)
def F_X12_riseOf_19 (s0 : Int32) (σ : Mm) : Option (Int32 × Mm) := some (s0, σ)
set_option maxRecDepth 20000 in
theorem zb_X12_riseOf_19 {S : Shp} {s0 : Int32} {σ : Mm} {r : Int32 × Mm} (h : F_X12_riseOf_19 s0 σ = some r) : Z m_X12_riseOf S (Qi r) 19 [] [.int (s0)] σ := by
  unfold F_X12_riseOf_19 at h
  cases h
  exact z_ireturn dX12_riseOf_19 rfl rfl ⟨rfl, rfl⟩
def F_X12_riseOf_16 (s0 : Int32) (s1 : Int32) (s2 : Int32) (σ : Mm) : Option (Int32 × Mm) := (bnd (F_X12_skyAt s2 s1 s0 σ) (fun v τ => (F_X12_riseOf_19 v τ)))
set_option maxRecDepth 20000 in
theorem zb_X12_riseOf_16 {S : Shp} {s0 : Int32} {s1 : Int32} {s2 : Int32} {σ : Mm} {r : Int32 × Mm} (h : F_X12_riseOf_16 s0 s1 s2 σ = some r) : Z m_X12_riseOf S (Qi r) 16 [] [.int (s0), .int (s1), .int (s2), .ref (sL S 3 0 0)] σ := by
  unfold F_X12_riseOf_16 at h
  obtain ⟨v, τ, hc, h⟩ := bnd_e h
  refine z_callV (M' := m_X12_skyAt) (t := 3) (i := 0) (k := 0) (As := [.int (s2), .int (s1), .int (s0)]) (rest := []) kl_12_469 oy_X12_skyAt ⟨Nat.le_of_ble_eq_true rfl, Nat.le_of_ble_eq_true rfl⟩ rfl rfl rfl rfl (Nat.le_of_ble_eq_true rfl) rfl dX12_riseOf_16 (c_X12_skyAt hc) (fun v2 τ2 hq => ?_)
  obtain ⟨rfl, hτ⟩ := hq
  subst τ2
  change Z _ _ _ _ _ [.int (v)] _
  exact zb_X12_riseOf_19 h
def F_X12_riseOf_7 (x1 : Int32) (x2 : Int32) (s0 : Int32) (σ : Mm) : Option (Int32 × Mm) := (bnd (F_X12_heightOf s0 σ) (fun v τ => (F_X12_riseOf_16 v x2 x1 τ)))
set_option maxRecDepth 20000 in
theorem zb_X12_riseOf_7 {S : Shp} {x1 : Int32} {x2 : Int32} {s0 : Int32} {σ : Mm} {r : Int32 × Mm} (h : F_X12_riseOf_7 x1 x2 s0 σ = some r) : Z m_X12_riseOf S (Qi r) 7 [(0, .ref (sL S 3 0 0)), (1, .int (x1)), (2, .int (x2))] [.int (s0)] σ := by
  unfold F_X12_riseOf_7 at h
  refine z_istore_n (lv' := [(0, .ref (sL S 3 0 0)), (1, .int (x1)), (2, .int (x2)), (3, .int (s0))]) dX12_riseOf_7 rfl (by decide) [1, 2, 3, 0] rfl ?_
  refine z_aload_n dX12_riseOf_8 rfl 0 rfl ?_
  refine z_iload_n dX12_riseOf_9 rfl 1 rfl ?_
  refine z_iload_n dX12_riseOf_10 rfl 2 rfl ?_
  refine z_aload_n dX12_riseOf_11 rfl 0 rfl ?_
  refine z_iload_n dX12_riseOf_12 rfl 3 rfl ?_
  obtain ⟨v, τ, hc, h⟩ := bnd_e h
  refine z_callV (M' := m_X12_heightOf) (t := 3) (i := 0) (k := 0) (As := [.int (s0)]) (rest := [.int (x2), .int (x1), .ref (sL S 3 0 0)]) kl_12_466 oy_X12_heightOf ⟨Nat.le_of_ble_eq_true rfl, Nat.le_of_ble_eq_true rfl⟩ rfl rfl rfl rfl (Nat.le_of_ble_eq_true rfl) rfl dX12_riseOf_13 (c_X12_heightOf hc) (fun v2 τ2 hq => ?_)
  obtain ⟨rfl, hτ⟩ := hq
  subst τ2
  change Z _ _ _ _ _ [.int (v), .int (x2), .int (x1), .ref (sL S 3 0 0)] _
  refine Z.lv [] rfl ?_
  exact zb_X12_riseOf_16 h
def F_X12_riseOf (x1 : Int32) (x2 : Int32) (σ : Mm) : Option (Int32 × Mm) := (bnd (F_X12_skyAt x1 x2 0 σ) (fun v τ => (F_X12_riseOf_7 x1 x2 v τ)))
set_option maxRecDepth 20000 in
theorem zb_X12_riseOf {S : Shp} {x1 : Int32} {x2 : Int32} {σ : Mm} {r : Int32 × Mm} (h : F_X12_riseOf x1 x2 σ = some r) : Z m_X12_riseOf S (Qi r) 0 [(0, .ref (sL S 3 0 0)), (1, .int (x1)), (2, .int (x2))] [] σ := by
  unfold F_X12_riseOf at h
  refine z_aload_n dX12_riseOf_0 rfl 0 rfl ?_
  refine z_iload_n dX12_riseOf_1 rfl 1 rfl ?_
  refine z_iload_n dX12_riseOf_2 rfl 2 rfl ?_
  refine z_iconst (v := 0) dX12_riseOf_3 (by decide) ?_
  obtain ⟨v, τ, hc, h⟩ := bnd_e h
  refine z_callV (M' := m_X12_skyAt) (t := 3) (i := 0) (k := 0) (As := [.int (x1), .int (x2), .int (0)]) (rest := []) kl_12_469 oy_X12_skyAt ⟨Nat.le_of_ble_eq_true rfl, Nat.le_of_ble_eq_true rfl⟩ rfl rfl rfl rfl (Nat.le_of_ble_eq_true rfl) rfl dX12_riseOf_4 (c_X12_skyAt hc) (fun v2 τ2 hq => ?_)
  obtain ⟨rfl, hτ⟩ := hq
  subst τ2
  change Z _ _ _ _ _ [.int (v)] _
  exact zb_X12_riseOf_7 h
/-- SkyStonesModel.riseOf(II)I -/
theorem c_X12_riseOf {S : Shp} {x1 : Int32} {x2 : Int32} {σ : Mm} {r : Int32 × Mm} (h : F_X12_riseOf x1 x2 σ = some r) : Ct m_X12_riseOf S [.ref (sL S 3 0 0), .int (x1), .int (x2)] σ (Qi r) := Ct.of (by decide +kernel) (Nat.le_of_ble_eq_true rfl) (zb_X12_riseOf h)
def F_X12_laySky_24 (rc2 : Int32 → Int32 → Mm → Option (Mm)) (x1 : Int32) (x2 : Int32) (σ : Mm) : Option (Mm) := (rc2 x1 (x2 + 1) σ)
set_option maxRecDepth 20000 in
theorem zb_X12_laySky_24 {S : Shp} {rc2 : Int32 → Int32 → Mm → Option (Mm)} (hrc2 : ∀ {x1 : Int32} {x2 : Int32} {σ : Mm} {r : Mm}, rc2 x1 x2 σ = some r → Z m_X12_laySky S (Qv r) 2 [(0, .ref (sL S 3 0 0)), (1, .int (x1)), (2, .int (x2))] [] σ) {x1 : Int32} {x2 : Int32} {σ : Mm} {r : Mm} (h : F_X12_laySky_24 rc2 x1 x2 σ = some r) : Z m_X12_laySky S (Qv r) 24 [(0, .ref (sL S 3 0 0)), (1, .int (x1)), (2, .int (x2))] [] σ := by
  unfold F_X12_laySky_24 at h
  refine z_iinc (j := 2) (v := x2 + 1) (lv' := [(0, .ref (sL S 3 0 0)), (1, .int (x1)), (2, .int (x2 + 1))]) dX12_laySky_24 rfl rfl (by decide) [1, 2, 0] rfl ?_
  refine z_goto (tgt := 2) dX12_laySky_27 (by decide) ?_
  exact hrc2 h
def F_X12_laySky_23 (rc2 : Int32 → Int32 → Mm → Option (Mm)) (x1 : Int32) (x2 : Int32) (s0 : Int32) (s1 : Int32) (σ : Mm) : Option (Mm) := (if inb s1 5 = true then (F_X12_laySky_24 rc2 x1 x2 (setA σ 3 0 58 (upd (mA σ 3 0 58) s1.toNatClampNeg s0))) else none)
set_option maxRecDepth 20000 in
theorem zb_X12_laySky_23 {S : Shp} {rc2 : Int32 → Int32 → Mm → Option (Mm)} (hrc2 : ∀ {x1 : Int32} {x2 : Int32} {σ : Mm} {r : Mm}, rc2 x1 x2 σ = some r → Z m_X12_laySky S (Qv r) 2 [(0, .ref (sL S 3 0 0)), (1, .int (x1)), (2, .int (x2))] [] σ) {x1 : Int32} {x2 : Int32} {s0 : Int32} {s1 : Int32} {σ : Mm} {r : Mm} (h : F_X12_laySky_23 rc2 x1 x2 s0 s1 σ = some r) : Z m_X12_laySky S (Qv r) 23 [(0, .ref (sL S 3 0 0)), (1, .int (x1)), (2, .int (x2))] [.int (s0), .int (s1), .ref (sL S 3 0 58)] σ := by
  unfold F_X12_laySky_23 at h
  obtain ⟨g2, h⟩ := gd h
  refine is_3_58 (inb_in g2) dX12_laySky_23 ?_
  exact zb_X12_laySky_24 hrc2 h
def B_X12_laySky_2 (rc2 : Int32 → Int32 → Mm → Option (Mm)) (x1 : Int32) (x2 : Int32) (σ : Mm) : Option (Mm) := (if inb 0 5 = true then (if (mA σ 3 0 21 (0 : Int32).toNatClampNeg) ≤ x2 then some (σ) else (bnd (F_X12_riseOf x2 x1 σ) (fun v τ => (F_X12_laySky_23 rc2 x1 x2 v x2 τ)))) else none)
set_option maxRecDepth 20000 in
theorem zB_X12_laySky_2 {S : Shp} {rc2 : Int32 → Int32 → Mm → Option (Mm)} (hrc2 : ∀ {x1 : Int32} {x2 : Int32} {σ : Mm} {r : Mm}, rc2 x1 x2 σ = some r → Z m_X12_laySky S (Qv r) 2 [(0, .ref (sL S 3 0 0)), (1, .int (x1)), (2, .int (x2))] [] σ) {x1 : Int32} {x2 : Int32} {σ : Mm} {r : Mm} (h : B_X12_laySky_2 rc2 x1 x2 σ = some r) : Z m_X12_laySky S (Qv r) 2 [(0, .ref (sL S 3 0 0)), (1, .int (x1)), (2, .int (x2))] [] σ := by
  unfold B_X12_laySky_2 at h
  obtain ⟨g1, h⟩ := gd h
  refine z_iload_n dX12_laySky_2 rfl 2 rfl ?_
  refine z_aload_n dX12_laySky_3 rfl 0 rfl ?_
  refine gf_12_76 rfl dX12_laySky_4 ?_
  refine z_iconst (v := 0) dX12_laySky_7 (by decide) ?_
  refine ia_3_21 (inb_in g1) dX12_laySky_8 ?_
  refine z_icmp_ge (tgt := 30) dX12_laySky_9 (by decide) (fun q => ?_) (fun q => ?_)
  · have h := (if_pos q).symm.trans h
    cases h
    exact z_return dX12_laySky_30 rfl ⟨rfl, rfl⟩
  · have h := (if_neg q).symm.trans h
    refine z_aload_n dX12_laySky_12 rfl 0 rfl ?_
    refine gf_12_187 rfl dX12_laySky_13 ?_
    refine z_iload_n dX12_laySky_16 rfl 2 rfl ?_
    refine z_aload_n dX12_laySky_17 rfl 0 rfl ?_
    refine z_iload_n dX12_laySky_18 rfl 2 rfl ?_
    refine z_iload_n dX12_laySky_19 rfl 1 rfl ?_
    obtain ⟨v, τ, hc, h⟩ := bnd_e h
    refine z_callV (M' := m_X12_riseOf) (t := 3) (i := 0) (k := 0) (As := [.int (x2), .int (x1)]) (rest := [.int (x2), .ref (sL S 3 0 58)]) kl_12_475 oy_X12_riseOf ⟨Nat.le_of_ble_eq_true rfl, Nat.le_of_ble_eq_true rfl⟩ rfl rfl rfl rfl (Nat.le_of_ble_eq_true rfl) rfl dX12_laySky_20 (c_X12_riseOf hc) (fun v2 τ2 hq => ?_)
    obtain ⟨rfl, hτ⟩ := hq
    subst τ2
    change Z _ _ _ _ _ [.int (v), .int (x2), .ref (sL S 3 0 58)] _
    exact zb_X12_laySky_23 hrc2 h
def F_X12_laySky_2 : Nat → Int32 → Int32 → Mm → Option (Mm)
  | 0 => fun _ _ _ => none
  | n + 1 => B_X12_laySky_2 (F_X12_laySky_2 n)
theorem zl_X12_laySky_2 {S : Shp} : ∀ (nn : Nat) {x1 : Int32} {x2 : Int32} {σ : Mm} {r : Mm}, F_X12_laySky_2 nn x1 x2 σ = some r → Z m_X12_laySky S (Qv r) 2 [(0, .ref (sL S 3 0 0)), (1, .int (x1)), (2, .int (x2))] [] σ := by
  intro nn
  induction nn with
  | zero => intro x1 x2 σ r h; cases h
  | succ nn ih => intro x1 x2 σ r h; exact zB_X12_laySky_2 @ih h
def F_X12_laySky (x1 : Int32) (σ : Mm) : Option (Mm) := (F_X12_laySky_2 FU x1 0 σ)
set_option maxRecDepth 20000 in
theorem zb_X12_laySky {S : Shp} {x1 : Int32} {σ : Mm} {r : Mm} (h : F_X12_laySky x1 σ = some r) : Z m_X12_laySky S (Qv r) 0 [(0, .ref (sL S 3 0 0)), (1, .int (x1))] [] σ := by
  unfold F_X12_laySky at h
  refine z_iconst (v := 0) dX12_laySky_0 (by decide) ?_
  refine z_istore_n (lv' := [(0, .ref (sL S 3 0 0)), (1, .int (x1)), (2, .int (0))]) dX12_laySky_1 rfl (by decide) [1, 2, 0] rfl ?_
  exact zl_X12_laySky_2 FU h
/-- SkyStonesModel.laySky(I)V -/
theorem c_X12_laySky {S : Shp} {x1 : Int32} {σ : Mm} {r : Mm} (h : F_X12_laySky x1 σ = some r) : Ct m_X12_laySky S [.ref (sL S 3 0 0), .int (x1)] σ (Qv r) := Ct.of (by decide +kernel) (Nat.le_of_ble_eq_true rfl) (zb_X12_laySky h)
def F_X12_layAll_5 (x1 : Int32) (σ : Mm) : Option (Mm) := (bnv (F_X12_laySky x1 σ) (fun τ => some (τ)))
set_option maxRecDepth 20000 in
theorem zb_X12_layAll_5 {S : Shp} {x1 : Int32} {σ : Mm} {r : Mm} (h : F_X12_layAll_5 x1 σ = some r) : Z m_X12_layAll S (Qv r) 5 [(0, .ref (sL S 3 0 0)), (1, .int (x1))] [] σ := by
  unfold F_X12_layAll_5 at h
  refine z_aload_n dX12_layAll_5 rfl 0 rfl ?_
  refine z_iload_n dX12_layAll_6 rfl 1 rfl ?_
  obtain ⟨τ, hc, h⟩ := bnv_e h
  refine z_callV (M' := m_X12_laySky) (t := 3) (i := 0) (k := 0) (As := [.int (x1)]) (rest := []) kl_12_481 oy_X12_laySky ⟨Nat.le_of_ble_eq_true rfl, Nat.le_of_ble_eq_true rfl⟩ rfl rfl rfl rfl (Nat.le_of_ble_eq_true rfl) rfl dX12_layAll_7 (c_X12_laySky hc) (fun v2 τ2 hq => ?_)
  obtain ⟨rfl, hτ⟩ := hq
  subst τ2
  change Z _ _ _ _ _ [] _
  cases h
  exact z_return dX12_layAll_10 rfl ⟨rfl, rfl⟩
def F_X12_layAll (x1 : Int32) (x2 : Int32) (σ : Mm) : Option (Mm) := (bnv (F_X12_lay x2 σ) (fun τ => (F_X12_layAll_5 x1 τ)))
set_option maxRecDepth 20000 in
theorem zb_X12_layAll {S : Shp} {x1 : Int32} {x2 : Int32} {σ : Mm} {r : Mm} (h : F_X12_layAll x1 x2 σ = some r) : Z m_X12_layAll S (Qv r) 0 [(0, .ref (sL S 3 0 0)), (1, .int (x1)), (2, .int (x2))] [] σ := by
  unfold F_X12_layAll at h
  refine z_aload_n dX12_layAll_0 rfl 0 rfl ?_
  refine z_iload_n dX12_layAll_1 rfl 2 rfl ?_
  obtain ⟨τ, hc, h⟩ := bnv_e h
  refine z_callV (M' := m_X12_lay) (t := 3) (i := 0) (k := 0) (As := [.int (x2)]) (rest := []) kl_12_463 oy_X12_lay ⟨Nat.le_of_ble_eq_true rfl, Nat.le_of_ble_eq_true rfl⟩ rfl rfl rfl rfl (Nat.le_of_ble_eq_true rfl) rfl dX12_layAll_2 (c_X12_lay hc) (fun v2 τ2 hq => ?_)
  obtain ⟨rfl, hτ⟩ := hq
  subst τ2
  change Z _ _ _ _ _ [] _
  refine Z.lv [0, 1] rfl ?_
  exact zb_X12_layAll_5 h
/-- SkyStonesModel.layAll(II)V -/
theorem c_X12_layAll {S : Shp} {x1 : Int32} {x2 : Int32} {σ : Mm} {r : Mm} (h : F_X12_layAll x1 x2 σ = some r) : Ct m_X12_layAll S [.ref (sL S 3 0 0), .int (x1), .int (x2)] σ (Qv r) := Ct.of (by decide +kernel) (Nat.le_of_ble_eq_true rfl) (zb_X12_layAll h)
def F_X12_allHits_42 (rc24 : Int32 → Int32 → Int32 → Mm → Option (Int32 × Mm)) (x1 : Int32) (x5 : Int32) (s0 : Int32) (s1 : Int32) (σ : Mm) : Option (Int32 × Mm) := (rc24 x1 (s1 + s0) (x5 + 1) σ)
set_option maxRecDepth 20000 in
theorem zb_X12_allHits_42 {S : Shp} {rc24 : Int32 → Int32 → Int32 → Mm → Option (Int32 × Mm)} (hrc24 : ∀ {x1 : Int32} {x4 : Int32} {x5 : Int32} {σ : Mm} {r : Int32 × Mm}, rc24 x1 x4 x5 σ = some r → Z m_X12_allHits S (Qi r) 24 [(0, .ref (sL S 3 0 0)), (1, .int (x1)), (4, .int (x4)), (5, .int (x5))] [] σ) {x1 : Int32} {x5 : Int32} {s0 : Int32} {s1 : Int32} {σ : Mm} {r : Int32 × Mm} (h : F_X12_allHits_42 rc24 x1 x5 s0 s1 σ = some r) : Z m_X12_allHits S (Qi r) 42 [(0, .ref (sL S 3 0 0)), (1, .int (x1)), (5, .int (x5))] [.int (s0), .int (s1)] σ := by
  unfold F_X12_allHits_42 at h
  refine z_iadd dX12_allHits_42 ?_
  refine z_istore (lv' := [(0, .ref (sL S 3 0 0)), (1, .int (x1)), (4, .int (s1 + s0)), (5, .int (x5))]) dX12_allHits_43 (by decide) [1, 2, 0, 3] rfl ?_
  refine z_iinc (j := 3) (v := x5 + 1) (lv' := [(0, .ref (sL S 3 0 0)), (1, .int (x1)), (4, .int (s1 + s0)), (5, .int (x5 + 1))]) dX12_allHits_45 rfl rfl (by decide) [1, 2, 3, 0] rfl ?_
  refine z_goto (tgt := 24) dX12_allHits_48 (by decide) ?_
  exact hrc24 h
def B_X12_allHits_24 (rc24 : Int32 → Int32 → Int32 → Mm → Option (Int32 × Mm)) (x1 : Int32) (x4 : Int32) (x5 : Int32) (σ : Mm) : Option (Int32 × Mm) := (if (360 : Int32) ≤ x5 then some (x4, σ) else (bnd (F_X12_hitsOf x1 x5 0 σ) (fun v τ => (F_X12_allHits_42 rc24 x1 x5 v x4 τ))))
set_option maxRecDepth 20000 in
theorem zB_X12_allHits_24 {S : Shp} {rc24 : Int32 → Int32 → Int32 → Mm → Option (Int32 × Mm)} (hrc24 : ∀ {x1 : Int32} {x4 : Int32} {x5 : Int32} {σ : Mm} {r : Int32 × Mm}, rc24 x1 x4 x5 σ = some r → Z m_X12_allHits S (Qi r) 24 [(0, .ref (sL S 3 0 0)), (1, .int (x1)), (4, .int (x4)), (5, .int (x5))] [] σ) {x1 : Int32} {x4 : Int32} {x5 : Int32} {σ : Mm} {r : Int32 × Mm} (h : B_X12_allHits_24 rc24 x1 x4 x5 σ = some r) : Z m_X12_allHits S (Qi r) 24 [(0, .ref (sL S 3 0 0)), (1, .int (x1)), (4, .int (x4)), (5, .int (x5))] [] σ := by
  unfold B_X12_allHits_24 at h
  refine z_iload dX12_allHits_24 3 rfl ?_
  refine z_sipush (v := 360) dX12_allHits_26 (by decide) ?_
  refine z_icmp_ge (tgt := 51) dX12_allHits_29 (by decide) (fun q => ?_) (fun q => ?_)
  · have h := (if_pos q).symm.trans h
    refine z_iload dX12_allHits_51 2 rfl ?_
    cases h
    exact z_ireturn dX12_allHits_53 rfl rfl ⟨rfl, rfl⟩
  · have h := (if_neg q).symm.trans h
    refine z_iload dX12_allHits_32 2 rfl ?_
    refine z_aload_n dX12_allHits_34 rfl 0 rfl ?_
    refine z_iload_n dX12_allHits_35 rfl 1 rfl ?_
    refine z_iload dX12_allHits_36 3 rfl ?_
    refine z_iconst (v := 0) dX12_allHits_38 (by decide) ?_
    obtain ⟨v, τ, hc, h⟩ := bnd_e h
    refine z_callV (M' := m_X12_hitsOf) (t := 3) (i := 0) (k := 0) (As := [.int (x1), .int (x5), .int (0)]) (rest := [.int (x4)]) kl_12_497 oy_X12_hitsOf ⟨Nat.le_of_ble_eq_true rfl, Nat.le_of_ble_eq_true rfl⟩ rfl rfl rfl rfl (Nat.le_of_ble_eq_true rfl) rfl dX12_allHits_39 (c_X12_hitsOf hc) (fun v2 τ2 hq => ?_)
    obtain ⟨rfl, hτ⟩ := hq
    subst τ2
    change Z _ _ _ _ _ [.int (v), .int (x4)] _
    refine Z.lv [0, 1, 3] rfl ?_
    exact zb_X12_allHits_42 hrc24 h
def F_X12_allHits_24 : Nat → Int32 → Int32 → Int32 → Mm → Option (Int32 × Mm)
  | 0 => fun _ _ _ _ => none
  | n + 1 => B_X12_allHits_24 (F_X12_allHits_24 n)
theorem zl_X12_allHits_24 {S : Shp} : ∀ (nn : Nat) {x1 : Int32} {x4 : Int32} {x5 : Int32} {σ : Mm} {r : Int32 × Mm}, F_X12_allHits_24 nn x1 x4 x5 σ = some r → Z m_X12_allHits S (Qi r) 24 [(0, .ref (sL S 3 0 0)), (1, .int (x1)), (4, .int (x4)), (5, .int (x5))] [] σ := by
  intro nn
  induction nn with
  | zero => intro x1 x4 x5 σ r h; cases h
  | succ nn ih => intro x1 x4 x5 σ r h; exact zB_X12_allHits_24 @ih h
def F_X12_allHits_18 (x1 : Int32) (σ : Mm) : Option (Int32 × Mm) := (F_X12_allHits_24 FU x1 0 0 σ)
set_option maxRecDepth 20000 in
theorem zb_X12_allHits_18 {S : Shp} {x1 : Int32} {σ : Mm} {r : Int32 × Mm} (h : F_X12_allHits_18 x1 σ = some r) : Z m_X12_allHits S (Qi r) 18 [(0, .ref (sL S 3 0 0)), (1, .int (x1))] [] σ := by
  unfold F_X12_allHits_18 at h
  refine z_iconst (v := 0) dX12_allHits_18 (by decide) ?_
  refine z_istore (lv' := [(0, .ref (sL S 3 0 0)), (1, .int (x1)), (4, .int (0))]) dX12_allHits_19 (by decide) [1, 2, 0] rfl ?_
  refine z_iconst (v := 0) dX12_allHits_21 (by decide) ?_
  refine z_istore (lv' := [(0, .ref (sL S 3 0 0)), (1, .int (x1)), (4, .int (0)), (5, .int (0))]) dX12_allHits_22 (by decide) [1, 2, 3, 0] rfl ?_
  exact zl_X12_allHits_24 FU h
def F_X12_allHits_7 (x1 : Int32) (x2 : Int32) (x3 : Int32) (s0 : Int32) (σ : Mm) : Option (Int32 × Mm) := (if s0 = 0 then some ((-1), σ) else (bnv (F_X12_layAll x2 x3 σ) (fun τ => (F_X12_allHits_18 x1 τ))))
set_option maxRecDepth 20000 in
theorem zb_X12_allHits_7 {S : Shp} {x1 : Int32} {x2 : Int32} {x3 : Int32} {s0 : Int32} {σ : Mm} {r : Int32 × Mm} (h : F_X12_allHits_7 x1 x2 x3 s0 σ = some r) : Z m_X12_allHits S (Qi r) 7 [(0, .ref (sL S 3 0 0)), (1, .int (x1)), (2, .int (x2)), (3, .int (x3))] [.int (s0)] σ := by
  unfold F_X12_allHits_7 at h
  refine z_if_ne (tgt := 12) dX12_allHits_7 (by decide) (fun q => ?_) (fun q => ?_)
  · have h := (if_neg q).symm.trans h
    refine z_aload_n dX12_allHits_12 rfl 0 rfl ?_
    refine z_iload_n dX12_allHits_13 rfl 2 rfl ?_
    refine z_iload_n dX12_allHits_14 rfl 3 rfl ?_
    obtain ⟨τ, hc, h⟩ := bnv_e h
    refine z_callV (M' := m_X12_layAll) (t := 3) (i := 0) (k := 0) (As := [.int (x2), .int (x3)]) (rest := []) kl_12_494 oy_X12_layAll ⟨Nat.le_of_ble_eq_true rfl, Nat.le_of_ble_eq_true rfl⟩ rfl rfl rfl rfl (Nat.le_of_ble_eq_true rfl) rfl dX12_allHits_15 (c_X12_layAll hc) (fun v2 τ2 hq => ?_)
    obtain ⟨rfl, hτ⟩ := hq
    subst τ2
    change Z _ _ _ _ _ [] _
    refine Z.lv [0, 1] rfl ?_
    exact zb_X12_allHits_18 h
  · have h := (if_pos q).symm.trans h
    refine z_iconst (v := (-1)) dX12_allHits_10 (by decide) ?_
    cases h
    exact z_ireturn dX12_allHits_11 rfl rfl ⟨rfl, rfl⟩
def F_X12_allHits (x1 : Int32) (x2 : Int32) (x3 : Int32) (σ : Mm) : Option (Int32 × Mm) := (bnd (F_X12_isSet x1 x2 x3 σ) (fun v τ => (F_X12_allHits_7 x1 x2 x3 v τ)))
set_option maxRecDepth 20000 in
theorem zb_X12_allHits {S : Shp} {x1 : Int32} {x2 : Int32} {x3 : Int32} {σ : Mm} {r : Int32 × Mm} (h : F_X12_allHits x1 x2 x3 σ = some r) : Z m_X12_allHits S (Qi r) 0 [(0, .ref (sL S 3 0 0)), (1, .int (x1)), (2, .int (x2)), (3, .int (x3))] [] σ := by
  unfold F_X12_allHits at h
  refine z_aload_n dX12_allHits_0 rfl 0 rfl ?_
  refine z_iload_n dX12_allHits_1 rfl 1 rfl ?_
  refine z_iload_n dX12_allHits_2 rfl 2 rfl ?_
  refine z_iload_n dX12_allHits_3 rfl 3 rfl ?_
  obtain ⟨v, τ, hc, h⟩ := bnd_e h
  refine z_callV (M' := m_X12_isSet) (t := 3) (i := 0) (k := 0) (As := [.int (x1), .int (x2), .int (x3)]) (rest := []) kl_12_491 oy_X12_isSet ⟨Nat.le_of_ble_eq_true rfl, Nat.le_of_ble_eq_true rfl⟩ rfl rfl rfl rfl (Nat.le_of_ble_eq_true rfl) rfl dX12_allHits_4 (c_X12_isSet hc) (fun v2 τ2 hq => ?_)
  obtain ⟨rfl, hτ⟩ := hq
  subst τ2
  change Z _ _ _ _ _ [.int (v)] _
  exact zb_X12_allHits_7 h
/-- SkyStonesModel.allHits(III)I -/
theorem c_X12_allHits {S : Shp} {x1 : Int32} {x2 : Int32} {x3 : Int32} {σ : Mm} {r : Int32 × Mm} (h : F_X12_allHits x1 x2 x3 σ = some r) : Ct m_X12_allHits S [.ref (sL S 3 0 0), .int (x1), .int (x2), .int (x3)] σ (Qi r) := Ct.of (by decide +kernel) (Nat.le_of_ble_eq_true rfl) (zb_X12_allHits h)
def F_X12_alone_286 (rc155 : Int32 → Int32 → Mm → Option (Int32 × Mm)) (x4 : Int32) (x5 : Int32) (σ : Mm) : Option (Int32 × Mm) := (rc155 x4 (x5 + 1) σ)
set_option maxRecDepth 20000 in
theorem zb_X12_alone_286 {S : Shp} {rc155 : Int32 → Int32 → Mm → Option (Int32 × Mm)} (hrc155 : ∀ {x4 : Int32} {x5 : Int32} {σ : Mm} {r : Int32 × Mm}, rc155 x4 x5 σ = some r → Z m_X12_alone S (Qi r) 155 [(0, .ref (sL S 3 0 0)), (4, .int (x4)), (5, .int (x5))] [] σ) {x4 : Int32} {x5 : Int32} {σ : Mm} {r : Int32 × Mm} (h : F_X12_alone_286 rc155 x4 x5 σ = some r) : Z m_X12_alone S (Qi r) 286 [(0, .ref (sL S 3 0 0)), (4, .int (x4)), (5, .int (x5))] [] σ := by
  unfold F_X12_alone_286 at h
  refine z_iinc (j := 2) (v := x5 + 1) (lv' := [(0, .ref (sL S 3 0 0)), (4, .int (x4)), (5, .int (x5 + 1))]) dX12_alone_286 rfl rfl (by decide) [1, 2, 0] rfl ?_
  refine z_goto (tgt := 155) dX12_alone_289 (by decide) ?_
  exact hrc155 h
def F_X12_alone_271 (rc155 : Int32 → Int32 → Mm → Option (Int32 × Mm)) (rc207 : Int32 → Int32 → Int32 → Int32 → Int32 → Int32 → Mm → Option (Int32 × Mm)) (x4 : Int32) (x5 : Int32) (x6 : Int32) (x7 : Int32) (x8 : Int32) (x9 : Int32) (σ : Mm) : Option (Int32 × Mm) := (rc207 x4 x5 x6 x7 x8 (x9 + 1) σ)
set_option maxRecDepth 20000 in
theorem zb_X12_alone_271 {S : Shp} {rc155 : Int32 → Int32 → Mm → Option (Int32 × Mm)} (hrc155 : ∀ {x4 : Int32} {x5 : Int32} {σ : Mm} {r : Int32 × Mm}, rc155 x4 x5 σ = some r → Z m_X12_alone S (Qi r) 155 [(0, .ref (sL S 3 0 0)), (4, .int (x4)), (5, .int (x5))] [] σ) {rc207 : Int32 → Int32 → Int32 → Int32 → Int32 → Int32 → Mm → Option (Int32 × Mm)} (hrc207 : ∀ {x4 : Int32} {x5 : Int32} {x6 : Int32} {x7 : Int32} {x8 : Int32} {x9 : Int32} {σ : Mm} {r : Int32 × Mm}, rc207 x4 x5 x6 x7 x8 x9 σ = some r → Z m_X12_alone S (Qi r) 207 [(0, .ref (sL S 3 0 0)), (4, .int (x4)), (5, .int (x5)), (6, .int (x6)), (7, .int (x7)), (8, .int (x8)), (9, .int (x9))] [] σ) {x4 : Int32} {x5 : Int32} {x6 : Int32} {x7 : Int32} {x8 : Int32} {x9 : Int32} {σ : Mm} {r : Int32 × Mm} (h : F_X12_alone_271 rc155 rc207 x4 x5 x6 x7 x8 x9 σ = some r) : Z m_X12_alone S (Qi r) 271 [(0, .ref (sL S 3 0 0)), (4, .int (x4)), (5, .int (x5)), (6, .int (x6)), (7, .int (x7)), (8, .int (x8)), (9, .int (x9))] [] σ := by
  unfold F_X12_alone_271 at h
  refine z_iinc (j := 6) (v := x9 + 1) (lv' := [(0, .ref (sL S 3 0 0)), (4, .int (x4)), (5, .int (x5)), (6, .int (x6)), (7, .int (x7)), (8, .int (x8)), (9, .int (x9 + 1))]) dX12_alone_271 rfl rfl (by decide) [1, 2, 3, 4, 5, 6, 0] rfl ?_
  refine z_goto (tgt := 207) dX12_alone_274 (by decide) ?_
  exact hrc207 h
def F_X12_alone_260 (rc155 : Int32 → Int32 → Mm → Option (Int32 × Mm)) (rc207 : Int32 → Int32 → Int32 → Int32 → Int32 → Int32 → Mm → Option (Int32 × Mm)) (x4 : Int32) (x5 : Int32) (x6 : Int32) (x7 : Int32) (x8 : Int32) (x9 : Int32) (x10 : Int32) (σ : Mm) : Option (Int32 × Mm) := (if x10 ≤ x8 then (F_X12_alone_271 rc155 rc207 x4 x5 x6 x7 x8 x9 σ) else (F_X12_alone_271 rc155 rc207 x4 x5 x6 x7 x10 x9 σ))
set_option maxRecDepth 20000 in
theorem zb_X12_alone_260 {S : Shp} {rc155 : Int32 → Int32 → Mm → Option (Int32 × Mm)} (hrc155 : ∀ {x4 : Int32} {x5 : Int32} {σ : Mm} {r : Int32 × Mm}, rc155 x4 x5 σ = some r → Z m_X12_alone S (Qi r) 155 [(0, .ref (sL S 3 0 0)), (4, .int (x4)), (5, .int (x5))] [] σ) {rc207 : Int32 → Int32 → Int32 → Int32 → Int32 → Int32 → Mm → Option (Int32 × Mm)} (hrc207 : ∀ {x4 : Int32} {x5 : Int32} {x6 : Int32} {x7 : Int32} {x8 : Int32} {x9 : Int32} {σ : Mm} {r : Int32 × Mm}, rc207 x4 x5 x6 x7 x8 x9 σ = some r → Z m_X12_alone S (Qi r) 207 [(0, .ref (sL S 3 0 0)), (4, .int (x4)), (5, .int (x5)), (6, .int (x6)), (7, .int (x7)), (8, .int (x8)), (9, .int (x9))] [] σ) {x4 : Int32} {x5 : Int32} {x6 : Int32} {x7 : Int32} {x8 : Int32} {x9 : Int32} {x10 : Int32} {σ : Mm} {r : Int32 × Mm} (h : F_X12_alone_260 rc155 rc207 x4 x5 x6 x7 x8 x9 x10 σ = some r) : Z m_X12_alone S (Qi r) 260 [(0, .ref (sL S 3 0 0)), (4, .int (x4)), (5, .int (x5)), (6, .int (x6)), (7, .int (x7)), (8, .int (x8)), (9, .int (x9)), (10, .int (x10))] [] σ := by
  unfold F_X12_alone_260 at h
  refine z_iload dX12_alone_260 7 rfl ?_
  refine z_iload dX12_alone_262 5 rfl ?_
  refine z_icmp_le (tgt := 271) dX12_alone_264 (by decide) (fun q => ?_) (fun q => ?_)
  · have h := (if_pos q).symm.trans h
    refine Z.lv [0, 1, 2, 3, 4, 5, 6] rfl ?_
    exact zb_X12_alone_271 hrc155 hrc207 h
  · have h := (if_neg q).symm.trans h
    refine z_iload dX12_alone_267 7 rfl ?_
    refine z_istore (lv' := [(0, .ref (sL S 3 0 0)), (4, .int (x4)), (5, .int (x5)), (6, .int (x6)), (7, .int (x7)), (8, .int (x10)), (9, .int (x9)), (10, .int (x10))]) dX12_alone_269 (by decide) [1, 2, 3, 4, 5, 0, 6, 7] rfl ?_
    refine Z.lv [0, 1, 2, 3, 4, 5, 6] rfl ?_
    exact zb_X12_alone_271 hrc155 hrc207 h
def B_X12_alone_207 (rc155 : Int32 → Int32 → Mm → Option (Int32 × Mm)) (rc207 : Int32 → Int32 → Int32 → Int32 → Int32 → Int32 → Mm → Option (Int32 × Mm)) (x4 : Int32) (x5 : Int32) (x6 : Int32) (x7 : Int32) (x8 : Int32) (x9 : Int32) (σ : Mm) : Option (Int32 × Mm) := (if (14 : Int32) ≤ x9 then (if inb x5 16384 = true then (F_X12_alone_286 rc155 x4 x5 (setA σ 3 0 59 (upd (mA σ 3 0 59) x5.toNatClampNeg x8))) else none) else (if ((x7 >>> (x9 &&& 31)) &&& (1 : Int32)) = 0 then (F_X12_alone_271 rc155 rc207 x4 x5 x6 x7 x8 x9 σ) else (if inb x6 14 = true then (if (((mA σ 3 0 60 x6.toNatClampNeg) >>> (x9 &&& 31)) &&& (1 : Int32)) = 0 then (F_X12_alone_271 rc155 rc207 x4 x5 x6 x7 x8 x9 σ) else (if inb (x7 &&& (((1 : Int32) <<< (x9 &&& 31)) ^^^ (-1 : Int32))) 16384 = true then (F_X12_alone_260 rc155 rc207 x4 x5 x6 x7 x8 x9 ((mA σ 3 0 59 (x7 &&& (((1 : Int32) <<< (x9 &&& 31)) ^^^ (-1 : Int32))).toNatClampNeg) + (1 : Int32)) σ) else none)) else none)))
set_option maxRecDepth 20000 in
theorem zB_X12_alone_207 {S : Shp} {rc155 : Int32 → Int32 → Mm → Option (Int32 × Mm)} (hrc155 : ∀ {x4 : Int32} {x5 : Int32} {σ : Mm} {r : Int32 × Mm}, rc155 x4 x5 σ = some r → Z m_X12_alone S (Qi r) 155 [(0, .ref (sL S 3 0 0)), (4, .int (x4)), (5, .int (x5))] [] σ) {rc207 : Int32 → Int32 → Int32 → Int32 → Int32 → Int32 → Mm → Option (Int32 × Mm)} (hrc207 : ∀ {x4 : Int32} {x5 : Int32} {x6 : Int32} {x7 : Int32} {x8 : Int32} {x9 : Int32} {σ : Mm} {r : Int32 × Mm}, rc207 x4 x5 x6 x7 x8 x9 σ = some r → Z m_X12_alone S (Qi r) 207 [(0, .ref (sL S 3 0 0)), (4, .int (x4)), (5, .int (x5)), (6, .int (x6)), (7, .int (x7)), (8, .int (x8)), (9, .int (x9))] [] σ) {x4 : Int32} {x5 : Int32} {x6 : Int32} {x7 : Int32} {x8 : Int32} {x9 : Int32} {σ : Mm} {r : Int32 × Mm} (h : B_X12_alone_207 rc155 rc207 x4 x5 x6 x7 x8 x9 σ = some r) : Z m_X12_alone S (Qi r) 207 [(0, .ref (sL S 3 0 0)), (4, .int (x4)), (5, .int (x5)), (6, .int (x6)), (7, .int (x7)), (8, .int (x8)), (9, .int (x9))] [] σ := by
  unfold B_X12_alone_207 at h
  refine z_iload dX12_alone_207 6 rfl ?_
  refine z_bipush (v := 14) dX12_alone_209 (by decide) ?_
  refine z_icmp_ge (tgt := 277) dX12_alone_211 (by decide) (fun q => ?_) (fun q => ?_)
  · have h := (if_pos q).symm.trans h
    obtain ⟨g13, h⟩ := gd h
    refine z_aload_n dX12_alone_277 rfl 0 rfl ?_
    refine gf_12_190 rfl dX12_alone_278 ?_
    refine z_iload dX12_alone_281 2 rfl ?_
    refine z_iload dX12_alone_283 5 rfl ?_
    refine is_3_59 (inb_in g13) dX12_alone_285 ?_
    refine Z.lv [0, 1, 2] rfl ?_
    exact zb_X12_alone_286 hrc155 h
  · have h := (if_neg q).symm.trans h
    refine z_iload dX12_alone_214 4 rfl ?_
    refine z_iload dX12_alone_216 6 rfl ?_
    refine z_ishr dX12_alone_218 ?_
    refine z_iconst (v := 1) dX12_alone_219 (by decide) ?_
    refine z_iand dX12_alone_220 ?_
    refine z_if_eq (tgt := 271) dX12_alone_221 (by decide) (fun q => ?_) (fun q => ?_)
    · have h := (if_pos q).symm.trans h
      exact zb_X12_alone_271 hrc155 hrc207 h
    · have h := (if_neg q).symm.trans h
      obtain ⟨g14, h⟩ := gd h
      refine z_aload_n dX12_alone_224 rfl 0 rfl ?_
      refine gf_12_193 rfl dX12_alone_225 ?_
      refine z_iload dX12_alone_228 3 rfl ?_
      refine ia_3_60 (inb_in g14) dX12_alone_230 ?_
      refine z_iload dX12_alone_231 6 rfl ?_
      refine z_ishr dX12_alone_233 ?_
      refine z_iconst (v := 1) dX12_alone_234 (by decide) ?_
      refine z_iand dX12_alone_235 ?_
      refine z_if_ne (tgt := 242) dX12_alone_236 (by decide) (fun q => ?_) (fun q => ?_)
      · have h := (if_neg q).symm.trans h
        obtain ⟨g15, h⟩ := gd h
        refine z_aload_n dX12_alone_242 rfl 0 rfl ?_
        refine gf_12_190 rfl dX12_alone_243 ?_
        refine z_iload dX12_alone_246 4 rfl ?_
        refine z_iconst (v := 1) dX12_alone_248 (by decide) ?_
        refine z_iload dX12_alone_249 6 rfl ?_
        refine z_ishl dX12_alone_251 ?_
        refine z_iconst (v := (-1)) dX12_alone_252 (by decide) ?_
        refine z_ixor dX12_alone_253 ?_
        refine z_iand dX12_alone_254 ?_
        refine ia_3_59 (inb_in g15) dX12_alone_255 ?_
        refine z_iconst (v := 1) dX12_alone_256 (by decide) ?_
        refine z_iadd dX12_alone_257 ?_
        refine z_istore (lv' := [(0, .ref (sL S 3 0 0)), (4, .int (x4)), (5, .int (x5)), (6, .int (x6)), (7, .int (x7)), (8, .int (x8)), (9, .int (x9)), (10, .int ((mA σ 3 0 59 (x7 &&& (((1 : Int32) <<< (x9 &&& 31)) ^^^ (-1 : Int32))).toNatClampNeg) + (1 : Int32)))]) dX12_alone_258 (by decide) [1, 2, 3, 4, 5, 6, 7, 0] rfl ?_
        exact zb_X12_alone_260 hrc155 hrc207 h
      · have h := (if_pos q).symm.trans h
        refine z_goto (tgt := 271) dX12_alone_239 (by decide) ?_
        exact zb_X12_alone_271 hrc155 hrc207 h
def F_X12_alone_207 (rc155 : Int32 → Int32 → Mm → Option (Int32 × Mm)) : Nat → Int32 → Int32 → Int32 → Int32 → Int32 → Int32 → Mm → Option (Int32 × Mm)
  | 0 => fun _ _ _ _ _ _ _ => none
  | n + 1 => B_X12_alone_207 rc155 (F_X12_alone_207 rc155 n)
theorem zl_X12_alone_207 {S : Shp} {rc155 : Int32 → Int32 → Mm → Option (Int32 × Mm)} (hrc155 : ∀ {x4 : Int32} {x5 : Int32} {σ : Mm} {r : Int32 × Mm}, rc155 x4 x5 σ = some r → Z m_X12_alone S (Qi r) 155 [(0, .ref (sL S 3 0 0)), (4, .int (x4)), (5, .int (x5))] [] σ) : ∀ (nn : Nat) {x4 : Int32} {x5 : Int32} {x6 : Int32} {x7 : Int32} {x8 : Int32} {x9 : Int32} {σ : Mm} {r : Int32 × Mm}, F_X12_alone_207 rc155 nn x4 x5 x6 x7 x8 x9 σ = some r → Z m_X12_alone S (Qi r) 207 [(0, .ref (sL S 3 0 0)), (4, .int (x4)), (5, .int (x5)), (6, .int (x6)), (7, .int (x7)), (8, .int (x8)), (9, .int (x9))] [] σ := by
  intro nn
  induction nn with
  | zero => intro x4 x5 x6 x7 x8 x9 σ r h; cases h
  | succ nn ih => intro x4 x5 x6 x7 x8 x9 σ r h; exact zB_X12_alone_207 hrc155 @ih h
def F_X12_alone_192 (rc155 : Int32 → Int32 → Mm → Option (Int32 × Mm)) (x4 : Int32) (x5 : Int32) (x6 : Int32) (x7 : Int32) (σ : Mm) : Option (Int32 × Mm) := (if inb x7 16384 = true then (F_X12_alone_207 rc155 FU x4 x5 x6 x7 (mA σ 3 0 59 x7.toNatClampNeg) (x6 + (1 : Int32)) σ) else none)
set_option maxRecDepth 20000 in
theorem zb_X12_alone_192 {S : Shp} {rc155 : Int32 → Int32 → Mm → Option (Int32 × Mm)} (hrc155 : ∀ {x4 : Int32} {x5 : Int32} {σ : Mm} {r : Int32 × Mm}, rc155 x4 x5 σ = some r → Z m_X12_alone S (Qi r) 155 [(0, .ref (sL S 3 0 0)), (4, .int (x4)), (5, .int (x5))] [] σ) {x4 : Int32} {x5 : Int32} {x6 : Int32} {x7 : Int32} {σ : Mm} {r : Int32 × Mm} (h : F_X12_alone_192 rc155 x4 x5 x6 x7 σ = some r) : Z m_X12_alone S (Qi r) 192 [(0, .ref (sL S 3 0 0)), (4, .int (x4)), (5, .int (x5)), (6, .int (x6)), (7, .int (x7))] [] σ := by
  unfold F_X12_alone_192 at h
  obtain ⟨g12, h⟩ := gd h
  refine z_aload_n dX12_alone_192 rfl 0 rfl ?_
  refine gf_12_190 rfl dX12_alone_193 ?_
  refine z_iload dX12_alone_196 4 rfl ?_
  refine ia_3_59 (inb_in g12) dX12_alone_198 ?_
  refine z_istore (lv' := [(0, .ref (sL S 3 0 0)), (4, .int (x4)), (5, .int (x5)), (6, .int (x6)), (7, .int (x7)), (8, .int (mA σ 3 0 59 x7.toNatClampNeg))]) dX12_alone_199 (by decide) [1, 2, 3, 4, 5, 0] rfl ?_
  refine z_iload dX12_alone_201 3 rfl ?_
  refine z_iconst (v := 1) dX12_alone_203 (by decide) ?_
  refine z_iadd dX12_alone_204 ?_
  refine z_istore (lv' := [(0, .ref (sL S 3 0 0)), (4, .int (x4)), (5, .int (x5)), (6, .int (x6)), (7, .int (x7)), (8, .int (mA σ 3 0 59 x7.toNatClampNeg)), (9, .int (x6 + (1 : Int32)))]) dX12_alone_205 (by decide) [1, 2, 3, 4, 5, 6, 0] rfl ?_
  exact zl_X12_alone_207 hrc155 FU h
def B_X12_alone_165 (rc155 : Int32 → Int32 → Mm → Option (Int32 × Mm)) (rc165 : Int32 → Int32 → Int32 → Mm → Option (Int32 × Mm)) (x4 : Int32) (x5 : Int32) (x6 : Int32) (σ : Mm) : Option (Int32 × Mm) := (if ((x5 >>> (x6 &&& 31)) &&& (1 : Int32)) = 0 then (rc165 x4 x5 (x6 + 1) σ) else (F_X12_alone_192 rc155 x4 x5 x6 (x5 &&& (((1 : Int32) <<< (x6 &&& 31)) ^^^ (-1 : Int32))) σ))
set_option maxRecDepth 20000 in
theorem zB_X12_alone_165 {S : Shp} {rc155 : Int32 → Int32 → Mm → Option (Int32 × Mm)} (hrc155 : ∀ {x4 : Int32} {x5 : Int32} {σ : Mm} {r : Int32 × Mm}, rc155 x4 x5 σ = some r → Z m_X12_alone S (Qi r) 155 [(0, .ref (sL S 3 0 0)), (4, .int (x4)), (5, .int (x5))] [] σ) {rc165 : Int32 → Int32 → Int32 → Mm → Option (Int32 × Mm)} (hrc165 : ∀ {x4 : Int32} {x5 : Int32} {x6 : Int32} {σ : Mm} {r : Int32 × Mm}, rc165 x4 x5 x6 σ = some r → Z m_X12_alone S (Qi r) 165 [(0, .ref (sL S 3 0 0)), (4, .int (x4)), (5, .int (x5)), (6, .int (x6))] [] σ) {x4 : Int32} {x5 : Int32} {x6 : Int32} {σ : Mm} {r : Int32 × Mm} (h : B_X12_alone_165 rc155 rc165 x4 x5 x6 σ = some r) : Z m_X12_alone S (Qi r) 165 [(0, .ref (sL S 3 0 0)), (4, .int (x4)), (5, .int (x5)), (6, .int (x6))] [] σ := by
  unfold B_X12_alone_165 at h
  refine z_iload dX12_alone_165 2 rfl ?_
  refine z_iload dX12_alone_167 3 rfl ?_
  refine z_ishr dX12_alone_169 ?_
  refine z_iconst (v := 1) dX12_alone_170 (by decide) ?_
  refine z_iand dX12_alone_171 ?_
  refine z_if_ne (tgt := 181) dX12_alone_172 (by decide) (fun q => ?_) (fun q => ?_)
  · have h := (if_neg q).symm.trans h
    refine z_iload dX12_alone_181 2 rfl ?_
    refine z_iconst (v := 1) dX12_alone_183 (by decide) ?_
    refine z_iload dX12_alone_184 3 rfl ?_
    refine z_ishl dX12_alone_186 ?_
    refine z_iconst (v := (-1)) dX12_alone_187 (by decide) ?_
    refine z_ixor dX12_alone_188 ?_
    refine z_iand dX12_alone_189 ?_
    refine z_istore (lv' := [(0, .ref (sL S 3 0 0)), (4, .int (x4)), (5, .int (x5)), (6, .int (x6)), (7, .int (x5 &&& (((1 : Int32) <<< (x6 &&& 31)) ^^^ (-1 : Int32))))]) dX12_alone_190 (by decide) [1, 2, 3, 4, 0] rfl ?_
    exact zb_X12_alone_192 hrc155 h
  · have h := (if_pos q).symm.trans h
    refine z_iinc (j := 3) (v := x6 + 1) (lv' := [(0, .ref (sL S 3 0 0)), (4, .int (x4)), (5, .int (x5)), (6, .int (x6 + 1))]) dX12_alone_175 rfl rfl (by decide) [1, 2, 3, 0] rfl ?_
    refine z_goto (tgt := 165) dX12_alone_178 (by decide) ?_
    exact hrc165 h
def F_X12_alone_165 (rc155 : Int32 → Int32 → Mm → Option (Int32 × Mm)) : Nat → Int32 → Int32 → Int32 → Mm → Option (Int32 × Mm)
  | 0 => fun _ _ _ _ => none
  | n + 1 => B_X12_alone_165 rc155 (F_X12_alone_165 rc155 n)
theorem zl_X12_alone_165 {S : Shp} {rc155 : Int32 → Int32 → Mm → Option (Int32 × Mm)} (hrc155 : ∀ {x4 : Int32} {x5 : Int32} {σ : Mm} {r : Int32 × Mm}, rc155 x4 x5 σ = some r → Z m_X12_alone S (Qi r) 155 [(0, .ref (sL S 3 0 0)), (4, .int (x4)), (5, .int (x5))] [] σ) : ∀ (nn : Nat) {x4 : Int32} {x5 : Int32} {x6 : Int32} {σ : Mm} {r : Int32 × Mm}, F_X12_alone_165 rc155 nn x4 x5 x6 σ = some r → Z m_X12_alone S (Qi r) 165 [(0, .ref (sL S 3 0 0)), (4, .int (x4)), (5, .int (x5)), (6, .int (x6))] [] σ := by
  intro nn
  induction nn with
  | zero => intro x4 x5 x6 σ r h; cases h
  | succ nn ih => intro x4 x5 x6 σ r h; exact zB_X12_alone_165 hrc155 @ih h
def B_X12_alone_155 (rc155 : Int32 → Int32 → Mm → Option (Int32 × Mm)) (x4 : Int32) (x5 : Int32) (σ : Mm) : Option (Int32 × Mm) := (if x4 ≤ x5 then (if inb (x4 - (1 : Int32)) 16384 = true then some (mA σ 3 0 59 (x4 - (1 : Int32)).toNatClampNeg, σ) else none) else (F_X12_alone_165 rc155 FU x4 x5 0 σ))
set_option maxRecDepth 20000 in
theorem zB_X12_alone_155 {S : Shp} {rc155 : Int32 → Int32 → Mm → Option (Int32 × Mm)} (hrc155 : ∀ {x4 : Int32} {x5 : Int32} {σ : Mm} {r : Int32 × Mm}, rc155 x4 x5 σ = some r → Z m_X12_alone S (Qi r) 155 [(0, .ref (sL S 3 0 0)), (4, .int (x4)), (5, .int (x5))] [] σ) {x4 : Int32} {x5 : Int32} {σ : Mm} {r : Int32 × Mm} (h : B_X12_alone_155 rc155 x4 x5 σ = some r) : Z m_X12_alone S (Qi r) 155 [(0, .ref (sL S 3 0 0)), (4, .int (x4)), (5, .int (x5))] [] σ := by
  unfold B_X12_alone_155 at h
  refine z_iload dX12_alone_155 2 rfl ?_
  refine z_iload dX12_alone_157 1 rfl ?_
  refine z_icmp_ge (tgt := 292) dX12_alone_159 (by decide) (fun q => ?_) (fun q => ?_)
  · have h := (if_pos q).symm.trans h
    obtain ⟨g11, h⟩ := gd h
    refine z_aload_n dX12_alone_292 rfl 0 rfl ?_
    refine gf_12_190 rfl dX12_alone_293 ?_
    refine z_iload dX12_alone_296 1 rfl ?_
    refine z_iconst (v := 1) dX12_alone_298 (by decide) ?_
    refine z_isub dX12_alone_299 ?_
    refine ia_3_59 (inb_in g11) dX12_alone_300 ?_
    cases h
    exact z_ireturn dX12_alone_301 rfl rfl ⟨rfl, rfl⟩
  · have h := (if_neg q).symm.trans h
    refine z_iconst (v := 0) dX12_alone_162 (by decide) ?_
    refine z_istore (lv' := [(0, .ref (sL S 3 0 0)), (4, .int (x4)), (5, .int (x5)), (6, .int (0))]) dX12_alone_163 (by decide) [1, 2, 3, 0] rfl ?_
    exact zl_X12_alone_165 hrc155 FU h
def F_X12_alone_155 : Nat → Int32 → Int32 → Mm → Option (Int32 × Mm)
  | 0 => fun _ _ _ => none
  | n + 1 => B_X12_alone_155 (F_X12_alone_155 n)
theorem zl_X12_alone_155 {S : Shp} : ∀ (nn : Nat) {x4 : Int32} {x5 : Int32} {σ : Mm} {r : Int32 × Mm}, F_X12_alone_155 nn x4 x5 σ = some r → Z m_X12_alone S (Qi r) 155 [(0, .ref (sL S 3 0 0)), (4, .int (x4)), (5, .int (x5))] [] σ := by
  intro nn
  induction nn with
  | zero => intro x4 x5 σ r h; cases h
  | succ nn ih => intro x4 x5 σ r h; exact zB_X12_alone_155 @ih h
def F_X12_alone_152 (x4 : Int32) (σ : Mm) : Option (Int32 × Mm) := (F_X12_alone_155 FU x4 1 σ)
set_option maxRecDepth 20000 in
theorem zb_X12_alone_152 {S : Shp} {x4 : Int32} {σ : Mm} {r : Int32 × Mm} (h : F_X12_alone_152 x4 σ = some r) : Z m_X12_alone S (Qi r) 152 [(0, .ref (sL S 3 0 0)), (4, .int (x4))] [] σ := by
  unfold F_X12_alone_152 at h
  refine z_iconst (v := 1) dX12_alone_152 (by decide) ?_
  refine z_istore (lv' := [(0, .ref (sL S 3 0 0)), (4, .int (x4)), (5, .int (1))]) dX12_alone_153 (by decide) [1, 2, 0] rfl ?_
  exact zl_X12_alone_155 FU h
def F_X12_alone_145 (x4 : Int32) (σ : Mm) : Option (Int32 × Mm) := (if inb 0 16384 = true then (F_X12_alone_152 x4 (setA σ 3 0 59 (upd (mA σ 3 0 59) (0 : Int32).toNatClampNeg 0))) else none)
set_option maxRecDepth 20000 in
theorem zb_X12_alone_145 {S : Shp} {x4 : Int32} {σ : Mm} {r : Int32 × Mm} (h : F_X12_alone_145 x4 σ = some r) : Z m_X12_alone S (Qi r) 145 [(0, .ref (sL S 3 0 0)), (4, .int (x4))] [] σ := by
  unfold F_X12_alone_145 at h
  obtain ⟨g6, h⟩ := gd h
  refine z_aload_n dX12_alone_145 rfl 0 rfl ?_
  refine gf_12_190 rfl dX12_alone_146 ?_
  refine z_iconst (v := 0) dX12_alone_149 (by decide) ?_
  refine z_iconst (v := 0) dX12_alone_150 (by decide) ?_
  refine is_3_59 (inb_in g6) dX12_alone_151 ?_
  exact zb_X12_alone_152 h
def F_X12_alone_129 (rc45 : Int32 → Int32 → Mm → Option (Int32 × Mm)) (x1 : Int32) (x4 : Int32) (σ : Mm) : Option (Int32 × Mm) := (rc45 x1 (x4 + 1) σ)
set_option maxRecDepth 20000 in
theorem zb_X12_alone_129 {S : Shp} {rc45 : Int32 → Int32 → Mm → Option (Int32 × Mm)} (hrc45 : ∀ {x1 : Int32} {x4 : Int32} {σ : Mm} {r : Int32 × Mm}, rc45 x1 x4 σ = some r → Z m_X12_alone S (Qi r) 45 [(0, .ref (sL S 3 0 0)), (1, .int (x1)), (4, .int (x4))] [] σ) {x1 : Int32} {x4 : Int32} {σ : Mm} {r : Int32 × Mm} (h : F_X12_alone_129 rc45 x1 x4 σ = some r) : Z m_X12_alone S (Qi r) 129 [(0, .ref (sL S 3 0 0)), (1, .int (x1)), (4, .int (x4))] [] σ := by
  unfold F_X12_alone_129 at h
  refine z_iinc (j := 2) (v := x4 + 1) (lv' := [(0, .ref (sL S 3 0 0)), (1, .int (x1)), (4, .int (x4 + 1))]) dX12_alone_129 rfl rfl (by decide) [1, 2, 0] rfl ?_
  refine z_goto (tgt := 45) dX12_alone_132 (by decide) ?_
  exact hrc45 h
def F_X12_alone_109 (rc45 : Int32 → Int32 → Mm → Option (Int32 × Mm)) (x1 : Int32) (x4 : Int32) (σ : Mm) : Option (Int32 × Mm) := (if inb (x4 - x4 / (14 : Int32) * (14 : Int32)) 14 = true then (if inb (x4 - x4 / (14 : Int32) * (14 : Int32)) 14 = true then (F_X12_alone_129 rc45 x1 x4 (setA σ 3 0 60 (upd (mA σ 3 0 60) (x4 - x4 / (14 : Int32) * (14 : Int32)).toNatClampNeg ((mA σ 3 0 60 (x4 - x4 / (14 : Int32) * (14 : Int32)).toNatClampNeg) ||| ((1 : Int32) <<< ((x4 / (14 : Int32)) &&& 31)))))) else none) else none)
set_option maxRecDepth 20000 in
theorem zb_X12_alone_109 {S : Shp} {rc45 : Int32 → Int32 → Mm → Option (Int32 × Mm)} (hrc45 : ∀ {x1 : Int32} {x4 : Int32} {σ : Mm} {r : Int32 × Mm}, rc45 x1 x4 σ = some r → Z m_X12_alone S (Qi r) 45 [(0, .ref (sL S 3 0 0)), (1, .int (x1)), (4, .int (x4))] [] σ) {x1 : Int32} {x4 : Int32} {σ : Mm} {r : Int32 × Mm} (h : F_X12_alone_109 rc45 x1 x4 σ = some r) : Z m_X12_alone S (Qi r) 109 [(0, .ref (sL S 3 0 0)), (1, .int (x1)), (4, .int (x4))] [] σ := by
  unfold F_X12_alone_109 at h
  obtain ⟨g9, h⟩ := gd h
  refine z_aload_n dX12_alone_109 rfl 0 rfl ?_
  refine gf_12_193 rfl dX12_alone_110 ?_
  refine z_iload dX12_alone_113 2 rfl ?_
  refine z_bipush (v := 14) dX12_alone_115 (by decide) ?_
  refine z_irem dX12_alone_117 (by decide) ?_
  refine z_dup2_11 dX12_alone_118 rfl rfl ?_
  obtain ⟨g10, h⟩ := gd h
  refine ia_3_60 (inb_in g9) dX12_alone_119 ?_
  refine z_iconst (v := 1) dX12_alone_120 (by decide) ?_
  refine z_iload dX12_alone_121 2 rfl ?_
  refine z_bipush (v := 14) dX12_alone_123 (by decide) ?_
  refine z_idiv dX12_alone_125 (by decide) ?_
  refine z_ishl dX12_alone_126 ?_
  refine z_ior dX12_alone_127 ?_
  refine is_3_60 (inb_in g10) dX12_alone_128 ?_
  exact zb_X12_alone_129 hrc45 h
def F_X12_alone_81 (rc45 : Int32 → Int32 → Mm → Option (Int32 × Mm)) (x1 : Int32) (x4 : Int32) (s0 : Int32) (σ : Mm) : Option (Int32 × Mm) := (if (s0 &&& x1) = 0 then (F_X12_alone_129 rc45 x1 x4 σ) else (if inb (x4 / (14 : Int32)) 14 = true then (if inb (x4 / (14 : Int32)) 14 = true then (F_X12_alone_109 rc45 x1 x4 (setA σ 3 0 60 (upd (mA σ 3 0 60) (x4 / (14 : Int32)).toNatClampNeg ((mA σ 3 0 60 (x4 / (14 : Int32)).toNatClampNeg) ||| ((1 : Int32) <<< ((x4 - x4 / (14 : Int32) * (14 : Int32)) &&& 31)))))) else none) else none))
set_option maxRecDepth 20000 in
theorem zb_X12_alone_81 {S : Shp} {rc45 : Int32 → Int32 → Mm → Option (Int32 × Mm)} (hrc45 : ∀ {x1 : Int32} {x4 : Int32} {σ : Mm} {r : Int32 × Mm}, rc45 x1 x4 σ = some r → Z m_X12_alone S (Qi r) 45 [(0, .ref (sL S 3 0 0)), (1, .int (x1)), (4, .int (x4))] [] σ) {x1 : Int32} {x4 : Int32} {s0 : Int32} {σ : Mm} {r : Int32 × Mm} (h : F_X12_alone_81 rc45 x1 x4 s0 σ = some r) : Z m_X12_alone S (Qi r) 81 [(0, .ref (sL S 3 0 0)), (1, .int (x1)), (4, .int (x4))] [.int (s0)] σ := by
  unfold F_X12_alone_81 at h
  refine z_iload_n dX12_alone_81 rfl 1 rfl ?_
  refine z_iand dX12_alone_82 ?_
  refine z_if_ne (tgt := 89) dX12_alone_83 (by decide) (fun q => ?_) (fun q => ?_)
  · have h := (if_neg q).symm.trans h
    obtain ⟨g7, h⟩ := gd h
    refine z_aload_n dX12_alone_89 rfl 0 rfl ?_
    refine gf_12_193 rfl dX12_alone_90 ?_
    refine z_iload dX12_alone_93 2 rfl ?_
    refine z_bipush (v := 14) dX12_alone_95 (by decide) ?_
    refine z_idiv dX12_alone_97 (by decide) ?_
    refine z_dup2_11 dX12_alone_98 rfl rfl ?_
    obtain ⟨g8, h⟩ := gd h
    refine ia_3_60 (inb_in g7) dX12_alone_99 ?_
    refine z_iconst (v := 1) dX12_alone_100 (by decide) ?_
    refine z_iload dX12_alone_101 2 rfl ?_
    refine z_bipush (v := 14) dX12_alone_103 (by decide) ?_
    refine z_irem dX12_alone_105 (by decide) ?_
    refine z_ishl dX12_alone_106 ?_
    refine z_ior dX12_alone_107 ?_
    refine is_3_60 (inb_in g8) dX12_alone_108 ?_
    exact zb_X12_alone_109 hrc45 h
  · have h := (if_pos q).symm.trans h
    refine z_goto (tgt := 129) dX12_alone_86 (by decide) ?_
    exact zb_X12_alone_129 hrc45 h
def B_X12_alone_45 (rc45 : Int32 → Int32 → Mm → Option (Int32 × Mm)) (x1 : Int32) (x4 : Int32) (σ : Mm) : Option (Int32 × Mm) := (if (196 : Int32) ≤ x4 then (if inb 0 5 = true then (F_X12_alone_145 ((1 : Int32) <<< ((mA σ 3 0 8 (0 : Int32).toNatClampNeg) &&& 31)) σ) else none) else (if inb x4 196 = true then (if (mA σ 3 0 55 x4.toNatClampNeg) = 0 then (F_X12_alone_129 rc45 x1 x4 σ) else (if inb x4 196 = true then (if inb 0 5 = true then (bnd (F_X12_hitBy (mA σ 3 0 53 x4.toNatClampNeg) (mA σ 3 0 7 (0 : Int32).toNatClampNeg) 0 σ) (fun v τ => (F_X12_alone_81 rc45 x1 x4 v τ))) else none) else none)) else none))
set_option maxRecDepth 20000 in
theorem zB_X12_alone_45 {S : Shp} {rc45 : Int32 → Int32 → Mm → Option (Int32 × Mm)} (hrc45 : ∀ {x1 : Int32} {x4 : Int32} {σ : Mm} {r : Int32 × Mm}, rc45 x1 x4 σ = some r → Z m_X12_alone S (Qi r) 45 [(0, .ref (sL S 3 0 0)), (1, .int (x1)), (4, .int (x4))] [] σ) {x1 : Int32} {x4 : Int32} {σ : Mm} {r : Int32 × Mm} (h : B_X12_alone_45 rc45 x1 x4 σ = some r) : Z m_X12_alone S (Qi r) 45 [(0, .ref (sL S 3 0 0)), (1, .int (x1)), (4, .int (x4))] [] σ := by
  unfold B_X12_alone_45 at h
  refine z_iload dX12_alone_45 2 rfl ?_
  refine z_sipush (v := 196) dX12_alone_47 (by decide) ?_
  refine z_icmp_ge (tgt := 135) dX12_alone_50 (by decide) (fun q => ?_) (fun q => ?_)
  · have h := (if_pos q).symm.trans h
    obtain ⟨g2, h⟩ := gd h
    refine z_iconst (v := 1) dX12_alone_135 (by decide) ?_
    refine z_aload_n dX12_alone_136 rfl 0 rfl ?_
    refine gf_12_37 rfl dX12_alone_137 ?_
    refine z_iconst (v := 0) dX12_alone_140 (by decide) ?_
    refine ia_3_8 (inb_in g2) dX12_alone_141 ?_
    refine z_ishl dX12_alone_142 ?_
    refine z_istore (lv' := [(0, .ref (sL S 3 0 0)), (1, .int (x1)), (4, .int ((1 : Int32) <<< ((mA σ 3 0 8 (0 : Int32).toNatClampNeg) &&& 31)))]) dX12_alone_143 (by decide) [1, 2, 0] rfl ?_
    refine Z.lv [0, 2] rfl ?_
    exact zb_X12_alone_145 h
  · have h := (if_neg q).symm.trans h
    obtain ⟨g3, h⟩ := gd h
    refine z_aload_n dX12_alone_53 rfl 0 rfl ?_
    refine gf_12_178 rfl dX12_alone_54 ?_
    refine z_iload dX12_alone_57 2 rfl ?_
    refine ia_3_55 (inb_in g3) dX12_alone_59 ?_
    refine z_if_eq (tgt := 129) dX12_alone_60 (by decide) (fun q => ?_) (fun q => ?_)
    · have h := (if_pos q).symm.trans h
      exact zb_X12_alone_129 hrc45 h
    · have h := (if_neg q).symm.trans h
      obtain ⟨g4, h⟩ := gd h
      refine z_aload_n dX12_alone_63 rfl 0 rfl ?_
      refine z_aload_n dX12_alone_64 rfl 0 rfl ?_
      refine gf_12_172 rfl dX12_alone_65 ?_
      refine z_iload dX12_alone_68 2 rfl ?_
      obtain ⟨g5, h⟩ := gd h
      refine ia_3_53 (inb_in g4) dX12_alone_70 ?_
      refine z_aload_n dX12_alone_71 rfl 0 rfl ?_
      refine gf_12_34 rfl dX12_alone_72 ?_
      refine z_iconst (v := 0) dX12_alone_75 (by decide) ?_
      refine ia_3_7 (inb_in g5) dX12_alone_76 ?_
      refine z_iconst (v := 0) dX12_alone_77 (by decide) ?_
      obtain ⟨v, τ, hc, h⟩ := bnd_e h
      refine z_callV (M' := m_X12_hitBy) (t := 3) (i := 0) (k := 0) (As := [.int (mA σ 3 0 53 x4.toNatClampNeg), .int (mA σ 3 0 7 (0 : Int32).toNatClampNeg), .int (0)]) (rest := []) kl_12_484 oy_X12_hitBy ⟨Nat.le_of_ble_eq_true rfl, Nat.le_of_ble_eq_true rfl⟩ rfl rfl rfl rfl (Nat.le_of_ble_eq_true rfl) rfl dX12_alone_78 (c_X12_hitBy hc) (fun v2 τ2 hq => ?_)
      obtain ⟨rfl, hτ⟩ := hq
      subst τ2
      change Z _ _ _ _ _ [.int (v)] _
      exact zb_X12_alone_81 hrc45 h
def F_X12_alone_45 : Nat → Int32 → Int32 → Mm → Option (Int32 × Mm)
  | 0 => fun _ _ _ => none
  | n + 1 => B_X12_alone_45 (F_X12_alone_45 n)
theorem zl_X12_alone_45 {S : Shp} : ∀ (nn : Nat) {x1 : Int32} {x4 : Int32} {σ : Mm} {r : Int32 × Mm}, F_X12_alone_45 nn x1 x4 σ = some r → Z m_X12_alone S (Qi r) 45 [(0, .ref (sL S 3 0 0)), (1, .int (x1)), (4, .int (x4))] [] σ := by
  intro nn
  induction nn with
  | zero => intro x1 x4 σ r h; cases h
  | succ nn ih => intro x1 x4 σ r h; exact zB_X12_alone_45 @ih h
def F_X12_alone_36 (rc21 : Int32 → Int32 → Mm → Option (Int32 × Mm)) (x1 : Int32) (x4 : Int32) (σ : Mm) : Option (Int32 × Mm) := (rc21 x1 (x4 + 1) σ)
set_option maxRecDepth 20000 in
theorem zb_X12_alone_36 {S : Shp} {rc21 : Int32 → Int32 → Mm → Option (Int32 × Mm)} (hrc21 : ∀ {x1 : Int32} {x4 : Int32} {σ : Mm} {r : Int32 × Mm}, rc21 x1 x4 σ = some r → Z m_X12_alone S (Qi r) 21 [(0, .ref (sL S 3 0 0)), (1, .int (x1)), (4, .int (x4))] [] σ) {x1 : Int32} {x4 : Int32} {σ : Mm} {r : Int32 × Mm} (h : F_X12_alone_36 rc21 x1 x4 σ = some r) : Z m_X12_alone S (Qi r) 36 [(0, .ref (sL S 3 0 0)), (1, .int (x1)), (4, .int (x4))] [] σ := by
  unfold F_X12_alone_36 at h
  refine z_iinc (j := 2) (v := x4 + 1) (lv' := [(0, .ref (sL S 3 0 0)), (1, .int (x1)), (4, .int (x4 + 1))]) dX12_alone_36 rfl rfl (by decide) [1, 2, 0] rfl ?_
  refine z_goto (tgt := 21) dX12_alone_39 (by decide) ?_
  exact hrc21 h
def B_X12_alone_21 (rc21 : Int32 → Int32 → Mm → Option (Int32 × Mm)) (x1 : Int32) (x4 : Int32) (σ : Mm) : Option (Int32 × Mm) := (if (14 : Int32) ≤ x4 then (F_X12_alone_45 FU x1 0 σ) else (if inb x4 14 = true then (F_X12_alone_36 rc21 x1 x4 (setA σ 3 0 60 (upd (mA σ 3 0 60) x4.toNatClampNeg 0))) else none))
set_option maxRecDepth 20000 in
theorem zB_X12_alone_21 {S : Shp} {rc21 : Int32 → Int32 → Mm → Option (Int32 × Mm)} (hrc21 : ∀ {x1 : Int32} {x4 : Int32} {σ : Mm} {r : Int32 × Mm}, rc21 x1 x4 σ = some r → Z m_X12_alone S (Qi r) 21 [(0, .ref (sL S 3 0 0)), (1, .int (x1)), (4, .int (x4))] [] σ) {x1 : Int32} {x4 : Int32} {σ : Mm} {r : Int32 × Mm} (h : B_X12_alone_21 rc21 x1 x4 σ = some r) : Z m_X12_alone S (Qi r) 21 [(0, .ref (sL S 3 0 0)), (1, .int (x1)), (4, .int (x4))] [] σ := by
  unfold B_X12_alone_21 at h
  refine z_iload dX12_alone_21 2 rfl ?_
  refine z_bipush (v := 14) dX12_alone_23 (by decide) ?_
  refine z_icmp_ge (tgt := 42) dX12_alone_25 (by decide) (fun q => ?_) (fun q => ?_)
  · have h := (if_pos q).symm.trans h
    refine z_iconst (v := 0) dX12_alone_42 (by decide) ?_
    refine z_istore (lv' := [(0, .ref (sL S 3 0 0)), (1, .int (x1)), (4, .int (0))]) dX12_alone_43 (by decide) [1, 2, 0] rfl ?_
    exact zl_X12_alone_45 FU h
  · have h := (if_neg q).symm.trans h
    obtain ⟨g1, h⟩ := gd h
    refine z_aload_n dX12_alone_28 rfl 0 rfl ?_
    refine gf_12_193 rfl dX12_alone_29 ?_
    refine z_iload dX12_alone_32 2 rfl ?_
    refine z_iconst (v := 0) dX12_alone_34 (by decide) ?_
    refine is_3_60 (inb_in g1) dX12_alone_35 ?_
    exact zb_X12_alone_36 hrc21 h
def F_X12_alone_21 : Nat → Int32 → Int32 → Mm → Option (Int32 × Mm)
  | 0 => fun _ _ _ => none
  | n + 1 => B_X12_alone_21 (F_X12_alone_21 n)
theorem zl_X12_alone_21 {S : Shp} : ∀ (nn : Nat) {x1 : Int32} {x4 : Int32} {σ : Mm} {r : Int32 × Mm}, F_X12_alone_21 nn x1 x4 σ = some r → Z m_X12_alone S (Qi r) 21 [(0, .ref (sL S 3 0 0)), (1, .int (x1)), (4, .int (x4))] [] σ := by
  intro nn
  induction nn with
  | zero => intro x1 x4 σ r h; cases h
  | succ nn ih => intro x1 x4 σ r h; exact zB_X12_alone_21 @ih h
def F_X12_alone_18 (x1 : Int32) (σ : Mm) : Option (Int32 × Mm) := (F_X12_alone_21 FU x1 0 σ)
set_option maxRecDepth 20000 in
theorem zb_X12_alone_18 {S : Shp} {x1 : Int32} {σ : Mm} {r : Int32 × Mm} (h : F_X12_alone_18 x1 σ = some r) : Z m_X12_alone S (Qi r) 18 [(0, .ref (sL S 3 0 0)), (1, .int (x1))] [] σ := by
  unfold F_X12_alone_18 at h
  refine z_iconst (v := 0) dX12_alone_18 (by decide) ?_
  refine z_istore (lv' := [(0, .ref (sL S 3 0 0)), (1, .int (x1)), (4, .int (0))]) dX12_alone_19 (by decide) [1, 2, 0] rfl ?_
  exact zl_X12_alone_21 FU h
def F_X12_alone_7 (x1 : Int32) (x2 : Int32) (x3 : Int32) (s0 : Int32) (σ : Mm) : Option (Int32 × Mm) := (if s0 = 0 then some ((-1), σ) else (bnv (F_X12_layAll x2 x3 σ) (fun τ => (F_X12_alone_18 x1 τ))))
set_option maxRecDepth 20000 in
theorem zb_X12_alone_7 {S : Shp} {x1 : Int32} {x2 : Int32} {x3 : Int32} {s0 : Int32} {σ : Mm} {r : Int32 × Mm} (h : F_X12_alone_7 x1 x2 x3 s0 σ = some r) : Z m_X12_alone S (Qi r) 7 [(0, .ref (sL S 3 0 0)), (1, .int (x1)), (2, .int (x2)), (3, .int (x3))] [.int (s0)] σ := by
  unfold F_X12_alone_7 at h
  refine z_if_ne (tgt := 12) dX12_alone_7 (by decide) (fun q => ?_) (fun q => ?_)
  · have h := (if_neg q).symm.trans h
    refine z_aload_n dX12_alone_12 rfl 0 rfl ?_
    refine z_iload_n dX12_alone_13 rfl 2 rfl ?_
    refine z_iload_n dX12_alone_14 rfl 3 rfl ?_
    obtain ⟨τ, hc, h⟩ := bnv_e h
    refine z_callV (M' := m_X12_layAll) (t := 3) (i := 0) (k := 0) (As := [.int (x2), .int (x3)]) (rest := []) kl_12_494 oy_X12_layAll ⟨Nat.le_of_ble_eq_true rfl, Nat.le_of_ble_eq_true rfl⟩ rfl rfl rfl rfl (Nat.le_of_ble_eq_true rfl) rfl dX12_alone_15 (c_X12_layAll hc) (fun v2 τ2 hq => ?_)
    obtain ⟨rfl, hτ⟩ := hq
    subst τ2
    change Z _ _ _ _ _ [] _
    refine Z.lv [0, 1] rfl ?_
    exact zb_X12_alone_18 h
  · have h := (if_pos q).symm.trans h
    refine z_iconst (v := (-1)) dX12_alone_10 (by decide) ?_
    cases h
    exact z_ireturn dX12_alone_11 rfl rfl ⟨rfl, rfl⟩
def F_X12_alone (x1 : Int32) (x2 : Int32) (x3 : Int32) (σ : Mm) : Option (Int32 × Mm) := (bnd (F_X12_isSet x1 x2 x3 σ) (fun v τ => (F_X12_alone_7 x1 x2 x3 v τ)))
set_option maxRecDepth 20000 in
theorem zb_X12_alone {S : Shp} {x1 : Int32} {x2 : Int32} {x3 : Int32} {σ : Mm} {r : Int32 × Mm} (h : F_X12_alone x1 x2 x3 σ = some r) : Z m_X12_alone S (Qi r) 0 [(0, .ref (sL S 3 0 0)), (1, .int (x1)), (2, .int (x2)), (3, .int (x3))] [] σ := by
  unfold F_X12_alone at h
  refine z_aload_n dX12_alone_0 rfl 0 rfl ?_
  refine z_iload_n dX12_alone_1 rfl 1 rfl ?_
  refine z_iload_n dX12_alone_2 rfl 2 rfl ?_
  refine z_iload_n dX12_alone_3 rfl 3 rfl ?_
  obtain ⟨v, τ, hc, h⟩ := bnd_e h
  refine z_callV (M' := m_X12_isSet) (t := 3) (i := 0) (k := 0) (As := [.int (x1), .int (x2), .int (x3)]) (rest := []) kl_12_491 oy_X12_isSet ⟨Nat.le_of_ble_eq_true rfl, Nat.le_of_ble_eq_true rfl⟩ rfl rfl rfl rfl (Nat.le_of_ble_eq_true rfl) rfl dX12_alone_4 (c_X12_isSet hc) (fun v2 τ2 hq => ?_)
  obtain ⟨rfl, hτ⟩ := hq
  subst τ2
  change Z _ _ _ _ _ [.int (v)] _
  exact zb_X12_alone_7 h
/-- SkyStonesModel.alone(III)I -/
theorem c_X12_alone {S : Shp} {x1 : Int32} {x2 : Int32} {x3 : Int32} {σ : Mm} {r : Int32 × Mm} (h : F_X12_alone x1 x2 x3 σ = some r) : Ct m_X12_alone S [.ref (sL S 3 0 0), .int (x1), .int (x2), .int (x3)] σ (Qi r) := Ct.of (by decide +kernel) (Nat.le_of_ble_eq_true rfl) (zb_X12_alone h)
def F_X12_fact_64 (x5 : Int32) (σ : Mm) : Option (Int32 × Mm) := some (x5, σ)
set_option maxRecDepth 20000 in
theorem zb_X12_fact_64 {S : Shp} {x5 : Int32} {σ : Mm} {r : Int32 × Mm} (h : F_X12_fact_64 x5 σ = some r) : Z m_X12_fact S (Qi r) 64 [(5, .int (x5))] [] σ := by
  unfold F_X12_fact_64 at h
  refine z_iload dX12_fact_64 0 rfl ?_
  cases h
  exact z_ireturn dX12_fact_66 rfl rfl ⟨rfl, rfl⟩
def F_X12_fact_54 (x5 : Int32) (σ : Mm) : Option (Int32 × Mm) := (if inb 0 5 = true then (if inb 0 5 = true then (F_X12_fact_64 x5 (setA σ 3 0 38 (upd (mA σ 3 0 38) (0 : Int32).toNatClampNeg ((mA σ 3 0 38 (0 : Int32).toNatClampNeg) + (1 : Int32))))) else none) else none)
set_option maxRecDepth 20000 in
theorem zb_X12_fact_54 {S : Shp} {x5 : Int32} {σ : Mm} {r : Int32 × Mm} (h : F_X12_fact_54 x5 σ = some r) : Z m_X12_fact S (Qi r) 54 [(0, .ref (sL S 3 0 0)), (5, .int (x5))] [] σ := by
  unfold F_X12_fact_54 at h
  obtain ⟨g7, h⟩ := gd h
  refine z_aload_n dX12_fact_54 rfl 0 rfl ?_
  refine gf_12_127 rfl dX12_fact_55 ?_
  refine z_iconst (v := 0) dX12_fact_58 (by decide) ?_
  refine z_dup2_11 dX12_fact_59 rfl rfl ?_
  obtain ⟨g8, h⟩ := gd h
  refine ia_3_38 (inb_in g7) dX12_fact_60 ?_
  refine z_iconst (v := 1) dX12_fact_61 (by decide) ?_
  refine z_iadd dX12_fact_62 ?_
  refine is_3_38 (inb_in g8) dX12_fact_63 ?_
  refine Z.lv [1] rfl ?_
  exact zb_X12_fact_64 h
def F_X12_fact_45 (x4 : Int32) (x5 : Int32) (σ : Mm) : Option (Int32 × Mm) := (if inb x5 300 = true then (F_X12_fact_54 x5 (setA σ 3 0 42 (upd (mA σ 3 0 42) x5.toNatClampNeg x4))) else none)
set_option maxRecDepth 20000 in
theorem zb_X12_fact_45 {S : Shp} {x4 : Int32} {x5 : Int32} {σ : Mm} {r : Int32 × Mm} (h : F_X12_fact_45 x4 x5 σ = some r) : Z m_X12_fact S (Qi r) 45 [(0, .ref (sL S 3 0 0)), (4, .int (x4)), (5, .int (x5))] [] σ := by
  unfold F_X12_fact_45 at h
  obtain ⟨g6, h⟩ := gd h
  refine z_aload_n dX12_fact_45 rfl 0 rfl ?_
  refine gf_12_139 rfl dX12_fact_46 ?_
  refine z_iload dX12_fact_49 2 rfl ?_
  refine z_iload dX12_fact_51 1 rfl ?_
  refine is_3_42 (inb_in g6) dX12_fact_53 ?_
  refine Z.lv [0, 2] rfl ?_
  exact zb_X12_fact_54 h
def F_X12_fact_37 (x3 : Int32) (x4 : Int32) (x5 : Int32) (σ : Mm) : Option (Int32 × Mm) := (if inb x5 300 = true then (F_X12_fact_45 x4 x5 (setA σ 3 0 41 (upd (mA σ 3 0 41) x5.toNatClampNeg x3))) else none)
set_option maxRecDepth 20000 in
theorem zb_X12_fact_37 {S : Shp} {x3 : Int32} {x4 : Int32} {x5 : Int32} {σ : Mm} {r : Int32 × Mm} (h : F_X12_fact_37 x3 x4 x5 σ = some r) : Z m_X12_fact S (Qi r) 37 [(0, .ref (sL S 3 0 0)), (3, .int (x3)), (4, .int (x4)), (5, .int (x5))] [] σ := by
  unfold F_X12_fact_37 at h
  obtain ⟨g5, h⟩ := gd h
  refine z_aload_n dX12_fact_37 rfl 0 rfl ?_
  refine gf_12_136 rfl dX12_fact_38 ?_
  refine z_iload dX12_fact_41 3 rfl ?_
  refine z_iload_n dX12_fact_43 rfl 1 rfl ?_
  refine is_3_41 (inb_in g5) dX12_fact_44 ?_
  refine Z.lv [0, 2, 3] rfl ?_
  exact zb_X12_fact_45 h
def F_X12_fact_29 (x2 : Int32) (x3 : Int32) (x4 : Int32) (x5 : Int32) (σ : Mm) : Option (Int32 × Mm) := (if inb x5 300 = true then (F_X12_fact_37 x3 x4 x5 (setA σ 3 0 40 (upd (mA σ 3 0 40) x5.toNatClampNeg x2))) else none)
set_option maxRecDepth 20000 in
theorem zb_X12_fact_29 {S : Shp} {x2 : Int32} {x3 : Int32} {x4 : Int32} {x5 : Int32} {σ : Mm} {r : Int32 × Mm} (h : F_X12_fact_29 x2 x3 x4 x5 σ = some r) : Z m_X12_fact S (Qi r) 29 [(0, .ref (sL S 3 0 0)), (2, .int (x2)), (3, .int (x3)), (4, .int (x4)), (5, .int (x5))] [] σ := by
  unfold F_X12_fact_29 at h
  obtain ⟨g4, h⟩ := gd h
  refine z_aload_n dX12_fact_29 rfl 0 rfl ?_
  refine gf_12_133 rfl dX12_fact_30 ?_
  refine z_iload dX12_fact_33 4 rfl ?_
  refine z_iload_n dX12_fact_35 rfl 1 rfl ?_
  refine is_3_40 (inb_in g4) dX12_fact_36 ?_
  refine Z.lv [0, 2, 3, 4] rfl ?_
  exact zb_X12_fact_37 h
def F_X12_fact_21 (x1 : Int32) (x2 : Int32) (x3 : Int32) (x4 : Int32) (x5 : Int32) (σ : Mm) : Option (Int32 × Mm) := (if inb x5 300 = true then (F_X12_fact_29 x2 x3 x4 x5 (setA σ 3 0 39 (upd (mA σ 3 0 39) x5.toNatClampNeg x1))) else none)
set_option maxRecDepth 20000 in
theorem zb_X12_fact_21 {S : Shp} {x1 : Int32} {x2 : Int32} {x3 : Int32} {x4 : Int32} {x5 : Int32} {σ : Mm} {r : Int32 × Mm} (h : F_X12_fact_21 x1 x2 x3 x4 x5 σ = some r) : Z m_X12_fact S (Qi r) 21 [(0, .ref (sL S 3 0 0)), (1, .int (x1)), (2, .int (x2)), (3, .int (x3)), (4, .int (x4)), (5, .int (x5))] [] σ := by
  unfold F_X12_fact_21 at h
  obtain ⟨g3, h⟩ := gd h
  refine z_aload_n dX12_fact_21 rfl 0 rfl ?_
  refine gf_12_130 rfl dX12_fact_22 ?_
  refine z_iload dX12_fact_25 5 rfl ?_
  refine z_iload_n dX12_fact_27 rfl 1 rfl ?_
  refine is_3_39 (inb_in g3) dX12_fact_28 ?_
  refine Z.lv [0, 2, 3, 4, 5] rfl ?_
  exact zb_X12_fact_29 h
def F_X12_fact (x1 : Int32) (x2 : Int32) (x3 : Int32) (x4 : Int32) (σ : Mm) : Option (Int32 × Mm) := (if inb 0 5 = true then (if (mA σ 3 0 38 (0 : Int32).toNatClampNeg) = (60 : Int32) then some ((-1), σ) else (if inb 0 5 = true then (F_X12_fact_21 x1 x2 x3 x4 (mA σ 3 0 38 (0 : Int32).toNatClampNeg) σ) else none)) else none)
set_option maxRecDepth 20000 in
theorem zb_X12_fact {S : Shp} {x1 : Int32} {x2 : Int32} {x3 : Int32} {x4 : Int32} {σ : Mm} {r : Int32 × Mm} (h : F_X12_fact x1 x2 x3 x4 σ = some r) : Z m_X12_fact S (Qi r) 0 [(0, .ref (sL S 3 0 0)), (1, .int (x1)), (2, .int (x2)), (3, .int (x3)), (4, .int (x4))] [] σ := by
  unfold F_X12_fact at h
  obtain ⟨g1, h⟩ := gd h
  refine z_aload_n dX12_fact_0 rfl 0 rfl ?_
  refine gf_12_127 rfl dX12_fact_1 ?_
  refine z_iconst (v := 0) dX12_fact_4 (by decide) ?_
  refine ia_3_38 (inb_in g1) dX12_fact_5 ?_
  refine z_bipush (v := 60) dX12_fact_6 (by decide) ?_
  refine z_icmp_ne (tgt := 13) dX12_fact_8 (by decide) (fun q => ?_) (fun q => ?_)
  · have h := (if_neg q).symm.trans h
    obtain ⟨g2, h⟩ := gd h
    refine z_aload_n dX12_fact_13 rfl 0 rfl ?_
    refine gf_12_127 rfl dX12_fact_14 ?_
    refine z_iconst (v := 0) dX12_fact_17 (by decide) ?_
    refine ia_3_38 (inb_in g2) dX12_fact_18 ?_
    refine z_istore (lv' := [(0, .ref (sL S 3 0 0)), (1, .int (x1)), (2, .int (x2)), (3, .int (x3)), (4, .int (x4)), (5, .int (mA σ 3 0 38 (0 : Int32).toNatClampNeg))]) dX12_fact_19 (by decide) [1, 2, 3, 4, 5, 0] rfl ?_
    exact zb_X12_fact_21 h
  · have h := (if_pos q).symm.trans h
    refine z_iconst (v := (-1)) dX12_fact_11 (by decide) ?_
    cases h
    exact z_ireturn dX12_fact_12 rfl rfl ⟨rfl, rfl⟩
/-- SkyStonesModel.fact(IIII)I -/
theorem c_X12_fact {S : Shp} {x1 : Int32} {x2 : Int32} {x3 : Int32} {x4 : Int32} {σ : Mm} {r : Int32 × Mm} (h : F_X12_fact x1 x2 x3 x4 σ = some r) : Ct m_X12_fact S [.ref (sL S 3 0 0), .int (x1), .int (x2), .int (x3), .int (x4)] σ (Qi r) := Ct.of (by decide +kernel) (Nat.le_of_ble_eq_true rfl) (zb_X12_fact h)
def f_X12_isIn (x0 : Int32) (x1 : Int32) (x2 : Int32) : Int32 := (if x0 < x1 then 0 else (if x2 < x0 then 0 else 1))
set_option maxRecDepth 20000 in
theorem zb_X12_isIn {S : Shp} {x0 : Int32} {x1 : Int32} {x2 : Int32} {σ : Mm} {r : Int32} (h : f_X12_isIn x0 x1 x2 = r) : Z m_X12_isIn S (Qi (r, σ)) 0 [(0, .int (x0)), (1, .int (x1)), (2, .int (x2))] [] σ := by
  unfold f_X12_isIn at h
  refine z_iload_n dX12_isIn_0 rfl 0 rfl ?_
  refine z_iload_n dX12_isIn_1 rfl 1 rfl ?_
  refine z_icmp_lt (tgt := 14) dX12_isIn_2 (by decide) (fun q => ?_) (fun q => ?_)
  · have h := (if_pos q).symm.trans h
    refine z_iconst (v := 0) dX12_isIn_14 (by decide) ?_
    subst h
    exact z_ireturn dX12_isIn_15 rfl rfl ⟨rfl, rfl⟩
  · have h := (if_neg q).symm.trans h
    refine z_iload_n dX12_isIn_5 rfl 0 rfl ?_
    refine z_iload_n dX12_isIn_6 rfl 2 rfl ?_
    refine z_icmp_gt (tgt := 14) dX12_isIn_7 (by decide) (fun q => ?_) (fun q => ?_)
    · have h := (if_pos q).symm.trans h
      refine z_iconst (v := 0) dX12_isIn_14 (by decide) ?_
      subst h
      exact z_ireturn dX12_isIn_15 rfl rfl ⟨rfl, rfl⟩
    · have h := (if_neg q).symm.trans h
      refine z_iconst (v := 1) dX12_isIn_10 (by decide) ?_
      refine z_goto (tgt := 15) dX12_isIn_11 (by decide) ?_
      subst h
      exact z_ireturn dX12_isIn_15 rfl rfl ⟨rfl, rfl⟩
/-- SkyStonesModel.isIn(III)Z -/
theorem c_X12_isIn {S : Shp} {x0 : Int32} {x1 : Int32} {x2 : Int32} {σ : Mm} {r : Int32} (h : f_X12_isIn x0 x1 x2 = r) : Ct m_X12_isIn S [.int (x0), .int (x1), .int (x2)] σ (Qi (r, σ)) := Ct.of (by decide +kernel) (Nat.le_of_ble_eq_true rfl) (zb_X12_isIn h)
def F_X12_annul_34 (s0 : Int32) (σ : Mm) : Option (Int32 × Mm) := some (s0, σ)
set_option maxRecDepth 20000 in
theorem zb_X12_annul_34 {S : Shp} {s0 : Int32} {σ : Mm} {r : Int32 × Mm} (h : F_X12_annul_34 s0 σ = some r) : Z m_X12_annul S (Qi r) 34 [] [.int (s0)] σ := by
  unfold F_X12_annul_34 at h
  refine z_goto (tgt := 38) dX12_annul_34 (by decide) ?_
  cases h
  exact z_ireturn dX12_annul_38 rfl rfl ⟨rfl, rfl⟩
def F_X12_annul (x1 : Int32) (σ : Mm) : Option (Int32 × Mm) := (if inb 0 5 = true then (if (f_X12_isIn x1 0 ((mA σ 3 0 38 (0 : Int32).toNatClampNeg) - (1 : Int32))) = 0 then some ((-1), σ) else (if inb x1 300 = true then (if (mA σ 3 0 39 x1.toNatClampNeg) = (4 : Int32) then some ((-1), σ) else (bnd (F_X12_fact 4 ((-1)) x1 0 σ) (fun v τ => (F_X12_annul_34 v τ)))) else none)) else none)
set_option maxRecDepth 20000 in
theorem zb_X12_annul {S : Shp} {x1 : Int32} {σ : Mm} {r : Int32 × Mm} (h : F_X12_annul x1 σ = some r) : Z m_X12_annul S (Qi r) 0 [(0, .ref (sL S 3 0 0)), (1, .int (x1))] [] σ := by
  unfold F_X12_annul at h
  obtain ⟨g1, h⟩ := gd h
  refine z_iload_n dX12_annul_0 rfl 1 rfl ?_
  refine z_iconst (v := 0) dX12_annul_1 (by decide) ?_
  refine z_aload_n dX12_annul_2 rfl 0 rfl ?_
  refine gf_12_127 rfl dX12_annul_3 ?_
  refine z_iconst (v := 0) dX12_annul_6 (by decide) ?_
  refine ia_3_38 (inb_in g1) dX12_annul_7 ?_
  refine z_iconst (v := 1) dX12_annul_8 (by decide) ?_
  refine z_isub dX12_annul_9 ?_
  refine z_callS (M' := m_X12_isIn) (As := [.int (x1), .int (0), .int ((mA σ 3 0 38 (0 : Int32).toNatClampNeg) - (1 : Int32))]) (rest := []) kl_12_407 oy_X12_isIn ⟨Nat.le_of_ble_eq_true rfl, Nat.le_of_ble_eq_true rfl⟩ rfl (Nat.le_of_ble_eq_true rfl) rfl dX12_annul_10 (c_X12_isIn rfl) (fun v τ hq => ?_)
  obtain ⟨rfl, hτ⟩ := hq
  subst τ
  change Z _ _ _ _ _ [.int (f_X12_isIn x1 0 ((mA σ 3 0 38 (0 : Int32).toNatClampNeg) - (1 : Int32)))] _
  refine z_if_eq (tgt := 37) dX12_annul_13 (by decide) (fun q => ?_) (fun q => ?_)
  · have h := (if_pos q).symm.trans h
    refine z_iconst (v := (-1)) dX12_annul_37 (by decide) ?_
    cases h
    exact z_ireturn dX12_annul_38 rfl rfl ⟨rfl, rfl⟩
  · have h := (if_neg q).symm.trans h
    obtain ⟨g2, h⟩ := gd h
    refine z_aload_n dX12_annul_16 rfl 0 rfl ?_
    refine gf_12_130 rfl dX12_annul_17 ?_
    refine z_iload_n dX12_annul_20 rfl 1 rfl ?_
    refine ia_3_39 (inb_in g2) dX12_annul_21 ?_
    refine z_iconst (v := 4) dX12_annul_22 (by decide) ?_
    refine z_icmp_eq (tgt := 37) dX12_annul_23 (by decide) (fun q => ?_) (fun q => ?_)
    · have h := (if_pos q).symm.trans h
      refine z_iconst (v := (-1)) dX12_annul_37 (by decide) ?_
      cases h
      exact z_ireturn dX12_annul_38 rfl rfl ⟨rfl, rfl⟩
    · have h := (if_neg q).symm.trans h
      refine z_aload_n dX12_annul_26 rfl 0 rfl ?_
      refine z_iconst (v := 4) dX12_annul_27 (by decide) ?_
      refine z_iconst (v := (-1)) dX12_annul_28 (by decide) ?_
      refine z_iload_n dX12_annul_29 rfl 1 rfl ?_
      refine z_iconst (v := 0) dX12_annul_30 (by decide) ?_
      obtain ⟨v, τ, hc, h⟩ := bnd_e h
      refine z_callV (M' := m_X12_fact) (t := 3) (i := 0) (k := 0) (As := [.int (4), .int ((-1)), .int (x1), .int (0)]) (rest := []) kl_12_411 oy_X12_fact ⟨Nat.le_of_ble_eq_true rfl, Nat.le_of_ble_eq_true rfl⟩ rfl rfl rfl rfl (Nat.le_of_ble_eq_true rfl) rfl dX12_annul_31 (c_X12_fact hc) (fun v2 τ2 hq => ?_)
      obtain ⟨rfl, hτ⟩ := hq
      subst τ2
      change Z _ _ _ _ _ [.int (v)] _
      refine Z.lv [] rfl ?_
      exact zb_X12_annul_34 h
/-- SkyStonesModel.annul(I)I -/
theorem c_X12_annul {S : Shp} {x1 : Int32} {σ : Mm} {r : Int32 × Mm} (h : F_X12_annul x1 σ = some r) : Ct m_X12_annul S [.ref (sL S 3 0 0), .int (x1)] σ (Qi r) := Ct.of (by decide +kernel) (Nat.le_of_ble_eq_true rfl) (zb_X12_annul h)
def f_X12_isCounting (x0 : Int32) (x1 : Int32) (x2 : Int32) (x3 : Int32) (x4 : Int32) : Int32 := (if (x4 * x1) < (f_X12_plain ((x0 * x2) - (x3 * x1))) then 0 else 1)
set_option maxRecDepth 20000 in
theorem zb_X12_isCounting {S : Shp} {x0 : Int32} {x1 : Int32} {x2 : Int32} {x3 : Int32} {x4 : Int32} {σ : Mm} {r : Int32} (h : f_X12_isCounting x0 x1 x2 x3 x4 = r) : Z m_X12_isCounting S (Qi (r, σ)) 0 [(0, .int (x0)), (1, .int (x1)), (2, .int (x2)), (3, .int (x3)), (4, .int (x4))] [] σ := by
  unfold f_X12_isCounting at h
  refine z_iload_n dX12_isCounting_0 rfl 0 rfl ?_
  refine z_iload_n dX12_isCounting_1 rfl 2 rfl ?_
  refine z_imul dX12_isCounting_2 ?_
  refine z_iload_n dX12_isCounting_3 rfl 3 rfl ?_
  refine z_iload_n dX12_isCounting_4 rfl 1 rfl ?_
  refine z_imul dX12_isCounting_5 ?_
  refine z_isub dX12_isCounting_6 ?_
  refine z_callS (M' := m_X12_plain) (As := [.int ((x0 * x2) - (x3 * x1))]) (rest := []) kl_12_425 oy_X12_plain ⟨Nat.le_of_ble_eq_true rfl, Nat.le_of_ble_eq_true rfl⟩ rfl (Nat.le_of_ble_eq_true rfl) rfl dX12_isCounting_7 (c_X12_plain rfl) (fun v τ hq => ?_)
  obtain ⟨rfl, hτ⟩ := hq
  subst τ
  change Z _ _ _ _ _ [.int (f_X12_plain ((x0 * x2) - (x3 * x1)))] _
  refine z_iload dX12_isCounting_10 4 rfl ?_
  refine z_iload_n dX12_isCounting_12 rfl 1 rfl ?_
  refine z_imul dX12_isCounting_13 ?_
  refine z_icmp_gt (tgt := 21) dX12_isCounting_14 (by decide) (fun q => ?_) (fun q => ?_)
  · have h := (if_pos q).symm.trans h
    refine z_iconst (v := 0) dX12_isCounting_21 (by decide) ?_
    subst h
    exact z_ireturn dX12_isCounting_22 rfl rfl ⟨rfl, rfl⟩
  · have h := (if_neg q).symm.trans h
    refine z_iconst (v := 1) dX12_isCounting_17 (by decide) ?_
    refine z_goto (tgt := 22) dX12_isCounting_18 (by decide) ?_
    subst h
    exact z_ireturn dX12_isCounting_22 rfl rfl ⟨rfl, rfl⟩
/-- SkyStonesModel.isCounting(IIIII)Z -/
theorem c_X12_isCounting {S : Shp} {x0 : Int32} {x1 : Int32} {x2 : Int32} {x3 : Int32} {x4 : Int32} {σ : Mm} {r : Int32} (h : f_X12_isCounting x0 x1 x2 x3 x4 = r) : Ct m_X12_isCounting S [.int (x0), .int (x1), .int (x2), .int (x3), .int (x4)] σ (Qi (r, σ)) := Ct.of (by decide +kernel) (Nat.le_of_ble_eq_true rfl) (zb_X12_isCounting h)
def F_X12_anything_137 (rc61 : Int32 → Int32 → Int32 → Int32 → Int32 → Int32 → Int32 → Mm → Option (Int32 × Mm)) (x1 : Int32) (x2 : Int32) (x3 : Int32) (x4 : Int32) (x5 : Int32) (x7 : Int32) (s0 : Int32) (s1 : Int32) (σ : Mm) : Option (Int32 × Mm) := (rc61 x1 x2 x3 x4 x5 (s1 + s0) (x7 + 1) σ)
set_option maxRecDepth 20000 in
theorem zb_X12_anything_137 {S : Shp} {rc61 : Int32 → Int32 → Int32 → Int32 → Int32 → Int32 → Int32 → Mm → Option (Int32 × Mm)} (hrc61 : ∀ {x1 : Int32} {x2 : Int32} {x3 : Int32} {x4 : Int32} {x5 : Int32} {x6 : Int32} {x7 : Int32} {σ : Mm} {r : Int32 × Mm}, rc61 x1 x2 x3 x4 x5 x6 x7 σ = some r → Z m_X12_anything S (Qi r) 61 [(1, .int (x1)), (2, .int (x2)), (3, .int (x3)), (4, .int (x4)), (5, .int (x5)), (6, .int (x6)), (7, .int (x7))] [] σ) {x1 : Int32} {x2 : Int32} {x3 : Int32} {x4 : Int32} {x5 : Int32} {x7 : Int32} {s0 : Int32} {s1 : Int32} {σ : Mm} {r : Int32 × Mm} (h : F_X12_anything_137 rc61 x1 x2 x3 x4 x5 x7 s0 s1 σ = some r) : Z m_X12_anything S (Qi r) 137 [(1, .int (x1)), (2, .int (x2)), (3, .int (x3)), (4, .int (x4)), (5, .int (x5)), (7, .int (x7))] [.int (s0), .int (s1)] σ := by
  unfold F_X12_anything_137 at h
  refine z_iadd dX12_anything_137 ?_
  refine z_istore (lv' := [(1, .int (x1)), (2, .int (x2)), (3, .int (x3)), (4, .int (x4)), (5, .int (x5)), (6, .int (s1 + s0)), (7, .int (x7))]) dX12_anything_138 (by decide) [1, 2, 3, 4, 5, 0, 6] rfl ?_
  refine z_iinc (j := 6) (v := x7 + 1) (lv' := [(1, .int (x1)), (2, .int (x2)), (3, .int (x3)), (4, .int (x4)), (5, .int (x5)), (6, .int (s1 + s0)), (7, .int (x7 + 1))]) dX12_anything_140 rfl rfl (by decide) [1, 2, 3, 4, 5, 6, 0] rfl ?_
  refine z_goto (tgt := 61) dX12_anything_143 (by decide) ?_
  exact hrc61 h
def F_X12_anything_125 (rc61 : Int32 → Int32 → Int32 → Int32 → Int32 → Int32 → Int32 → Mm → Option (Int32 × Mm)) (x1 : Int32) (x2 : Int32) (x3 : Int32) (x4 : Int32) (x5 : Int32) (x6 : Int32) (x7 : Int32) (x8 : Int32) (σ : Mm) : Option (Int32 × Mm) := (if x8 = 0 then (F_X12_anything_137 rc61 x1 x2 x3 x4 x5 x7 0 x6 σ) else (F_X12_anything_137 rc61 x1 x2 x3 x4 x5 x7 1 x6 σ))
set_option maxRecDepth 20000 in
theorem zb_X12_anything_125 {S : Shp} {rc61 : Int32 → Int32 → Int32 → Int32 → Int32 → Int32 → Int32 → Mm → Option (Int32 × Mm)} (hrc61 : ∀ {x1 : Int32} {x2 : Int32} {x3 : Int32} {x4 : Int32} {x5 : Int32} {x6 : Int32} {x7 : Int32} {σ : Mm} {r : Int32 × Mm}, rc61 x1 x2 x3 x4 x5 x6 x7 σ = some r → Z m_X12_anything S (Qi r) 61 [(1, .int (x1)), (2, .int (x2)), (3, .int (x3)), (4, .int (x4)), (5, .int (x5)), (6, .int (x6)), (7, .int (x7))] [] σ) {x1 : Int32} {x2 : Int32} {x3 : Int32} {x4 : Int32} {x5 : Int32} {x6 : Int32} {x7 : Int32} {x8 : Int32} {σ : Mm} {r : Int32 × Mm} (h : F_X12_anything_125 rc61 x1 x2 x3 x4 x5 x6 x7 x8 σ = some r) : Z m_X12_anything S (Qi r) 125 [(1, .int (x1)), (2, .int (x2)), (3, .int (x3)), (4, .int (x4)), (5, .int (x5)), (6, .int (x6)), (7, .int (x7)), (8, .int (x8))] [] σ := by
  unfold F_X12_anything_125 at h
  refine z_iload dX12_anything_125 5 rfl ?_
  refine z_iload dX12_anything_127 7 rfl ?_
  refine z_if_eq (tgt := 136) dX12_anything_129 (by decide) (fun q => ?_) (fun q => ?_)
  · have h := (if_pos q).symm.trans h
    refine z_iconst (v := 0) dX12_anything_136 (by decide) ?_
    refine Z.lv [0, 1, 2, 3, 4, 6] rfl ?_
    exact zb_X12_anything_137 hrc61 h
  · have h := (if_neg q).symm.trans h
    refine z_iconst (v := 1) dX12_anything_132 (by decide) ?_
    refine z_goto (tgt := 137) dX12_anything_133 (by decide) ?_
    refine Z.lv [0, 1, 2, 3, 4, 6] rfl ?_
    exact zb_X12_anything_137 hrc61 h
def F_X12_anything_119 (rc61 : Int32 → Int32 → Int32 → Int32 → Int32 → Int32 → Int32 → Mm → Option (Int32 × Mm)) (rc74 : Int32 → Int32 → Int32 → Int32 → Int32 → Int32 → Int32 → Int32 → Int32 → Mm → Option (Int32 × Mm)) (x1 : Int32) (x2 : Int32) (x3 : Int32) (x4 : Int32) (x5 : Int32) (x6 : Int32) (x7 : Int32) (x8 : Int32) (x9 : Int32) (σ : Mm) : Option (Int32 × Mm) := (rc74 x1 x2 x3 x4 x5 x6 x7 x8 (x9 + 1) σ)
set_option maxRecDepth 20000 in
theorem zb_X12_anything_119 {S : Shp} {rc61 : Int32 → Int32 → Int32 → Int32 → Int32 → Int32 → Int32 → Mm → Option (Int32 × Mm)} (hrc61 : ∀ {x1 : Int32} {x2 : Int32} {x3 : Int32} {x4 : Int32} {x5 : Int32} {x6 : Int32} {x7 : Int32} {σ : Mm} {r : Int32 × Mm}, rc61 x1 x2 x3 x4 x5 x6 x7 σ = some r → Z m_X12_anything S (Qi r) 61 [(1, .int (x1)), (2, .int (x2)), (3, .int (x3)), (4, .int (x4)), (5, .int (x5)), (6, .int (x6)), (7, .int (x7))] [] σ) {rc74 : Int32 → Int32 → Int32 → Int32 → Int32 → Int32 → Int32 → Int32 → Int32 → Mm → Option (Int32 × Mm)} (hrc74 : ∀ {x1 : Int32} {x2 : Int32} {x3 : Int32} {x4 : Int32} {x5 : Int32} {x6 : Int32} {x7 : Int32} {x8 : Int32} {x9 : Int32} {σ : Mm} {r : Int32 × Mm}, rc74 x1 x2 x3 x4 x5 x6 x7 x8 x9 σ = some r → Z m_X12_anything S (Qi r) 74 [(1, .int (x1)), (2, .int (x2)), (3, .int (x3)), (4, .int (x4)), (5, .int (x5)), (6, .int (x6)), (7, .int (x7)), (8, .int (x8)), (9, .int (x9))] [] σ) {x1 : Int32} {x2 : Int32} {x3 : Int32} {x4 : Int32} {x5 : Int32} {x6 : Int32} {x7 : Int32} {x8 : Int32} {x9 : Int32} {σ : Mm} {r : Int32 × Mm} (h : F_X12_anything_119 rc61 rc74 x1 x2 x3 x4 x5 x6 x7 x8 x9 σ = some r) : Z m_X12_anything S (Qi r) 119 [(1, .int (x1)), (2, .int (x2)), (3, .int (x3)), (4, .int (x4)), (5, .int (x5)), (6, .int (x6)), (7, .int (x7)), (8, .int (x8)), (9, .int (x9))] [] σ := by
  unfold F_X12_anything_119 at h
  refine z_iinc (j := 8) (v := x9 + 1) (lv' := [(1, .int (x1)), (2, .int (x2)), (3, .int (x3)), (4, .int (x4)), (5, .int (x5)), (6, .int (x6)), (7, .int (x7)), (8, .int (x8)), (9, .int (x9 + 1))]) dX12_anything_119 rfl rfl (by decide) [1, 2, 3, 4, 5, 6, 7, 8, 0] rfl ?_
  refine z_goto (tgt := 74) dX12_anything_122 (by decide) ?_
  exact hrc74 h
def F_X12_anything_113 (rc61 : Int32 → Int32 → Int32 → Int32 → Int32 → Int32 → Int32 → Mm → Option (Int32 × Mm)) (rc74 : Int32 → Int32 → Int32 → Int32 → Int32 → Int32 → Int32 → Int32 → Int32 → Mm → Option (Int32 × Mm)) (rc88 : Int32 → Int32 → Int32 → Int32 → Int32 → Int32 → Int32 → Int32 → Int32 → Int32 → Mm → Option (Int32 × Mm)) (x1 : Int32) (x2 : Int32) (x3 : Int32) (x4 : Int32) (x5 : Int32) (x6 : Int32) (x7 : Int32) (x8 : Int32) (x9 : Int32) (x10 : Int32) (σ : Mm) : Option (Int32 × Mm) := (rc88 x1 x2 x3 x4 x5 x6 x7 x8 x9 (x10 + 1) σ)
set_option maxRecDepth 20000 in
theorem zb_X12_anything_113 {S : Shp} {rc61 : Int32 → Int32 → Int32 → Int32 → Int32 → Int32 → Int32 → Mm → Option (Int32 × Mm)} (hrc61 : ∀ {x1 : Int32} {x2 : Int32} {x3 : Int32} {x4 : Int32} {x5 : Int32} {x6 : Int32} {x7 : Int32} {σ : Mm} {r : Int32 × Mm}, rc61 x1 x2 x3 x4 x5 x6 x7 σ = some r → Z m_X12_anything S (Qi r) 61 [(1, .int (x1)), (2, .int (x2)), (3, .int (x3)), (4, .int (x4)), (5, .int (x5)), (6, .int (x6)), (7, .int (x7))] [] σ) {rc74 : Int32 → Int32 → Int32 → Int32 → Int32 → Int32 → Int32 → Int32 → Int32 → Mm → Option (Int32 × Mm)} (hrc74 : ∀ {x1 : Int32} {x2 : Int32} {x3 : Int32} {x4 : Int32} {x5 : Int32} {x6 : Int32} {x7 : Int32} {x8 : Int32} {x9 : Int32} {σ : Mm} {r : Int32 × Mm}, rc74 x1 x2 x3 x4 x5 x6 x7 x8 x9 σ = some r → Z m_X12_anything S (Qi r) 74 [(1, .int (x1)), (2, .int (x2)), (3, .int (x3)), (4, .int (x4)), (5, .int (x5)), (6, .int (x6)), (7, .int (x7)), (8, .int (x8)), (9, .int (x9))] [] σ) {rc88 : Int32 → Int32 → Int32 → Int32 → Int32 → Int32 → Int32 → Int32 → Int32 → Int32 → Mm → Option (Int32 × Mm)} (hrc88 : ∀ {x1 : Int32} {x2 : Int32} {x3 : Int32} {x4 : Int32} {x5 : Int32} {x6 : Int32} {x7 : Int32} {x8 : Int32} {x9 : Int32} {x10 : Int32} {σ : Mm} {r : Int32 × Mm}, rc88 x1 x2 x3 x4 x5 x6 x7 x8 x9 x10 σ = some r → Z m_X12_anything S (Qi r) 88 [(1, .int (x1)), (2, .int (x2)), (3, .int (x3)), (4, .int (x4)), (5, .int (x5)), (6, .int (x6)), (7, .int (x7)), (8, .int (x8)), (9, .int (x9)), (10, .int (x10))] [] σ) {x1 : Int32} {x2 : Int32} {x3 : Int32} {x4 : Int32} {x5 : Int32} {x6 : Int32} {x7 : Int32} {x8 : Int32} {x9 : Int32} {x10 : Int32} {σ : Mm} {r : Int32 × Mm} (h : F_X12_anything_113 rc61 rc74 rc88 x1 x2 x3 x4 x5 x6 x7 x8 x9 x10 σ = some r) : Z m_X12_anything S (Qi r) 113 [(1, .int (x1)), (2, .int (x2)), (3, .int (x3)), (4, .int (x4)), (5, .int (x5)), (6, .int (x6)), (7, .int (x7)), (8, .int (x8)), (9, .int (x9)), (10, .int (x10))] [] σ := by
  unfold F_X12_anything_113 at h
  refine z_iinc (j := 9) (v := x10 + 1) (lv' := [(1, .int (x1)), (2, .int (x2)), (3, .int (x3)), (4, .int (x4)), (5, .int (x5)), (6, .int (x6)), (7, .int (x7)), (8, .int (x8)), (9, .int (x9)), (10, .int (x10 + 1))]) dX12_anything_113 rfl rfl (by decide) [1, 2, 3, 4, 5, 6, 7, 8, 9, 0] rfl ?_
  refine z_goto (tgt := 88) dX12_anything_116 (by decide) ?_
  exact hrc88 h
def B_X12_anything_88 (rc61 : Int32 → Int32 → Int32 → Int32 → Int32 → Int32 → Int32 → Mm → Option (Int32 × Mm)) (rc74 : Int32 → Int32 → Int32 → Int32 → Int32 → Int32 → Int32 → Int32 → Int32 → Mm → Option (Int32 × Mm)) (rc88 : Int32 → Int32 → Int32 → Int32 → Int32 → Int32 → Int32 → Int32 → Int32 → Int32 → Mm → Option (Int32 × Mm)) (x1 : Int32) (x2 : Int32) (x3 : Int32) (x4 : Int32) (x5 : Int32) (x6 : Int32) (x7 : Int32) (x8 : Int32) (x9 : Int32) (x10 : Int32) (σ : Mm) : Option (Int32 × Mm) := (if x3 < x10 then (F_X12_anything_119 rc61 rc74 x1 x2 x3 x4 x5 x6 x7 x8 x9 σ) else (if x8 = 0 then (F_X12_anything_113 rc61 rc74 rc88 x1 x2 x3 x4 x5 x6 x7 (f_X12_isCounting x1 x9 x10 x7 x4) x9 x10 σ) else (F_X12_anything_119 rc61 rc74 x1 x2 x3 x4 x5 x6 x7 x8 x9 σ)))
set_option maxRecDepth 20000 in
theorem zB_X12_anything_88 {S : Shp} {rc61 : Int32 → Int32 → Int32 → Int32 → Int32 → Int32 → Int32 → Mm → Option (Int32 × Mm)} (hrc61 : ∀ {x1 : Int32} {x2 : Int32} {x3 : Int32} {x4 : Int32} {x5 : Int32} {x6 : Int32} {x7 : Int32} {σ : Mm} {r : Int32 × Mm}, rc61 x1 x2 x3 x4 x5 x6 x7 σ = some r → Z m_X12_anything S (Qi r) 61 [(1, .int (x1)), (2, .int (x2)), (3, .int (x3)), (4, .int (x4)), (5, .int (x5)), (6, .int (x6)), (7, .int (x7))] [] σ) {rc74 : Int32 → Int32 → Int32 → Int32 → Int32 → Int32 → Int32 → Int32 → Int32 → Mm → Option (Int32 × Mm)} (hrc74 : ∀ {x1 : Int32} {x2 : Int32} {x3 : Int32} {x4 : Int32} {x5 : Int32} {x6 : Int32} {x7 : Int32} {x8 : Int32} {x9 : Int32} {σ : Mm} {r : Int32 × Mm}, rc74 x1 x2 x3 x4 x5 x6 x7 x8 x9 σ = some r → Z m_X12_anything S (Qi r) 74 [(1, .int (x1)), (2, .int (x2)), (3, .int (x3)), (4, .int (x4)), (5, .int (x5)), (6, .int (x6)), (7, .int (x7)), (8, .int (x8)), (9, .int (x9))] [] σ) {rc88 : Int32 → Int32 → Int32 → Int32 → Int32 → Int32 → Int32 → Int32 → Int32 → Int32 → Mm → Option (Int32 × Mm)} (hrc88 : ∀ {x1 : Int32} {x2 : Int32} {x3 : Int32} {x4 : Int32} {x5 : Int32} {x6 : Int32} {x7 : Int32} {x8 : Int32} {x9 : Int32} {x10 : Int32} {σ : Mm} {r : Int32 × Mm}, rc88 x1 x2 x3 x4 x5 x6 x7 x8 x9 x10 σ = some r → Z m_X12_anything S (Qi r) 88 [(1, .int (x1)), (2, .int (x2)), (3, .int (x3)), (4, .int (x4)), (5, .int (x5)), (6, .int (x6)), (7, .int (x7)), (8, .int (x8)), (9, .int (x9)), (10, .int (x10))] [] σ) {x1 : Int32} {x2 : Int32} {x3 : Int32} {x4 : Int32} {x5 : Int32} {x6 : Int32} {x7 : Int32} {x8 : Int32} {x9 : Int32} {x10 : Int32} {σ : Mm} {r : Int32 × Mm} (h : B_X12_anything_88 rc61 rc74 rc88 x1 x2 x3 x4 x5 x6 x7 x8 x9 x10 σ = some r) : Z m_X12_anything S (Qi r) 88 [(1, .int (x1)), (2, .int (x2)), (3, .int (x3)), (4, .int (x4)), (5, .int (x5)), (6, .int (x6)), (7, .int (x7)), (8, .int (x8)), (9, .int (x9)), (10, .int (x10))] [] σ := by
  unfold B_X12_anything_88 at h
  refine z_iload dX12_anything_88 9 rfl ?_
  refine z_iload_n dX12_anything_90 rfl 2 rfl ?_
  refine z_icmp_gt (tgt := 119) dX12_anything_91 (by decide) (fun q => ?_) (fun q => ?_)
  · have h := (if_pos q).symm.trans h
    refine Z.lv [0, 1, 2, 3, 4, 5, 6, 7, 8] rfl ?_
    exact zb_X12_anything_119 hrc61 hrc74 h
  · have h := (if_neg q).symm.trans h
    refine z_iload dX12_anything_94 7 rfl ?_
    refine z_if_ne (tgt := 119) dX12_anything_96 (by decide) (fun q => ?_) (fun q => ?_)
    · have h := (if_neg q).symm.trans h
      refine Z.lv [0, 1, 2, 3, 4, 5, 6, 7, 8] rfl ?_
      exact zb_X12_anything_119 hrc61 hrc74 h
    · have h := (if_pos q).symm.trans h
      refine z_iload_n dX12_anything_99 rfl 0 rfl ?_
      refine z_iload dX12_anything_100 8 rfl ?_
      refine z_iload dX12_anything_102 9 rfl ?_
      refine z_iload dX12_anything_104 6 rfl ?_
      refine z_iload dX12_anything_106 3 rfl ?_
      refine z_callS (M' := m_X12_isCounting) (As := [.int (x1), .int (x9), .int (x10), .int (x7), .int (x4)]) (rest := []) kl_12_548 oy_X12_isCounting ⟨Nat.le_of_ble_eq_true rfl, Nat.le_of_ble_eq_true rfl⟩ rfl (Nat.le_of_ble_eq_true rfl) rfl dX12_anything_108 (c_X12_isCounting rfl) (fun v τ hq => ?_)
      obtain ⟨rfl, hτ⟩ := hq
      subst τ
      change Z _ _ _ _ _ [.int (f_X12_isCounting x1 x9 x10 x7 x4)] _
      refine z_istore (lv' := [(1, .int (x1)), (2, .int (x2)), (3, .int (x3)), (4, .int (x4)), (5, .int (x5)), (6, .int (x6)), (7, .int (x7)), (8, .int (f_X12_isCounting x1 x9 x10 x7 x4)), (9, .int (x9)), (10, .int (x10))]) dX12_anything_111 (by decide) [1, 2, 3, 4, 5, 6, 7, 0, 8, 9] rfl ?_
      exact zb_X12_anything_113 hrc61 hrc74 hrc88 h
def F_X12_anything_88 (rc61 : Int32 → Int32 → Int32 → Int32 → Int32 → Int32 → Int32 → Mm → Option (Int32 × Mm)) (rc74 : Int32 → Int32 → Int32 → Int32 → Int32 → Int32 → Int32 → Int32 → Int32 → Mm → Option (Int32 × Mm)) : Nat → Int32 → Int32 → Int32 → Int32 → Int32 → Int32 → Int32 → Int32 → Int32 → Int32 → Mm → Option (Int32 × Mm)
  | 0 => fun _ _ _ _ _ _ _ _ _ _ _ => none
  | n + 1 => B_X12_anything_88 rc61 rc74 (F_X12_anything_88 rc61 rc74 n)
theorem zl_X12_anything_88 {S : Shp} {rc61 : Int32 → Int32 → Int32 → Int32 → Int32 → Int32 → Int32 → Mm → Option (Int32 × Mm)} (hrc61 : ∀ {x1 : Int32} {x2 : Int32} {x3 : Int32} {x4 : Int32} {x5 : Int32} {x6 : Int32} {x7 : Int32} {σ : Mm} {r : Int32 × Mm}, rc61 x1 x2 x3 x4 x5 x6 x7 σ = some r → Z m_X12_anything S (Qi r) 61 [(1, .int (x1)), (2, .int (x2)), (3, .int (x3)), (4, .int (x4)), (5, .int (x5)), (6, .int (x6)), (7, .int (x7))] [] σ) {rc74 : Int32 → Int32 → Int32 → Int32 → Int32 → Int32 → Int32 → Int32 → Int32 → Mm → Option (Int32 × Mm)} (hrc74 : ∀ {x1 : Int32} {x2 : Int32} {x3 : Int32} {x4 : Int32} {x5 : Int32} {x6 : Int32} {x7 : Int32} {x8 : Int32} {x9 : Int32} {σ : Mm} {r : Int32 × Mm}, rc74 x1 x2 x3 x4 x5 x6 x7 x8 x9 σ = some r → Z m_X12_anything S (Qi r) 74 [(1, .int (x1)), (2, .int (x2)), (3, .int (x3)), (4, .int (x4)), (5, .int (x5)), (6, .int (x6)), (7, .int (x7)), (8, .int (x8)), (9, .int (x9))] [] σ) : ∀ (nn : Nat) {x1 : Int32} {x2 : Int32} {x3 : Int32} {x4 : Int32} {x5 : Int32} {x6 : Int32} {x7 : Int32} {x8 : Int32} {x9 : Int32} {x10 : Int32} {σ : Mm} {r : Int32 × Mm}, F_X12_anything_88 rc61 rc74 nn x1 x2 x3 x4 x5 x6 x7 x8 x9 x10 σ = some r → Z m_X12_anything S (Qi r) 88 [(1, .int (x1)), (2, .int (x2)), (3, .int (x3)), (4, .int (x4)), (5, .int (x5)), (6, .int (x6)), (7, .int (x7)), (8, .int (x8)), (9, .int (x9)), (10, .int (x10))] [] σ := by
  intro nn
  induction nn with
  | zero => intro x1 x2 x3 x4 x5 x6 x7 x8 x9 x10 σ r h; cases h
  | succ nn ih => intro x1 x2 x3 x4 x5 x6 x7 x8 x9 x10 σ r h; exact zB_X12_anything_88 hrc61 hrc74 @ih h
def B_X12_anything_74 (rc61 : Int32 → Int32 → Int32 → Int32 → Int32 → Int32 → Int32 → Mm → Option (Int32 × Mm)) (rc74 : Int32 → Int32 → Int32 → Int32 → Int32 → Int32 → Int32 → Int32 → Int32 → Mm → Option (Int32 × Mm)) (x1 : Int32) (x2 : Int32) (x3 : Int32) (x4 : Int32) (x5 : Int32) (x6 : Int32) (x7 : Int32) (x8 : Int32) (x9 : Int32) (σ : Mm) : Option (Int32 × Mm) := (if x2 < x9 then (F_X12_anything_125 rc61 x1 x2 x3 x4 x5 x6 x7 x8 σ) else (if x8 = 0 then (F_X12_anything_88 rc61 rc74 FU x1 x2 x3 x4 x5 x6 x7 x8 x9 1 σ) else (F_X12_anything_125 rc61 x1 x2 x3 x4 x5 x6 x7 x8 σ)))
set_option maxRecDepth 20000 in
theorem zB_X12_anything_74 {S : Shp} {rc61 : Int32 → Int32 → Int32 → Int32 → Int32 → Int32 → Int32 → Mm → Option (Int32 × Mm)} (hrc61 : ∀ {x1 : Int32} {x2 : Int32} {x3 : Int32} {x4 : Int32} {x5 : Int32} {x6 : Int32} {x7 : Int32} {σ : Mm} {r : Int32 × Mm}, rc61 x1 x2 x3 x4 x5 x6 x7 σ = some r → Z m_X12_anything S (Qi r) 61 [(1, .int (x1)), (2, .int (x2)), (3, .int (x3)), (4, .int (x4)), (5, .int (x5)), (6, .int (x6)), (7, .int (x7))] [] σ) {rc74 : Int32 → Int32 → Int32 → Int32 → Int32 → Int32 → Int32 → Int32 → Int32 → Mm → Option (Int32 × Mm)} (hrc74 : ∀ {x1 : Int32} {x2 : Int32} {x3 : Int32} {x4 : Int32} {x5 : Int32} {x6 : Int32} {x7 : Int32} {x8 : Int32} {x9 : Int32} {σ : Mm} {r : Int32 × Mm}, rc74 x1 x2 x3 x4 x5 x6 x7 x8 x9 σ = some r → Z m_X12_anything S (Qi r) 74 [(1, .int (x1)), (2, .int (x2)), (3, .int (x3)), (4, .int (x4)), (5, .int (x5)), (6, .int (x6)), (7, .int (x7)), (8, .int (x8)), (9, .int (x9))] [] σ) {x1 : Int32} {x2 : Int32} {x3 : Int32} {x4 : Int32} {x5 : Int32} {x6 : Int32} {x7 : Int32} {x8 : Int32} {x9 : Int32} {σ : Mm} {r : Int32 × Mm} (h : B_X12_anything_74 rc61 rc74 x1 x2 x3 x4 x5 x6 x7 x8 x9 σ = some r) : Z m_X12_anything S (Qi r) 74 [(1, .int (x1)), (2, .int (x2)), (3, .int (x3)), (4, .int (x4)), (5, .int (x5)), (6, .int (x6)), (7, .int (x7)), (8, .int (x8)), (9, .int (x9))] [] σ := by
  unfold B_X12_anything_74 at h
  refine z_iload dX12_anything_74 8 rfl ?_
  refine z_iload_n dX12_anything_76 rfl 1 rfl ?_
  refine z_icmp_gt (tgt := 125) dX12_anything_77 (by decide) (fun q => ?_) (fun q => ?_)
  · have h := (if_pos q).symm.trans h
    refine Z.lv [0, 1, 2, 3, 4, 5, 6, 7] rfl ?_
    exact zb_X12_anything_125 hrc61 h
  · have h := (if_neg q).symm.trans h
    refine z_iload dX12_anything_80 7 rfl ?_
    refine z_if_ne (tgt := 125) dX12_anything_82 (by decide) (fun q => ?_) (fun q => ?_)
    · have h := (if_neg q).symm.trans h
      refine Z.lv [0, 1, 2, 3, 4, 5, 6, 7] rfl ?_
      exact zb_X12_anything_125 hrc61 h
    · have h := (if_pos q).symm.trans h
      refine z_iconst (v := 1) dX12_anything_85 (by decide) ?_
      refine z_istore (lv' := [(1, .int (x1)), (2, .int (x2)), (3, .int (x3)), (4, .int (x4)), (5, .int (x5)), (6, .int (x6)), (7, .int (x7)), (8, .int (x8)), (9, .int (x9)), (10, .int (1))]) dX12_anything_86 (by decide) [1, 2, 3, 4, 5, 6, 7, 8, 9, 0] rfl ?_
      exact zl_X12_anything_88 hrc61 hrc74 FU h
def F_X12_anything_74 (rc61 : Int32 → Int32 → Int32 → Int32 → Int32 → Int32 → Int32 → Mm → Option (Int32 × Mm)) : Nat → Int32 → Int32 → Int32 → Int32 → Int32 → Int32 → Int32 → Int32 → Int32 → Mm → Option (Int32 × Mm)
  | 0 => fun _ _ _ _ _ _ _ _ _ _ => none
  | n + 1 => B_X12_anything_74 rc61 (F_X12_anything_74 rc61 n)
theorem zl_X12_anything_74 {S : Shp} {rc61 : Int32 → Int32 → Int32 → Int32 → Int32 → Int32 → Int32 → Mm → Option (Int32 × Mm)} (hrc61 : ∀ {x1 : Int32} {x2 : Int32} {x3 : Int32} {x4 : Int32} {x5 : Int32} {x6 : Int32} {x7 : Int32} {σ : Mm} {r : Int32 × Mm}, rc61 x1 x2 x3 x4 x5 x6 x7 σ = some r → Z m_X12_anything S (Qi r) 61 [(1, .int (x1)), (2, .int (x2)), (3, .int (x3)), (4, .int (x4)), (5, .int (x5)), (6, .int (x6)), (7, .int (x7))] [] σ) : ∀ (nn : Nat) {x1 : Int32} {x2 : Int32} {x3 : Int32} {x4 : Int32} {x5 : Int32} {x6 : Int32} {x7 : Int32} {x8 : Int32} {x9 : Int32} {σ : Mm} {r : Int32 × Mm}, F_X12_anything_74 rc61 nn x1 x2 x3 x4 x5 x6 x7 x8 x9 σ = some r → Z m_X12_anything S (Qi r) 74 [(1, .int (x1)), (2, .int (x2)), (3, .int (x3)), (4, .int (x4)), (5, .int (x5)), (6, .int (x6)), (7, .int (x7)), (8, .int (x8)), (9, .int (x9))] [] σ := by
  intro nn
  induction nn with
  | zero => intro x1 x2 x3 x4 x5 x6 x7 x8 x9 σ r h; cases h
  | succ nn ih => intro x1 x2 x3 x4 x5 x6 x7 x8 x9 σ r h; exact zB_X12_anything_74 hrc61 @ih h
def B_X12_anything_61 (rc61 : Int32 → Int32 → Int32 → Int32 → Int32 → Int32 → Int32 → Mm → Option (Int32 × Mm)) (x1 : Int32) (x2 : Int32) (x3 : Int32) (x4 : Int32) (x5 : Int32) (x6 : Int32) (x7 : Int32) (σ : Mm) : Option (Int32 × Mm) := (if x5 < x7 then some (x6, σ) else (F_X12_anything_74 rc61 FU x1 x2 x3 x4 x5 x6 x7 0 1 σ))
set_option maxRecDepth 20000 in
theorem zB_X12_anything_61 {S : Shp} {rc61 : Int32 → Int32 → Int32 → Int32 → Int32 → Int32 → Int32 → Mm → Option (Int32 × Mm)} (hrc61 : ∀ {x1 : Int32} {x2 : Int32} {x3 : Int32} {x4 : Int32} {x5 : Int32} {x6 : Int32} {x7 : Int32} {σ : Mm} {r : Int32 × Mm}, rc61 x1 x2 x3 x4 x5 x6 x7 σ = some r → Z m_X12_anything S (Qi r) 61 [(1, .int (x1)), (2, .int (x2)), (3, .int (x3)), (4, .int (x4)), (5, .int (x5)), (6, .int (x6)), (7, .int (x7))] [] σ) {x1 : Int32} {x2 : Int32} {x3 : Int32} {x4 : Int32} {x5 : Int32} {x6 : Int32} {x7 : Int32} {σ : Mm} {r : Int32 × Mm} (h : B_X12_anything_61 rc61 x1 x2 x3 x4 x5 x6 x7 σ = some r) : Z m_X12_anything S (Qi r) 61 [(1, .int (x1)), (2, .int (x2)), (3, .int (x3)), (4, .int (x4)), (5, .int (x5)), (6, .int (x6)), (7, .int (x7))] [] σ := by
  unfold B_X12_anything_61 at h
  refine z_iload dX12_anything_61 6 rfl ?_
  refine z_iload dX12_anything_63 4 rfl ?_
  refine z_icmp_gt (tgt := 146) dX12_anything_65 (by decide) (fun q => ?_) (fun q => ?_)
  · have h := (if_pos q).symm.trans h
    refine z_iload dX12_anything_146 5 rfl ?_
    cases h
    exact z_ireturn dX12_anything_148 rfl rfl ⟨rfl, rfl⟩
  · have h := (if_neg q).symm.trans h
    refine z_iconst (v := 0) dX12_anything_68 (by decide) ?_
    refine z_istore (lv' := [(1, .int (x1)), (2, .int (x2)), (3, .int (x3)), (4, .int (x4)), (5, .int (x5)), (6, .int (x6)), (7, .int (x7)), (8, .int (0))]) dX12_anything_69 (by decide) [1, 2, 3, 4, 5, 6, 7, 0] rfl ?_
    refine z_iconst (v := 1) dX12_anything_71 (by decide) ?_
    refine z_istore (lv' := [(1, .int (x1)), (2, .int (x2)), (3, .int (x3)), (4, .int (x4)), (5, .int (x5)), (6, .int (x6)), (7, .int (x7)), (8, .int (0)), (9, .int (1))]) dX12_anything_72 (by decide) [1, 2, 3, 4, 5, 6, 7, 8, 0] rfl ?_
    exact zl_X12_anything_74 hrc61 FU h
def F_X12_anything_61 : Nat → Int32 → Int32 → Int32 → Int32 → Int32 → Int32 → Int32 → Mm → Option (Int32 × Mm)
  | 0 => fun _ _ _ _ _ _ _ _ => none
  | n + 1 => B_X12_anything_61 (F_X12_anything_61 n)
theorem zl_X12_anything_61 {S : Shp} : ∀ (nn : Nat) {x1 : Int32} {x2 : Int32} {x3 : Int32} {x4 : Int32} {x5 : Int32} {x6 : Int32} {x7 : Int32} {σ : Mm} {r : Int32 × Mm}, F_X12_anything_61 nn x1 x2 x3 x4 x5 x6 x7 σ = some r → Z m_X12_anything S (Qi r) 61 [(1, .int (x1)), (2, .int (x2)), (3, .int (x3)), (4, .int (x4)), (5, .int (x5)), (6, .int (x6)), (7, .int (x7))] [] σ := by
  intro nn
  induction nn with
  | zero => intro x1 x2 x3 x4 x5 x6 x7 σ r h; cases h
  | succ nn ih => intro x1 x2 x3 x4 x5 x6 x7 σ r h; exact zB_X12_anything_61 @ih h
def F_X12_anything (x1 : Int32) (x2 : Int32) (x3 : Int32) (x4 : Int32) (x5 : Int32) (σ : Mm) : Option (Int32 × Mm) := (if (f_X12_isIn x1 1 100) = 0 then some ((-1), σ) else (if (f_X12_isIn x2 1 20) = 0 then some ((-1), σ) else (if (f_X12_isIn x3 1 20) = 0 then some ((-1), σ) else (if (f_X12_isIn x4 0 9) = 0 then some ((-1), σ) else (if (f_X12_isIn x5 1 2000) = 0 then some ((-1), σ) else (F_X12_anything_61 FU x1 x2 x3 x4 x5 0 1 σ))))))
set_option maxRecDepth 20000 in
theorem zb_X12_anything {S : Shp} {x1 : Int32} {x2 : Int32} {x3 : Int32} {x4 : Int32} {x5 : Int32} {σ : Mm} {r : Int32 × Mm} (h : F_X12_anything x1 x2 x3 x4 x5 σ = some r) : Z m_X12_anything S (Qi r) 0 [(0, .ref (sL S 3 0 0)), (1, .int (x1)), (2, .int (x2)), (3, .int (x3)), (4, .int (x4)), (5, .int (x5))] [] σ := by
  unfold F_X12_anything at h
  refine z_iload_n dX12_anything_0 rfl 1 rfl ?_
  refine z_iconst (v := 1) dX12_anything_1 (by decide) ?_
  refine z_bipush (v := 100) dX12_anything_2 (by decide) ?_
  refine z_callS (M' := m_X12_isIn) (As := [.int (x1), .int (1), .int (100)]) (rest := []) kl_12_407 oy_X12_isIn ⟨Nat.le_of_ble_eq_true rfl, Nat.le_of_ble_eq_true rfl⟩ rfl (Nat.le_of_ble_eq_true rfl) rfl dX12_anything_4 (c_X12_isIn rfl) (fun v τ hq => ?_)
  obtain ⟨rfl, hτ⟩ := hq
  subst τ
  change Z _ _ _ _ _ [.int (f_X12_isIn x1 1 100)] _
  refine z_if_eq (tgt := 53) dX12_anything_7 (by decide) (fun q => ?_) (fun q => ?_)
  · have h := (if_pos q).symm.trans h
    refine z_iconst (v := (-1)) dX12_anything_53 (by decide) ?_
    cases h
    exact z_ireturn dX12_anything_54 rfl rfl ⟨rfl, rfl⟩
  · have h := (if_neg q).symm.trans h
    refine z_iload_n dX12_anything_10 rfl 2 rfl ?_
    refine z_iconst (v := 1) dX12_anything_11 (by decide) ?_
    refine z_bipush (v := 20) dX12_anything_12 (by decide) ?_
    refine z_callS (M' := m_X12_isIn) (As := [.int (x2), .int (1), .int (20)]) (rest := []) kl_12_407 oy_X12_isIn ⟨Nat.le_of_ble_eq_true rfl, Nat.le_of_ble_eq_true rfl⟩ rfl (Nat.le_of_ble_eq_true rfl) rfl dX12_anything_14 (c_X12_isIn rfl) (fun v τ hq => ?_)
    obtain ⟨rfl, hτ⟩ := hq
    subst τ
    change Z _ _ _ _ _ [.int (f_X12_isIn x2 1 20)] _
    refine z_if_eq (tgt := 53) dX12_anything_17 (by decide) (fun q => ?_) (fun q => ?_)
    · have h := (if_pos q).symm.trans h
      refine z_iconst (v := (-1)) dX12_anything_53 (by decide) ?_
      cases h
      exact z_ireturn dX12_anything_54 rfl rfl ⟨rfl, rfl⟩
    · have h := (if_neg q).symm.trans h
      refine z_iload_n dX12_anything_20 rfl 3 rfl ?_
      refine z_iconst (v := 1) dX12_anything_21 (by decide) ?_
      refine z_bipush (v := 20) dX12_anything_22 (by decide) ?_
      refine z_callS (M' := m_X12_isIn) (As := [.int (x3), .int (1), .int (20)]) (rest := []) kl_12_407 oy_X12_isIn ⟨Nat.le_of_ble_eq_true rfl, Nat.le_of_ble_eq_true rfl⟩ rfl (Nat.le_of_ble_eq_true rfl) rfl dX12_anything_24 (c_X12_isIn rfl) (fun v τ hq => ?_)
      obtain ⟨rfl, hτ⟩ := hq
      subst τ
      change Z _ _ _ _ _ [.int (f_X12_isIn x3 1 20)] _
      refine z_if_eq (tgt := 53) dX12_anything_27 (by decide) (fun q => ?_) (fun q => ?_)
      · have h := (if_pos q).symm.trans h
        refine z_iconst (v := (-1)) dX12_anything_53 (by decide) ?_
        cases h
        exact z_ireturn dX12_anything_54 rfl rfl ⟨rfl, rfl⟩
      · have h := (if_neg q).symm.trans h
        refine z_iload dX12_anything_30 4 rfl ?_
        refine z_iconst (v := 0) dX12_anything_32 (by decide) ?_
        refine z_bipush (v := 9) dX12_anything_33 (by decide) ?_
        refine z_callS (M' := m_X12_isIn) (As := [.int (x4), .int (0), .int (9)]) (rest := []) kl_12_407 oy_X12_isIn ⟨Nat.le_of_ble_eq_true rfl, Nat.le_of_ble_eq_true rfl⟩ rfl (Nat.le_of_ble_eq_true rfl) rfl dX12_anything_35 (c_X12_isIn rfl) (fun v τ hq => ?_)
        obtain ⟨rfl, hτ⟩ := hq
        subst τ
        change Z _ _ _ _ _ [.int (f_X12_isIn x4 0 9)] _
        refine z_if_eq (tgt := 53) dX12_anything_38 (by decide) (fun q => ?_) (fun q => ?_)
        · have h := (if_pos q).symm.trans h
          refine z_iconst (v := (-1)) dX12_anything_53 (by decide) ?_
          cases h
          exact z_ireturn dX12_anything_54 rfl rfl ⟨rfl, rfl⟩
        · have h := (if_neg q).symm.trans h
          refine z_iload dX12_anything_41 5 rfl ?_
          refine z_iconst (v := 1) dX12_anything_43 (by decide) ?_
          refine z_sipush (v := 2000) dX12_anything_44 (by decide) ?_
          refine z_callS (M' := m_X12_isIn) (As := [.int (x5), .int (1), .int (2000)]) (rest := []) kl_12_407 oy_X12_isIn ⟨Nat.le_of_ble_eq_true rfl, Nat.le_of_ble_eq_true rfl⟩ rfl (Nat.le_of_ble_eq_true rfl) rfl dX12_anything_47 (c_X12_isIn rfl) (fun v τ hq => ?_)
          obtain ⟨rfl, hτ⟩ := hq
          subst τ
          change Z _ _ _ _ _ [.int (f_X12_isIn x5 1 2000)] _
          refine z_if_ne (tgt := 55) dX12_anything_50 (by decide) (fun q => ?_) (fun q => ?_)
          · have h := (if_neg q).symm.trans h
            refine z_iconst (v := 0) dX12_anything_55 (by decide) ?_
            refine z_istore (lv' := [(0, .ref (sL S 3 0 0)), (1, .int (x1)), (2, .int (x2)), (3, .int (x3)), (4, .int (x4)), (5, .int (x5)), (6, .int (0))]) dX12_anything_56 (by decide) [1, 2, 3, 4, 5, 6, 0] rfl ?_
            refine z_iconst (v := 1) dX12_anything_58 (by decide) ?_
            refine z_istore (lv' := [(0, .ref (sL S 3 0 0)), (1, .int (x1)), (2, .int (x2)), (3, .int (x3)), (4, .int (x4)), (5, .int (x5)), (6, .int (0)), (7, .int (1))]) dX12_anything_59 (by decide) [1, 2, 3, 4, 5, 6, 7, 0] rfl ?_
            refine Z.lv [1, 2, 3, 4, 5, 6, 7] rfl ?_
            exact zl_X12_anything_61 FU h
          · have h := (if_pos q).symm.trans h
            refine z_iconst (v := (-1)) dX12_anything_53 (by decide) ?_
            cases h
            exact z_ireturn dX12_anything_54 rfl rfl ⟨rfl, rfl⟩
/-- SkyStonesModel.anything(IIIII)I -/
theorem c_X12_anything {S : Shp} {x1 : Int32} {x2 : Int32} {x3 : Int32} {x4 : Int32} {x5 : Int32} {σ : Mm} {r : Int32 × Mm} (h : F_X12_anything x1 x2 x3 x4 x5 σ = some r) : Ct m_X12_anything S [.ref (sL S 3 0 0), .int (x1), .int (x2), .int (x3), .int (x4), .int (x5)] σ (Qi r) := Ct.of (by decide +kernel) (Nat.le_of_ble_eq_true rfl) (zb_X12_anything h)
def F_X12_asMany_39 (rc13 : Int32 → Int32 → Int32 → Int32 → Mm → Option (Int32 × Mm)) (x1 : Int32) (x2 : Int32) (x4 : Int32) (s0 : Int32) (s1 : Int32) (σ : Mm) : Option (Int32 × Mm) := (rc13 x1 x2 (s1 + s0) (x4 + 1) σ)
set_option maxRecDepth 20000 in
theorem zb_X12_asMany_39 {S : Shp} {rc13 : Int32 → Int32 → Int32 → Int32 → Mm → Option (Int32 × Mm)} (hrc13 : ∀ {x1 : Int32} {x2 : Int32} {x3 : Int32} {x4 : Int32} {σ : Mm} {r : Int32 × Mm}, rc13 x1 x2 x3 x4 σ = some r → Z m_X12_asMany S (Qi r) 13 [(0, .ref (sL S 3 0 0)), (1, .int (x1)), (2, .int (x2)), (3, .int (x3)), (4, .int (x4))] [] σ) {x1 : Int32} {x2 : Int32} {x4 : Int32} {s0 : Int32} {s1 : Int32} {σ : Mm} {r : Int32 × Mm} (h : F_X12_asMany_39 rc13 x1 x2 x4 s0 s1 σ = some r) : Z m_X12_asMany S (Qi r) 39 [(0, .ref (sL S 3 0 0)), (1, .int (x1)), (2, .int (x2)), (4, .int (x4))] [.int (s0), .int (s1)] σ := by
  unfold F_X12_asMany_39 at h
  refine z_iadd dX12_asMany_39 ?_
  refine z_istore_n (lv' := [(0, .ref (sL S 3 0 0)), (1, .int (x1)), (2, .int (x2)), (3, .int (s1 + s0)), (4, .int (x4))]) dX12_asMany_40 rfl (by decide) [1, 2, 3, 0, 4] rfl ?_
  refine z_iinc (j := 4) (v := x4 + 1) (lv' := [(0, .ref (sL S 3 0 0)), (1, .int (x1)), (2, .int (x2)), (3, .int (s1 + s0)), (4, .int (x4 + 1))]) dX12_asMany_41 rfl rfl (by decide) [1, 2, 3, 4, 0] rfl ?_
  refine z_goto (tgt := 13) dX12_asMany_44 (by decide) ?_
  exact hrc13 h
def F_X12_asMany_30 (rc13 : Int32 → Int32 → Int32 → Int32 → Mm → Option (Int32 × Mm)) (x1 : Int32) (x2 : Int32) (x4 : Int32) (s0 : Int32) (s1 : Int32) (σ : Mm) : Option (Int32 × Mm) := (if s0 < x2 then (F_X12_asMany_39 rc13 x1 x2 x4 0 s1 σ) else (F_X12_asMany_39 rc13 x1 x2 x4 1 s1 σ))
set_option maxRecDepth 20000 in
theorem zb_X12_asMany_30 {S : Shp} {rc13 : Int32 → Int32 → Int32 → Int32 → Mm → Option (Int32 × Mm)} (hrc13 : ∀ {x1 : Int32} {x2 : Int32} {x3 : Int32} {x4 : Int32} {σ : Mm} {r : Int32 × Mm}, rc13 x1 x2 x3 x4 σ = some r → Z m_X12_asMany S (Qi r) 13 [(0, .ref (sL S 3 0 0)), (1, .int (x1)), (2, .int (x2)), (3, .int (x3)), (4, .int (x4))] [] σ) {x1 : Int32} {x2 : Int32} {x4 : Int32} {s0 : Int32} {s1 : Int32} {σ : Mm} {r : Int32 × Mm} (h : F_X12_asMany_30 rc13 x1 x2 x4 s0 s1 σ = some r) : Z m_X12_asMany S (Qi r) 30 [(0, .ref (sL S 3 0 0)), (1, .int (x1)), (2, .int (x2)), (4, .int (x4))] [.int (s0), .int (s1)] σ := by
  unfold F_X12_asMany_30 at h
  refine z_iload_n dX12_asMany_30 rfl 2 rfl ?_
  refine z_icmp_lt (tgt := 38) dX12_asMany_31 (by decide) (fun q => ?_) (fun q => ?_)
  · have h := (if_pos q).symm.trans h
    refine z_iconst (v := 0) dX12_asMany_38 (by decide) ?_
    exact zb_X12_asMany_39 hrc13 h
  · have h := (if_neg q).symm.trans h
    refine z_iconst (v := 1) dX12_asMany_34 (by decide) ?_
    refine z_goto (tgt := 39) dX12_asMany_35 (by decide) ?_
    exact zb_X12_asMany_39 hrc13 h
def B_X12_asMany_13 (rc13 : Int32 → Int32 → Int32 → Int32 → Mm → Option (Int32 × Mm)) (x1 : Int32) (x2 : Int32) (x3 : Int32) (x4 : Int32) (σ : Mm) : Option (Int32 × Mm) := (if (360 : Int32) ≤ x4 then some (x3, σ) else (bnd (F_X12_hitsOf x1 x4 0 σ) (fun v τ => (F_X12_asMany_30 rc13 x1 x2 x4 v x3 τ))))
set_option maxRecDepth 20000 in
theorem zB_X12_asMany_13 {S : Shp} {rc13 : Int32 → Int32 → Int32 → Int32 → Mm → Option (Int32 × Mm)} (hrc13 : ∀ {x1 : Int32} {x2 : Int32} {x3 : Int32} {x4 : Int32} {σ : Mm} {r : Int32 × Mm}, rc13 x1 x2 x3 x4 σ = some r → Z m_X12_asMany S (Qi r) 13 [(0, .ref (sL S 3 0 0)), (1, .int (x1)), (2, .int (x2)), (3, .int (x3)), (4, .int (x4))] [] σ) {x1 : Int32} {x2 : Int32} {x3 : Int32} {x4 : Int32} {σ : Mm} {r : Int32 × Mm} (h : B_X12_asMany_13 rc13 x1 x2 x3 x4 σ = some r) : Z m_X12_asMany S (Qi r) 13 [(0, .ref (sL S 3 0 0)), (1, .int (x1)), (2, .int (x2)), (3, .int (x3)), (4, .int (x4))] [] σ := by
  unfold B_X12_asMany_13 at h
  refine z_iload dX12_asMany_13 4 rfl ?_
  refine z_sipush (v := 360) dX12_asMany_15 (by decide) ?_
  refine z_icmp_ge (tgt := 47) dX12_asMany_18 (by decide) (fun q => ?_) (fun q => ?_)
  · have h := (if_pos q).symm.trans h
    refine z_iload_n dX12_asMany_47 rfl 3 rfl ?_
    cases h
    exact z_ireturn dX12_asMany_48 rfl rfl ⟨rfl, rfl⟩
  · have h := (if_neg q).symm.trans h
    refine z_iload_n dX12_asMany_21 rfl 3 rfl ?_
    refine z_aload_n dX12_asMany_22 rfl 0 rfl ?_
    refine z_iload_n dX12_asMany_23 rfl 1 rfl ?_
    refine z_iload dX12_asMany_24 4 rfl ?_
    refine z_iconst (v := 0) dX12_asMany_26 (by decide) ?_
    obtain ⟨v, τ, hc, h⟩ := bnd_e h
    refine z_callV (M' := m_X12_hitsOf) (t := 3) (i := 0) (k := 0) (As := [.int (x1), .int (x4), .int (0)]) (rest := [.int (x3)]) kl_12_497 oy_X12_hitsOf ⟨Nat.le_of_ble_eq_true rfl, Nat.le_of_ble_eq_true rfl⟩ rfl rfl rfl rfl (Nat.le_of_ble_eq_true rfl) rfl dX12_asMany_27 (c_X12_hitsOf hc) (fun v2 τ2 hq => ?_)
    obtain ⟨rfl, hτ⟩ := hq
    subst τ2
    change Z _ _ _ _ _ [.int (v), .int (x3)] _
    refine Z.lv [0, 1, 2, 4] rfl ?_
    exact zb_X12_asMany_30 hrc13 h
def F_X12_asMany_13 : Nat → Int32 → Int32 → Int32 → Int32 → Mm → Option (Int32 × Mm)
  | 0 => fun _ _ _ _ _ => none
  | n + 1 => B_X12_asMany_13 (F_X12_asMany_13 n)
theorem zl_X12_asMany_13 {S : Shp} : ∀ (nn : Nat) {x1 : Int32} {x2 : Int32} {x3 : Int32} {x4 : Int32} {σ : Mm} {r : Int32 × Mm}, F_X12_asMany_13 nn x1 x2 x3 x4 σ = some r → Z m_X12_asMany S (Qi r) 13 [(0, .ref (sL S 3 0 0)), (1, .int (x1)), (2, .int (x2)), (3, .int (x3)), (4, .int (x4))] [] σ := by
  intro nn
  induction nn with
  | zero => intro x1 x2 x3 x4 σ r h; cases h
  | succ nn ih => intro x1 x2 x3 x4 σ r h; exact zB_X12_asMany_13 @ih h
def F_X12_asMany_7 (x1 : Int32) (s0 : Int32) (σ : Mm) : Option (Int32 × Mm) := (F_X12_asMany_13 FU x1 s0 0 0 σ)
set_option maxRecDepth 20000 in
theorem zb_X12_asMany_7 {S : Shp} {x1 : Int32} {s0 : Int32} {σ : Mm} {r : Int32 × Mm} (h : F_X12_asMany_7 x1 s0 σ = some r) : Z m_X12_asMany S (Qi r) 7 [(0, .ref (sL S 3 0 0)), (1, .int (x1))] [.int (s0)] σ := by
  unfold F_X12_asMany_7 at h
  refine z_istore_n (lv' := [(0, .ref (sL S 3 0 0)), (1, .int (x1)), (2, .int (s0))]) dX12_asMany_7 rfl (by decide) [1, 2, 0] rfl ?_
  refine z_iconst (v := 0) dX12_asMany_8 (by decide) ?_
  refine z_istore_n (lv' := [(0, .ref (sL S 3 0 0)), (1, .int (x1)), (2, .int (s0)), (3, .int (0))]) dX12_asMany_9 rfl (by decide) [1, 2, 3, 0] rfl ?_
  refine z_iconst (v := 0) dX12_asMany_10 (by decide) ?_
  refine z_istore (lv' := [(0, .ref (sL S 3 0 0)), (1, .int (x1)), (2, .int (s0)), (3, .int (0)), (4, .int (0))]) dX12_asMany_11 (by decide) [1, 2, 3, 4, 0] rfl ?_
  exact zl_X12_asMany_13 FU h
def F_X12_asMany (x1 : Int32) (σ : Mm) : Option (Int32 × Mm) := (bnd (F_X12_hitsOf x1 0 0 σ) (fun v τ => (F_X12_asMany_7 x1 v τ)))
set_option maxRecDepth 20000 in
theorem zb_X12_asMany {S : Shp} {x1 : Int32} {σ : Mm} {r : Int32 × Mm} (h : F_X12_asMany x1 σ = some r) : Z m_X12_asMany S (Qi r) 0 [(0, .ref (sL S 3 0 0)), (1, .int (x1))] [] σ := by
  unfold F_X12_asMany at h
  refine z_aload_n dX12_asMany_0 rfl 0 rfl ?_
  refine z_iload_n dX12_asMany_1 rfl 1 rfl ?_
  refine z_iconst (v := 0) dX12_asMany_2 (by decide) ?_
  refine z_iconst (v := 0) dX12_asMany_3 (by decide) ?_
  obtain ⟨v, τ, hc, h⟩ := bnd_e h
  refine z_callV (M' := m_X12_hitsOf) (t := 3) (i := 0) (k := 0) (As := [.int (x1), .int (0), .int (0)]) (rest := []) kl_12_497 oy_X12_hitsOf ⟨Nat.le_of_ble_eq_true rfl, Nat.le_of_ble_eq_true rfl⟩ rfl rfl rfl rfl (Nat.le_of_ble_eq_true rfl) rfl dX12_asMany_4 (c_X12_hitsOf hc) (fun v2 τ2 hq => ?_)
  obtain ⟨rfl, hτ⟩ := hq
  subst τ2
  change Z _ _ _ _ _ [.int (v)] _
  exact zb_X12_asMany_7 h
/-- SkyStonesModel.asMany(I)I -/
theorem c_X12_asMany {S : Shp} {x1 : Int32} {σ : Mm} {r : Int32 × Mm} (h : F_X12_asMany x1 σ = some r) : Ct m_X12_asMany S [.ref (sL S 3 0 0), .int (x1)] σ (Qi r) := Ct.of (by decide +kernel) (Nat.le_of_ble_eq_true rfl) (zb_X12_asMany h)
def F_X12_await_10 (σ : Mm) : Option (Mm) := some (setA σ 3 0 0 (upd (mA σ 3 0 0) 56 ((mA σ 3 0 0 56) + (1 : Int32))))
set_option maxRecDepth 20000 in
theorem zb_X12_await_10 {S : Shp} {σ : Mm} {r : Mm} (h : F_X12_await_10 σ = some r) : Z m_X12_await S (Qv r) 10 [(0, .ref (sL S 3 0 0))] [] σ := by
  unfold F_X12_await_10 at h
  refine z_aload_n dX12_await_10 rfl 0 rfl ?_
  refine z_dup dX12_await_11 rfl ?_
  refine gf_12_331 rfl dX12_await_12 ?_
  refine z_iconst (v := 1) dX12_await_15 (by decide) ?_
  refine z_iadd dX12_await_16 ?_
  refine pf_12_331 rfl dX12_await_17 ?_
  cases h
  exact z_return dX12_await_20 rfl ⟨rfl, rfl⟩
def F_X12_await (x1 : Int32) (σ : Mm) : Option (Mm) := (if inb (mA σ 3 0 0 56) 500 = true then (F_X12_await_10 (setA σ 3 0 47 (upd (mA σ 3 0 47) (mA σ 3 0 0 56).toNatClampNeg x1))) else none)
set_option maxRecDepth 20000 in
theorem zb_X12_await {S : Shp} {x1 : Int32} {σ : Mm} {r : Mm} (h : F_X12_await x1 σ = some r) : Z m_X12_await S (Qv r) 0 [(0, .ref (sL S 3 0 0)), (1, .int (x1))] [] σ := by
  unfold F_X12_await at h
  obtain ⟨g1, h⟩ := gd h
  refine z_aload_n dX12_await_0 rfl 0 rfl ?_
  refine gf_12_154 rfl dX12_await_1 ?_
  refine z_aload_n dX12_await_4 rfl 0 rfl ?_
  refine gf_12_331 rfl dX12_await_5 ?_
  refine z_iload_n dX12_await_8 rfl 1 rfl ?_
  refine is_3_47 (inb_in g1) dX12_await_9 ?_
  refine Z.lv [0] rfl ?_
  exact zb_X12_await_10 h
/-- SkyStonesModel.await(I)V -/
theorem c_X12_await {S : Shp} {x1 : Int32} {σ : Mm} {r : Mm} (h : F_X12_await x1 σ = some r) : Ct m_X12_await S [.ref (sL S 3 0 0), .int (x1)] σ (Qv r) := Ct.of (by decide +kernel) (Nat.le_of_ble_eq_true rfl) (zb_X12_await h)
def F_X12_back_24 (σ : Mm) : Option (Int32 × Mm) := some (mA σ 3 0 0 0, σ)
set_option maxRecDepth 20000 in
theorem zb_X12_back_24 {S : Shp} {σ : Mm} {r : Int32 × Mm} (h : F_X12_back_24 σ = some r) : Z m_X12_back S (Qi r) 24 [(0, .ref (sL S 3 0 0))] [] σ := by
  unfold F_X12_back_24 at h
  refine z_aload_n dX12_back_24 rfl 0 rfl ?_
  refine gf_12_222 rfl dX12_back_25 ?_
  cases h
  exact z_ireturn dX12_back_28 rfl rfl ⟨rfl, rfl⟩
def F_X12_back (x1 : Int32) (σ : Mm) : Option (Int32 × Mm) := (if x1 < 0 then some ((-1), σ) else (if x1 ≤ (mA σ 3 0 0 0) then (F_X12_back_24 (setA σ 3 0 0 (upd (mA σ 3 0 0) 0 ((mA σ 3 0 0 0) - x1)))) else some ((-1), σ)))
set_option maxRecDepth 20000 in
theorem zb_X12_back {S : Shp} {x1 : Int32} {σ : Mm} {r : Int32 × Mm} (h : F_X12_back x1 σ = some r) : Z m_X12_back S (Qi r) 0 [(0, .ref (sL S 3 0 0)), (1, .int (x1))] [] σ := by
  unfold F_X12_back at h
  refine z_iload_n dX12_back_0 rfl 1 rfl ?_
  refine z_if_lt (tgt := 12) dX12_back_1 (by decide) (fun q => ?_) (fun q => ?_)
  · have h := (if_pos q).symm.trans h
    refine z_iconst (v := (-1)) dX12_back_12 (by decide) ?_
    cases h
    exact z_ireturn dX12_back_13 rfl rfl ⟨rfl, rfl⟩
  · have h := (if_neg q).symm.trans h
    refine z_iload_n dX12_back_4 rfl 1 rfl ?_
    refine z_aload_n dX12_back_5 rfl 0 rfl ?_
    refine gf_12_222 rfl dX12_back_6 ?_
    refine z_icmp_le (tgt := 14) dX12_back_9 (by decide) (fun q => ?_) (fun q => ?_)
    · have h := (if_pos q).symm.trans h
      refine z_aload_n dX12_back_14 rfl 0 rfl ?_
      refine z_aload_n dX12_back_15 rfl 0 rfl ?_
      refine gf_12_222 rfl dX12_back_16 ?_
      refine z_iload_n dX12_back_19 rfl 1 rfl ?_
      refine z_isub dX12_back_20 ?_
      refine pf_12_222 rfl dX12_back_21 ?_
      refine Z.lv [0] rfl ?_
      exact zb_X12_back_24 h
    · have h := (if_neg q).symm.trans h
      refine z_iconst (v := (-1)) dX12_back_12 (by decide) ?_
      cases h
      exact z_ireturn dX12_back_13 rfl rfl ⟨rfl, rfl⟩
/-- SkyStonesModel.back(I)I -/
theorem c_X12_back {S : Shp} {x1 : Int32} {σ : Mm} {r : Int32 × Mm} (h : F_X12_back x1 σ = some r) : Ct m_X12_back S [.ref (sL S 3 0 0), .int (x1)] σ (Qi r) := Ct.of (by decide +kernel) (Nat.le_of_ble_eq_true rfl) (zb_X12_back h)
def F_X12_begin_63 (σ : Mm) : Option (Mm) := some (setA σ 3 0 0 (upd (mA σ 3 0 0) 49 0))
set_option maxRecDepth 20000 in
theorem zb_X12_begin_63 {S : Shp} {σ : Mm} {r : Mm} (h : F_X12_begin_63 σ = some r) : Z m_X12_begin S (Qv r) 63 [(0, .ref (sL S 3 0 0))] [] σ := by
  unfold F_X12_begin_63 at h
  refine z_aload_n dX12_begin_63 rfl 0 rfl ?_
  refine z_iconst (v := 0) dX12_begin_64 (by decide) ?_
  refine pf_12_364 rfl dX12_begin_65 ?_
  cases h
  exact z_return dX12_begin_68 rfl ⟨rfl, rfl⟩
def F_X12_begin_56 (x1 : Int32) (σ : Mm) : Option (Mm) := (if inb x1 5 = true then (F_X12_begin_63 (setA σ 3 0 38 (upd (mA σ 3 0 38) x1.toNatClampNeg 0))) else none)
set_option maxRecDepth 20000 in
theorem zb_X12_begin_56 {S : Shp} {x1 : Int32} {σ : Mm} {r : Mm} (h : F_X12_begin_56 x1 σ = some r) : Z m_X12_begin S (Qv r) 56 [(0, .ref (sL S 3 0 0)), (1, .int (x1))] [] σ := by
  unfold F_X12_begin_56 at h
  obtain ⟨g9, h⟩ := gd h
  refine z_aload_n dX12_begin_56 rfl 0 rfl ?_
  refine gf_12_127 rfl dX12_begin_57 ?_
  refine z_iload_n dX12_begin_60 rfl 1 rfl ?_
  refine z_iconst (v := 0) dX12_begin_61 (by decide) ?_
  refine is_3_38 (inb_in g9) dX12_begin_62 ?_
  refine Z.lv [0] rfl ?_
  exact zb_X12_begin_63 h
def F_X12_begin_49 (x1 : Int32) (σ : Mm) : Option (Mm) := (if inb x1 5 = true then (F_X12_begin_56 x1 (setA σ 3 0 31 (upd (mA σ 3 0 31) x1.toNatClampNeg 0))) else none)
set_option maxRecDepth 20000 in
theorem zb_X12_begin_49 {S : Shp} {x1 : Int32} {σ : Mm} {r : Mm} (h : F_X12_begin_49 x1 σ = some r) : Z m_X12_begin S (Qv r) 49 [(0, .ref (sL S 3 0 0)), (1, .int (x1))] [] σ := by
  unfold F_X12_begin_49 at h
  obtain ⟨g8, h⟩ := gd h
  refine z_aload_n dX12_begin_49 rfl 0 rfl ?_
  refine gf_12_106 rfl dX12_begin_50 ?_
  refine z_iload_n dX12_begin_53 rfl 1 rfl ?_
  refine z_iconst (v := 0) dX12_begin_54 (by decide) ?_
  refine is_3_31 (inb_in g8) dX12_begin_55 ?_
  exact zb_X12_begin_56 h
def F_X12_begin_42 (x1 : Int32) (σ : Mm) : Option (Mm) := (if inb x1 5 = true then (F_X12_begin_49 x1 (setA σ 3 0 28 (upd (mA σ 3 0 28) x1.toNatClampNeg 0))) else none)
set_option maxRecDepth 20000 in
theorem zb_X12_begin_42 {S : Shp} {x1 : Int32} {σ : Mm} {r : Mm} (h : F_X12_begin_42 x1 σ = some r) : Z m_X12_begin S (Qv r) 42 [(0, .ref (sL S 3 0 0)), (1, .int (x1))] [] σ := by
  unfold F_X12_begin_42 at h
  obtain ⟨g7, h⟩ := gd h
  refine z_aload_n dX12_begin_42 rfl 0 rfl ?_
  refine gf_12_97 rfl dX12_begin_43 ?_
  refine z_iload_n dX12_begin_46 rfl 1 rfl ?_
  refine z_iconst (v := 0) dX12_begin_47 (by decide) ?_
  refine is_3_28 (inb_in g7) dX12_begin_48 ?_
  exact zb_X12_begin_49 h
def F_X12_begin_35 (x1 : Int32) (σ : Mm) : Option (Mm) := (if inb x1 5 = true then (F_X12_begin_42 x1 (setA σ 3 0 25 (upd (mA σ 3 0 25) x1.toNatClampNeg 0))) else none)
set_option maxRecDepth 20000 in
theorem zb_X12_begin_35 {S : Shp} {x1 : Int32} {σ : Mm} {r : Mm} (h : F_X12_begin_35 x1 σ = some r) : Z m_X12_begin S (Qv r) 35 [(0, .ref (sL S 3 0 0)), (1, .int (x1))] [] σ := by
  unfold F_X12_begin_35 at h
  obtain ⟨g6, h⟩ := gd h
  refine z_aload_n dX12_begin_35 rfl 0 rfl ?_
  refine gf_12_88 rfl dX12_begin_36 ?_
  refine z_iload_n dX12_begin_39 rfl 1 rfl ?_
  refine z_iconst (v := 0) dX12_begin_40 (by decide) ?_
  refine is_3_25 (inb_in g6) dX12_begin_41 ?_
  exact zb_X12_begin_42 h
def F_X12_begin_28 (x1 : Int32) (σ : Mm) : Option (Mm) := (if inb x1 5 = true then (F_X12_begin_35 x1 (setA σ 3 0 21 (upd (mA σ 3 0 21) x1.toNatClampNeg 0))) else none)
set_option maxRecDepth 20000 in
theorem zb_X12_begin_28 {S : Shp} {x1 : Int32} {σ : Mm} {r : Mm} (h : F_X12_begin_28 x1 σ = some r) : Z m_X12_begin S (Qv r) 28 [(0, .ref (sL S 3 0 0)), (1, .int (x1))] [] σ := by
  unfold F_X12_begin_28 at h
  obtain ⟨g5, h⟩ := gd h
  refine z_aload_n dX12_begin_28 rfl 0 rfl ?_
  refine gf_12_76 rfl dX12_begin_29 ?_
  refine z_iload_n dX12_begin_32 rfl 1 rfl ?_
  refine z_iconst (v := 0) dX12_begin_33 (by decide) ?_
  refine is_3_21 (inb_in g5) dX12_begin_34 ?_
  exact zb_X12_begin_35 h
def F_X12_begin_21 (x1 : Int32) (σ : Mm) : Option (Mm) := (if inb x1 5 = true then (F_X12_begin_28 x1 (setA σ 3 0 17 (upd (mA σ 3 0 17) x1.toNatClampNeg 0))) else none)
set_option maxRecDepth 20000 in
theorem zb_X12_begin_21 {S : Shp} {x1 : Int32} {σ : Mm} {r : Mm} (h : F_X12_begin_21 x1 σ = some r) : Z m_X12_begin S (Qv r) 21 [(0, .ref (sL S 3 0 0)), (1, .int (x1))] [] σ := by
  unfold F_X12_begin_21 at h
  obtain ⟨g4, h⟩ := gd h
  refine z_aload_n dX12_begin_21 rfl 0 rfl ?_
  refine gf_12_64 rfl dX12_begin_22 ?_
  refine z_iload_n dX12_begin_25 rfl 1 rfl ?_
  refine z_iconst (v := 0) dX12_begin_26 (by decide) ?_
  refine is_3_17 (inb_in g4) dX12_begin_27 ?_
  exact zb_X12_begin_28 h
def F_X12_begin_14 (x1 : Int32) (σ : Mm) : Option (Mm) := (if inb x1 5 = true then (F_X12_begin_21 x1 (setA σ 3 0 14 (upd (mA σ 3 0 14) x1.toNatClampNeg 0))) else none)
set_option maxRecDepth 20000 in
theorem zb_X12_begin_14 {S : Shp} {x1 : Int32} {σ : Mm} {r : Mm} (h : F_X12_begin_14 x1 σ = some r) : Z m_X12_begin S (Qv r) 14 [(0, .ref (sL S 3 0 0)), (1, .int (x1))] [] σ := by
  unfold F_X12_begin_14 at h
  obtain ⟨g3, h⟩ := gd h
  refine z_aload_n dX12_begin_14 rfl 0 rfl ?_
  refine gf_12_55 rfl dX12_begin_15 ?_
  refine z_iload_n dX12_begin_18 rfl 1 rfl ?_
  refine z_iconst (v := 0) dX12_begin_19 (by decide) ?_
  refine is_3_14 (inb_in g3) dX12_begin_20 ?_
  exact zb_X12_begin_21 h
def F_X12_begin_7 (x1 : Int32) (σ : Mm) : Option (Mm) := (if inb x1 5 = true then (F_X12_begin_14 x1 (setA σ 3 0 8 (upd (mA σ 3 0 8) x1.toNatClampNeg 0))) else none)
set_option maxRecDepth 20000 in
theorem zb_X12_begin_7 {S : Shp} {x1 : Int32} {σ : Mm} {r : Mm} (h : F_X12_begin_7 x1 σ = some r) : Z m_X12_begin S (Qv r) 7 [(0, .ref (sL S 3 0 0)), (1, .int (x1))] [] σ := by
  unfold F_X12_begin_7 at h
  obtain ⟨g2, h⟩ := gd h
  refine z_aload_n dX12_begin_7 rfl 0 rfl ?_
  refine gf_12_37 rfl dX12_begin_8 ?_
  refine z_iload_n dX12_begin_11 rfl 1 rfl ?_
  refine z_iconst (v := 0) dX12_begin_12 (by decide) ?_
  refine is_3_8 (inb_in g2) dX12_begin_13 ?_
  exact zb_X12_begin_14 h
def F_X12_begin (x1 : Int32) (σ : Mm) : Option (Mm) := (if inb x1 5 = true then (F_X12_begin_7 x1 (setA σ 3 0 7 (upd (mA σ 3 0 7) x1.toNatClampNeg 2))) else none)
set_option maxRecDepth 20000 in
theorem zb_X12_begin {S : Shp} {x1 : Int32} {σ : Mm} {r : Mm} (h : F_X12_begin x1 σ = some r) : Z m_X12_begin S (Qv r) 0 [(0, .ref (sL S 3 0 0)), (1, .int (x1))] [] σ := by
  unfold F_X12_begin at h
  obtain ⟨g1, h⟩ := gd h
  refine z_aload_n dX12_begin_0 rfl 0 rfl ?_
  refine gf_12_34 rfl dX12_begin_1 ?_
  refine z_iload_n dX12_begin_4 rfl 1 rfl ?_
  refine z_iconst (v := 2) dX12_begin_5 (by decide) ?_
  refine is_3_7 (inb_in g1) dX12_begin_6 ?_
  exact zb_X12_begin_7 h
/-- SkyStonesModel.begin(I)V -/
theorem c_X12_begin {S : Shp} {x1 : Int32} {σ : Mm} {r : Mm} (h : F_X12_begin x1 σ = some r) : Ct m_X12_begin S [.ref (sL S 3 0 0), .int (x1)] σ (Qv r) := Ct.of (by decide +kernel) (Nat.le_of_ble_eq_true rfl) (zb_X12_begin h)
def F_X12_byteAt (x1 : Int32) (σ : Mm) : Option (Int32 × Mm) := (if (mA σ 3 0 0 0) ≤ x1 then some (0, σ) else (if inb x1 2000 = true then some (mA σ 3 0 1 x1.toNatClampNeg, σ) else none))
set_option maxRecDepth 20000 in
theorem zb_X12_byteAt {S : Shp} {x1 : Int32} {σ : Mm} {r : Int32 × Mm} (h : F_X12_byteAt x1 σ = some r) : Z m_X12_byteAt S (Qi r) 0 [(0, .ref (sL S 3 0 0)), (1, .int (x1))] [] σ := by
  unfold F_X12_byteAt at h
  refine z_iload_n dX12_byteAt_0 rfl 1 rfl ?_
  refine z_aload_n dX12_byteAt_1 rfl 0 rfl ?_
  refine gf_12_222 rfl dX12_byteAt_2 ?_
  refine z_icmp_ge (tgt := 17) dX12_byteAt_5 (by decide) (fun q => ?_) (fun q => ?_)
  · have h := (if_pos q).symm.trans h
    refine z_iconst (v := 0) dX12_byteAt_17 (by decide) ?_
    cases h
    exact z_ireturn dX12_byteAt_18 rfl rfl ⟨rfl, rfl⟩
  · have h := (if_neg q).symm.trans h
    obtain ⟨g1, h⟩ := gd h
    refine z_aload_n dX12_byteAt_8 rfl 0 rfl ?_
    refine gf_12_7 rfl dX12_byteAt_9 ?_
    refine z_iload_n dX12_byteAt_12 rfl 1 rfl ?_
    refine ia_3_1 (inb_in g1) dX12_byteAt_13 ?_
    refine z_goto (tgt := 18) dX12_byteAt_14 (by decide) ?_
    cases h
    exact z_ireturn dX12_byteAt_18 rfl rfl ⟨rfl, rfl⟩
/-- SkyStonesModel.byteAt(I)I -/
theorem c_X12_byteAt {S : Shp} {x1 : Int32} {σ : Mm} {r : Int32 × Mm} (h : F_X12_byteAt x1 σ = some r) : Ct m_X12_byteAt S [.ref (sL S 3 0 0), .int (x1)] σ (Qi r) := Ct.of (by decide +kernel) (Nat.le_of_ble_eq_true rfl) (zb_X12_byteAt h)
def F_X12_pointed_51 (rc6 : Int32 → Int32 → Int32 → Int32 → Int32 → Mm → Option (Int32 × Mm)) (x1 : Int32) (x2 : Int32) (x3 : Int32) (x5 : Int32) (s0 : Int32) (s1 : Int32) (σ : Mm) : Option (Int32 × Mm) := (rc6 x1 x2 x3 (s1 + s0) (x5 + 1) σ)
set_option maxRecDepth 20000 in
theorem zb_X12_pointed_51 {S : Shp} {rc6 : Int32 → Int32 → Int32 → Int32 → Int32 → Mm → Option (Int32 × Mm)} (hrc6 : ∀ {x1 : Int32} {x2 : Int32} {x3 : Int32} {x4 : Int32} {x5 : Int32} {σ : Mm} {r : Int32 × Mm}, rc6 x1 x2 x3 x4 x5 σ = some r → Z m_X12_pointed S (Qi r) 6 [(0, .ref (sL S 3 0 0)), (1, .int (x1)), (2, .int (x2)), (3, .int (x3)), (4, .int (x4)), (5, .int (x5))] [] σ) {x1 : Int32} {x2 : Int32} {x3 : Int32} {x5 : Int32} {s0 : Int32} {s1 : Int32} {σ : Mm} {r : Int32 × Mm} (h : F_X12_pointed_51 rc6 x1 x2 x3 x5 s0 s1 σ = some r) : Z m_X12_pointed S (Qi r) 51 [(0, .ref (sL S 3 0 0)), (1, .int (x1)), (2, .int (x2)), (3, .int (x3)), (5, .int (x5))] [.int (s0), .int (s1)] σ := by
  unfold F_X12_pointed_51 at h
  refine z_iadd dX12_pointed_51 ?_
  refine z_istore (lv' := [(0, .ref (sL S 3 0 0)), (1, .int (x1)), (2, .int (x2)), (3, .int (x3)), (4, .int (s1 + s0)), (5, .int (x5))]) dX12_pointed_52 (by decide) [1, 2, 3, 4, 0, 5] rfl ?_
  refine z_iinc (j := 5) (v := x5 + 1) (lv' := [(0, .ref (sL S 3 0 0)), (1, .int (x1)), (2, .int (x2)), (3, .int (x3)), (4, .int (s1 + s0)), (5, .int (x5 + 1))]) dX12_pointed_54 rfl rfl (by decide) [1, 2, 3, 4, 5, 0] rfl ?_
  refine z_goto (tgt := 6) dX12_pointed_57 (by decide) ?_
  exact hrc6 h
def F_X12_pointed_38 (rc6 : Int32 → Int32 → Int32 → Int32 → Int32 → Mm → Option (Int32 × Mm)) (x1 : Int32) (x2 : Int32) (x3 : Int32) (x5 : Int32) (s0 : Int32) (s1 : Int32) (σ : Mm) : Option (Int32 × Mm) := (if x2 < (f_X12_apart s0 x1) then (F_X12_pointed_51 rc6 x1 x2 x3 x5 0 s1 σ) else (F_X12_pointed_51 rc6 x1 x2 x3 x5 1 s1 σ))
set_option maxRecDepth 20000 in
theorem zb_X12_pointed_38 {S : Shp} {rc6 : Int32 → Int32 → Int32 → Int32 → Int32 → Mm → Option (Int32 × Mm)} (hrc6 : ∀ {x1 : Int32} {x2 : Int32} {x3 : Int32} {x4 : Int32} {x5 : Int32} {σ : Mm} {r : Int32 × Mm}, rc6 x1 x2 x3 x4 x5 σ = some r → Z m_X12_pointed S (Qi r) 6 [(0, .ref (sL S 3 0 0)), (1, .int (x1)), (2, .int (x2)), (3, .int (x3)), (4, .int (x4)), (5, .int (x5))] [] σ) {x1 : Int32} {x2 : Int32} {x3 : Int32} {x5 : Int32} {s0 : Int32} {s1 : Int32} {σ : Mm} {r : Int32 × Mm} (h : F_X12_pointed_38 rc6 x1 x2 x3 x5 s0 s1 σ = some r) : Z m_X12_pointed S (Qi r) 38 [(0, .ref (sL S 3 0 0)), (1, .int (x1)), (2, .int (x2)), (3, .int (x3)), (5, .int (x5))] [.int (s0), .int (s1)] σ := by
  unfold F_X12_pointed_38 at h
  refine z_iload_n dX12_pointed_38 rfl 1 rfl ?_
  refine z_callS (M' := m_X12_apart) (As := [.int (s0), .int (x1)]) (rest := [.int (s1)]) kl_12_478 oy_X12_apart ⟨Nat.le_of_ble_eq_true rfl, Nat.le_of_ble_eq_true rfl⟩ rfl (Nat.le_of_ble_eq_true rfl) rfl dX12_pointed_39 (c_X12_apart rfl) (fun v τ hq => ?_)
  obtain ⟨rfl, hτ⟩ := hq
  subst τ
  change Z _ _ _ _ _ [.int (f_X12_apart s0 x1), .int (s1)] _
  refine z_iload_n dX12_pointed_42 rfl 2 rfl ?_
  refine z_icmp_gt (tgt := 50) dX12_pointed_43 (by decide) (fun q => ?_) (fun q => ?_)
  · have h := (if_pos q).symm.trans h
    refine z_iconst (v := 0) dX12_pointed_50 (by decide) ?_
    exact zb_X12_pointed_51 hrc6 h
  · have h := (if_neg q).symm.trans h
    refine z_iconst (v := 1) dX12_pointed_46 (by decide) ?_
    refine z_goto (tgt := 51) dX12_pointed_47 (by decide) ?_
    exact zb_X12_pointed_51 hrc6 h
def B_X12_pointed_6 (rc6 : Int32 → Int32 → Int32 → Int32 → Int32 → Mm → Option (Int32 × Mm)) (x1 : Int32) (x2 : Int32) (x3 : Int32) (x4 : Int32) (x5 : Int32) (σ : Mm) : Option (Int32 × Mm) := (if (mA σ 3 0 0 52) ≤ x5 then some (x4, σ) else (if x3 = 0 then (if inb x5 6 = true then (F_X12_pointed_38 rc6 x1 x2 x3 x5 (mA σ 3 0 45 x5.toNatClampNeg) x4 σ) else none) else (if inb x5 6 = true then (F_X12_pointed_38 rc6 x1 x2 x3 x5 (mA σ 3 0 46 x5.toNatClampNeg) x4 σ) else none)))
set_option maxRecDepth 20000 in
theorem zB_X12_pointed_6 {S : Shp} {rc6 : Int32 → Int32 → Int32 → Int32 → Int32 → Mm → Option (Int32 × Mm)} (hrc6 : ∀ {x1 : Int32} {x2 : Int32} {x3 : Int32} {x4 : Int32} {x5 : Int32} {σ : Mm} {r : Int32 × Mm}, rc6 x1 x2 x3 x4 x5 σ = some r → Z m_X12_pointed S (Qi r) 6 [(0, .ref (sL S 3 0 0)), (1, .int (x1)), (2, .int (x2)), (3, .int (x3)), (4, .int (x4)), (5, .int (x5))] [] σ) {x1 : Int32} {x2 : Int32} {x3 : Int32} {x4 : Int32} {x5 : Int32} {σ : Mm} {r : Int32 × Mm} (h : B_X12_pointed_6 rc6 x1 x2 x3 x4 x5 σ = some r) : Z m_X12_pointed S (Qi r) 6 [(0, .ref (sL S 3 0 0)), (1, .int (x1)), (2, .int (x2)), (3, .int (x3)), (4, .int (x4)), (5, .int (x5))] [] σ := by
  unfold B_X12_pointed_6 at h
  refine z_iload dX12_pointed_6 5 rfl ?_
  refine z_aload_n dX12_pointed_8 rfl 0 rfl ?_
  refine gf_12_513 rfl dX12_pointed_9 ?_
  refine z_icmp_ge (tgt := 60) dX12_pointed_12 (by decide) (fun q => ?_) (fun q => ?_)
  · have h := (if_pos q).symm.trans h
    refine z_iload dX12_pointed_60 4 rfl ?_
    cases h
    exact z_ireturn dX12_pointed_62 rfl rfl ⟨rfl, rfl⟩
  · have h := (if_neg q).symm.trans h
    refine z_iload dX12_pointed_15 4 rfl ?_
    refine z_iload_n dX12_pointed_17 rfl 3 rfl ?_
    refine z_if_eq (tgt := 31) dX12_pointed_18 (by decide) (fun q => ?_) (fun q => ?_)
    · have h := (if_pos q).symm.trans h
      obtain ⟨g1, h⟩ := gd h
      refine z_aload_n dX12_pointed_31 rfl 0 rfl ?_
      refine gf_12_148 rfl dX12_pointed_32 ?_
      refine z_iload dX12_pointed_35 5 rfl ?_
      refine ia_3_45 (inb_in g1) dX12_pointed_37 ?_
      refine Z.lv [0, 1, 2, 3, 5] rfl ?_
      exact zb_X12_pointed_38 hrc6 h
    · have h := (if_neg q).symm.trans h
      obtain ⟨g2, h⟩ := gd h
      refine z_aload_n dX12_pointed_21 rfl 0 rfl ?_
      refine gf_12_151 rfl dX12_pointed_22 ?_
      refine z_iload dX12_pointed_25 5 rfl ?_
      refine ia_3_46 (inb_in g2) dX12_pointed_27 ?_
      refine z_goto (tgt := 38) dX12_pointed_28 (by decide) ?_
      refine Z.lv [0, 1, 2, 3, 5] rfl ?_
      exact zb_X12_pointed_38 hrc6 h
def F_X12_pointed_6 : Nat → Int32 → Int32 → Int32 → Int32 → Int32 → Mm → Option (Int32 × Mm)
  | 0 => fun _ _ _ _ _ _ => none
  | n + 1 => B_X12_pointed_6 (F_X12_pointed_6 n)
theorem zl_X12_pointed_6 {S : Shp} : ∀ (nn : Nat) {x1 : Int32} {x2 : Int32} {x3 : Int32} {x4 : Int32} {x5 : Int32} {σ : Mm} {r : Int32 × Mm}, F_X12_pointed_6 nn x1 x2 x3 x4 x5 σ = some r → Z m_X12_pointed S (Qi r) 6 [(0, .ref (sL S 3 0 0)), (1, .int (x1)), (2, .int (x2)), (3, .int (x3)), (4, .int (x4)), (5, .int (x5))] [] σ := by
  intro nn
  induction nn with
  | zero => intro x1 x2 x3 x4 x5 σ r h; cases h
  | succ nn ih => intro x1 x2 x3 x4 x5 σ r h; exact zB_X12_pointed_6 @ih h
def F_X12_pointed (x1 : Int32) (x2 : Int32) (x3 : Int32) (σ : Mm) : Option (Int32 × Mm) := (F_X12_pointed_6 FU x1 x2 x3 0 0 σ)
set_option maxRecDepth 20000 in
theorem zb_X12_pointed {S : Shp} {x1 : Int32} {x2 : Int32} {x3 : Int32} {σ : Mm} {r : Int32 × Mm} (h : F_X12_pointed x1 x2 x3 σ = some r) : Z m_X12_pointed S (Qi r) 0 [(0, .ref (sL S 3 0 0)), (1, .int (x1)), (2, .int (x2)), (3, .int (x3))] [] σ := by
  unfold F_X12_pointed at h
  refine z_iconst (v := 0) dX12_pointed_0 (by decide) ?_
  refine z_istore (lv' := [(0, .ref (sL S 3 0 0)), (1, .int (x1)), (2, .int (x2)), (3, .int (x3)), (4, .int (0))]) dX12_pointed_1 (by decide) [1, 2, 3, 4, 0] rfl ?_
  refine z_iconst (v := 0) dX12_pointed_3 (by decide) ?_
  refine z_istore (lv' := [(0, .ref (sL S 3 0 0)), (1, .int (x1)), (2, .int (x2)), (3, .int (x3)), (4, .int (0)), (5, .int (0))]) dX12_pointed_4 (by decide) [1, 2, 3, 4, 5, 0] rfl ?_
  exact zl_X12_pointed_6 FU h
/-- SkyStonesModel.pointed(IIZ)I -/
theorem c_X12_pointed {S : Shp} {x1 : Int32} {x2 : Int32} {x3 : Int32} {σ : Mm} {r : Int32 × Mm} (h : F_X12_pointed x1 x2 x3 σ = some r) : Ct m_X12_pointed S [.ref (sL S 3 0 0), .int (x1), .int (x2), .int (x3)] σ (Qi r) := Ct.of (by decide +kernel) (Nat.le_of_ble_eq_true rfl) (zb_X12_pointed h)
def F_X12_chosen_25 (rc5 : Int32 → Int32 → Int64 → Int32 → Mm → Option (Int64 × Mm)) (x0 : Int32) (x1 : Int32) (x2 : Int64) (x4 : Int32) (σ : Mm) : Option (Int64 × Mm) := (rc5 x0 x1 x2 (x4 + 1) σ)
set_option maxRecDepth 20000 in
theorem zb_X12_chosen_25 {S : Shp} {rc5 : Int32 → Int32 → Int64 → Int32 → Mm → Option (Int64 × Mm)} (hrc5 : ∀ {x0 : Int32} {x1 : Int32} {x2 : Int64} {x4 : Int32} {σ : Mm} {r : Int64 × Mm}, rc5 x0 x1 x2 x4 σ = some r → Z m_X12_chosen S (Ql r) 5 [(0, .int (x0)), (1, .int (x1)), (2, .long (x2)), (4, .int (x4))] [] σ) {x0 : Int32} {x1 : Int32} {x2 : Int64} {x4 : Int32} {σ : Mm} {r : Int64 × Mm} (h : F_X12_chosen_25 rc5 x0 x1 x2 x4 σ = some r) : Z m_X12_chosen S (Ql r) 25 [(0, .int (x0)), (1, .int (x1)), (2, .long (x2)), (4, .int (x4))] [] σ := by
  unfold F_X12_chosen_25 at h
  refine z_iinc (j := 3) (v := x4 + 1) (lv' := [(0, .int (x0)), (1, .int (x1)), (2, .long (x2)), (4, .int (x4 + 1))]) dX12_chosen_25 rfl rfl (by decide) [1, 2, 3, 0] rfl ?_
  refine z_goto (tgt := 5) dX12_chosen_28 (by decide) ?_
  exact hrc5 h
def B_X12_chosen_5 (rc5 : Int32 → Int32 → Int64 → Int32 → Mm → Option (Int64 × Mm)) (x0 : Int32) (x1 : Int32) (x2 : Int64) (x4 : Int32) (σ : Mm) : Option (Int64 × Mm) := (if x1 < x4 then some (x2, σ) else (if ¬ (Int32.toInt64 x4) = 0 then (F_X12_chosen_25 rc5 x0 x1 ((x2 * (Int32.toInt64 ((x0 - x1) + x4))) / (Int32.toInt64 x4)) x4 σ) else none))
set_option maxRecDepth 20000 in
theorem zB_X12_chosen_5 {S : Shp} {rc5 : Int32 → Int32 → Int64 → Int32 → Mm → Option (Int64 × Mm)} (hrc5 : ∀ {x0 : Int32} {x1 : Int32} {x2 : Int64} {x4 : Int32} {σ : Mm} {r : Int64 × Mm}, rc5 x0 x1 x2 x4 σ = some r → Z m_X12_chosen S (Ql r) 5 [(0, .int (x0)), (1, .int (x1)), (2, .long (x2)), (4, .int (x4))] [] σ) {x0 : Int32} {x1 : Int32} {x2 : Int64} {x4 : Int32} {σ : Mm} {r : Int64 × Mm} (h : B_X12_chosen_5 rc5 x0 x1 x2 x4 σ = some r) : Z m_X12_chosen S (Ql r) 5 [(0, .int (x0)), (1, .int (x1)), (2, .long (x2)), (4, .int (x4))] [] σ := by
  unfold B_X12_chosen_5 at h
  refine z_iload dX12_chosen_5 3 rfl ?_
  refine z_iload_n dX12_chosen_7 rfl 1 rfl ?_
  refine z_icmp_gt (tgt := 31) dX12_chosen_8 (by decide) (fun q => ?_) (fun q => ?_)
  · have h := (if_pos q).symm.trans h
    refine z_lload_n dX12_chosen_31 rfl 2 rfl ?_
    cases h
    exact z_lreturn dX12_chosen_32 rfl ⟨rfl, rfl⟩
  · have h := (if_neg q).symm.trans h
    obtain ⟨g1, h⟩ := gd h
    refine z_lload_n dX12_chosen_11 rfl 2 rfl ?_
    refine z_iload_n dX12_chosen_12 rfl 0 rfl ?_
    refine z_iload_n dX12_chosen_13 rfl 1 rfl ?_
    refine z_isub dX12_chosen_14 ?_
    refine z_iload dX12_chosen_15 3 rfl ?_
    refine z_iadd dX12_chosen_17 ?_
    refine z_i2l dX12_chosen_18 ?_
    refine z_lmul dX12_chosen_19 ?_
    refine z_iload dX12_chosen_20 3 rfl ?_
    refine z_i2l dX12_chosen_22 ?_
    refine z_ldiv dX12_chosen_23 g1 ?_
    refine z_lstore_n (lv' := [(0, .int (x0)), (1, .int (x1)), (2, .long ((x2 * (Int32.toInt64 ((x0 - x1) + x4))) / (Int32.toInt64 x4))), (4, .int (x4))]) dX12_chosen_24 rfl (by decide) [1, 2, 0, 3] rfl ?_
    exact zb_X12_chosen_25 hrc5 h
def F_X12_chosen_5 : Nat → Int32 → Int32 → Int64 → Int32 → Mm → Option (Int64 × Mm)
  | 0 => fun _ _ _ _ _ => none
  | n + 1 => B_X12_chosen_5 (F_X12_chosen_5 n)
theorem zl_X12_chosen_5 {S : Shp} : ∀ (nn : Nat) {x0 : Int32} {x1 : Int32} {x2 : Int64} {x4 : Int32} {σ : Mm} {r : Int64 × Mm}, F_X12_chosen_5 nn x0 x1 x2 x4 σ = some r → Z m_X12_chosen S (Ql r) 5 [(0, .int (x0)), (1, .int (x1)), (2, .long (x2)), (4, .int (x4))] [] σ := by
  intro nn
  induction nn with
  | zero => intro x0 x1 x2 x4 σ r h; cases h
  | succ nn ih => intro x0 x1 x2 x4 σ r h; exact zB_X12_chosen_5 @ih h
def F_X12_chosen (x0 : Int32) (x1 : Int32) (σ : Mm) : Option (Int64 × Mm) := (F_X12_chosen_5 FU x0 x1 1 1 σ)
set_option maxRecDepth 20000 in
theorem zb_X12_chosen {S : Shp} {x0 : Int32} {x1 : Int32} {σ : Mm} {r : Int64 × Mm} (h : F_X12_chosen x0 x1 σ = some r) : Z m_X12_chosen S (Ql r) 0 [(0, .int (x0)), (1, .int (x1))] [] σ := by
  unfold F_X12_chosen at h
  refine z_lconst (v := 1) dX12_chosen_0 (by decide) ?_
  refine z_lstore_n (lv' := [(0, .int (x0)), (1, .int (x1)), (2, .long (1))]) dX12_chosen_1 rfl (by decide) [1, 2, 0] rfl ?_
  refine z_iconst (v := 1) dX12_chosen_2 (by decide) ?_
  refine z_istore (lv' := [(0, .int (x0)), (1, .int (x1)), (2, .long (1)), (4, .int (1))]) dX12_chosen_3 (by decide) [1, 2, 3, 0] rfl ?_
  exact zl_X12_chosen_5 FU h
/-- SkyStonesModel.chosen(II)J -/
theorem c_X12_chosen {S : Shp} {x0 : Int32} {x1 : Int32} {σ : Mm} {r : Int64 × Mm} (h : F_X12_chosen x0 x1 σ = some r) : Ct m_X12_chosen S [.int (x0), .int (x1)] σ (Ql r) := Ct.of (by decide +kernel) (Nat.le_of_ble_eq_true rfl) (zb_X12_chosen h)
