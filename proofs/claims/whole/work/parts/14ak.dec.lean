def F_X12_again_30 (σ : Mm) : Option (Int32 × Mm) := some (1, σ)
set_option maxRecDepth 20000 in
theorem zb_X12_again_30 {S : Shp} {σ : Mm} {r : Int32 × Mm} (h : F_X12_again_30 σ = some r) : Z m_X12_again S (Qi r) 30 [] [] σ := by
  unfold F_X12_again_30 at h
  refine z_iconst (v := 1) dX12_again_30 (by decide) ?_
  cases h
  exact z_ireturn dX12_again_31 rfl rfl ⟨rfl, rfl⟩
def F_X12_again (x1 : Int32) (σ : Mm) : Option (Int32 × Mm) := (if x1 < 0 then some (0, σ) else (if (2 : Int32) < x1 then some (0, σ) else (if inb ((2 : Int32) + x1) 5 = true then (if (mA σ 3 0 6 ((2 : Int32) + x1).toNatClampNeg) = 0 then some (0, σ) else (bnv (F_X12_copy ((2 : Int32) + x1) 0 σ) (fun τ => (F_X12_again_30 τ)))) else none)))
set_option maxRecDepth 20000 in
theorem zb_X12_again {S : Shp} {x1 : Int32} {σ : Mm} {r : Int32 × Mm} (h : F_X12_again x1 σ = some r) : Z m_X12_again S (Qi r) 0 [(0, .ref (sL S 3 0 0)), (1, .int (x1))] [] σ := by
  unfold F_X12_again at h
  refine z_iload_n dX12_again_0 rfl 1 rfl ?_
  refine z_if_lt (tgt := 20) dX12_again_1 (by decide) (fun q => ?_) (fun q => ?_)
  · have h := (if_pos q).symm.trans h
    refine z_iconst (v := 0) dX12_again_20 (by decide) ?_
    cases h
    exact z_ireturn dX12_again_21 rfl rfl ⟨rfl, rfl⟩
  · have h := (if_neg q).symm.trans h
    refine z_iload_n dX12_again_4 rfl 1 rfl ?_
    refine z_iconst (v := 2) dX12_again_5 (by decide) ?_
    refine z_icmp_gt (tgt := 20) dX12_again_6 (by decide) (fun q => ?_) (fun q => ?_)
    · have h := (if_pos q).symm.trans h
      refine z_iconst (v := 0) dX12_again_20 (by decide) ?_
      cases h
      exact z_ireturn dX12_again_21 rfl rfl ⟨rfl, rfl⟩
    · have h := (if_neg q).symm.trans h
      obtain ⟨g1, h⟩ := gd h
      refine z_aload_n dX12_again_9 rfl 0 rfl ?_
      refine gf_12_30 rfl dX12_again_10 ?_
      refine z_iconst (v := 2) dX12_again_13 (by decide) ?_
      refine z_iload_n dX12_again_14 rfl 1 rfl ?_
      refine z_iadd dX12_again_15 ?_
      refine ia_3_6 (inb_in g1) dX12_again_16 ?_
      refine z_if_ne (tgt := 22) dX12_again_17 (by decide) (fun q => ?_) (fun q => ?_)
      · have h := (if_neg q).symm.trans h
        refine z_aload_n dX12_again_22 rfl 0 rfl ?_
        refine z_iconst (v := 2) dX12_again_23 (by decide) ?_
        refine z_iload_n dX12_again_24 rfl 1 rfl ?_
        refine z_iadd dX12_again_25 ?_
        refine z_iconst (v := 0) dX12_again_26 (by decide) ?_
        obtain ⟨τ, hc, h⟩ := bnv_e h
        refine z_callV (M' := m_X12_copy) (t := 3) (i := 0) (k := 0) (As := [.int ((2 : Int32) + x1), .int (0)]) (rest := []) kl_12_404 oy_X12_copy ⟨Nat.le_of_ble_eq_true rfl, Nat.le_of_ble_eq_true rfl⟩ rfl rfl rfl rfl (Nat.le_of_ble_eq_true rfl) rfl dX12_again_27 (c_X12_copy hc) (fun v2 τ2 hq => ?_)
        obtain ⟨rfl, hτ⟩ := hq
        subst τ2
        change Z _ _ _ _ _ [] _
        refine Z.lv [] rfl ?_
        exact zb_X12_again_30 h
      · have h := (if_pos q).symm.trans h
        refine z_iconst (v := 0) dX12_again_20 (by decide) ?_
        cases h
        exact z_ireturn dX12_again_21 rfl rfl ⟨rfl, rfl⟩
/-- SkyStonesModel.again(I)Z -/
theorem c_X12_again {S : Shp} {x1 : Int32} {σ : Mm} {r : Int32 × Mm} (h : F_X12_again x1 σ = some r) : Ct m_X12_again S [.ref (sL S 3 0 0), .int (x1)] σ (Qi r) := Ct.of (by decide +kernel) (Nat.le_of_ble_eq_true rfl) (zb_X12_again h)
def f_X12_plain (x0 : Int32) : Int32 := (if 0 ≤ x0 then x0 else -x0)
set_option maxRecDepth 20000 in
theorem zb_X12_plain {S : Shp} {x0 : Int32} {σ : Mm} {r : Int32} (h : f_X12_plain x0 = r) : Z m_X12_plain S (Qi (r, σ)) 0 [(0, .int (x0))] [] σ := by
  unfold f_X12_plain at h
  refine z_iload_n dX12_plain_0 rfl 0 rfl ?_
  refine z_if_ge (tgt := 9) dX12_plain_1 (by decide) (fun q => ?_) (fun q => ?_)
  · have h := (if_pos q).symm.trans h
    refine z_iload_n dX12_plain_9 rfl 0 rfl ?_
    subst h
    exact z_ireturn dX12_plain_10 rfl rfl ⟨rfl, rfl⟩
  · have h := (if_neg q).symm.trans h
    refine z_iload_n dX12_plain_4 rfl 0 rfl ?_
    refine z_ineg dX12_plain_5 ?_
    refine z_goto (tgt := 10) dX12_plain_6 (by decide) ?_
    subst h
    exact z_ireturn dX12_plain_10 rfl rfl ⟨rfl, rfl⟩
/-- SkyStonesModel.plain(I)I -/
theorem c_X12_plain {S : Shp} {x0 : Int32} {σ : Mm} {r : Int32} (h : f_X12_plain x0 = r) : Ct m_X12_plain S [.int (x0)] σ (Qi (r, σ)) := Ct.of (by decide +kernel) (Nat.le_of_ble_eq_true rfl) (zb_X12_plain h)
def f_X12_apart (x0 : Int32) (x1 : Int32) : Int32 := (if (f_X12_plain (x0 - x1)) ≤ (180 : Int32) then f_X12_plain (x0 - x1) else (360 : Int32) - (f_X12_plain (x0 - x1)))
set_option maxRecDepth 20000 in
theorem zb_X12_apart {S : Shp} {x0 : Int32} {x1 : Int32} {σ : Mm} {r : Int32} (h : f_X12_apart x0 x1 = r) : Z m_X12_apart S (Qi (r, σ)) 0 [(0, .int (x0)), (1, .int (x1))] [] σ := by
  unfold f_X12_apart at h
  refine z_iload_n dX12_apart_0 rfl 0 rfl ?_
  refine z_iload_n dX12_apart_1 rfl 1 rfl ?_
  refine z_isub dX12_apart_2 ?_
  refine z_callS (M' := m_X12_plain) (As := [.int (x0 - x1)]) (rest := []) kl_12_425 oy_X12_plain ⟨Nat.le_of_ble_eq_true rfl, Nat.le_of_ble_eq_true rfl⟩ rfl (Nat.le_of_ble_eq_true rfl) rfl dX12_apart_3 (c_X12_plain rfl) (fun v τ hq => ?_)
  obtain ⟨rfl, hτ⟩ := hq
  subst τ
  change Z _ _ _ _ _ [.int (f_X12_plain (x0 - x1))] _
  refine z_istore_n (lv' := [(0, .int (x0)), (1, .int (x1)), (2, .int (f_X12_plain (x0 - x1)))]) dX12_apart_6 rfl (by decide) [1, 2, 0] rfl ?_
  refine z_iload_n dX12_apart_7 rfl 2 rfl ?_
  refine z_sipush (v := 180) dX12_apart_8 (by decide) ?_
  refine z_icmp_le (tgt := 22) dX12_apart_11 (by decide) (fun q => ?_) (fun q => ?_)
  · have h := (if_pos q).symm.trans h
    refine z_iload_n dX12_apart_22 rfl 2 rfl ?_
    subst h
    exact z_ireturn dX12_apart_23 rfl rfl ⟨rfl, rfl⟩
  · have h := (if_neg q).symm.trans h
    refine z_sipush (v := 360) dX12_apart_14 (by decide) ?_
    refine z_iload_n dX12_apart_17 rfl 2 rfl ?_
    refine z_isub dX12_apart_18 ?_
    refine z_goto (tgt := 23) dX12_apart_19 (by decide) ?_
    subst h
    exact z_ireturn dX12_apart_23 rfl rfl ⟨rfl, rfl⟩
/-- SkyStonesModel.apart(II)I -/
theorem c_X12_apart {S : Shp} {x0 : Int32} {x1 : Int32} {σ : Mm} {r : Int32} (h : f_X12_apart x0 x1 = r) : Ct m_X12_apart S [.int (x0), .int (x1)] σ (Qi (r, σ)) := Ct.of (by decide +kernel) (Nat.le_of_ble_eq_true rfl) (zb_X12_apart h)
def F_X12_hitBy_65 (rc6 : Int32 → Int32 → Int32 → Int32 → Int32 → Mm → Option (Int32 × Mm)) (x1 : Int32) (x2 : Int32) (x3 : Int32) (x4 : Int32) (x5 : Int32) (σ : Mm) : Option (Int32 × Mm) := (rc6 x1 x2 x3 x4 (x5 + 1) σ)
set_option maxRecDepth 20000 in
theorem zb_X12_hitBy_65 {S : Shp} {rc6 : Int32 → Int32 → Int32 → Int32 → Int32 → Mm → Option (Int32 × Mm)} (hrc6 : ∀ {x1 : Int32} {x2 : Int32} {x3 : Int32} {x4 : Int32} {x5 : Int32} {σ : Mm} {r : Int32 × Mm}, rc6 x1 x2 x3 x4 x5 σ = some r → Z m_X12_hitBy S (Qi r) 6 [(0, .ref (sL S 3 0 0)), (1, .int (x1)), (2, .int (x2)), (3, .int (x3)), (4, .int (x4)), (5, .int (x5))] [] σ) {x1 : Int32} {x2 : Int32} {x3 : Int32} {x4 : Int32} {x5 : Int32} {σ : Mm} {r : Int32 × Mm} (h : F_X12_hitBy_65 rc6 x1 x2 x3 x4 x5 σ = some r) : Z m_X12_hitBy S (Qi r) 65 [(0, .ref (sL S 3 0 0)), (1, .int (x1)), (2, .int (x2)), (3, .int (x3)), (4, .int (x4)), (5, .int (x5))] [] σ := by
  unfold F_X12_hitBy_65 at h
  refine z_iinc (j := 5) (v := x5 + 1) (lv' := [(0, .ref (sL S 3 0 0)), (1, .int (x1)), (2, .int (x2)), (3, .int (x3)), (4, .int (x4)), (5, .int (x5 + 1))]) dX12_hitBy_65 rfl rfl (by decide) [1, 2, 3, 4, 5, 0] rfl ?_
  refine z_goto (tgt := 6) dX12_hitBy_68 (by decide) ?_
  exact hrc6 h
def F_X12_hitBy_53 (rc6 : Int32 → Int32 → Int32 → Int32 → Int32 → Mm → Option (Int32 × Mm)) (x1 : Int32) (x2 : Int32) (x3 : Int32) (x4 : Int32) (x5 : Int32) (s0 : Int32) (s1 : Int32) (σ : Mm) : Option (Int32 × Mm) := (if s0 < s1 then (F_X12_hitBy_65 rc6 x1 x2 x3 x4 x5 σ) else (F_X12_hitBy_65 rc6 x1 x2 x3 (x4 ||| ((1 : Int32) <<< (x5 &&& 31))) x5 σ))
set_option maxRecDepth 20000 in
theorem zb_X12_hitBy_53 {S : Shp} {rc6 : Int32 → Int32 → Int32 → Int32 → Int32 → Mm → Option (Int32 × Mm)} (hrc6 : ∀ {x1 : Int32} {x2 : Int32} {x3 : Int32} {x4 : Int32} {x5 : Int32} {σ : Mm} {r : Int32 × Mm}, rc6 x1 x2 x3 x4 x5 σ = some r → Z m_X12_hitBy S (Qi r) 6 [(0, .ref (sL S 3 0 0)), (1, .int (x1)), (2, .int (x2)), (3, .int (x3)), (4, .int (x4)), (5, .int (x5))] [] σ) {x1 : Int32} {x2 : Int32} {x3 : Int32} {x4 : Int32} {x5 : Int32} {s0 : Int32} {s1 : Int32} {σ : Mm} {r : Int32 × Mm} (h : F_X12_hitBy_53 rc6 x1 x2 x3 x4 x5 s0 s1 σ = some r) : Z m_X12_hitBy S (Qi r) 53 [(0, .ref (sL S 3 0 0)), (1, .int (x1)), (2, .int (x2)), (3, .int (x3)), (4, .int (x4)), (5, .int (x5))] [.int (s0), .int (s1)] σ := by
  unfold F_X12_hitBy_53 at h
  refine z_icmp_gt (tgt := 65) dX12_hitBy_53 (by decide) (fun q => ?_) (fun q => ?_)
  · have h := (if_pos q).symm.trans h
    exact zb_X12_hitBy_65 hrc6 h
  · have h := (if_neg q).symm.trans h
    refine z_iload dX12_hitBy_56 4 rfl ?_
    refine z_iconst (v := 1) dX12_hitBy_58 (by decide) ?_
    refine z_iload dX12_hitBy_59 5 rfl ?_
    refine z_ishl dX12_hitBy_61 ?_
    refine z_ior dX12_hitBy_62 ?_
    refine z_istore (lv' := [(0, .ref (sL S 3 0 0)), (1, .int (x1)), (2, .int (x2)), (3, .int (x3)), (4, .int (x4 ||| ((1 : Int32) <<< (x5 &&& 31)))), (5, .int (x5))]) dX12_hitBy_63 (by decide) [1, 2, 3, 4, 0, 5] rfl ?_
    exact zb_X12_hitBy_65 hrc6 h
def B_X12_hitBy_6 (rc6 : Int32 → Int32 → Int32 → Int32 → Int32 → Mm → Option (Int32 × Mm)) (x1 : Int32) (x2 : Int32) (x3 : Int32) (x4 : Int32) (x5 : Int32) (σ : Mm) : Option (Int32 × Mm) := (if inb 0 5 = true then (if (mA σ 3 0 21 (0 : Int32).toNatClampNeg) ≤ x5 then some (x4, σ) else (if inb x5 5 = true then (if x3 = 0 then (if inb x5 25 = true then (F_X12_hitBy_53 rc6 x1 x2 x3 x4 x5 (x2 + (mA σ 3 0 22 x5.toNatClampNeg)) (f_X12_apart x1 (mA σ 3 0 58 x5.toNatClampNeg)) σ) else none) else (if inb x5 25 = true then (F_X12_hitBy_53 rc6 x1 x2 x3 x4 x5 (x2 - (mA σ 3 0 22 x5.toNatClampNeg)) (f_X12_apart x1 (mA σ 3 0 58 x5.toNatClampNeg)) σ) else none)) else none)) else none)
set_option maxRecDepth 20000 in
theorem zB_X12_hitBy_6 {S : Shp} {rc6 : Int32 → Int32 → Int32 → Int32 → Int32 → Mm → Option (Int32 × Mm)} (hrc6 : ∀ {x1 : Int32} {x2 : Int32} {x3 : Int32} {x4 : Int32} {x5 : Int32} {σ : Mm} {r : Int32 × Mm}, rc6 x1 x2 x3 x4 x5 σ = some r → Z m_X12_hitBy S (Qi r) 6 [(0, .ref (sL S 3 0 0)), (1, .int (x1)), (2, .int (x2)), (3, .int (x3)), (4, .int (x4)), (5, .int (x5))] [] σ) {x1 : Int32} {x2 : Int32} {x3 : Int32} {x4 : Int32} {x5 : Int32} {σ : Mm} {r : Int32 × Mm} (h : B_X12_hitBy_6 rc6 x1 x2 x3 x4 x5 σ = some r) : Z m_X12_hitBy S (Qi r) 6 [(0, .ref (sL S 3 0 0)), (1, .int (x1)), (2, .int (x2)), (3, .int (x3)), (4, .int (x4)), (5, .int (x5))] [] σ := by
  unfold B_X12_hitBy_6 at h
  obtain ⟨g1, h⟩ := gd h
  refine z_iload dX12_hitBy_6 5 rfl ?_
  refine z_aload_n dX12_hitBy_8 rfl 0 rfl ?_
  refine gf_12_76 rfl dX12_hitBy_9 ?_
  refine z_iconst (v := 0) dX12_hitBy_12 (by decide) ?_
  refine ia_3_21 (inb_in g1) dX12_hitBy_13 ?_
  refine z_icmp_ge (tgt := 71) dX12_hitBy_14 (by decide) (fun q => ?_) (fun q => ?_)
  · have h := (if_pos q).symm.trans h
    refine z_iload dX12_hitBy_71 4 rfl ?_
    cases h
    exact z_ireturn dX12_hitBy_73 rfl rfl ⟨rfl, rfl⟩
  · have h := (if_neg q).symm.trans h
    obtain ⟨g2, h⟩ := gd h
    refine z_iload_n dX12_hitBy_17 rfl 1 rfl ?_
    refine z_aload_n dX12_hitBy_18 rfl 0 rfl ?_
    refine gf_12_187 rfl dX12_hitBy_19 ?_
    refine z_iload dX12_hitBy_22 5 rfl ?_
    refine ia_3_58 (inb_in g2) dX12_hitBy_24 ?_
    refine z_callS (M' := m_X12_apart) (As := [.int (x1), .int (mA σ 3 0 58 x5.toNatClampNeg)]) (rest := []) kl_12_478 oy_X12_apart ⟨Nat.le_of_ble_eq_true rfl, Nat.le_of_ble_eq_true rfl⟩ rfl (Nat.le_of_ble_eq_true rfl) rfl dX12_hitBy_25 (c_X12_apart rfl) (fun v τ hq => ?_)
    obtain ⟨rfl, hτ⟩ := hq
    subst τ
    change Z _ _ _ _ _ [.int (f_X12_apart x1 (mA σ 3 0 58 x5.toNatClampNeg))] _
    refine z_iload_n dX12_hitBy_28 rfl 3 rfl ?_
    refine z_if_eq (tgt := 44) dX12_hitBy_29 (by decide) (fun q => ?_) (fun q => ?_)
    · have h := (if_pos q).symm.trans h
      obtain ⟨g3, h⟩ := gd h
      refine z_iload_n dX12_hitBy_44 rfl 2 rfl ?_
      refine z_aload_n dX12_hitBy_45 rfl 0 rfl ?_
      refine gf_12_79 rfl dX12_hitBy_46 ?_
      refine z_iload dX12_hitBy_49 5 rfl ?_
      refine ia_3_22 (inb_in g3) dX12_hitBy_51 ?_
      refine z_iadd dX12_hitBy_52 ?_
      exact zb_X12_hitBy_53 hrc6 h
    · have h := (if_neg q).symm.trans h
      obtain ⟨g4, h⟩ := gd h
      refine z_iload_n dX12_hitBy_32 rfl 2 rfl ?_
      refine z_aload_n dX12_hitBy_33 rfl 0 rfl ?_
      refine gf_12_79 rfl dX12_hitBy_34 ?_
      refine z_iload dX12_hitBy_37 5 rfl ?_
      refine ia_3_22 (inb_in g4) dX12_hitBy_39 ?_
      refine z_isub dX12_hitBy_40 ?_
      refine z_goto (tgt := 53) dX12_hitBy_41 (by decide) ?_
      exact zb_X12_hitBy_53 hrc6 h
def F_X12_hitBy_6 : Nat → Int32 → Int32 → Int32 → Int32 → Int32 → Mm → Option (Int32 × Mm)
  | 0 => fun _ _ _ _ _ _ => none
  | n + 1 => B_X12_hitBy_6 (F_X12_hitBy_6 n)
theorem zl_X12_hitBy_6 {S : Shp} : ∀ (nn : Nat) {x1 : Int32} {x2 : Int32} {x3 : Int32} {x4 : Int32} {x5 : Int32} {σ : Mm} {r : Int32 × Mm}, F_X12_hitBy_6 nn x1 x2 x3 x4 x5 σ = some r → Z m_X12_hitBy S (Qi r) 6 [(0, .ref (sL S 3 0 0)), (1, .int (x1)), (2, .int (x2)), (3, .int (x3)), (4, .int (x4)), (5, .int (x5))] [] σ := by
  intro nn
  induction nn with
  | zero => intro x1 x2 x3 x4 x5 σ r h; cases h
  | succ nn ih => intro x1 x2 x3 x4 x5 σ r h; exact zB_X12_hitBy_6 @ih h
def F_X12_hitBy (x1 : Int32) (x2 : Int32) (x3 : Int32) (σ : Mm) : Option (Int32 × Mm) := (F_X12_hitBy_6 FU x1 x2 x3 0 0 σ)
set_option maxRecDepth 20000 in
theorem zb_X12_hitBy {S : Shp} {x1 : Int32} {x2 : Int32} {x3 : Int32} {σ : Mm} {r : Int32 × Mm} (h : F_X12_hitBy x1 x2 x3 σ = some r) : Z m_X12_hitBy S (Qi r) 0 [(0, .ref (sL S 3 0 0)), (1, .int (x1)), (2, .int (x2)), (3, .int (x3))] [] σ := by
  unfold F_X12_hitBy at h
  refine z_iconst (v := 0) dX12_hitBy_0 (by decide) ?_
  refine z_istore (lv' := [(0, .ref (sL S 3 0 0)), (1, .int (x1)), (2, .int (x2)), (3, .int (x3)), (4, .int (0))]) dX12_hitBy_1 (by decide) [1, 2, 3, 4, 0] rfl ?_
  refine z_iconst (v := 0) dX12_hitBy_3 (by decide) ?_
  refine z_istore (lv' := [(0, .ref (sL S 3 0 0)), (1, .int (x1)), (2, .int (x2)), (3, .int (x3)), (4, .int (0)), (5, .int (0))]) dX12_hitBy_4 (by decide) [1, 2, 3, 4, 5, 0] rfl ?_
  exact zl_X12_hitBy_6 FU h
/-- SkyStonesModel.hitBy(IIZ)I -/
theorem c_X12_hitBy {S : Shp} {x1 : Int32} {x2 : Int32} {x3 : Int32} {σ : Mm} {r : Int32 × Mm} (h : F_X12_hitBy x1 x2 x3 σ = some r) : Ct m_X12_hitBy S [.ref (sL S 3 0 0), .int (x1), .int (x2), .int (x3)] σ (Qi r) := Ct.of (by decide +kernel) (Nat.le_of_ble_eq_true rfl) (zb_X12_hitBy h)
def f_X12_turned (x0 : Int32) (x1 : Int32) : Int32 := (x0 + x1) - (x0 + x1) / (360 : Int32) * (360 : Int32)
set_option maxRecDepth 20000 in
theorem zb_X12_turned {S : Shp} {x0 : Int32} {x1 : Int32} {σ : Mm} {r : Int32} (h : f_X12_turned x0 x1 = r) : Z m_X12_turned S (Qi (r, σ)) 0 [(0, .int (x0)), (1, .int (x1))] [] σ := by
  unfold f_X12_turned at h
  refine z_iload_n dX12_turned_0 rfl 0 rfl ?_
  refine z_iload_n dX12_turned_1 rfl 1 rfl ?_
  refine z_iadd dX12_turned_2 ?_
  refine z_sipush (v := 360) dX12_turned_3 (by decide) ?_
  refine z_irem dX12_turned_6 (by decide) ?_
  subst h
  exact z_ireturn dX12_turned_7 rfl rfl ⟨rfl, rfl⟩
/-- SkyStonesModel.turned(II)I -/
theorem c_X12_turned {S : Shp} {x0 : Int32} {x1 : Int32} {σ : Mm} {r : Int32} (h : f_X12_turned x0 x1 = r) : Ct m_X12_turned S [.int (x0), .int (x1)] σ (Qi (r, σ)) := Ct.of (by decide +kernel) (Nat.le_of_ble_eq_true rfl) (zb_X12_turned h)
def F_X12_hitsOf_54 (rc6 : Int32 → Int32 → Int32 → Int32 → Int32 → Mm → Option (Int32 × Mm)) (x1 : Int32) (x2 : Int32) (x3 : Int32) (x4 : Int32) (x5 : Int32) (σ : Mm) : Option (Int32 × Mm) := (rc6 x1 x2 x3 x4 (x5 + 1) σ)
set_option maxRecDepth 20000 in
theorem zb_X12_hitsOf_54 {S : Shp} {rc6 : Int32 → Int32 → Int32 → Int32 → Int32 → Mm → Option (Int32 × Mm)} (hrc6 : ∀ {x1 : Int32} {x2 : Int32} {x3 : Int32} {x4 : Int32} {x5 : Int32} {σ : Mm} {r : Int32 × Mm}, rc6 x1 x2 x3 x4 x5 σ = some r → Z m_X12_hitsOf S (Qi r) 6 [(0, .ref (sL S 3 0 0)), (1, .int (x1)), (2, .int (x2)), (3, .int (x3)), (4, .int (x4)), (5, .int (x5))] [] σ) {x1 : Int32} {x2 : Int32} {x3 : Int32} {x4 : Int32} {x5 : Int32} {σ : Mm} {r : Int32 × Mm} (h : F_X12_hitsOf_54 rc6 x1 x2 x3 x4 x5 σ = some r) : Z m_X12_hitsOf S (Qi r) 54 [(0, .ref (sL S 3 0 0)), (1, .int (x1)), (2, .int (x2)), (3, .int (x3)), (4, .int (x4)), (5, .int (x5))] [] σ := by
  unfold F_X12_hitsOf_54 at h
  refine z_iinc (j := 5) (v := x5 + 1) (lv' := [(0, .ref (sL S 3 0 0)), (1, .int (x1)), (2, .int (x2)), (3, .int (x3)), (4, .int (x4)), (5, .int (x5 + 1))]) dX12_hitsOf_54 rfl rfl (by decide) [1, 2, 3, 4, 5, 0] rfl ?_
  refine z_goto (tgt := 6) dX12_hitsOf_57 (by decide) ?_
  exact hrc6 h
def F_X12_hitsOf_46 (rc6 : Int32 → Int32 → Int32 → Int32 → Int32 → Mm → Option (Int32 × Mm)) (x1 : Int32) (x2 : Int32) (x3 : Int32) (x4 : Int32) (x5 : Int32) (s0 : Int32) (σ : Mm) : Option (Int32 × Mm) := (if (s0 &&& x1) = 0 then (F_X12_hitsOf_54 rc6 x1 x2 x3 x4 x5 σ) else (F_X12_hitsOf_54 rc6 x1 x2 x3 (x4 + 1) x5 σ))
set_option maxRecDepth 20000 in
theorem zb_X12_hitsOf_46 {S : Shp} {rc6 : Int32 → Int32 → Int32 → Int32 → Int32 → Mm → Option (Int32 × Mm)} (hrc6 : ∀ {x1 : Int32} {x2 : Int32} {x3 : Int32} {x4 : Int32} {x5 : Int32} {σ : Mm} {r : Int32 × Mm}, rc6 x1 x2 x3 x4 x5 σ = some r → Z m_X12_hitsOf S (Qi r) 6 [(0, .ref (sL S 3 0 0)), (1, .int (x1)), (2, .int (x2)), (3, .int (x3)), (4, .int (x4)), (5, .int (x5))] [] σ) {x1 : Int32} {x2 : Int32} {x3 : Int32} {x4 : Int32} {x5 : Int32} {s0 : Int32} {σ : Mm} {r : Int32 × Mm} (h : F_X12_hitsOf_46 rc6 x1 x2 x3 x4 x5 s0 σ = some r) : Z m_X12_hitsOf S (Qi r) 46 [(0, .ref (sL S 3 0 0)), (1, .int (x1)), (2, .int (x2)), (3, .int (x3)), (4, .int (x4)), (5, .int (x5))] [.int (s0)] σ := by
  unfold F_X12_hitsOf_46 at h
  refine z_iload_n dX12_hitsOf_46 rfl 1 rfl ?_
  refine z_iand dX12_hitsOf_47 ?_
  refine z_if_eq (tgt := 54) dX12_hitsOf_48 (by decide) (fun q => ?_) (fun q => ?_)
  · have h := (if_pos q).symm.trans h
    exact zb_X12_hitsOf_54 hrc6 h
  · have h := (if_neg q).symm.trans h
    refine z_iinc (j := 4) (v := x4 + 1) (lv' := [(0, .ref (sL S 3 0 0)), (1, .int (x1)), (2, .int (x2)), (3, .int (x3)), (4, .int (x4 + 1)), (5, .int (x5))]) dX12_hitsOf_51 rfl rfl (by decide) [1, 2, 3, 4, 0, 5] rfl ?_
    exact zb_X12_hitsOf_54 hrc6 h
def B_X12_hitsOf_6 (rc6 : Int32 → Int32 → Int32 → Int32 → Int32 → Mm → Option (Int32 × Mm)) (x1 : Int32) (x2 : Int32) (x3 : Int32) (x4 : Int32) (x5 : Int32) (σ : Mm) : Option (Int32 × Mm) := (if (196 : Int32) ≤ x5 then some (x4, σ) else (if inb x5 196 = true then (if (mA σ 3 0 55 x5.toNatClampNeg) = 0 then (F_X12_hitsOf_54 rc6 x1 x2 x3 x4 x5 σ) else (if inb x5 196 = true then (if inb 0 5 = true then (bnd (F_X12_hitBy (f_X12_turned (mA σ 3 0 53 x5.toNatClampNeg) x2) (mA σ 3 0 7 (0 : Int32).toNatClampNeg) x3 σ) (fun v τ => (F_X12_hitsOf_46 rc6 x1 x2 x3 x4 x5 v τ))) else none) else none)) else none))
set_option maxRecDepth 20000 in
theorem zB_X12_hitsOf_6 {S : Shp} {rc6 : Int32 → Int32 → Int32 → Int32 → Int32 → Mm → Option (Int32 × Mm)} (hrc6 : ∀ {x1 : Int32} {x2 : Int32} {x3 : Int32} {x4 : Int32} {x5 : Int32} {σ : Mm} {r : Int32 × Mm}, rc6 x1 x2 x3 x4 x5 σ = some r → Z m_X12_hitsOf S (Qi r) 6 [(0, .ref (sL S 3 0 0)), (1, .int (x1)), (2, .int (x2)), (3, .int (x3)), (4, .int (x4)), (5, .int (x5))] [] σ) {x1 : Int32} {x2 : Int32} {x3 : Int32} {x4 : Int32} {x5 : Int32} {σ : Mm} {r : Int32 × Mm} (h : B_X12_hitsOf_6 rc6 x1 x2 x3 x4 x5 σ = some r) : Z m_X12_hitsOf S (Qi r) 6 [(0, .ref (sL S 3 0 0)), (1, .int (x1)), (2, .int (x2)), (3, .int (x3)), (4, .int (x4)), (5, .int (x5))] [] σ := by
  unfold B_X12_hitsOf_6 at h
  refine z_iload dX12_hitsOf_6 5 rfl ?_
  refine z_sipush (v := 196) dX12_hitsOf_8 (by decide) ?_
  refine z_icmp_ge (tgt := 60) dX12_hitsOf_11 (by decide) (fun q => ?_) (fun q => ?_)
  · have h := (if_pos q).symm.trans h
    refine z_iload dX12_hitsOf_60 4 rfl ?_
    cases h
    exact z_ireturn dX12_hitsOf_62 rfl rfl ⟨rfl, rfl⟩
  · have h := (if_neg q).symm.trans h
    obtain ⟨g1, h⟩ := gd h
    refine z_aload_n dX12_hitsOf_14 rfl 0 rfl ?_
    refine gf_12_178 rfl dX12_hitsOf_15 ?_
    refine z_iload dX12_hitsOf_18 5 rfl ?_
    refine ia_3_55 (inb_in g1) dX12_hitsOf_20 ?_
    refine z_if_eq (tgt := 54) dX12_hitsOf_21 (by decide) (fun q => ?_) (fun q => ?_)
    · have h := (if_pos q).symm.trans h
      exact zb_X12_hitsOf_54 hrc6 h
    · have h := (if_neg q).symm.trans h
      obtain ⟨g2, h⟩ := gd h
      refine z_aload_n dX12_hitsOf_24 rfl 0 rfl ?_
      refine z_aload_n dX12_hitsOf_25 rfl 0 rfl ?_
      refine gf_12_172 rfl dX12_hitsOf_26 ?_
      refine z_iload dX12_hitsOf_29 5 rfl ?_
      obtain ⟨g3, h⟩ := gd h
      refine ia_3_53 (inb_in g2) dX12_hitsOf_31 ?_
      refine z_iload_n dX12_hitsOf_32 rfl 2 rfl ?_
      refine z_callS (M' := m_X12_turned) (As := [.int (mA σ 3 0 53 x5.toNatClampNeg), .int (x2)]) (rest := [.ref (sL S 3 0 0)]) kl_12_488 oy_X12_turned ⟨Nat.le_of_ble_eq_true rfl, Nat.le_of_ble_eq_true rfl⟩ rfl (Nat.le_of_ble_eq_true rfl) rfl dX12_hitsOf_33 (c_X12_turned rfl) (fun v τ hq => ?_)
      obtain ⟨rfl, hτ⟩ := hq
      subst τ
      change Z _ _ _ _ _ [.int (f_X12_turned (mA σ 3 0 53 x5.toNatClampNeg) x2), .ref (sL S 3 0 0)] _
      refine z_aload_n dX12_hitsOf_36 rfl 0 rfl ?_
      refine gf_12_34 rfl dX12_hitsOf_37 ?_
      refine z_iconst (v := 0) dX12_hitsOf_40 (by decide) ?_
      refine ia_3_7 (inb_in g3) dX12_hitsOf_41 ?_
      refine z_iload_n dX12_hitsOf_42 rfl 3 rfl ?_
      obtain ⟨v, τ, hc, h⟩ := bnd_e h
      refine z_callV (M' := m_X12_hitBy) (t := 3) (i := 0) (k := 0) (As := [.int (f_X12_turned (mA σ 3 0 53 x5.toNatClampNeg) x2), .int (mA σ 3 0 7 (0 : Int32).toNatClampNeg), .int (x3)]) (rest := []) kl_12_484 oy_X12_hitBy ⟨Nat.le_of_ble_eq_true rfl, Nat.le_of_ble_eq_true rfl⟩ rfl rfl rfl rfl (Nat.le_of_ble_eq_true rfl) rfl dX12_hitsOf_43 (c_X12_hitBy hc) (fun v2 τ2 hq => ?_)
      obtain ⟨rfl, hτ⟩ := hq
      subst τ2
      change Z _ _ _ _ _ [.int (v)] _
      exact zb_X12_hitsOf_46 hrc6 h
def F_X12_hitsOf_6 : Nat → Int32 → Int32 → Int32 → Int32 → Int32 → Mm → Option (Int32 × Mm)
  | 0 => fun _ _ _ _ _ _ => none
  | n + 1 => B_X12_hitsOf_6 (F_X12_hitsOf_6 n)
theorem zl_X12_hitsOf_6 {S : Shp} : ∀ (nn : Nat) {x1 : Int32} {x2 : Int32} {x3 : Int32} {x4 : Int32} {x5 : Int32} {σ : Mm} {r : Int32 × Mm}, F_X12_hitsOf_6 nn x1 x2 x3 x4 x5 σ = some r → Z m_X12_hitsOf S (Qi r) 6 [(0, .ref (sL S 3 0 0)), (1, .int (x1)), (2, .int (x2)), (3, .int (x3)), (4, .int (x4)), (5, .int (x5))] [] σ := by
  intro nn
  induction nn with
  | zero => intro x1 x2 x3 x4 x5 σ r h; cases h
  | succ nn ih => intro x1 x2 x3 x4 x5 σ r h; exact zB_X12_hitsOf_6 @ih h
def F_X12_hitsOf (x1 : Int32) (x2 : Int32) (x3 : Int32) (σ : Mm) : Option (Int32 × Mm) := (F_X12_hitsOf_6 FU x1 x2 x3 0 0 σ)
set_option maxRecDepth 20000 in
theorem zb_X12_hitsOf {S : Shp} {x1 : Int32} {x2 : Int32} {x3 : Int32} {σ : Mm} {r : Int32 × Mm} (h : F_X12_hitsOf x1 x2 x3 σ = some r) : Z m_X12_hitsOf S (Qi r) 0 [(0, .ref (sL S 3 0 0)), (1, .int (x1)), (2, .int (x2)), (3, .int (x3))] [] σ := by
  unfold F_X12_hitsOf at h
  refine z_iconst (v := 0) dX12_hitsOf_0 (by decide) ?_
  refine z_istore (lv' := [(0, .ref (sL S 3 0 0)), (1, .int (x1)), (2, .int (x2)), (3, .int (x3)), (4, .int (0))]) dX12_hitsOf_1 (by decide) [1, 2, 3, 4, 0] rfl ?_
  refine z_iconst (v := 0) dX12_hitsOf_3 (by decide) ?_
  refine z_istore (lv' := [(0, .ref (sL S 3 0 0)), (1, .int (x1)), (2, .int (x2)), (3, .int (x3)), (4, .int (0)), (5, .int (0))]) dX12_hitsOf_4 (by decide) [1, 2, 3, 4, 5, 0] rfl ?_
  exact zl_X12_hitsOf_6 FU h
/-- SkyStonesModel.hitsOf(IIZ)I -/
theorem c_X12_hitsOf {S : Shp} {x1 : Int32} {x2 : Int32} {x3 : Int32} {σ : Mm} {r : Int32 × Mm} (h : F_X12_hitsOf x1 x2 x3 σ = some r) : Ct m_X12_hitsOf S [.ref (sL S 3 0 0), .int (x1), .int (x2), .int (x3)] σ (Qi r) := Ct.of (by decide +kernel) (Nat.le_of_ble_eq_true rfl) (zb_X12_hitsOf h)
def F_X12_isKnown (x1 : Int32) (σ : Mm) : Option (Int32 × Mm) := (if x1 < 0 then some (0, σ) else (if inb 0 5 = true then (if (mA σ 3 0 38 (0 : Int32).toNatClampNeg) < x1 then some (0, σ) else some (1, σ)) else none))
set_option maxRecDepth 20000 in
theorem zb_X12_isKnown {S : Shp} {x1 : Int32} {σ : Mm} {r : Int32 × Mm} (h : F_X12_isKnown x1 σ = some r) : Z m_X12_isKnown S (Qi r) 0 [(0, .ref (sL S 3 0 0)), (1, .int (x1))] [] σ := by
  unfold F_X12_isKnown at h
  refine z_iload_n dX12_isKnown_0 rfl 1 rfl ?_
  refine z_if_lt (tgt := 18) dX12_isKnown_1 (by decide) (fun q => ?_) (fun q => ?_)
  · have h := (if_pos q).symm.trans h
    refine z_iconst (v := 0) dX12_isKnown_18 (by decide) ?_
    cases h
    exact z_ireturn dX12_isKnown_19 rfl rfl ⟨rfl, rfl⟩
  · have h := (if_neg q).symm.trans h
    obtain ⟨g1, h⟩ := gd h
    refine z_iload_n dX12_isKnown_4 rfl 1 rfl ?_
    refine z_aload_n dX12_isKnown_5 rfl 0 rfl ?_
    refine gf_12_127 rfl dX12_isKnown_6 ?_
    refine z_iconst (v := 0) dX12_isKnown_9 (by decide) ?_
    refine ia_3_38 (inb_in g1) dX12_isKnown_10 ?_
    refine z_icmp_gt (tgt := 18) dX12_isKnown_11 (by decide) (fun q => ?_) (fun q => ?_)
    · have h := (if_pos q).symm.trans h
      refine z_iconst (v := 0) dX12_isKnown_18 (by decide) ?_
      cases h
      exact z_ireturn dX12_isKnown_19 rfl rfl ⟨rfl, rfl⟩
    · have h := (if_neg q).symm.trans h
      refine z_iconst (v := 1) dX12_isKnown_14 (by decide) ?_
      refine z_goto (tgt := 19) dX12_isKnown_15 (by decide) ?_
      cases h
      exact z_ireturn dX12_isKnown_19 rfl rfl ⟨rfl, rfl⟩
/-- SkyStonesModel.isKnown(I)Z -/
theorem c_X12_isKnown {S : Shp} {x1 : Int32} {σ : Mm} {r : Int32 × Mm} (h : F_X12_isKnown x1 σ = some r) : Ct m_X12_isKnown S [.ref (sL S 3 0 0), .int (x1)] σ (Qi r) := Ct.of (by decide +kernel) (Nat.le_of_ble_eq_true rfl) (zb_X12_isKnown h)
def f_X12_isYear (x0 : Int32) : Int32 := (if x0 < 0 then 0 else (if (5000 : Int32) < x0 then 0 else 1))
set_option maxRecDepth 20000 in
theorem zb_X12_isYear {S : Shp} {x0 : Int32} {σ : Mm} {r : Int32} (h : f_X12_isYear x0 = r) : Z m_X12_isYear S (Qi (r, σ)) 0 [(0, .int (x0))] [] σ := by
  unfold f_X12_isYear at h
  refine z_iload_n dX12_isYear_0 rfl 0 rfl ?_
  refine z_if_lt (tgt := 15) dX12_isYear_1 (by decide) (fun q => ?_) (fun q => ?_)
  · have h := (if_pos q).symm.trans h
    refine z_iconst (v := 0) dX12_isYear_15 (by decide) ?_
    subst h
    exact z_ireturn dX12_isYear_16 rfl rfl ⟨rfl, rfl⟩
  · have h := (if_neg q).symm.trans h
    refine z_iload_n dX12_isYear_4 rfl 0 rfl ?_
    refine z_sipush (v := 5000) dX12_isYear_5 (by decide) ?_
    refine z_icmp_gt (tgt := 15) dX12_isYear_8 (by decide) (fun q => ?_) (fun q => ?_)
    · have h := (if_pos q).symm.trans h
      refine z_iconst (v := 0) dX12_isYear_15 (by decide) ?_
      subst h
      exact z_ireturn dX12_isYear_16 rfl rfl ⟨rfl, rfl⟩
    · have h := (if_neg q).symm.trans h
      refine z_iconst (v := 1) dX12_isYear_11 (by decide) ?_
      refine z_goto (tgt := 16) dX12_isYear_12 (by decide) ?_
      subst h
      exact z_ireturn dX12_isYear_16 rfl rfl ⟨rfl, rfl⟩
/-- SkyStonesModel.isYear(I)Z -/
theorem c_X12_isYear {S : Shp} {x0 : Int32} {σ : Mm} {r : Int32} (h : f_X12_isYear x0 = r) : Ct m_X12_isYear S [.int (x0)] σ (Qi (r, σ)) := Ct.of (by decide +kernel) (Nat.le_of_ble_eq_true rfl) (zb_X12_isYear h)
def F_X12_isSet_28 (s0 : Int32) (σ : Mm) : Option (Int32 × Mm) := (if s0 = 0 then some (0, σ) else some (1, σ))
set_option maxRecDepth 20000 in
theorem zb_X12_isSet_28 {S : Shp} {s0 : Int32} {σ : Mm} {r : Int32 × Mm} (h : F_X12_isSet_28 s0 σ = some r) : Z m_X12_isSet S (Qi r) 28 [] [.int (s0)] σ := by
  unfold F_X12_isSet_28 at h
  refine z_if_eq (tgt := 35) dX12_isSet_28 (by decide) (fun q => ?_) (fun q => ?_)
  · have h := (if_pos q).symm.trans h
    refine z_iconst (v := 0) dX12_isSet_35 (by decide) ?_
    cases h
    exact z_ireturn dX12_isSet_36 rfl rfl ⟨rfl, rfl⟩
  · have h := (if_neg q).symm.trans h
    refine z_iconst (v := 1) dX12_isSet_31 (by decide) ?_
    refine z_goto (tgt := 36) dX12_isSet_32 (by decide) ?_
    cases h
    exact z_ireturn dX12_isSet_36 rfl rfl ⟨rfl, rfl⟩
def F_X12_isSet (x1 : Int32) (x2 : Int32) (x3 : Int32) (σ : Mm) : Option (Int32 × Mm) := (if x1 < 0 then some (0, σ) else (if inb 0 5 = true then (if ((1 : Int32) <<< ((mA σ 3 0 21 (0 : Int32).toNatClampNeg) &&& 31)) ≤ x1 then some (0, σ) else (if (f_X12_isYear x2) = 0 then some (0, σ) else (bnd (F_X12_isKnown x3 σ) (fun v τ => (F_X12_isSet_28 v τ))))) else none))
set_option maxRecDepth 20000 in
theorem zb_X12_isSet {S : Shp} {x1 : Int32} {x2 : Int32} {x3 : Int32} {σ : Mm} {r : Int32 × Mm} (h : F_X12_isSet x1 x2 x3 σ = some r) : Z m_X12_isSet S (Qi r) 0 [(0, .ref (sL S 3 0 0)), (1, .int (x1)), (2, .int (x2)), (3, .int (x3))] [] σ := by
  unfold F_X12_isSet at h
  refine z_iload_n dX12_isSet_0 rfl 1 rfl ?_
  refine z_if_lt (tgt := 35) dX12_isSet_1 (by decide) (fun q => ?_) (fun q => ?_)
  · have h := (if_pos q).symm.trans h
    refine z_iconst (v := 0) dX12_isSet_35 (by decide) ?_
    cases h
    exact z_ireturn dX12_isSet_36 rfl rfl ⟨rfl, rfl⟩
  · have h := (if_neg q).symm.trans h
    obtain ⟨g1, h⟩ := gd h
    refine z_iload_n dX12_isSet_4 rfl 1 rfl ?_
    refine z_iconst (v := 1) dX12_isSet_5 (by decide) ?_
    refine z_aload_n dX12_isSet_6 rfl 0 rfl ?_
    refine gf_12_76 rfl dX12_isSet_7 ?_
    refine z_iconst (v := 0) dX12_isSet_10 (by decide) ?_
    refine ia_3_21 (inb_in g1) dX12_isSet_11 ?_
    refine z_ishl dX12_isSet_12 ?_
    refine z_icmp_ge (tgt := 35) dX12_isSet_13 (by decide) (fun q => ?_) (fun q => ?_)
    · have h := (if_pos q).symm.trans h
      refine z_iconst (v := 0) dX12_isSet_35 (by decide) ?_
      cases h
      exact z_ireturn dX12_isSet_36 rfl rfl ⟨rfl, rfl⟩
    · have h := (if_neg q).symm.trans h
      refine z_iload_n dX12_isSet_16 rfl 2 rfl ?_
      refine z_callS (M' := m_X12_isYear) (As := [.int (x2)]) (rest := []) kl_12_472 oy_X12_isYear ⟨Nat.le_of_ble_eq_true rfl, Nat.le_of_ble_eq_true rfl⟩ rfl (Nat.le_of_ble_eq_true rfl) rfl dX12_isSet_17 (c_X12_isYear rfl) (fun v τ hq => ?_)
      obtain ⟨rfl, hτ⟩ := hq
      subst τ
      change Z _ _ _ _ _ [.int (f_X12_isYear x2)] _
      refine z_if_eq (tgt := 35) dX12_isSet_20 (by decide) (fun q => ?_) (fun q => ?_)
      · have h := (if_pos q).symm.trans h
        refine z_iconst (v := 0) dX12_isSet_35 (by decide) ?_
        cases h
        exact z_ireturn dX12_isSet_36 rfl rfl ⟨rfl, rfl⟩
      · have h := (if_neg q).symm.trans h
        refine z_aload_n dX12_isSet_23 rfl 0 rfl ?_
        refine z_iload_n dX12_isSet_24 rfl 3 rfl ?_
        obtain ⟨v, τ, hc, h⟩ := bnd_e h
        refine z_callV (M' := m_X12_isKnown) (t := 3) (i := 0) (k := 0) (As := [.int (x3)]) (rest := []) kl_12_457 oy_X12_isKnown ⟨Nat.le_of_ble_eq_true rfl, Nat.le_of_ble_eq_true rfl⟩ rfl rfl rfl rfl (Nat.le_of_ble_eq_true rfl) rfl dX12_isSet_25 (c_X12_isKnown hc) (fun v2 τ2 hq => ?_)
        obtain ⟨rfl, hτ⟩ := hq
        subst τ2
        change Z _ _ _ _ _ [.int (v)] _
        refine Z.lv [] rfl ?_
        exact zb_X12_isSet_28 h
/-- SkyStonesModel.isSet(III)Z -/
theorem c_X12_isSet {S : Shp} {x1 : Int32} {x2 : Int32} {x3 : Int32} {σ : Mm} {r : Int32 × Mm} (h : F_X12_isSet x1 x2 x3 σ = some r) : Ct m_X12_isSet S [.ref (sL S 3 0 0), .int (x1), .int (x2), .int (x3)] σ (Qi r) := Ct.of (by decide +kernel) (Nat.le_of_ble_eq_true rfl) (zb_X12_isSet h)
def F_X12_degreeOf_129 (s0 : Int32) (σ : Mm) : Option (Int32 × Mm) := (if s0 = (360 : Int32) then some (0, σ) else some (s0, σ))
set_option maxRecDepth 20000 in
theorem zb_X12_degreeOf_129 {S : Shp} {s0 : Int32} {σ : Mm} {r : Int32 × Mm} (h : F_X12_degreeOf_129 s0 σ = some r) : Z m_X12_degreeOf S (Qi r) 129 [] [.int (s0)] σ := by
  unfold F_X12_degreeOf_129 at h
  refine z_istore (lv' := [(5, .int (s0))]) dX12_degreeOf_129 (by decide) [0] rfl ?_
  refine z_iload dX12_degreeOf_131 0 rfl ?_
  refine z_sipush (v := 360) dX12_degreeOf_133 (by decide) ?_
  refine z_icmp_ne (tgt := 143) dX12_degreeOf_136 (by decide) (fun q => ?_) (fun q => ?_)
  · have h := (if_neg q).symm.trans h
    refine z_iload dX12_degreeOf_143 0 rfl ?_
    cases h
    exact z_ireturn dX12_degreeOf_145 rfl rfl ⟨rfl, rfl⟩
  · have h := (if_pos q).symm.trans h
    refine z_iconst (v := 0) dX12_degreeOf_139 (by decide) ?_
    refine z_goto (tgt := 145) dX12_degreeOf_140 (by decide) ?_
    cases h
    exact z_ireturn dX12_degreeOf_145 rfl rfl ⟨rfl, rfl⟩
def F_X12_degreeOf_60 (x0 : Int32) (x1 : Int32) (x2 : Int32) (x3 : Int32) (x4 : Int32) (σ : Mm) : Option (Int32 × Mm) := (if x0 ≤ 0 then (if 0 ≤ x1 then (if x2 < x3 then (F_X12_degreeOf_129 ((360 : Int32) - x4) σ) else (F_X12_degreeOf_129 ((270 : Int32) + x4) σ)) else (if x3 < x2 then some ((270 : Int32) - x4, σ) else some ((180 : Int32) + x4, σ))) else (if x2 < x3 then some ((180 : Int32) - x4, σ) else some ((90 : Int32) + x4, σ)))
set_option maxRecDepth 20000 in
theorem zb_X12_degreeOf_60 {S : Shp} {x0 : Int32} {x1 : Int32} {x2 : Int32} {x3 : Int32} {x4 : Int32} {σ : Mm} {r : Int32 × Mm} (h : F_X12_degreeOf_60 x0 x1 x2 x3 x4 σ = some r) : Z m_X12_degreeOf S (Qi r) 60 [(0, .int (x0)), (1, .int (x1)), (2, .int (x2)), (3, .int (x3)), (4, .int (x4))] [] σ := by
  unfold F_X12_degreeOf_60 at h
  refine z_iload_n dX12_degreeOf_60 rfl 0 rfl ?_
  refine z_if_le (tgt := 84) dX12_degreeOf_61 (by decide) (fun q => ?_) (fun q => ?_)
  · have h := (if_pos q).symm.trans h
    refine z_iload_n dX12_degreeOf_84 rfl 1 rfl ?_
    refine z_if_ge (tgt := 109) dX12_degreeOf_85 (by decide) (fun q => ?_) (fun q => ?_)
    · have h := (if_pos q).symm.trans h
      refine z_iload_n dX12_degreeOf_109 rfl 3 rfl ?_
      refine z_iload_n dX12_degreeOf_110 rfl 2 rfl ?_
      refine z_icmp_gt (tgt := 123) dX12_degreeOf_111 (by decide) (fun q => ?_) (fun q => ?_)
      · have h := (if_pos q).symm.trans h
        refine z_sipush (v := 360) dX12_degreeOf_123 (by decide) ?_
        refine z_iload dX12_degreeOf_126 4 rfl ?_
        refine z_isub dX12_degreeOf_128 ?_
        refine Z.lv [] rfl ?_
        exact zb_X12_degreeOf_129 h
      · have h := (if_neg q).symm.trans h
        refine z_sipush (v := 270) dX12_degreeOf_114 (by decide) ?_
        refine z_iload dX12_degreeOf_117 4 rfl ?_
        refine z_iadd dX12_degreeOf_119 ?_
        refine z_goto (tgt := 129) dX12_degreeOf_120 (by decide) ?_
        refine Z.lv [] rfl ?_
        exact zb_X12_degreeOf_129 h
    · have h := (if_neg q).symm.trans h
      refine z_iload_n dX12_degreeOf_88 rfl 2 rfl ?_
      refine z_iload_n dX12_degreeOf_89 rfl 3 rfl ?_
      refine z_icmp_gt (tgt := 102) dX12_degreeOf_90 (by decide) (fun q => ?_) (fun q => ?_)
      · have h := (if_pos q).symm.trans h
        refine z_sipush (v := 270) dX12_degreeOf_102 (by decide) ?_
        refine z_iload dX12_degreeOf_105 4 rfl ?_
        refine z_isub dX12_degreeOf_107 ?_
        cases h
        exact z_ireturn dX12_degreeOf_108 rfl rfl ⟨rfl, rfl⟩
      · have h := (if_neg q).symm.trans h
        refine z_sipush (v := 180) dX12_degreeOf_93 (by decide) ?_
        refine z_iload dX12_degreeOf_96 4 rfl ?_
        refine z_iadd dX12_degreeOf_98 ?_
        refine z_goto (tgt := 108) dX12_degreeOf_99 (by decide) ?_
        cases h
        exact z_ireturn dX12_degreeOf_108 rfl rfl ⟨rfl, rfl⟩
  · have h := (if_neg q).symm.trans h
    refine z_iload_n dX12_degreeOf_64 rfl 3 rfl ?_
    refine z_iload_n dX12_degreeOf_65 rfl 2 rfl ?_
    refine z_icmp_gt (tgt := 77) dX12_degreeOf_66 (by decide) (fun q => ?_) (fun q => ?_)
    · have h := (if_pos q).symm.trans h
      refine z_sipush (v := 180) dX12_degreeOf_77 (by decide) ?_
      refine z_iload dX12_degreeOf_80 4 rfl ?_
      refine z_isub dX12_degreeOf_82 ?_
      cases h
      exact z_ireturn dX12_degreeOf_83 rfl rfl ⟨rfl, rfl⟩
    · have h := (if_neg q).symm.trans h
      refine z_bipush (v := 90) dX12_degreeOf_69 (by decide) ?_
      refine z_iload dX12_degreeOf_71 4 rfl ?_
      refine z_iadd dX12_degreeOf_73 ?_
      refine z_goto (tgt := 83) dX12_degreeOf_74 (by decide) ?_
      cases h
      exact z_ireturn dX12_degreeOf_83 rfl rfl ⟨rfl, rfl⟩
def F_X12_degreeOf_33 (x0 : Int32) (x1 : Int32) (x2 : Int32) (x3 : Int32) (s0 : Int32) (s1 : Int32) (σ : Mm) : Option (Int32 × Mm) := (if ¬ s0 = 0 then (if x0 < 0 then (F_X12_degreeOf_60 x0 x1 x2 x3 (s1 / s0) σ) else (if x1 ≤ 0 then (F_X12_degreeOf_60 x0 x1 x2 x3 (s1 / s0) σ) else (if x3 < x2 then some ((90 : Int32) - (s1 / s0), σ) else some (s1 / s0, σ)))) else none)
set_option maxRecDepth 20000 in
theorem zb_X12_degreeOf_33 {S : Shp} {x0 : Int32} {x1 : Int32} {x2 : Int32} {x3 : Int32} {s0 : Int32} {s1 : Int32} {σ : Mm} {r : Int32 × Mm} (h : F_X12_degreeOf_33 x0 x1 x2 x3 s0 s1 σ = some r) : Z m_X12_degreeOf S (Qi r) 33 [(0, .int (x0)), (1, .int (x1)), (2, .int (x2)), (3, .int (x3))] [.int (s0), .int (s1)] σ := by
  unfold F_X12_degreeOf_33 at h
  obtain ⟨g1, h⟩ := gd h
  refine z_idiv dX12_degreeOf_33 g1 ?_
  refine z_istore (lv' := [(0, .int (x0)), (1, .int (x1)), (2, .int (x2)), (3, .int (x3)), (4, .int (s1 / s0))]) dX12_degreeOf_34 (by decide) [1, 2, 3, 4, 0] rfl ?_
  refine z_iload_n dX12_degreeOf_36 rfl 0 rfl ?_
  refine z_if_lt (tgt := 60) dX12_degreeOf_37 (by decide) (fun q => ?_) (fun q => ?_)
  · have h := (if_pos q).symm.trans h
    exact zb_X12_degreeOf_60 h
  · have h := (if_neg q).symm.trans h
    refine z_iload_n dX12_degreeOf_40 rfl 1 rfl ?_
    refine z_if_le (tgt := 60) dX12_degreeOf_41 (by decide) (fun q => ?_) (fun q => ?_)
    · have h := (if_pos q).symm.trans h
      exact zb_X12_degreeOf_60 h
    · have h := (if_neg q).symm.trans h
      refine z_iload_n dX12_degreeOf_44 rfl 2 rfl ?_
      refine z_iload_n dX12_degreeOf_45 rfl 3 rfl ?_
      refine z_icmp_gt (tgt := 54) dX12_degreeOf_46 (by decide) (fun q => ?_) (fun q => ?_)
      · have h := (if_pos q).symm.trans h
        refine z_bipush (v := 90) dX12_degreeOf_54 (by decide) ?_
        refine z_iload dX12_degreeOf_56 4 rfl ?_
        refine z_isub dX12_degreeOf_58 ?_
        cases h
        exact z_ireturn dX12_degreeOf_59 rfl rfl ⟨rfl, rfl⟩
      · have h := (if_neg q).symm.trans h
        refine z_iload dX12_degreeOf_49 4 rfl ?_
        refine z_goto (tgt := 59) dX12_degreeOf_51 (by decide) ?_
        cases h
        exact z_ireturn dX12_degreeOf_59 rfl rfl ⟨rfl, rfl⟩
def F_X12_degreeOf_22 (x0 : Int32) (x1 : Int32) (x2 : Int32) (x3 : Int32) (s0 : Int32) (s1 : Int32) (σ : Mm) : Option (Int32 × Mm) := (if x2 ≤ x3 then (F_X12_degreeOf_33 x0 x1 x2 x3 x3 (s1 * s0) σ) else (F_X12_degreeOf_33 x0 x1 x2 x3 x2 (s1 * s0) σ))
set_option maxRecDepth 20000 in
theorem zb_X12_degreeOf_22 {S : Shp} {x0 : Int32} {x1 : Int32} {x2 : Int32} {x3 : Int32} {s0 : Int32} {s1 : Int32} {σ : Mm} {r : Int32 × Mm} (h : F_X12_degreeOf_22 x0 x1 x2 x3 s0 s1 σ = some r) : Z m_X12_degreeOf S (Qi r) 22 [(0, .int (x0)), (1, .int (x1)), (2, .int (x2)), (3, .int (x3))] [.int (s0), .int (s1)] σ := by
  unfold F_X12_degreeOf_22 at h
  refine z_imul dX12_degreeOf_22 ?_
  refine z_iload_n dX12_degreeOf_23 rfl 2 rfl ?_
  refine z_iload_n dX12_degreeOf_24 rfl 3 rfl ?_
  refine z_icmp_le (tgt := 32) dX12_degreeOf_25 (by decide) (fun q => ?_) (fun q => ?_)
  · have h := (if_pos q).symm.trans h
    refine z_iload_n dX12_degreeOf_32 rfl 3 rfl ?_
    exact zb_X12_degreeOf_33 h
  · have h := (if_neg q).symm.trans h
    refine z_iload_n dX12_degreeOf_28 rfl 2 rfl ?_
    refine z_goto (tgt := 33) dX12_degreeOf_29 (by decide) ?_
    exact zb_X12_degreeOf_33 h
def F_X12_degreeOf (x0 : Int32) (x1 : Int32) (σ : Mm) : Option (Int32 × Mm) := (if (f_X12_plain x1) ≤ (f_X12_plain x0) then (F_X12_degreeOf_22 x0 x1 (f_X12_plain x0) (f_X12_plain x1) (f_X12_plain x1) 45 σ) else (F_X12_degreeOf_22 x0 x1 (f_X12_plain x0) (f_X12_plain x1) (f_X12_plain x0) 45 σ))
set_option maxRecDepth 20000 in
theorem zb_X12_degreeOf {S : Shp} {x0 : Int32} {x1 : Int32} {σ : Mm} {r : Int32 × Mm} (h : F_X12_degreeOf x0 x1 σ = some r) : Z m_X12_degreeOf S (Qi r) 0 [(0, .int (x0)), (1, .int (x1))] [] σ := by
  unfold F_X12_degreeOf at h
  refine z_iload_n dX12_degreeOf_0 rfl 0 rfl ?_
  refine z_callS (M' := m_X12_plain) (As := [.int (x0)]) (rest := []) kl_12_425 oy_X12_plain ⟨Nat.le_of_ble_eq_true rfl, Nat.le_of_ble_eq_true rfl⟩ rfl (Nat.le_of_ble_eq_true rfl) rfl dX12_degreeOf_1 (c_X12_plain rfl) (fun v τ hq => ?_)
  obtain ⟨rfl, hτ⟩ := hq
  subst τ
  change Z _ _ _ _ _ [.int (f_X12_plain x0)] _
  refine z_istore_n (lv' := [(0, .int (x0)), (1, .int (x1)), (2, .int (f_X12_plain x0))]) dX12_degreeOf_4 rfl (by decide) [1, 2, 0] rfl ?_
  refine z_iload_n dX12_degreeOf_5 rfl 1 rfl ?_
  refine z_callS (M' := m_X12_plain) (As := [.int (x1)]) (rest := []) kl_12_425 oy_X12_plain ⟨Nat.le_of_ble_eq_true rfl, Nat.le_of_ble_eq_true rfl⟩ rfl (Nat.le_of_ble_eq_true rfl) rfl dX12_degreeOf_6 (c_X12_plain rfl) (fun v τ hq => ?_)
  obtain ⟨rfl, hτ⟩ := hq
  subst τ
  change Z _ _ _ _ _ [.int (f_X12_plain x1)] _
  refine z_istore_n (lv' := [(0, .int (x0)), (1, .int (x1)), (2, .int (f_X12_plain x0)), (3, .int (f_X12_plain x1))]) dX12_degreeOf_9 rfl (by decide) [1, 2, 3, 0] rfl ?_
  refine z_bipush (v := 45) dX12_degreeOf_10 (by decide) ?_
  refine z_iload_n dX12_degreeOf_12 rfl 2 rfl ?_
  refine z_iload_n dX12_degreeOf_13 rfl 3 rfl ?_
  refine z_icmp_ge (tgt := 21) dX12_degreeOf_14 (by decide) (fun q => ?_) (fun q => ?_)
  · have h := (if_pos q).symm.trans h
    refine z_iload_n dX12_degreeOf_21 rfl 3 rfl ?_
    exact zb_X12_degreeOf_22 h
  · have h := (if_neg q).symm.trans h
    refine z_iload_n dX12_degreeOf_17 rfl 2 rfl ?_
    refine z_goto (tgt := 22) dX12_degreeOf_18 (by decide) ?_
    exact zb_X12_degreeOf_22 h
/-- SkyStonesModel.degreeOf(II)I -/
theorem c_X12_degreeOf {S : Shp} {x0 : Int32} {x1 : Int32} {σ : Mm} {r : Int32 × Mm} (h : F_X12_degreeOf x0 x1 σ = some r) : Ct m_X12_degreeOf S [.int (x0), .int (x1)] σ (Qi r) := Ct.of (by decide +kernel) (Nat.le_of_ble_eq_true rfl) (zb_X12_degreeOf h)
def F_X12_sum_166 (rc10 : Int32 → Int32 → Int32 → Mm → Option (Int32 × Mm)) (x2 : Int32) (x3 : Int32) (x4 : Int32) (σ : Mm) : Option (Int32 × Mm) := (rc10 x2 x3 (x4 + 1) σ)
set_option maxRecDepth 20000 in
theorem zb_X12_sum_166 {S : Shp} {rc10 : Int32 → Int32 → Int32 → Mm → Option (Int32 × Mm)} (hrc10 : ∀ {x2 : Int32} {x3 : Int32} {x4 : Int32} {σ : Mm} {r : Int32 × Mm}, rc10 x2 x3 x4 σ = some r → Z m_X12_sum S (Qi r) 10 [(0, .ref (sL S 3 0 0)), (2, .int (x2)), (3, .int (x3)), (4, .int (x4))] [] σ) {x2 : Int32} {x3 : Int32} {x4 : Int32} {σ : Mm} {r : Int32 × Mm} (h : F_X12_sum_166 rc10 x2 x3 x4 σ = some r) : Z m_X12_sum S (Qi r) 166 [(0, .ref (sL S 3 0 0)), (2, .int (x2)), (3, .int (x3)), (4, .int (x4))] [] σ := by
  unfold F_X12_sum_166 at h
  refine z_iinc (j := 3) (v := x4 + 1) (lv' := [(0, .ref (sL S 3 0 0)), (2, .int (x2)), (3, .int (x3)), (4, .int (x4 + 1))]) dX12_sum_166 rfl rfl (by decide) [1, 2, 3, 0] rfl ?_
  refine z_goto (tgt := 10) dX12_sum_169 (by decide) ?_
  exact hrc10 h
def F_X12_sum_165 (rc10 : Int32 → Int32 → Int32 → Mm → Option (Int32 × Mm)) (x2 : Int32) (x3 : Int32) (x4 : Int32) (s0 : Int32) (s1 : Int32) (σ : Mm) : Option (Int32 × Mm) := (if inb s1 500 = true then (F_X12_sum_166 rc10 x2 x3 x4 (setA σ 3 0 57 (upd (mA σ 3 0 57) s1.toNatClampNeg s0))) else none)
set_option maxRecDepth 20000 in
theorem zb_X12_sum_165 {S : Shp} {rc10 : Int32 → Int32 → Int32 → Mm → Option (Int32 × Mm)} (hrc10 : ∀ {x2 : Int32} {x3 : Int32} {x4 : Int32} {σ : Mm} {r : Int32 × Mm}, rc10 x2 x3 x4 σ = some r → Z m_X12_sum S (Qi r) 10 [(0, .ref (sL S 3 0 0)), (2, .int (x2)), (3, .int (x3)), (4, .int (x4))] [] σ) {x2 : Int32} {x3 : Int32} {x4 : Int32} {s0 : Int32} {s1 : Int32} {σ : Mm} {r : Int32 × Mm} (h : F_X12_sum_165 rc10 x2 x3 x4 s0 s1 σ = some r) : Z m_X12_sum S (Qi r) 165 [(0, .ref (sL S 3 0 0)), (2, .int (x2)), (3, .int (x3)), (4, .int (x4))] [.int (s0), .int (s1), .ref (sL S 3 0 57)] σ := by
  unfold F_X12_sum_165 at h
  obtain ⟨g10, h⟩ := gd h
  refine is_3_57 (inb_in g10) dX12_sum_165 ?_
  exact zb_X12_sum_166 hrc10 h
def F_X12_sum_111 (rc10 : Int32 → Int32 → Int32 → Mm → Option (Int32 × Mm)) (x2 : Int32) (x3 : Int32) (x4 : Int32) (x5 : Int32) (x6 : Int32) (x7 : Int32) (σ : Mm) : Option (Int32 × Mm) := (if x5 = (2 : Int32) then (F_X12_sum_165 rc10 x2 x3 x4 (x7 + x6) (x3 - (1 : Int32)) σ) else (if x5 = (3 : Int32) then (F_X12_sum_165 rc10 x2 x3 x4 (x7 - x6) (x3 - (1 : Int32)) σ) else (if x5 = (4 : Int32) then (F_X12_sum_165 rc10 x2 x3 x4 (x7 * x6) (x3 - (1 : Int32)) σ) else (if ¬ x6 = 0 then (F_X12_sum_165 rc10 x2 x3 x4 (x7 / x6) (x3 - (1 : Int32)) σ) else none))))
set_option maxRecDepth 20000 in
theorem zb_X12_sum_111 {S : Shp} {rc10 : Int32 → Int32 → Int32 → Mm → Option (Int32 × Mm)} (hrc10 : ∀ {x2 : Int32} {x3 : Int32} {x4 : Int32} {σ : Mm} {r : Int32 × Mm}, rc10 x2 x3 x4 σ = some r → Z m_X12_sum S (Qi r) 10 [(0, .ref (sL S 3 0 0)), (2, .int (x2)), (3, .int (x3)), (4, .int (x4))] [] σ) {x2 : Int32} {x3 : Int32} {x4 : Int32} {x5 : Int32} {x6 : Int32} {x7 : Int32} {σ : Mm} {r : Int32 × Mm} (h : F_X12_sum_111 rc10 x2 x3 x4 x5 x6 x7 σ = some r) : Z m_X12_sum S (Qi r) 111 [(0, .ref (sL S 3 0 0)), (2, .int (x2)), (3, .int (x3)), (4, .int (x4)), (5, .int (x5)), (6, .int (x6)), (7, .int (x7))] [] σ := by
  unfold F_X12_sum_111 at h
  refine z_aload_n dX12_sum_111 rfl 0 rfl ?_
  refine gf_12_184 rfl dX12_sum_112 ?_
  refine z_iload_n dX12_sum_115 rfl 2 rfl ?_
  refine z_iconst (v := 1) dX12_sum_116 (by decide) ?_
  refine z_isub dX12_sum_117 ?_
  refine z_iload dX12_sum_118 4 rfl ?_
  refine z_iconst (v := 2) dX12_sum_120 (by decide) ?_
  refine z_icmp_ne (tgt := 132) dX12_sum_121 (by decide) (fun q => ?_) (fun q => ?_)
  · have h := (if_neg q).symm.trans h
    refine z_iload dX12_sum_132 4 rfl ?_
    refine z_iconst (v := 3) dX12_sum_134 (by decide) ?_
    refine z_icmp_ne (tgt := 146) dX12_sum_135 (by decide) (fun q => ?_) (fun q => ?_)
    · have h := (if_neg q).symm.trans h
      refine z_iload dX12_sum_146 4 rfl ?_
      refine z_iconst (v := 4) dX12_sum_148 (by decide) ?_
      refine z_icmp_ne (tgt := 160) dX12_sum_149 (by decide) (fun q => ?_) (fun q => ?_)
      · have h := (if_neg q).symm.trans h
        obtain ⟨g9, h⟩ := gd h
        refine z_iload dX12_sum_160 6 rfl ?_
        refine z_iload dX12_sum_162 5 rfl ?_
        refine z_idiv dX12_sum_164 g9 ?_
        refine Z.lv [0, 1, 2, 3] rfl ?_
        exact zb_X12_sum_165 hrc10 h
      · have h := (if_pos q).symm.trans h
        refine z_iload dX12_sum_152 6 rfl ?_
        refine z_iload dX12_sum_154 5 rfl ?_
        refine z_imul dX12_sum_156 ?_
        refine z_goto (tgt := 165) dX12_sum_157 (by decide) ?_
        refine Z.lv [0, 1, 2, 3] rfl ?_
        exact zb_X12_sum_165 hrc10 h
    · have h := (if_pos q).symm.trans h
      refine z_iload dX12_sum_138 6 rfl ?_
      refine z_iload dX12_sum_140 5 rfl ?_
      refine z_isub dX12_sum_142 ?_
      refine z_goto (tgt := 165) dX12_sum_143 (by decide) ?_
      refine Z.lv [0, 1, 2, 3] rfl ?_
      exact zb_X12_sum_165 hrc10 h
  · have h := (if_pos q).symm.trans h
    refine z_iload dX12_sum_124 6 rfl ?_
    refine z_iload dX12_sum_126 5 rfl ?_
    refine z_iadd dX12_sum_128 ?_
    refine z_goto (tgt := 165) dX12_sum_129 (by decide) ?_
    refine Z.lv [0, 1, 2, 3] rfl ?_
    exact zb_X12_sum_165 hrc10 h
def F_X12_sum_109 (σ : Mm) : Option (Int32 × Mm) := some (0, σ)
set_option maxRecDepth 20000 in
theorem zb_X12_sum_109 {S : Shp} {σ : Mm} {r : Int32 × Mm} (h : F_X12_sum_109 σ = some r) : Z m_X12_sum S (Qi r) 109 [] [] σ := by
  unfold F_X12_sum_109 at h
  refine z_iconst (v := 0) dX12_sum_109 (by decide) ?_
  cases h
  exact z_ireturn dX12_sum_110 rfl rfl ⟨rfl, rfl⟩
def F_X12_sum_90 (rc10 : Int32 → Int32 → Int32 → Mm → Option (Int32 × Mm)) (x2 : Int32) (x3 : Int32) (x4 : Int32) (x5 : Int32) (x6 : Int32) (x7 : Int32) (σ : Mm) : Option (Int32 × Mm) := (if x5 = (5 : Int32) then (if x6 = 0 then (F_X12_sum_109 (setA σ 3 0 0 (upd (mA σ 3 0 0) 69 1))) else (F_X12_sum_111 rc10 x2 (x3 + (-1)) x4 x5 x6 x7 σ)) else (F_X12_sum_111 rc10 x2 (x3 + (-1)) x4 x5 x6 x7 σ))
set_option maxRecDepth 20000 in
theorem zb_X12_sum_90 {S : Shp} {rc10 : Int32 → Int32 → Int32 → Mm → Option (Int32 × Mm)} (hrc10 : ∀ {x2 : Int32} {x3 : Int32} {x4 : Int32} {σ : Mm} {r : Int32 × Mm}, rc10 x2 x3 x4 σ = some r → Z m_X12_sum S (Qi r) 10 [(0, .ref (sL S 3 0 0)), (2, .int (x2)), (3, .int (x3)), (4, .int (x4))] [] σ) {x2 : Int32} {x3 : Int32} {x4 : Int32} {x5 : Int32} {x6 : Int32} {x7 : Int32} {σ : Mm} {r : Int32 × Mm} (h : F_X12_sum_90 rc10 x2 x3 x4 x5 x6 x7 σ = some r) : Z m_X12_sum S (Qi r) 90 [(0, .ref (sL S 3 0 0)), (2, .int (x2)), (3, .int (x3)), (4, .int (x4)), (5, .int (x5)), (6, .int (x6)), (7, .int (x7))] [] σ := by
  unfold F_X12_sum_90 at h
  refine z_iinc (j := 2) (v := x3 + (-1)) (lv' := [(0, .ref (sL S 3 0 0)), (2, .int (x2)), (3, .int (x3 + (-1))), (4, .int (x4)), (5, .int (x5)), (6, .int (x6)), (7, .int (x7))]) dX12_sum_90 rfl rfl (by decide) [1, 2, 0, 3, 4, 5, 6] rfl ?_
  refine z_iload dX12_sum_93 4 rfl ?_
  refine z_iconst (v := 5) dX12_sum_95 (by decide) ?_
  refine z_icmp_ne (tgt := 111) dX12_sum_96 (by decide) (fun q => ?_) (fun q => ?_)
  · have h := (if_neg q).symm.trans h
    exact zb_X12_sum_111 hrc10 h
  · have h := (if_pos q).symm.trans h
    refine z_iload dX12_sum_99 5 rfl ?_
    refine z_if_ne (tgt := 111) dX12_sum_101 (by decide) (fun q => ?_) (fun q => ?_)
    · have h := (if_neg q).symm.trans h
      exact zb_X12_sum_111 hrc10 h
    · have h := (if_pos q).symm.trans h
      refine z_aload_n dX12_sum_104 rfl 0 rfl ?_
      refine z_iconst (v := 1) dX12_sum_105 (by decide) ?_
      refine pf_12_447 rfl dX12_sum_106 rfl rfl ?_
      refine Z.lv [] rfl ?_
      exact zb_X12_sum_109 h
def F_X12_sum_80 (rc10 : Int32 → Int32 → Int32 → Mm → Option (Int32 × Mm)) (x2 : Int32) (x3 : Int32) (x4 : Int32) (x5 : Int32) (x6 : Int32) (σ : Mm) : Option (Int32 × Mm) := (if inb (x3 - (2 : Int32)) 500 = true then (F_X12_sum_90 rc10 x2 x3 x4 x5 x6 (mA σ 3 0 57 (x3 - (2 : Int32)).toNatClampNeg) σ) else none)
set_option maxRecDepth 20000 in
theorem zb_X12_sum_80 {S : Shp} {rc10 : Int32 → Int32 → Int32 → Mm → Option (Int32 × Mm)} (hrc10 : ∀ {x2 : Int32} {x3 : Int32} {x4 : Int32} {σ : Mm} {r : Int32 × Mm}, rc10 x2 x3 x4 σ = some r → Z m_X12_sum S (Qi r) 10 [(0, .ref (sL S 3 0 0)), (2, .int (x2)), (3, .int (x3)), (4, .int (x4))] [] σ) {x2 : Int32} {x3 : Int32} {x4 : Int32} {x5 : Int32} {x6 : Int32} {σ : Mm} {r : Int32 × Mm} (h : F_X12_sum_80 rc10 x2 x3 x4 x5 x6 σ = some r) : Z m_X12_sum S (Qi r) 80 [(0, .ref (sL S 3 0 0)), (2, .int (x2)), (3, .int (x3)), (4, .int (x4)), (5, .int (x5)), (6, .int (x6))] [] σ := by
  unfold F_X12_sum_80 at h
  obtain ⟨g7, h⟩ := gd h
  refine z_aload_n dX12_sum_80 rfl 0 rfl ?_
  refine gf_12_184 rfl dX12_sum_81 ?_
  refine z_iload_n dX12_sum_84 rfl 2 rfl ?_
  refine z_iconst (v := 2) dX12_sum_85 (by decide) ?_
  refine z_isub dX12_sum_86 ?_
  refine ia_3_57 (inb_in g7) dX12_sum_87 ?_
  refine z_istore (lv' := [(0, .ref (sL S 3 0 0)), (2, .int (x2)), (3, .int (x3)), (4, .int (x4)), (5, .int (x5)), (6, .int (x6)), (7, .int (mA σ 3 0 57 (x3 - (2 : Int32)).toNatClampNeg))]) dX12_sum_88 (by decide) [1, 2, 3, 4, 5, 6, 0] rfl ?_
  exact zb_X12_sum_90 hrc10 h
def F_X12_sum_64 (rc10 : Int32 → Int32 → Int32 → Mm → Option (Int32 × Mm)) (x2 : Int32) (x3 : Int32) (x4 : Int32) (σ : Mm) : Option (Int32 × Mm) := (F_X12_sum_166 rc10 x2 (x3 + 1) x4 σ)
set_option maxRecDepth 20000 in
theorem zb_X12_sum_64 {S : Shp} {rc10 : Int32 → Int32 → Int32 → Mm → Option (Int32 × Mm)} (hrc10 : ∀ {x2 : Int32} {x3 : Int32} {x4 : Int32} {σ : Mm} {r : Int32 × Mm}, rc10 x2 x3 x4 σ = some r → Z m_X12_sum S (Qi r) 10 [(0, .ref (sL S 3 0 0)), (2, .int (x2)), (3, .int (x3)), (4, .int (x4))] [] σ) {x2 : Int32} {x3 : Int32} {x4 : Int32} {σ : Mm} {r : Int32 × Mm} (h : F_X12_sum_64 rc10 x2 x3 x4 σ = some r) : Z m_X12_sum S (Qi r) 64 [(0, .ref (sL S 3 0 0)), (2, .int (x2)), (3, .int (x3)), (4, .int (x4))] [] σ := by
  unfold F_X12_sum_64 at h
  refine z_iinc (j := 2) (v := x3 + 1) (lv' := [(0, .ref (sL S 3 0 0)), (2, .int (x2)), (3, .int (x3 + 1)), (4, .int (x4))]) dX12_sum_64 rfl rfl (by decide) [1, 2, 0, 3] rfl ?_
  refine z_goto (tgt := 166) dX12_sum_67 (by decide) ?_
  exact zb_X12_sum_166 hrc10 h
def F_X12_sum_63 (rc10 : Int32 → Int32 → Int32 → Mm → Option (Int32 × Mm)) (x2 : Int32) (x3 : Int32) (x4 : Int32) (s0 : Int32) (s1 : Int32) (σ : Mm) : Option (Int32 × Mm) := (if inb s1 500 = true then (F_X12_sum_64 rc10 x2 x3 x4 (setA σ 3 0 57 (upd (mA σ 3 0 57) s1.toNatClampNeg s0))) else none)
set_option maxRecDepth 20000 in
theorem zb_X12_sum_63 {S : Shp} {rc10 : Int32 → Int32 → Int32 → Mm → Option (Int32 × Mm)} (hrc10 : ∀ {x2 : Int32} {x3 : Int32} {x4 : Int32} {σ : Mm} {r : Int32 × Mm}, rc10 x2 x3 x4 σ = some r → Z m_X12_sum S (Qi r) 10 [(0, .ref (sL S 3 0 0)), (2, .int (x2)), (3, .int (x3)), (4, .int (x4))] [] σ) {x2 : Int32} {x3 : Int32} {x4 : Int32} {s0 : Int32} {s1 : Int32} {σ : Mm} {r : Int32 × Mm} (h : F_X12_sum_63 rc10 x2 x3 x4 s0 s1 σ = some r) : Z m_X12_sum S (Qi r) 63 [(0, .ref (sL S 3 0 0)), (2, .int (x2)), (3, .int (x3)), (4, .int (x4))] [.int (s0), .int (s1), .ref (sL S 3 0 57)] σ := by
  unfold F_X12_sum_63 at h
  obtain ⟨g8, h⟩ := gd h
  refine is_3_57 (inb_in g8) dX12_sum_63 ?_
  exact zb_X12_sum_64 hrc10 h
def B_X12_sum_10 (rc10 : Int32 → Int32 → Int32 → Mm → Option (Int32 × Mm)) (x2 : Int32) (x3 : Int32) (x4 : Int32) (σ : Mm) : Option (Int32 × Mm) := (if x2 ≤ x4 then (if inb 0 500 = true then some (mA σ 3 0 57 (0 : Int32).toNatClampNeg, σ) else none) else (if inb x4 2500 = true then (if (2 : Int32) ≤ (mA σ 3 0 29 x4.toNatClampNeg) then (if inb (x3 - (1 : Int32)) 500 = true then (F_X12_sum_80 rc10 x2 x3 x4 (mA σ 3 0 29 x4.toNatClampNeg) (mA σ 3 0 57 (x3 - (1 : Int32)).toNatClampNeg) σ) else none) else (if (mA σ 3 0 29 x4.toNatClampNeg) = 0 then (if inb x4 2500 = true then (F_X12_sum_63 rc10 x2 x3 x4 (mA σ 3 0 30 x4.toNatClampNeg) x3 σ) else none) else (if inb x4 2500 = true then (if inb (mA σ 3 0 30 x4.toNatClampNeg) 9 = true then (F_X12_sum_63 rc10 x2 x3 x4 (mA σ 3 0 56 (mA σ 3 0 30 x4.toNatClampNeg).toNatClampNeg) x3 σ) else none) else none))) else none))
set_option maxRecDepth 20000 in
theorem zB_X12_sum_10 {S : Shp} {rc10 : Int32 → Int32 → Int32 → Mm → Option (Int32 × Mm)} (hrc10 : ∀ {x2 : Int32} {x3 : Int32} {x4 : Int32} {σ : Mm} {r : Int32 × Mm}, rc10 x2 x3 x4 σ = some r → Z m_X12_sum S (Qi r) 10 [(0, .ref (sL S 3 0 0)), (2, .int (x2)), (3, .int (x3)), (4, .int (x4))] [] σ) {x2 : Int32} {x3 : Int32} {x4 : Int32} {σ : Mm} {r : Int32 × Mm} (h : B_X12_sum_10 rc10 x2 x3 x4 σ = some r) : Z m_X12_sum S (Qi r) 10 [(0, .ref (sL S 3 0 0)), (2, .int (x2)), (3, .int (x3)), (4, .int (x4))] [] σ := by
  unfold B_X12_sum_10 at h
  refine z_iload dX12_sum_10 3 rfl ?_
  refine z_iload_n dX12_sum_12 rfl 1 rfl ?_
  refine z_icmp_ge (tgt := 172) dX12_sum_13 (by decide) (fun q => ?_) (fun q => ?_)
  · have h := (if_pos q).symm.trans h
    obtain ⟨g1, h⟩ := gd h
    refine z_aload_n dX12_sum_172 rfl 0 rfl ?_
    refine gf_12_184 rfl dX12_sum_173 ?_
    refine z_iconst (v := 0) dX12_sum_176 (by decide) ?_
    refine ia_3_57 (inb_in g1) dX12_sum_177 ?_
    cases h
    exact z_ireturn dX12_sum_178 rfl rfl ⟨rfl, rfl⟩
  · have h := (if_neg q).symm.trans h
    obtain ⟨g2, h⟩ := gd h
    refine z_aload_n dX12_sum_16 rfl 0 rfl ?_
    refine gf_12_100 rfl dX12_sum_17 ?_
    refine z_iload dX12_sum_20 3 rfl ?_
    refine ia_3_29 (inb_in g2) dX12_sum_22 ?_
    refine z_istore (lv' := [(0, .ref (sL S 3 0 0)), (2, .int (x2)), (3, .int (x3)), (4, .int (x4)), (5, .int (mA σ 3 0 29 x4.toNatClampNeg))]) dX12_sum_23 (by decide) [1, 2, 3, 4, 0] rfl ?_
    refine z_iload dX12_sum_25 4 rfl ?_
    refine z_iconst (v := 2) dX12_sum_27 (by decide) ?_
    refine z_icmp_ge (tgt := 70) dX12_sum_28 (by decide) (fun q => ?_) (fun q => ?_)
    · have h := (if_pos q).symm.trans h
      obtain ⟨g3, h⟩ := gd h
      refine z_aload_n dX12_sum_70 rfl 0 rfl ?_
      refine gf_12_184 rfl dX12_sum_71 ?_
      refine z_iload_n dX12_sum_74 rfl 2 rfl ?_
      refine z_iconst (v := 1) dX12_sum_75 (by decide) ?_
      refine z_isub dX12_sum_76 ?_
      refine ia_3_57 (inb_in g3) dX12_sum_77 ?_
      refine z_istore (lv' := [(0, .ref (sL S 3 0 0)), (2, .int (x2)), (3, .int (x3)), (4, .int (x4)), (5, .int (mA σ 3 0 29 x4.toNatClampNeg)), (6, .int (mA σ 3 0 57 (x3 - (1 : Int32)).toNatClampNeg))]) dX12_sum_78 (by decide) [1, 2, 3, 4, 5, 0] rfl ?_
      exact zb_X12_sum_80 hrc10 h
    · have h := (if_neg q).symm.trans h
      refine z_aload_n dX12_sum_31 rfl 0 rfl ?_
      refine gf_12_184 rfl dX12_sum_32 ?_
      refine z_iload_n dX12_sum_35 rfl 2 rfl ?_
      refine z_iload dX12_sum_36 4 rfl ?_
      refine z_if_ne (tgt := 51) dX12_sum_38 (by decide) (fun q => ?_) (fun q => ?_)
      · have h := (if_neg q).symm.trans h
        obtain ⟨g4, h⟩ := gd h
        refine z_aload_n dX12_sum_51 rfl 0 rfl ?_
        refine gf_12_181 rfl dX12_sum_52 ?_
        refine z_aload_n dX12_sum_55 rfl 0 rfl ?_
        refine gf_12_103 rfl dX12_sum_56 ?_
        refine z_iload dX12_sum_59 3 rfl ?_
        obtain ⟨g5, h⟩ := gd h
        refine ia_3_30 (inb_in g4) dX12_sum_61 ?_
        refine ia_3_56 (inb_in g5) dX12_sum_62 ?_
        refine Z.lv [0, 1, 2, 3] rfl ?_
        exact zb_X12_sum_63 hrc10 h
      · have h := (if_pos q).symm.trans h
        obtain ⟨g6, h⟩ := gd h
        refine z_aload_n dX12_sum_41 rfl 0 rfl ?_
        refine gf_12_103 rfl dX12_sum_42 ?_
        refine z_iload dX12_sum_45 3 rfl ?_
        refine ia_3_30 (inb_in g6) dX12_sum_47 ?_
        refine z_goto (tgt := 63) dX12_sum_48 (by decide) ?_
        refine Z.lv [0, 1, 2, 3] rfl ?_
        exact zb_X12_sum_63 hrc10 h
def F_X12_sum_10 : Nat → Int32 → Int32 → Int32 → Mm → Option (Int32 × Mm)
  | 0 => fun _ _ _ _ => none
  | n + 1 => B_X12_sum_10 (F_X12_sum_10 n)
theorem zl_X12_sum_10 {S : Shp} : ∀ (nn : Nat) {x2 : Int32} {x3 : Int32} {x4 : Int32} {σ : Mm} {r : Int32 × Mm}, F_X12_sum_10 nn x2 x3 x4 σ = some r → Z m_X12_sum S (Qi r) 10 [(0, .ref (sL S 3 0 0)), (2, .int (x2)), (3, .int (x3)), (4, .int (x4))] [] σ := by
  intro nn
  induction nn with
  | zero => intro x2 x3 x4 σ r h; cases h
  | succ nn ih => intro x2 x3 x4 σ r h; exact zB_X12_sum_10 @ih h
def F_X12_sum_7 (x1 : Int32) (x2 : Int32) (x3 : Int32) (σ : Mm) : Option (Int32 × Mm) := (F_X12_sum_10 FU x2 x3 x1 σ)
set_option maxRecDepth 20000 in
theorem zb_X12_sum_7 {S : Shp} {x1 : Int32} {x2 : Int32} {x3 : Int32} {σ : Mm} {r : Int32 × Mm} (h : F_X12_sum_7 x1 x2 x3 σ = some r) : Z m_X12_sum S (Qi r) 7 [(0, .ref (sL S 3 0 0)), (1, .int (x1)), (2, .int (x2)), (3, .int (x3))] [] σ := by
  unfold F_X12_sum_7 at h
  refine z_iload_n dX12_sum_7 rfl 1 rfl ?_
  refine z_istore (lv' := [(0, .ref (sL S 3 0 0)), (1, .int (x1)), (2, .int (x2)), (3, .int (x3)), (4, .int (x1))]) dX12_sum_8 (by decide) [1, 2, 3, 4, 0] rfl ?_
  refine Z.lv [0, 2, 3, 4] rfl ?_
  exact zl_X12_sum_10 FU h
def F_X12_sum (x1 : Int32) (x2 : Int32) (σ : Mm) : Option (Int32 × Mm) := (F_X12_sum_7 x1 x2 0 (setA σ 3 0 0 (upd (mA σ 3 0 0) 69 0)))
set_option maxRecDepth 20000 in
theorem zb_X12_sum {S : Shp} {x1 : Int32} {x2 : Int32} {σ : Mm} {r : Int32 × Mm} (h : F_X12_sum x1 x2 σ = some r) : Z m_X12_sum S (Qi r) 0 [(0, .ref (sL S 3 0 0)), (1, .int (x1)), (2, .int (x2))] [] σ := by
  unfold F_X12_sum at h
  refine z_iconst (v := 0) dX12_sum_0 (by decide) ?_
  refine z_istore_n (lv' := [(0, .ref (sL S 3 0 0)), (1, .int (x1)), (2, .int (x2)), (3, .int (0))]) dX12_sum_1 rfl (by decide) [1, 2, 3, 0] rfl ?_
  refine z_aload_n dX12_sum_2 rfl 0 rfl ?_
  refine z_iconst (v := 0) dX12_sum_3 (by decide) ?_
  refine pf_12_447 rfl dX12_sum_4 rfl rfl ?_
  exact zb_X12_sum_7 h
/-- SkyStonesModel.sum(II)I -/
theorem c_X12_sum {S : Shp} {x1 : Int32} {x2 : Int32} {σ : Mm} {r : Int32 × Mm} (h : F_X12_sum x1 x2 σ = some r) : Ct m_X12_sum S [.ref (sL S 3 0 0), .int (x1), .int (x2)] σ (Qi r) := Ct.of (by decide +kernel) (Nat.le_of_ble_eq_true rfl) (zb_X12_sum h)
def F_X12_isLit_147 (x1 : Int32) (s0 : Int32) (σ : Mm) : Option (Int32 × Mm) := (if inb x1 1000 = true then (if s0 = (mA σ 3 0 32 x1.toNatClampNeg) then some (0, σ) else some (1, σ)) else none)
set_option maxRecDepth 20000 in
theorem zb_X12_isLit_147 {S : Shp} {x1 : Int32} {s0 : Int32} {σ : Mm} {r : Int32 × Mm} (h : F_X12_isLit_147 x1 s0 σ = some r) : Z m_X12_isLit S (Qi r) 147 [(0, .ref (sL S 3 0 0)), (1, .int (x1))] [.int (s0)] σ := by
  unfold F_X12_isLit_147 at h
  obtain ⟨g12, h⟩ := gd h
  refine z_istore (lv' := [(0, .ref (sL S 3 0 0)), (1, .int (x1)), (4, .int (s0))]) dX12_isLit_147 (by decide) [1, 2, 0] rfl ?_
  refine z_iload dX12_isLit_149 2 rfl ?_
  refine z_aload_n dX12_isLit_151 rfl 0 rfl ?_
  refine gf_12_109 rfl dX12_isLit_152 ?_
  refine z_iload_n dX12_isLit_155 rfl 1 rfl ?_
  refine ia_3_32 (inb_in g12) dX12_isLit_156 ?_
  refine z_icmp_eq (tgt := 164) dX12_isLit_157 (by decide) (fun q => ?_) (fun q => ?_)
  · have h := (if_pos q).symm.trans h
    refine z_iconst (v := 0) dX12_isLit_164 (by decide) ?_
    cases h
    exact z_ireturn dX12_isLit_165 rfl rfl ⟨rfl, rfl⟩
  · have h := (if_neg q).symm.trans h
    refine z_iconst (v := 1) dX12_isLit_160 (by decide) ?_
    refine z_goto (tgt := 165) dX12_isLit_161 (by decide) ?_
    cases h
    exact z_ireturn dX12_isLit_165 rfl rfl ⟨rfl, rfl⟩
def F_X12_isLit_47 (x1 : Int32) (x2 : Int32) (s0 : Int32) (σ : Mm) : Option (Int32 × Mm) := (if (mA σ 3 0 0 69) = 0 then (if inb x1 1000 = true then (if (mA σ 3 0 33 x1.toNatClampNeg) = (300 : Int32) then (if x2 = s0 then (F_X12_isLit_147 x1 1 σ) else (F_X12_isLit_147 x1 0 σ)) else (if inb x1 1000 = true then (if (mA σ 3 0 33 x1.toNatClampNeg) = (301 : Int32) then (if x2 = s0 then (F_X12_isLit_147 x1 0 σ) else (F_X12_isLit_147 x1 1 σ)) else (if inb x1 1000 = true then (if (mA σ 3 0 33 x1.toNatClampNeg) = (302 : Int32) then (if s0 < x2 then (F_X12_isLit_147 x1 0 σ) else (F_X12_isLit_147 x1 1 σ)) else (if s0 ≤ x2 then (F_X12_isLit_147 x1 0 σ) else (F_X12_isLit_147 x1 1 σ))) else none)) else none)) else none) else (if inb x1 1000 = true then (if isB (mA σ 3 0 32 x1.toNatClampNeg) = true then some (mA σ 3 0 32 x1.toNatClampNeg, σ) else none) else none))
set_option maxRecDepth 20000 in
theorem zb_X12_isLit_47 {S : Shp} {x1 : Int32} {x2 : Int32} {s0 : Int32} {σ : Mm} {r : Int32 × Mm} (h : F_X12_isLit_47 x1 x2 s0 σ = some r) : Z m_X12_isLit S (Qi r) 47 [(0, .ref (sL S 3 0 0)), (1, .int (x1)), (2, .int (x2))] [.int (s0)] σ := by
  unfold F_X12_isLit_47 at h
  refine z_istore_n (lv' := [(0, .ref (sL S 3 0 0)), (1, .int (x1)), (2, .int (x2)), (3, .int (s0))]) dX12_isLit_47 rfl (by decide) [1, 2, 3, 0] rfl ?_
  refine z_aload_n dX12_isLit_48 rfl 0 rfl ?_
  refine gf_12_447 rfl dX12_isLit_49 ?_
  refine z_if_eq (tgt := 62) dX12_isLit_52 (by decide) (fun q => ?_) (fun q => ?_)
  · have h := (if_pos q).symm.trans h
    obtain ⟨g7, h⟩ := gd h
    refine z_aload_n dX12_isLit_62 rfl 0 rfl ?_
    refine gf_12_112 rfl dX12_isLit_63 ?_
    refine z_iload_n dX12_isLit_66 rfl 1 rfl ?_
    refine ia_3_33 (inb_in g7) dX12_isLit_67 ?_
    refine z_sipush (v := 300) dX12_isLit_68 (by decide) ?_
    refine z_icmp_ne (tgt := 87) dX12_isLit_71 (by decide) (fun q => ?_) (fun q => ?_)
    · have h := (if_neg q).symm.trans h
      obtain ⟨g8, h⟩ := gd h
      refine z_aload_n dX12_isLit_87 rfl 0 rfl ?_
      refine gf_12_112 rfl dX12_isLit_88 ?_
      refine z_iload_n dX12_isLit_91 rfl 1 rfl ?_
      refine ia_3_33 (inb_in g8) dX12_isLit_92 ?_
      refine z_sipush (v := 301) dX12_isLit_93 (by decide) ?_
      refine z_icmp_ne (tgt := 112) dX12_isLit_96 (by decide) (fun q => ?_) (fun q => ?_)
      · have h := (if_neg q).symm.trans h
        obtain ⟨g9, h⟩ := gd h
        refine z_aload_n dX12_isLit_112 rfl 0 rfl ?_
        refine gf_12_112 rfl dX12_isLit_113 ?_
        refine z_iload_n dX12_isLit_116 rfl 1 rfl ?_
        refine ia_3_33 (inb_in g9) dX12_isLit_117 ?_
        refine z_sipush (v := 302) dX12_isLit_118 (by decide) ?_
        refine z_icmp_ne (tgt := 137) dX12_isLit_121 (by decide) (fun q => ?_) (fun q => ?_)
        · have h := (if_neg q).symm.trans h
          refine z_iload_n dX12_isLit_137 rfl 2 rfl ?_
          refine z_iload_n dX12_isLit_138 rfl 3 rfl ?_
          refine z_icmp_ge (tgt := 146) dX12_isLit_139 (by decide) (fun q => ?_) (fun q => ?_)
          · have h := (if_pos q).symm.trans h
            refine z_iconst (v := 0) dX12_isLit_146 (by decide) ?_
            refine Z.lv [0, 1] rfl ?_
            exact zb_X12_isLit_147 h
          · have h := (if_neg q).symm.trans h
            refine z_iconst (v := 1) dX12_isLit_142 (by decide) ?_
            refine z_goto (tgt := 147) dX12_isLit_143 (by decide) ?_
            refine Z.lv [0, 1] rfl ?_
            exact zb_X12_isLit_147 h
        · have h := (if_pos q).symm.trans h
          refine z_iload_n dX12_isLit_124 rfl 2 rfl ?_
          refine z_iload_n dX12_isLit_125 rfl 3 rfl ?_
          refine z_icmp_gt (tgt := 133) dX12_isLit_126 (by decide) (fun q => ?_) (fun q => ?_)
          · have h := (if_pos q).symm.trans h
            refine z_iconst (v := 0) dX12_isLit_133 (by decide) ?_
            refine z_goto (tgt := 147) dX12_isLit_134 (by decide) ?_
            refine Z.lv [0, 1] rfl ?_
            exact zb_X12_isLit_147 h
          · have h := (if_neg q).symm.trans h
            refine z_iconst (v := 1) dX12_isLit_129 (by decide) ?_
            refine z_goto (tgt := 147) dX12_isLit_130 (by decide) ?_
            refine Z.lv [0, 1] rfl ?_
            exact zb_X12_isLit_147 h
      · have h := (if_pos q).symm.trans h
        refine z_iload_n dX12_isLit_99 rfl 2 rfl ?_
        refine z_iload_n dX12_isLit_100 rfl 3 rfl ?_
        refine z_icmp_eq (tgt := 108) dX12_isLit_101 (by decide) (fun q => ?_) (fun q => ?_)
        · have h := (if_pos q).symm.trans h
          refine z_iconst (v := 0) dX12_isLit_108 (by decide) ?_
          refine z_goto (tgt := 147) dX12_isLit_109 (by decide) ?_
          refine Z.lv [0, 1] rfl ?_
          exact zb_X12_isLit_147 h
        · have h := (if_neg q).symm.trans h
          refine z_iconst (v := 1) dX12_isLit_104 (by decide) ?_
          refine z_goto (tgt := 147) dX12_isLit_105 (by decide) ?_
          refine Z.lv [0, 1] rfl ?_
          exact zb_X12_isLit_147 h
    · have h := (if_pos q).symm.trans h
      refine z_iload_n dX12_isLit_74 rfl 2 rfl ?_
      refine z_iload_n dX12_isLit_75 rfl 3 rfl ?_
      refine z_icmp_ne (tgt := 83) dX12_isLit_76 (by decide) (fun q => ?_) (fun q => ?_)
      · have h := (if_neg q).symm.trans h
        refine z_iconst (v := 0) dX12_isLit_83 (by decide) ?_
        refine z_goto (tgt := 147) dX12_isLit_84 (by decide) ?_
        refine Z.lv [0, 1] rfl ?_
        exact zb_X12_isLit_147 h
      · have h := (if_pos q).symm.trans h
        refine z_iconst (v := 1) dX12_isLit_79 (by decide) ?_
        refine z_goto (tgt := 147) dX12_isLit_80 (by decide) ?_
        refine Z.lv [0, 1] rfl ?_
        exact zb_X12_isLit_147 h
  · have h := (if_neg q).symm.trans h
    obtain ⟨g10, h⟩ := gd h
    refine z_aload_n dX12_isLit_55 rfl 0 rfl ?_
    refine gf_12_109 rfl dX12_isLit_56 ?_
    refine z_iload_n dX12_isLit_59 rfl 1 rfl ?_
    obtain ⟨g11, h⟩ := gd h
    refine ia_3_32 (inb_in g10) dX12_isLit_60 ?_
    cases h
    exact z_ireturn dX12_isLit_61 rfl (isB_n g11) ⟨rfl, rfl⟩
def F_X12_isLit_16 (x1 : Int32) (s0 : Int32) (σ : Mm) : Option (Int32 × Mm) := (if (mA σ 3 0 0 69) = 0 then (if inb x1 1000 = true then (if inb x1 1000 = true then (bnd (F_X12_sum (mA σ 3 0 35 x1.toNatClampNeg) (mA σ 3 0 36 x1.toNatClampNeg) σ) (fun v τ => (F_X12_isLit_47 x1 s0 v τ))) else none) else none) else (if inb x1 1000 = true then (if isB (mA σ 3 0 32 x1.toNatClampNeg) = true then some (mA σ 3 0 32 x1.toNatClampNeg, σ) else none) else none))
set_option maxRecDepth 20000 in
theorem zb_X12_isLit_16 {S : Shp} {x1 : Int32} {s0 : Int32} {σ : Mm} {r : Int32 × Mm} (h : F_X12_isLit_16 x1 s0 σ = some r) : Z m_X12_isLit S (Qi r) 16 [(0, .ref (sL S 3 0 0)), (1, .int (x1))] [.int (s0)] σ := by
  unfold F_X12_isLit_16 at h
  refine z_istore_n (lv' := [(0, .ref (sL S 3 0 0)), (1, .int (x1)), (2, .int (s0))]) dX12_isLit_16 rfl (by decide) [1, 2, 0] rfl ?_
  refine z_aload_n dX12_isLit_17 rfl 0 rfl ?_
  refine gf_12_447 rfl dX12_isLit_18 ?_
  refine z_if_eq (tgt := 31) dX12_isLit_21 (by decide) (fun q => ?_) (fun q => ?_)
  · have h := (if_pos q).symm.trans h
    obtain ⟨g3, h⟩ := gd h
    refine z_aload_n dX12_isLit_31 rfl 0 rfl ?_
    refine z_aload_n dX12_isLit_32 rfl 0 rfl ?_
    refine gf_12_118 rfl dX12_isLit_33 ?_
    refine z_iload_n dX12_isLit_36 rfl 1 rfl ?_
    obtain ⟨g4, h⟩ := gd h
    refine ia_3_35 (inb_in g3) dX12_isLit_37 ?_
    refine z_aload_n dX12_isLit_38 rfl 0 rfl ?_
    refine gf_12_121 rfl dX12_isLit_39 ?_
    refine z_iload_n dX12_isLit_42 rfl 1 rfl ?_
    refine ia_3_36 (inb_in g4) dX12_isLit_43 ?_
    obtain ⟨v, τ, hc, h⟩ := bnd_e h
    refine z_callV (M' := m_X12_sum) (t := 3) (i := 0) (k := 0) (As := [.int (mA σ 3 0 35 x1.toNatClampNeg), .int (mA σ 3 0 36 x1.toNatClampNeg)]) (rest := []) kl_12_451 oy_X12_sum ⟨Nat.le_of_ble_eq_true rfl, Nat.le_of_ble_eq_true rfl⟩ rfl rfl rfl rfl (Nat.le_of_ble_eq_true rfl) rfl dX12_isLit_44 (c_X12_sum hc) (fun v2 τ2 hq => ?_)
    obtain ⟨rfl, hτ⟩ := hq
    subst τ2
    change Z _ _ _ _ _ [.int (v)] _
    exact zb_X12_isLit_47 h
  · have h := (if_neg q).symm.trans h
    obtain ⟨g5, h⟩ := gd h
    refine z_aload_n dX12_isLit_24 rfl 0 rfl ?_
    refine gf_12_109 rfl dX12_isLit_25 ?_
    refine z_iload_n dX12_isLit_28 rfl 1 rfl ?_
    obtain ⟨g6, h⟩ := gd h
    refine ia_3_32 (inb_in g5) dX12_isLit_29 ?_
    cases h
    exact z_ireturn dX12_isLit_30 rfl (isB_n g6) ⟨rfl, rfl⟩
def F_X12_isLit (x1 : Int32) (σ : Mm) : Option (Int32 × Mm) := (if inb x1 1000 = true then (if inb x1 1000 = true then (bnd (F_X12_sum (mA σ 3 0 34 x1.toNatClampNeg) (mA σ 3 0 35 x1.toNatClampNeg) σ) (fun v τ => (F_X12_isLit_16 x1 v τ))) else none) else none)
set_option maxRecDepth 20000 in
theorem zb_X12_isLit {S : Shp} {x1 : Int32} {σ : Mm} {r : Int32 × Mm} (h : F_X12_isLit x1 σ = some r) : Z m_X12_isLit S (Qi r) 0 [(0, .ref (sL S 3 0 0)), (1, .int (x1))] [] σ := by
  unfold F_X12_isLit at h
  obtain ⟨g1, h⟩ := gd h
  refine z_aload_n dX12_isLit_0 rfl 0 rfl ?_
  refine z_aload_n dX12_isLit_1 rfl 0 rfl ?_
  refine gf_12_115 rfl dX12_isLit_2 ?_
  refine z_iload_n dX12_isLit_5 rfl 1 rfl ?_
  obtain ⟨g2, h⟩ := gd h
  refine ia_3_34 (inb_in g1) dX12_isLit_6 ?_
  refine z_aload_n dX12_isLit_7 rfl 0 rfl ?_
  refine gf_12_118 rfl dX12_isLit_8 ?_
  refine z_iload_n dX12_isLit_11 rfl 1 rfl ?_
  refine ia_3_35 (inb_in g2) dX12_isLit_12 ?_
  obtain ⟨v, τ, hc, h⟩ := bnd_e h
  refine z_callV (M' := m_X12_sum) (t := 3) (i := 0) (k := 0) (As := [.int (mA σ 3 0 34 x1.toNatClampNeg), .int (mA σ 3 0 35 x1.toNatClampNeg)]) (rest := []) kl_12_451 oy_X12_sum ⟨Nat.le_of_ble_eq_true rfl, Nat.le_of_ble_eq_true rfl⟩ rfl rfl rfl rfl (Nat.le_of_ble_eq_true rfl) rfl dX12_isLit_13 (c_X12_sum hc) (fun v2 τ2 hq => ?_)
  obtain ⟨rfl, hτ⟩ := hq
  subst τ2
  change Z _ _ _ _ _ [.int (v)] _
  exact zb_X12_isLit_16 h
/-- SkyStonesModel.isLit(I)Z -/
theorem c_X12_isLit {S : Shp} {x1 : Int32} {σ : Mm} {r : Int32 × Mm} (h : F_X12_isLit x1 σ = some r) : Ct m_X12_isLit S [.ref (sL S 3 0 0), .int (x1)] σ (Qi r) := Ct.of (by decide +kernel) (Nat.le_of_ble_eq_true rfl) (zb_X12_isLit h)
def F_X12_isHeld_52 (rc2 : Int32 → Int32 → Mm → Option (Int32 × Mm)) (x2 : Int32) (x3 : Int32) (x5 : Int32) (σ : Mm) : Option (Int32 × Mm) := (if x5 = 0 then (rc2 x2 x3 σ) else some (1, σ))
set_option maxRecDepth 20000 in
theorem zb_X12_isHeld_52 {S : Shp} {rc2 : Int32 → Int32 → Mm → Option (Int32 × Mm)} (hrc2 : ∀ {x2 : Int32} {x3 : Int32} {σ : Mm} {r : Int32 × Mm}, rc2 x2 x3 σ = some r → Z m_X12_isHeld S (Qi r) 2 [(0, .ref (sL S 3 0 0)), (2, .int (x2)), (3, .int (x3))] [] σ) {x2 : Int32} {x3 : Int32} {x5 : Int32} {σ : Mm} {r : Int32 × Mm} (h : F_X12_isHeld_52 rc2 x2 x3 x5 σ = some r) : Z m_X12_isHeld S (Qi r) 52 [(0, .ref (sL S 3 0 0)), (2, .int (x2)), (3, .int (x3)), (5, .int (x5))] [] σ := by
  unfold F_X12_isHeld_52 at h
  refine z_iload dX12_isHeld_52 3 rfl ?_
  refine z_if_eq (tgt := 59) dX12_isHeld_54 (by decide) (fun q => ?_) (fun q => ?_)
  · have h := (if_pos q).symm.trans h
    refine z_goto (tgt := 2) dX12_isHeld_59 (by decide) ?_
    refine Z.lv [0, 1, 2] rfl ?_
    exact hrc2 h
  · have h := (if_neg q).symm.trans h
    refine z_iconst (v := 1) dX12_isHeld_57 (by decide) ?_
    cases h
    exact z_ireturn dX12_isHeld_58 rfl rfl ⟨rfl, rfl⟩
def F_X12_isHeld_46 (rc2 : Int32 → Int32 → Mm → Option (Int32 × Mm)) (rc18 : Int32 → Int32 → Int32 → Int32 → Mm → Option (Int32 × Mm)) (x2 : Int32) (x3 : Int32) (x4 : Int32) (x5 : Int32) (σ : Mm) : Option (Int32 × Mm) := (rc18 x2 (x3 + 1) x4 x5 σ)
set_option maxRecDepth 20000 in
theorem zb_X12_isHeld_46 {S : Shp} {rc2 : Int32 → Int32 → Mm → Option (Int32 × Mm)} (hrc2 : ∀ {x2 : Int32} {x3 : Int32} {σ : Mm} {r : Int32 × Mm}, rc2 x2 x3 σ = some r → Z m_X12_isHeld S (Qi r) 2 [(0, .ref (sL S 3 0 0)), (2, .int (x2)), (3, .int (x3))] [] σ) {rc18 : Int32 → Int32 → Int32 → Int32 → Mm → Option (Int32 × Mm)} (hrc18 : ∀ {x2 : Int32} {x3 : Int32} {x4 : Int32} {x5 : Int32} {σ : Mm} {r : Int32 × Mm}, rc18 x2 x3 x4 x5 σ = some r → Z m_X12_isHeld S (Qi r) 18 [(0, .ref (sL S 3 0 0)), (2, .int (x2)), (3, .int (x3)), (4, .int (x4)), (5, .int (x5))] [] σ) {x2 : Int32} {x3 : Int32} {x4 : Int32} {x5 : Int32} {σ : Mm} {r : Int32 × Mm} (h : F_X12_isHeld_46 rc2 rc18 x2 x3 x4 x5 σ = some r) : Z m_X12_isHeld S (Qi r) 46 [(0, .ref (sL S 3 0 0)), (2, .int (x2)), (3, .int (x3)), (4, .int (x4)), (5, .int (x5))] [] σ := by
  unfold F_X12_isHeld_46 at h
  refine z_iinc (j := 2) (v := x3 + 1) (lv' := [(0, .ref (sL S 3 0 0)), (2, .int (x2)), (3, .int (x3 + 1)), (4, .int (x4)), (5, .int (x5))]) dX12_isHeld_46 rfl rfl (by decide) [1, 2, 0, 3, 4] rfl ?_
  refine z_goto (tgt := 18) dX12_isHeld_49 (by decide) ?_
  exact hrc18 h
def F_X12_isHeld_44 (rc2 : Int32 → Int32 → Mm → Option (Int32 × Mm)) (rc18 : Int32 → Int32 → Int32 → Int32 → Mm → Option (Int32 × Mm)) (x2 : Int32) (x3 : Int32) (x4 : Int32) (s0 : Int32) (σ : Mm) : Option (Int32 × Mm) := (F_X12_isHeld_46 rc2 rc18 x2 x3 x4 s0 σ)
set_option maxRecDepth 20000 in
theorem zb_X12_isHeld_44 {S : Shp} {rc2 : Int32 → Int32 → Mm → Option (Int32 × Mm)} (hrc2 : ∀ {x2 : Int32} {x3 : Int32} {σ : Mm} {r : Int32 × Mm}, rc2 x2 x3 σ = some r → Z m_X12_isHeld S (Qi r) 2 [(0, .ref (sL S 3 0 0)), (2, .int (x2)), (3, .int (x3))] [] σ) {rc18 : Int32 → Int32 → Int32 → Int32 → Mm → Option (Int32 × Mm)} (hrc18 : ∀ {x2 : Int32} {x3 : Int32} {x4 : Int32} {x5 : Int32} {σ : Mm} {r : Int32 × Mm}, rc18 x2 x3 x4 x5 σ = some r → Z m_X12_isHeld S (Qi r) 18 [(0, .ref (sL S 3 0 0)), (2, .int (x2)), (3, .int (x3)), (4, .int (x4)), (5, .int (x5))] [] σ) {x2 : Int32} {x3 : Int32} {x4 : Int32} {s0 : Int32} {σ : Mm} {r : Int32 × Mm} (h : F_X12_isHeld_44 rc2 rc18 x2 x3 x4 s0 σ = some r) : Z m_X12_isHeld S (Qi r) 44 [(0, .ref (sL S 3 0 0)), (2, .int (x2)), (3, .int (x3)), (4, .int (x4))] [.int (s0)] σ := by
  unfold F_X12_isHeld_44 at h
  refine z_istore (lv' := [(0, .ref (sL S 3 0 0)), (2, .int (x2)), (3, .int (x3)), (4, .int (x4)), (5, .int (s0))]) dX12_isHeld_44 (by decide) [1, 2, 3, 4, 0] rfl ?_
  exact zb_X12_isHeld_46 hrc2 hrc18 h
def B_X12_isHeld_18 (rc2 : Int32 → Int32 → Mm → Option (Int32 × Mm)) (rc18 : Int32 → Int32 → Int32 → Int32 → Mm → Option (Int32 × Mm)) (x2 : Int32) (x3 : Int32) (x4 : Int32) (x5 : Int32) (σ : Mm) : Option (Int32 × Mm) := (if x2 ≤ x3 then (F_X12_isHeld_52 rc2 x2 x3 x5 σ) else (if inb x3 1000 = true then (if (mA σ 3 0 37 x3.toNatClampNeg) = x4 then (if x5 = 0 then (F_X12_isHeld_46 rc2 rc18 x2 x3 x4 x5 σ) else (bnd (F_X12_isLit x3 σ) (fun v τ => (F_X12_isHeld_44 rc2 rc18 x2 x3 x4 v τ)))) else (F_X12_isHeld_52 rc2 x2 x3 x5 σ)) else none))
set_option maxRecDepth 20000 in
theorem zB_X12_isHeld_18 {S : Shp} {rc2 : Int32 → Int32 → Mm → Option (Int32 × Mm)} (hrc2 : ∀ {x2 : Int32} {x3 : Int32} {σ : Mm} {r : Int32 × Mm}, rc2 x2 x3 σ = some r → Z m_X12_isHeld S (Qi r) 2 [(0, .ref (sL S 3 0 0)), (2, .int (x2)), (3, .int (x3))] [] σ) {rc18 : Int32 → Int32 → Int32 → Int32 → Mm → Option (Int32 × Mm)} (hrc18 : ∀ {x2 : Int32} {x3 : Int32} {x4 : Int32} {x5 : Int32} {σ : Mm} {r : Int32 × Mm}, rc18 x2 x3 x4 x5 σ = some r → Z m_X12_isHeld S (Qi r) 18 [(0, .ref (sL S 3 0 0)), (2, .int (x2)), (3, .int (x3)), (4, .int (x4)), (5, .int (x5))] [] σ) {x2 : Int32} {x3 : Int32} {x4 : Int32} {x5 : Int32} {σ : Mm} {r : Int32 × Mm} (h : B_X12_isHeld_18 rc2 rc18 x2 x3 x4 x5 σ = some r) : Z m_X12_isHeld S (Qi r) 18 [(0, .ref (sL S 3 0 0)), (2, .int (x2)), (3, .int (x3)), (4, .int (x4)), (5, .int (x5))] [] σ := by
  unfold B_X12_isHeld_18 at h
  refine z_iload_n dX12_isHeld_18 rfl 2 rfl ?_
  refine z_iload_n dX12_isHeld_19 rfl 1 rfl ?_
  refine z_icmp_ge (tgt := 52) dX12_isHeld_20 (by decide) (fun q => ?_) (fun q => ?_)
  · have h := (if_pos q).symm.trans h
    refine Z.lv [0, 1, 2, 4] rfl ?_
    exact zb_X12_isHeld_52 hrc2 h
  · have h := (if_neg q).symm.trans h
    obtain ⟨g2, h⟩ := gd h
    refine z_aload_n dX12_isHeld_23 rfl 0 rfl ?_
    refine gf_12_124 rfl dX12_isHeld_24 ?_
    refine z_iload_n dX12_isHeld_27 rfl 2 rfl ?_
    refine ia_3_37 (inb_in g2) dX12_isHeld_28 ?_
    refine z_iload dX12_isHeld_29 3 rfl ?_
    refine z_icmp_ne (tgt := 52) dX12_isHeld_31 (by decide) (fun q => ?_) (fun q => ?_)
    · have h := (if_neg q).symm.trans h
      refine Z.lv [0, 1, 2, 4] rfl ?_
      exact zb_X12_isHeld_52 hrc2 h
    · have h := (if_pos q).symm.trans h
      refine z_iload dX12_isHeld_34 4 rfl ?_
      refine z_if_eq (tgt := 46) dX12_isHeld_36 (by decide) (fun q => ?_) (fun q => ?_)
      · have h := (if_pos q).symm.trans h
        exact zb_X12_isHeld_46 hrc2 hrc18 h
      · have h := (if_neg q).symm.trans h
        refine z_aload_n dX12_isHeld_39 rfl 0 rfl ?_
        refine z_iload_n dX12_isHeld_40 rfl 2 rfl ?_
        obtain ⟨v, τ, hc, h⟩ := bnd_e h
        refine z_callV (M' := m_X12_isLit) (t := 3) (i := 0) (k := 0) (As := [.int (x3)]) (rest := []) kl_12_454 oy_X12_isLit ⟨Nat.le_of_ble_eq_true rfl, Nat.le_of_ble_eq_true rfl⟩ rfl rfl rfl rfl (Nat.le_of_ble_eq_true rfl) rfl dX12_isHeld_41 (c_X12_isLit hc) (fun v2 τ2 hq => ?_)
        obtain ⟨rfl, hτ⟩ := hq
        subst τ2
        change Z _ _ _ _ _ [.int (v)] _
        refine Z.lv [0, 1, 2, 3] rfl ?_
        exact zb_X12_isHeld_44 hrc2 hrc18 h
def F_X12_isHeld_18 (rc2 : Int32 → Int32 → Mm → Option (Int32 × Mm)) : Nat → Int32 → Int32 → Int32 → Int32 → Mm → Option (Int32 × Mm)
  | 0 => fun _ _ _ _ _ => none
  | n + 1 => B_X12_isHeld_18 rc2 (F_X12_isHeld_18 rc2 n)
theorem zl_X12_isHeld_18 {S : Shp} {rc2 : Int32 → Int32 → Mm → Option (Int32 × Mm)} (hrc2 : ∀ {x2 : Int32} {x3 : Int32} {σ : Mm} {r : Int32 × Mm}, rc2 x2 x3 σ = some r → Z m_X12_isHeld S (Qi r) 2 [(0, .ref (sL S 3 0 0)), (2, .int (x2)), (3, .int (x3))] [] σ) : ∀ (nn : Nat) {x2 : Int32} {x3 : Int32} {x4 : Int32} {x5 : Int32} {σ : Mm} {r : Int32 × Mm}, F_X12_isHeld_18 rc2 nn x2 x3 x4 x5 σ = some r → Z m_X12_isHeld S (Qi r) 18 [(0, .ref (sL S 3 0 0)), (2, .int (x2)), (3, .int (x3)), (4, .int (x4)), (5, .int (x5))] [] σ := by
  intro nn
  induction nn with
  | zero => intro x2 x3 x4 x5 σ r h; cases h
  | succ nn ih => intro x2 x3 x4 x5 σ r h; exact zB_X12_isHeld_18 hrc2 @ih h
def B_X12_isHeld_2 (rc2 : Int32 → Int32 → Mm → Option (Int32 × Mm)) (x2 : Int32) (x3 : Int32) (σ : Mm) : Option (Int32 × Mm) := (if x2 ≤ x3 then some (0, σ) else (if inb x3 1000 = true then (F_X12_isHeld_18 rc2 FU x2 x3 (mA σ 3 0 37 x3.toNatClampNeg) 1 σ) else none))
set_option maxRecDepth 20000 in
theorem zB_X12_isHeld_2 {S : Shp} {rc2 : Int32 → Int32 → Mm → Option (Int32 × Mm)} (hrc2 : ∀ {x2 : Int32} {x3 : Int32} {σ : Mm} {r : Int32 × Mm}, rc2 x2 x3 σ = some r → Z m_X12_isHeld S (Qi r) 2 [(0, .ref (sL S 3 0 0)), (2, .int (x2)), (3, .int (x3))] [] σ) {x2 : Int32} {x3 : Int32} {σ : Mm} {r : Int32 × Mm} (h : B_X12_isHeld_2 rc2 x2 x3 σ = some r) : Z m_X12_isHeld S (Qi r) 2 [(0, .ref (sL S 3 0 0)), (2, .int (x2)), (3, .int (x3))] [] σ := by
  unfold B_X12_isHeld_2 at h
  refine z_iload_n dX12_isHeld_2 rfl 2 rfl ?_
  refine z_iload_n dX12_isHeld_3 rfl 1 rfl ?_
  refine z_icmp_ge (tgt := 62) dX12_isHeld_4 (by decide) (fun q => ?_) (fun q => ?_)
  · have h := (if_pos q).symm.trans h
    refine z_iconst (v := 0) dX12_isHeld_62 (by decide) ?_
    cases h
    exact z_ireturn dX12_isHeld_63 rfl rfl ⟨rfl, rfl⟩
  · have h := (if_neg q).symm.trans h
    obtain ⟨g1, h⟩ := gd h
    refine z_aload_n dX12_isHeld_7 rfl 0 rfl ?_
    refine gf_12_124 rfl dX12_isHeld_8 ?_
    refine z_iload_n dX12_isHeld_11 rfl 2 rfl ?_
    refine ia_3_37 (inb_in g1) dX12_isHeld_12 ?_
    refine z_istore (lv' := [(0, .ref (sL S 3 0 0)), (2, .int (x2)), (3, .int (x3)), (4, .int (mA σ 3 0 37 x3.toNatClampNeg))]) dX12_isHeld_13 (by decide) [1, 2, 3, 0] rfl ?_
    refine z_iconst (v := 1) dX12_isHeld_15 (by decide) ?_
    refine z_istore (lv' := [(0, .ref (sL S 3 0 0)), (2, .int (x2)), (3, .int (x3)), (4, .int (mA σ 3 0 37 x3.toNatClampNeg)), (5, .int (1))]) dX12_isHeld_16 (by decide) [1, 2, 3, 4, 0] rfl ?_
    exact zl_X12_isHeld_18 hrc2 FU h
def F_X12_isHeld_2 : Nat → Int32 → Int32 → Mm → Option (Int32 × Mm)
  | 0 => fun _ _ _ => none
  | n + 1 => B_X12_isHeld_2 (F_X12_isHeld_2 n)
theorem zl_X12_isHeld_2 {S : Shp} : ∀ (nn : Nat) {x2 : Int32} {x3 : Int32} {σ : Mm} {r : Int32 × Mm}, F_X12_isHeld_2 nn x2 x3 σ = some r → Z m_X12_isHeld S (Qi r) 2 [(0, .ref (sL S 3 0 0)), (2, .int (x2)), (3, .int (x3))] [] σ := by
  intro nn
  induction nn with
  | zero => intro x2 x3 σ r h; cases h
  | succ nn ih => intro x2 x3 σ r h; exact zB_X12_isHeld_2 @ih h
def F_X12_isHeld (x1 : Int32) (x2 : Int32) (σ : Mm) : Option (Int32 × Mm) := (F_X12_isHeld_2 FU x2 x1 σ)
set_option maxRecDepth 20000 in
theorem zb_X12_isHeld {S : Shp} {x1 : Int32} {x2 : Int32} {σ : Mm} {r : Int32 × Mm} (h : F_X12_isHeld x1 x2 σ = some r) : Z m_X12_isHeld S (Qi r) 0 [(0, .ref (sL S 3 0 0)), (1, .int (x1)), (2, .int (x2))] [] σ := by
  unfold F_X12_isHeld at h
  refine z_iload_n dX12_isHeld_0 rfl 1 rfl ?_
  refine z_istore_n (lv' := [(0, .ref (sL S 3 0 0)), (1, .int (x1)), (2, .int (x2)), (3, .int (x1))]) dX12_isHeld_1 rfl (by decide) [1, 2, 3, 0] rfl ?_
  refine Z.lv [0, 2, 3] rfl ?_
  exact zl_X12_isHeld_2 FU h
/-- SkyStonesModel.isHeld(II)Z -/
theorem c_X12_isHeld {S : Shp} {x1 : Int32} {x2 : Int32} {σ : Mm} {r : Int32 × Mm} (h : F_X12_isHeld x1 x2 σ = some r) : Ct m_X12_isHeld S [.ref (sL S 3 0 0), .int (x1), .int (x2)] σ (Qi r) := Ct.of (by decide +kernel) (Nat.le_of_ble_eq_true rfl) (zb_X12_isHeld h)
def F_X12_isLive_38 (rc11 : Int32 → Int32 → Int32 → Mm → Option (Int32 × Mm)) (x1 : Int32) (x2 : Int32) (x3 : Int32) (σ : Mm) : Option (Int32 × Mm) := (rc11 x1 x2 (x3 + 1) σ)
set_option maxRecDepth 20000 in
theorem zb_X12_isLive_38 {S : Shp} {rc11 : Int32 → Int32 → Int32 → Mm → Option (Int32 × Mm)} (hrc11 : ∀ {x1 : Int32} {x2 : Int32} {x3 : Int32} {σ : Mm} {r : Int32 × Mm}, rc11 x1 x2 x3 σ = some r → Z m_X12_isLive S (Qi r) 11 [(0, .ref (sL S 3 0 0)), (1, .int (x1)), (2, .int (x2)), (3, .int (x3))] [] σ) {x1 : Int32} {x2 : Int32} {x3 : Int32} {σ : Mm} {r : Int32 × Mm} (h : F_X12_isLive_38 rc11 x1 x2 x3 σ = some r) : Z m_X12_isLive S (Qi r) 38 [(0, .ref (sL S 3 0 0)), (1, .int (x1)), (2, .int (x2)), (3, .int (x3))] [] σ := by
  unfold F_X12_isLive_38 at h
  refine z_iinc (j := 3) (v := x3 + 1) (lv' := [(0, .ref (sL S 3 0 0)), (1, .int (x1)), (2, .int (x2)), (3, .int (x3 + 1))]) dX12_isLive_38 rfl rfl (by decide) [1, 2, 3, 0] rfl ?_
  refine z_goto (tgt := 11) dX12_isLive_41 (by decide) ?_
  exact hrc11 h
def B_X12_isLive_11 (rc11 : Int32 → Int32 → Int32 → Mm → Option (Int32 × Mm)) (x1 : Int32) (x2 : Int32) (x3 : Int32) (σ : Mm) : Option (Int32 × Mm) := (if x2 ≤ x3 then some (1, σ) else (if inb x3 300 = true then (if (mA σ 3 0 39 x3.toNatClampNeg) = (4 : Int32) then (if inb x3 300 = true then (if (mA σ 3 0 41 x3.toNatClampNeg) = x1 then some (0, σ) else (F_X12_isLive_38 rc11 x1 x2 x3 σ)) else none) else (F_X12_isLive_38 rc11 x1 x2 x3 σ)) else none))
set_option maxRecDepth 20000 in
theorem zB_X12_isLive_11 {S : Shp} {rc11 : Int32 → Int32 → Int32 → Mm → Option (Int32 × Mm)} (hrc11 : ∀ {x1 : Int32} {x2 : Int32} {x3 : Int32} {σ : Mm} {r : Int32 × Mm}, rc11 x1 x2 x3 σ = some r → Z m_X12_isLive S (Qi r) 11 [(0, .ref (sL S 3 0 0)), (1, .int (x1)), (2, .int (x2)), (3, .int (x3))] [] σ) {x1 : Int32} {x2 : Int32} {x3 : Int32} {σ : Mm} {r : Int32 × Mm} (h : B_X12_isLive_11 rc11 x1 x2 x3 σ = some r) : Z m_X12_isLive S (Qi r) 11 [(0, .ref (sL S 3 0 0)), (1, .int (x1)), (2, .int (x2)), (3, .int (x3))] [] σ := by
  unfold B_X12_isLive_11 at h
  refine z_iload_n dX12_isLive_11 rfl 3 rfl ?_
  refine z_iload_n dX12_isLive_12 rfl 2 rfl ?_
  refine z_icmp_ge (tgt := 44) dX12_isLive_13 (by decide) (fun q => ?_) (fun q => ?_)
  · have h := (if_pos q).symm.trans h
    refine z_iconst (v := 1) dX12_isLive_44 (by decide) ?_
    cases h
    exact z_ireturn dX12_isLive_45 rfl rfl ⟨rfl, rfl⟩
  · have h := (if_neg q).symm.trans h
    obtain ⟨g1, h⟩ := gd h
    refine z_aload_n dX12_isLive_16 rfl 0 rfl ?_
    refine gf_12_130 rfl dX12_isLive_17 ?_
    refine z_iload_n dX12_isLive_20 rfl 3 rfl ?_
    refine ia_3_39 (inb_in g1) dX12_isLive_21 ?_
    refine z_iconst (v := 4) dX12_isLive_22 (by decide) ?_
    refine z_icmp_ne (tgt := 38) dX12_isLive_23 (by decide) (fun q => ?_) (fun q => ?_)
    · have h := (if_neg q).symm.trans h
      exact zb_X12_isLive_38 hrc11 h
    · have h := (if_pos q).symm.trans h
      obtain ⟨g2, h⟩ := gd h
      refine z_aload_n dX12_isLive_26 rfl 0 rfl ?_
      refine gf_12_136 rfl dX12_isLive_27 ?_
      refine z_iload_n dX12_isLive_30 rfl 3 rfl ?_
      refine ia_3_41 (inb_in g2) dX12_isLive_31 ?_
      refine z_iload_n dX12_isLive_32 rfl 1 rfl ?_
      refine z_icmp_ne (tgt := 38) dX12_isLive_33 (by decide) (fun q => ?_) (fun q => ?_)
      · have h := (if_neg q).symm.trans h
        exact zb_X12_isLive_38 hrc11 h
      · have h := (if_pos q).symm.trans h
        refine z_iconst (v := 0) dX12_isLive_36 (by decide) ?_
        cases h
        exact z_ireturn dX12_isLive_37 rfl rfl ⟨rfl, rfl⟩
def F_X12_isLive_11 : Nat → Int32 → Int32 → Int32 → Mm → Option (Int32 × Mm)
  | 0 => fun _ _ _ _ => none
  | n + 1 => B_X12_isLive_11 (F_X12_isLive_11 n)
theorem zl_X12_isLive_11 {S : Shp} : ∀ (nn : Nat) {x1 : Int32} {x2 : Int32} {x3 : Int32} {σ : Mm} {r : Int32 × Mm}, F_X12_isLive_11 nn x1 x2 x3 σ = some r → Z m_X12_isLive S (Qi r) 11 [(0, .ref (sL S 3 0 0)), (1, .int (x1)), (2, .int (x2)), (3, .int (x3))] [] σ := by
  intro nn
  induction nn with
  | zero => intro x1 x2 x3 σ r h; cases h
  | succ nn ih => intro x1 x2 x3 σ r h; exact zB_X12_isLive_11 @ih h
def F_X12_isLive (x1 : Int32) (x2 : Int32) (σ : Mm) : Option (Int32 × Mm) := (if x1 < x2 then (F_X12_isLive_11 FU x1 x2 (x1 + (1 : Int32)) σ) else some (0, σ))
set_option maxRecDepth 20000 in
theorem zb_X12_isLive {S : Shp} {x1 : Int32} {x2 : Int32} {σ : Mm} {r : Int32 × Mm} (h : F_X12_isLive x1 x2 σ = some r) : Z m_X12_isLive S (Qi r) 0 [(0, .ref (sL S 3 0 0)), (1, .int (x1)), (2, .int (x2))] [] σ := by
  unfold F_X12_isLive at h
  refine z_iload_n dX12_isLive_0 rfl 1 rfl ?_
  refine z_iload_n dX12_isLive_1 rfl 2 rfl ?_
  refine z_icmp_lt (tgt := 7) dX12_isLive_2 (by decide) (fun q => ?_) (fun q => ?_)
  · have h := (if_pos q).symm.trans h
    refine z_iload_n dX12_isLive_7 rfl 1 rfl ?_
    refine z_iconst (v := 1) dX12_isLive_8 (by decide) ?_
    refine z_iadd dX12_isLive_9 ?_
    refine z_istore_n (lv' := [(0, .ref (sL S 3 0 0)), (1, .int (x1)), (2, .int (x2)), (3, .int (x1 + (1 : Int32)))]) dX12_isLive_10 rfl (by decide) [1, 2, 3, 0] rfl ?_
    exact zl_X12_isLive_11 FU h
  · have h := (if_neg q).symm.trans h
    refine z_iconst (v := 0) dX12_isLive_5 (by decide) ?_
    cases h
    exact z_ireturn dX12_isLive_6 rfl rfl ⟨rfl, rfl⟩
/-- SkyStonesModel.isLive(II)Z -/
theorem c_X12_isLive {S : Shp} {x1 : Int32} {x2 : Int32} {σ : Mm} {r : Int32 × Mm} (h : F_X12_isLive x1 x2 σ = some r) : Ct m_X12_isLive S [.ref (sL S 3 0 0), .int (x1), .int (x2)] σ (Qi r) := Ct.of (by decide +kernel) (Nat.le_of_ble_eq_true rfl) (zb_X12_isLive h)
def F_X12_lastOf_45 (rc5 : Int32 → Int32 → Int32 → Int32 → Mm → Option (Int32 × Mm)) (x1 : Int32) (x2 : Int32) (x3 : Int32) (x4 : Int32) (σ : Mm) : Option (Int32 × Mm) := (rc5 x1 x2 x3 (x4 + (-1)) σ)
set_option maxRecDepth 20000 in
theorem zb_X12_lastOf_45 {S : Shp} {rc5 : Int32 → Int32 → Int32 → Int32 → Mm → Option (Int32 × Mm)} (hrc5 : ∀ {x1 : Int32} {x2 : Int32} {x3 : Int32} {x4 : Int32} {σ : Mm} {r : Int32 × Mm}, rc5 x1 x2 x3 x4 σ = some r → Z m_X12_lastOf S (Qi r) 5 [(0, .ref (sL S 3 0 0)), (1, .int (x1)), (2, .int (x2)), (3, .int (x3)), (4, .int (x4))] [] σ) {x1 : Int32} {x2 : Int32} {x3 : Int32} {x4 : Int32} {σ : Mm} {r : Int32 × Mm} (h : F_X12_lastOf_45 rc5 x1 x2 x3 x4 σ = some r) : Z m_X12_lastOf S (Qi r) 45 [(0, .ref (sL S 3 0 0)), (1, .int (x1)), (2, .int (x2)), (3, .int (x3)), (4, .int (x4))] [] σ := by
  unfold F_X12_lastOf_45 at h
  refine z_iinc (j := 4) (v := x4 + (-1)) (lv' := [(0, .ref (sL S 3 0 0)), (1, .int (x1)), (2, .int (x2)), (3, .int (x3)), (4, .int (x4 + (-1)))]) dX12_lastOf_45 rfl rfl (by decide) [1, 2, 3, 4, 0] rfl ?_
  refine z_goto (tgt := 5) dX12_lastOf_48 (by decide) ?_
  exact hrc5 h
def F_X12_lastOf_39 (rc5 : Int32 → Int32 → Int32 → Int32 → Mm → Option (Int32 × Mm)) (x1 : Int32) (x2 : Int32) (x3 : Int32) (x4 : Int32) (s0 : Int32) (σ : Mm) : Option (Int32 × Mm) := (if s0 = 0 then (F_X12_lastOf_45 rc5 x1 x2 x3 x4 σ) else some (x4, σ))
set_option maxRecDepth 20000 in
theorem zb_X12_lastOf_39 {S : Shp} {rc5 : Int32 → Int32 → Int32 → Int32 → Mm → Option (Int32 × Mm)} (hrc5 : ∀ {x1 : Int32} {x2 : Int32} {x3 : Int32} {x4 : Int32} {σ : Mm} {r : Int32 × Mm}, rc5 x1 x2 x3 x4 σ = some r → Z m_X12_lastOf S (Qi r) 5 [(0, .ref (sL S 3 0 0)), (1, .int (x1)), (2, .int (x2)), (3, .int (x3)), (4, .int (x4))] [] σ) {x1 : Int32} {x2 : Int32} {x3 : Int32} {x4 : Int32} {s0 : Int32} {σ : Mm} {r : Int32 × Mm} (h : F_X12_lastOf_39 rc5 x1 x2 x3 x4 s0 σ = some r) : Z m_X12_lastOf S (Qi r) 39 [(0, .ref (sL S 3 0 0)), (1, .int (x1)), (2, .int (x2)), (3, .int (x3)), (4, .int (x4))] [.int (s0)] σ := by
  unfold F_X12_lastOf_39 at h
  refine z_if_eq (tgt := 45) dX12_lastOf_39 (by decide) (fun q => ?_) (fun q => ?_)
  · have h := (if_pos q).symm.trans h
    exact zb_X12_lastOf_45 hrc5 h
  · have h := (if_neg q).symm.trans h
    refine z_iload dX12_lastOf_42 4 rfl ?_
    cases h
    exact z_ireturn dX12_lastOf_44 rfl rfl ⟨rfl, rfl⟩
def B_X12_lastOf_5 (rc5 : Int32 → Int32 → Int32 → Int32 → Mm → Option (Int32 × Mm)) (x1 : Int32) (x2 : Int32) (x3 : Int32) (x4 : Int32) (σ : Mm) : Option (Int32 × Mm) := (if x4 < 0 then some ((-1), σ) else (if inb x4 300 = true then (if (mA σ 3 0 39 x4.toNatClampNeg) = x2 then (if inb x4 300 = true then (if (mA σ 3 0 40 x4.toNatClampNeg) = x1 then (bnd (F_X12_isLive x4 x3 σ) (fun v τ => (F_X12_lastOf_39 rc5 x1 x2 x3 x4 v τ))) else (F_X12_lastOf_45 rc5 x1 x2 x3 x4 σ)) else none) else (F_X12_lastOf_45 rc5 x1 x2 x3 x4 σ)) else none))
set_option maxRecDepth 20000 in
theorem zB_X12_lastOf_5 {S : Shp} {rc5 : Int32 → Int32 → Int32 → Int32 → Mm → Option (Int32 × Mm)} (hrc5 : ∀ {x1 : Int32} {x2 : Int32} {x3 : Int32} {x4 : Int32} {σ : Mm} {r : Int32 × Mm}, rc5 x1 x2 x3 x4 σ = some r → Z m_X12_lastOf S (Qi r) 5 [(0, .ref (sL S 3 0 0)), (1, .int (x1)), (2, .int (x2)), (3, .int (x3)), (4, .int (x4))] [] σ) {x1 : Int32} {x2 : Int32} {x3 : Int32} {x4 : Int32} {σ : Mm} {r : Int32 × Mm} (h : B_X12_lastOf_5 rc5 x1 x2 x3 x4 σ = some r) : Z m_X12_lastOf S (Qi r) 5 [(0, .ref (sL S 3 0 0)), (1, .int (x1)), (2, .int (x2)), (3, .int (x3)), (4, .int (x4))] [] σ := by
  unfold B_X12_lastOf_5 at h
  refine z_iload dX12_lastOf_5 4 rfl ?_
  refine z_if_lt (tgt := 51) dX12_lastOf_7 (by decide) (fun q => ?_) (fun q => ?_)
  · have h := (if_pos q).symm.trans h
    refine z_iconst (v := (-1)) dX12_lastOf_51 (by decide) ?_
    cases h
    exact z_ireturn dX12_lastOf_52 rfl rfl ⟨rfl, rfl⟩
  · have h := (if_neg q).symm.trans h
    obtain ⟨g1, h⟩ := gd h
    refine z_aload_n dX12_lastOf_10 rfl 0 rfl ?_
    refine gf_12_130 rfl dX12_lastOf_11 ?_
    refine z_iload dX12_lastOf_14 4 rfl ?_
    refine ia_3_39 (inb_in g1) dX12_lastOf_16 ?_
    refine z_iload_n dX12_lastOf_17 rfl 2 rfl ?_
    refine z_icmp_ne (tgt := 45) dX12_lastOf_18 (by decide) (fun q => ?_) (fun q => ?_)
    · have h := (if_neg q).symm.trans h
      exact zb_X12_lastOf_45 hrc5 h
    · have h := (if_pos q).symm.trans h
      obtain ⟨g2, h⟩ := gd h
      refine z_aload_n dX12_lastOf_21 rfl 0 rfl ?_
      refine gf_12_133 rfl dX12_lastOf_22 ?_
      refine z_iload dX12_lastOf_25 4 rfl ?_
      refine ia_3_40 (inb_in g2) dX12_lastOf_27 ?_
      refine z_iload_n dX12_lastOf_28 rfl 1 rfl ?_
      refine z_icmp_ne (tgt := 45) dX12_lastOf_29 (by decide) (fun q => ?_) (fun q => ?_)
      · have h := (if_neg q).symm.trans h
        exact zb_X12_lastOf_45 hrc5 h
      · have h := (if_pos q).symm.trans h
        refine z_aload_n dX12_lastOf_32 rfl 0 rfl ?_
        refine z_iload dX12_lastOf_33 4 rfl ?_
        refine z_iload_n dX12_lastOf_35 rfl 3 rfl ?_
        obtain ⟨v, τ, hc, h⟩ := bnd_e h
        refine z_callV (M' := m_X12_isLive) (t := 3) (i := 0) (k := 0) (As := [.int (x4), .int (x3)]) (rest := []) kl_12_418 oy_X12_isLive ⟨Nat.le_of_ble_eq_true rfl, Nat.le_of_ble_eq_true rfl⟩ rfl rfl rfl rfl (Nat.le_of_ble_eq_true rfl) rfl dX12_lastOf_36 (c_X12_isLive hc) (fun v2 τ2 hq => ?_)
        obtain ⟨rfl, hτ⟩ := hq
        subst τ2
        change Z _ _ _ _ _ [.int (v)] _
        exact zb_X12_lastOf_39 hrc5 h
def F_X12_lastOf_5 : Nat → Int32 → Int32 → Int32 → Int32 → Mm → Option (Int32 × Mm)
  | 0 => fun _ _ _ _ _ => none
  | n + 1 => B_X12_lastOf_5 (F_X12_lastOf_5 n)
theorem zl_X12_lastOf_5 {S : Shp} : ∀ (nn : Nat) {x1 : Int32} {x2 : Int32} {x3 : Int32} {x4 : Int32} {σ : Mm} {r : Int32 × Mm}, F_X12_lastOf_5 nn x1 x2 x3 x4 σ = some r → Z m_X12_lastOf S (Qi r) 5 [(0, .ref (sL S 3 0 0)), (1, .int (x1)), (2, .int (x2)), (3, .int (x3)), (4, .int (x4))] [] σ := by
  intro nn
  induction nn with
  | zero => intro x1 x2 x3 x4 σ r h; cases h
  | succ nn ih => intro x1 x2 x3 x4 σ r h; exact zB_X12_lastOf_5 @ih h
def F_X12_lastOf (x1 : Int32) (x2 : Int32) (x3 : Int32) (σ : Mm) : Option (Int32 × Mm) := (F_X12_lastOf_5 FU x1 x2 x3 (x3 - (1 : Int32)) σ)
set_option maxRecDepth 20000 in
theorem zb_X12_lastOf {S : Shp} {x1 : Int32} {x2 : Int32} {x3 : Int32} {σ : Mm} {r : Int32 × Mm} (h : F_X12_lastOf x1 x2 x3 σ = some r) : Z m_X12_lastOf S (Qi r) 0 [(0, .ref (sL S 3 0 0)), (1, .int (x1)), (2, .int (x2)), (3, .int (x3))] [] σ := by
  unfold F_X12_lastOf at h
  refine z_iload_n dX12_lastOf_0 rfl 3 rfl ?_
  refine z_iconst (v := 1) dX12_lastOf_1 (by decide) ?_
  refine z_isub dX12_lastOf_2 ?_
  refine z_istore (lv' := [(0, .ref (sL S 3 0 0)), (1, .int (x1)), (2, .int (x2)), (3, .int (x3)), (4, .int (x3 - (1 : Int32)))]) dX12_lastOf_3 (by decide) [1, 2, 3, 4, 0] rfl ?_
  exact zl_X12_lastOf_5 FU h
/-- SkyStonesModel.lastOf(III)I -/
theorem c_X12_lastOf {S : Shp} {x1 : Int32} {x2 : Int32} {x3 : Int32} {σ : Mm} {r : Int32 × Mm} (h : F_X12_lastOf x1 x2 x3 σ = some r) : Ct m_X12_lastOf S [.ref (sL S 3 0 0), .int (x1), .int (x2), .int (x3)] σ (Qi r) := Ct.of (by decide +kernel) (Nat.le_of_ble_eq_true rfl) (zb_X12_lastOf h)
def F_X12_layThings_150 (rc2 : Int32 → Int32 → Mm → Option (Mm)) (x1 : Int32) (x2 : Int32) (σ : Mm) : Option (Mm) := (rc2 x1 (x2 + 1) σ)
set_option maxRecDepth 20000 in
theorem zb_X12_layThings_150 {S : Shp} {rc2 : Int32 → Int32 → Mm → Option (Mm)} (hrc2 : ∀ {x1 : Int32} {x2 : Int32} {σ : Mm} {r : Mm}, rc2 x1 x2 σ = some r → Z m_X12_layThings S (Qv r) 2 [(0, .ref (sL S 3 0 0)), (1, .int (x1)), (2, .int (x2))] [] σ) {x1 : Int32} {x2 : Int32} {σ : Mm} {r : Mm} (h : F_X12_layThings_150 rc2 x1 x2 σ = some r) : Z m_X12_layThings S (Qv r) 150 [(0, .ref (sL S 3 0 0)), (1, .int (x1)), (2, .int (x2))] [] σ := by
  unfold F_X12_layThings_150 at h
  refine z_iinc (j := 2) (v := x2 + 1) (lv' := [(0, .ref (sL S 3 0 0)), (1, .int (x1)), (2, .int (x2 + 1))]) dX12_layThings_150 rfl rfl (by decide) [1, 2, 0] rfl ?_
  refine z_goto (tgt := 2) dX12_layThings_153 (by decide) ?_
  exact hrc2 h
def F_X12_layThings_149 (rc2 : Int32 → Int32 → Mm → Option (Mm)) (x1 : Int32) (x2 : Int32) (s0 : Int32) (s1 : Int32) (σ : Mm) : Option (Mm) := (if inb s1 14 = true then (F_X12_layThings_150 rc2 x1 x2 (setA σ 3 0 51 (upd (mA σ 3 0 51) s1.toNatClampNeg (vp_nar .boolean s0)))) else none)
set_option maxRecDepth 20000 in
theorem zb_X12_layThings_149 {S : Shp} {rc2 : Int32 → Int32 → Mm → Option (Mm)} (hrc2 : ∀ {x1 : Int32} {x2 : Int32} {σ : Mm} {r : Mm}, rc2 x1 x2 σ = some r → Z m_X12_layThings S (Qv r) 2 [(0, .ref (sL S 3 0 0)), (1, .int (x1)), (2, .int (x2))] [] σ) {x1 : Int32} {x2 : Int32} {s0 : Int32} {s1 : Int32} {σ : Mm} {r : Mm} (h : F_X12_layThings_149 rc2 x1 x2 s0 s1 σ = some r) : Z m_X12_layThings S (Qv r) 149 [(0, .ref (sL S 3 0 0)), (1, .int (x1)), (2, .int (x2))] [.int (s0), .int (s1), .ref (sL S 3 0 51)] σ := by
  unfold F_X12_layThings_149 at h
  obtain ⟨g13, h⟩ := gd h
  refine is_3_51 (inb_in g13) dX12_layThings_149 ?_
  exact zb_X12_layThings_150 hrc2 h
def F_X12_layThings_144 (rc2 : Int32 → Int32 → Mm → Option (Mm)) (x1 : Int32) (x2 : Int32) (s0 : Int32) (σ : Mm) : Option (Mm) := (F_X12_layThings_149 rc2 x1 x2 1 s0 σ)
set_option maxRecDepth 20000 in
theorem zb_X12_layThings_144 {S : Shp} {rc2 : Int32 → Int32 → Mm → Option (Mm)} (hrc2 : ∀ {x1 : Int32} {x2 : Int32} {σ : Mm} {r : Mm}, rc2 x1 x2 σ = some r → Z m_X12_layThings S (Qv r) 2 [(0, .ref (sL S 3 0 0)), (1, .int (x1)), (2, .int (x2))] [] σ) {x1 : Int32} {x2 : Int32} {s0 : Int32} {σ : Mm} {r : Mm} (h : F_X12_layThings_144 rc2 x1 x2 s0 σ = some r) : Z m_X12_layThings S (Qv r) 144 [(0, .ref (sL S 3 0 0)), (1, .int (x1)), (2, .int (x2))] [.int (s0), .ref (sL S 3 0 51)] σ := by
  unfold F_X12_layThings_144 at h
  refine z_iconst (v := 1) dX12_layThings_144 (by decide) ?_
  refine z_goto (tgt := 149) dX12_layThings_145 (by decide) ?_
  exact zb_X12_layThings_149 hrc2 h
def F_X12_layThings_148 (rc2 : Int32 → Int32 → Mm → Option (Mm)) (x1 : Int32) (x2 : Int32) (s0 : Int32) (σ : Mm) : Option (Mm) := (F_X12_layThings_149 rc2 x1 x2 0 s0 σ)
set_option maxRecDepth 20000 in
theorem zb_X12_layThings_148 {S : Shp} {rc2 : Int32 → Int32 → Mm → Option (Mm)} (hrc2 : ∀ {x1 : Int32} {x2 : Int32} {σ : Mm} {r : Mm}, rc2 x1 x2 σ = some r → Z m_X12_layThings S (Qv r) 2 [(0, .ref (sL S 3 0 0)), (1, .int (x1)), (2, .int (x2))] [] σ) {x1 : Int32} {x2 : Int32} {s0 : Int32} {σ : Mm} {r : Mm} (h : F_X12_layThings_148 rc2 x1 x2 s0 σ = some r) : Z m_X12_layThings S (Qv r) 148 [(0, .ref (sL S 3 0 0)), (1, .int (x1)), (2, .int (x2))] [.int (s0), .ref (sL S 3 0 51)] σ := by
  unfold F_X12_layThings_148 at h
  refine z_iconst (v := 0) dX12_layThings_148 (by decide) ?_
  exact zb_X12_layThings_149 hrc2 h
def F_X12_layThings_141 (rc2 : Int32 → Int32 → Mm → Option (Mm)) (x1 : Int32) (x2 : Int32) (s0 : Int32) (s1 : Int32) (σ : Mm) : Option (Mm) := (if s0 = 0 then (F_X12_layThings_144 rc2 x1 x2 s1 σ) else (F_X12_layThings_148 rc2 x1 x2 s1 σ))
set_option maxRecDepth 20000 in
theorem zb_X12_layThings_141 {S : Shp} {rc2 : Int32 → Int32 → Mm → Option (Mm)} (hrc2 : ∀ {x1 : Int32} {x2 : Int32} {σ : Mm} {r : Mm}, rc2 x1 x2 σ = some r → Z m_X12_layThings S (Qv r) 2 [(0, .ref (sL S 3 0 0)), (1, .int (x1)), (2, .int (x2))] [] σ) {x1 : Int32} {x2 : Int32} {s0 : Int32} {s1 : Int32} {σ : Mm} {r : Mm} (h : F_X12_layThings_141 rc2 x1 x2 s0 s1 σ = some r) : Z m_X12_layThings S (Qv r) 141 [(0, .ref (sL S 3 0 0)), (1, .int (x1)), (2, .int (x2))] [.int (s0), .int (s1), .ref (sL S 3 0 51)] σ := by
  unfold F_X12_layThings_141 at h
  refine z_if_ne (tgt := 148) dX12_layThings_141 (by decide) (fun q => ?_) (fun q => ?_)
  · have h := (if_neg q).symm.trans h
    exact zb_X12_layThings_148 hrc2 h
  · have h := (if_pos q).symm.trans h
    exact zb_X12_layThings_144 hrc2 h
def F_X12_layThings_118 (rc2 : Int32 → Int32 → Mm → Option (Mm)) (x1 : Int32) (x2 : Int32) (s0 : Int32) (s1 : Int32) (σ : Mm) : Option (Mm) := (if 0 ≤ s0 then (F_X12_layThings_144 rc2 x1 x2 s1 σ) else (if inb x2 70 = true then (if (mA σ 3 0 13 x2.toNatClampNeg) < 0 then (F_X12_layThings_148 rc2 x1 x2 s1 σ) else (if inb x2 70 = true then (bnd (F_X12_isLive (mA σ 3 0 13 x2.toNatClampNeg) x1 σ) (fun v τ => (F_X12_layThings_141 rc2 x1 x2 v s1 τ))) else none)) else none))
set_option maxRecDepth 20000 in
theorem zb_X12_layThings_118 {S : Shp} {rc2 : Int32 → Int32 → Mm → Option (Mm)} (hrc2 : ∀ {x1 : Int32} {x2 : Int32} {σ : Mm} {r : Mm}, rc2 x1 x2 σ = some r → Z m_X12_layThings S (Qv r) 2 [(0, .ref (sL S 3 0 0)), (1, .int (x1)), (2, .int (x2))] [] σ) {x1 : Int32} {x2 : Int32} {s0 : Int32} {s1 : Int32} {σ : Mm} {r : Mm} (h : F_X12_layThings_118 rc2 x1 x2 s0 s1 σ = some r) : Z m_X12_layThings S (Qv r) 118 [(0, .ref (sL S 3 0 0)), (1, .int (x1)), (2, .int (x2))] [.int (s0), .int (s1), .ref (sL S 3 0 51)] σ := by
  unfold F_X12_layThings_118 at h
  refine z_if_ge (tgt := 144) dX12_layThings_118 (by decide) (fun q => ?_) (fun q => ?_)
  · have h := (if_pos q).symm.trans h
    exact zb_X12_layThings_144 hrc2 h
  · have h := (if_neg q).symm.trans h
    obtain ⟨g11, h⟩ := gd h
    refine z_aload_n dX12_layThings_121 rfl 0 rfl ?_
    refine gf_12_52 rfl dX12_layThings_122 ?_
    refine z_iload_n dX12_layThings_125 rfl 2 rfl ?_
    refine ia_3_13 (inb_in g11) dX12_layThings_126 ?_
    refine z_if_lt (tgt := 148) dX12_layThings_127 (by decide) (fun q => ?_) (fun q => ?_)
    · have h := (if_pos q).symm.trans h
      exact zb_X12_layThings_148 hrc2 h
    · have h := (if_neg q).symm.trans h
      obtain ⟨g12, h⟩ := gd h
      refine z_aload_n dX12_layThings_130 rfl 0 rfl ?_
      refine z_aload_n dX12_layThings_131 rfl 0 rfl ?_
      refine gf_12_52 rfl dX12_layThings_132 ?_
      refine z_iload_n dX12_layThings_135 rfl 2 rfl ?_
      refine ia_3_13 (inb_in g12) dX12_layThings_136 ?_
      refine z_iload_n dX12_layThings_137 rfl 1 rfl ?_
      obtain ⟨v, τ, hc, h⟩ := bnd_e h
      refine z_callV (M' := m_X12_isLive) (t := 3) (i := 0) (k := 0) (As := [.int (mA σ 3 0 13 x2.toNatClampNeg), .int (x1)]) (rest := [.int (s1), .ref (sL S 3 0 51)]) kl_12_418 oy_X12_isLive ⟨Nat.le_of_ble_eq_true rfl, Nat.le_of_ble_eq_true rfl⟩ rfl rfl rfl rfl (Nat.le_of_ble_eq_true rfl) rfl dX12_layThings_138 (c_X12_isLive hc) (fun v2 τ2 hq => ?_)
      obtain ⟨rfl, hτ⟩ := hq
      subst τ2
      change Z _ _ _ _ _ [.int (v), .int (s1), .ref (sL S 3 0 51)] _
      exact zb_X12_layThings_141 hrc2 h
def F_X12_layThings_106 (rc2 : Int32 → Int32 → Mm → Option (Mm)) (x1 : Int32) (x2 : Int32) (σ : Mm) : Option (Mm) := (bnd (F_X12_lastOf x2 2 x1 σ) (fun v τ => (F_X12_layThings_118 rc2 x1 x2 v x2 τ)))
set_option maxRecDepth 20000 in
theorem zb_X12_layThings_106 {S : Shp} {rc2 : Int32 → Int32 → Mm → Option (Mm)} (hrc2 : ∀ {x1 : Int32} {x2 : Int32} {σ : Mm} {r : Mm}, rc2 x1 x2 σ = some r → Z m_X12_layThings S (Qv r) 2 [(0, .ref (sL S 3 0 0)), (1, .int (x1)), (2, .int (x2))] [] σ) {x1 : Int32} {x2 : Int32} {σ : Mm} {r : Mm} (h : F_X12_layThings_106 rc2 x1 x2 σ = some r) : Z m_X12_layThings S (Qv r) 106 [(0, .ref (sL S 3 0 0)), (1, .int (x1)), (2, .int (x2))] [] σ := by
  unfold F_X12_layThings_106 at h
  refine z_aload_n dX12_layThings_106 rfl 0 rfl ?_
  refine gf_12_166 rfl dX12_layThings_107 ?_
  refine z_iload_n dX12_layThings_110 rfl 2 rfl ?_
  refine z_aload_n dX12_layThings_111 rfl 0 rfl ?_
  refine z_iload_n dX12_layThings_112 rfl 2 rfl ?_
  refine z_iconst (v := 2) dX12_layThings_113 (by decide) ?_
  refine z_iload_n dX12_layThings_114 rfl 1 rfl ?_
  obtain ⟨v, τ, hc, h⟩ := bnd_e h
  refine z_callV (M' := m_X12_lastOf) (t := 3) (i := 0) (k := 0) (As := [.int (x2), .int (2), .int (x1)]) (rest := [.int (x2), .ref (sL S 3 0 51)]) kl_12_421 oy_X12_lastOf ⟨Nat.le_of_ble_eq_true rfl, Nat.le_of_ble_eq_true rfl⟩ rfl rfl rfl rfl (Nat.le_of_ble_eq_true rfl) rfl dX12_layThings_115 (c_X12_lastOf hc) (fun v2 τ2 hq => ?_)
  obtain ⟨rfl, hτ⟩ := hq
  subst τ2
  change Z _ _ _ _ _ [.int (v), .int (x2), .ref (sL S 3 0 51)] _
  exact zb_X12_layThings_118 hrc2 h
def F_X12_layThings_105 (rc2 : Int32 → Int32 → Mm → Option (Mm)) (x1 : Int32) (x2 : Int32) (s0 : Int32) (s1 : Int32) (σ : Mm) : Option (Mm) := (if inb s1 14 = true then (F_X12_layThings_106 rc2 x1 x2 (setA σ 3 0 50 (upd (mA σ 3 0 50) s1.toNatClampNeg s0))) else none)
set_option maxRecDepth 20000 in
theorem zb_X12_layThings_105 {S : Shp} {rc2 : Int32 → Int32 → Mm → Option (Mm)} (hrc2 : ∀ {x1 : Int32} {x2 : Int32} {σ : Mm} {r : Mm}, rc2 x1 x2 σ = some r → Z m_X12_layThings S (Qv r) 2 [(0, .ref (sL S 3 0 0)), (1, .int (x1)), (2, .int (x2))] [] σ) {x1 : Int32} {x2 : Int32} {s0 : Int32} {s1 : Int32} {σ : Mm} {r : Mm} (h : F_X12_layThings_105 rc2 x1 x2 s0 s1 σ = some r) : Z m_X12_layThings S (Qv r) 105 [(0, .ref (sL S 3 0 0)), (1, .int (x1)), (2, .int (x2))] [.int (s0), .int (s1), .ref (sL S 3 0 50)] σ := by
  unfold F_X12_layThings_105 at h
  obtain ⟨g10, h⟩ := gd h
  refine is_3_50 (inb_in g10) dX12_layThings_105 ?_
  exact zb_X12_layThings_106 hrc2 h
def F_X12_layThings_77 (rc2 : Int32 → Int32 → Mm → Option (Mm)) (x1 : Int32) (x2 : Int32) (s0 : Int32) (σ : Mm) : Option (Mm) := (if 0 ≤ s0 then (if inb s0 300 = true then (F_X12_layThings_105 rc2 x1 x2 (mA σ 3 0 41 s0.toNatClampNeg) x2 σ) else none) else (if inb x2 70 = true then (F_X12_layThings_105 rc2 x1 x2 (mA σ 3 0 12 x2.toNatClampNeg) x2 σ) else none))
set_option maxRecDepth 20000 in
theorem zb_X12_layThings_77 {S : Shp} {rc2 : Int32 → Int32 → Mm → Option (Mm)} (hrc2 : ∀ {x1 : Int32} {x2 : Int32} {σ : Mm} {r : Mm}, rc2 x1 x2 σ = some r → Z m_X12_layThings S (Qv r) 2 [(0, .ref (sL S 3 0 0)), (1, .int (x1)), (2, .int (x2))] [] σ) {x1 : Int32} {x2 : Int32} {s0 : Int32} {σ : Mm} {r : Mm} (h : F_X12_layThings_77 rc2 x1 x2 s0 σ = some r) : Z m_X12_layThings S (Qv r) 77 [(0, .ref (sL S 3 0 0)), (1, .int (x1)), (2, .int (x2))] [.int (s0)] σ := by
  unfold F_X12_layThings_77 at h
  refine z_istore (lv' := [(0, .ref (sL S 3 0 0)), (1, .int (x1)), (2, .int (x2)), (4, .int (s0))]) dX12_layThings_77 (by decide) [1, 2, 3, 0] rfl ?_
  refine z_aload_n dX12_layThings_79 rfl 0 rfl ?_
  refine gf_12_163 rfl dX12_layThings_80 ?_
  refine z_iload_n dX12_layThings_83 rfl 2 rfl ?_
  refine z_iload dX12_layThings_84 3 rfl ?_
  refine z_if_ge (tgt := 98) dX12_layThings_86 (by decide) (fun q => ?_) (fun q => ?_)
  · have h := (if_pos q).symm.trans h
    obtain ⟨g8, h⟩ := gd h
    refine z_aload_n dX12_layThings_98 rfl 0 rfl ?_
    refine gf_12_136 rfl dX12_layThings_99 ?_
    refine z_iload dX12_layThings_102 3 rfl ?_
    refine ia_3_41 (inb_in g8) dX12_layThings_104 ?_
    refine Z.lv [0, 1, 2] rfl ?_
    exact zb_X12_layThings_105 hrc2 h
  · have h := (if_neg q).symm.trans h
    obtain ⟨g9, h⟩ := gd h
    refine z_aload_n dX12_layThings_89 rfl 0 rfl ?_
    refine gf_12_49 rfl dX12_layThings_90 ?_
    refine z_iload_n dX12_layThings_93 rfl 2 rfl ?_
    refine ia_3_12 (inb_in g9) dX12_layThings_94 ?_
    refine z_goto (tgt := 105) dX12_layThings_95 (by decide) ?_
    refine Z.lv [0, 1, 2] rfl ?_
    exact zb_X12_layThings_105 hrc2 h
def F_X12_layThings_70 (rc2 : Int32 → Int32 → Mm → Option (Mm)) (x1 : Int32) (x2 : Int32) (σ : Mm) : Option (Mm) := (bnd (F_X12_lastOf x2 3 x1 σ) (fun v τ => (F_X12_layThings_77 rc2 x1 x2 v τ)))
set_option maxRecDepth 20000 in
theorem zb_X12_layThings_70 {S : Shp} {rc2 : Int32 → Int32 → Mm → Option (Mm)} (hrc2 : ∀ {x1 : Int32} {x2 : Int32} {σ : Mm} {r : Mm}, rc2 x1 x2 σ = some r → Z m_X12_layThings S (Qv r) 2 [(0, .ref (sL S 3 0 0)), (1, .int (x1)), (2, .int (x2))] [] σ) {x1 : Int32} {x2 : Int32} {σ : Mm} {r : Mm} (h : F_X12_layThings_70 rc2 x1 x2 σ = some r) : Z m_X12_layThings S (Qv r) 70 [(0, .ref (sL S 3 0 0)), (1, .int (x1)), (2, .int (x2))] [] σ := by
  unfold F_X12_layThings_70 at h
  refine z_aload_n dX12_layThings_70 rfl 0 rfl ?_
  refine z_iload_n dX12_layThings_71 rfl 2 rfl ?_
  refine z_iconst (v := 3) dX12_layThings_72 (by decide) ?_
  refine z_iload_n dX12_layThings_73 rfl 1 rfl ?_
  obtain ⟨v, τ, hc, h⟩ := bnd_e h
  refine z_callV (M' := m_X12_lastOf) (t := 3) (i := 0) (k := 0) (As := [.int (x2), .int (3), .int (x1)]) (rest := []) kl_12_421 oy_X12_lastOf ⟨Nat.le_of_ble_eq_true rfl, Nat.le_of_ble_eq_true rfl⟩ rfl rfl rfl rfl (Nat.le_of_ble_eq_true rfl) rfl dX12_layThings_74 (c_X12_lastOf hc) (fun v2 τ2 hq => ?_)
  obtain ⟨rfl, hτ⟩ := hq
  subst τ2
  change Z _ _ _ _ _ [.int (v)] _
  exact zb_X12_layThings_77 hrc2 h
def F_X12_layThings_69 (rc2 : Int32 → Int32 → Mm → Option (Mm)) (x1 : Int32) (x2 : Int32) (s0 : Int32) (s1 : Int32) (σ : Mm) : Option (Mm) := (if inb s1 14 = true then (F_X12_layThings_70 rc2 x1 x2 (setA σ 3 0 49 (upd (mA σ 3 0 49) s1.toNatClampNeg s0))) else none)
set_option maxRecDepth 20000 in
theorem zb_X12_layThings_69 {S : Shp} {rc2 : Int32 → Int32 → Mm → Option (Mm)} (hrc2 : ∀ {x1 : Int32} {x2 : Int32} {σ : Mm} {r : Mm}, rc2 x1 x2 σ = some r → Z m_X12_layThings S (Qv r) 2 [(0, .ref (sL S 3 0 0)), (1, .int (x1)), (2, .int (x2))] [] σ) {x1 : Int32} {x2 : Int32} {s0 : Int32} {s1 : Int32} {σ : Mm} {r : Mm} (h : F_X12_layThings_69 rc2 x1 x2 s0 s1 σ = some r) : Z m_X12_layThings S (Qv r) 69 [(0, .ref (sL S 3 0 0)), (1, .int (x1)), (2, .int (x2))] [.int (s0), .int (s1), .ref (sL S 3 0 49)] σ := by
  unfold F_X12_layThings_69 at h
  obtain ⟨g7, h⟩ := gd h
  refine is_3_49 (inb_in g7) dX12_layThings_69 ?_
  exact zb_X12_layThings_70 hrc2 h
def F_X12_layThings_45 (rc2 : Int32 → Int32 → Mm → Option (Mm)) (x1 : Int32) (x2 : Int32) (x3 : Int32) (σ : Mm) : Option (Mm) := (if 0 ≤ x3 then (if inb x3 300 = true then (F_X12_layThings_69 rc2 x1 x2 (mA σ 3 0 42 x3.toNatClampNeg) x2 σ) else none) else (if inb x2 70 = true then (F_X12_layThings_69 rc2 x1 x2 (mA σ 3 0 11 x2.toNatClampNeg) x2 σ) else none))
set_option maxRecDepth 20000 in
theorem zb_X12_layThings_45 {S : Shp} {rc2 : Int32 → Int32 → Mm → Option (Mm)} (hrc2 : ∀ {x1 : Int32} {x2 : Int32} {σ : Mm} {r : Mm}, rc2 x1 x2 σ = some r → Z m_X12_layThings S (Qv r) 2 [(0, .ref (sL S 3 0 0)), (1, .int (x1)), (2, .int (x2))] [] σ) {x1 : Int32} {x2 : Int32} {x3 : Int32} {σ : Mm} {r : Mm} (h : F_X12_layThings_45 rc2 x1 x2 x3 σ = some r) : Z m_X12_layThings S (Qv r) 45 [(0, .ref (sL S 3 0 0)), (1, .int (x1)), (2, .int (x2)), (3, .int (x3))] [] σ := by
  unfold F_X12_layThings_45 at h
  refine z_aload_n dX12_layThings_45 rfl 0 rfl ?_
  refine gf_12_160 rfl dX12_layThings_46 ?_
  refine z_iload_n dX12_layThings_49 rfl 2 rfl ?_
  refine z_iload_n dX12_layThings_50 rfl 3 rfl ?_
  refine z_if_ge (tgt := 63) dX12_layThings_51 (by decide) (fun q => ?_) (fun q => ?_)
  · have h := (if_pos q).symm.trans h
    obtain ⟨g5, h⟩ := gd h
    refine z_aload_n dX12_layThings_63 rfl 0 rfl ?_
    refine gf_12_139 rfl dX12_layThings_64 ?_
    refine z_iload_n dX12_layThings_67 rfl 3 rfl ?_
    refine ia_3_42 (inb_in g5) dX12_layThings_68 ?_
    refine Z.lv [0, 1, 2] rfl ?_
    exact zb_X12_layThings_69 hrc2 h
  · have h := (if_neg q).symm.trans h
    obtain ⟨g6, h⟩ := gd h
    refine z_aload_n dX12_layThings_54 rfl 0 rfl ?_
    refine gf_12_46 rfl dX12_layThings_55 ?_
    refine z_iload_n dX12_layThings_58 rfl 2 rfl ?_
    refine ia_3_11 (inb_in g6) dX12_layThings_59 ?_
    refine z_goto (tgt := 69) dX12_layThings_60 (by decide) ?_
    refine Z.lv [0, 1, 2] rfl ?_
    exact zb_X12_layThings_69 hrc2 h
def F_X12_layThings_44 (rc2 : Int32 → Int32 → Mm → Option (Mm)) (x1 : Int32) (x2 : Int32) (x3 : Int32) (s0 : Int32) (s1 : Int32) (σ : Mm) : Option (Mm) := (if inb s1 14 = true then (F_X12_layThings_45 rc2 x1 x2 x3 (setA σ 3 0 48 (upd (mA σ 3 0 48) s1.toNatClampNeg s0))) else none)
set_option maxRecDepth 20000 in
theorem zb_X12_layThings_44 {S : Shp} {rc2 : Int32 → Int32 → Mm → Option (Mm)} (hrc2 : ∀ {x1 : Int32} {x2 : Int32} {σ : Mm} {r : Mm}, rc2 x1 x2 σ = some r → Z m_X12_layThings S (Qv r) 2 [(0, .ref (sL S 3 0 0)), (1, .int (x1)), (2, .int (x2))] [] σ) {x1 : Int32} {x2 : Int32} {x3 : Int32} {s0 : Int32} {s1 : Int32} {σ : Mm} {r : Mm} (h : F_X12_layThings_44 rc2 x1 x2 x3 s0 s1 σ = some r) : Z m_X12_layThings S (Qv r) 44 [(0, .ref (sL S 3 0 0)), (1, .int (x1)), (2, .int (x2)), (3, .int (x3))] [.int (s0), .int (s1), .ref (sL S 3 0 48)] σ := by
  unfold F_X12_layThings_44 at h
  obtain ⟨g4, h⟩ := gd h
  refine is_3_48 (inb_in g4) dX12_layThings_44 ?_
  exact zb_X12_layThings_45 hrc2 h
def F_X12_layThings_19 (rc2 : Int32 → Int32 → Mm → Option (Mm)) (x1 : Int32) (x2 : Int32) (s0 : Int32) (σ : Mm) : Option (Mm) := (if 0 ≤ s0 then (if inb s0 300 = true then (F_X12_layThings_44 rc2 x1 x2 s0 (mA σ 3 0 41 s0.toNatClampNeg) x2 σ) else none) else (if inb x2 70 = true then (F_X12_layThings_44 rc2 x1 x2 s0 (mA σ 3 0 10 x2.toNatClampNeg) x2 σ) else none))
set_option maxRecDepth 20000 in
theorem zb_X12_layThings_19 {S : Shp} {rc2 : Int32 → Int32 → Mm → Option (Mm)} (hrc2 : ∀ {x1 : Int32} {x2 : Int32} {σ : Mm} {r : Mm}, rc2 x1 x2 σ = some r → Z m_X12_layThings S (Qv r) 2 [(0, .ref (sL S 3 0 0)), (1, .int (x1)), (2, .int (x2))] [] σ) {x1 : Int32} {x2 : Int32} {s0 : Int32} {σ : Mm} {r : Mm} (h : F_X12_layThings_19 rc2 x1 x2 s0 σ = some r) : Z m_X12_layThings S (Qv r) 19 [(0, .ref (sL S 3 0 0)), (1, .int (x1)), (2, .int (x2))] [.int (s0)] σ := by
  unfold F_X12_layThings_19 at h
  refine z_istore_n (lv' := [(0, .ref (sL S 3 0 0)), (1, .int (x1)), (2, .int (x2)), (3, .int (s0))]) dX12_layThings_19 rfl (by decide) [1, 2, 3, 0] rfl ?_
  refine z_aload_n dX12_layThings_20 rfl 0 rfl ?_
  refine gf_12_157 rfl dX12_layThings_21 ?_
  refine z_iload_n dX12_layThings_24 rfl 2 rfl ?_
  refine z_iload_n dX12_layThings_25 rfl 3 rfl ?_
  refine z_if_ge (tgt := 38) dX12_layThings_26 (by decide) (fun q => ?_) (fun q => ?_)
  · have h := (if_pos q).symm.trans h
    obtain ⟨g2, h⟩ := gd h
    refine z_aload_n dX12_layThings_38 rfl 0 rfl ?_
    refine gf_12_136 rfl dX12_layThings_39 ?_
    refine z_iload_n dX12_layThings_42 rfl 3 rfl ?_
    refine ia_3_41 (inb_in g2) dX12_layThings_43 ?_
    exact zb_X12_layThings_44 hrc2 h
  · have h := (if_neg q).symm.trans h
    obtain ⟨g3, h⟩ := gd h
    refine z_aload_n dX12_layThings_29 rfl 0 rfl ?_
    refine gf_12_43 rfl dX12_layThings_30 ?_
    refine z_iload_n dX12_layThings_33 rfl 2 rfl ?_
    refine ia_3_10 (inb_in g3) dX12_layThings_34 ?_
    refine z_goto (tgt := 44) dX12_layThings_35 (by decide) ?_
    exact zb_X12_layThings_44 hrc2 h
def B_X12_layThings_2 (rc2 : Int32 → Int32 → Mm → Option (Mm)) (x1 : Int32) (x2 : Int32) (σ : Mm) : Option (Mm) := (if inb 0 5 = true then (if (mA σ 3 0 8 (0 : Int32).toNatClampNeg) ≤ x2 then some (σ) else (bnd (F_X12_lastOf x2 1 x1 σ) (fun v τ => (F_X12_layThings_19 rc2 x1 x2 v τ)))) else none)
set_option maxRecDepth 20000 in
theorem zB_X12_layThings_2 {S : Shp} {rc2 : Int32 → Int32 → Mm → Option (Mm)} (hrc2 : ∀ {x1 : Int32} {x2 : Int32} {σ : Mm} {r : Mm}, rc2 x1 x2 σ = some r → Z m_X12_layThings S (Qv r) 2 [(0, .ref (sL S 3 0 0)), (1, .int (x1)), (2, .int (x2))] [] σ) {x1 : Int32} {x2 : Int32} {σ : Mm} {r : Mm} (h : B_X12_layThings_2 rc2 x1 x2 σ = some r) : Z m_X12_layThings S (Qv r) 2 [(0, .ref (sL S 3 0 0)), (1, .int (x1)), (2, .int (x2))] [] σ := by
  unfold B_X12_layThings_2 at h
  obtain ⟨g1, h⟩ := gd h
  refine z_iload_n dX12_layThings_2 rfl 2 rfl ?_
  refine z_aload_n dX12_layThings_3 rfl 0 rfl ?_
  refine gf_12_37 rfl dX12_layThings_4 ?_
  refine z_iconst (v := 0) dX12_layThings_7 (by decide) ?_
  refine ia_3_8 (inb_in g1) dX12_layThings_8 ?_
  refine z_icmp_ge (tgt := 156) dX12_layThings_9 (by decide) (fun q => ?_) (fun q => ?_)
  · have h := (if_pos q).symm.trans h
    cases h
    exact z_return dX12_layThings_156 rfl ⟨rfl, rfl⟩
  · have h := (if_neg q).symm.trans h
    refine z_aload_n dX12_layThings_12 rfl 0 rfl ?_
    refine z_iload_n dX12_layThings_13 rfl 2 rfl ?_
    refine z_iconst (v := 1) dX12_layThings_14 (by decide) ?_
    refine z_iload_n dX12_layThings_15 rfl 1 rfl ?_
    obtain ⟨v, τ, hc, h⟩ := bnd_e h
    refine z_callV (M' := m_X12_lastOf) (t := 3) (i := 0) (k := 0) (As := [.int (x2), .int (1), .int (x1)]) (rest := []) kl_12_421 oy_X12_lastOf ⟨Nat.le_of_ble_eq_true rfl, Nat.le_of_ble_eq_true rfl⟩ rfl rfl rfl rfl (Nat.le_of_ble_eq_true rfl) rfl dX12_layThings_16 (c_X12_lastOf hc) (fun v2 τ2 hq => ?_)
    obtain ⟨rfl, hτ⟩ := hq
    subst τ2
    change Z _ _ _ _ _ [.int (v)] _
    exact zb_X12_layThings_19 hrc2 h
def F_X12_layThings_2 : Nat → Int32 → Int32 → Mm → Option (Mm)
  | 0 => fun _ _ _ => none
  | n + 1 => B_X12_layThings_2 (F_X12_layThings_2 n)
theorem zl_X12_layThings_2 {S : Shp} : ∀ (nn : Nat) {x1 : Int32} {x2 : Int32} {σ : Mm} {r : Mm}, F_X12_layThings_2 nn x1 x2 σ = some r → Z m_X12_layThings S (Qv r) 2 [(0, .ref (sL S 3 0 0)), (1, .int (x1)), (2, .int (x2))] [] σ := by
  intro nn
  induction nn with
  | zero => intro x1 x2 σ r h; cases h
  | succ nn ih => intro x1 x2 σ r h; exact zB_X12_layThings_2 @ih h
def F_X12_layThings (x1 : Int32) (σ : Mm) : Option (Mm) := (F_X12_layThings_2 FU x1 0 σ)
set_option maxRecDepth 20000 in
theorem zb_X12_layThings {S : Shp} {x1 : Int32} {σ : Mm} {r : Mm} (h : F_X12_layThings x1 σ = some r) : Z m_X12_layThings S (Qv r) 0 [(0, .ref (sL S 3 0 0)), (1, .int (x1))] [] σ := by
  unfold F_X12_layThings at h
  refine z_iconst (v := 0) dX12_layThings_0 (by decide) ?_
  refine z_istore_n (lv' := [(0, .ref (sL S 3 0 0)), (1, .int (x1)), (2, .int (0))]) dX12_layThings_1 rfl (by decide) [1, 2, 0] rfl ?_
  exact zl_X12_layThings_2 FU h
/-- SkyStonesModel.layThings(I)V -/
theorem c_X12_layThings {S : Shp} {x1 : Int32} {σ : Mm} {r : Mm} (h : F_X12_layThings x1 σ = some r) : Ct m_X12_layThings S [.ref (sL S 3 0 0), .int (x1)] σ (Qv r) := Ct.of (by decide +kernel) (Nat.le_of_ble_eq_true rfl) (zb_X12_layThings h)
def F_X12_isDoor_34 (rc2 : Int32 → Int32 → Int32 → Mm → Option (Int32 × Mm)) (x1 : Int32) (x2 : Int32) (x3 : Int32) (σ : Mm) : Option (Int32 × Mm) := (rc2 x1 x2 (x3 + 1) σ)
set_option maxRecDepth 20000 in
theorem zb_X12_isDoor_34 {S : Shp} {rc2 : Int32 → Int32 → Int32 → Mm → Option (Int32 × Mm)} (hrc2 : ∀ {x1 : Int32} {x2 : Int32} {x3 : Int32} {σ : Mm} {r : Int32 × Mm}, rc2 x1 x2 x3 σ = some r → Z m_X12_isDoor S (Qi r) 2 [(0, .ref (sL S 3 0 0)), (1, .int (x1)), (2, .int (x2)), (3, .int (x3))] [] σ) {x1 : Int32} {x2 : Int32} {x3 : Int32} {σ : Mm} {r : Int32 × Mm} (h : F_X12_isDoor_34 rc2 x1 x2 x3 σ = some r) : Z m_X12_isDoor S (Qi r) 34 [(0, .ref (sL S 3 0 0)), (1, .int (x1)), (2, .int (x2)), (3, .int (x3))] [] σ := by
  unfold F_X12_isDoor_34 at h
  refine z_iinc (j := 3) (v := x3 + 1) (lv' := [(0, .ref (sL S 3 0 0)), (1, .int (x1)), (2, .int (x2)), (3, .int (x3 + 1))]) dX12_isDoor_34 rfl rfl (by decide) [1, 2, 3, 0] rfl ?_
  refine z_goto (tgt := 2) dX12_isDoor_37 (by decide) ?_
  exact hrc2 h
def B_X12_isDoor_2 (rc2 : Int32 → Int32 → Int32 → Mm → Option (Int32 × Mm)) (x1 : Int32) (x2 : Int32) (x3 : Int32) (σ : Mm) : Option (Int32 × Mm) := (if inb 0 5 = true then (if (mA σ 3 0 14 (0 : Int32).toNatClampNeg) ≤ x3 then some (0, σ) else (if inb x3 40 = true then (if (mA σ 3 0 15 x3.toNatClampNeg) = x1 then (if inb x3 40 = true then (if (mA σ 3 0 16 x3.toNatClampNeg) = x2 then some (1, σ) else (F_X12_isDoor_34 rc2 x1 x2 x3 σ)) else none) else (F_X12_isDoor_34 rc2 x1 x2 x3 σ)) else none)) else none)
set_option maxRecDepth 20000 in
theorem zB_X12_isDoor_2 {S : Shp} {rc2 : Int32 → Int32 → Int32 → Mm → Option (Int32 × Mm)} (hrc2 : ∀ {x1 : Int32} {x2 : Int32} {x3 : Int32} {σ : Mm} {r : Int32 × Mm}, rc2 x1 x2 x3 σ = some r → Z m_X12_isDoor S (Qi r) 2 [(0, .ref (sL S 3 0 0)), (1, .int (x1)), (2, .int (x2)), (3, .int (x3))] [] σ) {x1 : Int32} {x2 : Int32} {x3 : Int32} {σ : Mm} {r : Int32 × Mm} (h : B_X12_isDoor_2 rc2 x1 x2 x3 σ = some r) : Z m_X12_isDoor S (Qi r) 2 [(0, .ref (sL S 3 0 0)), (1, .int (x1)), (2, .int (x2)), (3, .int (x3))] [] σ := by
  unfold B_X12_isDoor_2 at h
  obtain ⟨g1, h⟩ := gd h
  refine z_iload_n dX12_isDoor_2 rfl 3 rfl ?_
  refine z_aload_n dX12_isDoor_3 rfl 0 rfl ?_
  refine gf_12_55 rfl dX12_isDoor_4 ?_
  refine z_iconst (v := 0) dX12_isDoor_7 (by decide) ?_
  refine ia_3_14 (inb_in g1) dX12_isDoor_8 ?_
  refine z_icmp_ge (tgt := 40) dX12_isDoor_9 (by decide) (fun q => ?_) (fun q => ?_)
  · have h := (if_pos q).symm.trans h
    refine z_iconst (v := 0) dX12_isDoor_40 (by decide) ?_
    cases h
    exact z_ireturn dX12_isDoor_41 rfl rfl ⟨rfl, rfl⟩
  · have h := (if_neg q).symm.trans h
    obtain ⟨g2, h⟩ := gd h
    refine z_aload_n dX12_isDoor_12 rfl 0 rfl ?_
    refine gf_12_58 rfl dX12_isDoor_13 ?_
    refine z_iload_n dX12_isDoor_16 rfl 3 rfl ?_
    refine ia_3_15 (inb_in g2) dX12_isDoor_17 ?_
    refine z_iload_n dX12_isDoor_18 rfl 1 rfl ?_
    refine z_icmp_ne (tgt := 34) dX12_isDoor_19 (by decide) (fun q => ?_) (fun q => ?_)
    · have h := (if_neg q).symm.trans h
      exact zb_X12_isDoor_34 hrc2 h
    · have h := (if_pos q).symm.trans h
      obtain ⟨g3, h⟩ := gd h
      refine z_aload_n dX12_isDoor_22 rfl 0 rfl ?_
      refine gf_12_61 rfl dX12_isDoor_23 ?_
      refine z_iload_n dX12_isDoor_26 rfl 3 rfl ?_
      refine ia_3_16 (inb_in g3) dX12_isDoor_27 ?_
      refine z_iload_n dX12_isDoor_28 rfl 2 rfl ?_
      refine z_icmp_ne (tgt := 34) dX12_isDoor_29 (by decide) (fun q => ?_) (fun q => ?_)
      · have h := (if_neg q).symm.trans h
        exact zb_X12_isDoor_34 hrc2 h
      · have h := (if_pos q).symm.trans h
        refine z_iconst (v := 1) dX12_isDoor_32 (by decide) ?_
        cases h
        exact z_ireturn dX12_isDoor_33 rfl rfl ⟨rfl, rfl⟩
def F_X12_isDoor_2 : Nat → Int32 → Int32 → Int32 → Mm → Option (Int32 × Mm)
  | 0 => fun _ _ _ _ => none
  | n + 1 => B_X12_isDoor_2 (F_X12_isDoor_2 n)
theorem zl_X12_isDoor_2 {S : Shp} : ∀ (nn : Nat) {x1 : Int32} {x2 : Int32} {x3 : Int32} {σ : Mm} {r : Int32 × Mm}, F_X12_isDoor_2 nn x1 x2 x3 σ = some r → Z m_X12_isDoor S (Qi r) 2 [(0, .ref (sL S 3 0 0)), (1, .int (x1)), (2, .int (x2)), (3, .int (x3))] [] σ := by
  intro nn
  induction nn with
  | zero => intro x1 x2 x3 σ r h; cases h
  | succ nn ih => intro x1 x2 x3 σ r h; exact zB_X12_isDoor_2 @ih h
def F_X12_isDoor (x1 : Int32) (x2 : Int32) (σ : Mm) : Option (Int32 × Mm) := (F_X12_isDoor_2 FU x1 x2 0 σ)
set_option maxRecDepth 20000 in
theorem zb_X12_isDoor {S : Shp} {x1 : Int32} {x2 : Int32} {σ : Mm} {r : Int32 × Mm} (h : F_X12_isDoor x1 x2 σ = some r) : Z m_X12_isDoor S (Qi r) 0 [(0, .ref (sL S 3 0 0)), (1, .int (x1)), (2, .int (x2))] [] σ := by
  unfold F_X12_isDoor at h
  refine z_iconst (v := 0) dX12_isDoor_0 (by decide) ?_
  refine z_istore_n (lv' := [(0, .ref (sL S 3 0 0)), (1, .int (x1)), (2, .int (x2)), (3, .int (0))]) dX12_isDoor_1 rfl (by decide) [1, 2, 3, 0] rfl ?_
  exact zl_X12_isDoor_2 FU h
/-- SkyStonesModel.isDoor(II)Z -/
theorem c_X12_isDoor {S : Shp} {x1 : Int32} {x2 : Int32} {σ : Mm} {r : Int32 × Mm} (h : F_X12_isDoor x1 x2 σ = some r) : Ct m_X12_isDoor S [.ref (sL S 3 0 0), .int (x1), .int (x2)] σ (Qi r) := Ct.of (by decide +kernel) (Nat.le_of_ble_eq_true rfl) (zb_X12_isDoor h)
def F_X12_lineOf_116 (s0 : Int32) (σ : Mm) : Option (Int32 × Mm) := (if s0 = 0 then some (0, σ) else some (1, σ))
set_option maxRecDepth 20000 in
theorem zb_X12_lineOf_116 {S : Shp} {s0 : Int32} {σ : Mm} {r : Int32 × Mm} (h : F_X12_lineOf_116 s0 σ = some r) : Z m_X12_lineOf S (Qi r) 116 [] [.int (s0)] σ := by
  unfold F_X12_lineOf_116 at h
  refine z_if_eq (tgt := 123) dX12_lineOf_116 (by decide) (fun q => ?_) (fun q => ?_)
  · have h := (if_pos q).symm.trans h
    refine z_iconst (v := 0) dX12_lineOf_123 (by decide) ?_
    cases h
    exact z_ireturn dX12_lineOf_124 rfl rfl ⟨rfl, rfl⟩
  · have h := (if_neg q).symm.trans h
    refine z_iconst (v := 1) dX12_lineOf_119 (by decide) ?_
    refine z_goto (tgt := 124) dX12_lineOf_120 (by decide) ?_
    cases h
    exact z_ireturn dX12_lineOf_124 rfl rfl ⟨rfl, rfl⟩
def F_X12_lineOf_94 (s0 : Int32) (σ : Mm) : Option (Int32 × Mm) := (if s0 = 0 then some (0, σ) else some (1, σ))
set_option maxRecDepth 20000 in
theorem zb_X12_lineOf_94 {S : Shp} {s0 : Int32} {σ : Mm} {r : Int32 × Mm} (h : F_X12_lineOf_94 s0 σ = some r) : Z m_X12_lineOf S (Qi r) 94 [] [.int (s0)] σ := by
  unfold F_X12_lineOf_94 at h
  refine z_if_eq (tgt := 101) dX12_lineOf_94 (by decide) (fun q => ?_) (fun q => ?_)
  · have h := (if_pos q).symm.trans h
    refine z_iconst (v := 0) dX12_lineOf_101 (by decide) ?_
    cases h
    exact z_ireturn dX12_lineOf_102 rfl rfl ⟨rfl, rfl⟩
  · have h := (if_neg q).symm.trans h
    refine z_iconst (v := 1) dX12_lineOf_97 (by decide) ?_
    refine z_goto (tgt := 102) dX12_lineOf_98 (by decide) ?_
    cases h
    exact z_ireturn dX12_lineOf_102 rfl rfl ⟨rfl, rfl⟩
def F_X12_lineOf_65 (x4 : Int32) (s0 : Int32) (σ : Mm) : Option (Int32 × Mm) := (if inb x4 70 = true then (if (mA σ 3 0 9 x4.toNatClampNeg) = 0 then some (s0 + (0 : Int32), σ) else some (s0 + (1 : Int32), σ)) else none)
set_option maxRecDepth 20000 in
theorem zb_X12_lineOf_65 {S : Shp} {x4 : Int32} {s0 : Int32} {σ : Mm} {r : Int32 × Mm} (h : F_X12_lineOf_65 x4 s0 σ = some r) : Z m_X12_lineOf S (Qi r) 65 [(0, .ref (sL S 3 0 0)), (4, .int (x4))] [.int (s0)] σ := by
  unfold F_X12_lineOf_65 at h
  obtain ⟨g10, h⟩ := gd h
  refine z_aload_n dX12_lineOf_65 rfl 0 rfl ?_
  refine gf_12_40 rfl dX12_lineOf_66 ?_
  refine z_iload dX12_lineOf_69 1 rfl ?_
  refine ia_3_9 (inb_in g10) dX12_lineOf_71 ?_
  refine z_if_eq (tgt := 79) dX12_lineOf_72 (by decide) (fun q => ?_) (fun q => ?_)
  · have h := (if_pos q).symm.trans h
    refine z_iconst (v := 0) dX12_lineOf_79 (by decide) ?_
    refine z_iadd dX12_lineOf_80 ?_
    cases h
    exact z_ireturn dX12_lineOf_81 rfl rfl ⟨rfl, rfl⟩
  · have h := (if_neg q).symm.trans h
    refine z_iconst (v := 1) dX12_lineOf_75 (by decide) ?_
    refine z_goto (tgt := 80) dX12_lineOf_76 (by decide) ?_
    refine z_iadd dX12_lineOf_80 ?_
    cases h
    exact z_ireturn dX12_lineOf_81 rfl rfl ⟨rfl, rfl⟩
def F_X12_lineOf_11 (x1 : Int32) (x2 : Int32) (x3 : Int32) (x4 : Int32) (σ : Mm) : Option (Int32 × Mm) := (if x2 = (2 : Int32) then (if inb x3 14 = true then (if inb x4 14 = true then some (f_X12_plain ((mA σ 3 0 50 x3.toNatClampNeg) - (mA σ 3 0 50 x4.toNatClampNeg)), σ) else none) else none) else (if x2 = (3 : Int32) then (if inb x1 196 = true then some (mA σ 3 0 54 x1.toNatClampNeg, σ) else none) else (if x2 = (4 : Int32) then (if inb x3 70 = true then (if (mA σ 3 0 9 x3.toNatClampNeg) = 0 then (F_X12_lineOf_65 x4 0 σ) else (F_X12_lineOf_65 x4 1 σ)) else none) else (if x2 = (5 : Int32) then (bnd (F_X12_isDoor x3 x4 σ) (fun v τ => (F_X12_lineOf_94 v τ))) else (if x2 = (6 : Int32) then (bnd (F_X12_isDoor x4 x3 σ) (fun v τ => (F_X12_lineOf_116 v τ))) else (if x2 = (7 : Int32) then (if inb x3 14 = true then (if inb x4 14 = true then (if (mA σ 3 0 50 x4.toNatClampNeg) ≤ (mA σ 3 0 50 x3.toNatClampNeg) then (if inb x4 14 = true then some (mA σ 3 0 50 x4.toNatClampNeg, σ) else none) else (if inb x3 14 = true then some (mA σ 3 0 50 x3.toNatClampNeg, σ) else none)) else none) else none) else (if x2 = (8 : Int32) then (if inb x1 196 = true then some (mA σ 3 0 53 x1.toNatClampNeg, σ) else none) else some (0, σ))))))))
set_option maxRecDepth 20000 in
theorem zb_X12_lineOf_11 {S : Shp} {x1 : Int32} {x2 : Int32} {x3 : Int32} {x4 : Int32} {σ : Mm} {r : Int32 × Mm} (h : F_X12_lineOf_11 x1 x2 x3 x4 σ = some r) : Z m_X12_lineOf S (Qi r) 11 [(0, .ref (sL S 3 0 0)), (1, .int (x1)), (2, .int (x2)), (3, .int (x3)), (4, .int (x4))] [] σ := by
  unfold F_X12_lineOf_11 at h
  refine z_iload_n dX12_lineOf_11 rfl 2 rfl ?_
  refine z_iconst (v := 2) dX12_lineOf_12 (by decide) ?_
  refine z_icmp_ne (tgt := 34) dX12_lineOf_13 (by decide) (fun q => ?_) (fun q => ?_)
  · have h := (if_neg q).symm.trans h
    refine z_iload_n dX12_lineOf_34 rfl 2 rfl ?_
    refine z_iconst (v := 3) dX12_lineOf_35 (by decide) ?_
    refine z_icmp_ne (tgt := 46) dX12_lineOf_36 (by decide) (fun q => ?_) (fun q => ?_)
    · have h := (if_neg q).symm.trans h
      refine z_iload_n dX12_lineOf_46 rfl 2 rfl ?_
      refine z_iconst (v := 4) dX12_lineOf_47 (by decide) ?_
      refine z_icmp_ne (tgt := 82) dX12_lineOf_48 (by decide) (fun q => ?_) (fun q => ?_)
      · have h := (if_neg q).symm.trans h
        refine z_iload_n dX12_lineOf_82 rfl 2 rfl ?_
        refine z_iconst (v := 5) dX12_lineOf_83 (by decide) ?_
        refine z_icmp_ne (tgt := 103) dX12_lineOf_84 (by decide) (fun q => ?_) (fun q => ?_)
        · have h := (if_neg q).symm.trans h
          refine z_iload_n dX12_lineOf_103 rfl 2 rfl ?_
          refine z_bipush (v := 6) dX12_lineOf_104 (by decide) ?_
          refine z_icmp_ne (tgt := 125) dX12_lineOf_106 (by decide) (fun q => ?_) (fun q => ?_)
          · have h := (if_neg q).symm.trans h
            refine z_iload_n dX12_lineOf_125 rfl 2 rfl ?_
            refine z_bipush (v := 7) dX12_lineOf_126 (by decide) ?_
            refine z_icmp_ne (tgt := 164) dX12_lineOf_128 (by decide) (fun q => ?_) (fun q => ?_)
            · have h := (if_neg q).symm.trans h
              refine z_iload_n dX12_lineOf_164 rfl 2 rfl ?_
              refine z_bipush (v := 8) dX12_lineOf_165 (by decide) ?_
              refine z_icmp_ne (tgt := 179) dX12_lineOf_167 (by decide) (fun q => ?_) (fun q => ?_)
              · have h := (if_neg q).symm.trans h
                refine z_iconst (v := 0) dX12_lineOf_179 (by decide) ?_
                cases h
                exact z_ireturn dX12_lineOf_180 rfl rfl ⟨rfl, rfl⟩
              · have h := (if_pos q).symm.trans h
                obtain ⟨g1, h⟩ := gd h
                refine z_aload_n dX12_lineOf_170 rfl 0 rfl ?_
                refine gf_12_172 rfl dX12_lineOf_171 ?_
                refine z_iload_n dX12_lineOf_174 rfl 1 rfl ?_
                refine ia_3_53 (inb_in g1) dX12_lineOf_175 ?_
                refine z_goto (tgt := 180) dX12_lineOf_176 (by decide) ?_
                cases h
                exact z_ireturn dX12_lineOf_180 rfl rfl ⟨rfl, rfl⟩
            · have h := (if_pos q).symm.trans h
              obtain ⟨g2, h⟩ := gd h
              refine z_aload_n dX12_lineOf_131 rfl 0 rfl ?_
              refine gf_12_163 rfl dX12_lineOf_132 ?_
              refine z_iload_n dX12_lineOf_135 rfl 3 rfl ?_
              obtain ⟨g3, h⟩ := gd h
              refine ia_3_50 (inb_in g2) dX12_lineOf_136 ?_
              refine z_aload_n dX12_lineOf_137 rfl 0 rfl ?_
              refine gf_12_163 rfl dX12_lineOf_138 ?_
              refine z_iload dX12_lineOf_141 4 rfl ?_
              refine ia_3_50 (inb_in g3) dX12_lineOf_143 ?_
              refine z_icmp_ge (tgt := 156) dX12_lineOf_144 (by decide) (fun q => ?_) (fun q => ?_)
              · have h := (if_pos q).symm.trans h
                obtain ⟨g4, h⟩ := gd h
                refine z_aload_n dX12_lineOf_156 rfl 0 rfl ?_
                refine gf_12_163 rfl dX12_lineOf_157 ?_
                refine z_iload dX12_lineOf_160 4 rfl ?_
                refine ia_3_50 (inb_in g4) dX12_lineOf_162 ?_
                cases h
                exact z_ireturn dX12_lineOf_163 rfl rfl ⟨rfl, rfl⟩
              · have h := (if_neg q).symm.trans h
                obtain ⟨g5, h⟩ := gd h
                refine z_aload_n dX12_lineOf_147 rfl 0 rfl ?_
                refine gf_12_163 rfl dX12_lineOf_148 ?_
                refine z_iload_n dX12_lineOf_151 rfl 3 rfl ?_
                refine ia_3_50 (inb_in g5) dX12_lineOf_152 ?_
                refine z_goto (tgt := 163) dX12_lineOf_153 (by decide) ?_
                cases h
                exact z_ireturn dX12_lineOf_163 rfl rfl ⟨rfl, rfl⟩
          · have h := (if_pos q).symm.trans h
            refine z_aload_n dX12_lineOf_109 rfl 0 rfl ?_
            refine z_iload dX12_lineOf_110 4 rfl ?_
            refine z_iload_n dX12_lineOf_112 rfl 3 rfl ?_
            obtain ⟨v, τ, hc, h⟩ := bnd_e h
            refine z_callV (M' := m_X12_isDoor) (t := 3) (i := 0) (k := 0) (As := [.int (x4), .int (x3)]) (rest := []) kl_12_444 oy_X12_isDoor ⟨Nat.le_of_ble_eq_true rfl, Nat.le_of_ble_eq_true rfl⟩ rfl rfl rfl rfl (Nat.le_of_ble_eq_true rfl) rfl dX12_lineOf_113 (c_X12_isDoor hc) (fun v2 τ2 hq => ?_)
            obtain ⟨rfl, hτ⟩ := hq
            subst τ2
            change Z _ _ _ _ _ [.int (v)] _
            refine Z.lv [] rfl ?_
            exact zb_X12_lineOf_116 h
        · have h := (if_pos q).symm.trans h
          refine z_aload_n dX12_lineOf_87 rfl 0 rfl ?_
          refine z_iload_n dX12_lineOf_88 rfl 3 rfl ?_
          refine z_iload dX12_lineOf_89 4 rfl ?_
          obtain ⟨v, τ, hc, h⟩ := bnd_e h
          refine z_callV (M' := m_X12_isDoor) (t := 3) (i := 0) (k := 0) (As := [.int (x3), .int (x4)]) (rest := []) kl_12_444 oy_X12_isDoor ⟨Nat.le_of_ble_eq_true rfl, Nat.le_of_ble_eq_true rfl⟩ rfl rfl rfl rfl (Nat.le_of_ble_eq_true rfl) rfl dX12_lineOf_91 (c_X12_isDoor hc) (fun v2 τ2 hq => ?_)
          obtain ⟨rfl, hτ⟩ := hq
          subst τ2
          change Z _ _ _ _ _ [.int (v)] _
          refine Z.lv [] rfl ?_
          exact zb_X12_lineOf_94 h
      · have h := (if_pos q).symm.trans h
        obtain ⟨g6, h⟩ := gd h
        refine z_aload_n dX12_lineOf_51 rfl 0 rfl ?_
        refine gf_12_40 rfl dX12_lineOf_52 ?_
        refine z_iload_n dX12_lineOf_55 rfl 3 rfl ?_
        refine ia_3_9 (inb_in g6) dX12_lineOf_56 ?_
        refine z_if_eq (tgt := 64) dX12_lineOf_57 (by decide) (fun q => ?_) (fun q => ?_)
        · have h := (if_pos q).symm.trans h
          refine z_iconst (v := 0) dX12_lineOf_64 (by decide) ?_
          refine Z.lv [0, 4] rfl ?_
          exact zb_X12_lineOf_65 h
        · have h := (if_neg q).symm.trans h
          refine z_iconst (v := 1) dX12_lineOf_60 (by decide) ?_
          refine z_goto (tgt := 65) dX12_lineOf_61 (by decide) ?_
          refine Z.lv [0, 4] rfl ?_
          exact zb_X12_lineOf_65 h
    · have h := (if_pos q).symm.trans h
      obtain ⟨g7, h⟩ := gd h
      refine z_aload_n dX12_lineOf_39 rfl 0 rfl ?_
      refine gf_12_175 rfl dX12_lineOf_40 ?_
      refine z_iload_n dX12_lineOf_43 rfl 1 rfl ?_
      refine ia_3_54 (inb_in g7) dX12_lineOf_44 ?_
      cases h
      exact z_ireturn dX12_lineOf_45 rfl rfl ⟨rfl, rfl⟩
  · have h := (if_pos q).symm.trans h
    obtain ⟨g8, h⟩ := gd h
    refine z_aload_n dX12_lineOf_16 rfl 0 rfl ?_
    refine gf_12_163 rfl dX12_lineOf_17 ?_
    refine z_iload_n dX12_lineOf_20 rfl 3 rfl ?_
    obtain ⟨g9, h⟩ := gd h
    refine ia_3_50 (inb_in g8) dX12_lineOf_21 ?_
    refine z_aload_n dX12_lineOf_22 rfl 0 rfl ?_
    refine gf_12_163 rfl dX12_lineOf_23 ?_
    refine z_iload dX12_lineOf_26 4 rfl ?_
    refine ia_3_50 (inb_in g9) dX12_lineOf_28 ?_
    refine z_isub dX12_lineOf_29 ?_
    refine z_callS (M' := m_X12_plain) (As := [.int ((mA σ 3 0 50 x3.toNatClampNeg) - (mA σ 3 0 50 x4.toNatClampNeg))]) (rest := []) kl_12_425 oy_X12_plain ⟨Nat.le_of_ble_eq_true rfl, Nat.le_of_ble_eq_true rfl⟩ rfl (Nat.le_of_ble_eq_true rfl) rfl dX12_lineOf_30 (c_X12_plain rfl) (fun v τ hq => ?_)
    obtain ⟨rfl, hτ⟩ := hq
    subst τ
    change Z _ _ _ _ _ [.int (f_X12_plain ((mA σ 3 0 50 x3.toNatClampNeg) - (mA σ 3 0 50 x4.toNatClampNeg)))] _
    cases h
    exact z_ireturn dX12_lineOf_33 rfl rfl ⟨rfl, rfl⟩
def F_X12_lineOf (x1 : Int32) (x2 : Int32) (σ : Mm) : Option (Int32 × Mm) := (F_X12_lineOf_11 x1 x2 (x1 / (14 : Int32)) (x1 - x1 / (14 : Int32) * (14 : Int32)) σ)
set_option maxRecDepth 20000 in
theorem zb_X12_lineOf {S : Shp} {x1 : Int32} {x2 : Int32} {σ : Mm} {r : Int32 × Mm} (h : F_X12_lineOf x1 x2 σ = some r) : Z m_X12_lineOf S (Qi r) 0 [(0, .ref (sL S 3 0 0)), (1, .int (x1)), (2, .int (x2))] [] σ := by
  unfold F_X12_lineOf at h
  refine z_iload_n dX12_lineOf_0 rfl 1 rfl ?_
  refine z_bipush (v := 14) dX12_lineOf_1 (by decide) ?_
  refine z_idiv dX12_lineOf_3 (by decide) ?_
  refine z_istore_n (lv' := [(0, .ref (sL S 3 0 0)), (1, .int (x1)), (2, .int (x2)), (3, .int (x1 / (14 : Int32)))]) dX12_lineOf_4 rfl (by decide) [1, 2, 3, 0] rfl ?_
  refine z_iload_n dX12_lineOf_5 rfl 1 rfl ?_
  refine z_bipush (v := 14) dX12_lineOf_6 (by decide) ?_
  refine z_irem dX12_lineOf_8 (by decide) ?_
  refine z_istore (lv' := [(0, .ref (sL S 3 0 0)), (1, .int (x1)), (2, .int (x2)), (3, .int (x1 / (14 : Int32))), (4, .int (x1 - x1 / (14 : Int32) * (14 : Int32)))]) dX12_lineOf_9 (by decide) [1, 2, 3, 4, 0] rfl ?_
  exact zb_X12_lineOf_11 h
/-- SkyStonesModel.lineOf(II)I -/
theorem c_X12_lineOf {S : Shp} {x1 : Int32} {x2 : Int32} {σ : Mm} {r : Int32 × Mm} (h : F_X12_lineOf x1 x2 σ = some r) : Ct m_X12_lineOf S [.ref (sL S 3 0 0), .int (x1), .int (x2)] σ (Qi r) := Ct.of (by decide +kernel) (Nat.le_of_ble_eq_true rfl) (zb_X12_lineOf h)
