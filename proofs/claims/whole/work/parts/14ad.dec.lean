def F_X4_put_7 (x1 : Int32) (x2 : Int32) (x3 : Int32) (σ : Mm) : Option (Mm) := (if inb (x1 >>> ((3 : Int32) &&& 31)) 2048 = true then (if inb (x1 >>> ((3 : Int32) &&& 31)) 2048 = true then some (setA σ 0 0 39 (upd (mA σ 0 0 39) (x1 >>> ((3 : Int32) &&& 31)).toNatClampNeg (((mA σ 0 0 39 (x1 >>> ((3 : Int32) &&& 31)).toNatClampNeg) &&& (((15 : Int32) <<< (x3 &&& 31)) ^^^ (-1 : Int32))) ||| (x2 <<< (x3 &&& 31))))) else none) else none)
set_option maxRecDepth 20000 in
theorem zb_X4_put_7 {S : Shp} {x1 : Int32} {x2 : Int32} {x3 : Int32} {σ : Mm} {r : Mm} (h : F_X4_put_7 x1 x2 x3 σ = some r) : Z m_X4_put S (Qv r) 7 [(0, .ref (sL S 0 0 37)), (1, .int (x1)), (2, .int (x2)), (3, .int (x3))] [] σ := by
  unfold F_X4_put_7 at h
  obtain ⟨g1, h⟩ := gd h
  refine z_aload_n dX4_put_7 rfl 0 rfl ?_
  refine gf_4_15 rfl dX4_put_8 ?_
  refine z_iload_n dX4_put_11 rfl 1 rfl ?_
  refine z_iconst (v := 3) dX4_put_12 (by decide) ?_
  refine z_ishr dX4_put_13 ?_
  refine z_aload_n dX4_put_14 rfl 0 rfl ?_
  refine gf_4_15 rfl dX4_put_15 ?_
  refine z_iload_n dX4_put_18 rfl 1 rfl ?_
  refine z_iconst (v := 3) dX4_put_19 (by decide) ?_
  refine z_ishr dX4_put_20 ?_
  obtain ⟨g2, h⟩ := gd h
  refine ia_0_39 (inb_in g1) dX4_put_21 ?_
  refine z_bipush (v := 15) dX4_put_22 (by decide) ?_
  refine z_iload_n dX4_put_24 rfl 3 rfl ?_
  refine z_ishl dX4_put_25 ?_
  refine z_iconst (v := (-1)) dX4_put_26 (by decide) ?_
  refine z_ixor dX4_put_27 ?_
  refine z_iand dX4_put_28 ?_
  refine z_iload_n dX4_put_29 rfl 2 rfl ?_
  refine z_iload_n dX4_put_30 rfl 3 rfl ?_
  refine z_ishl dX4_put_31 ?_
  refine z_ior dX4_put_32 ?_
  refine is_0_39 (inb_in g2) dX4_put_33 ?_
  cases h
  exact z_return dX4_put_34 rfl ⟨rfl, rfl⟩
def F_X4_put (x1 : Int32) (x2 : Int32) (σ : Mm) : Option (Mm) := (F_X4_put_7 x1 x2 ((x1 &&& (7 : Int32)) <<< ((2 : Int32) &&& 31)) σ)
set_option maxRecDepth 20000 in
theorem zb_X4_put {S : Shp} {x1 : Int32} {x2 : Int32} {σ : Mm} {r : Mm} (h : F_X4_put x1 x2 σ = some r) : Z m_X4_put S (Qv r) 0 [(0, .ref (sL S 0 0 37)), (1, .int (x1)), (2, .int (x2))] [] σ := by
  unfold F_X4_put at h
  refine z_iload_n dX4_put_0 rfl 1 rfl ?_
  refine z_bipush (v := 7) dX4_put_1 (by decide) ?_
  refine z_iand dX4_put_3 ?_
  refine z_iconst (v := 2) dX4_put_4 (by decide) ?_
  refine z_ishl dX4_put_5 ?_
  refine z_istore_n (lv' := [(0, .ref (sL S 0 0 37)), (1, .int (x1)), (2, .int (x2)), (3, .int ((x1 &&& (7 : Int32)) <<< ((2 : Int32) &&& 31)))]) dX4_put_6 rfl (by decide) [1, 2, 3, 0] rfl ?_
  exact zb_X4_put_7 h
/-- SkyStones$Pairing.put(II)V -/
theorem c_X4_put {S : Shp} {x1 : Int32} {x2 : Int32} {σ : Mm} {r : Mm} (h : F_X4_put x1 x2 σ = some r) : Ct m_X4_put S [.ref (sL S 0 0 37), .int (x1), .int (x2)] σ (Qv r) := Ct.of (by decide +kernel) (Nat.le_of_ble_eq_true rfl) (zb_X4_put h)
def F_X4_rename_68 (rc27 : Int32 → Int32 → Int32 → Mm → Option (Mm)) (x1 : Int32) (x2 : Int32) (x3 : Int32) (σ : Mm) : Option (Mm) := (rc27 x1 x2 (x3 + 1) σ)
set_option maxRecDepth 20000 in
theorem zb_X4_rename_68 {S : Shp} {rc27 : Int32 → Int32 → Int32 → Mm → Option (Mm)} (hrc27 : ∀ {x1 : Int32} {x2 : Int32} {x3 : Int32} {σ : Mm} {r : Mm}, rc27 x1 x2 x3 σ = some r → Z m_X4_rename S (Qv r) 27 [(0, .ref (sL S 0 0 37)), (1, .int (x1)), (2, .int (x2)), (3, .int (x3))] [] σ) {x1 : Int32} {x2 : Int32} {x3 : Int32} {σ : Mm} {r : Mm} (h : F_X4_rename_68 rc27 x1 x2 x3 σ = some r) : Z m_X4_rename S (Qv r) 68 [(0, .ref (sL S 0 0 37)), (1, .int (x1)), (2, .int (x2)), (3, .int (x3))] [] σ := by
  unfold F_X4_rename_68 at h
  refine z_iinc (j := 3) (v := x3 + 1) (lv' := [(0, .ref (sL S 0 0 37)), (1, .int (x1)), (2, .int (x2)), (3, .int (x3 + 1))]) dX4_rename_68 rfl rfl (by decide) [1, 2, 3, 0] rfl ?_
  refine z_goto (tgt := 27) dX4_rename_71 (by decide) ?_
  exact hrc27 h
def B_X4_rename_27 (rc27 : Int32 → Int32 → Int32 → Mm → Option (Mm)) (x1 : Int32) (x2 : Int32) (x3 : Int32) (σ : Mm) : Option (Mm) := (if (14 : Int32) ≤ x3 then some (σ) else (if inb x3 14 = true then (if (((mA σ 0 0 38 x3.toNatClampNeg) >>> (x1 &&& 31)) &&& (1 : Int32)) = 0 then (F_X4_rename_68 rc27 x1 x2 x3 σ) else (if inb x3 14 = true then (if inb x3 14 = true then (F_X4_rename_68 rc27 x1 x2 x3 (setA σ 0 0 38 (upd (mA σ 0 0 38) x3.toNatClampNeg (((mA σ 0 0 38 x3.toNatClampNeg) &&& (((1 : Int32) <<< (x1 &&& 31)) ^^^ (-1 : Int32))) ||| ((1 : Int32) <<< (x2 &&& 31)))))) else none) else none)) else none))
set_option maxRecDepth 20000 in
theorem zB_X4_rename_27 {S : Shp} {rc27 : Int32 → Int32 → Int32 → Mm → Option (Mm)} (hrc27 : ∀ {x1 : Int32} {x2 : Int32} {x3 : Int32} {σ : Mm} {r : Mm}, rc27 x1 x2 x3 σ = some r → Z m_X4_rename S (Qv r) 27 [(0, .ref (sL S 0 0 37)), (1, .int (x1)), (2, .int (x2)), (3, .int (x3))] [] σ) {x1 : Int32} {x2 : Int32} {x3 : Int32} {σ : Mm} {r : Mm} (h : B_X4_rename_27 rc27 x1 x2 x3 σ = some r) : Z m_X4_rename S (Qv r) 27 [(0, .ref (sL S 0 0 37)), (1, .int (x1)), (2, .int (x2)), (3, .int (x3))] [] σ := by
  unfold B_X4_rename_27 at h
  refine z_iload_n dX4_rename_27 rfl 3 rfl ?_
  refine z_bipush (v := 14) dX4_rename_28 (by decide) ?_
  refine z_icmp_ge (tgt := 74) dX4_rename_30 (by decide) (fun q => ?_) (fun q => ?_)
  · have h := (if_pos q).symm.trans h
    cases h
    exact z_return dX4_rename_74 rfl ⟨rfl, rfl⟩
  · have h := (if_neg q).symm.trans h
    obtain ⟨g4, h⟩ := gd h
    refine z_aload_n dX4_rename_33 rfl 0 rfl ?_
    refine gf_4_9 rfl dX4_rename_34 ?_
    refine z_iload_n dX4_rename_37 rfl 3 rfl ?_
    refine ia_0_38 (inb_in g4) dX4_rename_38 ?_
    refine z_iload_n dX4_rename_39 rfl 1 rfl ?_
    refine z_ishr dX4_rename_40 ?_
    refine z_iconst (v := 1) dX4_rename_41 (by decide) ?_
    refine z_iand dX4_rename_42 ?_
    refine z_if_eq (tgt := 68) dX4_rename_43 (by decide) (fun q => ?_) (fun q => ?_)
    · have h := (if_pos q).symm.trans h
      exact zb_X4_rename_68 hrc27 h
    · have h := (if_neg q).symm.trans h
      obtain ⟨g5, h⟩ := gd h
      refine z_aload_n dX4_rename_46 rfl 0 rfl ?_
      refine gf_4_9 rfl dX4_rename_47 ?_
      refine z_iload_n dX4_rename_50 rfl 3 rfl ?_
      refine z_aload_n dX4_rename_51 rfl 0 rfl ?_
      refine gf_4_9 rfl dX4_rename_52 ?_
      refine z_iload_n dX4_rename_55 rfl 3 rfl ?_
      obtain ⟨g6, h⟩ := gd h
      refine ia_0_38 (inb_in g5) dX4_rename_56 ?_
      refine z_iconst (v := 1) dX4_rename_57 (by decide) ?_
      refine z_iload_n dX4_rename_58 rfl 1 rfl ?_
      refine z_ishl dX4_rename_59 ?_
      refine z_iconst (v := (-1)) dX4_rename_60 (by decide) ?_
      refine z_ixor dX4_rename_61 ?_
      refine z_iand dX4_rename_62 ?_
      refine z_iconst (v := 1) dX4_rename_63 (by decide) ?_
      refine z_iload_n dX4_rename_64 rfl 2 rfl ?_
      refine z_ishl dX4_rename_65 ?_
      refine z_ior dX4_rename_66 ?_
      refine is_0_38 (inb_in g6) dX4_rename_67 ?_
      exact zb_X4_rename_68 hrc27 h
def F_X4_rename_27 : Nat → Int32 → Int32 → Int32 → Mm → Option (Mm)
  | 0 => fun _ _ _ _ => none
  | n + 1 => B_X4_rename_27 (F_X4_rename_27 n)
theorem zl_X4_rename_27 {S : Shp} : ∀ (nn : Nat) {x1 : Int32} {x2 : Int32} {x3 : Int32} {σ : Mm} {r : Mm}, F_X4_rename_27 nn x1 x2 x3 σ = some r → Z m_X4_rename S (Qv r) 27 [(0, .ref (sL S 0 0 37)), (1, .int (x1)), (2, .int (x2)), (3, .int (x3))] [] σ := by
  intro nn
  induction nn with
  | zero => intro x1 x2 x3 σ r h; cases h
  | succ nn ih => intro x1 x2 x3 σ r h; exact zB_X4_rename_27 @ih h
def F_X4_rename_25 (x1 : Int32) (x2 : Int32) (σ : Mm) : Option (Mm) := (F_X4_rename_27 FU x1 x2 0 σ)
set_option maxRecDepth 20000 in
theorem zb_X4_rename_25 {S : Shp} {x1 : Int32} {x2 : Int32} {σ : Mm} {r : Mm} (h : F_X4_rename_25 x1 x2 σ = some r) : Z m_X4_rename S (Qv r) 25 [(0, .ref (sL S 0 0 37)), (1, .int (x1)), (2, .int (x2))] [] σ := by
  unfold F_X4_rename_25 at h
  refine z_iconst (v := 0) dX4_rename_25 (by decide) ?_
  refine z_istore_n (lv' := [(0, .ref (sL S 0 0 37)), (1, .int (x1)), (2, .int (x2)), (3, .int (0))]) dX4_rename_26 rfl (by decide) [1, 2, 3, 0] rfl ?_
  exact zl_X4_rename_27 FU h
def F_X4_rename_18 (x1 : Int32) (x2 : Int32) (σ : Mm) : Option (Mm) := (if inb x1 14 = true then (F_X4_rename_25 x1 x2 (setA σ 0 0 38 (upd (mA σ 0 0 38) x1.toNatClampNeg 0))) else none)
set_option maxRecDepth 20000 in
theorem zb_X4_rename_18 {S : Shp} {x1 : Int32} {x2 : Int32} {σ : Mm} {r : Mm} (h : F_X4_rename_18 x1 x2 σ = some r) : Z m_X4_rename S (Qv r) 18 [(0, .ref (sL S 0 0 37)), (1, .int (x1)), (2, .int (x2))] [] σ := by
  unfold F_X4_rename_18 at h
  obtain ⟨g3, h⟩ := gd h
  refine z_aload_n dX4_rename_18 rfl 0 rfl ?_
  refine gf_4_9 rfl dX4_rename_19 ?_
  refine z_iload_n dX4_rename_22 rfl 1 rfl ?_
  refine z_iconst (v := 0) dX4_rename_23 (by decide) ?_
  refine is_0_38 (inb_in g3) dX4_rename_24 ?_
  exact zb_X4_rename_25 h
def F_X4_rename (x1 : Int32) (x2 : Int32) (σ : Mm) : Option (Mm) := (if x1 = x2 then some (σ) else (if inb x1 14 = true then (if inb x2 14 = true then (F_X4_rename_18 x1 x2 (setA σ 0 0 38 (upd (mA σ 0 0 38) x2.toNatClampNeg (mA σ 0 0 38 x1.toNatClampNeg)))) else none) else none))
set_option maxRecDepth 20000 in
theorem zb_X4_rename {S : Shp} {x1 : Int32} {x2 : Int32} {σ : Mm} {r : Mm} (h : F_X4_rename x1 x2 σ = some r) : Z m_X4_rename S (Qv r) 0 [(0, .ref (sL S 0 0 37)), (1, .int (x1)), (2, .int (x2))] [] σ := by
  unfold F_X4_rename at h
  refine z_iload_n dX4_rename_0 rfl 1 rfl ?_
  refine z_iload_n dX4_rename_1 rfl 2 rfl ?_
  refine z_icmp_ne (tgt := 6) dX4_rename_2 (by decide) (fun q => ?_) (fun q => ?_)
  · have h := (if_neg q).symm.trans h
    obtain ⟨g1, h⟩ := gd h
    refine z_aload_n dX4_rename_6 rfl 0 rfl ?_
    refine gf_4_9 rfl dX4_rename_7 ?_
    refine z_iload_n dX4_rename_10 rfl 2 rfl ?_
    refine z_aload_n dX4_rename_11 rfl 0 rfl ?_
    refine gf_4_9 rfl dX4_rename_12 ?_
    refine z_iload_n dX4_rename_15 rfl 1 rfl ?_
    obtain ⟨g2, h⟩ := gd h
    refine ia_0_38 (inb_in g1) dX4_rename_16 ?_
    refine is_0_38 (inb_in g2) dX4_rename_17 ?_
    exact zb_X4_rename_18 h
  · have h := (if_pos q).symm.trans h
    cases h
    exact z_return dX4_rename_5 rfl ⟨rfl, rfl⟩
/-- SkyStones$Pairing.rename(II)V -/
theorem c_X4_rename {S : Shp} {x1 : Int32} {x2 : Int32} {σ : Mm} {r : Mm} (h : F_X4_rename x1 x2 σ = some r) : Ct m_X4_rename S [.ref (sL S 0 0 37), .int (x1), .int (x2)] σ (Qv r) := Ct.of (by decide +kernel) (Nat.le_of_ble_eq_true rfl) (zb_X4_rename h)
def F_X4_squeeze_28 (rc4 : Int32 → Int32 → Mm → Option (Int32 × Mm)) (x1 : Int32) (x2 : Int32) (σ : Mm) : Option (Int32 × Mm) := (rc4 x1 (x2 + 1) σ)
set_option maxRecDepth 20000 in
theorem zb_X4_squeeze_28 {S : Shp} {rc4 : Int32 → Int32 → Mm → Option (Int32 × Mm)} (hrc4 : ∀ {x1 : Int32} {x2 : Int32} {σ : Mm} {r : Int32 × Mm}, rc4 x1 x2 σ = some r → Z m_X4_squeeze S (Qi r) 4 [(0, .ref (sL S 0 0 37)), (1, .int (x1)), (2, .int (x2))] [] σ) {x1 : Int32} {x2 : Int32} {σ : Mm} {r : Int32 × Mm} (h : F_X4_squeeze_28 rc4 x1 x2 σ = some r) : Z m_X4_squeeze S (Qi r) 28 [(0, .ref (sL S 0 0 37)), (1, .int (x1)), (2, .int (x2))] [] σ := by
  unfold F_X4_squeeze_28 at h
  refine z_iinc (j := 2) (v := x2 + 1) (lv' := [(0, .ref (sL S 0 0 37)), (1, .int (x1)), (2, .int (x2 + 1))]) dX4_squeeze_28 rfl rfl (by decide) [1, 2, 0] rfl ?_
  refine z_goto (tgt := 4) dX4_squeeze_31 (by decide) ?_
  exact hrc4 h
def F_X4_squeeze_25 (rc4 : Int32 → Int32 → Mm → Option (Int32 × Mm)) (x1 : Int32) (x2 : Int32) (σ : Mm) : Option (Int32 × Mm) := (F_X4_squeeze_28 rc4 (x1 + 1) x2 σ)
set_option maxRecDepth 20000 in
theorem zb_X4_squeeze_25 {S : Shp} {rc4 : Int32 → Int32 → Mm → Option (Int32 × Mm)} (hrc4 : ∀ {x1 : Int32} {x2 : Int32} {σ : Mm} {r : Int32 × Mm}, rc4 x1 x2 σ = some r → Z m_X4_squeeze S (Qi r) 4 [(0, .ref (sL S 0 0 37)), (1, .int (x1)), (2, .int (x2))] [] σ) {x1 : Int32} {x2 : Int32} {σ : Mm} {r : Int32 × Mm} (h : F_X4_squeeze_25 rc4 x1 x2 σ = some r) : Z m_X4_squeeze S (Qi r) 25 [(0, .ref (sL S 0 0 37)), (1, .int (x1)), (2, .int (x2))] [] σ := by
  unfold F_X4_squeeze_25 at h
  refine z_iinc (j := 1) (v := x1 + 1) (lv' := [(0, .ref (sL S 0 0 37)), (1, .int (x1 + 1)), (2, .int (x2))]) dX4_squeeze_25 rfl rfl (by decide) [1, 0, 2] rfl ?_
  exact zb_X4_squeeze_28 hrc4 h
def B_X4_squeeze_4 (rc4 : Int32 → Int32 → Mm → Option (Int32 × Mm)) (x1 : Int32) (x2 : Int32) (σ : Mm) : Option (Int32 × Mm) := (if (14 : Int32) ≤ x2 then some (x1, σ) else (if inb x2 14 = true then (if (mA σ 0 0 38 x2.toNatClampNeg) = 0 then (F_X4_squeeze_28 rc4 x1 x2 σ) else (bnv (F_X4_rename x2 x1 σ) (fun τ => (F_X4_squeeze_25 rc4 x1 x2 τ)))) else none))
set_option maxRecDepth 20000 in
theorem zB_X4_squeeze_4 {S : Shp} {rc4 : Int32 → Int32 → Mm → Option (Int32 × Mm)} (hrc4 : ∀ {x1 : Int32} {x2 : Int32} {σ : Mm} {r : Int32 × Mm}, rc4 x1 x2 σ = some r → Z m_X4_squeeze S (Qi r) 4 [(0, .ref (sL S 0 0 37)), (1, .int (x1)), (2, .int (x2))] [] σ) {x1 : Int32} {x2 : Int32} {σ : Mm} {r : Int32 × Mm} (h : B_X4_squeeze_4 rc4 x1 x2 σ = some r) : Z m_X4_squeeze S (Qi r) 4 [(0, .ref (sL S 0 0 37)), (1, .int (x1)), (2, .int (x2))] [] σ := by
  unfold B_X4_squeeze_4 at h
  refine z_iload_n dX4_squeeze_4 rfl 2 rfl ?_
  refine z_bipush (v := 14) dX4_squeeze_5 (by decide) ?_
  refine z_icmp_ge (tgt := 34) dX4_squeeze_7 (by decide) (fun q => ?_) (fun q => ?_)
  · have h := (if_pos q).symm.trans h
    refine z_iload_n dX4_squeeze_34 rfl 1 rfl ?_
    cases h
    exact z_ireturn dX4_squeeze_35 rfl rfl ⟨rfl, rfl⟩
  · have h := (if_neg q).symm.trans h
    obtain ⟨g1, h⟩ := gd h
    refine z_aload_n dX4_squeeze_10 rfl 0 rfl ?_
    refine gf_4_9 rfl dX4_squeeze_11 ?_
    refine z_iload_n dX4_squeeze_14 rfl 2 rfl ?_
    refine ia_0_38 (inb_in g1) dX4_squeeze_15 ?_
    refine z_if_eq (tgt := 28) dX4_squeeze_16 (by decide) (fun q => ?_) (fun q => ?_)
    · have h := (if_pos q).symm.trans h
      exact zb_X4_squeeze_28 hrc4 h
    · have h := (if_neg q).symm.trans h
      refine z_aload_n dX4_squeeze_19 rfl 0 rfl ?_
      refine z_iload_n dX4_squeeze_20 rfl 2 rfl ?_
      refine z_iload_n dX4_squeeze_21 rfl 1 rfl ?_
      obtain ⟨τ, hc, h⟩ := bnv_e h
      refine z_callV (M' := m_X4_rename) (t := 0) (i := 0) (k := 37) (As := [.int (x2), .int (x1)]) (rest := []) kl_4_40 oy_X4_rename ⟨Nat.le_of_ble_eq_true rfl, Nat.le_of_ble_eq_true rfl⟩ rfl rfl rfl rfl (Nat.le_of_ble_eq_true rfl) rfl dX4_squeeze_22 (c_X4_rename hc) (fun v2 τ2 hq => ?_)
      obtain ⟨rfl, hτ⟩ := hq
      subst τ2
      change Z _ _ _ _ _ [] _
      exact zb_X4_squeeze_25 hrc4 h
def F_X4_squeeze_4 : Nat → Int32 → Int32 → Mm → Option (Int32 × Mm)
  | 0 => fun _ _ _ => none
  | n + 1 => B_X4_squeeze_4 (F_X4_squeeze_4 n)
theorem zl_X4_squeeze_4 {S : Shp} : ∀ (nn : Nat) {x1 : Int32} {x2 : Int32} {σ : Mm} {r : Int32 × Mm}, F_X4_squeeze_4 nn x1 x2 σ = some r → Z m_X4_squeeze S (Qi r) 4 [(0, .ref (sL S 0 0 37)), (1, .int (x1)), (2, .int (x2))] [] σ := by
  intro nn
  induction nn with
  | zero => intro x1 x2 σ r h; cases h
  | succ nn ih => intro x1 x2 σ r h; exact zB_X4_squeeze_4 @ih h
def F_X4_squeeze (σ : Mm) : Option (Int32 × Mm) := (F_X4_squeeze_4 FU 0 0 σ)
set_option maxRecDepth 20000 in
theorem zb_X4_squeeze {S : Shp} {σ : Mm} {r : Int32 × Mm} (h : F_X4_squeeze σ = some r) : Z m_X4_squeeze S (Qi r) 0 [(0, .ref (sL S 0 0 37))] [] σ := by
  unfold F_X4_squeeze at h
  refine z_iconst (v := 0) dX4_squeeze_0 (by decide) ?_
  refine z_istore_n (lv' := [(0, .ref (sL S 0 0 37)), (1, .int (0))]) dX4_squeeze_1 rfl (by decide) [1, 0] rfl ?_
  refine z_iconst (v := 0) dX4_squeeze_2 (by decide) ?_
  refine z_istore_n (lv' := [(0, .ref (sL S 0 0 37)), (1, .int (0)), (2, .int (0))]) dX4_squeeze_3 rfl (by decide) [1, 2, 0] rfl ?_
  exact zl_X4_squeeze_4 FU h
/-- SkyStones$Pairing.squeeze()I -/
theorem c_X4_squeeze {S : Shp} {σ : Mm} {r : Int32 × Mm} (h : F_X4_squeeze σ = some r) : Ct m_X4_squeeze S [.ref (sL S 0 0 37)] σ (Qi r) := Ct.of (by decide +kernel) (Nat.le_of_ble_eq_true rfl) (zb_X4_squeeze h)
def F_X4_most_64 (s0 : Int32) (σ : Mm) : Option (Int32 × Mm) := some (s0, σ)
set_option maxRecDepth 20000 in
theorem zb_X4_most_64 {S : Shp} {s0 : Int32} {σ : Mm} {r : Int32 × Mm} (h : F_X4_most_64 s0 σ = some r) : Z m_X4_most S (Qi r) 64 [] [.int (s0)] σ := by
  unfold F_X4_most_64 at h
  cases h
  exact z_ireturn dX4_most_64 rfl rfl ⟨rfl, rfl⟩
def F_X4_most_43 (rc14 : Int32 → Int32 → Mm → Option (Int32 × Mm)) (rc21 : Int32 → Int32 → Int32 → Mm → Option (Int32 × Mm)) (x1 : Int32) (x2 : Int32) (x3 : Int32) (σ : Mm) : Option (Int32 × Mm) := (rc21 x1 x2 (x3 + 1) σ)
set_option maxRecDepth 20000 in
theorem zb_X4_most_43 {S : Shp} {rc14 : Int32 → Int32 → Mm → Option (Int32 × Mm)} (hrc14 : ∀ {x1 : Int32} {x2 : Int32} {σ : Mm} {r : Int32 × Mm}, rc14 x1 x2 σ = some r → Z m_X4_most S (Qi r) 14 [(0, .ref (sL S 0 0 37)), (1, .int (x1)), (2, .int (x2))] [] σ) {rc21 : Int32 → Int32 → Int32 → Mm → Option (Int32 × Mm)} (hrc21 : ∀ {x1 : Int32} {x2 : Int32} {x3 : Int32} {σ : Mm} {r : Int32 × Mm}, rc21 x1 x2 x3 σ = some r → Z m_X4_most S (Qi r) 21 [(0, .ref (sL S 0 0 37)), (1, .int (x1)), (2, .int (x2)), (3, .int (x3))] [] σ) {x1 : Int32} {x2 : Int32} {x3 : Int32} {σ : Mm} {r : Int32 × Mm} (h : F_X4_most_43 rc14 rc21 x1 x2 x3 σ = some r) : Z m_X4_most S (Qi r) 43 [(0, .ref (sL S 0 0 37)), (1, .int (x1)), (2, .int (x2)), (3, .int (x3))] [] σ := by
  unfold F_X4_most_43 at h
  refine z_iinc (j := 3) (v := x3 + 1) (lv' := [(0, .ref (sL S 0 0 37)), (1, .int (x1)), (2, .int (x2)), (3, .int (x3 + 1))]) dX4_most_43 rfl rfl (by decide) [1, 2, 3, 0] rfl ?_
  refine z_goto (tgt := 21) dX4_most_46 (by decide) ?_
  exact hrc21 h
def F_X4_most_40 (rc14 : Int32 → Int32 → Mm → Option (Int32 × Mm)) (rc21 : Int32 → Int32 → Int32 → Mm → Option (Int32 × Mm)) (x1 : Int32) (x2 : Int32) (x3 : Int32) (s0 : Int32) (s1 : Int32) (σ : Mm) : Option (Int32 × Mm) := (bnv (F_X4_put s1 s0 σ) (fun τ => (F_X4_most_43 rc14 rc21 x1 x2 x3 τ)))
set_option maxRecDepth 20000 in
theorem zb_X4_most_40 {S : Shp} {rc14 : Int32 → Int32 → Mm → Option (Int32 × Mm)} (hrc14 : ∀ {x1 : Int32} {x2 : Int32} {σ : Mm} {r : Int32 × Mm}, rc14 x1 x2 σ = some r → Z m_X4_most S (Qi r) 14 [(0, .ref (sL S 0 0 37)), (1, .int (x1)), (2, .int (x2))] [] σ) {rc21 : Int32 → Int32 → Int32 → Mm → Option (Int32 × Mm)} (hrc21 : ∀ {x1 : Int32} {x2 : Int32} {x3 : Int32} {σ : Mm} {r : Int32 × Mm}, rc21 x1 x2 x3 σ = some r → Z m_X4_most S (Qi r) 21 [(0, .ref (sL S 0 0 37)), (1, .int (x1)), (2, .int (x2)), (3, .int (x3))] [] σ) {x1 : Int32} {x2 : Int32} {x3 : Int32} {s0 : Int32} {s1 : Int32} {σ : Mm} {r : Int32 × Mm} (h : F_X4_most_40 rc14 rc21 x1 x2 x3 s0 s1 σ = some r) : Z m_X4_most S (Qi r) 40 [(0, .ref (sL S 0 0 37)), (1, .int (x1)), (2, .int (x2)), (3, .int (x3))] [.int (s0), .int (s1), .ref (sL S 0 0 37)] σ := by
  unfold F_X4_most_40 at h
  obtain ⟨τ, hc, h⟩ := bnv_e h
  refine z_callV (M' := m_X4_put) (t := 0) (i := 0) (k := 37) (As := [.int (s1), .int (s0)]) (rest := []) kl_4_32 oy_X4_put ⟨Nat.le_of_ble_eq_true rfl, Nat.le_of_ble_eq_true rfl⟩ rfl rfl rfl rfl (Nat.le_of_ble_eq_true rfl) rfl dX4_most_40 (c_X4_put hc) (fun v2 τ2 hq => ?_)
  obtain ⟨rfl, hτ⟩ := hq
  subst τ2
  change Z _ _ _ _ _ [] _
  exact zb_X4_most_43 hrc14 hrc21 h
def B_X4_most_21 (rc14 : Int32 → Int32 → Mm → Option (Int32 × Mm)) (rc21 : Int32 → Int32 → Int32 → Mm → Option (Int32 × Mm)) (x1 : Int32) (x2 : Int32) (x3 : Int32) (σ : Mm) : Option (Int32 × Mm) := (if ((1 : Int32) <<< (x2 &&& 31)) ≤ x3 then (rc14 x1 (x2 + 1) σ) else (bnd (F_X4_bestWith x2 x3 σ) (fun v τ => (F_X4_most_40 rc14 rc21 x1 x2 x3 v (((1 : Int32) <<< (x2 &&& 31)) ||| x3) τ))))
set_option maxRecDepth 20000 in
theorem zB_X4_most_21 {S : Shp} {rc14 : Int32 → Int32 → Mm → Option (Int32 × Mm)} (hrc14 : ∀ {x1 : Int32} {x2 : Int32} {σ : Mm} {r : Int32 × Mm}, rc14 x1 x2 σ = some r → Z m_X4_most S (Qi r) 14 [(0, .ref (sL S 0 0 37)), (1, .int (x1)), (2, .int (x2))] [] σ) {rc21 : Int32 → Int32 → Int32 → Mm → Option (Int32 × Mm)} (hrc21 : ∀ {x1 : Int32} {x2 : Int32} {x3 : Int32} {σ : Mm} {r : Int32 × Mm}, rc21 x1 x2 x3 σ = some r → Z m_X4_most S (Qi r) 21 [(0, .ref (sL S 0 0 37)), (1, .int (x1)), (2, .int (x2)), (3, .int (x3))] [] σ) {x1 : Int32} {x2 : Int32} {x3 : Int32} {σ : Mm} {r : Int32 × Mm} (h : B_X4_most_21 rc14 rc21 x1 x2 x3 σ = some r) : Z m_X4_most S (Qi r) 21 [(0, .ref (sL S 0 0 37)), (1, .int (x1)), (2, .int (x2)), (3, .int (x3))] [] σ := by
  unfold B_X4_most_21 at h
  refine z_iload_n dX4_most_21 rfl 3 rfl ?_
  refine z_iconst (v := 1) dX4_most_22 (by decide) ?_
  refine z_iload_n dX4_most_23 rfl 2 rfl ?_
  refine z_ishl dX4_most_24 ?_
  refine z_icmp_ge (tgt := 49) dX4_most_25 (by decide) (fun q => ?_) (fun q => ?_)
  · have h := (if_pos q).symm.trans h
    refine z_iinc (j := 2) (v := x2 + 1) (lv' := [(0, .ref (sL S 0 0 37)), (1, .int (x1)), (2, .int (x2 + 1)), (3, .int (x3))]) dX4_most_49 rfl rfl (by decide) [1, 2, 0, 3] rfl ?_
    refine z_goto (tgt := 14) dX4_most_52 (by decide) ?_
    refine Z.lv [0, 1, 2] rfl ?_
    exact hrc14 h
  · have h := (if_neg q).symm.trans h
    refine z_aload_n dX4_most_28 rfl 0 rfl ?_
    refine z_iconst (v := 1) dX4_most_29 (by decide) ?_
    refine z_iload_n dX4_most_30 rfl 2 rfl ?_
    refine z_ishl dX4_most_31 ?_
    refine z_iload_n dX4_most_32 rfl 3 rfl ?_
    refine z_ior dX4_most_33 ?_
    refine z_aload_n dX4_most_34 rfl 0 rfl ?_
    refine z_iload_n dX4_most_35 rfl 2 rfl ?_
    refine z_iload_n dX4_most_36 rfl 3 rfl ?_
    obtain ⟨v, τ, hc, h⟩ := bnd_e h
    refine z_callV (M' := m_X4_bestWith) (t := 0) (i := 0) (k := 37) (As := [.int (x2), .int (x3)]) (rest := [.int (((1 : Int32) <<< (x2 &&& 31)) ||| x3), .ref (sL S 0 0 37)]) kl_4_28 oy_X4_bestWith ⟨Nat.le_of_ble_eq_true rfl, Nat.le_of_ble_eq_true rfl⟩ rfl rfl rfl rfl (Nat.le_of_ble_eq_true rfl) rfl dX4_most_37 (c_X4_bestWith hc) (fun v2 τ2 hq => ?_)
    obtain ⟨rfl, hτ⟩ := hq
    subst τ2
    change Z _ _ _ _ _ [.int (v), .int (((1 : Int32) <<< (x2 &&& 31)) ||| x3), .ref (sL S 0 0 37)] _
    exact zb_X4_most_40 hrc14 hrc21 h
def F_X4_most_21 (rc14 : Int32 → Int32 → Mm → Option (Int32 × Mm)) : Nat → Int32 → Int32 → Int32 → Mm → Option (Int32 × Mm)
  | 0 => fun _ _ _ _ => none
  | n + 1 => B_X4_most_21 rc14 (F_X4_most_21 rc14 n)
theorem zl_X4_most_21 {S : Shp} {rc14 : Int32 → Int32 → Mm → Option (Int32 × Mm)} (hrc14 : ∀ {x1 : Int32} {x2 : Int32} {σ : Mm} {r : Int32 × Mm}, rc14 x1 x2 σ = some r → Z m_X4_most S (Qi r) 14 [(0, .ref (sL S 0 0 37)), (1, .int (x1)), (2, .int (x2))] [] σ) : ∀ (nn : Nat) {x1 : Int32} {x2 : Int32} {x3 : Int32} {σ : Mm} {r : Int32 × Mm}, F_X4_most_21 rc14 nn x1 x2 x3 σ = some r → Z m_X4_most S (Qi r) 21 [(0, .ref (sL S 0 0 37)), (1, .int (x1)), (2, .int (x2)), (3, .int (x3))] [] σ := by
  intro nn
  induction nn with
  | zero => intro x1 x2 x3 σ r h; cases h
  | succ nn ih => intro x1 x2 x3 σ r h; exact zB_X4_most_21 hrc14 @ih h
def B_X4_most_14 (rc14 : Int32 → Int32 → Mm → Option (Int32 × Mm)) (x1 : Int32) (x2 : Int32) (σ : Mm) : Option (Int32 × Mm) := (if x1 ≤ x2 then (bnd (F_X4_bestOf (((1 : Int32) <<< (x1 &&& 31)) - (1 : Int32)) σ) (fun v τ => (F_X4_most_64 v τ))) else (F_X4_most_21 rc14 FU x1 x2 0 σ))
set_option maxRecDepth 20000 in
theorem zB_X4_most_14 {S : Shp} {rc14 : Int32 → Int32 → Mm → Option (Int32 × Mm)} (hrc14 : ∀ {x1 : Int32} {x2 : Int32} {σ : Mm} {r : Int32 × Mm}, rc14 x1 x2 σ = some r → Z m_X4_most S (Qi r) 14 [(0, .ref (sL S 0 0 37)), (1, .int (x1)), (2, .int (x2))] [] σ) {x1 : Int32} {x2 : Int32} {σ : Mm} {r : Int32 × Mm} (h : B_X4_most_14 rc14 x1 x2 σ = some r) : Z m_X4_most S (Qi r) 14 [(0, .ref (sL S 0 0 37)), (1, .int (x1)), (2, .int (x2))] [] σ := by
  unfold B_X4_most_14 at h
  refine z_iload_n dX4_most_14 rfl 2 rfl ?_
  refine z_iload_n dX4_most_15 rfl 1 rfl ?_
  refine z_icmp_ge (tgt := 55) dX4_most_16 (by decide) (fun q => ?_) (fun q => ?_)
  · have h := (if_pos q).symm.trans h
    refine z_aload_n dX4_most_55 rfl 0 rfl ?_
    refine z_iconst (v := 1) dX4_most_56 (by decide) ?_
    refine z_iload_n dX4_most_57 rfl 1 rfl ?_
    refine z_ishl dX4_most_58 ?_
    refine z_iconst (v := 1) dX4_most_59 (by decide) ?_
    refine z_isub dX4_most_60 ?_
    obtain ⟨v, τ, hc, h⟩ := bnd_e h
    refine z_callV (M' := m_X4_bestOf) (t := 0) (i := 0) (k := 37) (As := [.int (((1 : Int32) <<< (x1 &&& 31)) - (1 : Int32))]) (rest := []) kl_4_36 oy_X4_bestOf ⟨Nat.le_of_ble_eq_true rfl, Nat.le_of_ble_eq_true rfl⟩ rfl rfl rfl rfl (Nat.le_of_ble_eq_true rfl) rfl dX4_most_61 (c_X4_bestOf hc) (fun v2 τ2 hq => ?_)
    obtain ⟨rfl, hτ⟩ := hq
    subst τ2
    change Z _ _ _ _ _ [.int (v)] _
    refine Z.lv [] rfl ?_
    exact zb_X4_most_64 h
  · have h := (if_neg q).symm.trans h
    refine z_iconst (v := 0) dX4_most_19 (by decide) ?_
    refine z_istore_n (lv' := [(0, .ref (sL S 0 0 37)), (1, .int (x1)), (2, .int (x2)), (3, .int (0))]) dX4_most_20 rfl (by decide) [1, 2, 3, 0] rfl ?_
    exact zl_X4_most_21 hrc14 FU h
def F_X4_most_14 : Nat → Int32 → Int32 → Mm → Option (Int32 × Mm)
  | 0 => fun _ _ _ => none
  | n + 1 => B_X4_most_14 (F_X4_most_14 n)
theorem zl_X4_most_14 {S : Shp} : ∀ (nn : Nat) {x1 : Int32} {x2 : Int32} {σ : Mm} {r : Int32 × Mm}, F_X4_most_14 nn x1 x2 σ = some r → Z m_X4_most S (Qi r) 14 [(0, .ref (sL S 0 0 37)), (1, .int (x1)), (2, .int (x2))] [] σ := by
  intro nn
  induction nn with
  | zero => intro x1 x2 σ r h; cases h
  | succ nn ih => intro x1 x2 σ r h; exact zB_X4_most_14 @ih h
def F_X4_most_12 (x1 : Int32) (σ : Mm) : Option (Int32 × Mm) := (F_X4_most_14 FU x1 0 σ)
set_option maxRecDepth 20000 in
theorem zb_X4_most_12 {S : Shp} {x1 : Int32} {σ : Mm} {r : Int32 × Mm} (h : F_X4_most_12 x1 σ = some r) : Z m_X4_most S (Qi r) 12 [(0, .ref (sL S 0 0 37)), (1, .int (x1))] [] σ := by
  unfold F_X4_most_12 at h
  refine z_iconst (v := 0) dX4_most_12 (by decide) ?_
  refine z_istore_n (lv' := [(0, .ref (sL S 0 0 37)), (1, .int (x1)), (2, .int (0))]) dX4_most_13 rfl (by decide) [1, 2, 0] rfl ?_
  exact zl_X4_most_14 FU h
def F_X4_most_4 (s0 : Int32) (σ : Mm) : Option (Int32 × Mm) := (if inb 0 2048 = true then (F_X4_most_12 s0 (setA σ 0 0 39 (upd (mA σ 0 0 39) (0 : Int32).toNatClampNeg 0))) else none)
set_option maxRecDepth 20000 in
theorem zb_X4_most_4 {S : Shp} {s0 : Int32} {σ : Mm} {r : Int32 × Mm} (h : F_X4_most_4 s0 σ = some r) : Z m_X4_most S (Qi r) 4 [(0, .ref (sL S 0 0 37))] [.int (s0)] σ := by
  unfold F_X4_most_4 at h
  obtain ⟨g1, h⟩ := gd h
  refine z_istore_n (lv' := [(0, .ref (sL S 0 0 37)), (1, .int (s0))]) dX4_most_4 rfl (by decide) [1, 0] rfl ?_
  refine z_aload_n dX4_most_5 rfl 0 rfl ?_
  refine gf_4_15 rfl dX4_most_6 ?_
  refine z_iconst (v := 0) dX4_most_9 (by decide) ?_
  refine z_iconst (v := 0) dX4_most_10 (by decide) ?_
  refine is_0_39 (inb_in g1) dX4_most_11 ?_
  exact zb_X4_most_12 h
def F_X4_most (σ : Mm) : Option (Int32 × Mm) := (bnd (F_X4_squeeze  σ) (fun v τ => (F_X4_most_4 v τ)))
set_option maxRecDepth 20000 in
theorem zb_X4_most {S : Shp} {σ : Mm} {r : Int32 × Mm} (h : F_X4_most σ = some r) : Z m_X4_most S (Qi r) 0 [(0, .ref (sL S 0 0 37))] [] σ := by
  unfold F_X4_most at h
  refine z_aload_n dX4_most_0 rfl 0 rfl ?_
  obtain ⟨v, τ, hc, h⟩ := bnd_e h
  refine z_callV (M' := m_X4_squeeze) (t := 0) (i := 0) (k := 37) (As := []) (rest := []) kl_4_24 oy_X4_squeeze ⟨Nat.le_of_ble_eq_true rfl, Nat.le_of_ble_eq_true rfl⟩ rfl rfl rfl rfl (Nat.le_of_ble_eq_true rfl) rfl dX4_most_1 (c_X4_squeeze hc) (fun v2 τ2 hq => ?_)
  obtain ⟨rfl, hτ⟩ := hq
  subst τ2
  change Z _ _ _ _ _ [.int (v)] _
  exact zb_X4_most_4 h
/-- SkyStones$Pairing.most()I -/
theorem c_X4_most {S : Shp} {σ : Mm} {r : Int32 × Mm} (h : F_X4_most σ = some r) : Ct m_X4_most S [.ref (sL S 0 0 37)] σ (Qi r) := Ct.of (by decide +kernel) (Nat.le_of_ble_eq_true rfl) (zb_X4_most h)
def F_X11_alone_106 (s0 : Int32) (σ : Mm) : Option (Int32 × Mm) := some (s0, σ)
set_option maxRecDepth 20000 in
theorem zb_X11_alone_106 {S : Shp} {s0 : Int32} {σ : Mm} {r : Int32 × Mm} (h : F_X11_alone_106 s0 σ = some r) : Z m_X11_alone S (Qi r) 106 [] [.int (s0)] σ := by
  unfold F_X11_alone_106 at h
  cases h
  exact z_ireturn dX11_alone_106 rfl rfl ⟨rfl, rfl⟩
def F_X11_alone_93 (rc29 : Int32 → Int32 → Mm → Option (Int32 × Mm)) (x1 : Int32) (x4 : Int32) (σ : Mm) : Option (Int32 × Mm) := (rc29 x1 (x4 + 1) σ)
set_option maxRecDepth 20000 in
theorem zb_X11_alone_93 {S : Shp} {rc29 : Int32 → Int32 → Mm → Option (Int32 × Mm)} (hrc29 : ∀ {x1 : Int32} {x4 : Int32} {σ : Mm} {r : Int32 × Mm}, rc29 x1 x4 σ = some r → Z m_X11_alone S (Qi r) 29 [(0, .ref (sL S 0 0 0)), (1, .int (x1)), (4, .int (x4))] [] σ) {x1 : Int32} {x4 : Int32} {σ : Mm} {r : Int32 × Mm} (h : F_X11_alone_93 rc29 x1 x4 σ = some r) : Z m_X11_alone S (Qi r) 93 [(0, .ref (sL S 0 0 0)), (1, .int (x1)), (4, .int (x4))] [] σ := by
  unfold F_X11_alone_93 at h
  refine z_iinc (j := 2) (v := x4 + 1) (lv' := [(0, .ref (sL S 0 0 0)), (1, .int (x1)), (4, .int (x4 + 1))]) dX11_alone_93 rfl rfl (by decide) [1, 2, 0] rfl ?_
  refine z_goto (tgt := 29) dX11_alone_96 (by decide) ?_
  exact hrc29 h
def F_X11_alone_57 (rc29 : Int32 → Int32 → Mm → Option (Int32 × Mm)) (x1 : Int32) (x4 : Int32) (s0 : Int32) (σ : Mm) : Option (Int32 × Mm) := (if s0 = 0 then (F_X11_alone_93 rc29 x1 x4 σ) else (if inb x4 182 = true then (if inb x4 182 = true then (bnv (F_X4_join ((mA σ 0 0 23 x4.toNatClampNeg) / (14 : Int32)) ((mA σ 0 0 23 x4.toNatClampNeg) - (mA σ 0 0 23 x4.toNatClampNeg) / (14 : Int32) * (14 : Int32)) σ) (fun τ => (F_X11_alone_93 rc29 x1 x4 τ))) else none) else none))
set_option maxRecDepth 20000 in
theorem zb_X11_alone_57 {S : Shp} {rc29 : Int32 → Int32 → Mm → Option (Int32 × Mm)} (hrc29 : ∀ {x1 : Int32} {x4 : Int32} {σ : Mm} {r : Int32 × Mm}, rc29 x1 x4 σ = some r → Z m_X11_alone S (Qi r) 29 [(0, .ref (sL S 0 0 0)), (1, .int (x1)), (4, .int (x4))] [] σ) {x1 : Int32} {x4 : Int32} {s0 : Int32} {σ : Mm} {r : Int32 × Mm} (h : F_X11_alone_57 rc29 x1 x4 s0 σ = some r) : Z m_X11_alone S (Qi r) 57 [(0, .ref (sL S 0 0 0)), (1, .int (x1)), (4, .int (x4))] [.int (s0)] σ := by
  unfold F_X11_alone_57 at h
  refine z_if_eq (tgt := 93) dX11_alone_57 (by decide) (fun q => ?_) (fun q => ?_)
  · have h := (if_pos q).symm.trans h
    exact zb_X11_alone_93 hrc29 h
  · have h := (if_neg q).symm.trans h
    obtain ⟨g3, h⟩ := gd h
    refine z_aload_n dX11_alone_60 rfl 0 rfl ?_
    refine gf_11_74 rfl dX11_alone_61 ?_
    refine z_aload_n dX11_alone_64 rfl 0 rfl ?_
    refine gf_11_53 rfl dX11_alone_65 ?_
    refine gf_11_257 rfl dX11_alone_68 ?_
    refine z_iload dX11_alone_71 2 rfl ?_
    obtain ⟨g4, h⟩ := gd h
    refine ia_0_23 (inb_in g3) dX11_alone_73 ?_
    refine z_bipush (v := 14) dX11_alone_74 (by decide) ?_
    refine z_idiv dX11_alone_76 (by decide) ?_
    refine z_aload_n dX11_alone_77 rfl 0 rfl ?_
    refine gf_11_53 rfl dX11_alone_78 ?_
    refine gf_11_257 rfl dX11_alone_81 ?_
    refine z_iload dX11_alone_84 2 rfl ?_
    refine ia_0_23 (inb_in g4) dX11_alone_86 ?_
    refine z_bipush (v := 14) dX11_alone_87 (by decide) ?_
    refine z_irem dX11_alone_89 (by decide) ?_
    obtain ⟨τ, hc, h⟩ := bnv_e h
    refine z_callV (M' := m_X4_join) (t := 0) (i := 0) (k := 37) (As := [.int ((mA σ 0 0 23 x4.toNatClampNeg) / (14 : Int32)), .int ((mA σ 0 0 23 x4.toNatClampNeg) - (mA σ 0 0 23 x4.toNatClampNeg) / (14 : Int32) * (14 : Int32))]) (rest := []) kl_11_271 oy_X4_join ⟨Nat.le_of_ble_eq_true rfl, Nat.le_of_ble_eq_true rfl⟩ rfl rfl rfl rfl (Nat.le_of_ble_eq_true rfl) rfl dX11_alone_90 (c_X4_join hc) (fun v2 τ2 hq => ?_)
    obtain ⟨rfl, hτ⟩ := hq
    subst τ2
    change Z _ _ _ _ _ [] _
    exact zb_X11_alone_93 hrc29 h
def B_X11_alone_29 (rc29 : Int32 → Int32 → Mm → Option (Int32 × Mm)) (x1 : Int32) (x4 : Int32) (σ : Mm) : Option (Int32 × Mm) := (if (mA σ 0 0 15 8) ≤ x4 then (bnd (F_X4_most  σ) (fun v τ => (F_X11_alone_106 v τ))) else (if inb x4 182 = true then (bnd (F_X11_strikes (mA σ 0 0 24 x4.toNatClampNeg) x1 0 σ) (fun v τ => (F_X11_alone_57 rc29 x1 x4 v τ))) else none))
set_option maxRecDepth 20000 in
theorem zB_X11_alone_29 {S : Shp} {rc29 : Int32 → Int32 → Mm → Option (Int32 × Mm)} (hrc29 : ∀ {x1 : Int32} {x4 : Int32} {σ : Mm} {r : Int32 × Mm}, rc29 x1 x4 σ = some r → Z m_X11_alone S (Qi r) 29 [(0, .ref (sL S 0 0 0)), (1, .int (x1)), (4, .int (x4))] [] σ) {x1 : Int32} {x4 : Int32} {σ : Mm} {r : Int32 × Mm} (h : B_X11_alone_29 rc29 x1 x4 σ = some r) : Z m_X11_alone S (Qi r) 29 [(0, .ref (sL S 0 0 0)), (1, .int (x1)), (4, .int (x4))] [] σ := by
  unfold B_X11_alone_29 at h
  refine z_iload dX11_alone_29 2 rfl ?_
  refine z_aload_n dX11_alone_31 rfl 0 rfl ?_
  refine gf_11_53 rfl dX11_alone_32 ?_
  refine gf_11_210 rfl dX11_alone_35 ?_
  refine z_icmp_ge (tgt := 99) dX11_alone_38 (by decide) (fun q => ?_) (fun q => ?_)
  · have h := (if_pos q).symm.trans h
    refine z_aload_n dX11_alone_99 rfl 0 rfl ?_
    refine gf_11_74 rfl dX11_alone_100 ?_
    obtain ⟨v, τ, hc, h⟩ := bnd_e h
    refine z_callV (M' := m_X4_most) (t := 0) (i := 0) (k := 37) (As := []) (rest := []) kl_11_275 oy_X4_most ⟨Nat.le_of_ble_eq_true rfl, Nat.le_of_ble_eq_true rfl⟩ rfl rfl rfl rfl (Nat.le_of_ble_eq_true rfl) rfl dX11_alone_103 (c_X4_most hc) (fun v2 τ2 hq => ?_)
    obtain ⟨rfl, hτ⟩ := hq
    subst τ2
    change Z _ _ _ _ _ [.int (v)] _
    refine Z.lv [] rfl ?_
    exact zb_X11_alone_106 h
  · have h := (if_neg q).symm.trans h
    obtain ⟨g2, h⟩ := gd h
    refine z_aload_n dX11_alone_41 rfl 0 rfl ?_
    refine z_aload_n dX11_alone_42 rfl 0 rfl ?_
    refine gf_11_53 rfl dX11_alone_43 ?_
    refine gf_11_250 rfl dX11_alone_46 ?_
    refine z_iload dX11_alone_49 2 rfl ?_
    refine ia_0_24 (inb_in g2) dX11_alone_51 ?_
    refine z_iload_n dX11_alone_52 rfl 1 rfl ?_
    refine z_iconst (v := 0) dX11_alone_53 (by decide) ?_
    obtain ⟨v, τ, hc, h⟩ := bnd_e h
    refine z_callV (M' := m_X11_strikes) (t := 0) (i := 0) (k := 0) (As := [.int (mA σ 0 0 24 x4.toNatClampNeg), .int (x1), .int (0)]) (rest := []) kl_11_253 oy_X11_strikes ⟨Nat.le_of_ble_eq_true rfl, Nat.le_of_ble_eq_true rfl⟩ rfl rfl rfl rfl (Nat.le_of_ble_eq_true rfl) rfl dX11_alone_54 (c_X11_strikes hc) (fun v2 τ2 hq => ?_)
    obtain ⟨rfl, hτ⟩ := hq
    subst τ2
    change Z _ _ _ _ _ [.int (v)] _
    exact zb_X11_alone_57 hrc29 h
def F_X11_alone_29 : Nat → Int32 → Int32 → Mm → Option (Int32 × Mm)
  | 0 => fun _ _ _ => none
  | n + 1 => B_X11_alone_29 (F_X11_alone_29 n)
theorem zl_X11_alone_29 {S : Shp} : ∀ (nn : Nat) {x1 : Int32} {x4 : Int32} {σ : Mm} {r : Int32 × Mm}, F_X11_alone_29 nn x1 x4 σ = some r → Z m_X11_alone S (Qi r) 29 [(0, .ref (sL S 0 0 0)), (1, .int (x1)), (4, .int (x4))] [] σ := by
  intro nn
  induction nn with
  | zero => intro x1 x4 σ r h; cases h
  | succ nn ih => intro x1 x4 σ r h; exact zB_X11_alone_29 @ih h
def F_X11_alone_26 (x1 : Int32) (σ : Mm) : Option (Int32 × Mm) := (F_X11_alone_29 FU x1 0 σ)
set_option maxRecDepth 20000 in
theorem zb_X11_alone_26 {S : Shp} {x1 : Int32} {σ : Mm} {r : Int32 × Mm} (h : F_X11_alone_26 x1 σ = some r) : Z m_X11_alone S (Qi r) 26 [(0, .ref (sL S 0 0 0)), (1, .int (x1))] [] σ := by
  unfold F_X11_alone_26 at h
  refine z_iconst (v := 0) dX11_alone_26 (by decide) ?_
  refine z_istore (lv' := [(0, .ref (sL S 0 0 0)), (1, .int (x1)), (4, .int (0))]) dX11_alone_27 (by decide) [1, 2, 0] rfl ?_
  exact zl_X11_alone_29 FU h
def F_X11_alone_19 (x1 : Int32) (σ : Mm) : Option (Int32 × Mm) := (bnv (F_X4_forget  σ) (fun τ => (F_X11_alone_26 x1 τ)))
set_option maxRecDepth 20000 in
theorem zb_X11_alone_19 {S : Shp} {x1 : Int32} {σ : Mm} {r : Int32 × Mm} (h : F_X11_alone_19 x1 σ = some r) : Z m_X11_alone S (Qi r) 19 [(0, .ref (sL S 0 0 0)), (1, .int (x1))] [] σ := by
  unfold F_X11_alone_19 at h
  refine z_aload_n dX11_alone_19 rfl 0 rfl ?_
  refine gf_11_74 rfl dX11_alone_20 ?_
  obtain ⟨τ, hc, h⟩ := bnv_e h
  refine z_callV (M' := m_X4_forget) (t := 0) (i := 0) (k := 37) (As := []) (rest := []) kl_11_270 oy_X4_forget ⟨Nat.le_of_ble_eq_true rfl, Nat.le_of_ble_eq_true rfl⟩ rfl rfl rfl rfl (Nat.le_of_ble_eq_true rfl) rfl dX11_alone_23 (c_X4_forget hc) (fun v2 τ2 hq => ?_)
  obtain ⟨rfl, hτ⟩ := hq
  subst τ2
  change Z _ _ _ _ _ [] _
  exact zb_X11_alone_26 h
def F_X11_alone (x1 : Int32) (x2 : Int32) (x3 : Int32) (σ : Mm) : Option (Int32 × Mm) := (if okP σ = true then (if (f_X11_isAsked x1 x2 x3 σ) = 0 then some ((-1), σ) else (bnv (F_X11_lookAt x2 x3 ((-1)) σ) (fun τ => (F_X11_alone_19 x1 τ)))) else none)
set_option maxRecDepth 20000 in
theorem zb_X11_alone {S : Shp} {x1 : Int32} {x2 : Int32} {x3 : Int32} {σ : Mm} {r : Int32 × Mm} (h : F_X11_alone x1 x2 x3 σ = some r) : Z m_X11_alone S (Qi r) 0 [(0, .ref (sL S 0 0 0)), (1, .int (x1)), (2, .int (x2)), (3, .int (x3))] [] σ := by
  unfold F_X11_alone at h
  obtain ⟨g1, h⟩ := gd h
  refine z_aload_n dX11_alone_0 rfl 0 rfl ?_
  refine z_iload_n dX11_alone_1 rfl 1 rfl ?_
  refine z_iload_n dX11_alone_2 rfl 2 rfl ?_
  refine z_iload_n dX11_alone_3 rfl 3 rfl ?_
  have hp := g1
  refine z_callV (M' := m_X11_isAsked) (t := 0) (i := 0) (k := 0) (As := [.int (x1), .int (x2), .int (x3)]) (rest := []) kl_11_239 oy_X11_isAsked ⟨Nat.le_of_ble_eq_true rfl, Nat.le_of_ble_eq_true rfl⟩ rfl rfl rfl rfl (Nat.le_of_ble_eq_true rfl) rfl dX11_alone_4 (c_X11_isAsked hp rfl) (fun v τ hq => ?_)
  obtain ⟨rfl, hτ⟩ := hq
  subst τ
  change Z _ _ _ _ _ [.int (f_X11_isAsked x1 x2 x3 σ)] _
  refine z_if_ne (tgt := 12) dX11_alone_7 (by decide) (fun q => ?_) (fun q => ?_)
  · have h := (if_neg q).symm.trans h
    refine z_aload_n dX11_alone_12 rfl 0 rfl ?_
    refine z_iload_n dX11_alone_13 rfl 2 rfl ?_
    refine z_iload_n dX11_alone_14 rfl 3 rfl ?_
    refine z_iconst (v := (-1)) dX11_alone_15 (by decide) ?_
    obtain ⟨τ, hc, h⟩ := bnv_e h
    refine z_callV (M' := m_X11_lookAt) (t := 0) (i := 0) (k := 0) (As := [.int (x2), .int (x3), .int ((-1))]) (rest := []) kl_11_243 oy_X11_lookAt ⟨Nat.le_of_ble_eq_true rfl, Nat.le_of_ble_eq_true rfl⟩ rfl rfl rfl rfl (Nat.le_of_ble_eq_true rfl) rfl dX11_alone_16 (c_X11_lookAt hc) (fun v2 τ2 hq => ?_)
    obtain ⟨rfl, hτ⟩ := hq
    subst τ2
    change Z _ _ _ _ _ [] _
    refine Z.lv [0, 1] rfl ?_
    exact zb_X11_alone_19 h
  · have h := (if_pos q).symm.trans h
    refine z_iconst (v := (-1)) dX11_alone_10 (by decide) ?_
    cases h
    exact z_ireturn dX11_alone_11 rfl rfl ⟨rfl, rfl⟩
/-- SkyStones.alone(III)I -/
theorem c_X11_alone {S : Shp} {x1 : Int32} {x2 : Int32} {x3 : Int32} {σ : Mm} {r : Int32 × Mm} (h : F_X11_alone x1 x2 x3 σ = some r) : Ct m_X11_alone S [.ref (sL S 0 0 0), .int (x1), .int (x2), .int (x3)] σ (Qi r) := Ct.of (by decide +kernel) (Nat.le_of_ble_eq_true rfl) (zb_X11_alone h)
def F_X7_note_73 (i0 : Nat) (σ : Mm) : Option (Int32 × Mm) := some ((mA σ 2 i0 0 0) - (1 : Int32), σ)
set_option maxRecDepth 20000 in
theorem zb_X7_note_73 {S : Shp} {i0 : Nat} (hi0 : slv (sH S) i0 = true) {σ : Mm} {r : Int32 × Mm} (h : F_X7_note_73 i0 σ = some r) : Z m_X7_note S (Qi r) 73 [(0, .ref (sL S 2 i0 0))] [] σ := by
  unfold F_X7_note_73 at h
  refine z_aload_n dX7_note_73 rfl 0 rfl ?_
  refine gf_7_9 (lv2 (hi0) rfl) rfl dX7_note_74 ?_
  refine z_iconst (v := 1) dX7_note_77 (by decide) ?_
  refine z_isub dX7_note_78 ?_
  cases h
  exact z_ireturn dX7_note_79 rfl rfl ⟨rfl, rfl⟩
def F_X7_note_63 (i0 : Nat) (σ : Mm) : Option (Int32 × Mm) := (F_X7_note_73 i0 (setA σ 2 i0 0 (upd (mA σ 2 i0 0) 0 ((mA σ 2 i0 0 0) + (1 : Int32)))))
set_option maxRecDepth 20000 in
theorem zb_X7_note_63 {S : Shp} {i0 : Nat} (hi0 : slv (sH S) i0 = true) {σ : Mm} {r : Int32 × Mm} (h : F_X7_note_63 i0 σ = some r) : Z m_X7_note S (Qi r) 63 [(0, .ref (sL S 2 i0 0))] [] σ := by
  unfold F_X7_note_63 at h
  refine z_aload_n dX7_note_63 rfl 0 rfl ?_
  refine z_dup dX7_note_64 rfl ?_
  refine gf_7_9 (lv2 (hi0) rfl) rfl dX7_note_65 ?_
  refine z_iconst (v := 1) dX7_note_68 (by decide) ?_
  refine z_iadd dX7_note_69 ?_
  refine pf_7_9 (lv2 (hi0) rfl) rfl dX7_note_70 ?_
  exact zb_X7_note_73 (hi0) h
def F_X7_note_52 (i0 : Nat) (x5 : Int32) (σ : Mm) : Option (Int32 × Mm) := (if inb (mA σ 2 i0 0 0) 60 = true then (F_X7_note_63 i0 (setA σ 2 i0 5 (upd (mA σ 2 i0 5) (mA σ 2 i0 0 0).toNatClampNeg x5))) else none)
set_option maxRecDepth 20000 in
theorem zb_X7_note_52 {S : Shp} {i0 : Nat} (hi0 : slv (sH S) i0 = true) {x5 : Int32} {σ : Mm} {r : Int32 × Mm} (h : F_X7_note_52 i0 x5 σ = some r) : Z m_X7_note S (Qi r) 52 [(0, .ref (sL S 2 i0 0)), (5, .int (x5))] [] σ := by
  unfold F_X7_note_52 at h
  obtain ⟨g5, h⟩ := gd h
  refine z_aload_n dX7_note_52 rfl 0 rfl ?_
  refine gf_7_31 (lv2 (hi0) rfl) rfl dX7_note_53 ?_
  refine z_aload_n dX7_note_56 rfl 0 rfl ?_
  refine gf_7_9 (lv2 (hi0) rfl) rfl dX7_note_57 ?_
  refine z_iload dX7_note_60 1 rfl ?_
  refine is_2_5 (lv2 (hi0) rfl) (inb_in g5) dX7_note_62 ?_
  refine Z.lv [0] rfl ?_
  exact zb_X7_note_63 (hi0) h
def F_X7_note_41 (i0 : Nat) (x4 : Int32) (x5 : Int32) (σ : Mm) : Option (Int32 × Mm) := (if inb (mA σ 2 i0 0 0) 60 = true then (F_X7_note_52 i0 x5 (setA σ 2 i0 4 (upd (mA σ 2 i0 4) (mA σ 2 i0 0 0).toNatClampNeg x4))) else none)
set_option maxRecDepth 20000 in
theorem zb_X7_note_41 {S : Shp} {i0 : Nat} (hi0 : slv (sH S) i0 = true) {x4 : Int32} {x5 : Int32} {σ : Mm} {r : Int32 × Mm} (h : F_X7_note_41 i0 x4 x5 σ = some r) : Z m_X7_note S (Qi r) 41 [(0, .ref (sL S 2 i0 0)), (4, .int (x4)), (5, .int (x5))] [] σ := by
  unfold F_X7_note_41 at h
  obtain ⟨g4, h⟩ := gd h
  refine z_aload_n dX7_note_41 rfl 0 rfl ?_
  refine gf_7_28 (lv2 (hi0) rfl) rfl dX7_note_42 ?_
  refine z_aload_n dX7_note_45 rfl 0 rfl ?_
  refine gf_7_9 (lv2 (hi0) rfl) rfl dX7_note_46 ?_
  refine z_iload dX7_note_49 1 rfl ?_
  refine is_2_4 (lv2 (hi0) rfl) (inb_in g4) dX7_note_51 ?_
  refine Z.lv [0, 2] rfl ?_
  exact zb_X7_note_52 (hi0) h
def F_X7_note_31 (i0 : Nat) (x3 : Int32) (x4 : Int32) (x5 : Int32) (σ : Mm) : Option (Int32 × Mm) := (if inb (mA σ 2 i0 0 0) 60 = true then (F_X7_note_41 i0 x4 x5 (setA σ 2 i0 3 (upd (mA σ 2 i0 3) (mA σ 2 i0 0 0).toNatClampNeg x3))) else none)
set_option maxRecDepth 20000 in
theorem zb_X7_note_31 {S : Shp} {i0 : Nat} (hi0 : slv (sH S) i0 = true) {x3 : Int32} {x4 : Int32} {x5 : Int32} {σ : Mm} {r : Int32 × Mm} (h : F_X7_note_31 i0 x3 x4 x5 σ = some r) : Z m_X7_note S (Qi r) 31 [(0, .ref (sL S 2 i0 0)), (3, .int (x3)), (4, .int (x4)), (5, .int (x5))] [] σ := by
  unfold F_X7_note_31 at h
  obtain ⟨g3, h⟩ := gd h
  refine z_aload_n dX7_note_31 rfl 0 rfl ?_
  refine gf_7_25 (lv2 (hi0) rfl) rfl dX7_note_32 ?_
  refine z_aload_n dX7_note_35 rfl 0 rfl ?_
  refine gf_7_9 (lv2 (hi0) rfl) rfl dX7_note_36 ?_
  refine z_iload_n dX7_note_39 rfl 1 rfl ?_
  refine is_2_3 (lv2 (hi0) rfl) (inb_in g3) dX7_note_40 ?_
  refine Z.lv [0, 2, 3] rfl ?_
  exact zb_X7_note_41 (hi0) h
def F_X7_note_21 (i0 : Nat) (x2 : Int32) (x3 : Int32) (x4 : Int32) (x5 : Int32) (σ : Mm) : Option (Int32 × Mm) := (if inb (mA σ 2 i0 0 0) 60 = true then (F_X7_note_31 i0 x3 x4 x5 (setA σ 2 i0 2 (upd (mA σ 2 i0 2) (mA σ 2 i0 0 0).toNatClampNeg x2))) else none)
set_option maxRecDepth 20000 in
theorem zb_X7_note_21 {S : Shp} {i0 : Nat} (hi0 : slv (sH S) i0 = true) {x2 : Int32} {x3 : Int32} {x4 : Int32} {x5 : Int32} {σ : Mm} {r : Int32 × Mm} (h : F_X7_note_21 i0 x2 x3 x4 x5 σ = some r) : Z m_X7_note S (Qi r) 21 [(0, .ref (sL S 2 i0 0)), (2, .int (x2)), (3, .int (x3)), (4, .int (x4)), (5, .int (x5))] [] σ := by
  unfold F_X7_note_21 at h
  obtain ⟨g2, h⟩ := gd h
  refine z_aload_n dX7_note_21 rfl 0 rfl ?_
  refine gf_7_22 (lv2 (hi0) rfl) rfl dX7_note_22 ?_
  refine z_aload_n dX7_note_25 rfl 0 rfl ?_
  refine gf_7_9 (lv2 (hi0) rfl) rfl dX7_note_26 ?_
  refine z_iload_n dX7_note_29 rfl 1 rfl ?_
  refine is_2_2 (lv2 (hi0) rfl) (inb_in g2) dX7_note_30 ?_
  refine Z.lv [0, 2, 3, 4] rfl ?_
  exact zb_X7_note_31 (hi0) h
def F_X7_note (i0 : Nat) (x1 : Int32) (x2 : Int32) (x3 : Int32) (x4 : Int32) (x5 : Int32) (σ : Mm) : Option (Int32 × Mm) := (if (mA σ 2 i0 0 0) < (60 : Int32) then (if inb (mA σ 2 i0 0 0) 60 = true then (F_X7_note_21 i0 x2 x3 x4 x5 (setA σ 2 i0 1 (upd (mA σ 2 i0 1) (mA σ 2 i0 0 0).toNatClampNeg x1))) else none) else some ((-1), σ))
set_option maxRecDepth 20000 in
theorem zb_X7_note {S : Shp} {i0 : Nat} (hi0 : slv (sH S) i0 = true) {x1 : Int32} {x2 : Int32} {x3 : Int32} {x4 : Int32} {x5 : Int32} {σ : Mm} {r : Int32 × Mm} (h : F_X7_note i0 x1 x2 x3 x4 x5 σ = some r) : Z m_X7_note S (Qi r) 0 [(0, .ref (sL S 2 i0 0)), (1, .int (x1)), (2, .int (x2)), (3, .int (x3)), (4, .int (x4)), (5, .int (x5))] [] σ := by
  unfold F_X7_note at h
  refine z_aload_n dX7_note_0 rfl 0 rfl ?_
  refine gf_7_9 (lv2 (hi0) rfl) rfl dX7_note_1 ?_
  refine z_bipush (v := 60) dX7_note_4 (by decide) ?_
  refine z_icmp_lt (tgt := 11) dX7_note_6 (by decide) (fun q => ?_) (fun q => ?_)
  · have h := (if_pos q).symm.trans h
    obtain ⟨g1, h⟩ := gd h
    refine z_aload_n dX7_note_11 rfl 0 rfl ?_
    refine gf_7_18 (lv2 (hi0) rfl) rfl dX7_note_12 ?_
    refine z_aload_n dX7_note_15 rfl 0 rfl ?_
    refine gf_7_9 (lv2 (hi0) rfl) rfl dX7_note_16 ?_
    refine z_iload_n dX7_note_19 rfl 1 rfl ?_
    refine is_2_1 (lv2 (hi0) rfl) (inb_in g1) dX7_note_20 ?_
    refine Z.lv [0, 2, 3, 4, 5] rfl ?_
    exact zb_X7_note_21 (hi0) h
  · have h := (if_neg q).symm.trans h
    refine z_iconst (v := (-1)) dX7_note_9 (by decide) ?_
    cases h
    exact z_ireturn dX7_note_10 rfl rfl ⟨rfl, rfl⟩
/-- SkyStones$Survey.note(IIIII)I -/
theorem c_X7_note {S : Shp} {i0 : Nat} (hi0 : slv (sH S) i0 = true) {x1 : Int32} {x2 : Int32} {x3 : Int32} {x4 : Int32} {x5 : Int32} {σ : Mm} {r : Int32 × Mm} (h : F_X7_note i0 x1 x2 x3 x4 x5 σ = some r) : Ct m_X7_note S [.ref (sL S 2 i0 0), .int (x1), .int (x2), .int (x3), .int (x4), .int (x5)] σ (Qi r) := Ct.of (by decide +kernel) (Nat.le_of_ble_eq_true rfl) (zb_X7_note hi0 h)
def F_X11_annul_42 (s0 : Int32) (σ : Mm) : Option (Int32 × Mm) := some (s0, σ)
set_option maxRecDepth 20000 in
theorem zb_X11_annul_42 {S : Shp} {s0 : Int32} {σ : Mm} {r : Int32 × Mm} (h : F_X11_annul_42 s0 σ = some r) : Z m_X11_annul S (Qi r) 42 [] [.int (s0)] σ := by
  unfold F_X11_annul_42 at h
  cases h
  exact z_ireturn dX11_annul_42 rfl rfl ⟨rfl, rfl⟩
def F_X11_annul (x1 : Int32) (σ : Mm) : Option (Int32 × Mm) := (if x1 < 0 then some ((-1), σ) else (if (mA σ 2 0 0 0) ≤ x1 then some ((-1), σ) else (if inb x1 60 = true then (if (mA σ 2 0 1 x1.toNatClampNeg) = (4 : Int32) then some ((-1), σ) else (bnd (F_X7_note 0 4 x1 0 0 0 σ) (fun v τ => (F_X11_annul_42 v τ)))) else none)))
set_option maxRecDepth 20000 in
theorem zb_X11_annul {S : Shp} {x1 : Int32} {σ : Mm} {r : Int32 × Mm} (h : F_X11_annul x1 σ = some r) : Z m_X11_annul S (Qi r) 0 [(0, .ref (sL S 0 0 0)), (1, .int (x1))] [] σ := by
  unfold F_X11_annul at h
  refine z_iload_n dX11_annul_0 rfl 1 rfl ?_
  refine z_if_lt (tgt := 28) dX11_annul_1 (by decide) (fun q => ?_) (fun q => ?_)
  · have h := (if_pos q).symm.trans h
    refine z_iconst (v := (-1)) dX11_annul_28 (by decide) ?_
    cases h
    exact z_ireturn dX11_annul_29 rfl rfl ⟨rfl, rfl⟩
  · have h := (if_neg q).symm.trans h
    refine z_iload_n dX11_annul_4 rfl 1 rfl ?_
    refine z_aload_n dX11_annul_5 rfl 0 rfl ?_
    refine gf_11_38 rfl dX11_annul_6 ?_
    refine gf_11_128 (rfl) rfl dX11_annul_9 ?_
    refine z_icmp_ge (tgt := 28) dX11_annul_12 (by decide) (fun q => ?_) (fun q => ?_)
    · have h := (if_pos q).symm.trans h
      refine z_iconst (v := (-1)) dX11_annul_28 (by decide) ?_
      cases h
      exact z_ireturn dX11_annul_29 rfl rfl ⟨rfl, rfl⟩
    · have h := (if_neg q).symm.trans h
      obtain ⟨g1, h⟩ := gd h
      refine z_aload_n dX11_annul_15 rfl 0 rfl ?_
      refine gf_11_38 rfl dX11_annul_16 ?_
      refine gf_11_149 (rfl) rfl dX11_annul_19 ?_
      refine z_iload_n dX11_annul_22 rfl 1 rfl ?_
      refine ia_2_1 (rfl) (inb_in g1) dX11_annul_23 ?_
      refine z_iconst (v := 4) dX11_annul_24 (by decide) ?_
      refine z_icmp_ne (tgt := 30) dX11_annul_25 (by decide) (fun q => ?_) (fun q => ?_)
      · have h := (if_neg q).symm.trans h
        refine z_aload_n dX11_annul_30 rfl 0 rfl ?_
        refine gf_11_38 rfl dX11_annul_31 ?_
        refine z_iconst (v := 4) dX11_annul_34 (by decide) ?_
        refine z_iload_n dX11_annul_35 rfl 1 rfl ?_
        refine z_iconst (v := 0) dX11_annul_36 (by decide) ?_
        refine z_iconst (v := 0) dX11_annul_37 (by decide) ?_
        refine z_iconst (v := 0) dX11_annul_38 (by decide) ?_
        obtain ⟨v, τ, hc, h⟩ := bnd_e h
        refine z_callV (M' := m_X7_note) (t := 2) (i := 0) (k := 0) (As := [.int (4), .int (x1), .int (0), .int (0), .int (0)]) (rest := []) kl_11_139 oy_X7_note ⟨Nat.le_of_ble_eq_true rfl, Nat.le_of_ble_eq_true rfl⟩ rfl rfl rfl rfl (Nat.le_of_ble_eq_true rfl) rfl dX11_annul_39 (c_X7_note rfl hc) (fun v2 τ2 hq => ?_)
        obtain ⟨rfl, hτ⟩ := hq
        subst τ2
        change Z _ _ _ _ _ [.int (v)] _
        refine Z.lv [] rfl ?_
        exact zb_X11_annul_42 h
      · have h := (if_pos q).symm.trans h
        refine z_iconst (v := (-1)) dX11_annul_28 (by decide) ?_
        cases h
        exact z_ireturn dX11_annul_29 rfl rfl ⟨rfl, rfl⟩
/-- SkyStones.annul(I)I -/
theorem c_X11_annul {S : Shp} {x1 : Int32} {σ : Mm} {r : Int32 × Mm} (h : F_X11_annul x1 σ = some r) : Ct m_X11_annul S [.ref (sL S 0 0 0), .int (x1)] σ (Qi r) := Ct.of (by decide +kernel) (Nat.le_of_ble_eq_true rfl) (zb_X11_annul h)
def F_X11_markRounds_65 (rc35 : Int32 → Int32 → Int32 → Int32 → Int32 → Mm → Option (Mm)) (x1 : Int32) (x2 : Int32) (x3 : Int32) (x6 : Int32) (x7 : Int32) (σ : Mm) : Option (Mm) := (rc35 x1 x2 x3 x6 (x7 + 1) σ)
set_option maxRecDepth 20000 in
theorem zb_X11_markRounds_65 {S : Shp} {rc35 : Int32 → Int32 → Int32 → Int32 → Int32 → Mm → Option (Mm)} (hrc35 : ∀ {x1 : Int32} {x2 : Int32} {x3 : Int32} {x6 : Int32} {x7 : Int32} {σ : Mm} {r : Mm}, rc35 x1 x2 x3 x6 x7 σ = some r → Z m_X11_markRounds S (Qv r) 35 [(0, .ref (sL S 0 0 0)), (1, .int (x1)), (2, .int (x2)), (3, .int (x3)), (6, .int (x6)), (7, .int (x7))] [] σ) {x1 : Int32} {x2 : Int32} {x3 : Int32} {x6 : Int32} {x7 : Int32} {σ : Mm} {r : Mm} (h : F_X11_markRounds_65 rc35 x1 x2 x3 x6 x7 σ = some r) : Z m_X11_markRounds S (Qv r) 65 [(0, .ref (sL S 0 0 0)), (1, .int (x1)), (2, .int (x2)), (3, .int (x3)), (6, .int (x6)), (7, .int (x7))] [] σ := by
  unfold F_X11_markRounds_65 at h
  refine z_iinc (j := 5) (v := x7 + 1) (lv' := [(0, .ref (sL S 0 0 0)), (1, .int (x1)), (2, .int (x2)), (3, .int (x3)), (6, .int (x6)), (7, .int (x7 + 1))]) dX11_markRounds_65 rfl rfl (by decide) [1, 2, 3, 4, 5, 0] rfl ?_
  refine z_goto (tgt := 35) dX11_markRounds_68 (by decide) ?_
  exact hrc35 h
def B_X11_markRounds_35 (rc35 : Int32 → Int32 → Int32 → Int32 → Int32 → Mm → Option (Mm)) (x1 : Int32) (x2 : Int32) (x3 : Int32) (x6 : Int32) (x7 : Int32) (σ : Mm) : Option (Mm) := (if x6 < x7 then some (σ) else (if (x3 * x2) < (f_J9_abs_0f7a4 (x1 - (x7 * x2))) then (F_X11_markRounds_65 rc35 x1 x2 x3 x6 x7 σ) else (if inb x7 2001 = true then (F_X11_markRounds_65 rc35 x1 x2 x3 x6 x7 (setA σ 0 0 5 (upd (mA σ 0 0 5) x7.toNatClampNeg (vp_nar .boolean 1)))) else none)))
set_option maxRecDepth 20000 in
theorem zB_X11_markRounds_35 {S : Shp} {rc35 : Int32 → Int32 → Int32 → Int32 → Int32 → Mm → Option (Mm)} (hrc35 : ∀ {x1 : Int32} {x2 : Int32} {x3 : Int32} {x6 : Int32} {x7 : Int32} {σ : Mm} {r : Mm}, rc35 x1 x2 x3 x6 x7 σ = some r → Z m_X11_markRounds S (Qv r) 35 [(0, .ref (sL S 0 0 0)), (1, .int (x1)), (2, .int (x2)), (3, .int (x3)), (6, .int (x6)), (7, .int (x7))] [] σ) {x1 : Int32} {x2 : Int32} {x3 : Int32} {x6 : Int32} {x7 : Int32} {σ : Mm} {r : Mm} (h : B_X11_markRounds_35 rc35 x1 x2 x3 x6 x7 σ = some r) : Z m_X11_markRounds S (Qv r) 35 [(0, .ref (sL S 0 0 0)), (1, .int (x1)), (2, .int (x2)), (3, .int (x3)), (6, .int (x6)), (7, .int (x7))] [] σ := by
  unfold B_X11_markRounds_35 at h
  refine z_iload dX11_markRounds_35 5 rfl ?_
  refine z_iload dX11_markRounds_37 4 rfl ?_
  refine z_icmp_gt (tgt := 71) dX11_markRounds_39 (by decide) (fun q => ?_) (fun q => ?_)
  · have h := (if_pos q).symm.trans h
    cases h
    exact z_return dX11_markRounds_71 rfl ⟨rfl, rfl⟩
  · have h := (if_neg q).symm.trans h
    refine z_iload_n dX11_markRounds_42 rfl 1 rfl ?_
    refine z_iload dX11_markRounds_43 5 rfl ?_
    refine z_iload_n dX11_markRounds_45 rfl 2 rfl ?_
    refine z_imul dX11_markRounds_46 ?_
    refine z_isub dX11_markRounds_47 ?_
    refine z_callS (M' := m_J9_abs_0f7a4) (As := [.int (x1 - (x7 * x2))]) (rest := []) kl_11_333 oy_J9_abs_0f7a4 ⟨Nat.le_of_ble_eq_true rfl, Nat.le_of_ble_eq_true rfl⟩ rfl (Nat.le_of_ble_eq_true rfl) rfl dX11_markRounds_48 (c_J9_abs_0f7a4 rfl) (fun v τ hq => ?_)
    obtain ⟨rfl, hτ⟩ := hq
    subst τ
    change Z _ _ _ _ _ [.int (f_J9_abs_0f7a4 (x1 - (x7 * x2)))] _
    refine z_iload_n dX11_markRounds_51 rfl 3 rfl ?_
    refine z_iload_n dX11_markRounds_52 rfl 2 rfl ?_
    refine z_imul dX11_markRounds_53 ?_
    refine z_icmp_gt (tgt := 65) dX11_markRounds_54 (by decide) (fun q => ?_) (fun q => ?_)
    · have h := (if_pos q).symm.trans h
      exact zb_X11_markRounds_65 hrc35 h
    · have h := (if_neg q).symm.trans h
      obtain ⟨g3, h⟩ := gd h
      refine z_aload_n dX11_markRounds_57 rfl 0 rfl ?_
      refine gf_11_96 rfl dX11_markRounds_58 ?_
      refine z_iload dX11_markRounds_61 5 rfl ?_
      refine z_iconst (v := 1) dX11_markRounds_63 (by decide) ?_
      refine is_0_5 (inb_in g3) dX11_markRounds_64 ?_
      exact zb_X11_markRounds_65 hrc35 h
def F_X11_markRounds_35 : Nat → Int32 → Int32 → Int32 → Int32 → Int32 → Mm → Option (Mm)
  | 0 => fun _ _ _ _ _ _ => none
  | n + 1 => B_X11_markRounds_35 (F_X11_markRounds_35 n)
theorem zl_X11_markRounds_35 {S : Shp} : ∀ (nn : Nat) {x1 : Int32} {x2 : Int32} {x3 : Int32} {x6 : Int32} {x7 : Int32} {σ : Mm} {r : Mm}, F_X11_markRounds_35 nn x1 x2 x3 x6 x7 σ = some r → Z m_X11_markRounds S (Qv r) 35 [(0, .ref (sL S 0 0 0)), (1, .int (x1)), (2, .int (x2)), (3, .int (x3)), (6, .int (x6)), (7, .int (x7))] [] σ := by
  intro nn
  induction nn with
  | zero => intro x1 x2 x3 x6 x7 σ r h; cases h
  | succ nn ih => intro x1 x2 x3 x6 x7 σ r h; exact zB_X11_markRounds_35 @ih h
def F_X11_markRounds_31 (x1 : Int32) (x2 : Int32) (x3 : Int32) (x5 : Int32) (x6 : Int32) (σ : Mm) : Option (Mm) := (F_X11_markRounds_35 FU x1 x2 x3 x6 x5 σ)
set_option maxRecDepth 20000 in
theorem zb_X11_markRounds_31 {S : Shp} {x1 : Int32} {x2 : Int32} {x3 : Int32} {x5 : Int32} {x6 : Int32} {σ : Mm} {r : Mm} (h : F_X11_markRounds_31 x1 x2 x3 x5 x6 σ = some r) : Z m_X11_markRounds S (Qv r) 31 [(0, .ref (sL S 0 0 0)), (1, .int (x1)), (2, .int (x2)), (3, .int (x3)), (5, .int (x5)), (6, .int (x6))] [] σ := by
  unfold F_X11_markRounds_31 at h
  refine z_iload dX11_markRounds_31 4 rfl ?_
  refine z_istore (lv' := [(0, .ref (sL S 0 0 0)), (1, .int (x1)), (2, .int (x2)), (3, .int (x3)), (5, .int (x5)), (6, .int (x6)), (7, .int (x5))]) dX11_markRounds_33 (by decide) [1, 2, 3, 4, 5, 6, 0] rfl ?_
  refine Z.lv [0, 1, 2, 3, 5, 6] rfl ?_
  exact zl_X11_markRounds_35 FU h
def F_X11_markRounds_17 (x1 : Int32) (x2 : Int32) (x3 : Int32) (x4 : Int32) (x5 : Int32) (σ : Mm) : Option (Mm) := (if ¬ x2 = 0 then (F_X11_markRounds_31 x1 x2 x3 x5 (f_J9_min_7cf53 x4 (((x1 / x2) + x3) + (1 : Int32))) σ) else none)
set_option maxRecDepth 20000 in
theorem zb_X11_markRounds_17 {S : Shp} {x1 : Int32} {x2 : Int32} {x3 : Int32} {x4 : Int32} {x5 : Int32} {σ : Mm} {r : Mm} (h : F_X11_markRounds_17 x1 x2 x3 x4 x5 σ = some r) : Z m_X11_markRounds S (Qv r) 17 [(0, .ref (sL S 0 0 0)), (1, .int (x1)), (2, .int (x2)), (3, .int (x3)), (4, .int (x4)), (5, .int (x5))] [] σ := by
  unfold F_X11_markRounds_17 at h
  obtain ⟨g2, h⟩ := gd h
  refine z_iload dX11_markRounds_17 4 rfl ?_
  refine z_iload_n dX11_markRounds_19 rfl 1 rfl ?_
  refine z_iload_n dX11_markRounds_20 rfl 2 rfl ?_
  refine z_idiv dX11_markRounds_21 g2 ?_
  refine z_iload_n dX11_markRounds_22 rfl 3 rfl ?_
  refine z_iadd dX11_markRounds_23 ?_
  refine z_iconst (v := 1) dX11_markRounds_24 (by decide) ?_
  refine z_iadd dX11_markRounds_25 ?_
  refine z_callS (M' := m_J9_min_7cf53) (As := [.int (x4), .int (((x1 / x2) + x3) + (1 : Int32))]) (rest := []) kl_11_376 oy_J9_min_7cf53 ⟨Nat.le_of_ble_eq_true rfl, Nat.le_of_ble_eq_true rfl⟩ rfl (Nat.le_of_ble_eq_true rfl) rfl dX11_markRounds_26 (c_J9_min_7cf53 rfl) (fun v τ hq => ?_)
  obtain ⟨rfl, hτ⟩ := hq
  subst τ
  change Z _ _ _ _ _ [.int (f_J9_min_7cf53 x4 (((x1 / x2) + x3) + (1 : Int32)))] _
  refine z_istore (lv' := [(0, .ref (sL S 0 0 0)), (1, .int (x1)), (2, .int (x2)), (3, .int (x3)), (4, .int (x4)), (5, .int (x5)), (6, .int (f_J9_min_7cf53 x4 (((x1 / x2) + x3) + (1 : Int32))))]) dX11_markRounds_29 (by decide) [1, 2, 3, 4, 5, 6, 0] rfl ?_
  refine Z.lv [0, 1, 2, 3, 5, 6] rfl ?_
  exact zb_X11_markRounds_31 h
def F_X11_markRounds (x1 : Int32) (x2 : Int32) (x3 : Int32) (x4 : Int32) (σ : Mm) : Option (Mm) := (if (1 : Int32) ≤ x2 then (if ¬ x2 = 0 then (F_X11_markRounds_17 x1 x2 x3 x4 (f_J9_max_7cf53 1 ((x1 / x2) - x3)) σ) else none) else some (σ))
set_option maxRecDepth 20000 in
theorem zb_X11_markRounds {S : Shp} {x1 : Int32} {x2 : Int32} {x3 : Int32} {x4 : Int32} {σ : Mm} {r : Mm} (h : F_X11_markRounds x1 x2 x3 x4 σ = some r) : Z m_X11_markRounds S (Qv r) 0 [(0, .ref (sL S 0 0 0)), (1, .int (x1)), (2, .int (x2)), (3, .int (x3)), (4, .int (x4))] [] σ := by
  unfold F_X11_markRounds at h
  refine z_iload_n dX11_markRounds_0 rfl 2 rfl ?_
  refine z_iconst (v := 1) dX11_markRounds_1 (by decide) ?_
  refine z_icmp_ge (tgt := 6) dX11_markRounds_2 (by decide) (fun q => ?_) (fun q => ?_)
  · have h := (if_pos q).symm.trans h
    obtain ⟨g1, h⟩ := gd h
    refine z_iconst (v := 1) dX11_markRounds_6 (by decide) ?_
    refine z_iload_n dX11_markRounds_7 rfl 1 rfl ?_
    refine z_iload_n dX11_markRounds_8 rfl 2 rfl ?_
    refine z_idiv dX11_markRounds_9 g1 ?_
    refine z_iload_n dX11_markRounds_10 rfl 3 rfl ?_
    refine z_isub dX11_markRounds_11 ?_
    refine z_callS (M' := m_J9_max_7cf53) (As := [.int (1), .int ((x1 / x2) - x3)]) (rest := []) kl_11_373 oy_J9_max_7cf53 ⟨Nat.le_of_ble_eq_true rfl, Nat.le_of_ble_eq_true rfl⟩ rfl (Nat.le_of_ble_eq_true rfl) rfl dX11_markRounds_12 (c_J9_max_7cf53 rfl) (fun v τ hq => ?_)
    obtain ⟨rfl, hτ⟩ := hq
    subst τ
    change Z _ _ _ _ _ [.int (f_J9_max_7cf53 1 ((x1 / x2) - x3))] _
    refine z_istore (lv' := [(0, .ref (sL S 0 0 0)), (1, .int (x1)), (2, .int (x2)), (3, .int (x3)), (4, .int (x4)), (5, .int (f_J9_max_7cf53 1 ((x1 / x2) - x3)))]) dX11_markRounds_15 (by decide) [1, 2, 3, 4, 5, 0] rfl ?_
    exact zb_X11_markRounds_17 h
  · have h := (if_neg q).symm.trans h
    cases h
    exact z_return dX11_markRounds_5 rfl ⟨rfl, rfl⟩
/-- SkyStones.markRounds(IIII)V -/
theorem c_X11_markRounds {S : Shp} {x1 : Int32} {x2 : Int32} {x3 : Int32} {x4 : Int32} {σ : Mm} {r : Mm} (h : F_X11_markRounds x1 x2 x3 x4 σ = some r) : Ct m_X11_markRounds S [.ref (sL S 0 0 0), .int (x1), .int (x2), .int (x3), .int (x4)] σ (Qv r) := Ct.of (by decide +kernel) (Nat.le_of_ble_eq_true rfl) (zb_X11_markRounds h)
def F_X11_markedUpTo_28 (rc4 : Int32 → Int32 → Int32 → Mm → Option (Int32 × Mm)) (x1 : Int32) (x2 : Int32) (x3 : Int32) (σ : Mm) : Option (Int32 × Mm) := (rc4 x1 x2 (x3 + 1) σ)
set_option maxRecDepth 20000 in
theorem zb_X11_markedUpTo_28 {S : Shp} {rc4 : Int32 → Int32 → Int32 → Mm → Option (Int32 × Mm)} (hrc4 : ∀ {x1 : Int32} {x2 : Int32} {x3 : Int32} {σ : Mm} {r : Int32 × Mm}, rc4 x1 x2 x3 σ = some r → Z m_X11_markedUpTo S (Qi r) 4 [(0, .ref (sL S 0 0 0)), (1, .int (x1)), (2, .int (x2)), (3, .int (x3))] [] σ) {x1 : Int32} {x2 : Int32} {x3 : Int32} {σ : Mm} {r : Int32 × Mm} (h : F_X11_markedUpTo_28 rc4 x1 x2 x3 σ = some r) : Z m_X11_markedUpTo S (Qi r) 28 [(0, .ref (sL S 0 0 0)), (1, .int (x1)), (2, .int (x2)), (3, .int (x3))] [] σ := by
  unfold F_X11_markedUpTo_28 at h
  refine z_iinc (j := 3) (v := x3 + 1) (lv' := [(0, .ref (sL S 0 0 0)), (1, .int (x1)), (2, .int (x2)), (3, .int (x3 + 1))]) dX11_markedUpTo_28 rfl rfl (by decide) [1, 2, 3, 0] rfl ?_
  refine z_goto (tgt := 4) dX11_markedUpTo_31 (by decide) ?_
  exact hrc4 h
def B_X11_markedUpTo_4 (rc4 : Int32 → Int32 → Int32 → Mm → Option (Int32 × Mm)) (x1 : Int32) (x2 : Int32) (x3 : Int32) (σ : Mm) : Option (Int32 × Mm) := (if x1 < x3 then some (x2, σ) else (if (2000 : Int32) < x3 then some (x2, σ) else (if inb x3 2001 = true then (if (mA σ 0 0 5 x3.toNatClampNeg) = 0 then (F_X11_markedUpTo_28 rc4 x1 x2 x3 σ) else (F_X11_markedUpTo_28 rc4 x1 (x2 + 1) x3 σ)) else none)))
set_option maxRecDepth 20000 in
theorem zB_X11_markedUpTo_4 {S : Shp} {rc4 : Int32 → Int32 → Int32 → Mm → Option (Int32 × Mm)} (hrc4 : ∀ {x1 : Int32} {x2 : Int32} {x3 : Int32} {σ : Mm} {r : Int32 × Mm}, rc4 x1 x2 x3 σ = some r → Z m_X11_markedUpTo S (Qi r) 4 [(0, .ref (sL S 0 0 0)), (1, .int (x1)), (2, .int (x2)), (3, .int (x3))] [] σ) {x1 : Int32} {x2 : Int32} {x3 : Int32} {σ : Mm} {r : Int32 × Mm} (h : B_X11_markedUpTo_4 rc4 x1 x2 x3 σ = some r) : Z m_X11_markedUpTo S (Qi r) 4 [(0, .ref (sL S 0 0 0)), (1, .int (x1)), (2, .int (x2)), (3, .int (x3))] [] σ := by
  unfold B_X11_markedUpTo_4 at h
  refine z_iload_n dX11_markedUpTo_4 rfl 3 rfl ?_
  refine z_iload_n dX11_markedUpTo_5 rfl 1 rfl ?_
  refine z_icmp_gt (tgt := 34) dX11_markedUpTo_6 (by decide) (fun q => ?_) (fun q => ?_)
  · have h := (if_pos q).symm.trans h
    refine z_iload_n dX11_markedUpTo_34 rfl 2 rfl ?_
    cases h
    exact z_ireturn dX11_markedUpTo_35 rfl rfl ⟨rfl, rfl⟩
  · have h := (if_neg q).symm.trans h
    refine z_iload_n dX11_markedUpTo_9 rfl 3 rfl ?_
    refine z_sipush (v := 2000) dX11_markedUpTo_10 (by decide) ?_
    refine z_icmp_gt (tgt := 34) dX11_markedUpTo_13 (by decide) (fun q => ?_) (fun q => ?_)
    · have h := (if_pos q).symm.trans h
      refine z_iload_n dX11_markedUpTo_34 rfl 2 rfl ?_
      cases h
      exact z_ireturn dX11_markedUpTo_35 rfl rfl ⟨rfl, rfl⟩
    · have h := (if_neg q).symm.trans h
      obtain ⟨g1, h⟩ := gd h
      refine z_aload_n dX11_markedUpTo_16 rfl 0 rfl ?_
      refine gf_11_96 rfl dX11_markedUpTo_17 ?_
      refine z_iload_n dX11_markedUpTo_20 rfl 3 rfl ?_
      refine ia_0_5 (inb_in g1) dX11_markedUpTo_21 ?_
      refine z_if_eq (tgt := 28) dX11_markedUpTo_22 (by decide) (fun q => ?_) (fun q => ?_)
      · have h := (if_pos q).symm.trans h
        exact zb_X11_markedUpTo_28 hrc4 h
      · have h := (if_neg q).symm.trans h
        refine z_iinc (j := 2) (v := x2 + 1) (lv' := [(0, .ref (sL S 0 0 0)), (1, .int (x1)), (2, .int (x2 + 1)), (3, .int (x3))]) dX11_markedUpTo_25 rfl rfl (by decide) [1, 2, 0, 3] rfl ?_
        exact zb_X11_markedUpTo_28 hrc4 h
def F_X11_markedUpTo_4 : Nat → Int32 → Int32 → Int32 → Mm → Option (Int32 × Mm)
  | 0 => fun _ _ _ _ => none
  | n + 1 => B_X11_markedUpTo_4 (F_X11_markedUpTo_4 n)
theorem zl_X11_markedUpTo_4 {S : Shp} : ∀ (nn : Nat) {x1 : Int32} {x2 : Int32} {x3 : Int32} {σ : Mm} {r : Int32 × Mm}, F_X11_markedUpTo_4 nn x1 x2 x3 σ = some r → Z m_X11_markedUpTo S (Qi r) 4 [(0, .ref (sL S 0 0 0)), (1, .int (x1)), (2, .int (x2)), (3, .int (x3))] [] σ := by
  intro nn
  induction nn with
  | zero => intro x1 x2 x3 σ r h; cases h
  | succ nn ih => intro x1 x2 x3 σ r h; exact zB_X11_markedUpTo_4 @ih h
def F_X11_markedUpTo (x1 : Int32) (σ : Mm) : Option (Int32 × Mm) := (F_X11_markedUpTo_4 FU x1 0 0 σ)
set_option maxRecDepth 20000 in
theorem zb_X11_markedUpTo {S : Shp} {x1 : Int32} {σ : Mm} {r : Int32 × Mm} (h : F_X11_markedUpTo x1 σ = some r) : Z m_X11_markedUpTo S (Qi r) 0 [(0, .ref (sL S 0 0 0)), (1, .int (x1))] [] σ := by
  unfold F_X11_markedUpTo at h
  refine z_iconst (v := 0) dX11_markedUpTo_0 (by decide) ?_
  refine z_istore_n (lv' := [(0, .ref (sL S 0 0 0)), (1, .int (x1)), (2, .int (0))]) dX11_markedUpTo_1 rfl (by decide) [1, 2, 0] rfl ?_
  refine z_iconst (v := 0) dX11_markedUpTo_2 (by decide) ?_
  refine z_istore_n (lv' := [(0, .ref (sL S 0 0 0)), (1, .int (x1)), (2, .int (0)), (3, .int (0))]) dX11_markedUpTo_3 rfl (by decide) [1, 2, 3, 0] rfl ?_
  exact zl_X11_markedUpTo_4 FU h
/-- SkyStones.markedUpTo(I)I -/
theorem c_X11_markedUpTo {S : Shp} {x1 : Int32} {σ : Mm} {r : Int32 × Mm} (h : F_X11_markedUpTo x1 σ = some r) : Ct m_X11_markedUpTo S [.ref (sL S 0 0 0), .int (x1)] σ (Qi r) := Ct.of (by decide +kernel) (Nat.le_of_ble_eq_true rfl) (zb_X11_markedUpTo h)
def F_X11_anything_137 (s0 : Int32) (σ : Mm) : Option (Int32 × Mm) := some (s0, σ)
set_option maxRecDepth 20000 in
theorem zb_X11_anything_137 {S : Shp} {s0 : Int32} {σ : Mm} {r : Int32 × Mm} (h : F_X11_anything_137 s0 σ = some r) : Z m_X11_anything S (Qi r) 137 [] [.int (s0)] σ := by
  unfold F_X11_anything_137 at h
  cases h
  exact z_ireturn dX11_anything_137 rfl rfl ⟨rfl, rfl⟩
def F_X11_anything_119 (rc90 : Int32 → Int32 → Int32 → Int32 → Int32 → Int32 → Mm → Option (Int32 × Mm)) (rc99 : Int32 → Int32 → Int32 → Int32 → Int32 → Int32 → Int32 → Mm → Option (Int32 × Mm)) (x1 : Int32) (x2 : Int32) (x3 : Int32) (x4 : Int32) (x5 : Int32) (x6 : Int32) (x7 : Int32) (σ : Mm) : Option (Int32 × Mm) := (rc99 x1 x2 x3 x4 x5 x6 (x7 + 1) σ)
set_option maxRecDepth 20000 in
theorem zb_X11_anything_119 {S : Shp} {rc90 : Int32 → Int32 → Int32 → Int32 → Int32 → Int32 → Mm → Option (Int32 × Mm)} (hrc90 : ∀ {x1 : Int32} {x2 : Int32} {x3 : Int32} {x4 : Int32} {x5 : Int32} {x6 : Int32} {σ : Mm} {r : Int32 × Mm}, rc90 x1 x2 x3 x4 x5 x6 σ = some r → Z m_X11_anything S (Qi r) 90 [(0, .ref (sL S 0 0 0)), (1, .int (x1)), (2, .int (x2)), (3, .int (x3)), (4, .int (x4)), (5, .int (x5)), (6, .int (x6))] [] σ) {rc99 : Int32 → Int32 → Int32 → Int32 → Int32 → Int32 → Int32 → Mm → Option (Int32 × Mm)} (hrc99 : ∀ {x1 : Int32} {x2 : Int32} {x3 : Int32} {x4 : Int32} {x5 : Int32} {x6 : Int32} {x7 : Int32} {σ : Mm} {r : Int32 × Mm}, rc99 x1 x2 x3 x4 x5 x6 x7 σ = some r → Z m_X11_anything S (Qi r) 99 [(0, .ref (sL S 0 0 0)), (1, .int (x1)), (2, .int (x2)), (3, .int (x3)), (4, .int (x4)), (5, .int (x5)), (6, .int (x6)), (7, .int (x7))] [] σ) {x1 : Int32} {x2 : Int32} {x3 : Int32} {x4 : Int32} {x5 : Int32} {x6 : Int32} {x7 : Int32} {σ : Mm} {r : Int32 × Mm} (h : F_X11_anything_119 rc90 rc99 x1 x2 x3 x4 x5 x6 x7 σ = some r) : Z m_X11_anything S (Qi r) 119 [(0, .ref (sL S 0 0 0)), (1, .int (x1)), (2, .int (x2)), (3, .int (x3)), (4, .int (x4)), (5, .int (x5)), (6, .int (x6)), (7, .int (x7))] [] σ := by
  unfold F_X11_anything_119 at h
  refine z_iinc (j := 7) (v := x7 + 1) (lv' := [(0, .ref (sL S 0 0 0)), (1, .int (x1)), (2, .int (x2)), (3, .int (x3)), (4, .int (x4)), (5, .int (x5)), (6, .int (x6)), (7, .int (x7 + 1))]) dX11_anything_119 rfl rfl (by decide) [1, 2, 3, 4, 5, 6, 7, 0] rfl ?_
  refine z_goto (tgt := 99) dX11_anything_122 (by decide) ?_
  exact hrc99 h
def B_X11_anything_99 (rc90 : Int32 → Int32 → Int32 → Int32 → Int32 → Int32 → Mm → Option (Int32 × Mm)) (rc99 : Int32 → Int32 → Int32 → Int32 → Int32 → Int32 → Int32 → Mm → Option (Int32 × Mm)) (x1 : Int32) (x2 : Int32) (x3 : Int32) (x4 : Int32) (x5 : Int32) (x6 : Int32) (x7 : Int32) (σ : Mm) : Option (Int32 × Mm) := (if x3 < x7 then (rc90 x1 x2 x3 x4 x5 (x6 + 1) σ) else (bnv (F_X11_markRounds (x1 * x7) x6 x4 x5 σ) (fun τ => (F_X11_anything_119 rc90 rc99 x1 x2 x3 x4 x5 x6 x7 τ))))
set_option maxRecDepth 20000 in
theorem zB_X11_anything_99 {S : Shp} {rc90 : Int32 → Int32 → Int32 → Int32 → Int32 → Int32 → Mm → Option (Int32 × Mm)} (hrc90 : ∀ {x1 : Int32} {x2 : Int32} {x3 : Int32} {x4 : Int32} {x5 : Int32} {x6 : Int32} {σ : Mm} {r : Int32 × Mm}, rc90 x1 x2 x3 x4 x5 x6 σ = some r → Z m_X11_anything S (Qi r) 90 [(0, .ref (sL S 0 0 0)), (1, .int (x1)), (2, .int (x2)), (3, .int (x3)), (4, .int (x4)), (5, .int (x5)), (6, .int (x6))] [] σ) {rc99 : Int32 → Int32 → Int32 → Int32 → Int32 → Int32 → Int32 → Mm → Option (Int32 × Mm)} (hrc99 : ∀ {x1 : Int32} {x2 : Int32} {x3 : Int32} {x4 : Int32} {x5 : Int32} {x6 : Int32} {x7 : Int32} {σ : Mm} {r : Int32 × Mm}, rc99 x1 x2 x3 x4 x5 x6 x7 σ = some r → Z m_X11_anything S (Qi r) 99 [(0, .ref (sL S 0 0 0)), (1, .int (x1)), (2, .int (x2)), (3, .int (x3)), (4, .int (x4)), (5, .int (x5)), (6, .int (x6)), (7, .int (x7))] [] σ) {x1 : Int32} {x2 : Int32} {x3 : Int32} {x4 : Int32} {x5 : Int32} {x6 : Int32} {x7 : Int32} {σ : Mm} {r : Int32 × Mm} (h : B_X11_anything_99 rc90 rc99 x1 x2 x3 x4 x5 x6 x7 σ = some r) : Z m_X11_anything S (Qi r) 99 [(0, .ref (sL S 0 0 0)), (1, .int (x1)), (2, .int (x2)), (3, .int (x3)), (4, .int (x4)), (5, .int (x5)), (6, .int (x6)), (7, .int (x7))] [] σ := by
  unfold B_X11_anything_99 at h
  refine z_iload dX11_anything_99 7 rfl ?_
  refine z_iload_n dX11_anything_101 rfl 3 rfl ?_
  refine z_icmp_gt (tgt := 125) dX11_anything_102 (by decide) (fun q => ?_) (fun q => ?_)
  · have h := (if_pos q).symm.trans h
    refine z_iinc (j := 6) (v := x6 + 1) (lv' := [(0, .ref (sL S 0 0 0)), (1, .int (x1)), (2, .int (x2)), (3, .int (x3)), (4, .int (x4)), (5, .int (x5)), (6, .int (x6 + 1)), (7, .int (x7))]) dX11_anything_125 rfl rfl (by decide) [1, 2, 3, 4, 5, 6, 0, 7] rfl ?_
    refine z_goto (tgt := 90) dX11_anything_128 (by decide) ?_
    refine Z.lv [0, 1, 2, 3, 4, 5, 6] rfl ?_
    exact hrc90 h
  · have h := (if_neg q).symm.trans h
    refine z_aload_n dX11_anything_105 rfl 0 rfl ?_
    refine z_iload_n dX11_anything_106 rfl 1 rfl ?_
    refine z_iload dX11_anything_107 7 rfl ?_
    refine z_imul dX11_anything_109 ?_
    refine z_iload dX11_anything_110 6 rfl ?_
    refine z_iload dX11_anything_112 4 rfl ?_
    refine z_iload dX11_anything_114 5 rfl ?_
    obtain ⟨τ, hc, h⟩ := bnv_e h
    refine z_callV (M' := m_X11_markRounds) (t := 0) (i := 0) (k := 0) (As := [.int (x1 * x7), .int (x6), .int (x4), .int (x5)]) (rest := []) kl_11_338 oy_X11_markRounds ⟨Nat.le_of_ble_eq_true rfl, Nat.le_of_ble_eq_true rfl⟩ rfl rfl rfl rfl (Nat.le_of_ble_eq_true rfl) rfl dX11_anything_116 (c_X11_markRounds hc) (fun v2 τ2 hq => ?_)
    obtain ⟨rfl, hτ⟩ := hq
    subst τ2
    change Z _ _ _ _ _ [] _
    exact zb_X11_anything_119 hrc90 hrc99 h
def F_X11_anything_99 (rc90 : Int32 → Int32 → Int32 → Int32 → Int32 → Int32 → Mm → Option (Int32 × Mm)) : Nat → Int32 → Int32 → Int32 → Int32 → Int32 → Int32 → Int32 → Mm → Option (Int32 × Mm)
  | 0 => fun _ _ _ _ _ _ _ _ => none
  | n + 1 => B_X11_anything_99 rc90 (F_X11_anything_99 rc90 n)
theorem zl_X11_anything_99 {S : Shp} {rc90 : Int32 → Int32 → Int32 → Int32 → Int32 → Int32 → Mm → Option (Int32 × Mm)} (hrc90 : ∀ {x1 : Int32} {x2 : Int32} {x3 : Int32} {x4 : Int32} {x5 : Int32} {x6 : Int32} {σ : Mm} {r : Int32 × Mm}, rc90 x1 x2 x3 x4 x5 x6 σ = some r → Z m_X11_anything S (Qi r) 90 [(0, .ref (sL S 0 0 0)), (1, .int (x1)), (2, .int (x2)), (3, .int (x3)), (4, .int (x4)), (5, .int (x5)), (6, .int (x6))] [] σ) : ∀ (nn : Nat) {x1 : Int32} {x2 : Int32} {x3 : Int32} {x4 : Int32} {x5 : Int32} {x6 : Int32} {x7 : Int32} {σ : Mm} {r : Int32 × Mm}, F_X11_anything_99 rc90 nn x1 x2 x3 x4 x5 x6 x7 σ = some r → Z m_X11_anything S (Qi r) 99 [(0, .ref (sL S 0 0 0)), (1, .int (x1)), (2, .int (x2)), (3, .int (x3)), (4, .int (x4)), (5, .int (x5)), (6, .int (x6)), (7, .int (x7))] [] σ := by
  intro nn
  induction nn with
  | zero => intro x1 x2 x3 x4 x5 x6 x7 σ r h; cases h
  | succ nn ih => intro x1 x2 x3 x4 x5 x6 x7 σ r h; exact zB_X11_anything_99 hrc90 @ih h
def B_X11_anything_90 (rc90 : Int32 → Int32 → Int32 → Int32 → Int32 → Int32 → Mm → Option (Int32 × Mm)) (x1 : Int32) (x2 : Int32) (x3 : Int32) (x4 : Int32) (x5 : Int32) (x6 : Int32) (σ : Mm) : Option (Int32 × Mm) := (if x2 < x6 then (bnd (F_X11_markedUpTo x5 σ) (fun v τ => (F_X11_anything_137 v τ))) else (F_X11_anything_99 rc90 FU x1 x2 x3 x4 x5 x6 1 σ))
set_option maxRecDepth 20000 in
theorem zB_X11_anything_90 {S : Shp} {rc90 : Int32 → Int32 → Int32 → Int32 → Int32 → Int32 → Mm → Option (Int32 × Mm)} (hrc90 : ∀ {x1 : Int32} {x2 : Int32} {x3 : Int32} {x4 : Int32} {x5 : Int32} {x6 : Int32} {σ : Mm} {r : Int32 × Mm}, rc90 x1 x2 x3 x4 x5 x6 σ = some r → Z m_X11_anything S (Qi r) 90 [(0, .ref (sL S 0 0 0)), (1, .int (x1)), (2, .int (x2)), (3, .int (x3)), (4, .int (x4)), (5, .int (x5)), (6, .int (x6))] [] σ) {x1 : Int32} {x2 : Int32} {x3 : Int32} {x4 : Int32} {x5 : Int32} {x6 : Int32} {σ : Mm} {r : Int32 × Mm} (h : B_X11_anything_90 rc90 x1 x2 x3 x4 x5 x6 σ = some r) : Z m_X11_anything S (Qi r) 90 [(0, .ref (sL S 0 0 0)), (1, .int (x1)), (2, .int (x2)), (3, .int (x3)), (4, .int (x4)), (5, .int (x5)), (6, .int (x6))] [] σ := by
  unfold B_X11_anything_90 at h
  refine z_iload dX11_anything_90 6 rfl ?_
  refine z_iload_n dX11_anything_92 rfl 2 rfl ?_
  refine z_icmp_gt (tgt := 131) dX11_anything_93 (by decide) (fun q => ?_) (fun q => ?_)
  · have h := (if_pos q).symm.trans h
    refine z_aload_n dX11_anything_131 rfl 0 rfl ?_
    refine z_iload dX11_anything_132 5 rfl ?_
    obtain ⟨v, τ, hc, h⟩ := bnd_e h
    refine z_callV (M' := m_X11_markedUpTo) (t := 0) (i := 0) (k := 0) (As := [.int (x5)]) (rest := []) kl_11_291 oy_X11_markedUpTo ⟨Nat.le_of_ble_eq_true rfl, Nat.le_of_ble_eq_true rfl⟩ rfl rfl rfl rfl (Nat.le_of_ble_eq_true rfl) rfl dX11_anything_134 (c_X11_markedUpTo hc) (fun v2 τ2 hq => ?_)
    obtain ⟨rfl, hτ⟩ := hq
    subst τ2
    change Z _ _ _ _ _ [.int (v)] _
    refine Z.lv [] rfl ?_
    exact zb_X11_anything_137 h
  · have h := (if_neg q).symm.trans h
    refine z_iconst (v := 1) dX11_anything_96 (by decide) ?_
    refine z_istore (lv' := [(0, .ref (sL S 0 0 0)), (1, .int (x1)), (2, .int (x2)), (3, .int (x3)), (4, .int (x4)), (5, .int (x5)), (6, .int (x6)), (7, .int (1))]) dX11_anything_97 (by decide) [1, 2, 3, 4, 5, 6, 7, 0] rfl ?_
    exact zl_X11_anything_99 hrc90 FU h
def F_X11_anything_90 : Nat → Int32 → Int32 → Int32 → Int32 → Int32 → Int32 → Mm → Option (Int32 × Mm)
  | 0 => fun _ _ _ _ _ _ _ => none
  | n + 1 => B_X11_anything_90 (F_X11_anything_90 n)
theorem zl_X11_anything_90 {S : Shp} : ∀ (nn : Nat) {x1 : Int32} {x2 : Int32} {x3 : Int32} {x4 : Int32} {x5 : Int32} {x6 : Int32} {σ : Mm} {r : Int32 × Mm}, F_X11_anything_90 nn x1 x2 x3 x4 x5 x6 σ = some r → Z m_X11_anything S (Qi r) 90 [(0, .ref (sL S 0 0 0)), (1, .int (x1)), (2, .int (x2)), (3, .int (x3)), (4, .int (x4)), (5, .int (x5)), (6, .int (x6))] [] σ := by
  intro nn
  induction nn with
  | zero => intro x1 x2 x3 x4 x5 x6 σ r h; cases h
  | succ nn ih => intro x1 x2 x3 x4 x5 x6 σ r h; exact zB_X11_anything_90 @ih h
def F_X11_anything_81 (rc66 : Int32 → Int32 → Int32 → Int32 → Int32 → Int32 → Mm → Option (Int32 × Mm)) (x1 : Int32) (x2 : Int32) (x3 : Int32) (x4 : Int32) (x5 : Int32) (x6 : Int32) (σ : Mm) : Option (Int32 × Mm) := (rc66 x1 x2 x3 x4 x5 (x6 + 1) σ)
set_option maxRecDepth 20000 in
theorem zb_X11_anything_81 {S : Shp} {rc66 : Int32 → Int32 → Int32 → Int32 → Int32 → Int32 → Mm → Option (Int32 × Mm)} (hrc66 : ∀ {x1 : Int32} {x2 : Int32} {x3 : Int32} {x4 : Int32} {x5 : Int32} {x6 : Int32} {σ : Mm} {r : Int32 × Mm}, rc66 x1 x2 x3 x4 x5 x6 σ = some r → Z m_X11_anything S (Qi r) 66 [(0, .ref (sL S 0 0 0)), (1, .int (x1)), (2, .int (x2)), (3, .int (x3)), (4, .int (x4)), (5, .int (x5)), (6, .int (x6))] [] σ) {x1 : Int32} {x2 : Int32} {x3 : Int32} {x4 : Int32} {x5 : Int32} {x6 : Int32} {σ : Mm} {r : Int32 × Mm} (h : F_X11_anything_81 rc66 x1 x2 x3 x4 x5 x6 σ = some r) : Z m_X11_anything S (Qi r) 81 [(0, .ref (sL S 0 0 0)), (1, .int (x1)), (2, .int (x2)), (3, .int (x3)), (4, .int (x4)), (5, .int (x5)), (6, .int (x6))] [] σ := by
  unfold F_X11_anything_81 at h
  refine z_iinc (j := 6) (v := x6 + 1) (lv' := [(0, .ref (sL S 0 0 0)), (1, .int (x1)), (2, .int (x2)), (3, .int (x3)), (4, .int (x4)), (5, .int (x5)), (6, .int (x6 + 1))]) dX11_anything_81 rfl rfl (by decide) [1, 2, 3, 4, 5, 6, 0] rfl ?_
  refine z_goto (tgt := 66) dX11_anything_84 (by decide) ?_
  exact hrc66 h
def B_X11_anything_66 (rc66 : Int32 → Int32 → Int32 → Int32 → Int32 → Int32 → Mm → Option (Int32 × Mm)) (x1 : Int32) (x2 : Int32) (x3 : Int32) (x4 : Int32) (x5 : Int32) (x6 : Int32) (σ : Mm) : Option (Int32 × Mm) := (if x5 < x6 then (F_X11_anything_90 FU x1 x2 x3 x4 x5 1 σ) else (if inb x6 2001 = true then (F_X11_anything_81 rc66 x1 x2 x3 x4 x5 x6 (setA σ 0 0 5 (upd (mA σ 0 0 5) x6.toNatClampNeg (vp_nar .boolean 0)))) else none))
set_option maxRecDepth 20000 in
theorem zB_X11_anything_66 {S : Shp} {rc66 : Int32 → Int32 → Int32 → Int32 → Int32 → Int32 → Mm → Option (Int32 × Mm)} (hrc66 : ∀ {x1 : Int32} {x2 : Int32} {x3 : Int32} {x4 : Int32} {x5 : Int32} {x6 : Int32} {σ : Mm} {r : Int32 × Mm}, rc66 x1 x2 x3 x4 x5 x6 σ = some r → Z m_X11_anything S (Qi r) 66 [(0, .ref (sL S 0 0 0)), (1, .int (x1)), (2, .int (x2)), (3, .int (x3)), (4, .int (x4)), (5, .int (x5)), (6, .int (x6))] [] σ) {x1 : Int32} {x2 : Int32} {x3 : Int32} {x4 : Int32} {x5 : Int32} {x6 : Int32} {σ : Mm} {r : Int32 × Mm} (h : B_X11_anything_66 rc66 x1 x2 x3 x4 x5 x6 σ = some r) : Z m_X11_anything S (Qi r) 66 [(0, .ref (sL S 0 0 0)), (1, .int (x1)), (2, .int (x2)), (3, .int (x3)), (4, .int (x4)), (5, .int (x5)), (6, .int (x6))] [] σ := by
  unfold B_X11_anything_66 at h
  refine z_iload dX11_anything_66 6 rfl ?_
  refine z_iload dX11_anything_68 5 rfl ?_
  refine z_icmp_gt (tgt := 87) dX11_anything_70 (by decide) (fun q => ?_) (fun q => ?_)
  · have h := (if_pos q).symm.trans h
    refine z_iconst (v := 1) dX11_anything_87 (by decide) ?_
    refine z_istore (lv' := [(0, .ref (sL S 0 0 0)), (1, .int (x1)), (2, .int (x2)), (3, .int (x3)), (4, .int (x4)), (5, .int (x5)), (6, .int (1))]) dX11_anything_88 (by decide) [1, 2, 3, 4, 5, 6, 0] rfl ?_
    exact zl_X11_anything_90 FU h
  · have h := (if_neg q).symm.trans h
    obtain ⟨g1, h⟩ := gd h
    refine z_aload_n dX11_anything_73 rfl 0 rfl ?_
    refine gf_11_96 rfl dX11_anything_74 ?_
    refine z_iload dX11_anything_77 6 rfl ?_
    refine z_iconst (v := 0) dX11_anything_79 (by decide) ?_
    refine is_0_5 (inb_in g1) dX11_anything_80 ?_
    exact zb_X11_anything_81 hrc66 h
def F_X11_anything_66 : Nat → Int32 → Int32 → Int32 → Int32 → Int32 → Int32 → Mm → Option (Int32 × Mm)
  | 0 => fun _ _ _ _ _ _ _ => none
  | n + 1 => B_X11_anything_66 (F_X11_anything_66 n)
theorem zl_X11_anything_66 {S : Shp} : ∀ (nn : Nat) {x1 : Int32} {x2 : Int32} {x3 : Int32} {x4 : Int32} {x5 : Int32} {x6 : Int32} {σ : Mm} {r : Int32 × Mm}, F_X11_anything_66 nn x1 x2 x3 x4 x5 x6 σ = some r → Z m_X11_anything S (Qi r) 66 [(0, .ref (sL S 0 0 0)), (1, .int (x1)), (2, .int (x2)), (3, .int (x3)), (4, .int (x4)), (5, .int (x5)), (6, .int (x6))] [] σ := by
  intro nn
  induction nn with
  | zero => intro x1 x2 x3 x4 x5 x6 σ r h; cases h
  | succ nn ih => intro x1 x2 x3 x4 x5 x6 σ r h; exact zB_X11_anything_66 @ih h
def F_X11_anything (x1 : Int32) (x2 : Int32) (x3 : Int32) (x4 : Int32) (x5 : Int32) (σ : Mm) : Option (Int32 × Mm) := (if x1 < (1 : Int32) then some ((-1), σ) else (if (100 : Int32) < x1 then some ((-1), σ) else (if x2 < (1 : Int32) then some ((-1), σ) else (if (20 : Int32) < x2 then some ((-1), σ) else (if x3 < (1 : Int32) then some ((-1), σ) else (if x3 ≤ (20 : Int32) then (if x4 < 0 then some ((-1), σ) else (if (9 : Int32) < x4 then some ((-1), σ) else (if x5 < (1 : Int32) then some ((-1), σ) else (if x5 ≤ (2000 : Int32) then (F_X11_anything_66 FU x1 x2 x3 x4 x5 0 σ) else some ((-1), σ))))) else some ((-1), σ)))))))
set_option maxRecDepth 20000 in
theorem zb_X11_anything {S : Shp} {x1 : Int32} {x2 : Int32} {x3 : Int32} {x4 : Int32} {x5 : Int32} {σ : Mm} {r : Int32 × Mm} (h : F_X11_anything x1 x2 x3 x4 x5 σ = some r) : Z m_X11_anything S (Qi r) 0 [(0, .ref (sL S 0 0 0)), (1, .int (x1)), (2, .int (x2)), (3, .int (x3)), (4, .int (x4)), (5, .int (x5))] [] σ := by
  unfold F_X11_anything at h
  refine z_iload_n dX11_anything_0 rfl 1 rfl ?_
  refine z_iconst (v := 1) dX11_anything_1 (by decide) ?_
  refine z_icmp_lt (tgt := 33) dX11_anything_2 (by decide) (fun q => ?_) (fun q => ?_)
  · have h := (if_pos q).symm.trans h
    refine z_iconst (v := (-1)) dX11_anything_33 (by decide) ?_
    cases h
    exact z_ireturn dX11_anything_34 rfl rfl ⟨rfl, rfl⟩
  · have h := (if_neg q).symm.trans h
    refine z_iload_n dX11_anything_5 rfl 1 rfl ?_
    refine z_bipush (v := 100) dX11_anything_6 (by decide) ?_
    refine z_icmp_gt (tgt := 33) dX11_anything_8 (by decide) (fun q => ?_) (fun q => ?_)
    · have h := (if_pos q).symm.trans h
      refine z_iconst (v := (-1)) dX11_anything_33 (by decide) ?_
      cases h
      exact z_ireturn dX11_anything_34 rfl rfl ⟨rfl, rfl⟩
    · have h := (if_neg q).symm.trans h
      refine z_iload_n dX11_anything_11 rfl 2 rfl ?_
      refine z_iconst (v := 1) dX11_anything_12 (by decide) ?_
      refine z_icmp_lt (tgt := 33) dX11_anything_13 (by decide) (fun q => ?_) (fun q => ?_)
      · have h := (if_pos q).symm.trans h
        refine z_iconst (v := (-1)) dX11_anything_33 (by decide) ?_
        cases h
        exact z_ireturn dX11_anything_34 rfl rfl ⟨rfl, rfl⟩
      · have h := (if_neg q).symm.trans h
        refine z_iload_n dX11_anything_16 rfl 2 rfl ?_
        refine z_bipush (v := 20) dX11_anything_17 (by decide) ?_
        refine z_icmp_gt (tgt := 33) dX11_anything_19 (by decide) (fun q => ?_) (fun q => ?_)
        · have h := (if_pos q).symm.trans h
          refine z_iconst (v := (-1)) dX11_anything_33 (by decide) ?_
          cases h
          exact z_ireturn dX11_anything_34 rfl rfl ⟨rfl, rfl⟩
        · have h := (if_neg q).symm.trans h
          refine z_iload_n dX11_anything_22 rfl 3 rfl ?_
          refine z_iconst (v := 1) dX11_anything_23 (by decide) ?_
          refine z_icmp_lt (tgt := 33) dX11_anything_24 (by decide) (fun q => ?_) (fun q => ?_)
          · have h := (if_pos q).symm.trans h
            refine z_iconst (v := (-1)) dX11_anything_33 (by decide) ?_
            cases h
            exact z_ireturn dX11_anything_34 rfl rfl ⟨rfl, rfl⟩
          · have h := (if_neg q).symm.trans h
            refine z_iload_n dX11_anything_27 rfl 3 rfl ?_
            refine z_bipush (v := 20) dX11_anything_28 (by decide) ?_
            refine z_icmp_le (tgt := 35) dX11_anything_30 (by decide) (fun q => ?_) (fun q => ?_)
            · have h := (if_pos q).symm.trans h
              refine z_iload dX11_anything_35 4 rfl ?_
              refine z_if_lt (tgt := 61) dX11_anything_37 (by decide) (fun q => ?_) (fun q => ?_)
              · have h := (if_pos q).symm.trans h
                refine z_iconst (v := (-1)) dX11_anything_61 (by decide) ?_
                cases h
                exact z_ireturn dX11_anything_62 rfl rfl ⟨rfl, rfl⟩
              · have h := (if_neg q).symm.trans h
                refine z_iload dX11_anything_40 4 rfl ?_
                refine z_bipush (v := 9) dX11_anything_42 (by decide) ?_
                refine z_icmp_gt (tgt := 61) dX11_anything_44 (by decide) (fun q => ?_) (fun q => ?_)
                · have h := (if_pos q).symm.trans h
                  refine z_iconst (v := (-1)) dX11_anything_61 (by decide) ?_
                  cases h
                  exact z_ireturn dX11_anything_62 rfl rfl ⟨rfl, rfl⟩
                · have h := (if_neg q).symm.trans h
                  refine z_iload dX11_anything_47 5 rfl ?_
                  refine z_iconst (v := 1) dX11_anything_49 (by decide) ?_
                  refine z_icmp_lt (tgt := 61) dX11_anything_50 (by decide) (fun q => ?_) (fun q => ?_)
                  · have h := (if_pos q).symm.trans h
                    refine z_iconst (v := (-1)) dX11_anything_61 (by decide) ?_
                    cases h
                    exact z_ireturn dX11_anything_62 rfl rfl ⟨rfl, rfl⟩
                  · have h := (if_neg q).symm.trans h
                    refine z_iload dX11_anything_53 5 rfl ?_
                    refine z_sipush (v := 2000) dX11_anything_55 (by decide) ?_
                    refine z_icmp_le (tgt := 63) dX11_anything_58 (by decide) (fun q => ?_) (fun q => ?_)
                    · have h := (if_pos q).symm.trans h
                      refine z_iconst (v := 0) dX11_anything_63 (by decide) ?_
                      refine z_istore (lv' := [(0, .ref (sL S 0 0 0)), (1, .int (x1)), (2, .int (x2)), (3, .int (x3)), (4, .int (x4)), (5, .int (x5)), (6, .int (0))]) dX11_anything_64 (by decide) [1, 2, 3, 4, 5, 6, 0] rfl ?_
                      exact zl_X11_anything_66 FU h
                    · have h := (if_neg q).symm.trans h
                      refine z_iconst (v := (-1)) dX11_anything_61 (by decide) ?_
                      cases h
                      exact z_ireturn dX11_anything_62 rfl rfl ⟨rfl, rfl⟩
            · have h := (if_neg q).symm.trans h
              refine z_iconst (v := (-1)) dX11_anything_33 (by decide) ?_
              cases h
              exact z_ireturn dX11_anything_34 rfl rfl ⟨rfl, rfl⟩
/-- SkyStones.anything(IIIII)I -/
theorem c_X11_anything {S : Shp} {x1 : Int32} {x2 : Int32} {x3 : Int32} {x4 : Int32} {x5 : Int32} {σ : Mm} {r : Int32 × Mm} (h : F_X11_anything x1 x2 x3 x4 x5 σ = some r) : Ct m_X11_anything S [.ref (sL S 0 0 0), .int (x1), .int (x2), .int (x3), .int (x4), .int (x5)] σ (Qi r) := Ct.of (by decide +kernel) (Nat.le_of_ble_eq_true rfl) (zb_X11_anything h)
def F_X11_back_30 (σ : Mm) : Option (Int32 × Mm) := some (mA σ 0 0 6 0, σ)
set_option maxRecDepth 20000 in
theorem zb_X11_back_30 {S : Shp} {σ : Mm} {r : Int32 × Mm} (h : F_X11_back_30 σ = some r) : Z m_X11_back S (Qi r) 30 [(0, .ref (sL S 0 0 0))] [] σ := by
  unfold F_X11_back_30 at h
  refine z_aload_n dX11_back_30 rfl 0 rfl ?_
  refine gf_11_12 rfl dX11_back_31 ?_
  refine gf_11_100 rfl dX11_back_34 ?_
  cases h
  exact z_ireturn dX11_back_37 rfl rfl ⟨rfl, rfl⟩
def F_X11_back (x1 : Int32) (σ : Mm) : Option (Int32 × Mm) := (if x1 < 0 then some ((-1), σ) else (if x1 ≤ (mA σ 0 0 6 0) then (F_X11_back_30 (setA σ 0 0 6 (upd (mA σ 0 0 6) 0 ((mA σ 0 0 6 0) - x1)))) else some ((-1), σ)))
set_option maxRecDepth 20000 in
theorem zb_X11_back {S : Shp} {x1 : Int32} {σ : Mm} {r : Int32 × Mm} (h : F_X11_back x1 σ = some r) : Z m_X11_back S (Qi r) 0 [(0, .ref (sL S 0 0 0)), (1, .int (x1))] [] σ := by
  unfold F_X11_back at h
  refine z_iload_n dX11_back_0 rfl 1 rfl ?_
  refine z_if_lt (tgt := 15) dX11_back_1 (by decide) (fun q => ?_) (fun q => ?_)
  · have h := (if_pos q).symm.trans h
    refine z_iconst (v := (-1)) dX11_back_15 (by decide) ?_
    cases h
    exact z_ireturn dX11_back_16 rfl rfl ⟨rfl, rfl⟩
  · have h := (if_neg q).symm.trans h
    refine z_iload_n dX11_back_4 rfl 1 rfl ?_
    refine z_aload_n dX11_back_5 rfl 0 rfl ?_
    refine gf_11_12 rfl dX11_back_6 ?_
    refine gf_11_100 rfl dX11_back_9 ?_
    refine z_icmp_le (tgt := 17) dX11_back_12 (by decide) (fun q => ?_) (fun q => ?_)
    · have h := (if_pos q).symm.trans h
      refine z_aload_n dX11_back_17 rfl 0 rfl ?_
      refine gf_11_12 rfl dX11_back_18 ?_
      refine z_dup dX11_back_21 rfl ?_
      refine gf_11_100 rfl dX11_back_22 ?_
      refine z_iload_n dX11_back_25 rfl 1 rfl ?_
      refine z_isub dX11_back_26 ?_
      refine pf_11_100 rfl dX11_back_27 ?_
      refine Z.lv [0] rfl ?_
      exact zb_X11_back_30 h
    · have h := (if_neg q).symm.trans h
      refine z_iconst (v := (-1)) dX11_back_15 (by decide) ?_
      cases h
      exact z_ireturn dX11_back_16 rfl rfl ⟨rfl, rfl⟩
/-- SkyStones.back(I)I -/
theorem c_X11_back {S : Shp} {x1 : Int32} {σ : Mm} {r : Int32 × Mm} (h : F_X11_back x1 σ = some r) : Ct m_X11_back S [.ref (sL S 0 0 0), .int (x1)] σ (Qi r) := Ct.of (by decide +kernel) (Nat.le_of_ble_eq_true rfl) (zb_X11_back h)
def f_X11_isDegree (x0 : Int32) : Int32 := (if x0 < 0 then 0 else (if (360 : Int32) ≤ x0 then 0 else 1))
set_option maxRecDepth 20000 in
theorem zb_X11_isDegree {S : Shp} {x0 : Int32} {σ : Mm} {r : Int32} (h : f_X11_isDegree x0 = r) : Z m_X11_isDegree S (Qi (r, σ)) 0 [(0, .int (x0))] [] σ := by
  unfold f_X11_isDegree at h
  refine z_iload_n dX11_isDegree_0 rfl 0 rfl ?_
  refine z_if_lt (tgt := 15) dX11_isDegree_1 (by decide) (fun q => ?_) (fun q => ?_)
  · have h := (if_pos q).symm.trans h
    refine z_iconst (v := 0) dX11_isDegree_15 (by decide) ?_
    subst h
    exact z_ireturn dX11_isDegree_16 rfl rfl ⟨rfl, rfl⟩
  · have h := (if_neg q).symm.trans h
    refine z_iload_n dX11_isDegree_4 rfl 0 rfl ?_
    refine z_sipush (v := 360) dX11_isDegree_5 (by decide) ?_
    refine z_icmp_ge (tgt := 15) dX11_isDegree_8 (by decide) (fun q => ?_) (fun q => ?_)
    · have h := (if_pos q).symm.trans h
      refine z_iconst (v := 0) dX11_isDegree_15 (by decide) ?_
      subst h
      exact z_ireturn dX11_isDegree_16 rfl rfl ⟨rfl, rfl⟩
    · have h := (if_neg q).symm.trans h
      refine z_iconst (v := 1) dX11_isDegree_11 (by decide) ?_
      refine z_goto (tgt := 16) dX11_isDegree_12 (by decide) ?_
      subst h
      exact z_ireturn dX11_isDegree_16 rfl rfl ⟨rfl, rfl⟩
/-- SkyStones.isDegree(I)Z -/
theorem c_X11_isDegree {S : Shp} {x0 : Int32} {σ : Mm} {r : Int32} (h : f_X11_isDegree x0 = r) : Ct m_X11_isDegree S [.int (x0)] σ (Qi (r, σ)) := Ct.of (by decide +kernel) (Nat.le_of_ble_eq_true rfl) (zb_X11_isDegree h)
def F_X11_near_w_30 (rc6 : Int32 → Int32 → Int32 → Int32 → Mm → Option (Int32 × Mm)) (x1 : Int32) (x2 : Int32) (x4 : Int32) (x5 : Int32) (σ : Mm) : Option (Int32 × Mm) := (rc6 x1 x2 x4 (x5 + 1) σ)
set_option maxRecDepth 20000 in
theorem zb_X11_near_w_30 {S : Shp} {rc6 : Int32 → Int32 → Int32 → Int32 → Mm → Option (Int32 × Mm)} (hrc6 : ∀ {x1 : Int32} {x2 : Int32} {x4 : Int32} {x5 : Int32} {σ : Mm} {r : Int32 × Mm}, rc6 x1 x2 x4 x5 σ = some r → Z m_X11_near S (Qi r) 6 [(0, .ref (sL S 0 0 0)), (1, .int (x1)), (2, .int (x2)), (3, .ref (sL S 0 0 3)), (4, .int (x4)), (5, .int (x5))] [] σ) {x1 : Int32} {x2 : Int32} {x4 : Int32} {x5 : Int32} {σ : Mm} {r : Int32 × Mm} (h : F_X11_near_w_30 rc6 x1 x2 x4 x5 σ = some r) : Z m_X11_near S (Qi r) 30 [(0, .ref (sL S 0 0 0)), (1, .int (x1)), (2, .int (x2)), (3, .ref (sL S 0 0 3)), (4, .int (x4)), (5, .int (x5))] [] σ := by
  unfold F_X11_near_w_30 at h
  refine z_iinc (j := 5) (v := x5 + 1) (lv' := [(0, .ref (sL S 0 0 0)), (1, .int (x1)), (2, .int (x2)), (3, .ref (sL S 0 0 3)), (4, .int (x4)), (5, .int (x5 + 1))]) dX11_near_30 rfl rfl (by decide) [1, 2, 3, 4, 5, 0] rfl ?_
  refine z_goto (tgt := 6) dX11_near_33 (by decide) ?_
  exact hrc6 h
def B_X11_near_w_6 (rc6 : Int32 → Int32 → Int32 → Int32 → Mm → Option (Int32 × Mm)) (x1 : Int32) (x2 : Int32) (x4 : Int32) (x5 : Int32) (σ : Mm) : Option (Int32 × Mm) := (if (mA σ 0 0 0 12) ≤ x5 then some (x4, σ) else (if inb x5 6 = true then (if x2 < (f_X1_apart (mA σ 0 0 3 x5.toNatClampNeg) x1) then (F_X11_near_w_30 rc6 x1 x2 x4 x5 σ) else (F_X11_near_w_30 rc6 x1 x2 (x4 + 1) x5 σ)) else none))
set_option maxRecDepth 20000 in
theorem zB_X11_near_w_6 {S : Shp} {rc6 : Int32 → Int32 → Int32 → Int32 → Mm → Option (Int32 × Mm)} (hrc6 : ∀ {x1 : Int32} {x2 : Int32} {x4 : Int32} {x5 : Int32} {σ : Mm} {r : Int32 × Mm}, rc6 x1 x2 x4 x5 σ = some r → Z m_X11_near S (Qi r) 6 [(0, .ref (sL S 0 0 0)), (1, .int (x1)), (2, .int (x2)), (3, .ref (sL S 0 0 3)), (4, .int (x4)), (5, .int (x5))] [] σ) {x1 : Int32} {x2 : Int32} {x4 : Int32} {x5 : Int32} {σ : Mm} {r : Int32 × Mm} (h : B_X11_near_w_6 rc6 x1 x2 x4 x5 σ = some r) : Z m_X11_near S (Qi r) 6 [(0, .ref (sL S 0 0 0)), (1, .int (x1)), (2, .int (x2)), (3, .ref (sL S 0 0 3)), (4, .int (x4)), (5, .int (x5))] [] σ := by
  unfold B_X11_near_w_6 at h
  refine z_iload dX11_near_6 5 rfl ?_
  refine z_aload_n dX11_near_8 rfl 0 rfl ?_
  refine gf_11_85 rfl dX11_near_9 ?_
  refine z_icmp_ge (tgt := 36) dX11_near_12 (by decide) (fun q => ?_) (fun q => ?_)
  · have h := (if_pos q).symm.trans h
    refine z_iload dX11_near_36 4 rfl ?_
    cases h
    exact z_ireturn dX11_near_38 rfl rfl ⟨rfl, rfl⟩
  · have h := (if_neg q).symm.trans h
    obtain ⟨g1, h⟩ := gd h
    refine z_aload_n dX11_near_15 rfl 3 rfl ?_
    refine z_iload dX11_near_16 5 rfl ?_
    refine ia_0_3 (inb_in g1) dX11_near_18 ?_
    refine z_iload_n dX11_near_19 rfl 1 rfl ?_
    refine z_callS (M' := m_X1_apart) (As := [.int (mA σ 0 0 3 x5.toNatClampNeg), .int (x1)]) (rest := []) kl_11_370 oy_X1_apart ⟨Nat.le_of_ble_eq_true rfl, Nat.le_of_ble_eq_true rfl⟩ rfl (Nat.le_of_ble_eq_true rfl) rfl dX11_near_20 (c_X1_apart rfl) (fun v τ hq => ?_)
    obtain ⟨rfl, hτ⟩ := hq
    subst τ
    change Z _ _ _ _ _ [.int (f_X1_apart (mA σ 0 0 3 x5.toNatClampNeg) x1)] _
    refine z_iload_n dX11_near_23 rfl 2 rfl ?_
    refine z_icmp_gt (tgt := 30) dX11_near_24 (by decide) (fun q => ?_) (fun q => ?_)
    · have h := (if_pos q).symm.trans h
      exact zb_X11_near_w_30 hrc6 h
    · have h := (if_neg q).symm.trans h
      refine z_iinc (j := 4) (v := x4 + 1) (lv' := [(0, .ref (sL S 0 0 0)), (1, .int (x1)), (2, .int (x2)), (3, .ref (sL S 0 0 3)), (4, .int (x4 + 1)), (5, .int (x5))]) dX11_near_27 rfl rfl (by decide) [1, 2, 3, 4, 0, 5] rfl ?_
      exact zb_X11_near_w_30 hrc6 h
def F_X11_near_w_6 : Nat → Int32 → Int32 → Int32 → Int32 → Mm → Option (Int32 × Mm)
  | 0 => fun _ _ _ _ _ => none
  | n + 1 => B_X11_near_w_6 (F_X11_near_w_6 n)
theorem zl_X11_near_w_6 {S : Shp} : ∀ (nn : Nat) {x1 : Int32} {x2 : Int32} {x4 : Int32} {x5 : Int32} {σ : Mm} {r : Int32 × Mm}, F_X11_near_w_6 nn x1 x2 x4 x5 σ = some r → Z m_X11_near S (Qi r) 6 [(0, .ref (sL S 0 0 0)), (1, .int (x1)), (2, .int (x2)), (3, .ref (sL S 0 0 3)), (4, .int (x4)), (5, .int (x5))] [] σ := by
  intro nn
  induction nn with
  | zero => intro x1 x2 x4 x5 σ r h; cases h
  | succ nn ih => intro x1 x2 x4 x5 σ r h; exact zB_X11_near_w_6 @ih h
def F_X11_near_w (x1 : Int32) (x2 : Int32) (σ : Mm) : Option (Int32 × Mm) := (F_X11_near_w_6 FU x1 x2 0 0 σ)
set_option maxRecDepth 20000 in
theorem zb_X11_near_w {S : Shp} {x1 : Int32} {x2 : Int32} {σ : Mm} {r : Int32 × Mm} (h : F_X11_near_w x1 x2 σ = some r) : Z m_X11_near S (Qi r) 0 [(0, .ref (sL S 0 0 0)), (1, .int (x1)), (2, .int (x2)), (3, .ref (sL S 0 0 3))] [] σ := by
  unfold F_X11_near_w at h
  refine z_iconst (v := 0) dX11_near_0 (by decide) ?_
  refine z_istore (lv' := [(0, .ref (sL S 0 0 0)), (1, .int (x1)), (2, .int (x2)), (3, .ref (sL S 0 0 3)), (4, .int (0))]) dX11_near_1 (by decide) [1, 2, 3, 4, 0] rfl ?_
  refine z_iconst (v := 0) dX11_near_3 (by decide) ?_
  refine z_istore (lv' := [(0, .ref (sL S 0 0 0)), (1, .int (x1)), (2, .int (x2)), (3, .ref (sL S 0 0 3)), (4, .int (0)), (5, .int (0))]) dX11_near_4 (by decide) [1, 2, 3, 4, 5, 0] rfl ?_
  exact zl_X11_near_w_6 FU h
/-- SkyStones.near(II[I)I -/
theorem c_X11_near_w {S : Shp} {x1 : Int32} {x2 : Int32} {σ : Mm} {r : Int32 × Mm} (h : F_X11_near_w x1 x2 σ = some r) : Ct m_X11_near S [.ref (sL S 0 0 0), .int (x1), .int (x2), .ref (sL S 0 0 3)] σ (Qi r) := Ct.of (by decide +kernel) (Nat.le_of_ble_eq_true rfl) (zb_X11_near_w h)
def F_X11_near_l_30 (rc6 : Int32 → Int32 → Int32 → Int32 → Mm → Option (Int32 × Mm)) (x1 : Int32) (x2 : Int32) (x4 : Int32) (x5 : Int32) (σ : Mm) : Option (Int32 × Mm) := (rc6 x1 x2 x4 (x5 + 1) σ)
set_option maxRecDepth 20000 in
theorem zb_X11_near_l_30 {S : Shp} {rc6 : Int32 → Int32 → Int32 → Int32 → Mm → Option (Int32 × Mm)} (hrc6 : ∀ {x1 : Int32} {x2 : Int32} {x4 : Int32} {x5 : Int32} {σ : Mm} {r : Int32 × Mm}, rc6 x1 x2 x4 x5 σ = some r → Z m_X11_near S (Qi r) 6 [(0, .ref (sL S 0 0 0)), (1, .int (x1)), (2, .int (x2)), (3, .ref (sL S 0 0 4)), (4, .int (x4)), (5, .int (x5))] [] σ) {x1 : Int32} {x2 : Int32} {x4 : Int32} {x5 : Int32} {σ : Mm} {r : Int32 × Mm} (h : F_X11_near_l_30 rc6 x1 x2 x4 x5 σ = some r) : Z m_X11_near S (Qi r) 30 [(0, .ref (sL S 0 0 0)), (1, .int (x1)), (2, .int (x2)), (3, .ref (sL S 0 0 4)), (4, .int (x4)), (5, .int (x5))] [] σ := by
  unfold F_X11_near_l_30 at h
  refine z_iinc (j := 5) (v := x5 + 1) (lv' := [(0, .ref (sL S 0 0 0)), (1, .int (x1)), (2, .int (x2)), (3, .ref (sL S 0 0 4)), (4, .int (x4)), (5, .int (x5 + 1))]) dX11_near_30 rfl rfl (by decide) [1, 2, 3, 4, 5, 0] rfl ?_
  refine z_goto (tgt := 6) dX11_near_33 (by decide) ?_
  exact hrc6 h
def B_X11_near_l_6 (rc6 : Int32 → Int32 → Int32 → Int32 → Mm → Option (Int32 × Mm)) (x1 : Int32) (x2 : Int32) (x4 : Int32) (x5 : Int32) (σ : Mm) : Option (Int32 × Mm) := (if (mA σ 0 0 0 12) ≤ x5 then some (x4, σ) else (if inb x5 6 = true then (if x2 < (f_X1_apart (mA σ 0 0 4 x5.toNatClampNeg) x1) then (F_X11_near_l_30 rc6 x1 x2 x4 x5 σ) else (F_X11_near_l_30 rc6 x1 x2 (x4 + 1) x5 σ)) else none))
set_option maxRecDepth 20000 in
theorem zB_X11_near_l_6 {S : Shp} {rc6 : Int32 → Int32 → Int32 → Int32 → Mm → Option (Int32 × Mm)} (hrc6 : ∀ {x1 : Int32} {x2 : Int32} {x4 : Int32} {x5 : Int32} {σ : Mm} {r : Int32 × Mm}, rc6 x1 x2 x4 x5 σ = some r → Z m_X11_near S (Qi r) 6 [(0, .ref (sL S 0 0 0)), (1, .int (x1)), (2, .int (x2)), (3, .ref (sL S 0 0 4)), (4, .int (x4)), (5, .int (x5))] [] σ) {x1 : Int32} {x2 : Int32} {x4 : Int32} {x5 : Int32} {σ : Mm} {r : Int32 × Mm} (h : B_X11_near_l_6 rc6 x1 x2 x4 x5 σ = some r) : Z m_X11_near S (Qi r) 6 [(0, .ref (sL S 0 0 0)), (1, .int (x1)), (2, .int (x2)), (3, .ref (sL S 0 0 4)), (4, .int (x4)), (5, .int (x5))] [] σ := by
  unfold B_X11_near_l_6 at h
  refine z_iload dX11_near_6 5 rfl ?_
  refine z_aload_n dX11_near_8 rfl 0 rfl ?_
  refine gf_11_85 rfl dX11_near_9 ?_
  refine z_icmp_ge (tgt := 36) dX11_near_12 (by decide) (fun q => ?_) (fun q => ?_)
  · have h := (if_pos q).symm.trans h
    refine z_iload dX11_near_36 4 rfl ?_
    cases h
    exact z_ireturn dX11_near_38 rfl rfl ⟨rfl, rfl⟩
  · have h := (if_neg q).symm.trans h
    obtain ⟨g1, h⟩ := gd h
    refine z_aload_n dX11_near_15 rfl 3 rfl ?_
    refine z_iload dX11_near_16 5 rfl ?_
    refine ia_0_4 (inb_in g1) dX11_near_18 ?_
    refine z_iload_n dX11_near_19 rfl 1 rfl ?_
    refine z_callS (M' := m_X1_apart) (As := [.int (mA σ 0 0 4 x5.toNatClampNeg), .int (x1)]) (rest := []) kl_11_370 oy_X1_apart ⟨Nat.le_of_ble_eq_true rfl, Nat.le_of_ble_eq_true rfl⟩ rfl (Nat.le_of_ble_eq_true rfl) rfl dX11_near_20 (c_X1_apart rfl) (fun v τ hq => ?_)
    obtain ⟨rfl, hτ⟩ := hq
    subst τ
    change Z _ _ _ _ _ [.int (f_X1_apart (mA σ 0 0 4 x5.toNatClampNeg) x1)] _
    refine z_iload_n dX11_near_23 rfl 2 rfl ?_
    refine z_icmp_gt (tgt := 30) dX11_near_24 (by decide) (fun q => ?_) (fun q => ?_)
    · have h := (if_pos q).symm.trans h
      exact zb_X11_near_l_30 hrc6 h
    · have h := (if_neg q).symm.trans h
      refine z_iinc (j := 4) (v := x4 + 1) (lv' := [(0, .ref (sL S 0 0 0)), (1, .int (x1)), (2, .int (x2)), (3, .ref (sL S 0 0 4)), (4, .int (x4 + 1)), (5, .int (x5))]) dX11_near_27 rfl rfl (by decide) [1, 2, 3, 4, 0, 5] rfl ?_
      exact zb_X11_near_l_30 hrc6 h
def F_X11_near_l_6 : Nat → Int32 → Int32 → Int32 → Int32 → Mm → Option (Int32 × Mm)
  | 0 => fun _ _ _ _ _ => none
  | n + 1 => B_X11_near_l_6 (F_X11_near_l_6 n)
theorem zl_X11_near_l_6 {S : Shp} : ∀ (nn : Nat) {x1 : Int32} {x2 : Int32} {x4 : Int32} {x5 : Int32} {σ : Mm} {r : Int32 × Mm}, F_X11_near_l_6 nn x1 x2 x4 x5 σ = some r → Z m_X11_near S (Qi r) 6 [(0, .ref (sL S 0 0 0)), (1, .int (x1)), (2, .int (x2)), (3, .ref (sL S 0 0 4)), (4, .int (x4)), (5, .int (x5))] [] σ := by
  intro nn
  induction nn with
  | zero => intro x1 x2 x4 x5 σ r h; cases h
  | succ nn ih => intro x1 x2 x4 x5 σ r h; exact zB_X11_near_l_6 @ih h
def F_X11_near_l (x1 : Int32) (x2 : Int32) (σ : Mm) : Option (Int32 × Mm) := (F_X11_near_l_6 FU x1 x2 0 0 σ)
set_option maxRecDepth 20000 in
theorem zb_X11_near_l {S : Shp} {x1 : Int32} {x2 : Int32} {σ : Mm} {r : Int32 × Mm} (h : F_X11_near_l x1 x2 σ = some r) : Z m_X11_near S (Qi r) 0 [(0, .ref (sL S 0 0 0)), (1, .int (x1)), (2, .int (x2)), (3, .ref (sL S 0 0 4))] [] σ := by
  unfold F_X11_near_l at h
  refine z_iconst (v := 0) dX11_near_0 (by decide) ?_
  refine z_istore (lv' := [(0, .ref (sL S 0 0 0)), (1, .int (x1)), (2, .int (x2)), (3, .ref (sL S 0 0 4)), (4, .int (0))]) dX11_near_1 (by decide) [1, 2, 3, 4, 0] rfl ?_
  refine z_iconst (v := 0) dX11_near_3 (by decide) ?_
  refine z_istore (lv' := [(0, .ref (sL S 0 0 0)), (1, .int (x1)), (2, .int (x2)), (3, .ref (sL S 0 0 4)), (4, .int (0)), (5, .int (0))]) dX11_near_4 (by decide) [1, 2, 3, 4, 5, 0] rfl ?_
  exact zl_X11_near_l_6 FU h
/-- SkyStones.near(II[I)I -/
theorem c_X11_near_l {S : Shp} {x1 : Int32} {x2 : Int32} {σ : Mm} {r : Int32 × Mm} (h : F_X11_near_l x1 x2 σ = some r) : Ct m_X11_near S [.ref (sL S 0 0 0), .int (x1), .int (x2), .ref (sL S 0 0 4)] σ (Qi r) := Ct.of (by decide +kernel) (Nat.le_of_ble_eq_true rfl) (zb_X11_near_l h)
def B_X11_power_5 (rc5 : Int32 → Int32 → Int64 → Int32 → Mm → Option (Int64 × Mm)) (x0 : Int32) (x1 : Int32) (x2 : Int64) (x4 : Int32) (σ : Mm) : Option (Int64 × Mm) := (if x1 ≤ x4 then some (x2, σ) else (rc5 x0 x1 (x2 * (Int32.toInt64 x0)) (x4 + 1) σ))
set_option maxRecDepth 20000 in
theorem zB_X11_power_5 {S : Shp} {rc5 : Int32 → Int32 → Int64 → Int32 → Mm → Option (Int64 × Mm)} (hrc5 : ∀ {x0 : Int32} {x1 : Int32} {x2 : Int64} {x4 : Int32} {σ : Mm} {r : Int64 × Mm}, rc5 x0 x1 x2 x4 σ = some r → Z m_X11_power S (Ql r) 5 [(0, .int (x0)), (1, .int (x1)), (2, .long (x2)), (4, .int (x4))] [] σ) {x0 : Int32} {x1 : Int32} {x2 : Int64} {x4 : Int32} {σ : Mm} {r : Int64 × Mm} (h : B_X11_power_5 rc5 x0 x1 x2 x4 σ = some r) : Z m_X11_power S (Ql r) 5 [(0, .int (x0)), (1, .int (x1)), (2, .long (x2)), (4, .int (x4))] [] σ := by
  unfold B_X11_power_5 at h
  refine z_iload dX11_power_5 3 rfl ?_
  refine z_iload_n dX11_power_7 rfl 1 rfl ?_
  refine z_icmp_ge (tgt := 22) dX11_power_8 (by decide) (fun q => ?_) (fun q => ?_)
  · have h := (if_pos q).symm.trans h
    refine z_lload_n dX11_power_22 rfl 2 rfl ?_
    cases h
    exact z_lreturn dX11_power_23 rfl ⟨rfl, rfl⟩
  · have h := (if_neg q).symm.trans h
    refine z_lload_n dX11_power_11 rfl 2 rfl ?_
    refine z_iload_n dX11_power_12 rfl 0 rfl ?_
    refine z_i2l dX11_power_13 ?_
    refine z_lmul dX11_power_14 ?_
    refine z_lstore_n (lv' := [(0, .int (x0)), (1, .int (x1)), (2, .long (x2 * (Int32.toInt64 x0))), (4, .int (x4))]) dX11_power_15 rfl (by decide) [1, 2, 0, 3] rfl ?_
    refine z_iinc (j := 3) (v := x4 + 1) (lv' := [(0, .int (x0)), (1, .int (x1)), (2, .long (x2 * (Int32.toInt64 x0))), (4, .int (x4 + 1))]) dX11_power_16 rfl rfl (by decide) [1, 2, 3, 0] rfl ?_
    refine z_goto (tgt := 5) dX11_power_19 (by decide) ?_
    exact hrc5 h
def F_X11_power_5 : Nat → Int32 → Int32 → Int64 → Int32 → Mm → Option (Int64 × Mm)
  | 0 => fun _ _ _ _ _ => none
  | n + 1 => B_X11_power_5 (F_X11_power_5 n)
theorem zl_X11_power_5 {S : Shp} : ∀ (nn : Nat) {x0 : Int32} {x1 : Int32} {x2 : Int64} {x4 : Int32} {σ : Mm} {r : Int64 × Mm}, F_X11_power_5 nn x0 x1 x2 x4 σ = some r → Z m_X11_power S (Ql r) 5 [(0, .int (x0)), (1, .int (x1)), (2, .long (x2)), (4, .int (x4))] [] σ := by
  intro nn
  induction nn with
  | zero => intro x0 x1 x2 x4 σ r h; cases h
  | succ nn ih => intro x0 x1 x2 x4 σ r h; exact zB_X11_power_5 @ih h
def F_X11_power (x0 : Int32) (x1 : Int32) (σ : Mm) : Option (Int64 × Mm) := (F_X11_power_5 FU x0 x1 1 0 σ)
set_option maxRecDepth 20000 in
theorem zb_X11_power {S : Shp} {x0 : Int32} {x1 : Int32} {σ : Mm} {r : Int64 × Mm} (h : F_X11_power x0 x1 σ = some r) : Z m_X11_power S (Ql r) 0 [(0, .int (x0)), (1, .int (x1))] [] σ := by
  unfold F_X11_power at h
  refine z_lconst (v := 1) dX11_power_0 (by decide) ?_
  refine z_lstore_n (lv' := [(0, .int (x0)), (1, .int (x1)), (2, .long (1))]) dX11_power_1 rfl (by decide) [1, 2, 0] rfl ?_
  refine z_iconst (v := 0) dX11_power_2 (by decide) ?_
  refine z_istore (lv' := [(0, .int (x0)), (1, .int (x1)), (2, .long (1)), (4, .int (0))]) dX11_power_3 (by decide) [1, 2, 3, 0] rfl ?_
  exact zl_X11_power_5 FU h
/-- SkyStones.power(II)J -/
theorem c_X11_power {S : Shp} {x0 : Int32} {x1 : Int32} {σ : Mm} {r : Int64 × Mm} (h : F_X11_power x0 x1 σ = some r) : Ct m_X11_power S [.int (x0), .int (x1)] σ (Ql r) := Ct.of (by decide +kernel) (Nat.le_of_ble_eq_true rfl) (zb_X11_power h)
def F_X11_ways_60 (rc9 : Int32 → Int32 → Int32 → Int32 → Int64 → Int64 → Int32 → Mm → Option (Int64 × Mm)) (x0 : Int32) (x1 : Int32) (x2 : Int32) (x3 : Int32) (x4 : Int64) (x6 : Int64) (x8 : Int32) (σ : Mm) : Option (Int64 × Mm) := (rc9 x0 x1 x2 x3 x4 x6 (x8 + 1) σ)
set_option maxRecDepth 20000 in
theorem zb_X11_ways_60 {S : Shp} {rc9 : Int32 → Int32 → Int32 → Int32 → Int64 → Int64 → Int32 → Mm → Option (Int64 × Mm)} (hrc9 : ∀ {x0 : Int32} {x1 : Int32} {x2 : Int32} {x3 : Int32} {x4 : Int64} {x6 : Int64} {x8 : Int32} {σ : Mm} {r : Int64 × Mm}, rc9 x0 x1 x2 x3 x4 x6 x8 σ = some r → Z m_X11_ways S (Ql r) 9 [(0, .int (x0)), (1, .int (x1)), (2, .int (x2)), (3, .int (x3)), (4, .long (x4)), (6, .long (x6)), (8, .int (x8))] [] σ) {x0 : Int32} {x1 : Int32} {x2 : Int32} {x3 : Int32} {x4 : Int64} {x6 : Int64} {x8 : Int32} {σ : Mm} {r : Int64 × Mm} (h : F_X11_ways_60 rc9 x0 x1 x2 x3 x4 x6 x8 σ = some r) : Z m_X11_ways S (Ql r) 60 [(0, .int (x0)), (1, .int (x1)), (2, .int (x2)), (3, .int (x3)), (4, .long (x4)), (6, .long (x6)), (8, .int (x8))] [] σ := by
  unfold F_X11_ways_60 at h
  refine z_iinc (j := 6) (v := x8 + 1) (lv' := [(0, .int (x0)), (1, .int (x1)), (2, .int (x2)), (3, .int (x3)), (4, .long (x4)), (6, .long (x6)), (8, .int (x8 + 1))]) dX11_ways_60 rfl rfl (by decide) [1, 2, 3, 4, 5, 6, 0] rfl ?_
  refine z_goto (tgt := 9) dX11_ways_63 (by decide) ?_
  exact hrc9 h
def F_X11_ways_44 (rc9 : Int32 → Int32 → Int32 → Int32 → Int64 → Int64 → Int32 → Mm → Option (Int64 × Mm)) (x0 : Int32) (x1 : Int32) (x2 : Int32) (x3 : Int32) (x4 : Int64) (x6 : Int64) (x8 : Int32) (σ : Mm) : Option (Int64 × Mm) := (if ¬ (Int32.toInt64 (x8 + (1 : Int32))) = 0 then (F_X11_ways_60 rc9 x0 x1 x2 x3 x4 ((x6 * (Int32.toInt64 (x0 - x8))) / (Int32.toInt64 (x8 + (1 : Int32)))) x8 σ) else none)
set_option maxRecDepth 20000 in
theorem zb_X11_ways_44 {S : Shp} {rc9 : Int32 → Int32 → Int32 → Int32 → Int64 → Int64 → Int32 → Mm → Option (Int64 × Mm)} (hrc9 : ∀ {x0 : Int32} {x1 : Int32} {x2 : Int32} {x3 : Int32} {x4 : Int64} {x6 : Int64} {x8 : Int32} {σ : Mm} {r : Int64 × Mm}, rc9 x0 x1 x2 x3 x4 x6 x8 σ = some r → Z m_X11_ways S (Ql r) 9 [(0, .int (x0)), (1, .int (x1)), (2, .int (x2)), (3, .int (x3)), (4, .long (x4)), (6, .long (x6)), (8, .int (x8))] [] σ) {x0 : Int32} {x1 : Int32} {x2 : Int32} {x3 : Int32} {x4 : Int64} {x6 : Int64} {x8 : Int32} {σ : Mm} {r : Int64 × Mm} (h : F_X11_ways_44 rc9 x0 x1 x2 x3 x4 x6 x8 σ = some r) : Z m_X11_ways S (Ql r) 44 [(0, .int (x0)), (1, .int (x1)), (2, .int (x2)), (3, .int (x3)), (4, .long (x4)), (6, .long (x6)), (8, .int (x8))] [] σ := by
  unfold F_X11_ways_44 at h
  obtain ⟨g1, h⟩ := gd h
  refine z_lload dX11_ways_44 5 rfl ?_
  refine z_iload_n dX11_ways_46 rfl 0 rfl ?_
  refine z_iload dX11_ways_47 6 rfl ?_
  refine z_isub dX11_ways_49 ?_
  refine z_i2l dX11_ways_50 ?_
  refine z_lmul dX11_ways_51 ?_
  refine z_iload dX11_ways_52 6 rfl ?_
  refine z_iconst (v := 1) dX11_ways_54 (by decide) ?_
  refine z_iadd dX11_ways_55 ?_
  refine z_i2l dX11_ways_56 ?_
  refine z_ldiv dX11_ways_57 g1 ?_
  refine z_lstore (lv' := [(0, .int (x0)), (1, .int (x1)), (2, .int (x2)), (3, .int (x3)), (4, .long (x4)), (6, .long ((x6 * (Int32.toInt64 (x0 - x8))) / (Int32.toInt64 (x8 + (1 : Int32))))), (8, .int (x8))]) dX11_ways_58 (by decide) [1, 2, 3, 4, 5, 0, 6] rfl ?_
  exact zb_X11_ways_60 hrc9 h
def F_X11_ways_40 (rc9 : Int32 → Int32 → Int32 → Int32 → Int64 → Int64 → Int32 → Mm → Option (Int64 × Mm)) (x0 : Int32) (x1 : Int32) (x2 : Int32) (x3 : Int32) (x6 : Int64) (x8 : Int32) (s0 : Int64) (s1 : Int64) (s2 : Int64) (σ : Mm) : Option (Int64 × Mm) := (F_X11_ways_44 rc9 x0 x1 x2 x3 (s2 + (s1 * s0)) x6 x8 σ)
set_option maxRecDepth 20000 in
theorem zb_X11_ways_40 {S : Shp} {rc9 : Int32 → Int32 → Int32 → Int32 → Int64 → Int64 → Int32 → Mm → Option (Int64 × Mm)} (hrc9 : ∀ {x0 : Int32} {x1 : Int32} {x2 : Int32} {x3 : Int32} {x4 : Int64} {x6 : Int64} {x8 : Int32} {σ : Mm} {r : Int64 × Mm}, rc9 x0 x1 x2 x3 x4 x6 x8 σ = some r → Z m_X11_ways S (Ql r) 9 [(0, .int (x0)), (1, .int (x1)), (2, .int (x2)), (3, .int (x3)), (4, .long (x4)), (6, .long (x6)), (8, .int (x8))] [] σ) {x0 : Int32} {x1 : Int32} {x2 : Int32} {x3 : Int32} {x6 : Int64} {x8 : Int32} {s0 : Int64} {s1 : Int64} {s2 : Int64} {σ : Mm} {r : Int64 × Mm} (h : F_X11_ways_40 rc9 x0 x1 x2 x3 x6 x8 s0 s1 s2 σ = some r) : Z m_X11_ways S (Ql r) 40 [(0, .int (x0)), (1, .int (x1)), (2, .int (x2)), (3, .int (x3)), (6, .long (x6)), (8, .int (x8))] [.long (s0), .long (s1), .long (s2)] σ := by
  unfold F_X11_ways_40 at h
  refine z_lmul dX11_ways_40 ?_
  refine z_ladd dX11_ways_41 ?_
  refine z_lstore (lv' := [(0, .int (x0)), (1, .int (x1)), (2, .int (x2)), (3, .int (x3)), (4, .long (s2 + (s1 * s0))), (6, .long (x6)), (8, .int (x8))]) dX11_ways_42 (by decide) [1, 2, 3, 4, 0, 5, 6] rfl ?_
  exact zb_X11_ways_44 hrc9 h
def F_X11_ways_31 (rc9 : Int32 → Int32 → Int32 → Int32 → Int64 → Int64 → Int32 → Mm → Option (Int64 × Mm)) (x0 : Int32) (x1 : Int32) (x2 : Int32) (x3 : Int32) (x6 : Int64) (x8 : Int32) (s0 : Int64) (s1 : Int64) (s2 : Int64) (σ : Mm) : Option (Int64 × Mm) := (bnl (F_X11_power x3 (x0 - x8) σ) (fun v τ => (F_X11_ways_40 rc9 x0 x1 x2 x3 x6 x8 v (s1 * s0) s2 τ)))
set_option maxRecDepth 20000 in
theorem zb_X11_ways_31 {S : Shp} {rc9 : Int32 → Int32 → Int32 → Int32 → Int64 → Int64 → Int32 → Mm → Option (Int64 × Mm)} (hrc9 : ∀ {x0 : Int32} {x1 : Int32} {x2 : Int32} {x3 : Int32} {x4 : Int64} {x6 : Int64} {x8 : Int32} {σ : Mm} {r : Int64 × Mm}, rc9 x0 x1 x2 x3 x4 x6 x8 σ = some r → Z m_X11_ways S (Ql r) 9 [(0, .int (x0)), (1, .int (x1)), (2, .int (x2)), (3, .int (x3)), (4, .long (x4)), (6, .long (x6)), (8, .int (x8))] [] σ) {x0 : Int32} {x1 : Int32} {x2 : Int32} {x3 : Int32} {x6 : Int64} {x8 : Int32} {s0 : Int64} {s1 : Int64} {s2 : Int64} {σ : Mm} {r : Int64 × Mm} (h : F_X11_ways_31 rc9 x0 x1 x2 x3 x6 x8 s0 s1 s2 σ = some r) : Z m_X11_ways S (Ql r) 31 [(0, .int (x0)), (1, .int (x1)), (2, .int (x2)), (3, .int (x3)), (6, .long (x6)), (8, .int (x8))] [.long (s0), .long (s1), .long (s2)] σ := by
  unfold F_X11_ways_31 at h
  refine z_lmul dX11_ways_31 ?_
  refine z_iload_n dX11_ways_32 rfl 3 rfl ?_
  refine z_iload_n dX11_ways_33 rfl 0 rfl ?_
  refine z_iload dX11_ways_34 5 rfl ?_
  refine z_isub dX11_ways_36 ?_
  obtain ⟨v, τ, hc, h⟩ := bnl_e h
  refine z_callS (M' := m_X11_power) (As := [.int (x3), .int (x0 - x8)]) (rest := [.long (s1 * s0), .long (s2)]) kl_11_379 oy_X11_power ⟨Nat.le_of_ble_eq_true rfl, Nat.le_of_ble_eq_true rfl⟩ rfl (Nat.le_of_ble_eq_true rfl) rfl dX11_ways_37 (c_X11_power hc) (fun v2 τ2 hq => ?_)
  obtain ⟨rfl, hτ⟩ := hq
  subst τ2
  change Z _ _ _ _ _ [.long (v), .long (s1 * s0), .long (s2)] _
  exact zb_X11_ways_40 hrc9 h
def B_X11_ways_9 (rc9 : Int32 → Int32 → Int32 → Int32 → Int64 → Int64 → Int32 → Mm → Option (Int64 × Mm)) (x0 : Int32) (x1 : Int32) (x2 : Int32) (x3 : Int32) (x4 : Int64) (x6 : Int64) (x8 : Int32) (σ : Mm) : Option (Int64 × Mm) := (if x0 < x8 then some (x4, σ) else (if x8 < x1 then (F_X11_ways_44 rc9 x0 x1 x2 x3 x4 x6 x8 σ) else (bnl (F_X11_power x2 x8 σ) (fun v τ => (F_X11_ways_31 rc9 x0 x1 x2 x3 x6 x8 v x6 x4 τ)))))
set_option maxRecDepth 20000 in
theorem zB_X11_ways_9 {S : Shp} {rc9 : Int32 → Int32 → Int32 → Int32 → Int64 → Int64 → Int32 → Mm → Option (Int64 × Mm)} (hrc9 : ∀ {x0 : Int32} {x1 : Int32} {x2 : Int32} {x3 : Int32} {x4 : Int64} {x6 : Int64} {x8 : Int32} {σ : Mm} {r : Int64 × Mm}, rc9 x0 x1 x2 x3 x4 x6 x8 σ = some r → Z m_X11_ways S (Ql r) 9 [(0, .int (x0)), (1, .int (x1)), (2, .int (x2)), (3, .int (x3)), (4, .long (x4)), (6, .long (x6)), (8, .int (x8))] [] σ) {x0 : Int32} {x1 : Int32} {x2 : Int32} {x3 : Int32} {x4 : Int64} {x6 : Int64} {x8 : Int32} {σ : Mm} {r : Int64 × Mm} (h : B_X11_ways_9 rc9 x0 x1 x2 x3 x4 x6 x8 σ = some r) : Z m_X11_ways S (Ql r) 9 [(0, .int (x0)), (1, .int (x1)), (2, .int (x2)), (3, .int (x3)), (4, .long (x4)), (6, .long (x6)), (8, .int (x8))] [] σ := by
  unfold B_X11_ways_9 at h
  refine z_iload dX11_ways_9 6 rfl ?_
  refine z_iload_n dX11_ways_11 rfl 0 rfl ?_
  refine z_icmp_gt (tgt := 66) dX11_ways_12 (by decide) (fun q => ?_) (fun q => ?_)
  · have h := (if_pos q).symm.trans h
    refine z_lload dX11_ways_66 4 rfl ?_
    cases h
    exact z_lreturn dX11_ways_68 rfl ⟨rfl, rfl⟩
  · have h := (if_neg q).symm.trans h
    refine z_iload dX11_ways_15 6 rfl ?_
    refine z_iload_n dX11_ways_17 rfl 1 rfl ?_
    refine z_icmp_lt (tgt := 44) dX11_ways_18 (by decide) (fun q => ?_) (fun q => ?_)
    · have h := (if_pos q).symm.trans h
      exact zb_X11_ways_44 hrc9 h
    · have h := (if_neg q).symm.trans h
      refine z_lload dX11_ways_21 4 rfl ?_
      refine z_lload dX11_ways_23 5 rfl ?_
      refine z_iload_n dX11_ways_25 rfl 2 rfl ?_
      refine z_iload dX11_ways_26 6 rfl ?_
      obtain ⟨v, τ, hc, h⟩ := bnl_e h
      refine z_callS (M' := m_X11_power) (As := [.int (x2), .int (x8)]) (rest := [.long (x6), .long (x4)]) kl_11_379 oy_X11_power ⟨Nat.le_of_ble_eq_true rfl, Nat.le_of_ble_eq_true rfl⟩ rfl (Nat.le_of_ble_eq_true rfl) rfl dX11_ways_28 (c_X11_power hc) (fun v2 τ2 hq => ?_)
      obtain ⟨rfl, hτ⟩ := hq
      subst τ2
      change Z _ _ _ _ _ [.long (v), .long (x6), .long (x4)] _
      refine Z.lv [0, 1, 2, 3, 5, 6] rfl ?_
      exact zb_X11_ways_31 hrc9 h
def F_X11_ways_9 : Nat → Int32 → Int32 → Int32 → Int32 → Int64 → Int64 → Int32 → Mm → Option (Int64 × Mm)
  | 0 => fun _ _ _ _ _ _ _ _ => none
  | n + 1 => B_X11_ways_9 (F_X11_ways_9 n)
theorem zl_X11_ways_9 {S : Shp} : ∀ (nn : Nat) {x0 : Int32} {x1 : Int32} {x2 : Int32} {x3 : Int32} {x4 : Int64} {x6 : Int64} {x8 : Int32} {σ : Mm} {r : Int64 × Mm}, F_X11_ways_9 nn x0 x1 x2 x3 x4 x6 x8 σ = some r → Z m_X11_ways S (Ql r) 9 [(0, .int (x0)), (1, .int (x1)), (2, .int (x2)), (3, .int (x3)), (4, .long (x4)), (6, .long (x6)), (8, .int (x8))] [] σ := by
  intro nn
  induction nn with
  | zero => intro x0 x1 x2 x3 x4 x6 x8 σ r h; cases h
  | succ nn ih => intro x0 x1 x2 x3 x4 x6 x8 σ r h; exact zB_X11_ways_9 @ih h
def F_X11_ways (x0 : Int32) (x1 : Int32) (x2 : Int32) (x3 : Int32) (σ : Mm) : Option (Int64 × Mm) := (F_X11_ways_9 FU x0 x1 x2 x3 0 1 0 σ)
set_option maxRecDepth 20000 in
theorem zb_X11_ways {S : Shp} {x0 : Int32} {x1 : Int32} {x2 : Int32} {x3 : Int32} {σ : Mm} {r : Int64 × Mm} (h : F_X11_ways x0 x1 x2 x3 σ = some r) : Z m_X11_ways S (Ql r) 0 [(0, .int (x0)), (1, .int (x1)), (2, .int (x2)), (3, .int (x3))] [] σ := by
  unfold F_X11_ways at h
  refine z_lconst (v := 0) dX11_ways_0 (by decide) ?_
  refine z_lstore (lv' := [(0, .int (x0)), (1, .int (x1)), (2, .int (x2)), (3, .int (x3)), (4, .long (0))]) dX11_ways_1 (by decide) [1, 2, 3, 4, 0] rfl ?_
  refine z_lconst (v := 1) dX11_ways_3 (by decide) ?_
  refine z_lstore (lv' := [(0, .int (x0)), (1, .int (x1)), (2, .int (x2)), (3, .int (x3)), (4, .long (0)), (6, .long (1))]) dX11_ways_4 (by decide) [1, 2, 3, 4, 5, 0] rfl ?_
  refine z_iconst (v := 0) dX11_ways_6 (by decide) ?_
  refine z_istore (lv' := [(0, .int (x0)), (1, .int (x1)), (2, .int (x2)), (3, .int (x3)), (4, .long (0)), (6, .long (1)), (8, .int (0))]) dX11_ways_7 (by decide) [1, 2, 3, 4, 5, 6, 0] rfl ?_
  exact zl_X11_ways_9 FU h
/-- SkyStones.ways(IIII)J -/
theorem c_X11_ways {S : Shp} {x0 : Int32} {x1 : Int32} {x2 : Int32} {x3 : Int32} {σ : Mm} {r : Int64 × Mm} (h : F_X11_ways x0 x1 x2 x3 σ = some r) : Ct m_X11_ways S [.int (x0), .int (x1), .int (x2), .int (x3)] σ (Ql r) := Ct.of (by decide +kernel) (Nat.le_of_ble_eq_true rfl) (zb_X11_ways h)
def F_X11_chance_50 (s0 : Int64) (σ : Mm) : Option (Int64 × Mm) := some (s0, σ)
set_option maxRecDepth 20000 in
theorem zb_X11_chance_50 {S : Shp} {s0 : Int64} {σ : Mm} {r : Int64 × Mm} (h : F_X11_chance_50 s0 σ = some r) : Z m_X11_chance S (Ql r) 50 [] [.long (s0)] σ := by
  unfold F_X11_chance_50 at h
  cases h
  exact z_lreturn dX11_chance_50 rfl ⟨rfl, rfl⟩
def F_X11_chance_41 (x3 : Int32) (s0 : Int32) (s1 : Int32) (σ : Mm) : Option (Int64 × Mm) := (bnl (F_X11_ways s1 s0 x3 ((360 : Int32) - x3) σ) (fun v τ => (F_X11_chance_50 v τ)))
set_option maxRecDepth 20000 in
theorem zb_X11_chance_41 {S : Shp} {x3 : Int32} {s0 : Int32} {s1 : Int32} {σ : Mm} {r : Int64 × Mm} (h : F_X11_chance_41 x3 s0 s1 σ = some r) : Z m_X11_chance S (Ql r) 41 [(3, .int (x3))] [.int (s0), .int (s1)] σ := by
  unfold F_X11_chance_41 at h
  refine z_iload_n dX11_chance_41 rfl 0 rfl ?_
  refine z_sipush (v := 360) dX11_chance_42 (by decide) ?_
  refine z_iload_n dX11_chance_45 rfl 0 rfl ?_
  refine z_isub dX11_chance_46 ?_
  obtain ⟨v, τ, hc, h⟩ := bnl_e h
  refine z_callS (M' := m_X11_ways) (As := [.int (s1), .int (s0), .int (x3), .int ((360 : Int32) - x3)]) (rest := []) kl_11_311 oy_X11_ways ⟨Nat.le_of_ble_eq_true rfl, Nat.le_of_ble_eq_true rfl⟩ rfl (Nat.le_of_ble_eq_true rfl) rfl dX11_chance_47 (c_X11_ways hc) (fun v2 τ2 hq => ?_)
  obtain ⟨rfl, hτ⟩ := hq
  subst τ2
  change Z _ _ _ _ _ [.long (v)] _
  refine Z.lv [] rfl ?_
  exact zb_X11_chance_50 h
def F_X11_chance_27 (x1 : Int32) (x2 : Int32) (x3 : Int32) (σ : Mm) : Option (Int64 × Mm) := (bnd (F_X11_near_w x1 x2 σ) (fun v τ => (F_X11_chance_41 x3 v (mA σ 0 0 0 12) τ)))
set_option maxRecDepth 20000 in
theorem zb_X11_chance_27 {S : Shp} {x1 : Int32} {x2 : Int32} {x3 : Int32} {σ : Mm} {r : Int64 × Mm} (h : F_X11_chance_27 x1 x2 x3 σ = some r) : Z m_X11_chance S (Ql r) 27 [(0, .ref (sL S 0 0 0)), (1, .int (x1)), (2, .int (x2)), (3, .int (x3))] [] σ := by
  unfold F_X11_chance_27 at h
  refine z_aload_n dX11_chance_27 rfl 0 rfl ?_
  refine gf_11_85 rfl dX11_chance_28 ?_
  refine z_aload_n dX11_chance_31 rfl 0 rfl ?_
  refine z_iload_n dX11_chance_32 rfl 1 rfl ?_
  refine z_iload_n dX11_chance_33 rfl 2 rfl ?_
  refine z_aload_n dX11_chance_34 rfl 0 rfl ?_
  refine gf_11_89 rfl dX11_chance_35 ?_
  obtain ⟨v, τ, hc, h⟩ := bnd_e h
  refine z_callV (M' := m_X11_near) (t := 0) (i := 0) (k := 0) (As := [.int (x1), .int (x2), .ref (sL S 0 0 3)]) (rest := [.int (mA σ 0 0 0 12)]) kl_11_306 oy_X11_near ⟨Nat.le_of_ble_eq_true rfl, Nat.le_of_ble_eq_true rfl⟩ rfl rfl rfl rfl (Nat.le_of_ble_eq_true rfl) rfl dX11_chance_38 (c_X11_near_w hc) (fun v2 τ2 hq => ?_)
  obtain ⟨rfl, hτ⟩ := hq
  subst τ2
  change Z _ _ _ _ _ [.int (v), .int (mA σ 0 0 0 12)] _
  refine Z.lv [3] rfl ?_
  exact zb_X11_chance_41 h
def F_X11_chance (x1 : Int32) (x2 : Int32) (σ : Mm) : Option (Int64 × Mm) := (if (f_X11_isDegree x1) = 0 then some ((-1), σ) else (if x2 < 0 then some ((-1), σ) else (if x2 ≤ (20 : Int32) then (F_X11_chance_27 x1 x2 (((2 : Int32) * x2) + (1 : Int32)) σ) else some ((-1), σ))))
set_option maxRecDepth 20000 in
theorem zb_X11_chance {S : Shp} {x1 : Int32} {x2 : Int32} {σ : Mm} {r : Int64 × Mm} (h : F_X11_chance x1 x2 σ = some r) : Z m_X11_chance S (Ql r) 0 [(0, .ref (sL S 0 0 0)), (1, .int (x1)), (2, .int (x2))] [] σ := by
  unfold F_X11_chance at h
  refine z_iload_n dX11_chance_0 rfl 1 rfl ?_
  refine z_callS (M' := m_X11_isDegree) (As := [.int (x1)]) (rest := []) kl_11_180 oy_X11_isDegree ⟨Nat.le_of_ble_eq_true rfl, Nat.le_of_ble_eq_true rfl⟩ rfl (Nat.le_of_ble_eq_true rfl) rfl dX11_chance_1 (c_X11_isDegree rfl) (fun v τ hq => ?_)
  obtain ⟨rfl, hτ⟩ := hq
  subst τ
  change Z _ _ _ _ _ [.int (f_X11_isDegree x1)] _
  refine z_if_eq (tgt := 17) dX11_chance_4 (by decide) (fun q => ?_) (fun q => ?_)
  · have h := (if_pos q).symm.trans h
    refine z_ldc2 qw_1025 dX11_chance_17 ?_
    cases h
    exact z_lreturn dX11_chance_20 rfl ⟨rfl, rfl⟩
  · have h := (if_neg q).symm.trans h
    refine z_iload_n dX11_chance_7 rfl 2 rfl ?_
    refine z_if_lt (tgt := 17) dX11_chance_8 (by decide) (fun q => ?_) (fun q => ?_)
    · have h := (if_pos q).symm.trans h
      refine z_ldc2 qw_1025 dX11_chance_17 ?_
      cases h
      exact z_lreturn dX11_chance_20 rfl ⟨rfl, rfl⟩
    · have h := (if_neg q).symm.trans h
      refine z_iload_n dX11_chance_11 rfl 2 rfl ?_
      refine z_bipush (v := 20) dX11_chance_12 (by decide) ?_
      refine z_icmp_le (tgt := 21) dX11_chance_14 (by decide) (fun q => ?_) (fun q => ?_)
      · have h := (if_pos q).symm.trans h
        refine z_iconst (v := 2) dX11_chance_21 (by decide) ?_
        refine z_iload_n dX11_chance_22 rfl 2 rfl ?_
        refine z_imul dX11_chance_23 ?_
        refine z_iconst (v := 1) dX11_chance_24 (by decide) ?_
        refine z_iadd dX11_chance_25 ?_
        refine z_istore_n (lv' := [(0, .ref (sL S 0 0 0)), (1, .int (x1)), (2, .int (x2)), (3, .int (((2 : Int32) * x2) + (1 : Int32)))]) dX11_chance_26 rfl (by decide) [1, 2, 3, 0] rfl ?_
        exact zb_X11_chance_27 h
      · have h := (if_neg q).symm.trans h
        refine z_ldc2 qw_1025 dX11_chance_17 ?_
        cases h
        exact z_lreturn dX11_chance_20 rfl ⟨rfl, rfl⟩
/-- SkyStones.chance(II)J -/
theorem c_X11_chance {S : Shp} {x1 : Int32} {x2 : Int32} {σ : Mm} {r : Int64 × Mm} (h : F_X11_chance x1 x2 σ = some r) : Ct m_X11_chance S [.ref (sL S 0 0 0), .int (x1), .int (x2)] σ (Ql r) := Ct.of (by decide +kernel) (Nat.le_of_ble_eq_true rfl) (zb_X11_chance h)
def F_X11_clear_10 (x1 : Int32) (σ : Mm) : Option (Int32 × Mm) := some (x1, σ)
set_option maxRecDepth 20000 in
theorem zb_X11_clear_10 {S : Shp} {x1 : Int32} {σ : Mm} {r : Int32 × Mm} (h : F_X11_clear_10 x1 σ = some r) : Z m_X11_clear S (Qi r) 10 [(1, .int (x1))] [] σ := by
  unfold F_X11_clear_10 at h
  refine z_iload_n dX11_clear_10 rfl 0 rfl ?_
  cases h
  exact z_ireturn dX11_clear_11 rfl rfl ⟨rfl, rfl⟩
def F_X11_clear (σ : Mm) : Option (Int32 × Mm) := (F_X11_clear_10 (mA σ 0 0 0 12) (setA σ 0 0 0 (upd (mA σ 0 0 0) 12 0)))
set_option maxRecDepth 20000 in
theorem zb_X11_clear {S : Shp} {σ : Mm} {r : Int32 × Mm} (h : F_X11_clear σ = some r) : Z m_X11_clear S (Qi r) 0 [(0, .ref (sL S 0 0 0))] [] σ := by
  unfold F_X11_clear at h
  refine z_aload_n dX11_clear_0 rfl 0 rfl ?_
  refine gf_11_85 rfl dX11_clear_1 ?_
  refine z_istore_n (lv' := [(0, .ref (sL S 0 0 0)), (1, .int (mA σ 0 0 0 12))]) dX11_clear_4 rfl (by decide) [1, 0] rfl ?_
  refine z_aload_n dX11_clear_5 rfl 0 rfl ?_
  refine z_iconst (v := 0) dX11_clear_6 (by decide) ?_
  refine pf_11_85 rfl dX11_clear_7 ?_
  refine Z.lv [1] rfl ?_
  exact zb_X11_clear_10 h
/-- SkyStones.clear()I -/
theorem c_X11_clear {S : Shp} {σ : Mm} {r : Int32 × Mm} (h : F_X11_clear σ = some r) : Ct m_X11_clear S [.ref (sL S 0 0 0)] σ (Qi r) := Ct.of (by decide +kernel) (Nat.le_of_ble_eq_true rfl) (zb_X11_clear h)
def F_X11_slotsHeld_21 (H : Nat → Bool) (rc4 : Int32 → Int32 → Mm → Option (Int32 × Mm)) (x1 : Int32) (x2 : Int32) (σ : Mm) : Option (Int32 × Mm) := (rc4 x1 (x2 + 1) σ)
set_option maxRecDepth 20000 in
theorem zb_X11_slotsHeld_21 {S : Shp} {rc4 : Int32 → Int32 → Mm → Option (Int32 × Mm)} (hrc4 : ∀ {x1 : Int32} {x2 : Int32} {σ : Mm} {r : Int32 × Mm}, rc4 x1 x2 σ = some r → Z m_X11_slotsHeld S (Qi r) 4 [(0, .ref (sL S 0 0 0)), (1, .int (x1)), (2, .int (x2))] [] σ) {x1 : Int32} {x2 : Int32} {σ : Mm} {r : Int32 × Mm} (h : F_X11_slotsHeld_21 (sH S) rc4 x1 x2 σ = some r) : Z m_X11_slotsHeld S (Qi r) 21 [(0, .ref (sL S 0 0 0)), (1, .int (x1)), (2, .int (x2))] [] σ := by
  unfold F_X11_slotsHeld_21 at h
  refine z_iinc (j := 2) (v := x2 + 1) (lv' := [(0, .ref (sL S 0 0 0)), (1, .int (x1)), (2, .int (x2 + 1))]) dX11_slotsHeld_21 rfl rfl (by decide) [1, 2, 0] rfl ?_
  refine z_goto (tgt := 4) dX11_slotsHeld_24 (by decide) ?_
  exact hrc4 h
def B_X11_slotsHeld_4 (H : Nat → Bool) (rc4 : Int32 → Int32 → Mm → Option (Int32 × Mm)) (x1 : Int32) (x2 : Int32) (σ : Mm) : Option (Int32 × Mm) := (if (3 : Int32) ≤ x2 then some (x1, σ) else (if inb x2 3 = true then (if H (x2.toNatClampNeg) = true then (F_X11_slotsHeld_21 H rc4 (x1 + 1) x2 σ) else (F_X11_slotsHeld_21 H rc4 x1 x2 σ)) else none))
set_option maxRecDepth 20000 in
theorem zB_X11_slotsHeld_4 {S : Shp} {rc4 : Int32 → Int32 → Mm → Option (Int32 × Mm)} (hrc4 : ∀ {x1 : Int32} {x2 : Int32} {σ : Mm} {r : Int32 × Mm}, rc4 x1 x2 σ = some r → Z m_X11_slotsHeld S (Qi r) 4 [(0, .ref (sL S 0 0 0)), (1, .int (x1)), (2, .int (x2))] [] σ) {x1 : Int32} {x2 : Int32} {σ : Mm} {r : Int32 × Mm} (h : B_X11_slotsHeld_4 (sH S) rc4 x1 x2 σ = some r) : Z m_X11_slotsHeld S (Qi r) 4 [(0, .ref (sL S 0 0 0)), (1, .int (x1)), (2, .int (x2))] [] σ := by
  unfold B_X11_slotsHeld_4 at h
  refine z_iload_n dX11_slotsHeld_4 rfl 2 rfl ?_
  refine z_iconst (v := 3) dX11_slotsHeld_5 (by decide) ?_
  refine z_icmp_ge (tgt := 27) dX11_slotsHeld_6 (by decide) (fun q => ?_) (fun q => ?_)
  · have h := (if_pos q).symm.trans h
    refine z_iload_n dX11_slotsHeld_27 rfl 1 rfl ?_
    cases h
    exact z_ireturn dX11_slotsHeld_28 rfl rfl ⟨rfl, rfl⟩
  · have h := (if_neg q).symm.trans h
    obtain ⟨g1, h⟩ := gd h
    refine z_aload_n dX11_slotsHeld_9 rfl 0 rfl ?_
    refine gf_11_42 rfl dX11_slotsHeld_10 ?_
    refine z_iload_n dX11_slotsHeld_13 rfl 2 rfl ?_
    refine z_heldT (inb_in g1) dX11_slotsHeld_14 ?_
    by_cases g2 : sH S (x2.toNatClampNeg) = true
    · have h := (if_pos g2).symm.trans h
      rw [if_pos g2]
      change Z _ _ _ _ _ [.ref (sL S 1 (2 + x2.toNatClampNeg) 0)] _
      refine z_ifnull dX11_slotsHeld_15 ?_
      refine z_iinc (j := 1) (v := x1 + 1) (lv' := [(0, .ref (sL S 0 0 0)), (1, .int (x1 + 1)), (2, .int (x2))]) dX11_slotsHeld_18 rfl rfl (by decide) [1, 0, 2] rfl ?_
      exact zb_X11_slotsHeld_21 hrc4 h
    · have h := (if_neg g2).symm.trans h
      rw [if_neg g2]
      change Z _ _ _ _ _ [.null] _
      refine z_ifnullN (tgt := 21) dX11_slotsHeld_15 (by decide) ?_
      exact zb_X11_slotsHeld_21 hrc4 h
def F_X11_slotsHeld_4 (H : Nat → Bool) : Nat → Int32 → Int32 → Mm → Option (Int32 × Mm)
  | 0 => fun _ _ _ => none
  | n + 1 => B_X11_slotsHeld_4 H (F_X11_slotsHeld_4 H n)
theorem zl_X11_slotsHeld_4 {S : Shp} : ∀ (nn : Nat) {x1 : Int32} {x2 : Int32} {σ : Mm} {r : Int32 × Mm}, F_X11_slotsHeld_4 (sH S) nn x1 x2 σ = some r → Z m_X11_slotsHeld S (Qi r) 4 [(0, .ref (sL S 0 0 0)), (1, .int (x1)), (2, .int (x2))] [] σ := by
  intro nn
  induction nn with
  | zero => intro x1 x2 σ r h; cases h
  | succ nn ih => intro x1 x2 σ r h; exact zB_X11_slotsHeld_4 @ih h
def F_X11_slotsHeld (H : Nat → Bool) (σ : Mm) : Option (Int32 × Mm) := (F_X11_slotsHeld_4 H FU 0 0 σ)
set_option maxRecDepth 20000 in
theorem zb_X11_slotsHeld {S : Shp} {σ : Mm} {r : Int32 × Mm} (h : F_X11_slotsHeld (sH S) σ = some r) : Z m_X11_slotsHeld S (Qi r) 0 [(0, .ref (sL S 0 0 0))] [] σ := by
  unfold F_X11_slotsHeld at h
  refine z_iconst (v := 0) dX11_slotsHeld_0 (by decide) ?_
  refine z_istore_n (lv' := [(0, .ref (sL S 0 0 0)), (1, .int (0))]) dX11_slotsHeld_1 rfl (by decide) [1, 0] rfl ?_
  refine z_iconst (v := 0) dX11_slotsHeld_2 (by decide) ?_
  refine z_istore_n (lv' := [(0, .ref (sL S 0 0 0)), (1, .int (0)), (2, .int (0))]) dX11_slotsHeld_3 rfl (by decide) [1, 2, 0] rfl ?_
  exact zl_X11_slotsHeld_4 FU h
/-- SkyStones.slotsHeld()I -/
theorem c_X11_slotsHeld {S : Shp} {σ : Mm} {r : Int32 × Mm} (h : F_X11_slotsHeld (sH S) σ = some r) : Ct m_X11_slotsHeld S [.ref (sL S 0 0 0)] σ (Qi r) := Ct.of (by decide +kernel) (Nat.le_of_ble_eq_true rfl) (zb_X11_slotsHeld h)
def f_X11_thingsInAll (σ : Mm) : Int32 := (mA σ 1 (mP σ 0) 0 1) + (mA σ 2 0 0 1)
set_option maxRecDepth 20000 in
theorem zb_X11_thingsInAll {S : Shp} {σ : Mm} {r : Int32} (hp : okP σ = true) (h : f_X11_thingsInAll σ = r) : Z m_X11_thingsInAll S (Qi (r, σ)) 0 [(0, .ref (sL S 0 0 0))] [] σ := by
  unfold f_X11_thingsInAll at h
  refine z_aload_n dX11_thingsInAll_0 rfl 0 rfl ?_
  refine gf_11_19 rfl dX11_thingsInAll_1 ?_
  refine gf_11_359 (lv1 (okP_0 hp) rfl) rfl dX11_thingsInAll_4 ?_
  refine z_aload_n dX11_thingsInAll_7 rfl 0 rfl ?_
  refine gf_11_38 rfl dX11_thingsInAll_8 ?_
  refine gf_11_143 (rfl) rfl dX11_thingsInAll_11 ?_
  refine z_iadd dX11_thingsInAll_14 ?_
  subst h
  exact z_ireturn dX11_thingsInAll_15 rfl rfl ⟨rfl, rfl⟩
/-- SkyStones.thingsInAll()I -/
theorem c_X11_thingsInAll {S : Shp} {σ : Mm} {r : Int32} (hp : okP σ = true) (h : f_X11_thingsInAll σ = r) : Ct m_X11_thingsInAll S [.ref (sL S 0 0 0)] σ (Qi (r, σ)) := Ct.of (by decide +kernel) (Nat.le_of_ble_eq_true rfl) (zb_X11_thingsInAll hp h)
def F_X11_count_126 (H : Nat → Bool) (s0 : Int32) (σ : Mm) : Option (Int32 × Mm) := some (s0, σ)
set_option maxRecDepth 20000 in
theorem zb_X11_count_126 {S : Shp} {s0 : Int32} {σ : Mm} {r : Int32 × Mm} (h : F_X11_count_126 (sH S) s0 σ = some r) : Z m_X11_count S (Qi r) 126 [] [.int (s0)] σ := by
  unfold F_X11_count_126 at h
  cases h
  exact z_ireturn dX11_count_126 rfl rfl ⟨rfl, rfl⟩
def F_X11_count (H : Nat → Bool) (x1 : Int32) (σ : Mm) : Option (Int32 × Mm) := (if x1 = 0 then (if okP σ = true then some (f_X11_thingsInAll σ, σ) else none) else (if x1 = 1 then (if okP σ = true then some (mA σ 1 (mP σ 0) 0 6, σ) else none) else (if x1 = 2 then (if okP σ = true then some (mA σ 1 (mP σ 0) 0 8, σ) else none) else (if x1 = 3 then (if okP σ = true then some (mA σ 1 (mP σ 0) 0 12, σ) else none) else (if x1 = 4 then (if okP σ = true then some (mA σ 1 (mP σ 0) 0 14, σ) else none) else (if x1 = 5 then (if okP σ = true then some (mA σ 1 (mP σ 0) 0 0, σ) else none) else (if x1 = 6 then some (mA σ 2 0 0 0, σ) else (if x1 = 7 then some (mA σ 0 0 0 12, σ) else (if x1 = 8 then some (mA σ 0 0 6 0, σ) else (if x1 = 9 then (bnd (F_X11_slotsHeld H σ) (fun v τ => (F_X11_count_126 H v τ))) else some ((-1), σ)))))))))))
set_option maxRecDepth 20000 in
theorem zb_X11_count {S : Shp} {x1 : Int32} {σ : Mm} {r : Int32 × Mm} (h : F_X11_count (sH S) x1 σ = some r) : Z m_X11_count S (Qi r) 0 [(0, .ref (sL S 0 0 0)), (1, .int (x1))] [] σ := by
  unfold F_X11_count at h
  refine z_iload_n dX11_count_0 rfl 1 rfl ?_
  by_cases g1 : x1 = 0
  · have h := (if_pos g1).symm.trans h
    obtain ⟨g16, h⟩ := gd h
    refine z_tableIn (tgt := 56) (off := 55) dX11_count_1 (by rw [g1]; decide) (by rw [g1]; decide) (by rw [g1]; rfl) (by decide) ?_
    refine z_aload_n dX11_count_56 rfl 0 rfl ?_
    have hp := g16
    refine z_callV (M' := m_X11_thingsInAll) (t := 0) (i := 0) (k := 0) (As := []) (rest := []) kl_11_124 oy_X11_thingsInAll ⟨Nat.le_of_ble_eq_true rfl, Nat.le_of_ble_eq_true rfl⟩ rfl rfl rfl rfl (Nat.le_of_ble_eq_true rfl) rfl dX11_count_57 (c_X11_thingsInAll hp rfl) (fun v τ hq => ?_)
    obtain ⟨rfl, hτ⟩ := hq
    subst τ
    change Z _ _ _ _ _ [.int (f_X11_thingsInAll σ)] _
    cases h
    exact z_ireturn dX11_count_60 rfl rfl ⟨rfl, rfl⟩
  · have h := (if_neg g1).symm.trans h
    by_cases g2 : x1 = 1
    · have h := (if_pos g2).symm.trans h
      obtain ⟨g15, h⟩ := gd h
      refine z_tableIn (tgt := 61) (off := 60) dX11_count_1 (by rw [g2]; decide) (by rw [g2]; decide) (by rw [g2]; rfl) (by decide) ?_
      refine z_aload_n dX11_count_61 rfl 0 rfl ?_
      have hp := g15
      refine gf_11_19 rfl dX11_count_62 ?_
      refine gf_11_350 (lv1 (okP_0 hp) rfl) rfl dX11_count_65 ?_
      cases h
      exact z_ireturn dX11_count_68 rfl rfl ⟨rfl, rfl⟩
    · have h := (if_neg g2).symm.trans h
      by_cases g3 : x1 = 2
      · have h := (if_pos g3).symm.trans h
        obtain ⟨g14, h⟩ := gd h
        refine z_tableIn (tgt := 69) (off := 68) dX11_count_1 (by rw [g3]; decide) (by rw [g3]; decide) (by rw [g3]; rfl) (by decide) ?_
        refine z_aload_n dX11_count_69 rfl 0 rfl ?_
        have hp := g14
        refine gf_11_19 rfl dX11_count_70 ?_
        refine gf_11_353 (lv1 (okP_0 hp) rfl) rfl dX11_count_73 ?_
        cases h
        exact z_ireturn dX11_count_76 rfl rfl ⟨rfl, rfl⟩
      · have h := (if_neg g3).symm.trans h
        by_cases g4 : x1 = 3
        · have h := (if_pos g4).symm.trans h
          obtain ⟨g13, h⟩ := gd h
          refine z_tableIn (tgt := 77) (off := 76) dX11_count_1 (by rw [g4]; decide) (by rw [g4]; decide) (by rw [g4]; rfl) (by decide) ?_
          refine z_aload_n dX11_count_77 rfl 0 rfl ?_
          have hp := g13
          refine gf_11_19 rfl dX11_count_78 ?_
          refine gf_11_341 (lv1 (okP_0 hp) rfl) rfl dX11_count_81 ?_
          cases h
          exact z_ireturn dX11_count_84 rfl rfl ⟨rfl, rfl⟩
        · have h := (if_neg g4).symm.trans h
          by_cases g5 : x1 = 4
          · have h := (if_pos g5).symm.trans h
            obtain ⟨g12, h⟩ := gd h
            refine z_tableIn (tgt := 85) (off := 84) dX11_count_1 (by rw [g5]; decide) (by rw [g5]; decide) (by rw [g5]; rfl) (by decide) ?_
            refine z_aload_n dX11_count_85 rfl 0 rfl ?_
            have hp := g12
            refine gf_11_19 rfl dX11_count_86 ?_
            refine gf_11_285 (lv1 (okP_0 hp) rfl) rfl dX11_count_89 ?_
            cases h
            exact z_ireturn dX11_count_92 rfl rfl ⟨rfl, rfl⟩
          · have h := (if_neg g5).symm.trans h
            by_cases g6 : x1 = 5
            · have h := (if_pos g6).symm.trans h
              obtain ⟨g11, h⟩ := gd h
              refine z_tableIn (tgt := 93) (off := 92) dX11_count_1 (by rw [g6]; decide) (by rw [g6]; decide) (by rw [g6]; rfl) (by decide) ?_
              refine z_aload_n dX11_count_93 rfl 0 rfl ?_
              have hp := g11
              refine gf_11_19 rfl dX11_count_94 ?_
              refine gf_11_232 (lv1 (okP_0 hp) rfl) rfl dX11_count_97 ?_
              cases h
              exact z_ireturn dX11_count_100 rfl rfl ⟨rfl, rfl⟩
            · have h := (if_neg g6).symm.trans h
              by_cases g7 : x1 = 6
              · have h := (if_pos g7).symm.trans h
                refine z_tableIn (tgt := 101) (off := 100) dX11_count_1 (by rw [g7]; decide) (by rw [g7]; decide) (by rw [g7]; rfl) (by decide) ?_
                refine z_aload_n dX11_count_101 rfl 0 rfl ?_
                refine gf_11_38 rfl dX11_count_102 ?_
                refine gf_11_128 (rfl) rfl dX11_count_105 ?_
                cases h
                exact z_ireturn dX11_count_108 rfl rfl ⟨rfl, rfl⟩
              · have h := (if_neg g7).symm.trans h
                by_cases g8 : x1 = 7
                · have h := (if_pos g8).symm.trans h
                  refine z_tableIn (tgt := 109) (off := 108) dX11_count_1 (by rw [g8]; decide) (by rw [g8]; decide) (by rw [g8]; rfl) (by decide) ?_
                  refine z_aload_n dX11_count_109 rfl 0 rfl ?_
                  refine gf_11_85 rfl dX11_count_110 ?_
                  cases h
                  exact z_ireturn dX11_count_113 rfl rfl ⟨rfl, rfl⟩
                · have h := (if_neg g8).symm.trans h
                  by_cases g9 : x1 = 8
                  · have h := (if_pos g9).symm.trans h
                    refine z_tableIn (tgt := 114) (off := 113) dX11_count_1 (by rw [g9]; decide) (by rw [g9]; decide) (by rw [g9]; rfl) (by decide) ?_
                    refine z_aload_n dX11_count_114 rfl 0 rfl ?_
                    refine gf_11_12 rfl dX11_count_115 ?_
                    refine gf_11_100 rfl dX11_count_118 ?_
                    cases h
                    exact z_ireturn dX11_count_121 rfl rfl ⟨rfl, rfl⟩
                  · have h := (if_neg g9).symm.trans h
                    by_cases g10 : x1 = 9
                    · have h := (if_pos g10).symm.trans h
                      refine z_tableIn (tgt := 122) (off := 121) dX11_count_1 (by rw [g10]; decide) (by rw [g10]; decide) (by rw [g10]; rfl) (by decide) ?_
                      refine z_aload_n dX11_count_122 rfl 0 rfl ?_
                      obtain ⟨v, τ, hc, h⟩ := bnd_e h
                      refine z_callV (M' := m_X11_slotsHeld) (t := 0) (i := 0) (k := 0) (As := []) (rest := []) kl_11_356 oy_X11_slotsHeld ⟨Nat.le_of_ble_eq_true rfl, Nat.le_of_ble_eq_true rfl⟩ rfl rfl rfl rfl (Nat.le_of_ble_eq_true rfl) rfl dX11_count_123 (c_X11_slotsHeld hc) (fun v2 τ2 hq => ?_)
                      obtain ⟨rfl, hτ⟩ := hq
                      subst τ2
                      change Z _ _ _ _ _ [.int (v)] _
                      refine Z.lv [] rfl ?_
                      exact zb_X11_count_126 h
                    · have h := (if_neg g10).symm.trans h
                      refine z_tableOut (tgt := 127) dX11_count_1 (by have eg1 := nei (n := 0) (by decide) g1; have eg2 := nei (n := 1) (by decide) g2; have eg3 := nei (n := 2) (by decide) g3; have eg4 := nei (n := 3) (by decide) g4; have eg5 := nei (n := 4) (by decide) g5; have eg6 := nei (n := 5) (by decide) g6; have eg7 := nei (n := 6) (by decide) g7; have eg8 := nei (n := 7) (by decide) g8; have eg9 := nei (n := 8) (by decide) g9; have eg10 := nei (n := 9) (by decide) g10; omega) (by decide) ?_
                      refine z_iconst (v := (-1)) dX11_count_127 (by decide) ?_
                      cases h
                      exact z_ireturn dX11_count_128 rfl rfl ⟨rfl, rfl⟩
/-- SkyStones.count(I)I -/
theorem c_X11_count {S : Shp} {x1 : Int32} {σ : Mm} {r : Int32 × Mm} (h : F_X11_count (sH S) x1 σ = some r) : Ct m_X11_count S [.ref (sL S 0 0 0), .int (x1)] σ (Qi r) := Ct.of (by decide +kernel) (Nat.le_of_ble_eq_true rfl) (zb_X11_count h)
