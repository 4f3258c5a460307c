def F_X2_holds_63 (rc23 : Nat → Int32 → Int32 → Mm → Option (Int32 × Mm)) (i0 : Nat) (x3 : Int32) (x4 : Int32) (σ : Mm) : Option (Int32 × Mm) := (rc23 i0 x3 (x4 + 1) σ)
set_option maxRecDepth 20000 in
theorem zb_X2_holds_63 {S : Shp} {rc23 : Nat → Int32 → Int32 → Mm → Option (Int32 × Mm)} (hrc23 : ∀ {i0 : Nat} (hi0 : tlv (sH S) i0 = true) {x3 : Int32} {x4 : Int32} {σ : Mm} {r : Int32 × Mm}, rc23 i0 x3 x4 σ = some r → Z m_X2_holds S (Qi r) 23 [(0, .ref (sL S 0 0 15)), (1, .ref (sL S 1 i0 0)), (3, .int (x3)), (4, .int (x4))] [] σ) {i0 : Nat} (hi0 : tlv (sH S) i0 = true) {x3 : Int32} {x4 : Int32} {σ : Mm} {r : Int32 × Mm} (h : F_X2_holds_63 rc23 i0 x3 x4 σ = some r) : Z m_X2_holds S (Qi r) 63 [(0, .ref (sL S 0 0 15)), (1, .ref (sL S 1 i0 0)), (3, .int (x3)), (4, .int (x4))] [] σ := by
  unfold F_X2_holds_63 at h
  refine z_iinc (j := 3) (v := x4 + 1) (lv' := [(0, .ref (sL S 0 0 15)), (1, .ref (sL S 1 i0 0)), (3, .int (x3)), (4, .int (x4 + 1))]) dX2_holds_63 rfl rfl (by decide) [1, 2, 3, 0] rfl ?_
  refine z_goto (tgt := 23) dX2_holds_66 (by decide) ?_
  exact hrc23 (hi0) h
def F_X2_holds_58 (rc23 : Nat → Int32 → Int32 → Mm → Option (Int32 × Mm)) (i0 : Nat) (x3 : Int32) (x4 : Int32) (s0 : Int32) (σ : Mm) : Option (Int32 × Mm) := (if s0 = 0 then (F_X2_holds_63 rc23 i0 x3 x4 σ) else some (1, σ))
set_option maxRecDepth 20000 in
theorem zb_X2_holds_58 {S : Shp} {rc23 : Nat → Int32 → Int32 → Mm → Option (Int32 × Mm)} (hrc23 : ∀ {i0 : Nat} (hi0 : tlv (sH S) i0 = true) {x3 : Int32} {x4 : Int32} {σ : Mm} {r : Int32 × Mm}, rc23 i0 x3 x4 σ = some r → Z m_X2_holds S (Qi r) 23 [(0, .ref (sL S 0 0 15)), (1, .ref (sL S 1 i0 0)), (3, .int (x3)), (4, .int (x4))] [] σ) {i0 : Nat} (hi0 : tlv (sH S) i0 = true) {x3 : Int32} {x4 : Int32} {s0 : Int32} {σ : Mm} {r : Int32 × Mm} (h : F_X2_holds_58 rc23 i0 x3 x4 s0 σ = some r) : Z m_X2_holds S (Qi r) 58 [(0, .ref (sL S 0 0 15)), (1, .ref (sL S 1 i0 0)), (3, .int (x3)), (4, .int (x4))] [.int (s0)] σ := by
  unfold F_X2_holds_58 at h
  refine z_if_eq (tgt := 63) dX2_holds_58 (by decide) (fun q => ?_) (fun q => ?_)
  · have h := (if_pos q).symm.trans h
    exact zb_X2_holds_63 hrc23 (hi0) h
  · have h := (if_neg q).symm.trans h
    refine z_iconst (v := 1) dX2_holds_61 (by decide) ?_
    cases h
    exact z_ireturn dX2_holds_62 rfl rfl ⟨rfl, rfl⟩
def F_X2_holds_43 (rc23 : Nat → Int32 → Int32 → Mm → Option (Int32 × Mm)) (i0 : Nat) (x3 : Int32) (x4 : Int32) (σ : Mm) : Option (Int32 × Mm) := (bnd (F_X0_work_g i0 ((5 : Int32) + x4) σ) (fun v τ => (F_X2_holds_58 rc23 i0 x3 x4 v τ)))
set_option maxRecDepth 20000 in
theorem zb_X2_holds_43 {S : Shp} {rc23 : Nat → Int32 → Int32 → Mm → Option (Int32 × Mm)} (hrc23 : ∀ {i0 : Nat} (hi0 : tlv (sH S) i0 = true) {x3 : Int32} {x4 : Int32} {σ : Mm} {r : Int32 × Mm}, rc23 i0 x3 x4 σ = some r → Z m_X2_holds S (Qi r) 23 [(0, .ref (sL S 0 0 15)), (1, .ref (sL S 1 i0 0)), (3, .int (x3)), (4, .int (x4))] [] σ) {i0 : Nat} (hi0 : tlv (sH S) i0 = true) {x3 : Int32} {x4 : Int32} {σ : Mm} {r : Int32 × Mm} (h : F_X2_holds_43 rc23 i0 x3 x4 σ = some r) : Z m_X2_holds S (Qi r) 43 [(0, .ref (sL S 0 0 15)), (1, .ref (sL S 1 i0 0)), (3, .int (x3)), (4, .int (x4))] [] σ := by
  unfold F_X2_holds_43 at h
  refine z_aload_n dX2_holds_43 rfl 1 rfl ?_
  refine gf_2_110 (lv1 (hi0) rfl) rfl dX2_holds_44 ?_
  refine z_iconst (v := 5) dX2_holds_47 (by decide) ?_
  refine z_iload dX2_holds_48 3 rfl ?_
  refine z_iadd dX2_holds_50 ?_
  refine z_aload_n dX2_holds_51 rfl 0 rfl ?_
  refine gf_2_35 rfl dX2_holds_52 ?_
  obtain ⟨v, τ, hc, h⟩ := bnd_e h
  refine z_callV (M' := m_X0_work) (t := 1) (i := i0) (k := 10) (As := [.int ((5 : Int32) + x4), .ref (sL S 0 0 22)]) (rest := []) kl_2_114 oy_X0_work ⟨Nat.le_of_ble_eq_true rfl, Nat.le_of_ble_eq_true rfl⟩ (lv1 (hi0) rfl) rfl rfl rfl (Nat.le_of_ble_eq_true rfl) rfl dX2_holds_55 (c_X0_work_g (hi0) hc) (fun v2 τ2 hq => ?_)
  obtain ⟨rfl, hτ⟩ := hq
  subst τ2
  change Z _ _ _ _ _ [.int (v)] _
  exact zb_X2_holds_58 hrc23 (hi0) h
def B_X2_holds_23 (rc23 : Nat → Int32 → Int32 → Mm → Option (Int32 × Mm)) (i0 : Nat) (x3 : Int32) (x4 : Int32) (σ : Mm) : Option (Int32 × Mm) := (if (mA σ 1 i0 0 14) ≤ x4 then some (0, σ) else (if x3 = (-1 : Int32) then (F_X2_holds_43 rc23 i0 x3 x4 σ) else (if x3 = x4 then (F_X2_holds_43 rc23 i0 x3 x4 σ) else (F_X2_holds_63 rc23 i0 x3 x4 σ))))
set_option maxRecDepth 20000 in
theorem zB_X2_holds_23 {S : Shp} {rc23 : Nat → Int32 → Int32 → Mm → Option (Int32 × Mm)} (hrc23 : ∀ {i0 : Nat} (hi0 : tlv (sH S) i0 = true) {x3 : Int32} {x4 : Int32} {σ : Mm} {r : Int32 × Mm}, rc23 i0 x3 x4 σ = some r → Z m_X2_holds S (Qi r) 23 [(0, .ref (sL S 0 0 15)), (1, .ref (sL S 1 i0 0)), (3, .int (x3)), (4, .int (x4))] [] σ) {i0 : Nat} (hi0 : tlv (sH S) i0 = true) {x3 : Int32} {x4 : Int32} {σ : Mm} {r : Int32 × Mm} (h : B_X2_holds_23 rc23 i0 x3 x4 σ = some r) : Z m_X2_holds S (Qi r) 23 [(0, .ref (sL S 0 0 15)), (1, .ref (sL S 1 i0 0)), (3, .int (x3)), (4, .int (x4))] [] σ := by
  unfold B_X2_holds_23 at h
  refine z_iload dX2_holds_23 3 rfl ?_
  refine z_aload_n dX2_holds_25 rfl 1 rfl ?_
  refine gf_2_103 (lv1 (hi0) rfl) rfl dX2_holds_26 ?_
  refine z_icmp_ge (tgt := 69) dX2_holds_29 (by decide) (fun q => ?_) (fun q => ?_)
  · have h := (if_pos q).symm.trans h
    refine z_iconst (v := 0) dX2_holds_69 (by decide) ?_
    cases h
    exact z_ireturn dX2_holds_70 rfl rfl ⟨rfl, rfl⟩
  · have h := (if_neg q).symm.trans h
    refine z_iload_n dX2_holds_32 rfl 2 rfl ?_
    refine z_iconst (v := (-1)) dX2_holds_33 (by decide) ?_
    refine z_icmp_eq (tgt := 43) dX2_holds_34 (by decide) (fun q => ?_) (fun q => ?_)
    · have h := (if_pos q).symm.trans h
      exact zb_X2_holds_43 hrc23 (hi0) h
    · have h := (if_neg q).symm.trans h
      refine z_iload_n dX2_holds_37 rfl 2 rfl ?_
      refine z_iload dX2_holds_38 3 rfl ?_
      refine z_icmp_ne (tgt := 63) dX2_holds_40 (by decide) (fun q => ?_) (fun q => ?_)
      · have h := (if_neg q).symm.trans h
        exact zb_X2_holds_63 hrc23 (hi0) h
      · have h := (if_pos q).symm.trans h
        exact zb_X2_holds_43 hrc23 (hi0) h
def F_X2_holds_23 : Nat → Nat → Int32 → Int32 → Mm → Option (Int32 × Mm)
  | 0 => fun _ _ _ _ => none
  | n + 1 => B_X2_holds_23 (F_X2_holds_23 n)
theorem zl_X2_holds_23 {S : Shp} : ∀ (nn : Nat) {i0 : Nat} (hi0 : tlv (sH S) i0 = true) {x3 : Int32} {x4 : Int32} {σ : Mm} {r : Int32 × Mm}, F_X2_holds_23 nn i0 x3 x4 σ = some r → Z m_X2_holds S (Qi r) 23 [(0, .ref (sL S 0 0 15)), (1, .ref (sL S 1 i0 0)), (3, .int (x3)), (4, .int (x4))] [] σ := by
  intro nn
  induction nn with
  | zero => intro i0 hi0 x3 x4 σ r h; cases h
  | succ nn ih => intro i0 hi0 x3 x4 σ r h; exact zB_X2_holds_23 @ih hi0 h
def F_X2_holds_20 (i0 : Nat) (x3 : Int32) (σ : Mm) : Option (Int32 × Mm) := (F_X2_holds_23 FU i0 x3 0 σ)
set_option maxRecDepth 20000 in
theorem zb_X2_holds_20 {S : Shp} {i0 : Nat} (hi0 : tlv (sH S) i0 = true) {x3 : Int32} {σ : Mm} {r : Int32 × Mm} (h : F_X2_holds_20 i0 x3 σ = some r) : Z m_X2_holds S (Qi r) 20 [(0, .ref (sL S 0 0 15)), (1, .ref (sL S 1 i0 0)), (3, .int (x3))] [] σ := by
  unfold F_X2_holds_20 at h
  refine z_iconst (v := 0) dX2_holds_20 (by decide) ?_
  refine z_istore (lv' := [(0, .ref (sL S 0 0 15)), (1, .ref (sL S 1 i0 0)), (3, .int (x3)), (4, .int (0))]) dX2_holds_21 (by decide) [1, 2, 3, 0] rfl ?_
  exact zl_X2_holds_23 FU (hi0) h
def F_X2_holds_14 (i0 : Nat) (x2 : Int32) (x3 : Int32) (σ : Mm) : Option (Int32 × Mm) := (bnv (F_X2_describe i0 x2 σ) (fun τ => (F_X2_holds_20 i0 x3 τ)))
set_option maxRecDepth 20000 in
theorem zb_X2_holds_14 {S : Shp} {i0 : Nat} (hi0 : tlv (sH S) i0 = true) {x2 : Int32} {x3 : Int32} {σ : Mm} {r : Int32 × Mm} (h : F_X2_holds_14 i0 x2 x3 σ = some r) : Z m_X2_holds S (Qi r) 14 [(0, .ref (sL S 0 0 15)), (1, .ref (sL S 1 i0 0)), (2, .int (x2)), (3, .int (x3))] [] σ := by
  unfold F_X2_holds_14 at h
  refine z_aload_n dX2_holds_14 rfl 0 rfl ?_
  refine z_aload_n dX2_holds_15 rfl 1 rfl ?_
  refine z_iload_n dX2_holds_16 rfl 2 rfl ?_
  obtain ⟨τ, hc, h⟩ := bnv_e h
  refine z_callV (M' := m_X2_describe) (t := 0) (i := 0) (k := 15) (As := [.ref (sL S 1 i0 0), .int (x2)]) (rest := []) kl_2_106 oy_X2_describe ⟨Nat.le_of_ble_eq_true rfl, Nat.le_of_ble_eq_true rfl⟩ rfl rfl rfl rfl (Nat.le_of_ble_eq_true rfl) rfl dX2_holds_17 (c_X2_describe (hi0) hc) (fun v2 τ2 hq => ?_)
  obtain ⟨rfl, hτ⟩ := hq
  subst τ2
  change Z _ _ _ _ _ [] _
  refine Z.lv [0, 1, 3] rfl ?_
  exact zb_X2_holds_20 (hi0) h
def F_X2_holds (i0 : Nat) (x2 : Int32) (x3 : Int32) (σ : Mm) : Option (Int32 × Mm) := (if x3 = (-1 : Int32) then (if (mA σ 1 i0 0 14) = 0 then some (1, σ) else (F_X2_holds_14 i0 x2 x3 σ)) else (F_X2_holds_14 i0 x2 x3 σ))
set_option maxRecDepth 20000 in
theorem zb_X2_holds {S : Shp} {i0 : Nat} (hi0 : tlv (sH S) i0 = true) {x2 : Int32} {x3 : Int32} {σ : Mm} {r : Int32 × Mm} (h : F_X2_holds i0 x2 x3 σ = some r) : Z m_X2_holds S (Qi r) 0 [(0, .ref (sL S 0 0 15)), (1, .ref (sL S 1 i0 0)), (2, .int (x2)), (3, .int (x3))] [] σ := by
  unfold F_X2_holds at h
  refine z_iload_n dX2_holds_0 rfl 3 rfl ?_
  refine z_iconst (v := (-1)) dX2_holds_1 (by decide) ?_
  refine z_icmp_ne (tgt := 14) dX2_holds_2 (by decide) (fun q => ?_) (fun q => ?_)
  · have h := (if_neg q).symm.trans h
    exact zb_X2_holds_14 (hi0) h
  · have h := (if_pos q).symm.trans h
    refine z_aload_n dX2_holds_5 rfl 1 rfl ?_
    refine gf_2_103 (lv1 (hi0) rfl) rfl dX2_holds_6 ?_
    refine z_if_ne (tgt := 14) dX2_holds_9 (by decide) (fun q => ?_) (fun q => ?_)
    · have h := (if_neg q).symm.trans h
      exact zb_X2_holds_14 (hi0) h
    · have h := (if_pos q).symm.trans h
      refine z_iconst (v := 1) dX2_holds_12 (by decide) ?_
      cases h
      exact z_ireturn dX2_holds_13 rfl rfl ⟨rfl, rfl⟩
/-- SkyStones$Ground.holds(LSkyStones$Told;II)Z -/
theorem c_X2_holds {S : Shp} {i0 : Nat} (hi0 : tlv (sH S) i0 = true) {x2 : Int32} {x3 : Int32} {σ : Mm} {r : Int32 × Mm} (h : F_X2_holds i0 x2 x3 σ = some r) : Ct m_X2_holds S [.ref (sL S 0 0 15), .ref (sL S 1 i0 0), .int (x2), .int (x3)] σ (Qi r) := Ct.of (by decide +kernel) (Nat.le_of_ble_eq_true rfl) (zb_X2_holds hi0 h)
def F_X2_joins_89 (σ : Mm) : Option (Int32 × Mm) := some (1, σ)
set_option maxRecDepth 20000 in
theorem zb_X2_joins_89 {S : Shp} {σ : Mm} {r : Int32 × Mm} (h : F_X2_joins_89 σ = some r) : Z m_X2_joins S (Qi r) 89 [] [] σ := by
  unfold F_X2_joins_89 at h
  refine z_iconst (v := 1) dX2_joins_89 (by decide) ?_
  refine z_goto (tgt := 94) dX2_joins_90 (by decide) ?_
  cases h
  exact z_ireturn dX2_joins_94 rfl rfl ⟨rfl, rfl⟩
def F_X2_joins_23 (x2 : Int32) (x3 : Int32) (σ : Mm) : Option (Int32 × Mm) := (if (mA σ 0 0 15 0) ≤ x2 then some (0, σ) else (if (mA σ 0 0 15 0) ≤ x3 then some (0, σ) else (if inb x2 14 = true then (if (mA σ 0 0 20 x2.toNatClampNeg) = 0 then (if inb x3 14 = true then (if (mA σ 0 0 20 x3.toNatClampNeg) = 0 then (if inb x2 14 = true then (if inb x3 14 = true then (if (mA σ 0 0 16 x2.toNatClampNeg) = (mA σ 0 0 16 x3.toNatClampNeg) then (if inb x2 14 = true then (if inb x3 14 = true then (if (mA σ 0 0 17 x2.toNatClampNeg) = (mA σ 0 0 17 x3.toNatClampNeg) then some (0, σ) else (F_X2_joins_89 σ)) else none) else none) else (F_X2_joins_89 σ)) else none) else none) else some (0, σ)) else none) else some (0, σ)) else none)))
set_option maxRecDepth 20000 in
theorem zb_X2_joins_23 {S : Shp} {x2 : Int32} {x3 : Int32} {σ : Mm} {r : Int32 × Mm} (h : F_X2_joins_23 x2 x3 σ = some r) : Z m_X2_joins S (Qi r) 23 [(0, .ref (sL S 0 0 15)), (2, .int (x2)), (3, .int (x3))] [] σ := by
  unfold F_X2_joins_23 at h
  refine z_iload_n dX2_joins_23 rfl 1 rfl ?_
  refine z_aload_n dX2_joins_24 rfl 0 rfl ?_
  refine gf_2_9 rfl dX2_joins_25 ?_
  refine z_icmp_ge (tgt := 57) dX2_joins_28 (by decide) (fun q => ?_) (fun q => ?_)
  · have h := (if_pos q).symm.trans h
    refine z_iconst (v := 0) dX2_joins_57 (by decide) ?_
    cases h
    exact z_ireturn dX2_joins_58 rfl rfl ⟨rfl, rfl⟩
  · have h := (if_neg q).symm.trans h
    refine z_iload_n dX2_joins_31 rfl 2 rfl ?_
    refine z_aload_n dX2_joins_32 rfl 0 rfl ?_
    refine gf_2_9 rfl dX2_joins_33 ?_
    refine z_icmp_ge (tgt := 57) dX2_joins_36 (by decide) (fun q => ?_) (fun q => ?_)
    · have h := (if_pos q).symm.trans h
      refine z_iconst (v := 0) dX2_joins_57 (by decide) ?_
      cases h
      exact z_ireturn dX2_joins_58 rfl rfl ⟨rfl, rfl⟩
    · have h := (if_neg q).symm.trans h
      obtain ⟨g1, h⟩ := gd h
      refine z_aload_n dX2_joins_39 rfl 0 rfl ?_
      refine gf_2_28 rfl dX2_joins_40 ?_
      refine z_iload_n dX2_joins_43 rfl 1 rfl ?_
      refine ia_0_20 (inb_in g1) dX2_joins_44 ?_
      refine z_if_ne (tgt := 57) dX2_joins_45 (by decide) (fun q => ?_) (fun q => ?_)
      · have h := (if_neg q).symm.trans h
        refine z_iconst (v := 0) dX2_joins_57 (by decide) ?_
        cases h
        exact z_ireturn dX2_joins_58 rfl rfl ⟨rfl, rfl⟩
      · have h := (if_pos q).symm.trans h
        obtain ⟨g2, h⟩ := gd h
        refine z_aload_n dX2_joins_48 rfl 0 rfl ?_
        refine gf_2_28 rfl dX2_joins_49 ?_
        refine z_iload_n dX2_joins_52 rfl 2 rfl ?_
        refine ia_0_20 (inb_in g2) dX2_joins_53 ?_
        refine z_if_eq (tgt := 59) dX2_joins_54 (by decide) (fun q => ?_) (fun q => ?_)
        · have h := (if_pos q).symm.trans h
          obtain ⟨g3, h⟩ := gd h
          refine z_aload_n dX2_joins_59 rfl 0 rfl ?_
          refine gf_2_15 rfl dX2_joins_60 ?_
          refine z_iload_n dX2_joins_63 rfl 1 rfl ?_
          obtain ⟨g4, h⟩ := gd h
          refine ia_0_16 (inb_in g3) dX2_joins_64 ?_
          refine z_aload_n dX2_joins_65 rfl 0 rfl ?_
          refine gf_2_15 rfl dX2_joins_66 ?_
          refine z_iload_n dX2_joins_69 rfl 2 rfl ?_
          refine ia_0_16 (inb_in g4) dX2_joins_70 ?_
          refine z_icmp_ne (tgt := 89) dX2_joins_71 (by decide) (fun q => ?_) (fun q => ?_)
          · have h := (if_neg q).symm.trans h
            refine Z.lv [] rfl ?_
            exact zb_X2_joins_89 h
          · have h := (if_pos q).symm.trans h
            obtain ⟨g5, h⟩ := gd h
            refine z_aload_n dX2_joins_74 rfl 0 rfl ?_
            refine gf_2_19 rfl dX2_joins_75 ?_
            refine z_iload_n dX2_joins_78 rfl 1 rfl ?_
            obtain ⟨g6, h⟩ := gd h
            refine ia_0_17 (inb_in g5) dX2_joins_79 ?_
            refine z_aload_n dX2_joins_80 rfl 0 rfl ?_
            refine gf_2_19 rfl dX2_joins_81 ?_
            refine z_iload_n dX2_joins_84 rfl 2 rfl ?_
            refine ia_0_17 (inb_in g6) dX2_joins_85 ?_
            refine z_icmp_eq (tgt := 93) dX2_joins_86 (by decide) (fun q => ?_) (fun q => ?_)
            · have h := (if_pos q).symm.trans h
              refine z_iconst (v := 0) dX2_joins_93 (by decide) ?_
              cases h
              exact z_ireturn dX2_joins_94 rfl rfl ⟨rfl, rfl⟩
            · have h := (if_neg q).symm.trans h
              refine Z.lv [] rfl ?_
              exact zb_X2_joins_89 h
        · have h := (if_neg q).symm.trans h
          refine z_iconst (v := 0) dX2_joins_57 (by decide) ?_
          cases h
          exact z_ireturn dX2_joins_58 rfl rfl ⟨rfl, rfl⟩
def F_X2_joins (x1 : Int32) (σ : Mm) : Option (Int32 × Mm) := (if x1 < 0 then some (0, σ) else (if x1 < (196 : Int32) then (F_X2_joins_23 (x1 / (14 : Int32)) (x1 - x1 / (14 : Int32) * (14 : Int32)) σ) else some (0, σ)))
set_option maxRecDepth 20000 in
theorem zb_X2_joins {S : Shp} {x1 : Int32} {σ : Mm} {r : Int32 × Mm} (h : F_X2_joins x1 σ = some r) : Z m_X2_joins S (Qi r) 0 [(0, .ref (sL S 0 0 15)), (1, .int (x1))] [] σ := by
  unfold F_X2_joins at h
  refine z_iload_n dX2_joins_0 rfl 1 rfl ?_
  refine z_if_lt (tgt := 11) dX2_joins_1 (by decide) (fun q => ?_) (fun q => ?_)
  · have h := (if_pos q).symm.trans h
    refine z_iconst (v := 0) dX2_joins_11 (by decide) ?_
    cases h
    exact z_ireturn dX2_joins_12 rfl rfl ⟨rfl, rfl⟩
  · have h := (if_neg q).symm.trans h
    refine z_iload_n dX2_joins_4 rfl 1 rfl ?_
    refine z_sipush (v := 196) dX2_joins_5 (by decide) ?_
    refine z_icmp_lt (tgt := 13) dX2_joins_8 (by decide) (fun q => ?_) (fun q => ?_)
    · have h := (if_pos q).symm.trans h
      refine z_iload_n dX2_joins_13 rfl 1 rfl ?_
      refine z_bipush (v := 14) dX2_joins_14 (by decide) ?_
      refine z_idiv dX2_joins_16 (by decide) ?_
      refine z_istore_n (lv' := [(0, .ref (sL S 0 0 15)), (1, .int (x1)), (2, .int (x1 / (14 : Int32)))]) dX2_joins_17 rfl (by decide) [1, 2, 0] rfl ?_
      refine z_iload_n dX2_joins_18 rfl 1 rfl ?_
      refine z_bipush (v := 14) dX2_joins_19 (by decide) ?_
      refine z_irem dX2_joins_21 (by decide) ?_
      refine z_istore_n (lv' := [(0, .ref (sL S 0 0 15)), (1, .int (x1)), (2, .int (x1 / (14 : Int32))), (3, .int (x1 - x1 / (14 : Int32) * (14 : Int32)))]) dX2_joins_22 rfl (by decide) [1, 2, 3, 0] rfl ?_
      refine Z.lv [0, 2, 3] rfl ?_
      exact zb_X2_joins_23 h
    · have h := (if_neg q).symm.trans h
      refine z_iconst (v := 0) dX2_joins_11 (by decide) ?_
      cases h
      exact z_ireturn dX2_joins_12 rfl rfl ⟨rfl, rfl⟩
/-- SkyStones$Ground.joins(I)Z -/
theorem c_X2_joins {S : Shp} {x1 : Int32} {σ : Mm} {r : Int32 × Mm} (h : F_X2_joins x1 σ = some r) : Ct m_X2_joins S [.ref (sL S 0 0 15), .int (x1)] σ (Qi r) := Ct.of (by decide +kernel) (Nat.le_of_ble_eq_true rfl) (zb_X2_joins h)
def F_X2_choose_76 (rc7 : Nat → Int32 → Int32 → Mm → Option (Mm)) (i0 : Nat) (x2 : Int32) (x3 : Int32) (σ : Mm) : Option (Mm) := (rc7 i0 x2 (x3 + 1) σ)
set_option maxRecDepth 20000 in
theorem zb_X2_choose_76 {S : Shp} {rc7 : Nat → Int32 → Int32 → Mm → Option (Mm)} (hrc7 : ∀ {i0 : Nat} (hi0 : tlv (sH S) i0 = true) {x2 : Int32} {x3 : Int32} {σ : Mm} {r : Mm}, rc7 i0 x2 x3 σ = some r → Z m_X2_choose S (Qv r) 7 [(0, .ref (sL S 0 0 15)), (1, .ref (sL S 1 i0 0)), (2, .int (x2)), (3, .int (x3))] [] σ) {i0 : Nat} (hi0 : tlv (sH S) i0 = true) {x2 : Int32} {x3 : Int32} {σ : Mm} {r : Mm} (h : F_X2_choose_76 rc7 i0 x2 x3 σ = some r) : Z m_X2_choose S (Qv r) 76 [(0, .ref (sL S 0 0 15)), (1, .ref (sL S 1 i0 0)), (2, .int (x2)), (3, .int (x3))] [] σ := by
  unfold F_X2_choose_76 at h
  refine z_iinc (j := 3) (v := x3 + 1) (lv' := [(0, .ref (sL S 0 0 15)), (1, .ref (sL S 1 i0 0)), (2, .int (x2)), (3, .int (x3 + 1))]) dX2_choose_76 rfl rfl (by decide) [1, 2, 3, 0] rfl ?_
  refine z_goto (tgt := 7) dX2_choose_79 (by decide) ?_
  exact hrc7 (hi0) h
def F_X2_choose_66 (rc7 : Nat → Int32 → Int32 → Mm → Option (Mm)) (i0 : Nat) (x2 : Int32) (x3 : Int32) (σ : Mm) : Option (Mm) := (F_X2_choose_76 rc7 i0 x2 x3 (setA σ 0 0 15 (upd (mA σ 0 0 15) 8 ((mA σ 0 0 15 8) + (1 : Int32)))))
set_option maxRecDepth 20000 in
theorem zb_X2_choose_66 {S : Shp} {rc7 : Nat → Int32 → Int32 → Mm → Option (Mm)} (hrc7 : ∀ {i0 : Nat} (hi0 : tlv (sH S) i0 = true) {x2 : Int32} {x3 : Int32} {σ : Mm} {r : Mm}, rc7 i0 x2 x3 σ = some r → Z m_X2_choose S (Qv r) 7 [(0, .ref (sL S 0 0 15)), (1, .ref (sL S 1 i0 0)), (2, .int (x2)), (3, .int (x3))] [] σ) {i0 : Nat} (hi0 : tlv (sH S) i0 = true) {x2 : Int32} {x3 : Int32} {σ : Mm} {r : Mm} (h : F_X2_choose_66 rc7 i0 x2 x3 σ = some r) : Z m_X2_choose S (Qv r) 66 [(0, .ref (sL S 0 0 15)), (1, .ref (sL S 1 i0 0)), (2, .int (x2)), (3, .int (x3))] [] σ := by
  unfold F_X2_choose_66 at h
  refine z_aload_n dX2_choose_66 rfl 0 rfl ?_
  refine z_dup dX2_choose_67 rfl ?_
  refine gf_2_38 rfl dX2_choose_68 ?_
  refine z_iconst (v := 1) dX2_choose_71 (by decide) ?_
  refine z_iadd dX2_choose_72 ?_
  refine pf_2_38 rfl dX2_choose_73 ?_
  exact zb_X2_choose_76 hrc7 (hi0) h
def F_X2_choose_65 (rc7 : Nat → Int32 → Int32 → Mm → Option (Mm)) (i0 : Nat) (x2 : Int32) (x3 : Int32) (s0 : Int32) (s1 : Int32) (σ : Mm) : Option (Mm) := (if inb s1 182 = true then (F_X2_choose_66 rc7 i0 x2 x3 (setA σ 0 0 24 (upd (mA σ 0 0 24) s1.toNatClampNeg s0))) else none)
set_option maxRecDepth 20000 in
theorem zb_X2_choose_65 {S : Shp} {rc7 : Nat → Int32 → Int32 → Mm → Option (Mm)} (hrc7 : ∀ {i0 : Nat} (hi0 : tlv (sH S) i0 = true) {x2 : Int32} {x3 : Int32} {σ : Mm} {r : Mm}, rc7 i0 x2 x3 σ = some r → Z m_X2_choose S (Qv r) 7 [(0, .ref (sL S 0 0 15)), (1, .ref (sL S 1 i0 0)), (2, .int (x2)), (3, .int (x3))] [] σ) {i0 : Nat} (hi0 : tlv (sH S) i0 = true) {x2 : Int32} {x3 : Int32} {s0 : Int32} {s1 : Int32} {σ : Mm} {r : Mm} (h : F_X2_choose_65 rc7 i0 x2 x3 s0 s1 σ = some r) : Z m_X2_choose S (Qv r) 65 [(0, .ref (sL S 0 0 15)), (1, .ref (sL S 1 i0 0)), (2, .int (x2)), (3, .int (x3))] [.int (s0), .int (s1), .ref (sL S 0 0 24)] σ := by
  unfold F_X2_choose_65 at h
  obtain ⟨g2, h⟩ := gd h
  refine is_0_24 (inb_in g2) dX2_choose_65 ?_
  exact zb_X2_choose_66 hrc7 (hi0) h
def F_X2_choose_52 (rc7 : Nat → Int32 → Int32 → Mm → Option (Mm)) (i0 : Nat) (x2 : Int32) (x3 : Int32) (σ : Mm) : Option (Mm) := (bnd (F_X2_bearingOf x3 σ) (fun v τ => (F_X2_choose_65 rc7 i0 x2 x3 v (mA σ 0 0 15 8) τ)))
set_option maxRecDepth 20000 in
theorem zb_X2_choose_52 {S : Shp} {rc7 : Nat → Int32 → Int32 → Mm → Option (Mm)} (hrc7 : ∀ {i0 : Nat} (hi0 : tlv (sH S) i0 = true) {x2 : Int32} {x3 : Int32} {σ : Mm} {r : Mm}, rc7 i0 x2 x3 σ = some r → Z m_X2_choose S (Qv r) 7 [(0, .ref (sL S 0 0 15)), (1, .ref (sL S 1 i0 0)), (2, .int (x2)), (3, .int (x3))] [] σ) {i0 : Nat} (hi0 : tlv (sH S) i0 = true) {x2 : Int32} {x3 : Int32} {σ : Mm} {r : Mm} (h : F_X2_choose_52 rc7 i0 x2 x3 σ = some r) : Z m_X2_choose S (Qv r) 52 [(0, .ref (sL S 0 0 15)), (1, .ref (sL S 1 i0 0)), (2, .int (x2)), (3, .int (x3))] [] σ := by
  unfold F_X2_choose_52 at h
  refine z_aload_n dX2_choose_52 rfl 0 rfl ?_
  refine gf_2_44 rfl dX2_choose_53 ?_
  refine z_aload_n dX2_choose_56 rfl 0 rfl ?_
  refine gf_2_38 rfl dX2_choose_57 ?_
  refine z_aload_n dX2_choose_60 rfl 0 rfl ?_
  refine z_iload_n dX2_choose_61 rfl 3 rfl ?_
  obtain ⟨v, τ, hc, h⟩ := bnd_e h
  refine z_callV (M' := m_X2_bearingOf) (t := 0) (i := 0) (k := 15) (As := [.int (x3)]) (rest := [.int (mA σ 0 0 15 8), .ref (sL S 0 0 24)]) kl_2_124 oy_X2_bearingOf ⟨Nat.le_of_ble_eq_true rfl, Nat.le_of_ble_eq_true rfl⟩ rfl rfl rfl rfl (Nat.le_of_ble_eq_true rfl) rfl dX2_choose_62 (c_X2_bearingOf hc) (fun v2 τ2 hq => ?_)
  obtain ⟨rfl, hτ⟩ := hq
  subst τ2
  change Z _ _ _ _ _ [.int (v), .int (mA σ 0 0 15 8), .ref (sL S 0 0 24)] _
  exact zb_X2_choose_65 hrc7 (hi0) h
def F_X2_choose_39 (rc7 : Nat → Int32 → Int32 → Mm → Option (Mm)) (i0 : Nat) (x2 : Int32) (x3 : Int32) (s0 : Int32) (σ : Mm) : Option (Mm) := (if s0 = 0 then (F_X2_choose_76 rc7 i0 x2 x3 σ) else (if inb (mA σ 0 0 15 8) 182 = true then (F_X2_choose_52 rc7 i0 x2 x3 (setA σ 0 0 23 (upd (mA σ 0 0 23) (mA σ 0 0 15 8).toNatClampNeg x3))) else none))
set_option maxRecDepth 20000 in
theorem zb_X2_choose_39 {S : Shp} {rc7 : Nat → Int32 → Int32 → Mm → Option (Mm)} (hrc7 : ∀ {i0 : Nat} (hi0 : tlv (sH S) i0 = true) {x2 : Int32} {x3 : Int32} {σ : Mm} {r : Mm}, rc7 i0 x2 x3 σ = some r → Z m_X2_choose S (Qv r) 7 [(0, .ref (sL S 0 0 15)), (1, .ref (sL S 1 i0 0)), (2, .int (x2)), (3, .int (x3))] [] σ) {i0 : Nat} (hi0 : tlv (sH S) i0 = true) {x2 : Int32} {x3 : Int32} {s0 : Int32} {σ : Mm} {r : Mm} (h : F_X2_choose_39 rc7 i0 x2 x3 s0 σ = some r) : Z m_X2_choose S (Qv r) 39 [(0, .ref (sL S 0 0 15)), (1, .ref (sL S 1 i0 0)), (2, .int (x2)), (3, .int (x3))] [.int (s0)] σ := by
  unfold F_X2_choose_39 at h
  refine z_if_eq (tgt := 76) dX2_choose_39 (by decide) (fun q => ?_) (fun q => ?_)
  · have h := (if_pos q).symm.trans h
    exact zb_X2_choose_76 hrc7 (hi0) h
  · have h := (if_neg q).symm.trans h
    obtain ⟨g1, h⟩ := gd h
    refine z_aload_n dX2_choose_42 rfl 0 rfl ?_
    refine gf_2_41 rfl dX2_choose_43 ?_
    refine z_aload_n dX2_choose_46 rfl 0 rfl ?_
    refine gf_2_38 rfl dX2_choose_47 ?_
    refine z_iload_n dX2_choose_50 rfl 3 rfl ?_
    refine is_0_23 (inb_in g1) dX2_choose_51 ?_
    exact zb_X2_choose_52 hrc7 (hi0) h
def F_X2_choose_29 (rc7 : Nat → Int32 → Int32 → Mm → Option (Mm)) (i0 : Nat) (x2 : Int32) (x3 : Int32) (s0 : Int32) (σ : Mm) : Option (Mm) := (if s0 = 0 then (F_X2_choose_76 rc7 i0 x2 x3 σ) else (bnd (F_X2_holds i0 x3 x2 σ) (fun v τ => (F_X2_choose_39 rc7 i0 x2 x3 v τ))))
set_option maxRecDepth 20000 in
theorem zb_X2_choose_29 {S : Shp} {rc7 : Nat → Int32 → Int32 → Mm → Option (Mm)} (hrc7 : ∀ {i0 : Nat} (hi0 : tlv (sH S) i0 = true) {x2 : Int32} {x3 : Int32} {σ : Mm} {r : Mm}, rc7 i0 x2 x3 σ = some r → Z m_X2_choose S (Qv r) 7 [(0, .ref (sL S 0 0 15)), (1, .ref (sL S 1 i0 0)), (2, .int (x2)), (3, .int (x3))] [] σ) {i0 : Nat} (hi0 : tlv (sH S) i0 = true) {x2 : Int32} {x3 : Int32} {s0 : Int32} {σ : Mm} {r : Mm} (h : F_X2_choose_29 rc7 i0 x2 x3 s0 σ = some r) : Z m_X2_choose S (Qv r) 29 [(0, .ref (sL S 0 0 15)), (1, .ref (sL S 1 i0 0)), (2, .int (x2)), (3, .int (x3))] [.int (s0)] σ := by
  unfold F_X2_choose_29 at h
  refine z_if_eq (tgt := 76) dX2_choose_29 (by decide) (fun q => ?_) (fun q => ?_)
  · have h := (if_pos q).symm.trans h
    exact zb_X2_choose_76 hrc7 (hi0) h
  · have h := (if_neg q).symm.trans h
    refine z_aload_n dX2_choose_32 rfl 0 rfl ?_
    refine z_aload_n dX2_choose_33 rfl 1 rfl ?_
    refine z_iload_n dX2_choose_34 rfl 3 rfl ?_
    refine z_iload_n dX2_choose_35 rfl 2 rfl ?_
    obtain ⟨v, τ, hc, h⟩ := bnd_e h
    refine z_callV (M' := m_X2_holds) (t := 0) (i := 0) (k := 15) (As := [.ref (sL S 1 i0 0), .int (x3), .int (x2)]) (rest := []) kl_2_120 oy_X2_holds ⟨Nat.le_of_ble_eq_true rfl, Nat.le_of_ble_eq_true rfl⟩ rfl rfl rfl rfl (Nat.le_of_ble_eq_true rfl) rfl dX2_choose_36 (c_X2_holds (hi0) hc) (fun v2 τ2 hq => ?_)
    obtain ⟨rfl, hτ⟩ := hq
    subst τ2
    change Z _ _ _ _ _ [.int (v)] _
    exact zb_X2_choose_39 hrc7 (hi0) h
def B_X2_choose_7 (rc7 : Nat → Int32 → Int32 → Mm → Option (Mm)) (i0 : Nat) (x2 : Int32) (x3 : Int32) (σ : Mm) : Option (Mm) := (if (196 : Int32) ≤ x3 then some (σ) else (if (182 : Int32) ≤ (mA σ 0 0 15 8) then some (σ) else (bnd (F_X2_joins x3 σ) (fun v τ => (F_X2_choose_29 rc7 i0 x2 x3 v τ)))))
set_option maxRecDepth 20000 in
theorem zB_X2_choose_7 {S : Shp} {rc7 : Nat → Int32 → Int32 → Mm → Option (Mm)} (hrc7 : ∀ {i0 : Nat} (hi0 : tlv (sH S) i0 = true) {x2 : Int32} {x3 : Int32} {σ : Mm} {r : Mm}, rc7 i0 x2 x3 σ = some r → Z m_X2_choose S (Qv r) 7 [(0, .ref (sL S 0 0 15)), (1, .ref (sL S 1 i0 0)), (2, .int (x2)), (3, .int (x3))] [] σ) {i0 : Nat} (hi0 : tlv (sH S) i0 = true) {x2 : Int32} {x3 : Int32} {σ : Mm} {r : Mm} (h : B_X2_choose_7 rc7 i0 x2 x3 σ = some r) : Z m_X2_choose S (Qv r) 7 [(0, .ref (sL S 0 0 15)), (1, .ref (sL S 1 i0 0)), (2, .int (x2)), (3, .int (x3))] [] σ := by
  unfold B_X2_choose_7 at h
  refine z_iload_n dX2_choose_7 rfl 3 rfl ?_
  refine z_sipush (v := 196) dX2_choose_8 (by decide) ?_
  refine z_icmp_ge (tgt := 82) dX2_choose_11 (by decide) (fun q => ?_) (fun q => ?_)
  · have h := (if_pos q).symm.trans h
    cases h
    exact z_return dX2_choose_82 rfl ⟨rfl, rfl⟩
  · have h := (if_neg q).symm.trans h
    refine z_aload_n dX2_choose_14 rfl 0 rfl ?_
    refine gf_2_38 rfl dX2_choose_15 ?_
    refine z_sipush (v := 182) dX2_choose_18 (by decide) ?_
    refine z_icmp_ge (tgt := 82) dX2_choose_21 (by decide) (fun q => ?_) (fun q => ?_)
    · have h := (if_pos q).symm.trans h
      cases h
      exact z_return dX2_choose_82 rfl ⟨rfl, rfl⟩
    · have h := (if_neg q).symm.trans h
      refine z_aload_n dX2_choose_24 rfl 0 rfl ?_
      refine z_iload_n dX2_choose_25 rfl 3 rfl ?_
      obtain ⟨v, τ, hc, h⟩ := bnd_e h
      refine z_callV (M' := m_X2_joins) (t := 0) (i := 0) (k := 15) (As := [.int (x3)]) (rest := []) kl_2_84 oy_X2_joins ⟨Nat.le_of_ble_eq_true rfl, Nat.le_of_ble_eq_true rfl⟩ rfl rfl rfl rfl (Nat.le_of_ble_eq_true rfl) rfl dX2_choose_26 (c_X2_joins hc) (fun v2 τ2 hq => ?_)
      obtain ⟨rfl, hτ⟩ := hq
      subst τ2
      change Z _ _ _ _ _ [.int (v)] _
      exact zb_X2_choose_29 hrc7 (hi0) h
def F_X2_choose_7 : Nat → Nat → Int32 → Int32 → Mm → Option (Mm)
  | 0 => fun _ _ _ _ => none
  | n + 1 => B_X2_choose_7 (F_X2_choose_7 n)
theorem zl_X2_choose_7 {S : Shp} : ∀ (nn : Nat) {i0 : Nat} (hi0 : tlv (sH S) i0 = true) {x2 : Int32} {x3 : Int32} {σ : Mm} {r : Mm}, F_X2_choose_7 nn i0 x2 x3 σ = some r → Z m_X2_choose S (Qv r) 7 [(0, .ref (sL S 0 0 15)), (1, .ref (sL S 1 i0 0)), (2, .int (x2)), (3, .int (x3))] [] σ := by
  intro nn
  induction nn with
  | zero => intro i0 hi0 x2 x3 σ r h; cases h
  | succ nn ih => intro i0 hi0 x2 x3 σ r h; exact zB_X2_choose_7 @ih hi0 h
def F_X2_choose_5 (i0 : Nat) (x2 : Int32) (σ : Mm) : Option (Mm) := (F_X2_choose_7 FU i0 x2 0 σ)
set_option maxRecDepth 20000 in
theorem zb_X2_choose_5 {S : Shp} {i0 : Nat} (hi0 : tlv (sH S) i0 = true) {x2 : Int32} {σ : Mm} {r : Mm} (h : F_X2_choose_5 i0 x2 σ = some r) : Z m_X2_choose S (Qv r) 5 [(0, .ref (sL S 0 0 15)), (1, .ref (sL S 1 i0 0)), (2, .int (x2))] [] σ := by
  unfold F_X2_choose_5 at h
  refine z_iconst (v := 0) dX2_choose_5 (by decide) ?_
  refine z_istore_n (lv' := [(0, .ref (sL S 0 0 15)), (1, .ref (sL S 1 i0 0)), (2, .int (x2)), (3, .int (0))]) dX2_choose_6 rfl (by decide) [1, 2, 3, 0] rfl ?_
  exact zl_X2_choose_7 FU (hi0) h
def F_X2_choose (i0 : Nat) (x2 : Int32) (σ : Mm) : Option (Mm) := (F_X2_choose_5 i0 x2 (setA σ 0 0 15 (upd (mA σ 0 0 15) 8 0)))
set_option maxRecDepth 20000 in
theorem zb_X2_choose {S : Shp} {i0 : Nat} (hi0 : tlv (sH S) i0 = true) {x2 : Int32} {σ : Mm} {r : Mm} (h : F_X2_choose i0 x2 σ = some r) : Z m_X2_choose S (Qv r) 0 [(0, .ref (sL S 0 0 15)), (1, .ref (sL S 1 i0 0)), (2, .int (x2))] [] σ := by
  unfold F_X2_choose at h
  refine z_aload_n dX2_choose_0 rfl 0 rfl ?_
  refine z_iconst (v := 0) dX2_choose_1 (by decide) ?_
  refine pf_2_38 rfl dX2_choose_2 ?_
  exact zb_X2_choose_5 (hi0) h
/-- SkyStones$Ground.choose(LSkyStones$Told;I)V -/
theorem c_X2_choose {S : Shp} {i0 : Nat} (hi0 : tlv (sH S) i0 = true) {x2 : Int32} {σ : Mm} {r : Mm} (h : F_X2_choose i0 x2 σ = some r) : Ct m_X2_choose S [.ref (sL S 0 0 15), .ref (sL S 1 i0 0), .int (x2)] σ (Qv r) := Ct.of (by decide +kernel) (Nat.le_of_ble_eq_true rfl) (zb_X2_choose hi0 h)
def F_X2_apply_141 (x4 : Int32) (x5 : Int32) (σ : Mm) : Option (Mm) := (if x5 = (2 : Int32) then (if inb x4 14 = true then some (setA σ 0 0 20 (upd (mA σ 0 0 20) x4.toNatClampNeg (vp_nar .boolean 1))) else none) else some (σ))
set_option maxRecDepth 20000 in
theorem zb_X2_apply_141 {S : Shp} {x4 : Int32} {x5 : Int32} {σ : Mm} {r : Mm} (h : F_X2_apply_141 x4 x5 σ = some r) : Z m_X2_apply S (Qv r) 141 [(0, .ref (sL S 0 0 15)), (4, .int (x4)), (5, .int (x5))] [] σ := by
  unfold F_X2_apply_141 at h
  refine z_iload dX2_apply_141 2 rfl ?_
  refine z_iconst (v := 2) dX2_apply_143 (by decide) ?_
  refine z_icmp_ne (tgt := 155) dX2_apply_144 (by decide) (fun q => ?_) (fun q => ?_)
  · have h := (if_neg q).symm.trans h
    cases h
    exact z_return dX2_apply_155 rfl ⟨rfl, rfl⟩
  · have h := (if_pos q).symm.trans h
    obtain ⟨g10, h⟩ := gd h
    refine z_aload_n dX2_apply_147 rfl 0 rfl ?_
    refine gf_2_28 rfl dX2_apply_148 ?_
    refine z_iload dX2_apply_151 1 rfl ?_
    refine z_iconst (v := 1) dX2_apply_153 (by decide) ?_
    refine is_0_20 (inb_in g10) dX2_apply_154 ?_
    cases h
    exact z_return dX2_apply_155 rfl ⟨rfl, rfl⟩
def F_X2_apply_128 (i0 : Nat) (x2 : Int32) (x4 : Int32) (x5 : Int32) (σ : Mm) : Option (Mm) := (if inb x2 60 = true then (if inb x4 14 = true then (F_X2_apply_141 x4 x5 (setA σ 0 0 18 (upd (mA σ 0 0 18) x4.toNatClampNeg (mA σ 2 i0 5 x2.toNatClampNeg)))) else none) else none)
set_option maxRecDepth 20000 in
theorem zb_X2_apply_128 {S : Shp} {i0 : Nat} (hi0 : slv (sH S) i0 = true) {x2 : Int32} {x4 : Int32} {x5 : Int32} {σ : Mm} {r : Mm} (h : F_X2_apply_128 i0 x2 x4 x5 σ = some r) : Z m_X2_apply S (Qv r) 128 [(0, .ref (sL S 0 0 15)), (1, .ref (sL S 2 i0 0)), (2, .int (x2)), (4, .int (x4)), (5, .int (x5))] [] σ := by
  unfold F_X2_apply_128 at h
  obtain ⟨g8, h⟩ := gd h
  refine z_aload_n dX2_apply_128 rfl 0 rfl ?_
  refine gf_2_22 rfl dX2_apply_129 ?_
  refine z_iload dX2_apply_132 3 rfl ?_
  refine z_aload_n dX2_apply_134 rfl 1 rfl ?_
  refine gf_2_77 (lv2 (hi0) rfl) rfl dX2_apply_135 ?_
  refine z_iload_n dX2_apply_138 rfl 2 rfl ?_
  obtain ⟨g9, h⟩ := gd h
  refine ia_2_5 (lv2 (hi0) rfl) (inb_in g8) dX2_apply_139 ?_
  refine is_0_18 (inb_in g9) dX2_apply_140 ?_
  refine Z.lv [0, 3, 4] rfl ?_
  exact zb_X2_apply_141 h
def F_X2_apply_117 (i0 : Nat) (x2 : Int32) (x4 : Int32) (x5 : Int32) (σ : Mm) : Option (Mm) := (if x5 = 0 then (F_X2_apply_128 i0 x2 x4 x5 σ) else (if x5 = (3 : Int32) then (F_X2_apply_128 i0 x2 x4 x5 σ) else (F_X2_apply_141 x4 x5 σ)))
set_option maxRecDepth 20000 in
theorem zb_X2_apply_117 {S : Shp} {i0 : Nat} (hi0 : slv (sH S) i0 = true) {x2 : Int32} {x4 : Int32} {x5 : Int32} {σ : Mm} {r : Mm} (h : F_X2_apply_117 i0 x2 x4 x5 σ = some r) : Z m_X2_apply S (Qv r) 117 [(0, .ref (sL S 0 0 15)), (1, .ref (sL S 2 i0 0)), (2, .int (x2)), (4, .int (x4)), (5, .int (x5))] [] σ := by
  unfold F_X2_apply_117 at h
  refine z_iload dX2_apply_117 4 rfl ?_
  refine z_if_eq (tgt := 128) dX2_apply_119 (by decide) (fun q => ?_) (fun q => ?_)
  · have h := (if_pos q).symm.trans h
    exact zb_X2_apply_128 (hi0) h
  · have h := (if_neg q).symm.trans h
    refine z_iload dX2_apply_122 4 rfl ?_
    refine z_iconst (v := 3) dX2_apply_124 (by decide) ?_
    refine z_icmp_ne (tgt := 141) dX2_apply_125 (by decide) (fun q => ?_) (fun q => ?_)
    · have h := (if_neg q).symm.trans h
      refine Z.lv [0, 3, 4] rfl ?_
      exact zb_X2_apply_141 h
    · have h := (if_pos q).symm.trans h
      exact zb_X2_apply_128 (hi0) h
def F_X2_apply_104 (i0 : Nat) (x2 : Int32) (x4 : Int32) (x5 : Int32) (σ : Mm) : Option (Mm) := (if inb x2 60 = true then (if inb x4 14 = true then (F_X2_apply_117 i0 x2 x4 x5 (setA σ 0 0 17 (upd (mA σ 0 0 17) x4.toNatClampNeg (mA σ 2 i0 4 x2.toNatClampNeg)))) else none) else none)
set_option maxRecDepth 20000 in
theorem zb_X2_apply_104 {S : Shp} {i0 : Nat} (hi0 : slv (sH S) i0 = true) {x2 : Int32} {x4 : Int32} {x5 : Int32} {σ : Mm} {r : Mm} (h : F_X2_apply_104 i0 x2 x4 x5 σ = some r) : Z m_X2_apply S (Qv r) 104 [(0, .ref (sL S 0 0 15)), (1, .ref (sL S 2 i0 0)), (2, .int (x2)), (4, .int (x4)), (5, .int (x5))] [] σ := by
  unfold F_X2_apply_104 at h
  obtain ⟨g6, h⟩ := gd h
  refine z_aload_n dX2_apply_104 rfl 0 rfl ?_
  refine gf_2_19 rfl dX2_apply_105 ?_
  refine z_iload dX2_apply_108 3 rfl ?_
  refine z_aload_n dX2_apply_110 rfl 1 rfl ?_
  refine gf_2_76 (lv2 (hi0) rfl) rfl dX2_apply_111 ?_
  refine z_iload_n dX2_apply_114 rfl 2 rfl ?_
  obtain ⟨g7, h⟩ := gd h
  refine ia_2_4 (lv2 (hi0) rfl) (inb_in g6) dX2_apply_115 ?_
  refine is_0_17 (inb_in g7) dX2_apply_116 ?_
  exact zb_X2_apply_117 (hi0) h
def F_X2_apply_91 (i0 : Nat) (x2 : Int32) (x4 : Int32) (x5 : Int32) (σ : Mm) : Option (Mm) := (if inb x2 60 = true then (if inb x4 14 = true then (F_X2_apply_104 i0 x2 x4 x5 (setA σ 0 0 16 (upd (mA σ 0 0 16) x4.toNatClampNeg (mA σ 2 i0 3 x2.toNatClampNeg)))) else none) else none)
set_option maxRecDepth 20000 in
theorem zb_X2_apply_91 {S : Shp} {i0 : Nat} (hi0 : slv (sH S) i0 = true) {x2 : Int32} {x4 : Int32} {x5 : Int32} {σ : Mm} {r : Mm} (h : F_X2_apply_91 i0 x2 x4 x5 σ = some r) : Z m_X2_apply S (Qv r) 91 [(0, .ref (sL S 0 0 15)), (1, .ref (sL S 2 i0 0)), (2, .int (x2)), (4, .int (x4)), (5, .int (x5))] [] σ := by
  unfold F_X2_apply_91 at h
  obtain ⟨g4, h⟩ := gd h
  refine z_aload_n dX2_apply_91 rfl 0 rfl ?_
  refine gf_2_15 rfl dX2_apply_92 ?_
  refine z_iload dX2_apply_95 3 rfl ?_
  refine z_aload_n dX2_apply_97 rfl 1 rfl ?_
  refine gf_2_75 (lv2 (hi0) rfl) rfl dX2_apply_98 ?_
  refine z_iload_n dX2_apply_101 rfl 2 rfl ?_
  obtain ⟨g5, h⟩ := gd h
  refine ia_2_3 (lv2 (hi0) rfl) (inb_in g4) dX2_apply_102 ?_
  refine is_0_16 (inb_in g5) dX2_apply_103 ?_
  exact zb_X2_apply_104 (hi0) h
def F_X2_apply_80 (i0 : Nat) (x2 : Int32) (x4 : Int32) (x5 : Int32) (σ : Mm) : Option (Mm) := (if x5 = 0 then (F_X2_apply_91 i0 x2 x4 x5 σ) else (if x5 = (1 : Int32) then (F_X2_apply_91 i0 x2 x4 x5 σ) else (F_X2_apply_117 i0 x2 x4 x5 σ)))
set_option maxRecDepth 20000 in
theorem zb_X2_apply_80 {S : Shp} {i0 : Nat} (hi0 : slv (sH S) i0 = true) {x2 : Int32} {x4 : Int32} {x5 : Int32} {σ : Mm} {r : Mm} (h : F_X2_apply_80 i0 x2 x4 x5 σ = some r) : Z m_X2_apply S (Qv r) 80 [(0, .ref (sL S 0 0 15)), (1, .ref (sL S 2 i0 0)), (2, .int (x2)), (4, .int (x4)), (5, .int (x5))] [] σ := by
  unfold F_X2_apply_80 at h
  refine z_iload dX2_apply_80 4 rfl ?_
  refine z_if_eq (tgt := 91) dX2_apply_82 (by decide) (fun q => ?_) (fun q => ?_)
  · have h := (if_pos q).symm.trans h
    exact zb_X2_apply_91 (hi0) h
  · have h := (if_neg q).symm.trans h
    refine z_iload dX2_apply_85 4 rfl ?_
    refine z_iconst (v := 1) dX2_apply_87 (by decide) ?_
    refine z_icmp_ne (tgt := 117) dX2_apply_88 (by decide) (fun q => ?_) (fun q => ?_)
    · have h := (if_neg q).symm.trans h
      exact zb_X2_apply_117 (hi0) h
    · have h := (if_pos q).symm.trans h
      exact zb_X2_apply_91 (hi0) h
def F_X2_apply_71 (i0 : Nat) (x2 : Int32) (x4 : Int32) (x5 : Int32) (s0 : Int32) (s1 : Int32) (σ : Mm) : Option (Mm) := (if inb s1 14 = true then (F_X2_apply_80 i0 x2 x4 x5 (setA σ 0 0 20 (upd (mA σ 0 0 20) s1.toNatClampNeg (vp_nar .boolean s0)))) else none)
set_option maxRecDepth 20000 in
theorem zb_X2_apply_71 {S : Shp} {i0 : Nat} (hi0 : slv (sH S) i0 = true) {x2 : Int32} {x4 : Int32} {x5 : Int32} {s0 : Int32} {s1 : Int32} {σ : Mm} {r : Mm} (h : F_X2_apply_71 i0 x2 x4 x5 s0 s1 σ = some r) : Z m_X2_apply S (Qv r) 71 [(0, .ref (sL S 0 0 15)), (1, .ref (sL S 2 i0 0)), (2, .int (x2)), (4, .int (x4)), (5, .int (x5))] [.int (s0), .int (s1), .ref (sL S 0 0 20)] σ := by
  unfold F_X2_apply_71 at h
  obtain ⟨g11, h⟩ := gd h
  refine is_0_20 (inb_in g11) dX2_apply_71 ?_
  refine z_goto (tgt := 80) dX2_apply_72 (by decide) ?_
  exact zb_X2_apply_80 (hi0) h
def F_X2_apply_56 (i0 : Nat) (x2 : Int32) (x3 : Int32) (x4 : Int32) (x5 : Int32) (σ : Mm) : Option (Mm) := (if x3 = 0 then (F_X2_apply_71 i0 x2 x4 x5 1 x4 σ) else (F_X2_apply_71 i0 x2 x4 x5 0 x4 σ))
set_option maxRecDepth 20000 in
theorem zb_X2_apply_56 {S : Shp} {i0 : Nat} (hi0 : slv (sH S) i0 = true) {x2 : Int32} {x3 : Int32} {x4 : Int32} {x5 : Int32} {σ : Mm} {r : Mm} (h : F_X2_apply_56 i0 x2 x3 x4 x5 σ = some r) : Z m_X2_apply S (Qv r) 56 [(0, .ref (sL S 0 0 15)), (1, .ref (sL S 2 i0 0)), (2, .int (x2)), (3, .int (x3)), (4, .int (x4)), (5, .int (x5))] [] σ := by
  unfold F_X2_apply_56 at h
  refine z_aload_n dX2_apply_56 rfl 0 rfl ?_
  refine gf_2_28 rfl dX2_apply_57 ?_
  refine z_iload dX2_apply_60 4 rfl ?_
  refine z_iload_n dX2_apply_62 rfl 3 rfl ?_
  refine z_if_ne (tgt := 70) dX2_apply_63 (by decide) (fun q => ?_) (fun q => ?_)
  · have h := (if_neg q).symm.trans h
    refine z_iconst (v := 0) dX2_apply_70 (by decide) ?_
    refine Z.lv [0, 1, 2, 4, 5] rfl ?_
    exact zb_X2_apply_71 (hi0) h
  · have h := (if_pos q).symm.trans h
    refine z_iconst (v := 1) dX2_apply_66 (by decide) ?_
    refine z_goto (tgt := 71) dX2_apply_67 (by decide) ?_
    refine Z.lv [0, 1, 2, 4, 5] rfl ?_
    exact zb_X2_apply_71 (hi0) h
def F_X2_apply_48 (i0 : Nat) (x2 : Int32) (x3 : Int32) (x4 : Int32) (x5 : Int32) (σ : Mm) : Option (Mm) := (if inb x4 14 = true then (F_X2_apply_56 i0 x2 x3 x4 x5 (setA σ 0 0 19 (upd (mA σ 0 0 19) x4.toNatClampNeg 0))) else none)
set_option maxRecDepth 20000 in
theorem zb_X2_apply_48 {S : Shp} {i0 : Nat} (hi0 : slv (sH S) i0 = true) {x2 : Int32} {x3 : Int32} {x4 : Int32} {x5 : Int32} {σ : Mm} {r : Mm} (h : F_X2_apply_48 i0 x2 x3 x4 x5 σ = some r) : Z m_X2_apply S (Qv r) 48 [(0, .ref (sL S 0 0 15)), (1, .ref (sL S 2 i0 0)), (2, .int (x2)), (3, .int (x3)), (4, .int (x4)), (5, .int (x5))] [] σ := by
  unfold F_X2_apply_48 at h
  obtain ⟨g3, h⟩ := gd h
  refine z_aload_n dX2_apply_48 rfl 0 rfl ?_
  refine gf_2_25 rfl dX2_apply_49 ?_
  refine z_iload dX2_apply_52 4 rfl ?_
  refine z_iconst (v := 0) dX2_apply_54 (by decide) ?_
  refine is_0_19 (inb_in g3) dX2_apply_55 ?_
  exact zb_X2_apply_56 (hi0) h
def F_X2_apply (i0 : Nat) (x2 : Int32) (x3 : Int32) (σ : Mm) : Option (Mm) := (if inb x2 60 = true then (if inb x2 60 = true then (if (mA σ 2 i0 1 x2.toNatClampNeg) = (4 : Int32) then some (σ) else (if (mA σ 2 i0 2 x2.toNatClampNeg) < 0 then some (σ) else (if (mA σ 2 i0 2 x2.toNatClampNeg) < (14 : Int32) then (if (mA σ 2 i0 1 x2.toNatClampNeg) = 0 then (F_X2_apply_48 i0 x2 x3 (mA σ 2 i0 2 x2.toNatClampNeg) (mA σ 2 i0 1 x2.toNatClampNeg) (setA σ 0 0 15 (upd (mA σ 0 0 15) 0 ((mA σ 2 i0 2 x2.toNatClampNeg) + (1 : Int32))))) else (if x3 = 0 then some (σ) else (F_X2_apply_80 i0 x2 (mA σ 2 i0 2 x2.toNatClampNeg) (mA σ 2 i0 1 x2.toNatClampNeg) σ))) else some (σ)))) else none) else none)
set_option maxRecDepth 20000 in
theorem zb_X2_apply {S : Shp} {i0 : Nat} (hi0 : slv (sH S) i0 = true) {x2 : Int32} {x3 : Int32} {σ : Mm} {r : Mm} (h : F_X2_apply i0 x2 x3 σ = some r) : Z m_X2_apply S (Qv r) 0 [(0, .ref (sL S 0 0 15)), (1, .ref (sL S 2 i0 0)), (2, .int (x2)), (3, .int (x3))] [] σ := by
  unfold F_X2_apply at h
  obtain ⟨g1, h⟩ := gd h
  refine z_aload_n dX2_apply_0 rfl 1 rfl ?_
  refine gf_2_68 (lv2 (hi0) rfl) rfl dX2_apply_1 ?_
  refine z_iload_n dX2_apply_4 rfl 2 rfl ?_
  obtain ⟨g2, h⟩ := gd h
  refine ia_2_2 (lv2 (hi0) rfl) (inb_in g1) dX2_apply_5 ?_
  refine z_istore (lv' := [(0, .ref (sL S 0 0 15)), (1, .ref (sL S 2 i0 0)), (2, .int (x2)), (3, .int (x3)), (4, .int (mA σ 2 i0 2 x2.toNatClampNeg))]) dX2_apply_6 (by decide) [1, 2, 3, 4, 0] rfl ?_
  refine z_aload_n dX2_apply_8 rfl 1 rfl ?_
  refine gf_2_65 (lv2 (hi0) rfl) rfl dX2_apply_9 ?_
  refine z_iload_n dX2_apply_12 rfl 2 rfl ?_
  refine ia_2_1 (lv2 (hi0) rfl) (inb_in g2) dX2_apply_13 ?_
  refine z_istore (lv' := [(0, .ref (sL S 0 0 15)), (1, .ref (sL S 2 i0 0)), (2, .int (x2)), (3, .int (x3)), (4, .int (mA σ 2 i0 2 x2.toNatClampNeg)), (5, .int (mA σ 2 i0 1 x2.toNatClampNeg))]) dX2_apply_14 (by decide) [1, 2, 3, 4, 5, 0] rfl ?_
  refine z_iload dX2_apply_16 5 rfl ?_
  refine z_iconst (v := 4) dX2_apply_18 (by decide) ?_
  refine z_icmp_eq (tgt := 34) dX2_apply_19 (by decide) (fun q => ?_) (fun q => ?_)
  · have h := (if_pos q).symm.trans h
    cases h
    exact z_return dX2_apply_34 rfl ⟨rfl, rfl⟩
  · have h := (if_neg q).symm.trans h
    refine z_iload dX2_apply_22 4 rfl ?_
    refine z_if_lt (tgt := 34) dX2_apply_24 (by decide) (fun q => ?_) (fun q => ?_)
    · have h := (if_pos q).symm.trans h
      cases h
      exact z_return dX2_apply_34 rfl ⟨rfl, rfl⟩
    · have h := (if_neg q).symm.trans h
      refine z_iload dX2_apply_27 4 rfl ?_
      refine z_bipush (v := 14) dX2_apply_29 (by decide) ?_
      refine z_icmp_lt (tgt := 35) dX2_apply_31 (by decide) (fun q => ?_) (fun q => ?_)
      · have h := (if_pos q).symm.trans h
        refine z_iload dX2_apply_35 5 rfl ?_
        refine z_if_ne (tgt := 75) dX2_apply_37 (by decide) (fun q => ?_) (fun q => ?_)
        · have h := (if_neg q).symm.trans h
          refine z_iload_n dX2_apply_75 rfl 3 rfl ?_
          refine z_if_ne (tgt := 80) dX2_apply_76 (by decide) (fun q => ?_) (fun q => ?_)
          · have h := (if_neg q).symm.trans h
            refine Z.lv [0, 1, 2, 4, 5] rfl ?_
            exact zb_X2_apply_80 (hi0) h
          · have h := (if_pos q).symm.trans h
            cases h
            exact z_return dX2_apply_79 rfl ⟨rfl, rfl⟩
        · have h := (if_pos q).symm.trans h
          refine z_aload_n dX2_apply_40 rfl 0 rfl ?_
          refine z_iload dX2_apply_41 4 rfl ?_
          refine z_iconst (v := 1) dX2_apply_43 (by decide) ?_
          refine z_iadd dX2_apply_44 ?_
          refine pf_2_9 rfl dX2_apply_45 ?_
          exact zb_X2_apply_48 (hi0) h
      · have h := (if_neg q).symm.trans h
        cases h
        exact z_return dX2_apply_34 rfl ⟨rfl, rfl⟩
/-- SkyStones$Ground.apply(LSkyStones$Survey;IZ)V -/
theorem c_X2_apply {S : Shp} {i0 : Nat} (hi0 : slv (sH S) i0 = true) {x2 : Int32} {x3 : Int32} {σ : Mm} {r : Mm} (h : F_X2_apply i0 x2 x3 σ = some r) : Ct m_X2_apply S [.ref (sL S 0 0 15), .ref (sL S 2 i0 0), .int (x2), .int (x3)] σ (Qv r) := Ct.of (by decide +kernel) (Nat.le_of_ble_eq_true rfl) (zb_X2_apply hi0 h)
def F_X2_know_200 (rc163 : Nat → Int32 → Int32 → Mm → Option (Mm)) (i0 : Nat) (x3 : Int32) (x4 : Int32) (σ : Mm) : Option (Mm) := (rc163 i0 x3 (x4 + 1) σ)
set_option maxRecDepth 20000 in
theorem zb_X2_know_200 {S : Shp} {rc163 : Nat → Int32 → Int32 → Mm → Option (Mm)} (hrc163 : ∀ {i0 : Nat} (hi0 : slv (sH S) i0 = true) {x3 : Int32} {x4 : Int32} {σ : Mm} {r : Mm}, rc163 i0 x3 x4 σ = some r → Z m_X2_know S (Qv r) 163 [(0, .ref (sL S 0 0 15)), (2, .ref (sL S 2 i0 0)), (3, .int (x3)), (4, .int (x4))] [] σ) {i0 : Nat} (hi0 : slv (sH S) i0 = true) {x3 : Int32} {x4 : Int32} {σ : Mm} {r : Mm} (h : F_X2_know_200 rc163 i0 x3 x4 σ = some r) : Z m_X2_know S (Qv r) 200 [(0, .ref (sL S 0 0 15)), (2, .ref (sL S 2 i0 0)), (3, .int (x3)), (4, .int (x4))] [] σ := by
  unfold F_X2_know_200 at h
  refine z_iinc (j := 3) (v := x4 + 1) (lv' := [(0, .ref (sL S 0 0 15)), (2, .ref (sL S 2 i0 0)), (3, .int (x3)), (4, .int (x4 + 1))]) dX2_know_200 rfl rfl (by decide) [1, 2, 3, 0] rfl ?_
  refine z_goto (tgt := 163) dX2_know_203 (by decide) ?_
  exact hrc163 (hi0) h
def F_X2_know_197 (rc163 : Nat → Int32 → Int32 → Mm → Option (Mm)) (i0 : Nat) (x3 : Int32) (x4 : Int32) (s0 : Int32) (s1 : Int32) (σ : Mm) : Option (Mm) := (bnv (F_X2_apply i0 s1 s0 σ) (fun τ => (F_X2_know_200 rc163 i0 x3 x4 τ)))
set_option maxRecDepth 20000 in
theorem zb_X2_know_197 {S : Shp} {rc163 : Nat → Int32 → Int32 → Mm → Option (Mm)} (hrc163 : ∀ {i0 : Nat} (hi0 : slv (sH S) i0 = true) {x3 : Int32} {x4 : Int32} {σ : Mm} {r : Mm}, rc163 i0 x3 x4 σ = some r → Z m_X2_know S (Qv r) 163 [(0, .ref (sL S 0 0 15)), (2, .ref (sL S 2 i0 0)), (3, .int (x3)), (4, .int (x4))] [] σ) {i0 : Nat} (hi0 : slv (sH S) i0 = true) {x3 : Int32} {x4 : Int32} {s0 : Int32} {s1 : Int32} {σ : Mm} {r : Mm} (h : F_X2_know_197 rc163 i0 x3 x4 s0 s1 σ = some r) : Z m_X2_know S (Qv r) 197 [(0, .ref (sL S 0 0 15)), (2, .ref (sL S 2 i0 0)), (3, .int (x3)), (4, .int (x4))] [.int (s0), .int (s1), .ref (sL S 2 i0 0), .ref (sL S 0 0 15)] σ := by
  unfold F_X2_know_197 at h
  obtain ⟨τ, hc, h⟩ := bnv_e h
  refine z_callV (M' := m_X2_apply) (t := 0) (i := 0) (k := 15) (As := [.ref (sL S 2 i0 0), .int (s1), .int (s0)]) (rest := []) kl_2_71 oy_X2_apply ⟨Nat.le_of_ble_eq_true rfl, Nat.le_of_ble_eq_true rfl⟩ rfl rfl rfl rfl (Nat.le_of_ble_eq_true rfl) rfl dX2_know_197 (c_X2_apply (hi0) hc) (fun v2 τ2 hq => ?_)
  obtain ⟨rfl, hτ⟩ := hq
  subst τ2
  change Z _ _ _ _ _ [] _
  exact zb_X2_know_200 hrc163 (hi0) h
def F_X2_know_196 (rc163 : Nat → Int32 → Int32 → Mm → Option (Mm)) (i0 : Nat) (x3 : Int32) (x4 : Int32) (s0 : Int32) (σ : Mm) : Option (Mm) := (F_X2_know_197 rc163 i0 x3 x4 0 s0 σ)
set_option maxRecDepth 20000 in
theorem zb_X2_know_196 {S : Shp} {rc163 : Nat → Int32 → Int32 → Mm → Option (Mm)} (hrc163 : ∀ {i0 : Nat} (hi0 : slv (sH S) i0 = true) {x3 : Int32} {x4 : Int32} {σ : Mm} {r : Mm}, rc163 i0 x3 x4 σ = some r → Z m_X2_know S (Qv r) 163 [(0, .ref (sL S 0 0 15)), (2, .ref (sL S 2 i0 0)), (3, .int (x3)), (4, .int (x4))] [] σ) {i0 : Nat} (hi0 : slv (sH S) i0 = true) {x3 : Int32} {x4 : Int32} {s0 : Int32} {σ : Mm} {r : Mm} (h : F_X2_know_196 rc163 i0 x3 x4 s0 σ = some r) : Z m_X2_know S (Qv r) 196 [(0, .ref (sL S 0 0 15)), (2, .ref (sL S 2 i0 0)), (3, .int (x3)), (4, .int (x4))] [.int (s0), .ref (sL S 2 i0 0), .ref (sL S 0 0 15)] σ := by
  unfold F_X2_know_196 at h
  refine z_iconst (v := 0) dX2_know_196 (by decide) ?_
  exact zb_X2_know_197 hrc163 (hi0) h
def B_X2_know_163 (rc163 : Nat → Int32 → Int32 → Mm → Option (Mm)) (i0 : Nat) (x3 : Int32) (x4 : Int32) (σ : Mm) : Option (Mm) := (if (mA σ 2 i0 0 0) ≤ x4 then some (σ) else (if x3 ≤ x4 then (F_X2_know_196 rc163 i0 x3 x4 x4 σ) else (if inb x4 60 = true then (if (mA σ 0 0 21 x4.toNatClampNeg) = 0 then (F_X2_know_197 rc163 i0 x3 x4 1 x4 σ) else (F_X2_know_196 rc163 i0 x3 x4 x4 σ)) else none)))
set_option maxRecDepth 20000 in
theorem zB_X2_know_163 {S : Shp} {rc163 : Nat → Int32 → Int32 → Mm → Option (Mm)} (hrc163 : ∀ {i0 : Nat} (hi0 : slv (sH S) i0 = true) {x3 : Int32} {x4 : Int32} {σ : Mm} {r : Mm}, rc163 i0 x3 x4 σ = some r → Z m_X2_know S (Qv r) 163 [(0, .ref (sL S 0 0 15)), (2, .ref (sL S 2 i0 0)), (3, .int (x3)), (4, .int (x4))] [] σ) {i0 : Nat} (hi0 : slv (sH S) i0 = true) {x3 : Int32} {x4 : Int32} {σ : Mm} {r : Mm} (h : B_X2_know_163 rc163 i0 x3 x4 σ = some r) : Z m_X2_know S (Qv r) 163 [(0, .ref (sL S 0 0 15)), (2, .ref (sL S 2 i0 0)), (3, .int (x3)), (4, .int (x4))] [] σ := by
  unfold B_X2_know_163 at h
  refine z_iload dX2_know_163 3 rfl ?_
  refine z_aload_n dX2_know_165 rfl 1 rfl ?_
  refine gf_2_60 (lv2 (hi0) rfl) rfl dX2_know_166 ?_
  refine z_icmp_ge (tgt := 206) dX2_know_169 (by decide) (fun q => ?_) (fun q => ?_)
  · have h := (if_pos q).symm.trans h
    cases h
    exact z_return dX2_know_206 rfl ⟨rfl, rfl⟩
  · have h := (if_neg q).symm.trans h
    refine z_aload_n dX2_know_172 rfl 0 rfl ?_
    refine z_aload_n dX2_know_173 rfl 1 rfl ?_
    refine z_iload dX2_know_174 3 rfl ?_
    refine z_iload dX2_know_176 3 rfl ?_
    refine z_iload_n dX2_know_178 rfl 2 rfl ?_
    refine z_icmp_ge (tgt := 196) dX2_know_179 (by decide) (fun q => ?_) (fun q => ?_)
    · have h := (if_pos q).symm.trans h
      exact zb_X2_know_196 hrc163 (hi0) h
    · have h := (if_neg q).symm.trans h
      obtain ⟨g3, h⟩ := gd h
      refine z_aload_n dX2_know_182 rfl 0 rfl ?_
      refine gf_2_32 rfl dX2_know_183 ?_
      refine z_iload dX2_know_186 3 rfl ?_
      refine ia_0_21 (inb_in g3) dX2_know_188 ?_
      refine z_if_ne (tgt := 196) dX2_know_189 (by decide) (fun q => ?_) (fun q => ?_)
      · have h := (if_neg q).symm.trans h
        exact zb_X2_know_196 hrc163 (hi0) h
      · have h := (if_pos q).symm.trans h
        refine z_iconst (v := 1) dX2_know_192 (by decide) ?_
        refine z_goto (tgt := 197) dX2_know_193 (by decide) ?_
        exact zb_X2_know_197 hrc163 (hi0) h
def F_X2_know_163 : Nat → Nat → Int32 → Int32 → Mm → Option (Mm)
  | 0 => fun _ _ _ _ => none
  | n + 1 => B_X2_know_163 (F_X2_know_163 n)
theorem zl_X2_know_163 {S : Shp} : ∀ (nn : Nat) {i0 : Nat} (hi0 : slv (sH S) i0 = true) {x3 : Int32} {x4 : Int32} {σ : Mm} {r : Mm}, F_X2_know_163 nn i0 x3 x4 σ = some r → Z m_X2_know S (Qv r) 163 [(0, .ref (sL S 0 0 15)), (2, .ref (sL S 2 i0 0)), (3, .int (x3)), (4, .int (x4))] [] σ := by
  intro nn
  induction nn with
  | zero => intro i0 hi0 x3 x4 σ r h; cases h
  | succ nn ih => intro i0 hi0 x3 x4 σ r h; exact zB_X2_know_163 @ih hi0 h
def F_X2_know_154 (rc95 : Nat → Int32 → Int32 → Mm → Option (Mm)) (i0 : Nat) (x3 : Int32) (x4 : Int32) (σ : Mm) : Option (Mm) := (rc95 i0 x3 (x4 + 1) σ)
set_option maxRecDepth 20000 in
theorem zb_X2_know_154 {S : Shp} {rc95 : Nat → Int32 → Int32 → Mm → Option (Mm)} (hrc95 : ∀ {i0 : Nat} (hi0 : slv (sH S) i0 = true) {x3 : Int32} {x4 : Int32} {σ : Mm} {r : Mm}, rc95 i0 x3 x4 σ = some r → Z m_X2_know S (Qv r) 95 [(0, .ref (sL S 0 0 15)), (2, .ref (sL S 2 i0 0)), (3, .int (x3)), (4, .int (x4))] [] σ) {i0 : Nat} (hi0 : slv (sH S) i0 = true) {x3 : Int32} {x4 : Int32} {σ : Mm} {r : Mm} (h : F_X2_know_154 rc95 i0 x3 x4 σ = some r) : Z m_X2_know S (Qv r) 154 [(0, .ref (sL S 0 0 15)), (2, .ref (sL S 2 i0 0)), (3, .int (x3)), (4, .int (x4))] [] σ := by
  unfold F_X2_know_154 at h
  refine z_iinc (j := 3) (v := x4 + 1) (lv' := [(0, .ref (sL S 0 0 15)), (2, .ref (sL S 2 i0 0)), (3, .int (x3)), (4, .int (x4 + 1))]) dX2_know_154 rfl rfl (by decide) [1, 2, 3, 0] rfl ?_
  refine z_goto (tgt := 95) dX2_know_157 (by decide) ?_
  exact hrc95 (hi0) h
def F_X2_know_112 (rc95 : Nat → Int32 → Int32 → Mm → Option (Mm)) (i0 : Nat) (x3 : Int32) (x4 : Int32) (σ : Mm) : Option (Mm) := (if x3 ≤ x4 then (F_X2_know_154 rc95 i0 x3 x4 σ) else (if inb x4 60 = true then (if (mA σ 2 i0 1 x4.toNatClampNeg) = (4 : Int32) then (if inb x4 60 = true then (if x4 ≤ (mA σ 2 i0 2 x4.toNatClampNeg) then (F_X2_know_154 rc95 i0 x3 x4 σ) else (if inb x4 60 = true then (if inb (mA σ 2 i0 2 x4.toNatClampNeg) 60 = true then (F_X2_know_154 rc95 i0 x3 x4 (setA σ 0 0 21 (upd (mA σ 0 0 21) (mA σ 2 i0 2 x4.toNatClampNeg).toNatClampNeg (vp_nar .boolean 1)))) else none) else none)) else none) else (F_X2_know_154 rc95 i0 x3 x4 σ)) else none))
set_option maxRecDepth 20000 in
theorem zb_X2_know_112 {S : Shp} {rc95 : Nat → Int32 → Int32 → Mm → Option (Mm)} (hrc95 : ∀ {i0 : Nat} (hi0 : slv (sH S) i0 = true) {x3 : Int32} {x4 : Int32} {σ : Mm} {r : Mm}, rc95 i0 x3 x4 σ = some r → Z m_X2_know S (Qv r) 95 [(0, .ref (sL S 0 0 15)), (2, .ref (sL S 2 i0 0)), (3, .int (x3)), (4, .int (x4))] [] σ) {i0 : Nat} (hi0 : slv (sH S) i0 = true) {x3 : Int32} {x4 : Int32} {σ : Mm} {r : Mm} (h : F_X2_know_112 rc95 i0 x3 x4 σ = some r) : Z m_X2_know S (Qv r) 112 [(0, .ref (sL S 0 0 15)), (2, .ref (sL S 2 i0 0)), (3, .int (x3)), (4, .int (x4))] [] σ := by
  unfold F_X2_know_112 at h
  refine z_iload dX2_know_112 3 rfl ?_
  refine z_iload_n dX2_know_114 rfl 2 rfl ?_
  refine z_icmp_ge (tgt := 154) dX2_know_115 (by decide) (fun q => ?_) (fun q => ?_)
  · have h := (if_pos q).symm.trans h
    exact zb_X2_know_154 hrc95 (hi0) h
  · have h := (if_neg q).symm.trans h
    obtain ⟨g4, h⟩ := gd h
    refine z_aload_n dX2_know_118 rfl 1 rfl ?_
    refine gf_2_65 (lv2 (hi0) rfl) rfl dX2_know_119 ?_
    refine z_iload dX2_know_122 3 rfl ?_
    refine ia_2_1 (lv2 (hi0) rfl) (inb_in g4) dX2_know_124 ?_
    refine z_iconst (v := 4) dX2_know_125 (by decide) ?_
    refine z_icmp_ne (tgt := 154) dX2_know_126 (by decide) (fun q => ?_) (fun q => ?_)
    · have h := (if_neg q).symm.trans h
      exact zb_X2_know_154 hrc95 (hi0) h
    · have h := (if_pos q).symm.trans h
      obtain ⟨g5, h⟩ := gd h
      refine z_aload_n dX2_know_129 rfl 1 rfl ?_
      refine gf_2_68 (lv2 (hi0) rfl) rfl dX2_know_130 ?_
      refine z_iload dX2_know_133 3 rfl ?_
      refine ia_2_2 (lv2 (hi0) rfl) (inb_in g5) dX2_know_135 ?_
      refine z_iload dX2_know_136 3 rfl ?_
      refine z_icmp_ge (tgt := 154) dX2_know_138 (by decide) (fun q => ?_) (fun q => ?_)
      · have h := (if_pos q).symm.trans h
        exact zb_X2_know_154 hrc95 (hi0) h
      · have h := (if_neg q).symm.trans h
        obtain ⟨g6, h⟩ := gd h
        refine z_aload_n dX2_know_141 rfl 0 rfl ?_
        refine gf_2_32 rfl dX2_know_142 ?_
        refine z_aload_n dX2_know_145 rfl 1 rfl ?_
        refine gf_2_68 (lv2 (hi0) rfl) rfl dX2_know_146 ?_
        refine z_iload dX2_know_149 3 rfl ?_
        obtain ⟨g7, h⟩ := gd h
        refine ia_2_2 (lv2 (hi0) rfl) (inb_in g6) dX2_know_151 ?_
        refine z_iconst (v := 1) dX2_know_152 (by decide) ?_
        refine is_0_21 (inb_in g7) dX2_know_153 ?_
        exact zb_X2_know_154 hrc95 (hi0) h
def B_X2_know_95 (rc95 : Nat → Int32 → Int32 → Mm → Option (Mm)) (i0 : Nat) (x3 : Int32) (x4 : Int32) (σ : Mm) : Option (Mm) := (if (mA σ 2 i0 0 0) ≤ x4 then (F_X2_know_163 FU i0 x3 0 σ) else (if inb x4 60 = true then (F_X2_know_112 rc95 i0 x3 x4 (setA σ 0 0 21 (upd (mA σ 0 0 21) x4.toNatClampNeg (vp_nar .boolean 0)))) else none))
set_option maxRecDepth 20000 in
theorem zB_X2_know_95 {S : Shp} {rc95 : Nat → Int32 → Int32 → Mm → Option (Mm)} (hrc95 : ∀ {i0 : Nat} (hi0 : slv (sH S) i0 = true) {x3 : Int32} {x4 : Int32} {σ : Mm} {r : Mm}, rc95 i0 x3 x4 σ = some r → Z m_X2_know S (Qv r) 95 [(0, .ref (sL S 0 0 15)), (2, .ref (sL S 2 i0 0)), (3, .int (x3)), (4, .int (x4))] [] σ) {i0 : Nat} (hi0 : slv (sH S) i0 = true) {x3 : Int32} {x4 : Int32} {σ : Mm} {r : Mm} (h : B_X2_know_95 rc95 i0 x3 x4 σ = some r) : Z m_X2_know S (Qv r) 95 [(0, .ref (sL S 0 0 15)), (2, .ref (sL S 2 i0 0)), (3, .int (x3)), (4, .int (x4))] [] σ := by
  unfold B_X2_know_95 at h
  refine z_iload dX2_know_95 3 rfl ?_
  refine z_aload_n dX2_know_97 rfl 1 rfl ?_
  refine gf_2_60 (lv2 (hi0) rfl) rfl dX2_know_98 ?_
  refine z_icmp_ge (tgt := 160) dX2_know_101 (by decide) (fun q => ?_) (fun q => ?_)
  · have h := (if_pos q).symm.trans h
    refine z_iconst (v := 0) dX2_know_160 (by decide) ?_
    refine z_istore (lv' := [(0, .ref (sL S 0 0 15)), (2, .ref (sL S 2 i0 0)), (3, .int (x3)), (4, .int (0))]) dX2_know_161 (by decide) [1, 2, 3, 0] rfl ?_
    exact zl_X2_know_163 FU (hi0) h
  · have h := (if_neg q).symm.trans h
    obtain ⟨g2, h⟩ := gd h
    refine z_aload_n dX2_know_104 rfl 0 rfl ?_
    refine gf_2_32 rfl dX2_know_105 ?_
    refine z_iload dX2_know_108 3 rfl ?_
    refine z_iconst (v := 0) dX2_know_110 (by decide) ?_
    refine is_0_21 (inb_in g2) dX2_know_111 ?_
    exact zb_X2_know_112 hrc95 (hi0) h
def F_X2_know_95 : Nat → Nat → Int32 → Int32 → Mm → Option (Mm)
  | 0 => fun _ _ _ _ => none
  | n + 1 => B_X2_know_95 (F_X2_know_95 n)
theorem zl_X2_know_95 {S : Shp} : ∀ (nn : Nat) {i0 : Nat} (hi0 : slv (sH S) i0 = true) {x3 : Int32} {x4 : Int32} {σ : Mm} {r : Mm}, F_X2_know_95 nn i0 x3 x4 σ = some r → Z m_X2_know S (Qv r) 95 [(0, .ref (sL S 0 0 15)), (2, .ref (sL S 2 i0 0)), (3, .int (x3)), (4, .int (x4))] [] σ := by
  intro nn
  induction nn with
  | zero => intro i0 hi0 x3 x4 σ r h; cases h
  | succ nn ih => intro i0 hi0 x3 x4 σ r h; exact zB_X2_know_95 @ih hi0 h
def F_X2_know_86 (rc71 : Nat → Int32 → Int32 → Mm → Option (Mm)) (i0 : Nat) (x3 : Int32) (x4 : Int32) (σ : Mm) : Option (Mm) := (rc71 i0 x3 (x4 + 1) σ)
set_option maxRecDepth 20000 in
theorem zb_X2_know_86 {S : Shp} {rc71 : Nat → Int32 → Int32 → Mm → Option (Mm)} (hrc71 : ∀ {i0 : Nat} (hi0 : slv (sH S) i0 = true) {x3 : Int32} {x4 : Int32} {σ : Mm} {r : Mm}, rc71 i0 x3 x4 σ = some r → Z m_X2_know S (Qv r) 71 [(0, .ref (sL S 0 0 15)), (2, .ref (sL S 2 i0 0)), (3, .int (x3)), (4, .int (x4))] [] σ) {i0 : Nat} (hi0 : slv (sH S) i0 = true) {x3 : Int32} {x4 : Int32} {σ : Mm} {r : Mm} (h : F_X2_know_86 rc71 i0 x3 x4 σ = some r) : Z m_X2_know S (Qv r) 86 [(0, .ref (sL S 0 0 15)), (2, .ref (sL S 2 i0 0)), (3, .int (x3)), (4, .int (x4))] [] σ := by
  unfold F_X2_know_86 at h
  refine z_iinc (j := 3) (v := x4 + 1) (lv' := [(0, .ref (sL S 0 0 15)), (2, .ref (sL S 2 i0 0)), (3, .int (x3)), (4, .int (x4 + 1))]) dX2_know_86 rfl rfl (by decide) [1, 2, 3, 0] rfl ?_
  refine z_goto (tgt := 71) dX2_know_89 (by decide) ?_
  exact hrc71 (hi0) h
def B_X2_know_71 (rc71 : Nat → Int32 → Int32 → Mm → Option (Mm)) (i0 : Nat) (x3 : Int32) (x4 : Int32) (σ : Mm) : Option (Mm) := (if (14 : Int32) ≤ x4 then (F_X2_know_95 FU i0 x3 0 σ) else (if inb x4 14 = true then (F_X2_know_86 rc71 i0 x3 x4 (setA σ 0 0 20 (upd (mA σ 0 0 20) x4.toNatClampNeg (vp_nar .boolean 0)))) else none))
set_option maxRecDepth 20000 in
theorem zB_X2_know_71 {S : Shp} {rc71 : Nat → Int32 → Int32 → Mm → Option (Mm)} (hrc71 : ∀ {i0 : Nat} (hi0 : slv (sH S) i0 = true) {x3 : Int32} {x4 : Int32} {σ : Mm} {r : Mm}, rc71 i0 x3 x4 σ = some r → Z m_X2_know S (Qv r) 71 [(0, .ref (sL S 0 0 15)), (2, .ref (sL S 2 i0 0)), (3, .int (x3)), (4, .int (x4))] [] σ) {i0 : Nat} (hi0 : slv (sH S) i0 = true) {x3 : Int32} {x4 : Int32} {σ : Mm} {r : Mm} (h : B_X2_know_71 rc71 i0 x3 x4 σ = some r) : Z m_X2_know S (Qv r) 71 [(0, .ref (sL S 0 0 15)), (2, .ref (sL S 2 i0 0)), (3, .int (x3)), (4, .int (x4))] [] σ := by
  unfold B_X2_know_71 at h
  refine z_iload dX2_know_71 3 rfl ?_
  refine z_bipush (v := 14) dX2_know_73 (by decide) ?_
  refine z_icmp_ge (tgt := 92) dX2_know_75 (by decide) (fun q => ?_) (fun q => ?_)
  · have h := (if_pos q).symm.trans h
    refine z_iconst (v := 0) dX2_know_92 (by decide) ?_
    refine z_istore (lv' := [(0, .ref (sL S 0 0 15)), (2, .ref (sL S 2 i0 0)), (3, .int (x3)), (4, .int (0))]) dX2_know_93 (by decide) [1, 2, 3, 0] rfl ?_
    exact zl_X2_know_95 FU (hi0) h
  · have h := (if_neg q).symm.trans h
    obtain ⟨g1, h⟩ := gd h
    refine z_aload_n dX2_know_78 rfl 0 rfl ?_
    refine gf_2_28 rfl dX2_know_79 ?_
    refine z_iload dX2_know_82 3 rfl ?_
    refine z_iconst (v := 0) dX2_know_84 (by decide) ?_
    refine is_0_20 (inb_in g1) dX2_know_85 ?_
    exact zb_X2_know_86 hrc71 (hi0) h
def F_X2_know_71 : Nat → Nat → Int32 → Int32 → Mm → Option (Mm)
  | 0 => fun _ _ _ _ => none
  | n + 1 => B_X2_know_71 (F_X2_know_71 n)
theorem zl_X2_know_71 {S : Shp} : ∀ (nn : Nat) {i0 : Nat} (hi0 : slv (sH S) i0 = true) {x3 : Int32} {x4 : Int32} {σ : Mm} {r : Mm}, F_X2_know_71 nn i0 x3 x4 σ = some r → Z m_X2_know S (Qv r) 71 [(0, .ref (sL S 0 0 15)), (2, .ref (sL S 2 i0 0)), (3, .int (x3)), (4, .int (x4))] [] σ := by
  intro nn
  induction nn with
  | zero => intro i0 hi0 x3 x4 σ r h; cases h
  | succ nn ih => intro i0 hi0 x3 x4 σ r h; exact zB_X2_know_71 @ih hi0 h
def F_X2_know_68 (i0 : Nat) (x3 : Int32) (σ : Mm) : Option (Mm) := (F_X2_know_71 FU i0 x3 0 σ)
set_option maxRecDepth 20000 in
theorem zb_X2_know_68 {S : Shp} {i0 : Nat} (hi0 : slv (sH S) i0 = true) {x3 : Int32} {σ : Mm} {r : Mm} (h : F_X2_know_68 i0 x3 σ = some r) : Z m_X2_know S (Qv r) 68 [(0, .ref (sL S 0 0 15)), (2, .ref (sL S 2 i0 0)), (3, .int (x3))] [] σ := by
  unfold F_X2_know_68 at h
  refine z_iconst (v := 0) dX2_know_68 (by decide) ?_
  refine z_istore (lv' := [(0, .ref (sL S 0 0 15)), (2, .ref (sL S 2 i0 0)), (3, .int (x3)), (4, .int (0))]) dX2_know_69 (by decide) [1, 2, 3, 0] rfl ?_
  exact zl_X2_know_71 FU (hi0) h
def F_X2_know_53 (i0 : Nat) (i1 : Nat) (x3 : Int32) (σ : Mm) : Option (Mm) := (F_X2_know_68 i1 x3 (setA σ 0 0 19 (va_cpy (mA σ 1 i0 4) (mA σ 0 0 19) (0 : Int32).toNatClampNeg (0 : Int32).toNatClampNeg (14 : Int32).toNatClampNeg)))
set_option maxRecDepth 20000 in
theorem zb_X2_know_53 {S : Shp} {i0 : Nat} (hi0 : tlv (sH S) i0 = true) {i1 : Nat} (hi1 : slv (sH S) i1 = true) {x3 : Int32} {σ : Mm} {r : Mm} (h : F_X2_know_53 i0 i1 x3 σ = some r) : Z m_X2_know S (Qv r) 53 [(0, .ref (sL S 0 0 15)), (1, .ref (sL S 1 i0 0)), (2, .ref (sL S 2 i1 0)), (3, .int (x3))] [] σ := by
  unfold F_X2_know_53 at h
  refine z_aload_n dX2_know_53 rfl 1 rfl ?_
  refine gf_2_59 (lv1 (hi0) rfl) rfl dX2_know_54 ?_
  refine z_iconst (v := 0) dX2_know_57 (by decide) ?_
  refine z_aload_n dX2_know_58 rfl 0 rfl ?_
  refine gf_2_25 rfl dX2_know_59 ?_
  refine z_iconst (v := 0) dX2_know_62 (by decide) ?_
  refine z_bipush (v := 14) dX2_know_63 (by decide) ?_
  refine z_copyi (n0 := 14) (n1 := 14) kn_2_51 (lv1 (hi0) rfl) (fun _ _ => rfl) rfl (fun _ _ => rfl) (by decide) (by decide) (by decide) (by decide) (by decide) (Nat.le_of_ble_eq_true rfl) (Nat.le_of_ble_eq_true rfl) dX2_know_65 ?_
  refine Z.lv [0, 2, 3] rfl ?_
  exact zb_X2_know_68 (hi1) h
def F_X2_know_38 (i0 : Nat) (i1 : Nat) (x3 : Int32) (σ : Mm) : Option (Mm) := (F_X2_know_53 i0 i1 x3 (setA σ 0 0 18 (va_cpy (mA σ 1 i0 3) (mA σ 0 0 18) (0 : Int32).toNatClampNeg (0 : Int32).toNatClampNeg (14 : Int32).toNatClampNeg)))
set_option maxRecDepth 20000 in
theorem zb_X2_know_38 {S : Shp} {i0 : Nat} (hi0 : tlv (sH S) i0 = true) {i1 : Nat} (hi1 : slv (sH S) i1 = true) {x3 : Int32} {σ : Mm} {r : Mm} (h : F_X2_know_38 i0 i1 x3 σ = some r) : Z m_X2_know S (Qv r) 38 [(0, .ref (sL S 0 0 15)), (1, .ref (sL S 1 i0 0)), (2, .ref (sL S 2 i1 0)), (3, .int (x3))] [] σ := by
  unfold F_X2_know_38 at h
  refine z_aload_n dX2_know_38 rfl 1 rfl ?_
  refine gf_2_58 (lv1 (hi0) rfl) rfl dX2_know_39 ?_
  refine z_iconst (v := 0) dX2_know_42 (by decide) ?_
  refine z_aload_n dX2_know_43 rfl 0 rfl ?_
  refine gf_2_22 rfl dX2_know_44 ?_
  refine z_iconst (v := 0) dX2_know_47 (by decide) ?_
  refine z_bipush (v := 14) dX2_know_48 (by decide) ?_
  refine z_copyi (n0 := 14) (n1 := 14) kn_2_51 (lv1 (hi0) rfl) (fun _ _ => rfl) rfl (fun _ _ => rfl) (by decide) (by decide) (by decide) (by decide) (by decide) (Nat.le_of_ble_eq_true rfl) (Nat.le_of_ble_eq_true rfl) dX2_know_50 ?_
  exact zb_X2_know_53 (hi0) (hi1) h
def F_X2_know_23 (i0 : Nat) (i1 : Nat) (x3 : Int32) (σ : Mm) : Option (Mm) := (F_X2_know_38 i0 i1 x3 (setA σ 0 0 17 (va_cpy (mA σ 1 i0 2) (mA σ 0 0 17) (0 : Int32).toNatClampNeg (0 : Int32).toNatClampNeg (14 : Int32).toNatClampNeg)))
set_option maxRecDepth 20000 in
theorem zb_X2_know_23 {S : Shp} {i0 : Nat} (hi0 : tlv (sH S) i0 = true) {i1 : Nat} (hi1 : slv (sH S) i1 = true) {x3 : Int32} {σ : Mm} {r : Mm} (h : F_X2_know_23 i0 i1 x3 σ = some r) : Z m_X2_know S (Qv r) 23 [(0, .ref (sL S 0 0 15)), (1, .ref (sL S 1 i0 0)), (2, .ref (sL S 2 i1 0)), (3, .int (x3))] [] σ := by
  unfold F_X2_know_23 at h
  refine z_aload_n dX2_know_23 rfl 1 rfl ?_
  refine gf_2_57 (lv1 (hi0) rfl) rfl dX2_know_24 ?_
  refine z_iconst (v := 0) dX2_know_27 (by decide) ?_
  refine z_aload_n dX2_know_28 rfl 0 rfl ?_
  refine gf_2_19 rfl dX2_know_29 ?_
  refine z_iconst (v := 0) dX2_know_32 (by decide) ?_
  refine z_bipush (v := 14) dX2_know_33 (by decide) ?_
  refine z_copyi (n0 := 14) (n1 := 14) kn_2_51 (lv1 (hi0) rfl) (fun _ _ => rfl) rfl (fun _ _ => rfl) (by decide) (by decide) (by decide) (by decide) (by decide) (Nat.le_of_ble_eq_true rfl) (Nat.le_of_ble_eq_true rfl) dX2_know_35 ?_
  exact zb_X2_know_38 (hi0) (hi1) h
def F_X2_know_8 (i0 : Nat) (i1 : Nat) (x3 : Int32) (σ : Mm) : Option (Mm) := (F_X2_know_23 i0 i1 x3 (setA σ 0 0 16 (va_cpy (mA σ 1 i0 1) (mA σ 0 0 16) (0 : Int32).toNatClampNeg (0 : Int32).toNatClampNeg (14 : Int32).toNatClampNeg)))
set_option maxRecDepth 20000 in
theorem zb_X2_know_8 {S : Shp} {i0 : Nat} (hi0 : tlv (sH S) i0 = true) {i1 : Nat} (hi1 : slv (sH S) i1 = true) {x3 : Int32} {σ : Mm} {r : Mm} (h : F_X2_know_8 i0 i1 x3 σ = some r) : Z m_X2_know S (Qv r) 8 [(0, .ref (sL S 0 0 15)), (1, .ref (sL S 1 i0 0)), (2, .ref (sL S 2 i1 0)), (3, .int (x3))] [] σ := by
  unfold F_X2_know_8 at h
  refine z_aload_n dX2_know_8 rfl 1 rfl ?_
  refine gf_2_50 (lv1 (hi0) rfl) rfl dX2_know_9 ?_
  refine z_iconst (v := 0) dX2_know_12 (by decide) ?_
  refine z_aload_n dX2_know_13 rfl 0 rfl ?_
  refine gf_2_15 rfl dX2_know_14 ?_
  refine z_iconst (v := 0) dX2_know_17 (by decide) ?_
  refine z_bipush (v := 14) dX2_know_18 (by decide) ?_
  refine z_copyi (n0 := 14) (n1 := 14) kn_2_51 (lv1 (hi0) rfl) (fun _ _ => rfl) rfl (fun _ _ => rfl) (by decide) (by decide) (by decide) (by decide) (by decide) (Nat.le_of_ble_eq_true rfl) (Nat.le_of_ble_eq_true rfl) dX2_know_20 ?_
  exact zb_X2_know_23 (hi0) (hi1) h
def F_X2_know (i0 : Nat) (i1 : Nat) (x3 : Int32) (σ : Mm) : Option (Mm) := (F_X2_know_8 i0 i1 x3 (setA σ 0 0 15 (upd (mA σ 0 0 15) 0 (mA σ 1 i0 0 1))))
set_option maxRecDepth 20000 in
theorem zb_X2_know {S : Shp} {i0 : Nat} (hi0 : tlv (sH S) i0 = true) {i1 : Nat} (hi1 : slv (sH S) i1 = true) {x3 : Int32} {σ : Mm} {r : Mm} (h : F_X2_know i0 i1 x3 σ = some r) : Z m_X2_know S (Qv r) 0 [(0, .ref (sL S 0 0 15)), (1, .ref (sL S 1 i0 0)), (2, .ref (sL S 2 i1 0)), (3, .int (x3))] [] σ := by
  unfold F_X2_know at h
  refine z_aload_n dX2_know_0 rfl 0 rfl ?_
  refine z_aload_n dX2_know_1 rfl 1 rfl ?_
  refine gf_2_47 (lv1 (hi0) rfl) rfl dX2_know_2 ?_
  refine pf_2_9 rfl dX2_know_5 ?_
  exact zb_X2_know_8 (hi0) (hi1) h
/-- SkyStones$Ground.know(LSkyStones$Told;LSkyStones$Survey;I)V -/
theorem c_X2_know {S : Shp} {i0 : Nat} (hi0 : tlv (sH S) i0 = true) {i1 : Nat} (hi1 : slv (sH S) i1 = true) {x3 : Int32} {σ : Mm} {r : Mm} (h : F_X2_know i0 i1 x3 σ = some r) : Ct m_X2_know S [.ref (sL S 0 0 15), .ref (sL S 1 i0 0), .ref (sL S 2 i1 0), .int (x3)] σ (Qv r) := Ct.of (by decide +kernel) (Nat.le_of_ble_eq_true rfl) (zb_X2_know hi0 hi1 h)
def F_X9_hillOver_90 (rc7 : Nat → Int32 → Int32 → Mm → Option (Int32 × Mm)) (i0 : Nat) (x1 : Int32) (x2 : Int32) (s0 : Int32) (σ : Mm) : Option (Int32 × Mm) := (if s0 = 0 then (rc7 i0 x1 (x2 + (-1)) σ) else (if inb x2 12 = true then some (mA σ 1 i0 8 x2.toNatClampNeg, σ) else none))
set_option maxRecDepth 20000 in
theorem zb_X9_hillOver_90 {S : Shp} {rc7 : Nat → Int32 → Int32 → Mm → Option (Int32 × Mm)} (hrc7 : ∀ {i0 : Nat} (hi0 : tlv (sH S) i0 = true) {x1 : Int32} {x2 : Int32} {σ : Mm} {r : Int32 × Mm}, rc7 i0 x1 x2 σ = some r → Z m_X9_hillOver S (Qi r) 7 [(0, .ref (sL S 1 i0 0)), (1, .int (x1)), (2, .int (x2))] [] σ) {i0 : Nat} (hi0 : tlv (sH S) i0 = true) {x1 : Int32} {x2 : Int32} {s0 : Int32} {σ : Mm} {r : Int32 × Mm} (h : F_X9_hillOver_90 rc7 i0 x1 x2 s0 σ = some r) : Z m_X9_hillOver S (Qi r) 90 [(0, .ref (sL S 1 i0 0)), (1, .int (x1)), (2, .int (x2))] [.int (s0)] σ := by
  unfold F_X9_hillOver_90 at h
  refine z_istore (lv' := [(0, .ref (sL S 1 i0 0)), (1, .int (x1)), (2, .int (x2)), (5, .int (s0))]) dX9_hillOver_90 (by decide) [1, 2, 3, 0] rfl ?_
  refine z_iload dX9_hillOver_92 3 rfl ?_
  refine z_if_eq (tgt := 104) dX9_hillOver_94 (by decide) (fun q => ?_) (fun q => ?_)
  · have h := (if_pos q).symm.trans h
    refine z_iinc (j := 2) (v := x2 + (-1)) (lv' := [(0, .ref (sL S 1 i0 0)), (1, .int (x1)), (2, .int (x2 + (-1))), (5, .int (s0))]) dX9_hillOver_104 rfl rfl (by decide) [1, 2, 0, 3] rfl ?_
    refine z_goto (tgt := 7) dX9_hillOver_107 (by decide) ?_
    refine Z.lv [0, 1, 2] rfl ?_
    exact hrc7 (hi0) h
  · have h := (if_neg q).symm.trans h
    obtain ⟨g5, h⟩ := gd h
    refine z_aload_n dX9_hillOver_97 rfl 0 rfl ?_
    refine gf_9_46 (lv1 (hi0) rfl) rfl dX9_hillOver_98 ?_
    refine z_iload_n dX9_hillOver_101 rfl 2 rfl ?_
    refine ia_1_8 (lv1 (hi0) rfl) (inb_in g5) dX9_hillOver_102 ?_
    cases h
    exact z_ireturn dX9_hillOver_103 rfl rfl ⟨rfl, rfl⟩
def F_X9_hillOver_85 (rc7 : Nat → Int32 → Int32 → Mm → Option (Int32 × Mm)) (i0 : Nat) (x1 : Int32) (x2 : Int32) (σ : Mm) : Option (Int32 × Mm) := (F_X9_hillOver_90 rc7 i0 x1 x2 1 σ)
set_option maxRecDepth 20000 in
theorem zb_X9_hillOver_85 {S : Shp} {rc7 : Nat → Int32 → Int32 → Mm → Option (Int32 × Mm)} (hrc7 : ∀ {i0 : Nat} (hi0 : tlv (sH S) i0 = true) {x1 : Int32} {x2 : Int32} {σ : Mm} {r : Int32 × Mm}, rc7 i0 x1 x2 σ = some r → Z m_X9_hillOver S (Qi r) 7 [(0, .ref (sL S 1 i0 0)), (1, .int (x1)), (2, .int (x2))] [] σ) {i0 : Nat} (hi0 : tlv (sH S) i0 = true) {x1 : Int32} {x2 : Int32} {σ : Mm} {r : Int32 × Mm} (h : F_X9_hillOver_85 rc7 i0 x1 x2 σ = some r) : Z m_X9_hillOver S (Qi r) 85 [(0, .ref (sL S 1 i0 0)), (1, .int (x1)), (2, .int (x2))] [] σ := by
  unfold F_X9_hillOver_85 at h
  refine z_iconst (v := 1) dX9_hillOver_85 (by decide) ?_
  refine z_goto (tgt := 90) dX9_hillOver_86 (by decide) ?_
  exact zb_X9_hillOver_90 hrc7 (hi0) h
def F_X9_hillOver_72 (rc7 : Nat → Int32 → Int32 → Mm → Option (Int32 × Mm)) (i0 : Nat) (x1 : Int32) (x2 : Int32) (σ : Mm) : Option (Int32 × Mm) := (F_X9_hillOver_90 rc7 i0 x1 x2 0 σ)
set_option maxRecDepth 20000 in
theorem zb_X9_hillOver_72 {S : Shp} {rc7 : Nat → Int32 → Int32 → Mm → Option (Int32 × Mm)} (hrc7 : ∀ {i0 : Nat} (hi0 : tlv (sH S) i0 = true) {x1 : Int32} {x2 : Int32} {σ : Mm} {r : Int32 × Mm}, rc7 i0 x1 x2 σ = some r → Z m_X9_hillOver S (Qi r) 7 [(0, .ref (sL S 1 i0 0)), (1, .int (x1)), (2, .int (x2))] [] σ) {i0 : Nat} (hi0 : tlv (sH S) i0 = true) {x1 : Int32} {x2 : Int32} {σ : Mm} {r : Int32 × Mm} (h : F_X9_hillOver_72 rc7 i0 x1 x2 σ = some r) : Z m_X9_hillOver S (Qi r) 72 [(0, .ref (sL S 1 i0 0)), (1, .int (x1)), (2, .int (x2))] [] σ := by
  unfold F_X9_hillOver_72 at h
  refine z_iconst (v := 0) dX9_hillOver_72 (by decide) ?_
  refine z_goto (tgt := 90) dX9_hillOver_73 (by decide) ?_
  exact zb_X9_hillOver_90 hrc7 (hi0) h
def F_X9_hillOver_42 (rc7 : Nat → Int32 → Int32 → Mm → Option (Int32 × Mm)) (i0 : Nat) (x1 : Int32) (x2 : Int32) (x3 : Int32) (s0 : Int32) (σ : Mm) : Option (Int32 × Mm) := (if inb x2 12 = true then (if inb x2 12 = true then (if (mA σ 1 i0 7 x2.toNatClampNeg) < (mA σ 1 i0 6 x2.toNatClampNeg) then (if x3 = 0 then (if s0 = 0 then (F_X9_hillOver_90 rc7 i0 x1 x2 0 σ) else (F_X9_hillOver_85 rc7 i0 x1 x2 σ)) else (F_X9_hillOver_85 rc7 i0 x1 x2 σ)) else (if x3 = 0 then (F_X9_hillOver_72 rc7 i0 x1 x2 σ) else (if s0 = 0 then (F_X9_hillOver_72 rc7 i0 x1 x2 σ) else (F_X9_hillOver_90 rc7 i0 x1 x2 1 σ)))) else none) else none)
set_option maxRecDepth 20000 in
theorem zb_X9_hillOver_42 {S : Shp} {rc7 : Nat → Int32 → Int32 → Mm → Option (Int32 × Mm)} (hrc7 : ∀ {i0 : Nat} (hi0 : tlv (sH S) i0 = true) {x1 : Int32} {x2 : Int32} {σ : Mm} {r : Int32 × Mm}, rc7 i0 x1 x2 σ = some r → Z m_X9_hillOver S (Qi r) 7 [(0, .ref (sL S 1 i0 0)), (1, .int (x1)), (2, .int (x2))] [] σ) {i0 : Nat} (hi0 : tlv (sH S) i0 = true) {x1 : Int32} {x2 : Int32} {x3 : Int32} {s0 : Int32} {σ : Mm} {r : Int32 × Mm} (h : F_X9_hillOver_42 rc7 i0 x1 x2 x3 s0 σ = some r) : Z m_X9_hillOver S (Qi r) 42 [(0, .ref (sL S 1 i0 0)), (1, .int (x1)), (2, .int (x2)), (3, .int (x3))] [.int (s0)] σ := by
  unfold F_X9_hillOver_42 at h
  obtain ⟨g3, h⟩ := gd h
  refine z_istore (lv' := [(0, .ref (sL S 1 i0 0)), (1, .int (x1)), (2, .int (x2)), (3, .int (x3)), (4, .int (s0))]) dX9_hillOver_42 (by decide) [1, 2, 3, 4, 0] rfl ?_
  refine z_aload_n dX9_hillOver_44 rfl 0 rfl ?_
  refine gf_9_40 (lv1 (hi0) rfl) rfl dX9_hillOver_45 ?_
  refine z_iload_n dX9_hillOver_48 rfl 2 rfl ?_
  obtain ⟨g4, h⟩ := gd h
  refine ia_1_6 (lv1 (hi0) rfl) (inb_in g3) dX9_hillOver_49 ?_
  refine z_aload_n dX9_hillOver_50 rfl 0 rfl ?_
  refine gf_9_43 (lv1 (hi0) rfl) rfl dX9_hillOver_51 ?_
  refine z_iload_n dX9_hillOver_54 rfl 2 rfl ?_
  refine ia_1_7 (lv1 (hi0) rfl) (inb_in g4) dX9_hillOver_55 ?_
  refine z_icmp_gt (tgt := 76) dX9_hillOver_56 (by decide) (fun q => ?_) (fun q => ?_)
  · have h := (if_pos q).symm.trans h
    refine z_iload_n dX9_hillOver_76 rfl 3 rfl ?_
    refine z_if_ne (tgt := 85) dX9_hillOver_77 (by decide) (fun q => ?_) (fun q => ?_)
    · have h := (if_neg q).symm.trans h
      refine Z.lv [0, 1, 2] rfl ?_
      exact zb_X9_hillOver_85 hrc7 (hi0) h
    · have h := (if_pos q).symm.trans h
      refine z_iload dX9_hillOver_80 4 rfl ?_
      refine z_if_eq (tgt := 89) dX9_hillOver_82 (by decide) (fun q => ?_) (fun q => ?_)
      · have h := (if_pos q).symm.trans h
        refine z_iconst (v := 0) dX9_hillOver_89 (by decide) ?_
        refine Z.lv [0, 1, 2] rfl ?_
        exact zb_X9_hillOver_90 hrc7 (hi0) h
      · have h := (if_neg q).symm.trans h
        refine Z.lv [0, 1, 2] rfl ?_
        exact zb_X9_hillOver_85 hrc7 (hi0) h
  · have h := (if_neg q).symm.trans h
    refine z_iload_n dX9_hillOver_59 rfl 3 rfl ?_
    refine z_if_eq (tgt := 72) dX9_hillOver_60 (by decide) (fun q => ?_) (fun q => ?_)
    · have h := (if_pos q).symm.trans h
      refine Z.lv [0, 1, 2] rfl ?_
      exact zb_X9_hillOver_72 hrc7 (hi0) h
    · have h := (if_neg q).symm.trans h
      refine z_iload dX9_hillOver_63 4 rfl ?_
      refine z_if_eq (tgt := 72) dX9_hillOver_65 (by decide) (fun q => ?_) (fun q => ?_)
      · have h := (if_pos q).symm.trans h
        refine Z.lv [0, 1, 2] rfl ?_
        exact zb_X9_hillOver_72 hrc7 (hi0) h
      · have h := (if_neg q).symm.trans h
        refine z_iconst (v := 1) dX9_hillOver_68 (by decide) ?_
        refine z_goto (tgt := 90) dX9_hillOver_69 (by decide) ?_
        refine Z.lv [0, 1, 2] rfl ?_
        exact zb_X9_hillOver_90 hrc7 (hi0) h
def F_X9_hillOver_26 (rc7 : Nat → Int32 → Int32 → Mm → Option (Int32 × Mm)) (i0 : Nat) (x1 : Int32) (x2 : Int32) (s0 : Int32) (σ : Mm) : Option (Int32 × Mm) := (if inb x2 12 = true then (if (mA σ 1 i0 7 x2.toNatClampNeg) < x1 then (F_X9_hillOver_42 rc7 i0 x1 x2 s0 0 σ) else (F_X9_hillOver_42 rc7 i0 x1 x2 s0 1 σ)) else none)
set_option maxRecDepth 20000 in
theorem zb_X9_hillOver_26 {S : Shp} {rc7 : Nat → Int32 → Int32 → Mm → Option (Int32 × Mm)} (hrc7 : ∀ {i0 : Nat} (hi0 : tlv (sH S) i0 = true) {x1 : Int32} {x2 : Int32} {σ : Mm} {r : Int32 × Mm}, rc7 i0 x1 x2 σ = some r → Z m_X9_hillOver S (Qi r) 7 [(0, .ref (sL S 1 i0 0)), (1, .int (x1)), (2, .int (x2))] [] σ) {i0 : Nat} (hi0 : tlv (sH S) i0 = true) {x1 : Int32} {x2 : Int32} {s0 : Int32} {σ : Mm} {r : Int32 × Mm} (h : F_X9_hillOver_26 rc7 i0 x1 x2 s0 σ = some r) : Z m_X9_hillOver S (Qi r) 26 [(0, .ref (sL S 1 i0 0)), (1, .int (x1)), (2, .int (x2))] [.int (s0)] σ := by
  unfold F_X9_hillOver_26 at h
  obtain ⟨g2, h⟩ := gd h
  refine z_istore_n (lv' := [(0, .ref (sL S 1 i0 0)), (1, .int (x1)), (2, .int (x2)), (3, .int (s0))]) dX9_hillOver_26 rfl (by decide) [1, 2, 3, 0] rfl ?_
  refine z_iload_n dX9_hillOver_27 rfl 1 rfl ?_
  refine z_aload_n dX9_hillOver_28 rfl 0 rfl ?_
  refine gf_9_43 (lv1 (hi0) rfl) rfl dX9_hillOver_29 ?_
  refine z_iload_n dX9_hillOver_32 rfl 2 rfl ?_
  refine ia_1_7 (lv1 (hi0) rfl) (inb_in g2) dX9_hillOver_33 ?_
  refine z_icmp_gt (tgt := 41) dX9_hillOver_34 (by decide) (fun q => ?_) (fun q => ?_)
  · have h := (if_pos q).symm.trans h
    refine z_iconst (v := 0) dX9_hillOver_41 (by decide) ?_
    exact zb_X9_hillOver_42 hrc7 (hi0) h
  · have h := (if_neg q).symm.trans h
    refine z_iconst (v := 1) dX9_hillOver_37 (by decide) ?_
    refine z_goto (tgt := 42) dX9_hillOver_38 (by decide) ?_
    exact zb_X9_hillOver_42 hrc7 (hi0) h
def B_X9_hillOver_7 (rc7 : Nat → Int32 → Int32 → Mm → Option (Int32 × Mm)) (i0 : Nat) (x1 : Int32) (x2 : Int32) (σ : Mm) : Option (Int32 × Mm) := (if x2 < 0 then some (0, σ) else (if inb x2 12 = true then (if x1 < (mA σ 1 i0 6 x2.toNatClampNeg) then (F_X9_hillOver_26 rc7 i0 x1 x2 0 σ) else (F_X9_hillOver_26 rc7 i0 x1 x2 1 σ)) else none))
set_option maxRecDepth 20000 in
theorem zB_X9_hillOver_7 {S : Shp} {rc7 : Nat → Int32 → Int32 → Mm → Option (Int32 × Mm)} (hrc7 : ∀ {i0 : Nat} (hi0 : tlv (sH S) i0 = true) {x1 : Int32} {x2 : Int32} {σ : Mm} {r : Int32 × Mm}, rc7 i0 x1 x2 σ = some r → Z m_X9_hillOver S (Qi r) 7 [(0, .ref (sL S 1 i0 0)), (1, .int (x1)), (2, .int (x2))] [] σ) {i0 : Nat} (hi0 : tlv (sH S) i0 = true) {x1 : Int32} {x2 : Int32} {σ : Mm} {r : Int32 × Mm} (h : B_X9_hillOver_7 rc7 i0 x1 x2 σ = some r) : Z m_X9_hillOver S (Qi r) 7 [(0, .ref (sL S 1 i0 0)), (1, .int (x1)), (2, .int (x2))] [] σ := by
  unfold B_X9_hillOver_7 at h
  refine z_iload_n dX9_hillOver_7 rfl 2 rfl ?_
  refine z_if_lt (tgt := 110) dX9_hillOver_8 (by decide) (fun q => ?_) (fun q => ?_)
  · have h := (if_pos q).symm.trans h
    refine z_iconst (v := 0) dX9_hillOver_110 (by decide) ?_
    cases h
    exact z_ireturn dX9_hillOver_111 rfl rfl ⟨rfl, rfl⟩
  · have h := (if_neg q).symm.trans h
    obtain ⟨g1, h⟩ := gd h
    refine z_iload_n dX9_hillOver_11 rfl 1 rfl ?_
    refine z_aload_n dX9_hillOver_12 rfl 0 rfl ?_
    refine gf_9_40 (lv1 (hi0) rfl) rfl dX9_hillOver_13 ?_
    refine z_iload_n dX9_hillOver_16 rfl 2 rfl ?_
    refine ia_1_6 (lv1 (hi0) rfl) (inb_in g1) dX9_hillOver_17 ?_
    refine z_icmp_lt (tgt := 25) dX9_hillOver_18 (by decide) (fun q => ?_) (fun q => ?_)
    · have h := (if_pos q).symm.trans h
      refine z_iconst (v := 0) dX9_hillOver_25 (by decide) ?_
      exact zb_X9_hillOver_26 hrc7 (hi0) h
    · have h := (if_neg q).symm.trans h
      refine z_iconst (v := 1) dX9_hillOver_21 (by decide) ?_
      refine z_goto (tgt := 26) dX9_hillOver_22 (by decide) ?_
      exact zb_X9_hillOver_26 hrc7 (hi0) h
def F_X9_hillOver_7 : Nat → Nat → Int32 → Int32 → Mm → Option (Int32 × Mm)
  | 0 => fun _ _ _ _ => none
  | n + 1 => B_X9_hillOver_7 (F_X9_hillOver_7 n)
theorem zl_X9_hillOver_7 {S : Shp} : ∀ (nn : Nat) {i0 : Nat} (hi0 : tlv (sH S) i0 = true) {x1 : Int32} {x2 : Int32} {σ : Mm} {r : Int32 × Mm}, F_X9_hillOver_7 nn i0 x1 x2 σ = some r → Z m_X9_hillOver S (Qi r) 7 [(0, .ref (sL S 1 i0 0)), (1, .int (x1)), (2, .int (x2))] [] σ := by
  intro nn
  induction nn with
  | zero => intro i0 hi0 x1 x2 σ r h; cases h
  | succ nn ih => intro i0 hi0 x1 x2 σ r h; exact zB_X9_hillOver_7 @ih hi0 h
def F_X9_hillOver (i0 : Nat) (x1 : Int32) (σ : Mm) : Option (Int32 × Mm) := (F_X9_hillOver_7 FU i0 x1 ((mA σ 1 i0 0 8) - (1 : Int32)) σ)
set_option maxRecDepth 20000 in
theorem zb_X9_hillOver {S : Shp} {i0 : Nat} (hi0 : tlv (sH S) i0 = true) {x1 : Int32} {σ : Mm} {r : Int32 × Mm} (h : F_X9_hillOver i0 x1 σ = some r) : Z m_X9_hillOver S (Qi r) 0 [(0, .ref (sL S 1 i0 0)), (1, .int (x1))] [] σ := by
  unfold F_X9_hillOver at h
  refine z_aload_n dX9_hillOver_0 rfl 0 rfl ?_
  refine gf_9_37 (lv1 (hi0) rfl) rfl dX9_hillOver_1 ?_
  refine z_iconst (v := 1) dX9_hillOver_4 (by decide) ?_
  refine z_isub dX9_hillOver_5 ?_
  refine z_istore_n (lv' := [(0, .ref (sL S 1 i0 0)), (1, .int (x1)), (2, .int ((mA σ 1 i0 0 8) - (1 : Int32)))]) dX9_hillOver_6 rfl (by decide) [1, 2, 0] rfl ?_
  exact zl_X9_hillOver_7 FU (hi0) h
/-- SkyStones$Told.hillOver(I)I -/
theorem c_X9_hillOver {S : Shp} {i0 : Nat} (hi0 : tlv (sH S) i0 = true) {x1 : Int32} {σ : Mm} {r : Int32 × Mm} (h : F_X9_hillOver i0 x1 σ = some r) : Ct m_X9_hillOver S [.ref (sL S 1 i0 0), .int (x1)] σ (Qi r) := Ct.of (by decide +kernel) (Nat.le_of_ble_eq_true rfl) (zb_X9_hillOver hi0 h)
def F_X6_rising_64 (s0 : Int32) (σ : Mm) : Option (Int32 × Mm) := some (s0, σ)
set_option maxRecDepth 20000 in
theorem zb_X6_rising_64 {S : Shp} {s0 : Int32} {σ : Mm} {r : Int32 × Mm} (h : F_X6_rising_64 s0 σ = some r) : Z m_X6_rising S (Qi r) 64 [] [.int (s0)] σ := by
  unfold F_X6_rising_64 at h
  cases h
  exact z_ireturn dX6_rising_64 rfl rfl ⟨rfl, rfl⟩
def F_X6_rising_58 (s0 : Int32) (σ : Mm) : Option (Int32 × Mm) := (bnd (F_J9_floorMod_7cf53 s0 360 σ) (fun v τ => (F_X6_rising_64 v τ)))
set_option maxRecDepth 20000 in
theorem zb_X6_rising_58 {S : Shp} {s0 : Int32} {σ : Mm} {r : Int32 × Mm} (h : F_X6_rising_58 s0 σ = some r) : Z m_X6_rising S (Qi r) 58 [] [.int (s0)] σ := by
  unfold F_X6_rising_58 at h
  refine z_sipush (v := 360) dX6_rising_58 (by decide) ?_
  obtain ⟨v, τ, hc, h⟩ := bnd_e h
  refine z_callS (M' := m_J9_floorMod_7cf53) (As := [.int (s0), .int (360)]) (rest := []) kl_6_37 oy_J9_floorMod_7cf53 ⟨Nat.le_of_ble_eq_true rfl, Nat.le_of_ble_eq_true rfl⟩ rfl (Nat.le_of_ble_eq_true rfl) rfl dX6_rising_61 (c_J9_floorMod_7cf53 hc) (fun v2 τ2 hq => ?_)
  obtain ⟨rfl, hτ⟩ := hq
  subst τ2
  change Z _ _ _ _ _ [.int (v)] _
  exact zb_X6_rising_64 h
def F_X6_rising_46 (i0 : Nat) (x2 : Int32) (σ : Mm) : Option (Int32 × Mm) := (bnd (F_X0_work_s i0 x2 σ) (fun v τ => (F_X6_rising_58 v τ)))
set_option maxRecDepth 20000 in
theorem zb_X6_rising_46 {S : Shp} {i0 : Nat} (hi0 : tlv (sH S) i0 = true) {x2 : Int32} {σ : Mm} {r : Int32 × Mm} (h : F_X6_rising_46 i0 x2 σ = some r) : Z m_X6_rising S (Qi r) 46 [(0, .ref (sL S 0 0 25)), (1, .ref (sL S 1 i0 0)), (2, .int (x2))] [] σ := by
  unfold F_X6_rising_46 at h
  refine z_aload_n dX6_rising_46 rfl 1 rfl ?_
  refine gf_6_25 (lv1 (hi0) rfl) rfl dX6_rising_47 ?_
  refine z_iload_n dX6_rising_50 rfl 2 rfl ?_
  refine z_aload_n dX6_rising_51 rfl 0 rfl ?_
  refine gf_6_22 rfl dX6_rising_52 ?_
  obtain ⟨v, τ, hc, h⟩ := bnd_e h
  refine z_callV (M' := m_X0_work) (t := 1) (i := i0) (k := 10) (As := [.int (x2), .ref (sL S 0 0 28)]) (rest := []) kl_6_31 oy_X0_work ⟨Nat.le_of_ble_eq_true rfl, Nat.le_of_ble_eq_true rfl⟩ (lv1 (hi0) rfl) rfl rfl rfl (Nat.le_of_ble_eq_true rfl) rfl dX6_rising_55 (c_X0_work_s (hi0) hc) (fun v2 τ2 hq => ?_)
  obtain ⟨rfl, hτ⟩ := hq
  subst τ2
  change Z _ _ _ _ _ [.int (v)] _
  refine Z.lv [] rfl ?_
  exact zb_X6_rising_58 h
def F_X6_rising_45 (i0 : Nat) (x2 : Int32) (s0 : Int32) (s1 : Int32) (σ : Mm) : Option (Int32 × Mm) := (if inb s1 9 = true then (F_X6_rising_46 i0 x2 (setA σ 0 0 28 (upd (mA σ 0 0 28) s1.toNatClampNeg s0))) else none)
set_option maxRecDepth 20000 in
theorem zb_X6_rising_45 {S : Shp} {i0 : Nat} (hi0 : tlv (sH S) i0 = true) {x2 : Int32} {s0 : Int32} {s1 : Int32} {σ : Mm} {r : Int32 × Mm} (h : F_X6_rising_45 i0 x2 s0 s1 σ = some r) : Z m_X6_rising S (Qi r) 45 [(0, .ref (sL S 0 0 25)), (1, .ref (sL S 1 i0 0)), (2, .int (x2))] [.int (s0), .int (s1), .ref (sL S 0 0 28)] σ := by
  unfold F_X6_rising_45 at h
  obtain ⟨g3, h⟩ := gd h
  refine is_0_28 (inb_in g3) dX6_rising_45 ?_
  exact zb_X6_rising_46 (hi0) h
def F_X6_rising_32 (i0 : Nat) (x2 : Int32) (s0 : Int32) (σ : Mm) : Option (Int32 × Mm) := (bnd (F_X9_hillOver i0 s0 σ) (fun v τ => (F_X6_rising_45 i0 x2 v 1 τ)))
set_option maxRecDepth 20000 in
theorem zb_X6_rising_32 {S : Shp} {i0 : Nat} (hi0 : tlv (sH S) i0 = true) {x2 : Int32} {s0 : Int32} {σ : Mm} {r : Int32 × Mm} (h : F_X6_rising_32 i0 x2 s0 σ = some r) : Z m_X6_rising S (Qi r) 32 [(0, .ref (sL S 0 0 25)), (1, .ref (sL S 1 i0 0)), (2, .int (x2))] [.int (s0)] σ := by
  unfold F_X6_rising_32 at h
  refine z_istore (lv' := [(0, .ref (sL S 0 0 25)), (1, .ref (sL S 1 i0 0)), (2, .int (x2)), (4, .int (s0))]) dX6_rising_32 (by decide) [1, 2, 3, 0] rfl ?_
  refine z_aload_n dX6_rising_34 rfl 0 rfl ?_
  refine gf_6_22 rfl dX6_rising_35 ?_
  refine z_iconst (v := 1) dX6_rising_38 (by decide) ?_
  refine z_aload_n dX6_rising_39 rfl 1 rfl ?_
  refine z_iload dX6_rising_40 3 rfl ?_
  obtain ⟨v, τ, hc, h⟩ := bnd_e h
  refine z_callV (M' := m_X9_hillOver) (t := 1) (i := i0) (k := 0) (As := [.int (s0)]) (rest := [.int (1), .ref (sL S 0 0 28)]) kl_6_43 oy_X9_hillOver ⟨Nat.le_of_ble_eq_true rfl, Nat.le_of_ble_eq_true rfl⟩ (lv1 (hi0) rfl) rfl rfl rfl (Nat.le_of_ble_eq_true rfl) rfl dX6_rising_42 (c_X9_hillOver (hi0) hc) (fun v2 τ2 hq => ?_)
  obtain ⟨rfl, hτ⟩ := hq
  subst τ2
  change Z _ _ _ _ _ [.int (v), .int (1), .ref (sL S 0 0 28)] _
  refine Z.lv [0, 1, 2] rfl ?_
  exact zb_X6_rising_45 (hi0) h
def F_X6_rising_26 (i0 : Nat) (x2 : Int32) (s0 : Int32) (σ : Mm) : Option (Int32 × Mm) := (bnd (F_J9_floorMod_7cf53 s0 360 σ) (fun v τ => (F_X6_rising_32 i0 x2 v τ)))
set_option maxRecDepth 20000 in
theorem zb_X6_rising_26 {S : Shp} {i0 : Nat} (hi0 : tlv (sH S) i0 = true) {x2 : Int32} {s0 : Int32} {σ : Mm} {r : Int32 × Mm} (h : F_X6_rising_26 i0 x2 s0 σ = some r) : Z m_X6_rising S (Qi r) 26 [(0, .ref (sL S 0 0 25)), (1, .ref (sL S 1 i0 0)), (2, .int (x2))] [.int (s0)] σ := by
  unfold F_X6_rising_26 at h
  refine z_sipush (v := 360) dX6_rising_26 (by decide) ?_
  obtain ⟨v, τ, hc, h⟩ := bnd_e h
  refine z_callS (M' := m_J9_floorMod_7cf53) (As := [.int (s0), .int (360)]) (rest := []) kl_6_37 oy_J9_floorMod_7cf53 ⟨Nat.le_of_ble_eq_true rfl, Nat.le_of_ble_eq_true rfl⟩ rfl (Nat.le_of_ble_eq_true rfl) rfl dX6_rising_29 (c_J9_floorMod_7cf53 hc) (fun v2 τ2 hq => ?_)
  obtain ⟨rfl, hτ⟩ := hq
  subst τ2
  change Z _ _ _ _ _ [.int (v)] _
  exact zb_X6_rising_32 (hi0) h
def F_X6_rising_14 (i0 : Nat) (x2 : Int32) (σ : Mm) : Option (Int32 × Mm) := (bnd (F_X0_work_s i0 x2 σ) (fun v τ => (F_X6_rising_26 i0 x2 v τ)))
set_option maxRecDepth 20000 in
theorem zb_X6_rising_14 {S : Shp} {i0 : Nat} (hi0 : tlv (sH S) i0 = true) {x2 : Int32} {σ : Mm} {r : Int32 × Mm} (h : F_X6_rising_14 i0 x2 σ = some r) : Z m_X6_rising S (Qi r) 14 [(0, .ref (sL S 0 0 25)), (1, .ref (sL S 1 i0 0)), (2, .int (x2))] [] σ := by
  unfold F_X6_rising_14 at h
  refine z_aload_n dX6_rising_14 rfl 1 rfl ?_
  refine gf_6_25 (lv1 (hi0) rfl) rfl dX6_rising_15 ?_
  refine z_iload_n dX6_rising_18 rfl 2 rfl ?_
  refine z_aload_n dX6_rising_19 rfl 0 rfl ?_
  refine gf_6_22 rfl dX6_rising_20 ?_
  obtain ⟨v, τ, hc, h⟩ := bnd_e h
  refine z_callV (M' := m_X0_work) (t := 1) (i := i0) (k := 10) (As := [.int (x2), .ref (sL S 0 0 28)]) (rest := []) kl_6_31 oy_X0_work ⟨Nat.le_of_ble_eq_true rfl, Nat.le_of_ble_eq_true rfl⟩ (lv1 (hi0) rfl) rfl rfl rfl (Nat.le_of_ble_eq_true rfl) rfl dX6_rising_23 (c_X0_work_s (hi0) hc) (fun v2 τ2 hq => ?_)
  obtain ⟨rfl, hτ⟩ := hq
  subst τ2
  change Z _ _ _ _ _ [.int (v)] _
  exact zb_X6_rising_26 (hi0) h
def F_X6_rising_7 (i0 : Nat) (x2 : Int32) (σ : Mm) : Option (Int32 × Mm) := (if inb 1 9 = true then (F_X6_rising_14 i0 x2 (setA σ 0 0 28 (upd (mA σ 0 0 28) (1 : Int32).toNatClampNeg 0))) else none)
set_option maxRecDepth 20000 in
theorem zb_X6_rising_7 {S : Shp} {i0 : Nat} (hi0 : tlv (sH S) i0 = true) {x2 : Int32} {σ : Mm} {r : Int32 × Mm} (h : F_X6_rising_7 i0 x2 σ = some r) : Z m_X6_rising S (Qi r) 7 [(0, .ref (sL S 0 0 25)), (1, .ref (sL S 1 i0 0)), (2, .int (x2))] [] σ := by
  unfold F_X6_rising_7 at h
  obtain ⟨g2, h⟩ := gd h
  refine z_aload_n dX6_rising_7 rfl 0 rfl ?_
  refine gf_6_22 rfl dX6_rising_8 ?_
  refine z_iconst (v := 1) dX6_rising_11 (by decide) ?_
  refine z_iconst (v := 0) dX6_rising_12 (by decide) ?_
  refine is_0_28 (inb_in g2) dX6_rising_13 ?_
  exact zb_X6_rising_14 (hi0) h
def F_X6_rising (i0 : Nat) (x2 : Int32) (x3 : Int32) (σ : Mm) : Option (Int32 × Mm) := (if inb 0 9 = true then (F_X6_rising_7 i0 x2 (setA σ 0 0 28 (upd (mA σ 0 0 28) (0 : Int32).toNatClampNeg x3))) else none)
set_option maxRecDepth 20000 in
theorem zb_X6_rising {S : Shp} {i0 : Nat} (hi0 : tlv (sH S) i0 = true) {x2 : Int32} {x3 : Int32} {σ : Mm} {r : Int32 × Mm} (h : F_X6_rising i0 x2 x3 σ = some r) : Z m_X6_rising S (Qi r) 0 [(0, .ref (sL S 0 0 25)), (1, .ref (sL S 1 i0 0)), (2, .int (x2)), (3, .int (x3))] [] σ := by
  unfold F_X6_rising at h
  obtain ⟨g1, h⟩ := gd h
  refine z_aload_n dX6_rising_0 rfl 0 rfl ?_
  refine gf_6_22 rfl dX6_rising_1 ?_
  refine z_iconst (v := 0) dX6_rising_4 (by decide) ?_
  refine z_iload_n dX6_rising_5 rfl 3 rfl ?_
  refine is_0_28 (inb_in g1) dX6_rising_6 ?_
  refine Z.lv [0, 1, 2] rfl ?_
  exact zb_X6_rising_7 (hi0) h
/-- SkyStones$Sky.rising(LSkyStones$Told;II)I -/
theorem c_X6_rising {S : Shp} {i0 : Nat} (hi0 : tlv (sH S) i0 = true) {x2 : Int32} {x3 : Int32} {σ : Mm} {r : Int32 × Mm} (h : F_X6_rising i0 x2 x3 σ = some r) : Ct m_X6_rising S [.ref (sL S 0 0 25), .ref (sL S 1 i0 0), .int (x2), .int (x3)] σ (Qi r) := Ct.of (by decide +kernel) (Nat.le_of_ble_eq_true rfl) (zb_X6_rising hi0 h)
def F_X6_watch_43 (rc10 : Nat → Int32 → Int32 → Mm → Option (Mm)) (i0 : Nat) (x2 : Int32) (x3 : Int32) (σ : Mm) : Option (Mm) := (rc10 i0 x2 (x3 + 1) σ)
set_option maxRecDepth 20000 in
theorem zb_X6_watch_43 {S : Shp} {rc10 : Nat → Int32 → Int32 → Mm → Option (Mm)} (hrc10 : ∀ {i0 : Nat} (hi0 : tlv (sH S) i0 = true) {x2 : Int32} {x3 : Int32} {σ : Mm} {r : Mm}, rc10 i0 x2 x3 σ = some r → Z m_X6_watch S (Qv r) 10 [(0, .ref (sL S 0 0 25)), (1, .ref (sL S 1 i0 0)), (2, .int (x2)), (3, .int (x3))] [] σ) {i0 : Nat} (hi0 : tlv (sH S) i0 = true) {x2 : Int32} {x3 : Int32} {σ : Mm} {r : Mm} (h : F_X6_watch_43 rc10 i0 x2 x3 σ = some r) : Z m_X6_watch S (Qv r) 43 [(0, .ref (sL S 0 0 25)), (1, .ref (sL S 1 i0 0)), (2, .int (x2)), (3, .int (x3))] [] σ := by
  unfold F_X6_watch_43 at h
  refine z_iinc (j := 3) (v := x3 + 1) (lv' := [(0, .ref (sL S 0 0 25)), (1, .ref (sL S 1 i0 0)), (2, .int (x2)), (3, .int (x3 + 1))]) dX6_watch_43 rfl rfl (by decide) [1, 2, 3, 0] rfl ?_
  refine z_goto (tgt := 10) dX6_watch_46 (by decide) ?_
  exact hrc10 (hi0) h
def F_X6_watch_31 (rc10 : Nat → Int32 → Int32 → Mm → Option (Mm)) (i0 : Nat) (x2 : Int32) (x3 : Int32) (σ : Mm) : Option (Mm) := (if inb x3 5 = true then (if inb x3 5 = true then (F_X6_watch_43 rc10 i0 x2 x3 (setA σ 0 0 27 (upd (mA σ 0 0 27) x3.toNatClampNeg (mA σ 1 i0 9 x3.toNatClampNeg)))) else none) else none)
set_option maxRecDepth 20000 in
theorem zb_X6_watch_31 {S : Shp} {rc10 : Nat → Int32 → Int32 → Mm → Option (Mm)} (hrc10 : ∀ {i0 : Nat} (hi0 : tlv (sH S) i0 = true) {x2 : Int32} {x3 : Int32} {σ : Mm} {r : Mm}, rc10 i0 x2 x3 σ = some r → Z m_X6_watch S (Qv r) 10 [(0, .ref (sL S 0 0 25)), (1, .ref (sL S 1 i0 0)), (2, .int (x2)), (3, .int (x3))] [] σ) {i0 : Nat} (hi0 : tlv (sH S) i0 = true) {x2 : Int32} {x3 : Int32} {σ : Mm} {r : Mm} (h : F_X6_watch_31 rc10 i0 x2 x3 σ = some r) : Z m_X6_watch S (Qv r) 31 [(0, .ref (sL S 0 0 25)), (1, .ref (sL S 1 i0 0)), (2, .int (x2)), (3, .int (x3))] [] σ := by
  unfold F_X6_watch_31 at h
  obtain ⟨g2, h⟩ := gd h
  refine z_aload_n dX6_watch_31 rfl 0 rfl ?_
  refine gf_6_19 rfl dX6_watch_32 ?_
  refine z_iload_n dX6_watch_35 rfl 3 rfl ?_
  refine z_aload_n dX6_watch_36 rfl 1 rfl ?_
  refine gf_6_52 (lv1 (hi0) rfl) rfl dX6_watch_37 ?_
  refine z_iload_n dX6_watch_40 rfl 3 rfl ?_
  obtain ⟨g3, h⟩ := gd h
  refine ia_1_9 (lv1 (hi0) rfl) (inb_in g2) dX6_watch_41 ?_
  refine is_0_27 (inb_in g3) dX6_watch_42 ?_
  exact zb_X6_watch_43 hrc10 (hi0) h
def F_X6_watch_30 (rc10 : Nat → Int32 → Int32 → Mm → Option (Mm)) (i0 : Nat) (x2 : Int32) (x3 : Int32) (s0 : Int32) (s1 : Int32) (σ : Mm) : Option (Mm) := (if inb s1 5 = true then (F_X6_watch_31 rc10 i0 x2 x3 (setA σ 0 0 26 (upd (mA σ 0 0 26) s1.toNatClampNeg s0))) else none)
set_option maxRecDepth 20000 in
theorem zb_X6_watch_30 {S : Shp} {rc10 : Nat → Int32 → Int32 → Mm → Option (Mm)} (hrc10 : ∀ {i0 : Nat} (hi0 : tlv (sH S) i0 = true) {x2 : Int32} {x3 : Int32} {σ : Mm} {r : Mm}, rc10 i0 x2 x3 σ = some r → Z m_X6_watch S (Qv r) 10 [(0, .ref (sL S 0 0 25)), (1, .ref (sL S 1 i0 0)), (2, .int (x2)), (3, .int (x3))] [] σ) {i0 : Nat} (hi0 : tlv (sH S) i0 = true) {x2 : Int32} {x3 : Int32} {s0 : Int32} {s1 : Int32} {σ : Mm} {r : Mm} (h : F_X6_watch_30 rc10 i0 x2 x3 s0 s1 σ = some r) : Z m_X6_watch S (Qv r) 30 [(0, .ref (sL S 0 0 25)), (1, .ref (sL S 1 i0 0)), (2, .int (x2)), (3, .int (x3))] [.int (s0), .int (s1), .ref (sL S 0 0 26)] σ := by
  unfold F_X6_watch_30 at h
  obtain ⟨g1, h⟩ := gd h
  refine is_0_26 (inb_in g1) dX6_watch_30 ?_
  exact zb_X6_watch_31 hrc10 (hi0) h
def B_X6_watch_10 (rc10 : Nat → Int32 → Int32 → Mm → Option (Mm)) (i0 : Nat) (x2 : Int32) (x3 : Int32) (σ : Mm) : Option (Mm) := (if (mA σ 0 0 25 0) ≤ x3 then some (σ) else (bnd (F_X6_rising i0 x3 x2 σ) (fun v τ => (F_X6_watch_30 rc10 i0 x2 x3 v x3 τ))))
set_option maxRecDepth 20000 in
theorem zB_X6_watch_10 {S : Shp} {rc10 : Nat → Int32 → Int32 → Mm → Option (Mm)} (hrc10 : ∀ {i0 : Nat} (hi0 : tlv (sH S) i0 = true) {x2 : Int32} {x3 : Int32} {σ : Mm} {r : Mm}, rc10 i0 x2 x3 σ = some r → Z m_X6_watch S (Qv r) 10 [(0, .ref (sL S 0 0 25)), (1, .ref (sL S 1 i0 0)), (2, .int (x2)), (3, .int (x3))] [] σ) {i0 : Nat} (hi0 : tlv (sH S) i0 = true) {x2 : Int32} {x3 : Int32} {σ : Mm} {r : Mm} (h : B_X6_watch_10 rc10 i0 x2 x3 σ = some r) : Z m_X6_watch S (Qv r) 10 [(0, .ref (sL S 0 0 25)), (1, .ref (sL S 1 i0 0)), (2, .int (x2)), (3, .int (x3))] [] σ := by
  unfold B_X6_watch_10 at h
  refine z_iload_n dX6_watch_10 rfl 3 rfl ?_
  refine z_aload_n dX6_watch_11 rfl 0 rfl ?_
  refine gf_6_9 rfl dX6_watch_12 ?_
  refine z_icmp_ge (tgt := 49) dX6_watch_15 (by decide) (fun q => ?_) (fun q => ?_)
  · have h := (if_pos q).symm.trans h
    cases h
    exact z_return dX6_watch_49 rfl ⟨rfl, rfl⟩
  · have h := (if_neg q).symm.trans h
    refine z_aload_n dX6_watch_18 rfl 0 rfl ?_
    refine gf_6_15 rfl dX6_watch_19 ?_
    refine z_iload_n dX6_watch_22 rfl 3 rfl ?_
    refine z_aload_n dX6_watch_23 rfl 0 rfl ?_
    refine z_aload_n dX6_watch_24 rfl 1 rfl ?_
    refine z_iload_n dX6_watch_25 rfl 3 rfl ?_
    refine z_iload_n dX6_watch_26 rfl 2 rfl ?_
    obtain ⟨v, τ, hc, h⟩ := bnd_e h
    refine z_callV (M' := m_X6_rising) (t := 0) (i := 0) (k := 25) (As := [.ref (sL S 1 i0 0), .int (x3), .int (x2)]) (rest := [.int (x3), .ref (sL S 0 0 26)]) kl_6_48 oy_X6_rising ⟨Nat.le_of_ble_eq_true rfl, Nat.le_of_ble_eq_true rfl⟩ rfl rfl rfl rfl (Nat.le_of_ble_eq_true rfl) rfl dX6_watch_27 (c_X6_rising (hi0) hc) (fun v2 τ2 hq => ?_)
    obtain ⟨rfl, hτ⟩ := hq
    subst τ2
    change Z _ _ _ _ _ [.int (v), .int (x3), .ref (sL S 0 0 26)] _
    exact zb_X6_watch_30 hrc10 (hi0) h
def F_X6_watch_10 : Nat → Nat → Int32 → Int32 → Mm → Option (Mm)
  | 0 => fun _ _ _ _ => none
  | n + 1 => B_X6_watch_10 (F_X6_watch_10 n)
theorem zl_X6_watch_10 {S : Shp} : ∀ (nn : Nat) {i0 : Nat} (hi0 : tlv (sH S) i0 = true) {x2 : Int32} {x3 : Int32} {σ : Mm} {r : Mm}, F_X6_watch_10 nn i0 x2 x3 σ = some r → Z m_X6_watch S (Qv r) 10 [(0, .ref (sL S 0 0 25)), (1, .ref (sL S 1 i0 0)), (2, .int (x2)), (3, .int (x3))] [] σ := by
  intro nn
  induction nn with
  | zero => intro i0 hi0 x2 x3 σ r h; cases h
  | succ nn ih => intro i0 hi0 x2 x3 σ r h; exact zB_X6_watch_10 @ih hi0 h
def F_X6_watch_8 (i0 : Nat) (x2 : Int32) (σ : Mm) : Option (Mm) := (F_X6_watch_10 FU i0 x2 0 σ)
set_option maxRecDepth 20000 in
theorem zb_X6_watch_8 {S : Shp} {i0 : Nat} (hi0 : tlv (sH S) i0 = true) {x2 : Int32} {σ : Mm} {r : Mm} (h : F_X6_watch_8 i0 x2 σ = some r) : Z m_X6_watch S (Qv r) 8 [(0, .ref (sL S 0 0 25)), (1, .ref (sL S 1 i0 0)), (2, .int (x2))] [] σ := by
  unfold F_X6_watch_8 at h
  refine z_iconst (v := 0) dX6_watch_8 (by decide) ?_
  refine z_istore_n (lv' := [(0, .ref (sL S 0 0 25)), (1, .ref (sL S 1 i0 0)), (2, .int (x2)), (3, .int (0))]) dX6_watch_9 rfl (by decide) [1, 2, 3, 0] rfl ?_
  exact zl_X6_watch_10 FU (hi0) h
def F_X6_watch (i0 : Nat) (x2 : Int32) (σ : Mm) : Option (Mm) := (F_X6_watch_8 i0 x2 (setA σ 0 0 25 (upd (mA σ 0 0 25) 0 (mA σ 1 i0 0 12))))
set_option maxRecDepth 20000 in
theorem zb_X6_watch {S : Shp} {i0 : Nat} (hi0 : tlv (sH S) i0 = true) {x2 : Int32} {σ : Mm} {r : Mm} (h : F_X6_watch i0 x2 σ = some r) : Z m_X6_watch S (Qv r) 0 [(0, .ref (sL S 0 0 25)), (1, .ref (sL S 1 i0 0)), (2, .int (x2))] [] σ := by
  unfold F_X6_watch at h
  refine z_aload_n dX6_watch_0 rfl 0 rfl ?_
  refine z_aload_n dX6_watch_1 rfl 1 rfl ?_
  refine gf_6_47 (lv1 (hi0) rfl) rfl dX6_watch_2 ?_
  refine pf_6_9 rfl dX6_watch_5 ?_
  exact zb_X6_watch_8 (hi0) h
/-- SkyStones$Sky.watch(LSkyStones$Told;I)V -/
theorem c_X6_watch {S : Shp} {i0 : Nat} (hi0 : tlv (sH S) i0 = true) {x2 : Int32} {σ : Mm} {r : Mm} (h : F_X6_watch i0 x2 σ = some r) : Ct m_X6_watch S [.ref (sL S 0 0 25), .ref (sL S 1 i0 0), .int (x2)] σ (Qv r) := Ct.of (by decide +kernel) (Nat.le_of_ble_eq_true rfl) (zb_X6_watch hi0 h)
def F_X11_lookAt_28 (x1 : Int32) (σ : Mm) : Option (Mm) := (if okP σ = true then (bnv (F_X6_watch (mP σ 0) x1 σ) (fun τ => some (τ))) else none)
set_option maxRecDepth 20000 in
theorem zb_X11_lookAt_28 {S : Shp} {x1 : Int32} {σ : Mm} {r : Mm} (h : F_X11_lookAt_28 x1 σ = some r) : Z m_X11_lookAt S (Qv r) 28 [(0, .ref (sL S 0 0 0)), (1, .int (x1))] [] σ := by
  unfold F_X11_lookAt_28 at h
  obtain ⟨g3, h⟩ := gd h
  refine z_aload_n dX11_lookAt_28 rfl 0 rfl ?_
  refine gf_11_60 rfl dX11_lookAt_29 ?_
  refine z_aload_n dX11_lookAt_32 rfl 0 rfl ?_
  have hp := g3
  refine gf_11_19 rfl dX11_lookAt_33 ?_
  refine z_iload_n dX11_lookAt_36 rfl 1 rfl ?_
  obtain ⟨τ, hc, h⟩ := bnv_e h
  refine z_callV (M' := m_X6_watch) (t := 0) (i := 0) (k := 25) (As := [.ref (sL S 1 (mP σ 0) 0), .int (x1)]) (rest := []) kl_11_226 oy_X6_watch ⟨Nat.le_of_ble_eq_true rfl, Nat.le_of_ble_eq_true rfl⟩ rfl rfl rfl rfl (Nat.le_of_ble_eq_true rfl) rfl dX11_lookAt_37 (c_X6_watch (okP_0 hp) hc) (fun v2 τ2 hq => ?_)
  obtain ⟨rfl, hτ⟩ := hq
  subst τ2
  change Z _ _ _ _ _ [] _
  cases h
  exact z_return dX11_lookAt_40 rfl ⟨rfl, rfl⟩
def F_X11_lookAt_16 (x1 : Int32) (x3 : Int32) (σ : Mm) : Option (Mm) := (if okP σ = true then (bnv (F_X2_choose (mP σ 0) x3 σ) (fun τ => (F_X11_lookAt_28 x1 τ))) else none)
set_option maxRecDepth 20000 in
theorem zb_X11_lookAt_16 {S : Shp} {x1 : Int32} {x3 : Int32} {σ : Mm} {r : Mm} (h : F_X11_lookAt_16 x1 x3 σ = some r) : Z m_X11_lookAt S (Qv r) 16 [(0, .ref (sL S 0 0 0)), (1, .int (x1)), (3, .int (x3))] [] σ := by
  unfold F_X11_lookAt_16 at h
  obtain ⟨g2, h⟩ := gd h
  refine z_aload_n dX11_lookAt_16 rfl 0 rfl ?_
  refine gf_11_53 rfl dX11_lookAt_17 ?_
  refine z_aload_n dX11_lookAt_20 rfl 0 rfl ?_
  have hp := g2
  refine gf_11_19 rfl dX11_lookAt_21 ?_
  refine z_iload_n dX11_lookAt_24 rfl 2 rfl ?_
  obtain ⟨τ, hc, h⟩ := bnv_e h
  refine z_callV (M' := m_X2_choose) (t := 0) (i := 0) (k := 15) (As := [.ref (sL S 1 (mP σ 0) 0), .int (x3)]) (rest := []) kl_11_207 oy_X2_choose ⟨Nat.le_of_ble_eq_true rfl, Nat.le_of_ble_eq_true rfl⟩ rfl rfl rfl rfl (Nat.le_of_ble_eq_true rfl) rfl dX11_lookAt_25 (c_X2_choose (okP_0 hp) hc) (fun v2 τ2 hq => ?_)
  obtain ⟨rfl, hτ⟩ := hq
  subst τ2
  change Z _ _ _ _ _ [] _
  refine Z.lv [0, 1] rfl ?_
  exact zb_X11_lookAt_28 h
def F_X11_lookAt (x1 : Int32) (x2 : Int32) (x3 : Int32) (σ : Mm) : Option (Mm) := (if okP σ = true then (bnv (F_X2_know (mP σ 0) 0 x2 σ) (fun τ => (F_X11_lookAt_16 x1 x3 τ))) else none)
set_option maxRecDepth 20000 in
theorem zb_X11_lookAt {S : Shp} {x1 : Int32} {x2 : Int32} {x3 : Int32} {σ : Mm} {r : Mm} (h : F_X11_lookAt x1 x2 x3 σ = some r) : Z m_X11_lookAt S (Qv r) 0 [(0, .ref (sL S 0 0 0)), (1, .int (x1)), (2, .int (x2)), (3, .int (x3))] [] σ := by
  unfold F_X11_lookAt at h
  obtain ⟨g1, h⟩ := gd h
  refine z_aload_n dX11_lookAt_0 rfl 0 rfl ?_
  refine gf_11_53 rfl dX11_lookAt_1 ?_
  refine z_aload_n dX11_lookAt_4 rfl 0 rfl ?_
  have hp := g1
  refine gf_11_19 rfl dX11_lookAt_5 ?_
  refine z_aload_n dX11_lookAt_8 rfl 0 rfl ?_
  refine gf_11_38 rfl dX11_lookAt_9 ?_
  refine z_iload_n dX11_lookAt_12 rfl 2 rfl ?_
  obtain ⟨τ, hc, h⟩ := bnv_e h
  refine z_callV (M' := m_X2_know) (t := 0) (i := 0) (k := 15) (As := [.ref (sL S 1 (mP σ 0) 0), .ref (sL S 2 0 0), .int (x2)]) (rest := []) kl_11_155 oy_X2_know ⟨Nat.le_of_ble_eq_true rfl, Nat.le_of_ble_eq_true rfl⟩ rfl rfl rfl rfl (Nat.le_of_ble_eq_true rfl) rfl dX11_lookAt_13 (c_X2_know (okP_0 hp) rfl hc) (fun v2 τ2 hq => ?_)
  obtain ⟨rfl, hτ⟩ := hq
  subst τ2
  change Z _ _ _ _ _ [] _
  refine Z.lv [0, 1, 3] rfl ?_
  exact zb_X11_lookAt_16 h
/-- SkyStones.lookAt(III)V -/
theorem c_X11_lookAt {S : Shp} {x1 : Int32} {x2 : Int32} {x3 : Int32} {σ : Mm} {r : Mm} (h : F_X11_lookAt x1 x2 x3 σ = some r) : Ct m_X11_lookAt S [.ref (sL S 0 0 0), .int (x1), .int (x2), .int (x3)] σ (Qv r) := Ct.of (by decide +kernel) (Nat.le_of_ble_eq_true rfl) (zb_X11_lookAt h)
def F_X11_turnAll_37 (x1 : Int32) (σ : Mm) : Option (Mm) := (bnv (F_X10_spin x1 σ) (fun τ => some (τ)))
set_option maxRecDepth 20000 in
theorem zb_X11_turnAll_37 {S : Shp} {x1 : Int32} {σ : Mm} {r : Mm} (h : F_X11_turnAll_37 x1 σ = some r) : Z m_X11_turnAll S (Qv r) 37 [(0, .ref (sL S 0 0 0)), (1, .int (x1))] [] σ := by
  unfold F_X11_turnAll_37 at h
  refine z_aload_n dX11_turnAll_37 rfl 0 rfl ?_
  refine gf_11_67 rfl dX11_turnAll_38 ?_
  refine z_iload_n dX11_turnAll_41 rfl 1 rfl ?_
  obtain ⟨τ, hc, h⟩ := bnv_e h
  refine z_callV (M' := m_X10_spin) (t := 0) (i := 0) (k := 29) (As := [.int (x1)]) (rest := []) kl_11_364 oy_X10_spin ⟨Nat.le_of_ble_eq_true rfl, Nat.le_of_ble_eq_true rfl⟩ rfl rfl rfl rfl (Nat.le_of_ble_eq_true rfl) rfl dX11_turnAll_42 (c_X10_spin hc) (fun v2 τ2 hq => ?_)
  obtain ⟨rfl, hτ⟩ := hq
  subst τ2
  change Z _ _ _ _ _ [] _
  cases h
  exact z_return dX11_turnAll_45 rfl ⟨rfl, rfl⟩
def F_X11_turnAll_19 (x1 : Int32) (σ : Mm) : Option (Mm) := (if okP σ = true then (bnv (F_X10_cover (mA σ 1 (mP σ 0) 0 0) σ) (fun τ => (F_X11_turnAll_37 x1 τ))) else none)
set_option maxRecDepth 20000 in
theorem zb_X11_turnAll_19 {S : Shp} {x1 : Int32} {σ : Mm} {r : Mm} (h : F_X11_turnAll_19 x1 σ = some r) : Z m_X11_turnAll S (Qv r) 19 [(0, .ref (sL S 0 0 0)), (1, .int (x1))] [] σ := by
  unfold F_X11_turnAll_19 at h
  obtain ⟨g1, h⟩ := gd h
  refine z_aload_n dX11_turnAll_19 rfl 0 rfl ?_
  refine gf_11_67 rfl dX11_turnAll_20 ?_
  refine z_aload_n dX11_turnAll_23 rfl 0 rfl ?_
  refine gf_11_60 rfl dX11_turnAll_24 ?_
  refine z_aload_n dX11_turnAll_27 rfl 0 rfl ?_
  have hp := g1
  refine gf_11_19 rfl dX11_turnAll_28 ?_
  refine gf_11_232 (lv1 (okP_0 hp) rfl) rfl dX11_turnAll_31 ?_
  obtain ⟨τ, hc, h⟩ := bnv_e h
  refine z_callV (M' := m_X10_cover) (t := 0) (i := 0) (k := 29) (As := [.ref (sL S 0 0 25), .int (mA σ 1 (mP σ 0) 0 0)]) (rest := []) kl_11_318 oy_X10_cover ⟨Nat.le_of_ble_eq_true rfl, Nat.le_of_ble_eq_true rfl⟩ rfl rfl rfl rfl (Nat.le_of_ble_eq_true rfl) rfl dX11_turnAll_34 (c_X10_cover hc) (fun v2 τ2 hq => ?_)
  obtain ⟨rfl, hτ⟩ := hq
  subst τ2
  change Z _ _ _ _ _ [] _
  exact zb_X11_turnAll_37 h
def F_X11_turnAll_8 (x1 : Int32) (σ : Mm) : Option (Mm) := (bnv (F_X10_gather  σ) (fun τ => (F_X11_turnAll_19 x1 τ)))
set_option maxRecDepth 20000 in
theorem zb_X11_turnAll_8 {S : Shp} {x1 : Int32} {σ : Mm} {r : Mm} (h : F_X11_turnAll_8 x1 σ = some r) : Z m_X11_turnAll S (Qv r) 8 [(0, .ref (sL S 0 0 0)), (1, .int (x1))] [] σ := by
  unfold F_X11_turnAll_8 at h
  refine z_aload_n dX11_turnAll_8 rfl 0 rfl ?_
  refine gf_11_67 rfl dX11_turnAll_9 ?_
  refine z_aload_n dX11_turnAll_12 rfl 0 rfl ?_
  refine gf_11_53 rfl dX11_turnAll_13 ?_
  obtain ⟨τ, hc, h⟩ := bnv_e h
  refine z_callV (M' := m_X10_gather) (t := 0) (i := 0) (k := 29) (As := [.ref (sL S 0 0 15)]) (rest := []) kl_11_360 oy_X10_gather ⟨Nat.le_of_ble_eq_true rfl, Nat.le_of_ble_eq_true rfl⟩ rfl rfl rfl rfl (Nat.le_of_ble_eq_true rfl) rfl dX11_turnAll_16 (c_X10_gather hc) (fun v2 τ2 hq => ?_)
  obtain ⟨rfl, hτ⟩ := hq
  subst τ2
  change Z _ _ _ _ _ [] _
  exact zb_X11_turnAll_19 h
def F_X11_turnAll (x1 : Int32) (x2 : Int32) (x3 : Int32) (x4 : Int32) (σ : Mm) : Option (Mm) := (bnv (F_X11_lookAt x2 x3 x4 σ) (fun τ => (F_X11_turnAll_8 x1 τ)))
set_option maxRecDepth 20000 in
theorem zb_X11_turnAll {S : Shp} {x1 : Int32} {x2 : Int32} {x3 : Int32} {x4 : Int32} {σ : Mm} {r : Mm} (h : F_X11_turnAll x1 x2 x3 x4 σ = some r) : Z m_X11_turnAll S (Qv r) 0 [(0, .ref (sL S 0 0 0)), (1, .int (x1)), (2, .int (x2)), (3, .int (x3)), (4, .int (x4))] [] σ := by
  unfold F_X11_turnAll at h
  refine z_aload_n dX11_turnAll_0 rfl 0 rfl ?_
  refine z_iload_n dX11_turnAll_1 rfl 2 rfl ?_
  refine z_iload_n dX11_turnAll_2 rfl 3 rfl ?_
  refine z_iload dX11_turnAll_3 4 rfl ?_
  obtain ⟨τ, hc, h⟩ := bnv_e h
  refine z_callV (M' := m_X11_lookAt) (t := 0) (i := 0) (k := 0) (As := [.int (x2), .int (x3), .int (x4)]) (rest := []) kl_11_243 oy_X11_lookAt ⟨Nat.le_of_ble_eq_true rfl, Nat.le_of_ble_eq_true rfl⟩ rfl rfl rfl rfl (Nat.le_of_ble_eq_true rfl) rfl dX11_turnAll_5 (c_X11_lookAt hc) (fun v2 τ2 hq => ?_)
  obtain ⟨rfl, hτ⟩ := hq
  subst τ2
  change Z _ _ _ _ _ [] _
  refine Z.lv [0, 1] rfl ?_
  exact zb_X11_turnAll_8 h
/-- SkyStones.turnAll(IIII)V -/
theorem c_X11_turnAll {S : Shp} {x1 : Int32} {x2 : Int32} {x3 : Int32} {x4 : Int32} {σ : Mm} {r : Mm} (h : F_X11_turnAll x1 x2 x3 x4 σ = some r) : Ct m_X11_turnAll S [.ref (sL S 0 0 0), .int (x1), .int (x2), .int (x3), .int (x4)] σ (Qv r) := Ct.of (by decide +kernel) (Nat.le_of_ble_eq_true rfl) (zb_X11_turnAll h)
def F_X11_allHits_27 (s0 : Int32) (σ : Mm) : Option (Int32 × Mm) := some (s0, σ)
set_option maxRecDepth 20000 in
theorem zb_X11_allHits_27 {S : Shp} {s0 : Int32} {σ : Mm} {r : Int32 × Mm} (h : F_X11_allHits_27 s0 σ = some r) : Z m_X11_allHits S (Qi r) 27 [] [.int (s0)] σ := by
  unfold F_X11_allHits_27 at h
  cases h
  exact z_ireturn dX11_allHits_27 rfl rfl ⟨rfl, rfl⟩
def F_X11_allHits_20 (σ : Mm) : Option (Int32 × Mm) := (bnd (F_X10_sum  σ) (fun v τ => (F_X11_allHits_27 v τ)))
set_option maxRecDepth 20000 in
theorem zb_X11_allHits_20 {S : Shp} {σ : Mm} {r : Int32 × Mm} (h : F_X11_allHits_20 σ = some r) : Z m_X11_allHits S (Qi r) 20 [(0, .ref (sL S 0 0 0))] [] σ := by
  unfold F_X11_allHits_20 at h
  refine z_aload_n dX11_allHits_20 rfl 0 rfl ?_
  refine gf_11_67 rfl dX11_allHits_21 ?_
  obtain ⟨v, τ, hc, h⟩ := bnd_e h
  refine z_callV (M' := m_X10_sum) (t := 0) (i := 0) (k := 29) (As := []) (rest := []) kl_11_267 oy_X10_sum ⟨Nat.le_of_ble_eq_true rfl, Nat.le_of_ble_eq_true rfl⟩ rfl rfl rfl rfl (Nat.le_of_ble_eq_true rfl) rfl dX11_allHits_24 (c_X10_sum hc) (fun v2 τ2 hq => ?_)
  obtain ⟨rfl, hτ⟩ := hq
  subst τ2
  change Z _ _ _ _ _ [.int (v)] _
  refine Z.lv [] rfl ?_
  exact zb_X11_allHits_27 h
def F_X11_allHits (x1 : Int32) (x2 : Int32) (x3 : Int32) (σ : Mm) : Option (Int32 × Mm) := (if okP σ = true then (if (f_X11_isAsked x1 x2 x3 σ) = 0 then some ((-1), σ) else (bnv (F_X11_turnAll x1 x2 x3 ((-1)) σ) (fun τ => (F_X11_allHits_20 τ)))) else none)
set_option maxRecDepth 20000 in
theorem zb_X11_allHits {S : Shp} {x1 : Int32} {x2 : Int32} {x3 : Int32} {σ : Mm} {r : Int32 × Mm} (h : F_X11_allHits x1 x2 x3 σ = some r) : Z m_X11_allHits S (Qi r) 0 [(0, .ref (sL S 0 0 0)), (1, .int (x1)), (2, .int (x2)), (3, .int (x3))] [] σ := by
  unfold F_X11_allHits at h
  obtain ⟨g1, h⟩ := gd h
  refine z_aload_n dX11_allHits_0 rfl 0 rfl ?_
  refine z_iload_n dX11_allHits_1 rfl 1 rfl ?_
  refine z_iload_n dX11_allHits_2 rfl 2 rfl ?_
  refine z_iload_n dX11_allHits_3 rfl 3 rfl ?_
  have hp := g1
  refine z_callV (M' := m_X11_isAsked) (t := 0) (i := 0) (k := 0) (As := [.int (x1), .int (x2), .int (x3)]) (rest := []) kl_11_239 oy_X11_isAsked ⟨Nat.le_of_ble_eq_true rfl, Nat.le_of_ble_eq_true rfl⟩ rfl rfl rfl rfl (Nat.le_of_ble_eq_true rfl) rfl dX11_allHits_4 (c_X11_isAsked hp rfl) (fun v τ hq => ?_)
  obtain ⟨rfl, hτ⟩ := hq
  subst τ
  change Z _ _ _ _ _ [.int (f_X11_isAsked x1 x2 x3 σ)] _
  refine z_if_ne (tgt := 12) dX11_allHits_7 (by decide) (fun q => ?_) (fun q => ?_)
  · have h := (if_neg q).symm.trans h
    refine z_aload_n dX11_allHits_12 rfl 0 rfl ?_
    refine z_iload_n dX11_allHits_13 rfl 1 rfl ?_
    refine z_iload_n dX11_allHits_14 rfl 2 rfl ?_
    refine z_iload_n dX11_allHits_15 rfl 3 rfl ?_
    refine z_iconst (v := (-1)) dX11_allHits_16 (by decide) ?_
    obtain ⟨τ, hc, h⟩ := bnv_e h
    refine z_callV (M' := m_X11_turnAll) (t := 0) (i := 0) (k := 0) (As := [.int (x1), .int (x2), .int (x3), .int ((-1))]) (rest := []) kl_11_260 oy_X11_turnAll ⟨Nat.le_of_ble_eq_true rfl, Nat.le_of_ble_eq_true rfl⟩ rfl rfl rfl rfl (Nat.le_of_ble_eq_true rfl) rfl dX11_allHits_17 (c_X11_turnAll hc) (fun v2 τ2 hq => ?_)
    obtain ⟨rfl, hτ⟩ := hq
    subst τ2
    change Z _ _ _ _ _ [] _
    refine Z.lv [0] rfl ?_
    exact zb_X11_allHits_20 h
  · have h := (if_pos q).symm.trans h
    refine z_iconst (v := (-1)) dX11_allHits_10 (by decide) ?_
    cases h
    exact z_ireturn dX11_allHits_11 rfl rfl ⟨rfl, rfl⟩
/-- SkyStones.allHits(III)I -/
theorem c_X11_allHits {S : Shp} {x1 : Int32} {x2 : Int32} {x3 : Int32} {σ : Mm} {r : Int32 × Mm} (h : F_X11_allHits x1 x2 x3 σ = some r) : Ct m_X11_allHits S [.ref (sL S 0 0 0), .int (x1), .int (x2), .int (x3)] σ (Qi r) := Ct.of (by decide +kernel) (Nat.le_of_ble_eq_true rfl) (zb_X11_allHits h)
def F_X11_strikes_16 (x2 : Int32) (s0 : Int32) (σ : Mm) : Option (Int32 × Mm) := (if (s0 &&& x2) = 0 then some (0, σ) else some (1, σ))
set_option maxRecDepth 20000 in
theorem zb_X11_strikes_16 {S : Shp} {x2 : Int32} {s0 : Int32} {σ : Mm} {r : Int32 × Mm} (h : F_X11_strikes_16 x2 s0 σ = some r) : Z m_X11_strikes S (Qi r) 16 [(2, .int (x2))] [.int (s0)] σ := by
  unfold F_X11_strikes_16 at h
  refine z_iload_n dX11_strikes_16 rfl 0 rfl ?_
  refine z_iand dX11_strikes_17 ?_
  refine z_if_eq (tgt := 25) dX11_strikes_18 (by decide) (fun q => ?_) (fun q => ?_)
  · have h := (if_pos q).symm.trans h
    refine z_iconst (v := 0) dX11_strikes_25 (by decide) ?_
    cases h
    exact z_ireturn dX11_strikes_26 rfl rfl ⟨rfl, rfl⟩
  · have h := (if_neg q).symm.trans h
    refine z_iconst (v := 1) dX11_strikes_21 (by decide) ?_
    refine z_goto (tgt := 26) dX11_strikes_22 (by decide) ?_
    cases h
    exact z_ireturn dX11_strikes_26 rfl rfl ⟨rfl, rfl⟩
def F_X11_strikes (x1 : Int32) (x2 : Int32) (x3 : Int32) (σ : Mm) : Option (Int32 × Mm) := (if okP σ = true then (bnd (F_X6_struck x1 (mA σ 1 (mP σ 0) 0 0) x3 σ) (fun v τ => (F_X11_strikes_16 x2 v τ))) else none)
set_option maxRecDepth 20000 in
theorem zb_X11_strikes {S : Shp} {x1 : Int32} {x2 : Int32} {x3 : Int32} {σ : Mm} {r : Int32 × Mm} (h : F_X11_strikes x1 x2 x3 σ = some r) : Z m_X11_strikes S (Qi r) 0 [(0, .ref (sL S 0 0 0)), (1, .int (x1)), (2, .int (x2)), (3, .int (x3))] [] σ := by
  unfold F_X11_strikes at h
  obtain ⟨g1, h⟩ := gd h
  refine z_aload_n dX11_strikes_0 rfl 0 rfl ?_
  refine gf_11_60 rfl dX11_strikes_1 ?_
  refine z_iload_n dX11_strikes_4 rfl 1 rfl ?_
  refine z_aload_n dX11_strikes_5 rfl 0 rfl ?_
  have hp := g1
  refine gf_11_19 rfl dX11_strikes_6 ?_
  refine gf_11_232 (lv1 (okP_0 hp) rfl) rfl dX11_strikes_9 ?_
  refine z_iload_n dX11_strikes_12 rfl 3 rfl ?_
  obtain ⟨v, τ, hc, h⟩ := bnd_e h
  refine z_callV (M' := m_X6_struck) (t := 0) (i := 0) (k := 25) (As := [.int (x1), .int (mA σ 1 (mP σ 0) 0 0), .int (x3)]) (rest := []) kl_11_235 oy_X6_struck ⟨Nat.le_of_ble_eq_true rfl, Nat.le_of_ble_eq_true rfl⟩ rfl rfl rfl rfl (Nat.le_of_ble_eq_true rfl) rfl dX11_strikes_13 (c_X6_struck hc) (fun v2 τ2 hq => ?_)
  obtain ⟨rfl, hτ⟩ := hq
  subst τ2
  change Z _ _ _ _ _ [.int (v)] _
  refine Z.lv [2] rfl ?_
  exact zb_X11_strikes_16 h
/-- SkyStones.strikes(IIZ)Z -/
theorem c_X11_strikes {S : Shp} {x1 : Int32} {x2 : Int32} {x3 : Int32} {σ : Mm} {r : Int32 × Mm} (h : F_X11_strikes x1 x2 x3 σ = some r) : Ct m_X11_strikes S [.ref (sL S 0 0 0), .int (x1), .int (x2), .int (x3)] σ (Qi r) := Ct.of (by decide +kernel) (Nat.le_of_ble_eq_true rfl) (zb_X11_strikes h)
def F_X4_forget (σ : Mm) : Option (Mm) := (bnv (F_J7_fill_53178_jo 0 σ) (fun τ => some (τ)))
set_option maxRecDepth 20000 in
theorem zb_X4_forget {S : Shp} {σ : Mm} {r : Mm} (h : F_X4_forget σ = some r) : Z m_X4_forget S (Qv r) 0 [(0, .ref (sL S 0 0 37))] [] σ := by
  unfold F_X4_forget at h
  refine z_aload_n dX4_forget_0 rfl 0 rfl ?_
  refine gf_4_9 rfl dX4_forget_1 ?_
  refine z_iconst (v := 0) dX4_forget_4 (by decide) ?_
  obtain ⟨τ, hc, h⟩ := bnv_e h
  refine z_callS (M' := m_J7_fill_53178) (As := [.ref (sL S 0 0 38), .int (0)]) (rest := []) kl_4_18 oy_J7_fill_53178 ⟨Nat.le_of_ble_eq_true rfl, Nat.le_of_ble_eq_true rfl⟩ rfl (Nat.le_of_ble_eq_true rfl) rfl dX4_forget_5 (c_J7_fill_53178_jo hc) (fun v2 τ2 hq => ?_)
  obtain ⟨rfl, hτ⟩ := hq
  subst τ2
  change Z _ _ _ _ _ [] _
  cases h
  exact z_return dX4_forget_8 rfl ⟨rfl, rfl⟩
/-- SkyStones$Pairing.forget()V -/
theorem c_X4_forget {S : Shp} {σ : Mm} {r : Mm} (h : F_X4_forget σ = some r) : Ct m_X4_forget S [.ref (sL S 0 0 37)] σ (Qv r) := Ct.of (by decide +kernel) (Nat.le_of_ble_eq_true rfl) (zb_X4_forget h)
def F_X4_join_32 (x1 : Int32) (x2 : Int32) (σ : Mm) : Option (Mm) := (if inb x2 14 = true then (if inb x2 14 = true then some (setA σ 0 0 38 (upd (mA σ 0 0 38) x2.toNatClampNeg ((mA σ 0 0 38 x2.toNatClampNeg) ||| ((1 : Int32) <<< (x1 &&& 31))))) else none) else none)
set_option maxRecDepth 20000 in
theorem zb_X4_join_32 {S : Shp} {x1 : Int32} {x2 : Int32} {σ : Mm} {r : Mm} (h : F_X4_join_32 x1 x2 σ = some r) : Z m_X4_join S (Qv r) 32 [(0, .ref (sL S 0 0 37)), (1, .int (x1)), (2, .int (x2))] [] σ := by
  unfold F_X4_join_32 at h
  obtain ⟨g3, h⟩ := gd h
  refine z_aload_n dX4_join_32 rfl 0 rfl ?_
  refine gf_4_9 rfl dX4_join_33 ?_
  refine z_iload_n dX4_join_36 rfl 2 rfl ?_
  refine z_dup2_11 dX4_join_37 rfl rfl ?_
  obtain ⟨g4, h⟩ := gd h
  refine ia_0_38 (inb_in g3) dX4_join_38 ?_
  refine z_iconst (v := 1) dX4_join_39 (by decide) ?_
  refine z_iload_n dX4_join_40 rfl 1 rfl ?_
  refine z_ishl dX4_join_41 ?_
  refine z_ior dX4_join_42 ?_
  refine is_0_38 (inb_in g4) dX4_join_43 ?_
  cases h
  exact z_return dX4_join_44 rfl ⟨rfl, rfl⟩
def F_X4_join (x1 : Int32) (x2 : Int32) (σ : Mm) : Option (Mm) := (if x1 < 0 then some (σ) else (if (14 : Int32) ≤ x1 then some (σ) else (if x2 < 0 then some (σ) else (if (14 : Int32) ≤ x2 then some (σ) else (if inb x1 14 = true then (if inb x1 14 = true then (F_X4_join_32 x1 x2 (setA σ 0 0 38 (upd (mA σ 0 0 38) x1.toNatClampNeg ((mA σ 0 0 38 x1.toNatClampNeg) ||| ((1 : Int32) <<< (x2 &&& 31)))))) else none) else none)))))
set_option maxRecDepth 20000 in
theorem zb_X4_join {S : Shp} {x1 : Int32} {x2 : Int32} {σ : Mm} {r : Mm} (h : F_X4_join x1 x2 σ = some r) : Z m_X4_join S (Qv r) 0 [(0, .ref (sL S 0 0 37)), (1, .int (x1)), (2, .int (x2))] [] σ := by
  unfold F_X4_join at h
  refine z_iload_n dX4_join_0 rfl 1 rfl ?_
  refine z_if_lt (tgt := 44) dX4_join_1 (by decide) (fun q => ?_) (fun q => ?_)
  · have h := (if_pos q).symm.trans h
    cases h
    exact z_return dX4_join_44 rfl ⟨rfl, rfl⟩
  · have h := (if_neg q).symm.trans h
    refine z_iload_n dX4_join_4 rfl 1 rfl ?_
    refine z_bipush (v := 14) dX4_join_5 (by decide) ?_
    refine z_icmp_ge (tgt := 44) dX4_join_7 (by decide) (fun q => ?_) (fun q => ?_)
    · have h := (if_pos q).symm.trans h
      cases h
      exact z_return dX4_join_44 rfl ⟨rfl, rfl⟩
    · have h := (if_neg q).symm.trans h
      refine z_iload_n dX4_join_10 rfl 2 rfl ?_
      refine z_if_lt (tgt := 44) dX4_join_11 (by decide) (fun q => ?_) (fun q => ?_)
      · have h := (if_pos q).symm.trans h
        cases h
        exact z_return dX4_join_44 rfl ⟨rfl, rfl⟩
      · have h := (if_neg q).symm.trans h
        refine z_iload_n dX4_join_14 rfl 2 rfl ?_
        refine z_bipush (v := 14) dX4_join_15 (by decide) ?_
        refine z_icmp_ge (tgt := 44) dX4_join_17 (by decide) (fun q => ?_) (fun q => ?_)
        · have h := (if_pos q).symm.trans h
          cases h
          exact z_return dX4_join_44 rfl ⟨rfl, rfl⟩
        · have h := (if_neg q).symm.trans h
          obtain ⟨g1, h⟩ := gd h
          refine z_aload_n dX4_join_20 rfl 0 rfl ?_
          refine gf_4_9 rfl dX4_join_21 ?_
          refine z_iload_n dX4_join_24 rfl 1 rfl ?_
          refine z_dup2_11 dX4_join_25 rfl rfl ?_
          obtain ⟨g2, h⟩ := gd h
          refine ia_0_38 (inb_in g1) dX4_join_26 ?_
          refine z_iconst (v := 1) dX4_join_27 (by decide) ?_
          refine z_iload_n dX4_join_28 rfl 2 rfl ?_
          refine z_ishl dX4_join_29 ?_
          refine z_ior dX4_join_30 ?_
          refine is_0_38 (inb_in g2) dX4_join_31 ?_
          exact zb_X4_join_32 h
/-- SkyStones$Pairing.join(II)V -/
theorem c_X4_join {S : Shp} {x1 : Int32} {x2 : Int32} {σ : Mm} {r : Mm} (h : F_X4_join x1 x2 σ = some r) : Ct m_X4_join S [.ref (sL S 0 0 37), .int (x1), .int (x2)] σ (Qv r) := Ct.of (by decide +kernel) (Nat.le_of_ble_eq_true rfl) (zb_X4_join h)
def F_X4_bestOf (x1 : Int32) (σ : Mm) : Option (Int32 × Mm) := (if inb (x1 >>> ((3 : Int32) &&& 31)) 2048 = true then some (((mA σ 0 0 39 (x1 >>> ((3 : Int32) &&& 31)).toNatClampNeg) >>> (((x1 &&& (7 : Int32)) <<< ((2 : Int32) &&& 31)) &&& 31)) &&& (15 : Int32), σ) else none)
set_option maxRecDepth 20000 in
theorem zb_X4_bestOf {S : Shp} {x1 : Int32} {σ : Mm} {r : Int32 × Mm} (h : F_X4_bestOf x1 σ = some r) : Z m_X4_bestOf S (Qi r) 0 [(0, .ref (sL S 0 0 37)), (1, .int (x1))] [] σ := by
  unfold F_X4_bestOf at h
  obtain ⟨g1, h⟩ := gd h
  refine z_aload_n dX4_bestOf_0 rfl 0 rfl ?_
  refine gf_4_15 rfl dX4_bestOf_1 ?_
  refine z_iload_n dX4_bestOf_4 rfl 1 rfl ?_
  refine z_iconst (v := 3) dX4_bestOf_5 (by decide) ?_
  refine z_ishr dX4_bestOf_6 ?_
  refine ia_0_39 (inb_in g1) dX4_bestOf_7 ?_
  refine z_iload_n dX4_bestOf_8 rfl 1 rfl ?_
  refine z_bipush (v := 7) dX4_bestOf_9 (by decide) ?_
  refine z_iand dX4_bestOf_11 ?_
  refine z_iconst (v := 2) dX4_bestOf_12 (by decide) ?_
  refine z_ishl dX4_bestOf_13 ?_
  refine z_ishr dX4_bestOf_14 ?_
  refine z_bipush (v := 15) dX4_bestOf_15 (by decide) ?_
  refine z_iand dX4_bestOf_17 ?_
  cases h
  exact z_ireturn dX4_bestOf_18 rfl rfl ⟨rfl, rfl⟩
/-- SkyStones$Pairing.bestOf(I)I -/
theorem c_X4_bestOf {S : Shp} {x1 : Int32} {σ : Mm} {r : Int32 × Mm} (h : F_X4_bestOf x1 σ = some r) : Ct m_X4_bestOf S [.ref (sL S 0 0 37), .int (x1)] σ (Qi r) := Ct.of (by decide +kernel) (Nat.le_of_ble_eq_true rfl) (zb_X4_bestOf h)
def F_X4_bestWith_54 (rc19 : Int32 → Int32 → Int32 → Int32 → Int32 → Mm → Option (Int32 × Mm)) (x1 : Int32) (x2 : Int32) (x3 : Int32) (x4 : Int32) (x5 : Int32) (σ : Mm) : Option (Int32 × Mm) := (rc19 x1 x2 x3 x4 (x5 + 1) σ)
set_option maxRecDepth 20000 in
theorem zb_X4_bestWith_54 {S : Shp} {rc19 : Int32 → Int32 → Int32 → Int32 → Int32 → Mm → Option (Int32 × Mm)} (hrc19 : ∀ {x1 : Int32} {x2 : Int32} {x3 : Int32} {x4 : Int32} {x5 : Int32} {σ : Mm} {r : Int32 × Mm}, rc19 x1 x2 x3 x4 x5 σ = some r → Z m_X4_bestWith S (Qi r) 19 [(0, .ref (sL S 0 0 37)), (1, .int (x1)), (2, .int (x2)), (3, .int (x3)), (4, .int (x4)), (5, .int (x5))] [] σ) {x1 : Int32} {x2 : Int32} {x3 : Int32} {x4 : Int32} {x5 : Int32} {σ : Mm} {r : Int32 × Mm} (h : F_X4_bestWith_54 rc19 x1 x2 x3 x4 x5 σ = some r) : Z m_X4_bestWith S (Qi r) 54 [(0, .ref (sL S 0 0 37)), (1, .int (x1)), (2, .int (x2)), (3, .int (x3)), (4, .int (x4)), (5, .int (x5))] [] σ := by
  unfold F_X4_bestWith_54 at h
  refine z_iinc (j := 5) (v := x5 + 1) (lv' := [(0, .ref (sL S 0 0 37)), (1, .int (x1)), (2, .int (x2)), (3, .int (x3)), (4, .int (x4)), (5, .int (x5 + 1))]) dX4_bestWith_54 rfl rfl (by decide) [1, 2, 3, 4, 5, 0] rfl ?_
  refine z_goto (tgt := 19) dX4_bestWith_57 (by decide) ?_
  exact hrc19 h
def F_X4_bestWith_49 (rc19 : Int32 → Int32 → Int32 → Int32 → Int32 → Mm → Option (Int32 × Mm)) (x1 : Int32) (x2 : Int32) (x4 : Int32) (x5 : Int32) (s0 : Int32) (s1 : Int32) (s2 : Int32) (σ : Mm) : Option (Int32 × Mm) := (F_X4_bestWith_54 rc19 x1 x2 (f_J9_max_7cf53 s2 (s1 + s0)) x4 x5 σ)
set_option maxRecDepth 20000 in
theorem zb_X4_bestWith_49 {S : Shp} {rc19 : Int32 → Int32 → Int32 → Int32 → Int32 → Mm → Option (Int32 × Mm)} (hrc19 : ∀ {x1 : Int32} {x2 : Int32} {x3 : Int32} {x4 : Int32} {x5 : Int32} {σ : Mm} {r : Int32 × Mm}, rc19 x1 x2 x3 x4 x5 σ = some r → Z m_X4_bestWith S (Qi r) 19 [(0, .ref (sL S 0 0 37)), (1, .int (x1)), (2, .int (x2)), (3, .int (x3)), (4, .int (x4)), (5, .int (x5))] [] σ) {x1 : Int32} {x2 : Int32} {x4 : Int32} {x5 : Int32} {s0 : Int32} {s1 : Int32} {s2 : Int32} {σ : Mm} {r : Int32 × Mm} (h : F_X4_bestWith_49 rc19 x1 x2 x4 x5 s0 s1 s2 σ = some r) : Z m_X4_bestWith S (Qi r) 49 [(0, .ref (sL S 0 0 37)), (1, .int (x1)), (2, .int (x2)), (4, .int (x4)), (5, .int (x5))] [.int (s0), .int (s1), .int (s2)] σ := by
  unfold F_X4_bestWith_49 at h
  refine z_iadd dX4_bestWith_49 ?_
  refine z_callS (M' := m_J9_max_7cf53) (As := [.int (s2), .int (s1 + s0)]) (rest := []) kl_4_43 oy_J9_max_7cf53 ⟨Nat.le_of_ble_eq_true rfl, Nat.le_of_ble_eq_true rfl⟩ rfl (Nat.le_of_ble_eq_true rfl) rfl dX4_bestWith_50 (c_J9_max_7cf53 rfl) (fun v τ hq => ?_)
  obtain ⟨rfl, hτ⟩ := hq
  subst τ
  change Z _ _ _ _ _ [.int (f_J9_max_7cf53 s2 (s1 + s0))] _
  refine z_istore_n (lv' := [(0, .ref (sL S 0 0 37)), (1, .int (x1)), (2, .int (x2)), (3, .int (f_J9_max_7cf53 s2 (s1 + s0))), (4, .int (x4)), (5, .int (x5))]) dX4_bestWith_53 rfl (by decide) [1, 2, 3, 0, 4, 5] rfl ?_
  exact zb_X4_bestWith_54 hrc19 h
def B_X4_bestWith_19 (rc19 : Int32 → Int32 → Int32 → Int32 → Int32 → Mm → Option (Int32 × Mm)) (x1 : Int32) (x2 : Int32) (x3 : Int32) (x4 : Int32) (x5 : Int32) (σ : Mm) : Option (Int32 × Mm) := (if x1 ≤ x5 then some (x3, σ) else (if ((x4 >>> (x5 &&& 31)) &&& (1 : Int32)) = 0 then (F_X4_bestWith_54 rc19 x1 x2 x3 x4 x5 σ) else (bnd (F_X4_bestOf (x2 &&& (((1 : Int32) <<< (x5 &&& 31)) ^^^ (-1 : Int32))) σ) (fun v τ => (F_X4_bestWith_49 rc19 x1 x2 x4 x5 v 1 x3 τ)))))
set_option maxRecDepth 20000 in
theorem zB_X4_bestWith_19 {S : Shp} {rc19 : Int32 → Int32 → Int32 → Int32 → Int32 → Mm → Option (Int32 × Mm)} (hrc19 : ∀ {x1 : Int32} {x2 : Int32} {x3 : Int32} {x4 : Int32} {x5 : Int32} {σ : Mm} {r : Int32 × Mm}, rc19 x1 x2 x3 x4 x5 σ = some r → Z m_X4_bestWith S (Qi r) 19 [(0, .ref (sL S 0 0 37)), (1, .int (x1)), (2, .int (x2)), (3, .int (x3)), (4, .int (x4)), (5, .int (x5))] [] σ) {x1 : Int32} {x2 : Int32} {x3 : Int32} {x4 : Int32} {x5 : Int32} {σ : Mm} {r : Int32 × Mm} (h : B_X4_bestWith_19 rc19 x1 x2 x3 x4 x5 σ = some r) : Z m_X4_bestWith S (Qi r) 19 [(0, .ref (sL S 0 0 37)), (1, .int (x1)), (2, .int (x2)), (3, .int (x3)), (4, .int (x4)), (5, .int (x5))] [] σ := by
  unfold B_X4_bestWith_19 at h
  refine z_iload dX4_bestWith_19 5 rfl ?_
  refine z_iload_n dX4_bestWith_21 rfl 1 rfl ?_
  refine z_icmp_ge (tgt := 60) dX4_bestWith_22 (by decide) (fun q => ?_) (fun q => ?_)
  · have h := (if_pos q).symm.trans h
    refine z_iload_n dX4_bestWith_60 rfl 3 rfl ?_
    cases h
    exact z_ireturn dX4_bestWith_61 rfl rfl ⟨rfl, rfl⟩
  · have h := (if_neg q).symm.trans h
    refine z_iload dX4_bestWith_25 4 rfl ?_
    refine z_iload dX4_bestWith_27 5 rfl ?_
    refine z_ishr dX4_bestWith_29 ?_
    refine z_iconst (v := 1) dX4_bestWith_30 (by decide) ?_
    refine z_iand dX4_bestWith_31 ?_
    refine z_if_eq (tgt := 54) dX4_bestWith_32 (by decide) (fun q => ?_) (fun q => ?_)
    · have h := (if_pos q).symm.trans h
      exact zb_X4_bestWith_54 hrc19 h
    · have h := (if_neg q).symm.trans h
      refine z_iload_n dX4_bestWith_35 rfl 3 rfl ?_
      refine z_iconst (v := 1) dX4_bestWith_36 (by decide) ?_
      refine z_aload_n dX4_bestWith_37 rfl 0 rfl ?_
      refine z_iload_n dX4_bestWith_38 rfl 2 rfl ?_
      refine z_iconst (v := 1) dX4_bestWith_39 (by decide) ?_
      refine z_iload dX4_bestWith_40 5 rfl ?_
      refine z_ishl dX4_bestWith_42 ?_
      refine z_iconst (v := (-1)) dX4_bestWith_43 (by decide) ?_
      refine z_ixor dX4_bestWith_44 ?_
      refine z_iand dX4_bestWith_45 ?_
      obtain ⟨v, τ, hc, h⟩ := bnd_e h
      refine z_callV (M' := m_X4_bestOf) (t := 0) (i := 0) (k := 37) (As := [.int (x2 &&& (((1 : Int32) <<< (x5 &&& 31)) ^^^ (-1 : Int32)))]) (rest := [.int (1), .int (x3)]) kl_4_36 oy_X4_bestOf ⟨Nat.le_of_ble_eq_true rfl, Nat.le_of_ble_eq_true rfl⟩ rfl rfl rfl rfl (Nat.le_of_ble_eq_true rfl) rfl dX4_bestWith_46 (c_X4_bestOf hc) (fun v2 τ2 hq => ?_)
      obtain ⟨rfl, hτ⟩ := hq
      subst τ2
      change Z _ _ _ _ _ [.int (v), .int (1), .int (x3)] _
      refine Z.lv [0, 1, 2, 4, 5] rfl ?_
      exact zb_X4_bestWith_49 hrc19 h
def F_X4_bestWith_19 : Nat → Int32 → Int32 → Int32 → Int32 → Int32 → Mm → Option (Int32 × Mm)
  | 0 => fun _ _ _ _ _ _ => none
  | n + 1 => B_X4_bestWith_19 (F_X4_bestWith_19 n)
theorem zl_X4_bestWith_19 {S : Shp} : ∀ (nn : Nat) {x1 : Int32} {x2 : Int32} {x3 : Int32} {x4 : Int32} {x5 : Int32} {σ : Mm} {r : Int32 × Mm}, F_X4_bestWith_19 nn x1 x2 x3 x4 x5 σ = some r → Z m_X4_bestWith S (Qi r) 19 [(0, .ref (sL S 0 0 37)), (1, .int (x1)), (2, .int (x2)), (3, .int (x3)), (4, .int (x4)), (5, .int (x5))] [] σ := by
  intro nn
  induction nn with
  | zero => intro x1 x2 x3 x4 x5 σ r h; cases h
  | succ nn ih => intro x1 x2 x3 x4 x5 σ r h; exact zB_X4_bestWith_19 @ih h
def F_X4_bestWith_16 (x1 : Int32) (x2 : Int32) (x3 : Int32) (x4 : Int32) (σ : Mm) : Option (Int32 × Mm) := (F_X4_bestWith_19 FU x1 x2 x3 x4 0 σ)
set_option maxRecDepth 20000 in
theorem zb_X4_bestWith_16 {S : Shp} {x1 : Int32} {x2 : Int32} {x3 : Int32} {x4 : Int32} {σ : Mm} {r : Int32 × Mm} (h : F_X4_bestWith_16 x1 x2 x3 x4 σ = some r) : Z m_X4_bestWith S (Qi r) 16 [(0, .ref (sL S 0 0 37)), (1, .int (x1)), (2, .int (x2)), (3, .int (x3)), (4, .int (x4))] [] σ := by
  unfold F_X4_bestWith_16 at h
  refine z_iconst (v := 0) dX4_bestWith_16 (by decide) ?_
  refine z_istore (lv' := [(0, .ref (sL S 0 0 37)), (1, .int (x1)), (2, .int (x2)), (3, .int (x3)), (4, .int (x4)), (5, .int (0))]) dX4_bestWith_17 (by decide) [1, 2, 3, 4, 5, 0] rfl ?_
  exact zl_X4_bestWith_19 FU h
def F_X4_bestWith_5 (x1 : Int32) (x2 : Int32) (s0 : Int32) (σ : Mm) : Option (Int32 × Mm) := (if inb x1 14 = true then (F_X4_bestWith_16 x1 x2 s0 ((mA σ 0 0 38 x1.toNatClampNeg) &&& x2) σ) else none)
set_option maxRecDepth 20000 in
theorem zb_X4_bestWith_5 {S : Shp} {x1 : Int32} {x2 : Int32} {s0 : Int32} {σ : Mm} {r : Int32 × Mm} (h : F_X4_bestWith_5 x1 x2 s0 σ = some r) : Z m_X4_bestWith S (Qi r) 5 [(0, .ref (sL S 0 0 37)), (1, .int (x1)), (2, .int (x2))] [.int (s0)] σ := by
  unfold F_X4_bestWith_5 at h
  obtain ⟨g1, h⟩ := gd h
  refine z_istore_n (lv' := [(0, .ref (sL S 0 0 37)), (1, .int (x1)), (2, .int (x2)), (3, .int (s0))]) dX4_bestWith_5 rfl (by decide) [1, 2, 3, 0] rfl ?_
  refine z_aload_n dX4_bestWith_6 rfl 0 rfl ?_
  refine gf_4_9 rfl dX4_bestWith_7 ?_
  refine z_iload_n dX4_bestWith_10 rfl 1 rfl ?_
  refine ia_0_38 (inb_in g1) dX4_bestWith_11 ?_
  refine z_iload_n dX4_bestWith_12 rfl 2 rfl ?_
  refine z_iand dX4_bestWith_13 ?_
  refine z_istore (lv' := [(0, .ref (sL S 0 0 37)), (1, .int (x1)), (2, .int (x2)), (3, .int (s0)), (4, .int ((mA σ 0 0 38 x1.toNatClampNeg) &&& x2))]) dX4_bestWith_14 (by decide) [1, 2, 3, 4, 0] rfl ?_
  exact zb_X4_bestWith_16 h
def F_X4_bestWith (x1 : Int32) (x2 : Int32) (σ : Mm) : Option (Int32 × Mm) := (bnd (F_X4_bestOf x2 σ) (fun v τ => (F_X4_bestWith_5 x1 x2 v τ)))
set_option maxRecDepth 20000 in
theorem zb_X4_bestWith {S : Shp} {x1 : Int32} {x2 : Int32} {σ : Mm} {r : Int32 × Mm} (h : F_X4_bestWith x1 x2 σ = some r) : Z m_X4_bestWith S (Qi r) 0 [(0, .ref (sL S 0 0 37)), (1, .int (x1)), (2, .int (x2))] [] σ := by
  unfold F_X4_bestWith at h
  refine z_aload_n dX4_bestWith_0 rfl 0 rfl ?_
  refine z_iload_n dX4_bestWith_1 rfl 2 rfl ?_
  obtain ⟨v, τ, hc, h⟩ := bnd_e h
  refine z_callV (M' := m_X4_bestOf) (t := 0) (i := 0) (k := 37) (As := [.int (x2)]) (rest := []) kl_4_36 oy_X4_bestOf ⟨Nat.le_of_ble_eq_true rfl, Nat.le_of_ble_eq_true rfl⟩ rfl rfl rfl rfl (Nat.le_of_ble_eq_true rfl) rfl dX4_bestWith_2 (c_X4_bestOf hc) (fun v2 τ2 hq => ?_)
  obtain ⟨rfl, hτ⟩ := hq
  subst τ2
  change Z _ _ _ _ _ [.int (v)] _
  exact zb_X4_bestWith_5 h
/-- SkyStones$Pairing.bestWith(II)I -/
theorem c_X4_bestWith {S : Shp} {x1 : Int32} {x2 : Int32} {σ : Mm} {r : Int32 × Mm} (h : F_X4_bestWith x1 x2 σ = some r) : Ct m_X4_bestWith S [.ref (sL S 0 0 37), .int (x1), .int (x2)] σ (Qi r) := Ct.of (by decide +kernel) (Nat.le_of_ble_eq_true rfl) (zb_X4_bestWith h)
