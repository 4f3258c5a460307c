def F_X5_kindHere (σ : Mm) : Option (Int32 × Mm) := (if 400 < (mA σ 0 0 12 4) then some (0, σ) else (if inb (mA σ 0 0 12 4) 402 = true then some (mA σ 0 0 8 (mA σ 0 0 12 4).toNatClampNeg, σ) else none))
set_option maxRecDepth 20000 in
theorem zb_X5_kindHere {S : Shp} {σ : Mm} {r : Int32 × Mm} (h : F_X5_kindHere σ = some r) : Z m_X5_kindHere S (Qi r) 0 [(0, .ref (sL S 0 0 12))] [] σ := by
  unfold F_X5_kindHere at h
  refine z_aload_n dX5_kindHere_0 rfl 0 rfl ?_
  refine gf_5_18 rfl dX5_kindHere_1 ?_
  refine z_sipush (v := 400) dX5_kindHere_4 (by decide) ?_
  refine z_icmp_gt (tgt := 25) dX5_kindHere_7 (by decide) (fun q => ?_) (fun q => ?_)
  · have h := (if_pos q).symm.trans h
    refine z_iconst (v := 0) dX5_kindHere_25 (by decide) ?_
    cases h
    exact z_ireturn dX5_kindHere_26 rfl rfl ⟨rfl, rfl⟩
  · have h := (if_neg q).symm.trans h
    obtain ⟨g1, h⟩ := gd h
    refine z_aload_n dX5_kindHere_10 rfl 0 rfl ?_
    refine gf_5_34 rfl dX5_kindHere_11 ?_
    refine gf_5_68 rfl dX5_kindHere_14 ?_
    refine z_aload_n dX5_kindHere_17 rfl 0 rfl ?_
    refine gf_5_18 rfl dX5_kindHere_18 ?_
    refine ia_0_8 (inb_in g1) dX5_kindHere_21 ?_
    refine z_goto (tgt := 26) dX5_kindHere_22 (by decide) ?_
    cases h
    exact z_ireturn dX5_kindHere_26 rfl rfl ⟨rfl, rfl⟩
/-- SkyStones$Reader.kindHere()I -/
theorem c_X5_kindHere {S : Shp} {σ : Mm} {r : Int32 × Mm} (h : F_X5_kindHere σ = some r) : Ct m_X5_kindHere S [.ref (sL S 0 0 12)] σ (Qi r) := Ct.of (by decide) (Nat.le_of_ble_eq_true rfl) (zb_X5_kindHere h)
def F_X5_stop_22 (σ : Mm) : Option (Mm) := (if inb (mA σ 0 0 12 4) 402 = true then some (setA σ 0 0 12 (upd (mA σ 0 0 12) 1 (mA σ 0 0 9 (mA σ 0 0 12 4).toNatClampNeg))) else none)
set_option maxRecDepth 20000 in
theorem zb_X5_stop_22 {S : Shp} {σ : Mm} {r : Mm} (h : F_X5_stop_22 σ = some r) : Z m_X5_stop S (Qv r) 22 [(0, .ref (sL S 0 0 12))] [] σ := by
  unfold F_X5_stop_22 at h
  obtain ⟨g1, h⟩ := gd h
  refine z_aload_n dX5_stop_22 rfl 0 rfl ?_
  refine z_aload_n dX5_stop_23 rfl 0 rfl ?_
  refine gf_5_34 rfl dX5_stop_24 ?_
  refine gf_5_74 rfl dX5_stop_27 ?_
  refine z_aload_n dX5_stop_30 rfl 0 rfl ?_
  refine gf_5_18 rfl dX5_stop_31 ?_
  refine ia_0_9 (inb_in g1) dX5_stop_34 ?_
  refine pf_5_15 rfl dX5_stop_35 ?_
  cases h
  exact z_return dX5_stop_38 rfl ⟨rfl, rfl⟩
def F_X5_stop (x1 : Int32) (σ : Mm) : Option (Mm) := (if (mA σ 0 0 12 0) = 0 then (if 400 < (mA σ 0 0 12 4) then some (σ) else (F_X5_stop_22 (setA σ 0 0 12 (upd (mA σ 0 0 12) 0 x1)))) else some (σ))
set_option maxRecDepth 20000 in
theorem zb_X5_stop {S : Shp} {x1 : Int32} {σ : Mm} {r : Mm} (h : F_X5_stop x1 σ = some r) : Z m_X5_stop S (Qv r) 0 [(0, .ref (sL S 0 0 12)), (1, .int (x1))] [] σ := by
  unfold F_X5_stop at h
  refine z_aload_n dX5_stop_0 rfl 0 rfl ?_
  refine gf_5_9 rfl dX5_stop_1 ?_
  refine z_if_ne (tgt := 38) dX5_stop_4 (by decide) (fun q => ?_) (fun q => ?_)
  · have h := (if_neg q).symm.trans h
    cases h
    exact z_return dX5_stop_38 rfl ⟨rfl, rfl⟩
  · have h := (if_pos q).symm.trans h
    refine z_aload_n dX5_stop_7 rfl 0 rfl ?_
    refine gf_5_18 rfl dX5_stop_8 ?_
    refine z_sipush (v := 400) dX5_stop_11 (by decide) ?_
    refine z_icmp_gt (tgt := 38) dX5_stop_14 (by decide) (fun q => ?_) (fun q => ?_)
    · have h := (if_pos q).symm.trans h
      cases h
      exact z_return dX5_stop_38 rfl ⟨rfl, rfl⟩
    · have h := (if_neg q).symm.trans h
      refine z_aload_n dX5_stop_17 rfl 0 rfl ?_
      refine z_iload_n dX5_stop_18 rfl 1 rfl ?_
      refine pf_5_9 rfl dX5_stop_19 ?_
      refine Z.lv [0] rfl ?_
      exact zb_X5_stop_22 h
/-- SkyStones$Reader.stop(I)V -/
theorem c_X5_stop {S : Shp} {x1 : Int32} {σ : Mm} {r : Mm} (h : F_X5_stop x1 σ = some r) : Ct m_X5_stop S [.ref (sL S 0 0 12), .int (x1)] σ (Qv r) := Ct.of (by decide) (Nat.le_of_ble_eq_true rfl) (zb_X5_stop h)
def F_X5_blame_23 (x2 : Int32) (σ : Mm) : Option (Mm) := (if inb x2 402 = true then some (setA σ 0 0 12 (upd (mA σ 0 0 12) 6 (mA σ 0 0 9 x2.toNatClampNeg))) else none)
set_option maxRecDepth 20000 in
theorem zb_X5_blame_23 {S : Shp} {x2 : Int32} {σ : Mm} {r : Mm} (h : F_X5_blame_23 x2 σ = some r) : Z m_X5_blame S (Qv r) 23 [(0, .ref (sL S 0 0 12)), (2, .int (x2))] [] σ := by
  unfold F_X5_blame_23 at h
  obtain ⟨g1, h⟩ := gd h
  refine z_aload_n dX5_blame_23 rfl 0 rfl ?_
  refine z_aload_n dX5_blame_24 rfl 0 rfl ?_
  refine gf_5_34 rfl dX5_blame_25 ?_
  refine gf_5_74 rfl dX5_blame_28 ?_
  refine z_iload_n dX5_blame_31 rfl 1 rfl ?_
  refine ia_0_9 (inb_in g1) dX5_blame_32 ?_
  refine pf_5_24 rfl dX5_blame_33 ?_
  cases h
  exact z_return dX5_blame_36 rfl ⟨rfl, rfl⟩
def F_X5_blame (x1 : Int32) (x2 : Int32) (σ : Mm) : Option (Mm) := (if (mA σ 0 0 12 5) = 0 then (if x2 < 0 then some (σ) else (if 400 < x2 then some (σ) else (F_X5_blame_23 x2 (setA σ 0 0 12 (upd (mA σ 0 0 12) 5 x1))))) else some (σ))
set_option maxRecDepth 20000 in
theorem zb_X5_blame {S : Shp} {x1 : Int32} {x2 : Int32} {σ : Mm} {r : Mm} (h : F_X5_blame x1 x2 σ = some r) : Z m_X5_blame S (Qv r) 0 [(0, .ref (sL S 0 0 12)), (1, .int (x1)), (2, .int (x2))] [] σ := by
  unfold F_X5_blame at h
  refine z_aload_n dX5_blame_0 rfl 0 rfl ?_
  refine gf_5_21 rfl dX5_blame_1 ?_
  refine z_if_ne (tgt := 36) dX5_blame_4 (by decide) (fun q => ?_) (fun q => ?_)
  · have h := (if_neg q).symm.trans h
    cases h
    exact z_return dX5_blame_36 rfl ⟨rfl, rfl⟩
  · have h := (if_pos q).symm.trans h
    refine z_iload_n dX5_blame_7 rfl 2 rfl ?_
    refine z_if_lt (tgt := 36) dX5_blame_8 (by decide) (fun q => ?_) (fun q => ?_)
    · have h := (if_pos q).symm.trans h
      cases h
      exact z_return dX5_blame_36 rfl ⟨rfl, rfl⟩
    · have h := (if_neg q).symm.trans h
      refine z_iload_n dX5_blame_11 rfl 2 rfl ?_
      refine z_sipush (v := 400) dX5_blame_12 (by decide) ?_
      refine z_icmp_gt (tgt := 36) dX5_blame_15 (by decide) (fun q => ?_) (fun q => ?_)
      · have h := (if_pos q).symm.trans h
        cases h
        exact z_return dX5_blame_36 rfl ⟨rfl, rfl⟩
      · have h := (if_neg q).symm.trans h
        refine z_aload_n dX5_blame_18 rfl 0 rfl ?_
        refine z_iload_n dX5_blame_19 rfl 1 rfl ?_
        refine pf_5_21 rfl dX5_blame_20 ?_
        refine Z.lv [0, 2] rfl ?_
        exact zb_X5_blame_23 h
/-- SkyStones$Reader.blame(II)V -/
theorem c_X5_blame {S : Shp} {x1 : Int32} {x2 : Int32} {σ : Mm} {r : Mm} (h : F_X5_blame x1 x2 σ = some r) : Ct m_X5_blame S [.ref (sL S 0 0 12), .int (x1), .int (x2)] σ (Qv r) := Ct.of (by decide) (Nat.le_of_ble_eq_true rfl) (zb_X5_blame h)
def F_X5_hasRoom_10 (σ : Mm) : Option (Int32 × Mm) := (if (mA σ 0 0 12 0) = 0 then some (1, σ) else some (0, σ))
set_option maxRecDepth 20000 in
theorem zb_X5_hasRoom_10 {S : Shp} {σ : Mm} {r : Int32 × Mm} (h : F_X5_hasRoom_10 σ = some r) : Z m_X5_hasRoom S (Qi r) 10 [(0, .ref (sL S 0 0 12))] [] σ := by
  unfold F_X5_hasRoom_10 at h
  refine z_aload_n dX5_hasRoom_10 rfl 0 rfl ?_
  refine gf_5_9 rfl dX5_hasRoom_11 ?_
  refine z_if_ne (tgt := 21) dX5_hasRoom_14 (by decide) (fun q => ?_) (fun q => ?_)
  · have h := (if_neg q).symm.trans h
    refine z_iconst (v := 0) dX5_hasRoom_21 (by decide) ?_
    cases h
    exact z_ireturn dX5_hasRoom_22 rfl rfl ⟨rfl, rfl⟩
  · have h := (if_pos q).symm.trans h
    refine z_iconst (v := 1) dX5_hasRoom_17 (by decide) ?_
    refine z_goto (tgt := 22) dX5_hasRoom_18 (by decide) ?_
    cases h
    exact z_ireturn dX5_hasRoom_22 rfl rfl ⟨rfl, rfl⟩
def F_X5_hasRoom (x1 : Int32) (x2 : Int32) (σ : Mm) : Option (Int32 × Mm) := (if x1 < x2 then (F_X5_hasRoom_10 σ) else (bnv (F_X5_stop 2 σ) (fun τ => (F_X5_hasRoom_10 τ))))
set_option maxRecDepth 20000 in
theorem zb_X5_hasRoom {S : Shp} {x1 : Int32} {x2 : Int32} {σ : Mm} {r : Int32 × Mm} (h : F_X5_hasRoom x1 x2 σ = some r) : Z m_X5_hasRoom S (Qi r) 0 [(0, .ref (sL S 0 0 12)), (1, .int (x1)), (2, .int (x2))] [] σ := by
  unfold F_X5_hasRoom at h
  refine z_iload_n dX5_hasRoom_0 rfl 1 rfl ?_
  refine z_iload_n dX5_hasRoom_1 rfl 2 rfl ?_
  refine z_icmp_lt (tgt := 10) dX5_hasRoom_2 (by decide) (fun q => ?_) (fun q => ?_)
  · have h := (if_pos q).symm.trans h
    refine Z.lv [0] rfl ?_
    exact zb_X5_hasRoom_10 h
  · have h := (if_neg q).symm.trans h
    refine z_aload_n dX5_hasRoom_5 rfl 0 rfl ?_
    refine z_iconst (v := 2) dX5_hasRoom_6 (by decide) ?_
    obtain ⟨τ, hc, h⟩ := bnv_e h
    refine z_callV (M' := m_X5_stop) (t := 0) (i := 0) (k := 12) (As := [.int (2)]) (rest := []) kl_5_65 oy_X5_stop ⟨Nat.le_of_ble_eq_true rfl, Nat.le_of_ble_eq_true rfl⟩ rfl rfl rfl rfl (Nat.le_of_ble_eq_true rfl) rfl dX5_hasRoom_7 (c_X5_stop hc) (fun v2 τ2 hq => ?_)
    obtain ⟨rfl, rfl⟩ := hq
    change Z _ _ _ _ _ [] _
    refine Z.lv [0] rfl ?_
    exact zb_X5_hasRoom_10 h
/-- SkyStones$Reader.hasRoom(II)Z -/
theorem c_X5_hasRoom {S : Shp} {x1 : Int32} {x2 : Int32} {σ : Mm} {r : Int32 × Mm} (h : F_X5_hasRoom x1 x2 σ = some r) : Ct m_X5_hasRoom S [.ref (sL S 0 0 12), .int (x1), .int (x2)] σ (Qi r) := Ct.of (by decide) (Nat.le_of_ble_eq_true rfl) (zb_X5_hasRoom h)
def F_X5_take_98 (σ : Mm) : Option (Int32 × Mm) := some (0, σ)
set_option maxRecDepth 20000 in
theorem zb_X5_take_98 {S : Shp} {σ : Mm} {r : Int32 × Mm} (h : F_X5_take_98 σ = some r) : Z m_X5_take S (Qi r) 98 [] [] σ := by
  unfold F_X5_take_98 at h
  refine z_iconst (v := 0) dX5_take_98 (by decide) ?_
  cases h
  exact z_ireturn dX5_take_99 rfl rfl ⟨rfl, rfl⟩
def F_X5_take_82 (σ : Mm) : Option (Int32 × Mm) := (if inb (mA σ 0 0 12 4) 402 = true then (F_X5_take_98 (setA σ 0 0 12 (upd (mA σ 0 0 12) 1 (mA σ 0 0 9 (mA σ 0 0 12 4).toNatClampNeg)))) else none)
set_option maxRecDepth 20000 in
theorem zb_X5_take_82 {S : Shp} {σ : Mm} {r : Int32 × Mm} (h : F_X5_take_82 σ = some r) : Z m_X5_take S (Qi r) 82 [(0, .ref (sL S 0 0 12))] [] σ := by
  unfold F_X5_take_82 at h
  obtain ⟨g3, h⟩ := gd h
  refine z_aload_n dX5_take_82 rfl 0 rfl ?_
  refine z_aload_n dX5_take_83 rfl 0 rfl ?_
  refine gf_5_34 rfl dX5_take_84 ?_
  refine gf_5_74 rfl dX5_take_87 ?_
  refine z_aload_n dX5_take_90 rfl 0 rfl ?_
  refine gf_5_18 rfl dX5_take_91 ?_
  refine ia_0_9 (inb_in g3) dX5_take_94 ?_
  refine pf_5_15 rfl dX5_take_95 ?_
  refine Z.lv [] rfl ?_
  exact zb_X5_take_98 h
def F_X5_take_79 (s0 : Int32) (σ : Mm) : Option (Int32 × Mm) := (F_X5_take_82 (setA σ 0 0 12 (upd (mA σ 0 0 12) 0 s0)))
set_option maxRecDepth 20000 in
theorem zb_X5_take_79 {S : Shp} {s0 : Int32} {σ : Mm} {r : Int32 × Mm} (h : F_X5_take_79 s0 σ = some r) : Z m_X5_take S (Qi r) 79 [(0, .ref (sL S 0 0 12))] [.int (s0), .ref (sL S 0 0 12)] σ := by
  unfold F_X5_take_79 at h
  refine pf_5_9 rfl dX5_take_79 ?_
  exact zb_X5_take_82 h
def F_X5_take_57 (x1 : Int32) (σ : Mm) : Option (Int32 × Mm) := (if inb (mA σ 0 0 12 4) 402 = true then (if (mA σ 0 0 8 (mA σ 0 0 12 4).toNatClampNeg) = x1 then (F_X5_take_79 2 σ) else (F_X5_take_79 1 σ)) else none)
set_option maxRecDepth 20000 in
theorem zb_X5_take_57 {S : Shp} {x1 : Int32} {σ : Mm} {r : Int32 × Mm} (h : F_X5_take_57 x1 σ = some r) : Z m_X5_take S (Qi r) 57 [(0, .ref (sL S 0 0 12)), (1, .int (x1))] [] σ := by
  unfold F_X5_take_57 at h
  obtain ⟨g2, h⟩ := gd h
  refine z_aload_n dX5_take_57 rfl 0 rfl ?_
  refine z_aload_n dX5_take_58 rfl 0 rfl ?_
  refine gf_5_34 rfl dX5_take_59 ?_
  refine gf_5_68 rfl dX5_take_62 ?_
  refine z_aload_n dX5_take_65 rfl 0 rfl ?_
  refine gf_5_18 rfl dX5_take_66 ?_
  refine ia_0_8 (inb_in g2) dX5_take_69 ?_
  refine z_iload_n dX5_take_70 rfl 1 rfl ?_
  refine z_icmp_ne (tgt := 78) dX5_take_71 (by decide) (fun q => ?_) (fun q => ?_)
  · have h := (if_neg q).symm.trans h
    refine z_iconst (v := 1) dX5_take_78 (by decide) ?_
    refine Z.lv [0] rfl ?_
    exact zb_X5_take_79 h
  · have h := (if_pos q).symm.trans h
    refine z_iconst (v := 2) dX5_take_74 (by decide) ?_
    refine z_goto (tgt := 79) dX5_take_75 (by decide) ?_
    refine Z.lv [0] rfl ?_
    exact zb_X5_take_79 h
def F_X5_take_55 (σ : Mm) : Option (Int32 × Mm) := some (1, σ)
set_option maxRecDepth 20000 in
theorem zb_X5_take_55 {S : Shp} {σ : Mm} {r : Int32 × Mm} (h : F_X5_take_55 σ = some r) : Z m_X5_take S (Qi r) 55 [] [] σ := by
  unfold F_X5_take_55 at h
  refine z_iconst (v := 1) dX5_take_55 (by decide) ?_
  cases h
  exact z_ireturn dX5_take_56 rfl rfl ⟨rfl, rfl⟩
def F_X5_take (x1 : Int32) (σ : Mm) : Option (Int32 × Mm) := (if (mA σ 0 0 12 0) = 0 then (if (mA σ 0 0 12 4) ≤ 400 then (if inb (mA σ 0 0 12 4) 402 = true then (if (mA σ 0 0 8 (mA σ 0 0 12 4).toNatClampNeg) = x1 then (if 400 ≤ (mA σ 0 0 12 4) then (F_X5_take_57 x1 σ) else (F_X5_take_55 (setA σ 0 0 12 (upd (mA σ 0 0 12) 4 ((mA σ 0 0 12 4) + 1))))) else (F_X5_take_57 x1 σ)) else none) else some (0, σ)) else some (0, σ))
set_option maxRecDepth 20000 in
theorem zb_X5_take {S : Shp} {x1 : Int32} {σ : Mm} {r : Int32 × Mm} (h : F_X5_take x1 σ = some r) : Z m_X5_take S (Qi r) 0 [(0, .ref (sL S 0 0 12)), (1, .int (x1))] [] σ := by
  unfold F_X5_take at h
  refine z_aload_n dX5_take_0 rfl 0 rfl ?_
  refine gf_5_9 rfl dX5_take_1 ?_
  refine z_if_ne (tgt := 17) dX5_take_4 (by decide) (fun q => ?_) (fun q => ?_)
  · have h := (if_neg q).symm.trans h
    refine z_iconst (v := 0) dX5_take_17 (by decide) ?_
    cases h
    exact z_ireturn dX5_take_18 rfl rfl ⟨rfl, rfl⟩
  · have h := (if_pos q).symm.trans h
    refine z_aload_n dX5_take_7 rfl 0 rfl ?_
    refine gf_5_18 rfl dX5_take_8 ?_
    refine z_sipush (v := 400) dX5_take_11 (by decide) ?_
    refine z_icmp_le (tgt := 19) dX5_take_14 (by decide) (fun q => ?_) (fun q => ?_)
    · have h := (if_pos q).symm.trans h
      obtain ⟨g1, h⟩ := gd h
      refine z_aload_n dX5_take_19 rfl 0 rfl ?_
      refine gf_5_34 rfl dX5_take_20 ?_
      refine gf_5_68 rfl dX5_take_23 ?_
      refine z_aload_n dX5_take_26 rfl 0 rfl ?_
      refine gf_5_18 rfl dX5_take_27 ?_
      refine ia_0_8 (inb_in g1) dX5_take_30 ?_
      refine z_iload_n dX5_take_31 rfl 1 rfl ?_
      refine z_icmp_ne (tgt := 57) dX5_take_32 (by decide) (fun q => ?_) (fun q => ?_)
      · have h := (if_neg q).symm.trans h
        exact zb_X5_take_57 h
      · have h := (if_pos q).symm.trans h
        refine z_aload_n dX5_take_35 rfl 0 rfl ?_
        refine gf_5_18 rfl dX5_take_36 ?_
        refine z_sipush (v := 400) dX5_take_39 (by decide) ?_
        refine z_icmp_ge (tgt := 57) dX5_take_42 (by decide) (fun q => ?_) (fun q => ?_)
        · have h := (if_pos q).symm.trans h
          exact zb_X5_take_57 h
        · have h := (if_neg q).symm.trans h
          refine z_aload_n dX5_take_45 rfl 0 rfl ?_
          refine z_dup dX5_take_46 rfl ?_
          refine gf_5_18 rfl dX5_take_47 ?_
          refine z_iconst (v := 1) dX5_take_50 (by decide) ?_
          refine z_iadd dX5_take_51 ?_
          refine pf_5_18 rfl dX5_take_52 ?_
          refine Z.lv [] rfl ?_
          exact zb_X5_take_55 h
    · have h := (if_neg q).symm.trans h
      refine z_iconst (v := 0) dX5_take_17 (by decide) ?_
      cases h
      exact z_ireturn dX5_take_18 rfl rfl ⟨rfl, rfl⟩
/-- SkyStones$Reader.take(I)Z -/
theorem c_X5_take {S : Shp} {x1 : Int32} {σ : Mm} {r : Int32 × Mm} (h : F_X5_take x1 σ = some r) : Ct m_X5_take S [.ref (sL S 0 0 12), .int (x1)] σ (Qi r) := Ct.of (by decide) (Nat.le_of_ble_eq_true rfl) (zb_X5_take h)
def F_X5_unit_101 (rcS : Int32 → Mm → Option Mm) (σ : Mm) : Option (Mm) := some (σ)
set_option maxRecDepth 20000 in
theorem zb_X5_unit_101 {S : Shp} {n : Nat} {rcS : Int32 → Mm → Option Mm} (hrcS : ∀ {x1 : Int32} {σ r : Mm}, rcS x1 σ = some r → Ct (m_X5_sum n) S [.ref (sL S 0 0 12), .int x1] σ (Qv r)) {σ : Mm} {r : Mm} (h : F_X5_unit_101 rcS σ = some r) : Z (m_X5_unit n) S (Qv r) 101 [] [] σ := by
  unfold F_X5_unit_101 at h
  refine z_goto (tgt := 109) dX5_unit_101 (by decide) ?_
  cases h
  exact z_return dX5_unit_109 rfl ⟨rfl, rfl⟩
def F_X5_unit_78 (rcS : Int32 → Mm → Option Mm) (x2 : Int32) (x3 : Int32) (s0 : Int32) (σ : Mm) : Option (Mm) := (if s0 = 0 then some (σ) else (if okP σ = true then (if inb x3 402 = true then (bnv (F_X0_put (mP σ 2) x2 (mA σ 0 0 10 x3.toNatClampNeg) σ) (fun τ => (F_X5_unit_101 rcS τ))) else none) else none))
set_option maxRecDepth 20000 in
theorem zb_X5_unit_78 {S : Shp} {n : Nat} {rcS : Int32 → Mm → Option Mm} (hrcS : ∀ {x1 : Int32} {σ r : Mm}, rcS x1 σ = some r → Ct (m_X5_sum n) S [.ref (sL S 0 0 12), .int x1] σ (Qv r)) {x2 : Int32} {x3 : Int32} {s0 : Int32} {σ : Mm} {r : Mm} (h : F_X5_unit_78 rcS x2 x3 s0 σ = some r) : Z (m_X5_unit n) S (Qv r) 78 [(0, .ref (sL S 0 0 12)), (2, .int (x2)), (3, .int (x3))] [.int (s0)] σ := by
  unfold F_X5_unit_78 at h
  refine z_if_eq (tgt := 109) dX5_unit_78 (by decide) (fun q => ?_) (fun q => ?_)
  · have h := (if_pos q).symm.trans h
    cases h
    exact z_return dX5_unit_109 rfl ⟨rfl, rfl⟩
  · have h := (if_neg q).symm.trans h
    obtain ⟨g1, h⟩ := gd h
    refine z_aload_n dX5_unit_81 rfl 0 rfl ?_
    obtain ⟨g2, h⟩ := gd h
    have hp := g1
    refine gf_5_38 rfl dX5_unit_82 ?_
    refine gf_5_152 (lv1 (okP_2 hp) rfl) rfl dX5_unit_85 ?_
    refine z_iload_n dX5_unit_88 rfl 1 rfl ?_
    refine z_aload_n dX5_unit_89 rfl 0 rfl ?_
    refine gf_5_34 rfl dX5_unit_90 ?_
    refine gf_5_77 rfl dX5_unit_93 ?_
    refine z_iload_n dX5_unit_96 rfl 2 rfl ?_
    refine ia_0_10 (inb_in g2) dX5_unit_97 ?_
    obtain ⟨τ, hc, h⟩ := bnv_e h
    refine z_callV (M' := m_X0_put) (t := 1) (i := (mP σ 2)) (k := 10) (As := [.int (x2), .int (mA σ 0 0 10 x3.toNatClampNeg)]) (rest := []) kl_5_173 oy_X0_put ⟨(by omega : 0 + 1 ≤ 3 * n + 6), (by omega : 8 + (3 + 11) + 40 * (0) ≤ 40 * (3 * n + 6))⟩ (lv1 (okP_2 hp) rfl) rfl rfl rfl (Nat.le_of_ble_eq_true rfl) rfl dX5_unit_98 (c_X0_put (okP_2 hp) hc) (fun v2 τ2 hq => ?_)
    obtain ⟨rfl, rfl⟩ := hq
    change Z _ _ _ _ _ [] _
    refine Z.lv [] rfl ?_
    exact zb_X5_unit_101 hrcS h
def F_X5_unit_73 (rcS : Int32 → Mm → Option Mm) (x2 : Int32) (x3 : Int32) (σ : Mm) : Option (Mm) := (bnd (F_X5_take x2 σ) (fun v τ => (F_X5_unit_78 rcS x2 x3 v τ)))
set_option maxRecDepth 20000 in
theorem zb_X5_unit_73 {S : Shp} {n : Nat} {rcS : Int32 → Mm → Option Mm} (hrcS : ∀ {x1 : Int32} {σ r : Mm}, rcS x1 σ = some r → Ct (m_X5_sum n) S [.ref (sL S 0 0 12), .int x1] σ (Qv r)) {x2 : Int32} {x3 : Int32} {σ : Mm} {r : Mm} (h : F_X5_unit_73 rcS x2 x3 σ = some r) : Z (m_X5_unit n) S (Qv r) 73 [(0, .ref (sL S 0 0 12)), (2, .int (x2)), (3, .int (x3))] [] σ := by
  unfold F_X5_unit_73 at h
  refine z_aload_n dX5_unit_73 rfl 0 rfl ?_
  refine z_iload_n dX5_unit_74 rfl 1 rfl ?_
  obtain ⟨v, τ, hc, h⟩ := bnd_e h
  refine z_callV (M' := m_X5_take) (t := 0) (i := 0) (k := 12) (As := [.int (x2)]) (rest := []) kl_5_103 oy_X5_take ⟨(by omega : 0 + 1 ≤ 3 * n + 6), (by omega : 8 + (2 + 11) + 40 * (0) ≤ 40 * (3 * n + 6))⟩ rfl rfl rfl rfl (Nat.le_of_ble_eq_true rfl) rfl dX5_unit_75 (c_X5_take hc) (fun v2 τ2 hq => ?_)
  obtain ⟨rfl, rfl⟩ := hq
  change Z _ _ _ _ _ [.int (v)] _
  exact zb_X5_unit_78 hrcS h
def F_X5_unit_58 (rcS : Int32 → Mm → Option Mm) (s0 : Int32) (σ : Mm) : Option (Mm) := some (σ)
set_option maxRecDepth 20000 in
theorem zb_X5_unit_58 {S : Shp} {n : Nat} {rcS : Int32 → Mm → Option Mm} (hrcS : ∀ {x1 : Int32} {σ r : Mm}, rcS x1 σ = some r → Ct (m_X5_sum n) S [.ref (sL S 0 0 12), .int x1] σ (Qv r)) {s0 : Int32} {σ : Mm} {r : Mm} (h : F_X5_unit_58 rcS s0 σ = some r) : Z (m_X5_unit n) S (Qv r) 58 [] [.int (s0)] σ := by
  unfold F_X5_unit_58 at h
  refine z_pop dX5_unit_58 rfl ?_
  refine z_goto (tgt := 109) dX5_unit_59 (by decide) ?_
  cases h
  exact z_return dX5_unit_109 rfl ⟨rfl, rfl⟩
def F_X5_unit_52 (rcS : Int32 → Mm → Option Mm) (σ : Mm) : Option (Mm) := (bnd (F_X5_take 15 σ) (fun v τ => (F_X5_unit_58 rcS v τ)))
set_option maxRecDepth 20000 in
theorem zb_X5_unit_52 {S : Shp} {n : Nat} {rcS : Int32 → Mm → Option Mm} (hrcS : ∀ {x1 : Int32} {σ r : Mm}, rcS x1 σ = some r → Ct (m_X5_sum n) S [.ref (sL S 0 0 12), .int x1] σ (Qv r)) {σ : Mm} {r : Mm} (h : F_X5_unit_52 rcS σ = some r) : Z (m_X5_unit n) S (Qv r) 52 [(0, .ref (sL S 0 0 12))] [] σ := by
  unfold F_X5_unit_52 at h
  refine z_aload_n dX5_unit_52 rfl 0 rfl ?_
  refine z_bipush (v := 15) dX5_unit_53 (by decide) ?_
  obtain ⟨v, τ, hc, h⟩ := bnd_e h
  refine z_callV (M' := m_X5_take) (t := 0) (i := 0) (k := 12) (As := [.int (15)]) (rest := []) kl_5_103 oy_X5_take ⟨(by omega : 0 + 1 ≤ 3 * n + 6), (by omega : 8 + (2 + 11) + 40 * (0) ≤ 40 * (3 * n + 6))⟩ rfl rfl rfl rfl (Nat.le_of_ble_eq_true rfl) rfl dX5_unit_55 (c_X5_take hc) (fun v2 τ2 hq => ?_)
  obtain ⟨rfl, rfl⟩ := hq
  change Z _ _ _ _ _ [.int (v)] _
  refine Z.lv [] rfl ?_
  exact zb_X5_unit_58 hrcS h
def F_X5_unit_42 (rcS : Int32 → Mm → Option Mm) (x1 : Int32) (s0 : Int32) (σ : Mm) : Option (Mm) := (if s0 = 0 then some (σ) else (bnv (rcS (x1 + 1) σ) (fun τ => (F_X5_unit_52 rcS τ))))
set_option maxRecDepth 20000 in
theorem zb_X5_unit_42 {S : Shp} {n : Nat} {rcS : Int32 → Mm → Option Mm} (hrcS : ∀ {x1 : Int32} {σ r : Mm}, rcS x1 σ = some r → Ct (m_X5_sum n) S [.ref (sL S 0 0 12), .int x1] σ (Qv r)) {x1 : Int32} {s0 : Int32} {σ : Mm} {r : Mm} (h : F_X5_unit_42 rcS x1 s0 σ = some r) : Z (m_X5_unit n) S (Qv r) 42 [(0, .ref (sL S 0 0 12)), (1, .int (x1))] [.int (s0)] σ := by
  unfold F_X5_unit_42 at h
  refine z_if_eq (tgt := 109) dX5_unit_42 (by decide) (fun q => ?_) (fun q => ?_)
  · have h := (if_pos q).symm.trans h
    cases h
    exact z_return dX5_unit_109 rfl ⟨rfl, rfl⟩
  · have h := (if_neg q).symm.trans h
    refine z_aload_n dX5_unit_45 rfl 0 rfl ?_
    refine z_iload_n dX5_unit_46 rfl 1 rfl ?_
    refine z_iconst (v := 1) dX5_unit_47 (by decide) ?_
    refine z_iadd dX5_unit_48 ?_
    obtain ⟨τ, hc, h⟩ := bnv_e h
    refine z_callV (M' := m_X5_sum n) (t := 0) (i := 0) (k := 12) (As := [.int (x1 + 1)]) (rest := []) kl_5_161 oy_X5_sum ⟨(by omega : 3 * n + 5 + 1 ≤ 3 * n + 6), (by omega : 8 + (4 + 11) + 40 * (3 * n + 5) ≤ 40 * (3 * n + 6))⟩ rfl rfl rfl rfl (Nat.le_of_ble_eq_true rfl) rfl dX5_unit_49 (hrcS hc) (fun v2 τ2 hq => ?_)
    obtain ⟨rfl, rfl⟩ := hq
    change Z _ _ _ _ _ [] _
    refine Z.lv [0] rfl ?_
    exact zb_X5_unit_52 hrcS h
def F_X5_unit_30 (rcS : Int32 → Mm → Option Mm) (x1 : Int32) (x2 : Int32) (x3 : Int32) (σ : Mm) : Option (Mm) := (if x2 = 14 then (bnd (F_X5_take 14 σ) (fun v τ => (F_X5_unit_42 rcS x1 v τ))) else (if x2 = 3 then (F_X5_unit_73 rcS x2 x3 σ) else (if x2 < 28 then (bnv (F_X5_stop 1 σ) (fun τ => some (τ))) else (F_X5_unit_73 rcS x2 x3 σ))))
set_option maxRecDepth 20000 in
theorem zb_X5_unit_30 {S : Shp} {n : Nat} {rcS : Int32 → Mm → Option Mm} (hrcS : ∀ {x1 : Int32} {σ r : Mm}, rcS x1 σ = some r → Ct (m_X5_sum n) S [.ref (sL S 0 0 12), .int x1] σ (Qv r)) {x1 : Int32} {x2 : Int32} {x3 : Int32} {σ : Mm} {r : Mm} (h : F_X5_unit_30 rcS x1 x2 x3 σ = some r) : Z (m_X5_unit n) S (Qv r) 30 [(0, .ref (sL S 0 0 12)), (1, .int (x1)), (2, .int (x2)), (3, .int (x3))] [] σ := by
  unfold F_X5_unit_30 at h
  refine z_iload_n dX5_unit_30 rfl 2 rfl ?_
  refine z_bipush (v := 14) dX5_unit_31 (by decide) ?_
  refine z_icmp_ne (tgt := 62) dX5_unit_33 (by decide) (fun q => ?_) (fun q => ?_)
  · have h := (if_neg q).symm.trans h
    refine z_iload_n dX5_unit_62 rfl 2 rfl ?_
    refine z_iconst (v := 3) dX5_unit_63 (by decide) ?_
    refine z_icmp_eq (tgt := 73) dX5_unit_64 (by decide) (fun q => ?_) (fun q => ?_)
    · have h := (if_pos q).symm.trans h
      refine Z.lv [0, 2, 3] rfl ?_
      exact zb_X5_unit_73 hrcS h
    · have h := (if_neg q).symm.trans h
      refine z_iload_n dX5_unit_67 rfl 2 rfl ?_
      refine z_bipush (v := 28) dX5_unit_68 (by decide) ?_
      refine z_icmp_lt (tgt := 104) dX5_unit_70 (by decide) (fun q => ?_) (fun q => ?_)
      · have h := (if_pos q).symm.trans h
        refine z_aload_n dX5_unit_104 rfl 0 rfl ?_
        refine z_iconst (v := 1) dX5_unit_105 (by decide) ?_
        obtain ⟨τ, hc, h⟩ := bnv_e h
        refine z_callV (M' := m_X5_stop) (t := 0) (i := 0) (k := 12) (As := [.int (1)]) (rest := []) kl_5_65 oy_X5_stop ⟨(by omega : 0 + 1 ≤ 3 * n + 6), (by omega : 8 + (2 + 11) + 40 * (0) ≤ 40 * (3 * n + 6))⟩ rfl rfl rfl rfl (Nat.le_of_ble_eq_true rfl) rfl dX5_unit_106 (c_X5_stop hc) (fun v2 τ2 hq => ?_)
        obtain ⟨rfl, rfl⟩ := hq
        change Z _ _ _ _ _ [] _
        cases h
        exact z_return dX5_unit_109 rfl ⟨rfl, rfl⟩
      · have h := (if_neg q).symm.trans h
        refine Z.lv [0, 2, 3] rfl ?_
        exact zb_X5_unit_73 hrcS h
  · have h := (if_pos q).symm.trans h
    refine z_aload_n dX5_unit_36 rfl 0 rfl ?_
    refine z_bipush (v := 14) dX5_unit_37 (by decide) ?_
    obtain ⟨v, τ, hc, h⟩ := bnd_e h
    refine z_callV (M' := m_X5_take) (t := 0) (i := 0) (k := 12) (As := [.int (14)]) (rest := []) kl_5_103 oy_X5_take ⟨(by omega : 0 + 1 ≤ 3 * n + 6), (by omega : 8 + (2 + 11) + 40 * (0) ≤ 40 * (3 * n + 6))⟩ rfl rfl rfl rfl (Nat.le_of_ble_eq_true rfl) rfl dX5_unit_39 (c_X5_take hc) (fun v2 τ2 hq => ?_)
    obtain ⟨rfl, rfl⟩ := hq
    change Z _ _ _ _ _ [.int (v)] _
    refine Z.lv [0, 1] rfl ?_
    exact zb_X5_unit_42 hrcS h
def F_X5_unit_27 (rcS : Int32 → Mm → Option Mm) (σ : Mm) : Option (Mm) := some (σ)
set_option maxRecDepth 20000 in
theorem zb_X5_unit_27 {S : Shp} {n : Nat} {rcS : Int32 → Mm → Option Mm} (hrcS : ∀ {x1 : Int32} {σ r : Mm}, rcS x1 σ = some r → Ct (m_X5_sum n) S [.ref (sL S 0 0 12), .int x1] σ (Qv r)) {σ : Mm} {r : Mm} (h : F_X5_unit_27 rcS σ = some r) : Z (m_X5_unit n) S (Qv r) 27 [] [] σ := by
  unfold F_X5_unit_27 at h
  refine z_goto (tgt := 109) dX5_unit_27 (by decide) ?_
  cases h
  exact z_return dX5_unit_109 rfl ⟨rfl, rfl⟩
def F_X5_unit_4 (rcS : Int32 → Mm → Option Mm) (x1 : Int32) (s0 : Int32) (σ : Mm) : Option (Mm) := (if s0 = 14 then (if x1 < 6 then (F_X5_unit_30 rcS x1 s0 (mA σ 0 0 12 4) σ) else (bnv (F_X5_stop 2 σ) (fun τ => (F_X5_unit_27 rcS τ)))) else (F_X5_unit_30 rcS x1 s0 (mA σ 0 0 12 4) σ))
set_option maxRecDepth 20000 in
theorem zb_X5_unit_4 {S : Shp} {n : Nat} {rcS : Int32 → Mm → Option Mm} (hrcS : ∀ {x1 : Int32} {σ r : Mm}, rcS x1 σ = some r → Ct (m_X5_sum n) S [.ref (sL S 0 0 12), .int x1] σ (Qv r)) {x1 : Int32} {s0 : Int32} {σ : Mm} {r : Mm} (h : F_X5_unit_4 rcS x1 s0 σ = some r) : Z (m_X5_unit n) S (Qv r) 4 [(0, .ref (sL S 0 0 12)), (1, .int (x1))] [.int (s0)] σ := by
  unfold F_X5_unit_4 at h
  refine z_istore_n dX5_unit_4 rfl (by decide) [1, 2, 0] rfl ?_
  refine z_aload_n dX5_unit_5 rfl 0 rfl ?_
  refine gf_5_18 rfl dX5_unit_6 ?_
  refine z_istore_n dX5_unit_9 rfl (by decide) [1, 2, 3, 0] rfl ?_
  refine z_iload_n dX5_unit_10 rfl 2 rfl ?_
  refine z_bipush (v := 14) dX5_unit_11 (by decide) ?_
  refine z_icmp_ne (tgt := 30) dX5_unit_13 (by decide) (fun q => ?_) (fun q => ?_)
  · have h := (if_neg q).symm.trans h
    exact zb_X5_unit_30 hrcS h
  · have h := (if_pos q).symm.trans h
    refine z_iload_n dX5_unit_16 rfl 1 rfl ?_
    refine z_bipush (v := 6) dX5_unit_17 (by decide) ?_
    refine z_icmp_lt (tgt := 30) dX5_unit_19 (by decide) (fun q => ?_) (fun q => ?_)
    · have h := (if_pos q).symm.trans h
      exact zb_X5_unit_30 hrcS h
    · have h := (if_neg q).symm.trans h
      refine z_aload_n dX5_unit_22 rfl 0 rfl ?_
      refine z_iconst (v := 2) dX5_unit_23 (by decide) ?_
      obtain ⟨τ, hc, h⟩ := bnv_e h
      refine z_callV (M' := m_X5_stop) (t := 0) (i := 0) (k := 12) (As := [.int (2)]) (rest := []) kl_5_65 oy_X5_stop ⟨(by omega : 0 + 1 ≤ 3 * n + 6), (by omega : 8 + (2 + 11) + 40 * (0) ≤ 40 * (3 * n + 6))⟩ rfl rfl rfl rfl (Nat.le_of_ble_eq_true rfl) rfl dX5_unit_24 (c_X5_stop hc) (fun v2 τ2 hq => ?_)
      obtain ⟨rfl, rfl⟩ := hq
      change Z _ _ _ _ _ [] _
      refine Z.lv [] rfl ?_
      exact zb_X5_unit_27 hrcS h
def F_X5_unit (rcS : Int32 → Mm → Option Mm) (x1 : Int32) (σ : Mm) : Option (Mm) := (bnd (F_X5_kindHere  σ) (fun v τ => (F_X5_unit_4 rcS x1 v τ)))
set_option maxRecDepth 20000 in
theorem zb_X5_unit {S : Shp} {n : Nat} {rcS : Int32 → Mm → Option Mm} (hrcS : ∀ {x1 : Int32} {σ r : Mm}, rcS x1 σ = some r → Ct (m_X5_sum n) S [.ref (sL S 0 0 12), .int x1] σ (Qv r)) {x1 : Int32} {σ : Mm} {r : Mm} (h : F_X5_unit rcS x1 σ = some r) : Z (m_X5_unit n) S (Qv r) 0 [(0, .ref (sL S 0 0 12)), (1, .int (x1))] [] σ := by
  unfold F_X5_unit at h
  refine z_aload_n dX5_unit_0 rfl 0 rfl ?_
  obtain ⟨v, τ, hc, h⟩ := bnd_e h
  refine z_callV (M' := m_X5_kindHere) (t := 0) (i := 0) (k := 12) (As := []) (rest := []) kl_5_42 oy_X5_kindHere ⟨(by omega : 0 + 1 ≤ 3 * n + 6), (by omega : 8 + (1 + 11) + 40 * (0) ≤ 40 * (3 * n + 6))⟩ rfl rfl rfl rfl (Nat.le_of_ble_eq_true rfl) rfl dX5_unit_1 (c_X5_kindHere hc) (fun v2 τ2 hq => ?_)
  obtain ⟨rfl, rfl⟩ := hq
  change Z _ _ _ _ _ [.int (v)] _
  exact zb_X5_unit_4 hrcS h
/-- SkyStones$Reader.unit(I)V -/
theorem c_X5_unit {S : Shp} {n : Nat} {rcS : Int32 → Mm → Option Mm} (hrcS : ∀ {x1 : Int32} {σ r : Mm}, rcS x1 σ = some r → Ct (m_X5_sum n) S [.ref (sL S 0 0 12), .int x1] σ (Qv r)) {x1 : Int32} {σ : Mm} {r : Mm} (h : F_X5_unit rcS x1 σ = some r) : Ct (m_X5_unit n) S [.ref (sL S 0 0 12), .int (x1)] σ (Qv r) := Ct.of (by decide) (Nat.le_of_ble_eq_true rfl) (zb_X5_unit hrcS h)
def F_X5_product_64 (rcS : Int32 → Mm → Option Mm) (rc7 : Int32 → Int32 → Mm → Option (Mm)) (x1 : Int32) (x2 : Int32) (σ : Mm) : Option (Mm) := (rc7 x1 (x2 + 1) σ)
set_option maxRecDepth 20000 in
theorem zb_X5_product_64 {S : Shp} {n : Nat} {rcS : Int32 → Mm → Option Mm} (hrcS : ∀ {x1 : Int32} {σ r : Mm}, rcS x1 σ = some r → Ct (m_X5_sum n) S [.ref (sL S 0 0 12), .int x1] σ (Qv r)) {rc7 : Int32 → Int32 → Mm → Option (Mm)} (hrc7 : ∀ {x1 : Int32} {x2 : Int32} {σ : Mm} {r : Mm}, rc7 x1 x2 σ = some r → Z (m_X5_product n) S (Qv r) 7 [(0, .ref (sL S 0 0 12)), (1, .int (x1)), (2, .int (x2))] [] σ) {x1 : Int32} {x2 : Int32} {σ : Mm} {r : Mm} (h : F_X5_product_64 rcS rc7 x1 x2 σ = some r) : Z (m_X5_product n) S (Qv r) 64 [(0, .ref (sL S 0 0 12)), (1, .int (x1)), (2, .int (x2))] [] σ := by
  unfold F_X5_product_64 at h
  refine z_iinc (j := 2) (v := x2 + 1) dX5_product_64 rfl rfl (by decide) [1, 2, 0] rfl ?_
  refine z_goto (tgt := 7) dX5_product_67 (by decide) ?_
  exact hrc7 h
def F_X5_product_52 (rcS : Int32 → Mm → Option Mm) (rc7 : Int32 → Int32 → Mm → Option (Mm)) (x1 : Int32) (x2 : Int32) (x3 : Int32) (σ : Mm) : Option (Mm) := (if okP σ = true then (bnv (F_X0_put (mP σ 2) x3 0 σ) (fun τ => (F_X5_product_64 rcS rc7 x1 x2 τ))) else none)
set_option maxRecDepth 20000 in
theorem zb_X5_product_52 {S : Shp} {n : Nat} {rcS : Int32 → Mm → Option Mm} (hrcS : ∀ {x1 : Int32} {σ r : Mm}, rcS x1 σ = some r → Ct (m_X5_sum n) S [.ref (sL S 0 0 12), .int x1] σ (Qv r)) {rc7 : Int32 → Int32 → Mm → Option (Mm)} (hrc7 : ∀ {x1 : Int32} {x2 : Int32} {σ : Mm} {r : Mm}, rc7 x1 x2 σ = some r → Z (m_X5_product n) S (Qv r) 7 [(0, .ref (sL S 0 0 12)), (1, .int (x1)), (2, .int (x2))] [] σ) {x1 : Int32} {x2 : Int32} {x3 : Int32} {σ : Mm} {r : Mm} (h : F_X5_product_52 rcS rc7 x1 x2 x3 σ = some r) : Z (m_X5_product n) S (Qv r) 52 [(0, .ref (sL S 0 0 12)), (1, .int (x1)), (2, .int (x2)), (3, .int (x3))] [] σ := by
  unfold F_X5_product_52 at h
  obtain ⟨g1, h⟩ := gd h
  refine z_aload_n dX5_product_52 rfl 0 rfl ?_
  have hp := g1
  refine gf_5_38 rfl dX5_product_53 ?_
  refine gf_5_152 (lv1 (okP_2 hp) rfl) rfl dX5_product_56 ?_
  refine z_iload_n dX5_product_59 rfl 3 rfl ?_
  refine z_iconst (v := 0) dX5_product_60 (by decide) ?_
  obtain ⟨τ, hc, h⟩ := bnv_e h
  refine z_callV (M' := m_X0_put) (t := 1) (i := (mP σ 2)) (k := 10) (As := [.int (x3), .int (0)]) (rest := []) kl_5_173 oy_X0_put ⟨(by omega : 0 + 1 ≤ 3 * n + 7), (by omega : 8 + (3 + 11) + 40 * (0) ≤ 40 * (3 * n + 7))⟩ (lv1 (okP_2 hp) rfl) rfl rfl rfl (Nat.le_of_ble_eq_true rfl) rfl dX5_product_61 (c_X0_put (okP_2 hp) hc) (fun v2 τ2 hq => ?_)
  obtain ⟨rfl, rfl⟩ := hq
  change Z _ _ _ _ _ [] _
  refine Z.lv [0, 1, 2] rfl ?_
  exact zb_X5_product_64 hrcS hrc7 h
def F_X5_product_46 (rcS : Int32 → Mm → Option Mm) (rc7 : Int32 → Int32 → Mm → Option (Mm)) (x1 : Int32) (x2 : Int32) (x3 : Int32) (s0 : Int32) (σ : Mm) : Option (Mm) := (bnv (F_X5_unit rcS x1 σ) (fun τ => (F_X5_product_52 rcS rc7 x1 x2 x3 τ)))
set_option maxRecDepth 20000 in
theorem zb_X5_product_46 {S : Shp} {n : Nat} {rcS : Int32 → Mm → Option Mm} (hrcS : ∀ {x1 : Int32} {σ r : Mm}, rcS x1 σ = some r → Ct (m_X5_sum n) S [.ref (sL S 0 0 12), .int x1] σ (Qv r)) {rc7 : Int32 → Int32 → Mm → Option (Mm)} (hrc7 : ∀ {x1 : Int32} {x2 : Int32} {σ : Mm} {r : Mm}, rc7 x1 x2 σ = some r → Z (m_X5_product n) S (Qv r) 7 [(0, .ref (sL S 0 0 12)), (1, .int (x1)), (2, .int (x2))] [] σ) {x1 : Int32} {x2 : Int32} {x3 : Int32} {s0 : Int32} {σ : Mm} {r : Mm} (h : F_X5_product_46 rcS rc7 x1 x2 x3 s0 σ = some r) : Z (m_X5_product n) S (Qv r) 46 [(0, .ref (sL S 0 0 12)), (1, .int (x1)), (2, .int (x2)), (3, .int (x3))] [.int (s0)] σ := by
  unfold F_X5_product_46 at h
  refine z_pop dX5_product_46 rfl ?_
  refine z_aload_n dX5_product_47 rfl 0 rfl ?_
  refine z_iload_n dX5_product_48 rfl 1 rfl ?_
  obtain ⟨τ, hc, h⟩ := bnv_e h
  refine z_callV (M' := m_X5_unit n) (t := 0) (i := 0) (k := 12) (As := [.int (x1)]) (rest := []) kl_5_179 oy_X5_unit ⟨(by omega : 3 * n + 6 + 1 ≤ 3 * n + 7), (by omega : 8 + (4 + 11) + 40 * (3 * n + 6) ≤ 40 * (3 * n + 7))⟩ rfl rfl rfl rfl (Nat.le_of_ble_eq_true rfl) rfl dX5_product_49 (c_X5_unit hrcS hc) (fun v2 τ2 hq => ?_)
  obtain ⟨rfl, rfl⟩ := hq
  change Z _ _ _ _ _ [] _
  exact zb_X5_product_52 hrcS hrc7 h
def F_X5_product_41 (rcS : Int32 → Mm → Option Mm) (rc7 : Int32 → Int32 → Mm → Option (Mm)) (x1 : Int32) (x2 : Int32) (x3 : Int32) (σ : Mm) : Option (Mm) := (bnd (F_X5_take x3 σ) (fun v τ => (F_X5_product_46 rcS rc7 x1 x2 x3 v τ)))
set_option maxRecDepth 20000 in
theorem zb_X5_product_41 {S : Shp} {n : Nat} {rcS : Int32 → Mm → Option Mm} (hrcS : ∀ {x1 : Int32} {σ r : Mm}, rcS x1 σ = some r → Ct (m_X5_sum n) S [.ref (sL S 0 0 12), .int x1] σ (Qv r)) {rc7 : Int32 → Int32 → Mm → Option (Mm)} (hrc7 : ∀ {x1 : Int32} {x2 : Int32} {σ : Mm} {r : Mm}, rc7 x1 x2 σ = some r → Z (m_X5_product n) S (Qv r) 7 [(0, .ref (sL S 0 0 12)), (1, .int (x1)), (2, .int (x2))] [] σ) {x1 : Int32} {x2 : Int32} {x3 : Int32} {σ : Mm} {r : Mm} (h : F_X5_product_41 rcS rc7 x1 x2 x3 σ = some r) : Z (m_X5_product n) S (Qv r) 41 [(0, .ref (sL S 0 0 12)), (1, .int (x1)), (2, .int (x2)), (3, .int (x3))] [] σ := by
  unfold F_X5_product_41 at h
  refine z_aload_n dX5_product_41 rfl 0 rfl ?_
  refine z_iload_n dX5_product_42 rfl 3 rfl ?_
  obtain ⟨v, τ, hc, h⟩ := bnd_e h
  refine z_callV (M' := m_X5_take) (t := 0) (i := 0) (k := 12) (As := [.int (x3)]) (rest := []) kl_5_103 oy_X5_take ⟨(by omega : 0 + 1 ≤ 3 * n + 7), (by omega : 8 + (2 + 11) + 40 * (0) ≤ 40 * (3 * n + 7))⟩ rfl rfl rfl rfl (Nat.le_of_ble_eq_true rfl) rfl dX5_product_43 (c_X5_take hc) (fun v2 τ2 hq => ?_)
  obtain ⟨rfl, rfl⟩ := hq
  change Z _ _ _ _ _ [.int (v)] _
  exact zb_X5_product_46 hrcS hrc7 h
def F_X5_product_25 (rcS : Int32 → Mm → Option Mm) (rc7 : Int32 → Int32 → Mm → Option (Mm)) (x1 : Int32) (x2 : Int32) (s0 : Int32) (σ : Mm) : Option (Mm) := (if s0 = 8 then (F_X5_product_41 rcS rc7 x1 x2 s0 σ) else (if s0 = 9 then (F_X5_product_41 rcS rc7 x1 x2 s0 σ) else some (σ)))
set_option maxRecDepth 20000 in
theorem zb_X5_product_25 {S : Shp} {n : Nat} {rcS : Int32 → Mm → Option Mm} (hrcS : ∀ {x1 : Int32} {σ r : Mm}, rcS x1 σ = some r → Ct (m_X5_sum n) S [.ref (sL S 0 0 12), .int x1] σ (Qv r)) {rc7 : Int32 → Int32 → Mm → Option (Mm)} (hrc7 : ∀ {x1 : Int32} {x2 : Int32} {σ : Mm} {r : Mm}, rc7 x1 x2 σ = some r → Z (m_X5_product n) S (Qv r) 7 [(0, .ref (sL S 0 0 12)), (1, .int (x1)), (2, .int (x2))] [] σ) {x1 : Int32} {x2 : Int32} {s0 : Int32} {σ : Mm} {r : Mm} (h : F_X5_product_25 rcS rc7 x1 x2 s0 σ = some r) : Z (m_X5_product n) S (Qv r) 25 [(0, .ref (sL S 0 0 12)), (1, .int (x1)), (2, .int (x2))] [.int (s0)] σ := by
  unfold F_X5_product_25 at h
  refine z_istore_n dX5_product_25 rfl (by decide) [1, 2, 3, 0] rfl ?_
  refine z_iload_n dX5_product_26 rfl 3 rfl ?_
  refine z_bipush (v := 8) dX5_product_27 (by decide) ?_
  refine z_icmp_eq (tgt := 41) dX5_product_29 (by decide) (fun q => ?_) (fun q => ?_)
  · have h := (if_pos q).symm.trans h
    exact zb_X5_product_41 hrcS hrc7 h
  · have h := (if_neg q).symm.trans h
    refine z_iload_n dX5_product_32 rfl 3 rfl ?_
    refine z_bipush (v := 9) dX5_product_33 (by decide) ?_
    refine z_icmp_eq (tgt := 41) dX5_product_35 (by decide) (fun q => ?_) (fun q => ?_)
    · have h := (if_pos q).symm.trans h
      exact zb_X5_product_41 hrcS hrc7 h
    · have h := (if_neg q).symm.trans h
      refine z_goto (tgt := 70) dX5_product_38 (by decide) ?_
      cases h
      exact z_return dX5_product_70 rfl ⟨rfl, rfl⟩
def B_X5_product_7 (rcS : Int32 → Mm → Option Mm) (rc7 : Int32 → Int32 → Mm → Option (Mm)) (x1 : Int32) (x2 : Int32) (σ : Mm) : Option (Mm) := (if 400 ≤ x2 then some (σ) else (if (mA σ 0 0 12 0) = 0 then (bnd (F_X5_kindHere  σ) (fun v τ => (F_X5_product_25 rcS rc7 x1 x2 v τ))) else some (σ)))
set_option maxRecDepth 20000 in
theorem zB_X5_product_7 {S : Shp} {n : Nat} {rcS : Int32 → Mm → Option Mm} (hrcS : ∀ {x1 : Int32} {σ r : Mm}, rcS x1 σ = some r → Ct (m_X5_sum n) S [.ref (sL S 0 0 12), .int x1] σ (Qv r)) {rc7 : Int32 → Int32 → Mm → Option (Mm)} (hrc7 : ∀ {x1 : Int32} {x2 : Int32} {σ : Mm} {r : Mm}, rc7 x1 x2 σ = some r → Z (m_X5_product n) S (Qv r) 7 [(0, .ref (sL S 0 0 12)), (1, .int (x1)), (2, .int (x2))] [] σ) {x1 : Int32} {x2 : Int32} {σ : Mm} {r : Mm} (h : B_X5_product_7 rcS rc7 x1 x2 σ = some r) : Z (m_X5_product n) S (Qv r) 7 [(0, .ref (sL S 0 0 12)), (1, .int (x1)), (2, .int (x2))] [] σ := by
  unfold B_X5_product_7 at h
  refine z_iload_n dX5_product_7 rfl 2 rfl ?_
  refine z_sipush (v := 400) dX5_product_8 (by decide) ?_
  refine z_icmp_ge (tgt := 70) dX5_product_11 (by decide) (fun q => ?_) (fun q => ?_)
  · have h := (if_pos q).symm.trans h
    cases h
    exact z_return dX5_product_70 rfl ⟨rfl, rfl⟩
  · have h := (if_neg q).symm.trans h
    refine z_aload_n dX5_product_14 rfl 0 rfl ?_
    refine gf_5_9 rfl dX5_product_15 ?_
    refine z_if_ne (tgt := 70) dX5_product_18 (by decide) (fun q => ?_) (fun q => ?_)
    · have h := (if_neg q).symm.trans h
      cases h
      exact z_return dX5_product_70 rfl ⟨rfl, rfl⟩
    · have h := (if_pos q).symm.trans h
      refine z_aload_n dX5_product_21 rfl 0 rfl ?_
      obtain ⟨v, τ, hc, h⟩ := bnd_e h
      refine z_callV (M' := m_X5_kindHere) (t := 0) (i := 0) (k := 12) (As := []) (rest := []) kl_5_42 oy_X5_kindHere ⟨(by omega : 0 + 1 ≤ 3 * n + 7), (by omega : 8 + (1 + 11) + 40 * (0) ≤ 40 * (3 * n + 7))⟩ rfl rfl rfl rfl (Nat.le_of_ble_eq_true rfl) rfl dX5_product_22 (c_X5_kindHere hc) (fun v2 τ2 hq => ?_)
      obtain ⟨rfl, rfl⟩ := hq
      change Z _ _ _ _ _ [.int (v)] _
      exact zb_X5_product_25 hrcS hrc7 h
def F_X5_product_7 (rcS : Int32 → Mm → Option Mm) : Nat → Int32 → Int32 → Mm → Option (Mm)
  | 0 => fun _ _ _ => none
  | n + 1 => B_X5_product_7 rcS (F_X5_product_7 rcS n)
theorem zl_X5_product_7 {S : Shp} {n : Nat} {rcS : Int32 → Mm → Option Mm} (hrcS : ∀ {x1 : Int32} {σ r : Mm}, rcS x1 σ = some r → Ct (m_X5_sum n) S [.ref (sL S 0 0 12), .int x1] σ (Qv r)) (nn : Nat) {x1 : Int32} {x2 : Int32} {σ : Mm} {r : Mm} (h : F_X5_product_7 rcS nn x1 x2 σ = some r) : Z (m_X5_product n) S (Qv r) 7 [(0, .ref (sL S 0 0 12)), (1, .int (x1)), (2, .int (x2))] [] σ := by
  induction nn generalizing x1 x2 σ r with
  | zero => cases h
  | succ nn ih => exact zB_X5_product_7 hrcS (fun h => ih h) h
def F_X5_product_5 (rcS : Int32 → Mm → Option Mm) (x1 : Int32) (σ : Mm) : Option (Mm) := (F_X5_product_7 rcS FU x1 0 σ)
set_option maxRecDepth 20000 in
theorem zb_X5_product_5 {S : Shp} {n : Nat} {rcS : Int32 → Mm → Option Mm} (hrcS : ∀ {x1 : Int32} {σ r : Mm}, rcS x1 σ = some r → Ct (m_X5_sum n) S [.ref (sL S 0 0 12), .int x1] σ (Qv r)) {x1 : Int32} {σ : Mm} {r : Mm} (h : F_X5_product_5 rcS x1 σ = some r) : Z (m_X5_product n) S (Qv r) 5 [(0, .ref (sL S 0 0 12)), (1, .int (x1))] [] σ := by
  unfold F_X5_product_5 at h
  refine z_iconst (v := 0) dX5_product_5 (by decide) ?_
  refine z_istore_n dX5_product_6 rfl (by decide) [1, 2, 0] rfl ?_
  exact zl_X5_product_7 hrcS FU h
def F_X5_product (rcS : Int32 → Mm → Option Mm) (x1 : Int32) (σ : Mm) : Option (Mm) := (bnv (F_X5_unit rcS x1 σ) (fun τ => (F_X5_product_5 rcS x1 τ)))
set_option maxRecDepth 20000 in
theorem zb_X5_product {S : Shp} {n : Nat} {rcS : Int32 → Mm → Option Mm} (hrcS : ∀ {x1 : Int32} {σ r : Mm}, rcS x1 σ = some r → Ct (m_X5_sum n) S [.ref (sL S 0 0 12), .int x1] σ (Qv r)) {x1 : Int32} {σ : Mm} {r : Mm} (h : F_X5_product rcS x1 σ = some r) : Z (m_X5_product n) S (Qv r) 0 [(0, .ref (sL S 0 0 12)), (1, .int (x1))] [] σ := by
  unfold F_X5_product at h
  refine z_aload_n dX5_product_0 rfl 0 rfl ?_
  refine z_iload_n dX5_product_1 rfl 1 rfl ?_
  obtain ⟨τ, hc, h⟩ := bnv_e h
  refine z_callV (M' := m_X5_unit n) (t := 0) (i := 0) (k := 12) (As := [.int (x1)]) (rest := []) kl_5_179 oy_X5_unit ⟨(by omega : 3 * n + 6 + 1 ≤ 3 * n + 7), (by omega : 8 + (4 + 11) + 40 * (3 * n + 6) ≤ 40 * (3 * n + 7))⟩ rfl rfl rfl rfl (Nat.le_of_ble_eq_true rfl) rfl dX5_product_2 (c_X5_unit hrcS hc) (fun v2 τ2 hq => ?_)
  obtain ⟨rfl, rfl⟩ := hq
  change Z _ _ _ _ _ [] _
  exact zb_X5_product_5 hrcS h
/-- SkyStones$Reader.product(I)V -/
theorem c_X5_product {S : Shp} {n : Nat} {rcS : Int32 → Mm → Option Mm} (hrcS : ∀ {x1 : Int32} {σ r : Mm}, rcS x1 σ = some r → Ct (m_X5_sum n) S [.ref (sL S 0 0 12), .int x1] σ (Qv r)) {x1 : Int32} {σ : Mm} {r : Mm} (h : F_X5_product rcS x1 σ = some r) : Ct (m_X5_product n) S [.ref (sL S 0 0 12), .int (x1)] σ (Qv r) := Ct.of (by decide) (Nat.le_of_ble_eq_true rfl) (zb_X5_product hrcS h)
def F_X5_sum_64 (rcS : Int32 → Mm → Option Mm) (rc7 : Int32 → Int32 → Mm → Option (Mm)) (x1 : Int32) (x2 : Int32) (σ : Mm) : Option (Mm) := (rc7 x1 (x2 + 1) σ)
set_option maxRecDepth 20000 in
theorem zb_X5_sum_64 {S : Shp} {n : Nat} {rcS : Int32 → Mm → Option Mm} (hrcS : ∀ {x1 : Int32} {σ r : Mm}, rcS x1 σ = some r → Ct (m_X5_sum n) S [.ref (sL S 0 0 12), .int x1] σ (Qv r)) {rc7 : Int32 → Int32 → Mm → Option (Mm)} (hrc7 : ∀ {x1 : Int32} {x2 : Int32} {σ : Mm} {r : Mm}, rc7 x1 x2 σ = some r → Z (m_X5_sum (n + 1)) S (Qv r) 7 [(0, .ref (sL S 0 0 12)), (1, .int (x1)), (2, .int (x2))] [] σ) {x1 : Int32} {x2 : Int32} {σ : Mm} {r : Mm} (h : F_X5_sum_64 rcS rc7 x1 x2 σ = some r) : Z (m_X5_sum (n + 1)) S (Qv r) 64 [(0, .ref (sL S 0 0 12)), (1, .int (x1)), (2, .int (x2))] [] σ := by
  unfold F_X5_sum_64 at h
  refine z_iinc (j := 2) (v := x2 + 1) dX5_sum_64 rfl rfl (by decide) [1, 2, 0] rfl ?_
  refine z_goto (tgt := 7) dX5_sum_67 (by decide) ?_
  exact hrc7 h
def F_X5_sum_52 (rcS : Int32 → Mm → Option Mm) (rc7 : Int32 → Int32 → Mm → Option (Mm)) (x1 : Int32) (x2 : Int32) (x3 : Int32) (σ : Mm) : Option (Mm) := (if okP σ = true then (bnv (F_X0_put (mP σ 2) x3 0 σ) (fun τ => (F_X5_sum_64 rcS rc7 x1 x2 τ))) else none)
set_option maxRecDepth 20000 in
theorem zb_X5_sum_52 {S : Shp} {n : Nat} {rcS : Int32 → Mm → Option Mm} (hrcS : ∀ {x1 : Int32} {σ r : Mm}, rcS x1 σ = some r → Ct (m_X5_sum n) S [.ref (sL S 0 0 12), .int x1] σ (Qv r)) {rc7 : Int32 → Int32 → Mm → Option (Mm)} (hrc7 : ∀ {x1 : Int32} {x2 : Int32} {σ : Mm} {r : Mm}, rc7 x1 x2 σ = some r → Z (m_X5_sum (n + 1)) S (Qv r) 7 [(0, .ref (sL S 0 0 12)), (1, .int (x1)), (2, .int (x2))] [] σ) {x1 : Int32} {x2 : Int32} {x3 : Int32} {σ : Mm} {r : Mm} (h : F_X5_sum_52 rcS rc7 x1 x2 x3 σ = some r) : Z (m_X5_sum (n + 1)) S (Qv r) 52 [(0, .ref (sL S 0 0 12)), (1, .int (x1)), (2, .int (x2)), (3, .int (x3))] [] σ := by
  unfold F_X5_sum_52 at h
  obtain ⟨g1, h⟩ := gd h
  refine z_aload_n dX5_sum_52 rfl 0 rfl ?_
  have hp := g1
  refine gf_5_38 rfl dX5_sum_53 ?_
  refine gf_5_152 (lv1 (okP_2 hp) rfl) rfl dX5_sum_56 ?_
  refine z_iload_n dX5_sum_59 rfl 3 rfl ?_
  refine z_iconst (v := 0) dX5_sum_60 (by decide) ?_
  obtain ⟨τ, hc, h⟩ := bnv_e h
  refine z_callV (M' := m_X0_put) (t := 1) (i := (mP σ 2)) (k := 10) (As := [.int (x3), .int (0)]) (rest := []) kl_5_173 oy_X0_put ⟨(by omega : 0 + 1 ≤ 3 * n + 5), (by omega : 8 + (3 + 11) + 40 * (0) ≤ 40 * (3 * n + 5))⟩ (lv1 (okP_2 hp) rfl) rfl rfl rfl (Nat.le_of_ble_eq_true rfl) rfl dX5_sum_61 (c_X0_put (okP_2 hp) hc) (fun v2 τ2 hq => ?_)
  obtain ⟨rfl, rfl⟩ := hq
  change Z _ _ _ _ _ [] _
  refine Z.lv [0, 1, 2] rfl ?_
  exact zb_X5_sum_64 hrcS hrc7 h
def F_X5_sum_46 (rcS : Int32 → Mm → Option Mm) (rc7 : Int32 → Int32 → Mm → Option (Mm)) (x1 : Int32) (x2 : Int32) (x3 : Int32) (s0 : Int32) (σ : Mm) : Option (Mm) := (bnv (F_X5_product rcS x1 σ) (fun τ => (F_X5_sum_52 rcS rc7 x1 x2 x3 τ)))
set_option maxRecDepth 20000 in
theorem zb_X5_sum_46 {S : Shp} {n : Nat} {rcS : Int32 → Mm → Option Mm} (hrcS : ∀ {x1 : Int32} {σ r : Mm}, rcS x1 σ = some r → Ct (m_X5_sum n) S [.ref (sL S 0 0 12), .int x1] σ (Qv r)) {rc7 : Int32 → Int32 → Mm → Option (Mm)} (hrc7 : ∀ {x1 : Int32} {x2 : Int32} {σ : Mm} {r : Mm}, rc7 x1 x2 σ = some r → Z (m_X5_sum (n + 1)) S (Qv r) 7 [(0, .ref (sL S 0 0 12)), (1, .int (x1)), (2, .int (x2))] [] σ) {x1 : Int32} {x2 : Int32} {x3 : Int32} {s0 : Int32} {σ : Mm} {r : Mm} (h : F_X5_sum_46 rcS rc7 x1 x2 x3 s0 σ = some r) : Z (m_X5_sum (n + 1)) S (Qv r) 46 [(0, .ref (sL S 0 0 12)), (1, .int (x1)), (2, .int (x2)), (3, .int (x3))] [.int (s0)] σ := by
  unfold F_X5_sum_46 at h
  refine z_pop dX5_sum_46 rfl ?_
  refine z_aload_n dX5_sum_47 rfl 0 rfl ?_
  refine z_iload_n dX5_sum_48 rfl 1 rfl ?_
  obtain ⟨τ, hc, h⟩ := bnv_e h
  refine z_callV (M' := m_X5_product n) (t := 0) (i := 0) (k := 12) (As := [.int (x1)]) (rest := []) kl_5_176 oy_X5_product ⟨(by omega : 3 * n + 7 + 1 ≤ 3 * n + 5), (by omega : 8 + (4 + 11) + 40 * (3 * n + 7) ≤ 40 * (3 * n + 5))⟩ rfl rfl rfl rfl (Nat.le_of_ble_eq_true rfl) rfl dX5_sum_49 (c_X5_product hrcS hc) (fun v2 τ2 hq => ?_)
  obtain ⟨rfl, rfl⟩ := hq
  change Z _ _ _ _ _ [] _
  exact zb_X5_sum_52 hrcS hrc7 h
def F_X5_sum_41 (rcS : Int32 → Mm → Option Mm) (rc7 : Int32 → Int32 → Mm → Option (Mm)) (x1 : Int32) (x2 : Int32) (x3 : Int32) (σ : Mm) : Option (Mm) := (bnd (F_X5_take x3 σ) (fun v τ => (F_X5_sum_46 rcS rc7 x1 x2 x3 v τ)))
set_option maxRecDepth 20000 in
theorem zb_X5_sum_41 {S : Shp} {n : Nat} {rcS : Int32 → Mm → Option Mm} (hrcS : ∀ {x1 : Int32} {σ r : Mm}, rcS x1 σ = some r → Ct (m_X5_sum n) S [.ref (sL S 0 0 12), .int x1] σ (Qv r)) {rc7 : Int32 → Int32 → Mm → Option (Mm)} (hrc7 : ∀ {x1 : Int32} {x2 : Int32} {σ : Mm} {r : Mm}, rc7 x1 x2 σ = some r → Z (m_X5_sum (n + 1)) S (Qv r) 7 [(0, .ref (sL S 0 0 12)), (1, .int (x1)), (2, .int (x2))] [] σ) {x1 : Int32} {x2 : Int32} {x3 : Int32} {σ : Mm} {r : Mm} (h : F_X5_sum_41 rcS rc7 x1 x2 x3 σ = some r) : Z (m_X5_sum (n + 1)) S (Qv r) 41 [(0, .ref (sL S 0 0 12)), (1, .int (x1)), (2, .int (x2)), (3, .int (x3))] [] σ := by
  unfold F_X5_sum_41 at h
  refine z_aload_n dX5_sum_41 rfl 0 rfl ?_
  refine z_iload_n dX5_sum_42 rfl 3 rfl ?_
  obtain ⟨v, τ, hc, h⟩ := bnd_e h
  refine z_callV (M' := m_X5_take) (t := 0) (i := 0) (k := 12) (As := [.int (x3)]) (rest := []) kl_5_103 oy_X5_take ⟨(by omega : 0 + 1 ≤ 3 * n + 5), (by omega : 8 + (2 + 11) + 40 * (0) ≤ 40 * (3 * n + 5))⟩ rfl rfl rfl rfl (Nat.le_of_ble_eq_true rfl) rfl dX5_sum_43 (c_X5_take hc) (fun v2 τ2 hq => ?_)
  obtain ⟨rfl, rfl⟩ := hq
  change Z _ _ _ _ _ [.int (v)] _
  exact zb_X5_sum_46 hrcS hrc7 h
def F_X5_sum_25 (rcS : Int32 → Mm → Option Mm) (rc7 : Int32 → Int32 → Mm → Option (Mm)) (x1 : Int32) (x2 : Int32) (s0 : Int32) (σ : Mm) : Option (Mm) := (if s0 = 6 then (F_X5_sum_41 rcS rc7 x1 x2 s0 σ) else (if s0 = 7 then (F_X5_sum_41 rcS rc7 x1 x2 s0 σ) else some (σ)))
set_option maxRecDepth 20000 in
theorem zb_X5_sum_25 {S : Shp} {n : Nat} {rcS : Int32 → Mm → Option Mm} (hrcS : ∀ {x1 : Int32} {σ r : Mm}, rcS x1 σ = some r → Ct (m_X5_sum n) S [.ref (sL S 0 0 12), .int x1] σ (Qv r)) {rc7 : Int32 → Int32 → Mm → Option (Mm)} (hrc7 : ∀ {x1 : Int32} {x2 : Int32} {σ : Mm} {r : Mm}, rc7 x1 x2 σ = some r → Z (m_X5_sum (n + 1)) S (Qv r) 7 [(0, .ref (sL S 0 0 12)), (1, .int (x1)), (2, .int (x2))] [] σ) {x1 : Int32} {x2 : Int32} {s0 : Int32} {σ : Mm} {r : Mm} (h : F_X5_sum_25 rcS rc7 x1 x2 s0 σ = some r) : Z (m_X5_sum (n + 1)) S (Qv r) 25 [(0, .ref (sL S 0 0 12)), (1, .int (x1)), (2, .int (x2))] [.int (s0)] σ := by
  unfold F_X5_sum_25 at h
  refine z_istore_n dX5_sum_25 rfl (by decide) [1, 2, 3, 0] rfl ?_
  refine z_iload_n dX5_sum_26 rfl 3 rfl ?_
  refine z_bipush (v := 6) dX5_sum_27 (by decide) ?_
  refine z_icmp_eq (tgt := 41) dX5_sum_29 (by decide) (fun q => ?_) (fun q => ?_)
  · have h := (if_pos q).symm.trans h
    exact zb_X5_sum_41 hrcS hrc7 h
  · have h := (if_neg q).symm.trans h
    refine z_iload_n dX5_sum_32 rfl 3 rfl ?_
    refine z_bipush (v := 7) dX5_sum_33 (by decide) ?_
    refine z_icmp_eq (tgt := 41) dX5_sum_35 (by decide) (fun q => ?_) (fun q => ?_)
    · have h := (if_pos q).symm.trans h
      exact zb_X5_sum_41 hrcS hrc7 h
    · have h := (if_neg q).symm.trans h
      refine z_goto (tgt := 70) dX5_sum_38 (by decide) ?_
      cases h
      exact z_return dX5_sum_70 rfl ⟨rfl, rfl⟩
def B_X5_sum_7 (rcS : Int32 → Mm → Option Mm) (rc7 : Int32 → Int32 → Mm → Option (Mm)) (x1 : Int32) (x2 : Int32) (σ : Mm) : Option (Mm) := (if 400 ≤ x2 then some (σ) else (if (mA σ 0 0 12 0) = 0 then (bnd (F_X5_kindHere  σ) (fun v τ => (F_X5_sum_25 rcS rc7 x1 x2 v τ))) else some (σ)))
set_option maxRecDepth 20000 in
theorem zB_X5_sum_7 {S : Shp} {n : Nat} {rcS : Int32 → Mm → Option Mm} (hrcS : ∀ {x1 : Int32} {σ r : Mm}, rcS x1 σ = some r → Ct (m_X5_sum n) S [.ref (sL S 0 0 12), .int x1] σ (Qv r)) {rc7 : Int32 → Int32 → Mm → Option (Mm)} (hrc7 : ∀ {x1 : Int32} {x2 : Int32} {σ : Mm} {r : Mm}, rc7 x1 x2 σ = some r → Z (m_X5_sum (n + 1)) S (Qv r) 7 [(0, .ref (sL S 0 0 12)), (1, .int (x1)), (2, .int (x2))] [] σ) {x1 : Int32} {x2 : Int32} {σ : Mm} {r : Mm} (h : B_X5_sum_7 rcS rc7 x1 x2 σ = some r) : Z (m_X5_sum (n + 1)) S (Qv r) 7 [(0, .ref (sL S 0 0 12)), (1, .int (x1)), (2, .int (x2))] [] σ := by
  unfold B_X5_sum_7 at h
  refine z_iload_n dX5_sum_7 rfl 2 rfl ?_
  refine z_sipush (v := 400) dX5_sum_8 (by decide) ?_
  refine z_icmp_ge (tgt := 70) dX5_sum_11 (by decide) (fun q => ?_) (fun q => ?_)
  · have h := (if_pos q).symm.trans h
    cases h
    exact z_return dX5_sum_70 rfl ⟨rfl, rfl⟩
  · have h := (if_neg q).symm.trans h
    refine z_aload_n dX5_sum_14 rfl 0 rfl ?_
    refine gf_5_9 rfl dX5_sum_15 ?_
    refine z_if_ne (tgt := 70) dX5_sum_18 (by decide) (fun q => ?_) (fun q => ?_)
    · have h := (if_neg q).symm.trans h
      cases h
      exact z_return dX5_sum_70 rfl ⟨rfl, rfl⟩
    · have h := (if_pos q).symm.trans h
      refine z_aload_n dX5_sum_21 rfl 0 rfl ?_
      obtain ⟨v, τ, hc, h⟩ := bnd_e h
      refine z_callV (M' := m_X5_kindHere) (t := 0) (i := 0) (k := 12) (As := []) (rest := []) kl_5_42 oy_X5_kindHere ⟨(by omega : 0 + 1 ≤ 3 * n + 5), (by omega : 8 + (1 + 11) + 40 * (0) ≤ 40 * (3 * n + 5))⟩ rfl rfl rfl rfl (Nat.le_of_ble_eq_true rfl) rfl dX5_sum_22 (c_X5_kindHere hc) (fun v2 τ2 hq => ?_)
      obtain ⟨rfl, rfl⟩ := hq
      change Z _ _ _ _ _ [.int (v)] _
      exact zb_X5_sum_25 hrcS hrc7 h
def F_X5_sum_7 (rcS : Int32 → Mm → Option Mm) : Nat → Int32 → Int32 → Mm → Option (Mm)
  | 0 => fun _ _ _ => none
  | n + 1 => B_X5_sum_7 rcS (F_X5_sum_7 rcS n)
theorem zl_X5_sum_7 {S : Shp} {n : Nat} {rcS : Int32 → Mm → Option Mm} (hrcS : ∀ {x1 : Int32} {σ r : Mm}, rcS x1 σ = some r → Ct (m_X5_sum n) S [.ref (sL S 0 0 12), .int x1] σ (Qv r)) (nn : Nat) {x1 : Int32} {x2 : Int32} {σ : Mm} {r : Mm} (h : F_X5_sum_7 rcS nn x1 x2 σ = some r) : Z (m_X5_sum (n + 1)) S (Qv r) 7 [(0, .ref (sL S 0 0 12)), (1, .int (x1)), (2, .int (x2))] [] σ := by
  induction nn generalizing x1 x2 σ r with
  | zero => cases h
  | succ nn ih => exact zB_X5_sum_7 hrcS (fun h => ih h) h
def F_X5_sum_5 (rcS : Int32 → Mm → Option Mm) (x1 : Int32) (σ : Mm) : Option (Mm) := (F_X5_sum_7 rcS FU x1 0 σ)
set_option maxRecDepth 20000 in
theorem zb_X5_sum_5 {S : Shp} {n : Nat} {rcS : Int32 → Mm → Option Mm} (hrcS : ∀ {x1 : Int32} {σ r : Mm}, rcS x1 σ = some r → Ct (m_X5_sum n) S [.ref (sL S 0 0 12), .int x1] σ (Qv r)) {x1 : Int32} {σ : Mm} {r : Mm} (h : F_X5_sum_5 rcS x1 σ = some r) : Z (m_X5_sum (n + 1)) S (Qv r) 5 [(0, .ref (sL S 0 0 12)), (1, .int (x1))] [] σ := by
  unfold F_X5_sum_5 at h
  refine z_iconst (v := 0) dX5_sum_5 (by decide) ?_
  refine z_istore_n dX5_sum_6 rfl (by decide) [1, 2, 0] rfl ?_
  exact zl_X5_sum_7 hrcS FU h
def F_X5_sum (rcS : Int32 → Mm → Option Mm) (x1 : Int32) (σ : Mm) : Option (Mm) := (bnv (F_X5_product rcS x1 σ) (fun τ => (F_X5_sum_5 rcS x1 τ)))
set_option maxRecDepth 20000 in
theorem zb_X5_sum {S : Shp} {n : Nat} {rcS : Int32 → Mm → Option Mm} (hrcS : ∀ {x1 : Int32} {σ r : Mm}, rcS x1 σ = some r → Ct (m_X5_sum n) S [.ref (sL S 0 0 12), .int x1] σ (Qv r)) {x1 : Int32} {σ : Mm} {r : Mm} (h : F_X5_sum rcS x1 σ = some r) : Z (m_X5_sum (n + 1)) S (Qv r) 0 [(0, .ref (sL S 0 0 12)), (1, .int (x1))] [] σ := by
  unfold F_X5_sum at h
  refine z_aload_n dX5_sum_0 rfl 0 rfl ?_
  refine z_iload_n dX5_sum_1 rfl 1 rfl ?_
  obtain ⟨τ, hc, h⟩ := bnv_e h
  refine z_callV (M' := m_X5_product n) (t := 0) (i := 0) (k := 12) (As := [.int (x1)]) (rest := []) kl_5_176 oy_X5_product ⟨(by omega : 3 * n + 7 + 1 ≤ 3 * n + 5), (by omega : 8 + (4 + 11) + 40 * (3 * n + 7) ≤ 40 * (3 * n + 5))⟩ rfl rfl rfl rfl (Nat.le_of_ble_eq_true rfl) rfl dX5_sum_2 (c_X5_product hrcS hc) (fun v2 τ2 hq => ?_)
  obtain ⟨rfl, rfl⟩ := hq
  change Z _ _ _ _ _ [] _
  exact zb_X5_sum_5 hrcS h
/-- SkyStones$Reader.sum(I)V -/
theorem c_X5_sum {S : Shp} {n : Nat} {rcS : Int32 → Mm → Option Mm} (hrcS : ∀ {x1 : Int32} {σ r : Mm}, rcS x1 σ = some r → Ct (m_X5_sum n) S [.ref (sL S 0 0 12), .int x1] σ (Qv r)) {x1 : Int32} {σ : Mm} {r : Mm} (h : F_X5_sum rcS x1 σ = some r) : Ct (m_X5_sum (n + 1)) S [.ref (sL S 0 0 12), .int (x1)] σ (Qv r) := Ct.of (by decide) (Nat.le_of_ble_eq_true rfl) (zb_X5_sum hrcS h)
def FS : Nat → Int32 → Mm → Option Mm
  | 0 => fun _ _ => none
  | n + 1 => F_X5_sum (FS n)
theorem c_FS {S : Shp} (n : Nat) {x1 : Int32} {σ r : Mm} (h : FS n x1 σ = some r) : Ct (m_X5_sum n) S [.ref (sL S 0 0 12), .int x1] σ (Qv r) := by
  induction n generalizing x1 σ r with
  | zero => cases h
  | succ n ih => exact c_X5_sum (fun h => ih h) h
def B_X5_thingNamed_2 (rc2 : Int64 → Int32 → Mm → Option (Int32 × Mm)) (x1 : Int64) (x3 : Int32) (σ : Mm) : Option (Int32 × Mm) := (if okP σ = true then (if (mA σ 1 (mP σ 2) 0 1) ≤ x3 then some ((-1), σ) else (if inb x3 14 = true then (if (lg_cmp (mL σ 0 0 13 x3.toNatClampNeg) x1) = 0 then some (x3, σ) else (rc2 x1 (x3 + 1) σ)) else none)) else none)
set_option maxRecDepth 20000 in
theorem zB_X5_thingNamed_2 {S : Shp} {rc2 : Int64 → Int32 → Mm → Option (Int32 × Mm)} (hrc2 : ∀ {x1 : Int64} {x3 : Int32} {σ : Mm} {r : Int32 × Mm}, rc2 x1 x3 σ = some r → Z m_X5_thingNamed S (Qi r) 2 [(0, .ref (sL S 0 0 12)), (1, .long (x1)), (3, .int (x3))] [] σ) {x1 : Int64} {x3 : Int32} {σ : Mm} {r : Int32 × Mm} (h : B_X5_thingNamed_2 rc2 x1 x3 σ = some r) : Z m_X5_thingNamed S (Qi r) 2 [(0, .ref (sL S 0 0 12)), (1, .long (x1)), (3, .int (x3))] [] σ := by
  unfold B_X5_thingNamed_2 at h
  obtain ⟨g1, h⟩ := gd h
  refine z_iload_n dX5_thingNamed_2 rfl 2 rfl ?_
  refine z_aload_n dX5_thingNamed_3 rfl 0 rfl ?_
  have hp := g1
  refine gf_5_38 rfl dX5_thingNamed_4 ?_
  refine gf_5_84 (lv1 (okP_2 hp) rfl) rfl dX5_thingNamed_7 ?_
  refine z_icmp_ge (tgt := 32) dX5_thingNamed_10 (by decide) (fun q => ?_) (fun q => ?_)
  · have h := (if_pos q).symm.trans h
    refine z_iconst (v := (-1)) dX5_thingNamed_32 (by decide) ?_
    cases h
    exact z_ireturn dX5_thingNamed_33 rfl rfl ⟨rfl, rfl⟩
  · have h := (if_neg q).symm.trans h
    obtain ⟨g2, h⟩ := gd h
    refine z_aload_n dX5_thingNamed_13 rfl 0 rfl ?_
    refine gf_5_27 rfl dX5_thingNamed_14 ?_
    refine z_iload_n dX5_thingNamed_17 rfl 2 rfl ?_
    refine ia_0_13 (inb_in g2) dX5_thingNamed_18 ?_
    refine z_lload_n dX5_thingNamed_19 rfl 1 rfl ?_
    refine z_lcmp dX5_thingNamed_20 ?_
    refine z_if_ne (tgt := 26) dX5_thingNamed_21 (by decide) (fun q => ?_) (fun q => ?_)
    · have h := (if_neg q).symm.trans h
      refine z_iinc (j := 2) (v := x3 + 1) dX5_thingNamed_26 rfl rfl (by decide) [1, 2, 0] rfl ?_
      refine z_goto (tgt := 2) dX5_thingNamed_29 (by decide) ?_
      exact hrc2 h
    · have h := (if_pos q).symm.trans h
      refine z_iload_n dX5_thingNamed_24 rfl 2 rfl ?_
      cases h
      exact z_ireturn dX5_thingNamed_25 rfl rfl ⟨rfl, rfl⟩
def F_X5_thingNamed_2 : Nat → Int64 → Int32 → Mm → Option (Int32 × Mm)
  | 0 => fun _ _ _ => none
  | n + 1 => B_X5_thingNamed_2 (F_X5_thingNamed_2 n)
theorem zl_X5_thingNamed_2 {S : Shp} (nn : Nat) {x1 : Int64} {x3 : Int32} {σ : Mm} {r : Int32 × Mm} (h : F_X5_thingNamed_2 nn x1 x3 σ = some r) : Z m_X5_thingNamed S (Qi r) 2 [(0, .ref (sL S 0 0 12)), (1, .long (x1)), (3, .int (x3))] [] σ := by
  induction nn generalizing x1 x3 σ r with
  | zero => cases h
  | succ nn ih => exact zB_X5_thingNamed_2 (fun h => ih h) h
def F_X5_thingNamed (x1 : Int64) (σ : Mm) : Option (Int32 × Mm) := (F_X5_thingNamed_2 FU x1 0 σ)
set_option maxRecDepth 20000 in
theorem zb_X5_thingNamed {S : Shp} {x1 : Int64} {σ : Mm} {r : Int32 × Mm} (h : F_X5_thingNamed x1 σ = some r) : Z m_X5_thingNamed S (Qi r) 0 [(0, .ref (sL S 0 0 12)), (1, .long (x1))] [] σ := by
  unfold F_X5_thingNamed at h
  refine z_iconst (v := 0) dX5_thingNamed_0 (by decide) ?_
  refine z_istore_n dX5_thingNamed_1 rfl (by decide) [1, 2, 0] rfl ?_
  exact zl_X5_thingNamed_2 FU h
/-- SkyStones$Reader.thingNamed(J)I -/
theorem c_X5_thingNamed {S : Shp} {x1 : Int64} {σ : Mm} {r : Int32 × Mm} (h : F_X5_thingNamed x1 σ = some r) : Ct m_X5_thingNamed S [.ref (sL S 0 0 12), .long (x1)] σ (Qi r) := Ct.of (by decide) (Nat.le_of_ble_eq_true rfl) (zb_X5_thingNamed h)
def F_X5_tellDoor_150 (σ : Mm) : Option (Mm) := (if okP σ = true then some (setA σ 1 (mP σ 2) 0 (upd (mA σ 1 (mP σ 2) 0) 6 ((mA σ 1 (mP σ 2) 0 6) + 1))) else none)
set_option maxRecDepth 20000 in
theorem zb_X5_tellDoor_150 {S : Shp} {σ : Mm} {r : Mm} (h : F_X5_tellDoor_150 σ = some r) : Z m_X5_tellDoor S (Qv r) 150 [(0, .ref (sL S 0 0 12))] [] σ := by
  unfold F_X5_tellDoor_150 at h
  obtain ⟨g7, h⟩ := gd h
  refine z_aload_n dX5_tellDoor_150 rfl 0 rfl ?_
  have hp := g7
  refine gf_5_38 rfl dX5_tellDoor_151 ?_
  refine z_dup dX5_tellDoor_154 rfl ?_
  refine gf_5_128 (lv1 (okP_2 hp) rfl) rfl dX5_tellDoor_155 ?_
  refine z_iconst (v := 1) dX5_tellDoor_158 (by decide) ?_
  refine z_iadd dX5_tellDoor_159 ?_
  refine pf_5_128 (lv1 (okP_2 hp) rfl) rfl dX5_tellDoor_160 ?_
  cases h
  exact z_return dX5_tellDoor_163 rfl ⟨rfl, rfl⟩
def F_X5_tellDoor_132 (σ : Mm) : Option (Mm) := (F_X5_tellDoor_150 σ)
set_option maxRecDepth 20000 in
theorem zb_X5_tellDoor_132 {S : Shp} {σ : Mm} {r : Mm} (h : F_X5_tellDoor_132 σ = some r) : Z m_X5_tellDoor S (Qv r) 132 [(0, .ref (sL S 0 0 12))] [] σ := by
  unfold F_X5_tellDoor_132 at h
  refine z_goto (tgt := 150) dX5_tellDoor_132 (by decide) ?_
  exact zb_X5_tellDoor_150 h
def F_X5_tellDoor_116 (σ : Mm) : Option (Mm) := (F_X5_tellDoor_150 σ)
set_option maxRecDepth 20000 in
theorem zb_X5_tellDoor_116 {S : Shp} {σ : Mm} {r : Mm} (h : F_X5_tellDoor_116 σ = some r) : Z m_X5_tellDoor S (Qv r) 116 [(0, .ref (sL S 0 0 12))] [] σ := by
  unfold F_X5_tellDoor_116 at h
  refine z_goto (tgt := 150) dX5_tellDoor_116 (by decide) ?_
  exact zb_X5_tellDoor_150 h
def F_X5_tellDoor_100 (σ : Mm) : Option (Mm) := (F_X5_tellDoor_150 σ)
set_option maxRecDepth 20000 in
theorem zb_X5_tellDoor_100 {S : Shp} {σ : Mm} {r : Mm} (h : F_X5_tellDoor_100 σ = some r) : Z m_X5_tellDoor S (Qv r) 100 [(0, .ref (sL S 0 0 12))] [] σ := by
  unfold F_X5_tellDoor_100 at h
  refine z_goto (tgt := 150) dX5_tellDoor_100 (by decide) ?_
  exact zb_X5_tellDoor_150 h
def F_X5_tellDoor_86 (x1 : Int32) (x2 : Int32) (s0 : Int32) (σ : Mm) : Option (Mm) := (if x2 = ((-1)) then (bnv (F_X5_blame 4 (x1 + 1) σ) (fun τ => (F_X5_tellDoor_100 τ))) else (if s0 = ((-1)) then (bnv (F_X5_blame 4 (x1 + 2) σ) (fun τ => (F_X5_tellDoor_116 τ))) else (if x2 = s0 then (bnv (F_X5_blame 5 (x1 + 2) σ) (fun τ => (F_X5_tellDoor_132 τ))) else (if okP σ = true then (if inb x2 14 = true then (if inb x2 14 = true then (F_X5_tellDoor_150 (setA σ 1 (mP σ 2) 5 (upd (mA σ 1 (mP σ 2) 5) x2.toNatClampNeg ((mA σ 1 (mP σ 2) 5 x2.toNatClampNeg) ||| (1 <<< (s0 &&& 31)))))) else none) else none) else none))))
set_option maxRecDepth 20000 in
theorem zb_X5_tellDoor_86 {S : Shp} {x1 : Int32} {x2 : Int32} {s0 : Int32} {σ : Mm} {r : Mm} (h : F_X5_tellDoor_86 x1 x2 s0 σ = some r) : Z m_X5_tellDoor S (Qv r) 86 [(0, .ref (sL S 0 0 12)), (1, .int (x1)), (2, .int (x2))] [.int (s0)] σ := by
  unfold F_X5_tellDoor_86 at h
  refine z_istore_n dX5_tellDoor_86 rfl (by decide) [1, 2, 3, 0] rfl ?_
  refine z_iload_n dX5_tellDoor_87 rfl 2 rfl ?_
  refine z_iconst (v := (-1)) dX5_tellDoor_88 (by decide) ?_
  refine z_icmp_ne (tgt := 103) dX5_tellDoor_89 (by decide) (fun q => ?_) (fun q => ?_)
  · have h := (if_neg q).symm.trans h
    refine z_iload_n dX5_tellDoor_103 rfl 3 rfl ?_
    refine z_iconst (v := (-1)) dX5_tellDoor_104 (by decide) ?_
    refine z_icmp_ne (tgt := 119) dX5_tellDoor_105 (by decide) (fun q => ?_) (fun q => ?_)
    · have h := (if_neg q).symm.trans h
      refine z_iload_n dX5_tellDoor_119 rfl 2 rfl ?_
      refine z_iload_n dX5_tellDoor_120 rfl 3 rfl ?_
      refine z_icmp_ne (tgt := 135) dX5_tellDoor_121 (by decide) (fun q => ?_) (fun q => ?_)
      · have h := (if_neg q).symm.trans h
        obtain ⟨g4, h⟩ := gd h
        refine z_aload_n dX5_tellDoor_135 rfl 0 rfl ?_
        obtain ⟨g5, h⟩ := gd h
        have hp := g4
        refine gf_5_38 rfl dX5_tellDoor_136 ?_
        refine gf_5_131 (lv1 (okP_2 hp) rfl) rfl dX5_tellDoor_139 ?_
        refine z_iload_n dX5_tellDoor_142 rfl 2 rfl ?_
        refine z_dup2_11 dX5_tellDoor_143 rfl rfl ?_
        obtain ⟨g6, h⟩ := gd h
        refine ia_1_5 (lv1 (okP_2 hp) rfl) (inb_in g5) dX5_tellDoor_144 ?_
        refine z_iconst (v := 1) dX5_tellDoor_145 (by decide) ?_
        refine z_iload_n dX5_tellDoor_146 rfl 3 rfl ?_
        refine z_ishl dX5_tellDoor_147 ?_
        refine z_ior dX5_tellDoor_148 ?_
        refine is_1_5 (lv1 (okP_2 hp) rfl) (inb_in g6) dX5_tellDoor_149 ?_
        refine Z.lv [0] rfl ?_
        exact zb_X5_tellDoor_150 h
      · have h := (if_pos q).symm.trans h
        refine z_aload_n dX5_tellDoor_124 rfl 0 rfl ?_
        refine z_iconst (v := 5) dX5_tellDoor_125 (by decide) ?_
        refine z_iload_n dX5_tellDoor_126 rfl 1 rfl ?_
        refine z_iconst (v := 2) dX5_tellDoor_127 (by decide) ?_
        refine z_iadd dX5_tellDoor_128 ?_
        obtain ⟨τ, hc, h⟩ := bnv_e h
        refine z_callV (M' := m_X5_blame) (t := 0) (i := 0) (k := 12) (As := [.int (5), .int (x1 + 2)]) (rest := []) kl_5_80 oy_X5_blame ⟨Nat.le_of_ble_eq_true rfl, Nat.le_of_ble_eq_true rfl⟩ rfl rfl rfl rfl (Nat.le_of_ble_eq_true rfl) rfl dX5_tellDoor_129 (c_X5_blame hc) (fun v2 τ2 hq => ?_)
        obtain ⟨rfl, rfl⟩ := hq
        change Z _ _ _ _ _ [] _
        refine Z.lv [0] rfl ?_
        exact zb_X5_tellDoor_132 h
    · have h := (if_pos q).symm.trans h
      refine z_aload_n dX5_tellDoor_108 rfl 0 rfl ?_
      refine z_iconst (v := 4) dX5_tellDoor_109 (by decide) ?_
      refine z_iload_n dX5_tellDoor_110 rfl 1 rfl ?_
      refine z_iconst (v := 2) dX5_tellDoor_111 (by decide) ?_
      refine z_iadd dX5_tellDoor_112 ?_
      obtain ⟨τ, hc, h⟩ := bnv_e h
      refine z_callV (M' := m_X5_blame) (t := 0) (i := 0) (k := 12) (As := [.int (4), .int (x1 + 2)]) (rest := []) kl_5_80 oy_X5_blame ⟨Nat.le_of_ble_eq_true rfl, Nat.le_of_ble_eq_true rfl⟩ rfl rfl rfl rfl (Nat.le_of_ble_eq_true rfl) rfl dX5_tellDoor_113 (c_X5_blame hc) (fun v2 τ2 hq => ?_)
      obtain ⟨rfl, rfl⟩ := hq
      change Z _ _ _ _ _ [] _
      refine Z.lv [0] rfl ?_
      exact zb_X5_tellDoor_116 h
  · have h := (if_pos q).symm.trans h
    refine z_aload_n dX5_tellDoor_92 rfl 0 rfl ?_
    refine z_iconst (v := 4) dX5_tellDoor_93 (by decide) ?_
    refine z_iload_n dX5_tellDoor_94 rfl 1 rfl ?_
    refine z_iconst (v := 1) dX5_tellDoor_95 (by decide) ?_
    refine z_iadd dX5_tellDoor_96 ?_
    obtain ⟨τ, hc, h⟩ := bnv_e h
    refine z_callV (M' := m_X5_blame) (t := 0) (i := 0) (k := 12) (As := [.int (4), .int (x1 + 1)]) (rest := []) kl_5_80 oy_X5_blame ⟨Nat.le_of_ble_eq_true rfl, Nat.le_of_ble_eq_true rfl⟩ rfl rfl rfl rfl (Nat.le_of_ble_eq_true rfl) rfl dX5_tellDoor_97 (c_X5_blame hc) (fun v2 τ2 hq => ?_)
    obtain ⟨rfl, rfl⟩ := hq
    change Z _ _ _ _ _ [] _
    refine Z.lv [0] rfl ?_
    exact zb_X5_tellDoor_100 h
def F_X5_tellDoor_70 (x1 : Int32) (s0 : Int32) (σ : Mm) : Option (Mm) := (if inb (x1 + 2) 402 = true then (bnd (F_X5_thingNamed (mL σ 0 0 11 (x1 + 2).toNatClampNeg) σ) (fun v τ => (F_X5_tellDoor_86 x1 s0 v τ))) else none)
set_option maxRecDepth 20000 in
theorem zb_X5_tellDoor_70 {S : Shp} {x1 : Int32} {s0 : Int32} {σ : Mm} {r : Mm} (h : F_X5_tellDoor_70 x1 s0 σ = some r) : Z m_X5_tellDoor S (Qv r) 70 [(0, .ref (sL S 0 0 12)), (1, .int (x1))] [.int (s0)] σ := by
  unfold F_X5_tellDoor_70 at h
  obtain ⟨g3, h⟩ := gd h
  refine z_istore_n dX5_tellDoor_70 rfl (by decide) [1, 2, 0] rfl ?_
  refine z_aload_n dX5_tellDoor_71 rfl 0 rfl ?_
  refine z_aload_n dX5_tellDoor_72 rfl 0 rfl ?_
  refine gf_5_34 rfl dX5_tellDoor_73 ?_
  refine gf_5_89 rfl dX5_tellDoor_76 ?_
  refine z_iload_n dX5_tellDoor_79 rfl 1 rfl ?_
  refine z_iconst (v := 2) dX5_tellDoor_80 (by decide) ?_
  refine z_iadd dX5_tellDoor_81 ?_
  refine ia_0_11 (inb_in g3) dX5_tellDoor_82 ?_
  obtain ⟨v, τ, hc, h⟩ := bnd_e h
  refine z_callV (M' := m_X5_thingNamed) (t := 0) (i := 0) (k := 12) (As := [.long (mL σ 0 0 11 (x1 + 2).toNatClampNeg)]) (rest := []) kl_5_92 oy_X5_thingNamed ⟨Nat.le_of_ble_eq_true rfl, Nat.le_of_ble_eq_true rfl⟩ rfl rfl rfl rfl (Nat.le_of_ble_eq_true rfl) rfl dX5_tellDoor_83 (c_X5_thingNamed hc) (fun v2 τ2 hq => ?_)
  obtain ⟨rfl, rfl⟩ := hq
  change Z _ _ _ _ _ [.int (v)] _
  exact zb_X5_tellDoor_86 h
def F_X5_tellDoor_52 (x1 : Int32) (s0 : Int32) (σ : Mm) : Option (Mm) := (if s0 = 0 then some (σ) else (if inb (x1 + 1) 402 = true then (bnd (F_X5_thingNamed (mL σ 0 0 11 (x1 + 1).toNatClampNeg) σ) (fun v τ => (F_X5_tellDoor_70 x1 v τ))) else none))
set_option maxRecDepth 20000 in
theorem zb_X5_tellDoor_52 {S : Shp} {x1 : Int32} {s0 : Int32} {σ : Mm} {r : Mm} (h : F_X5_tellDoor_52 x1 s0 σ = some r) : Z m_X5_tellDoor S (Qv r) 52 [(0, .ref (sL S 0 0 12)), (1, .int (x1))] [.int (s0)] σ := by
  unfold F_X5_tellDoor_52 at h
  refine z_if_eq (tgt := 163) dX5_tellDoor_52 (by decide) (fun q => ?_) (fun q => ?_)
  · have h := (if_pos q).symm.trans h
    cases h
    exact z_return dX5_tellDoor_163 rfl ⟨rfl, rfl⟩
  · have h := (if_neg q).symm.trans h
    obtain ⟨g2, h⟩ := gd h
    refine z_aload_n dX5_tellDoor_55 rfl 0 rfl ?_
    refine z_aload_n dX5_tellDoor_56 rfl 0 rfl ?_
    refine gf_5_34 rfl dX5_tellDoor_57 ?_
    refine gf_5_89 rfl dX5_tellDoor_60 ?_
    refine z_iload_n dX5_tellDoor_63 rfl 1 rfl ?_
    refine z_iconst (v := 1) dX5_tellDoor_64 (by decide) ?_
    refine z_iadd dX5_tellDoor_65 ?_
    refine ia_0_11 (inb_in g2) dX5_tellDoor_66 ?_
    obtain ⟨v, τ, hc, h⟩ := bnd_e h
    refine z_callV (M' := m_X5_thingNamed) (t := 0) (i := 0) (k := 12) (As := [.long (mL σ 0 0 11 (x1 + 1).toNatClampNeg)]) (rest := []) kl_5_92 oy_X5_thingNamed ⟨Nat.le_of_ble_eq_true rfl, Nat.le_of_ble_eq_true rfl⟩ rfl rfl rfl rfl (Nat.le_of_ble_eq_true rfl) rfl dX5_tellDoor_67 (c_X5_thingNamed hc) (fun v2 τ2 hq => ?_)
    obtain ⟨rfl, rfl⟩ := hq
    change Z _ _ _ _ _ [.int (v)] _
    exact zb_X5_tellDoor_70 h
def F_X5_tellDoor_44 (x1 : Int32) (s0 : Int32) (σ : Mm) : Option (Mm) := (if s0 = 0 then some (σ) else (bnd (F_X5_take 4 σ) (fun v τ => (F_X5_tellDoor_52 x1 v τ))))
set_option maxRecDepth 20000 in
theorem zb_X5_tellDoor_44 {S : Shp} {x1 : Int32} {s0 : Int32} {σ : Mm} {r : Mm} (h : F_X5_tellDoor_44 x1 s0 σ = some r) : Z m_X5_tellDoor S (Qv r) 44 [(0, .ref (sL S 0 0 12)), (1, .int (x1))] [.int (s0)] σ := by
  unfold F_X5_tellDoor_44 at h
  refine z_if_eq (tgt := 163) dX5_tellDoor_44 (by decide) (fun q => ?_) (fun q => ?_)
  · have h := (if_pos q).symm.trans h
    cases h
    exact z_return dX5_tellDoor_163 rfl ⟨rfl, rfl⟩
  · have h := (if_neg q).symm.trans h
    refine z_aload_n dX5_tellDoor_47 rfl 0 rfl ?_
    refine z_iconst (v := 4) dX5_tellDoor_48 (by decide) ?_
    obtain ⟨v, τ, hc, h⟩ := bnd_e h
    refine z_callV (M' := m_X5_take) (t := 0) (i := 0) (k := 12) (As := [.int (4)]) (rest := []) kl_5_103 oy_X5_take ⟨Nat.le_of_ble_eq_true rfl, Nat.le_of_ble_eq_true rfl⟩ rfl rfl rfl rfl (Nat.le_of_ble_eq_true rfl) rfl dX5_tellDoor_49 (c_X5_take hc) (fun v2 τ2 hq => ?_)
    obtain ⟨rfl, rfl⟩ := hq
    change Z _ _ _ _ _ [.int (v)] _
    exact zb_X5_tellDoor_52 h
def F_X5_tellDoor_36 (x1 : Int32) (s0 : Int32) (σ : Mm) : Option (Mm) := (if s0 = 0 then some (σ) else (bnd (F_X5_take 2 σ) (fun v τ => (F_X5_tellDoor_44 x1 v τ))))
set_option maxRecDepth 20000 in
theorem zb_X5_tellDoor_36 {S : Shp} {x1 : Int32} {s0 : Int32} {σ : Mm} {r : Mm} (h : F_X5_tellDoor_36 x1 s0 σ = some r) : Z m_X5_tellDoor S (Qv r) 36 [(0, .ref (sL S 0 0 12)), (1, .int (x1))] [.int (s0)] σ := by
  unfold F_X5_tellDoor_36 at h
  refine z_if_eq (tgt := 163) dX5_tellDoor_36 (by decide) (fun q => ?_) (fun q => ?_)
  · have h := (if_pos q).symm.trans h
    cases h
    exact z_return dX5_tellDoor_163 rfl ⟨rfl, rfl⟩
  · have h := (if_neg q).symm.trans h
    refine z_aload_n dX5_tellDoor_39 rfl 0 rfl ?_
    refine z_iconst (v := 2) dX5_tellDoor_40 (by decide) ?_
    obtain ⟨v, τ, hc, h⟩ := bnd_e h
    refine z_callV (M' := m_X5_take) (t := 0) (i := 0) (k := 12) (As := [.int (2)]) (rest := []) kl_5_103 oy_X5_take ⟨Nat.le_of_ble_eq_true rfl, Nat.le_of_ble_eq_true rfl⟩ rfl rfl rfl rfl (Nat.le_of_ble_eq_true rfl) rfl dX5_tellDoor_41 (c_X5_take hc) (fun v2 τ2 hq => ?_)
    obtain ⟨rfl, rfl⟩ := hq
    change Z _ _ _ _ _ [.int (v)] _
    exact zb_X5_tellDoor_44 h
def F_X5_tellDoor_28 (x1 : Int32) (s0 : Int32) (σ : Mm) : Option (Mm) := (if s0 = 0 then some (σ) else (bnd (F_X5_take 2 σ) (fun v τ => (F_X5_tellDoor_36 x1 v τ))))
set_option maxRecDepth 20000 in
theorem zb_X5_tellDoor_28 {S : Shp} {x1 : Int32} {s0 : Int32} {σ : Mm} {r : Mm} (h : F_X5_tellDoor_28 x1 s0 σ = some r) : Z m_X5_tellDoor S (Qv r) 28 [(0, .ref (sL S 0 0 12)), (1, .int (x1))] [.int (s0)] σ := by
  unfold F_X5_tellDoor_28 at h
  refine z_if_eq (tgt := 163) dX5_tellDoor_28 (by decide) (fun q => ?_) (fun q => ?_)
  · have h := (if_pos q).symm.trans h
    cases h
    exact z_return dX5_tellDoor_163 rfl ⟨rfl, rfl⟩
  · have h := (if_neg q).symm.trans h
    refine z_aload_n dX5_tellDoor_31 rfl 0 rfl ?_
    refine z_iconst (v := 2) dX5_tellDoor_32 (by decide) ?_
    obtain ⟨v, τ, hc, h⟩ := bnd_e h
    refine z_callV (M' := m_X5_take) (t := 0) (i := 0) (k := 12) (As := [.int (2)]) (rest := []) kl_5_103 oy_X5_take ⟨Nat.le_of_ble_eq_true rfl, Nat.le_of_ble_eq_true rfl⟩ rfl rfl rfl rfl (Nat.le_of_ble_eq_true rfl) rfl dX5_tellDoor_33 (c_X5_take hc) (fun v2 τ2 hq => ?_)
    obtain ⟨rfl, rfl⟩ := hq
    change Z _ _ _ _ _ [.int (v)] _
    exact zb_X5_tellDoor_36 h
def F_X5_tellDoor_18 (x1 : Int32) (s0 : Int32) (σ : Mm) : Option (Mm) := (if s0 = 0 then some (σ) else (bnd (F_X5_take 18 σ) (fun v τ => (F_X5_tellDoor_28 x1 v τ))))
set_option maxRecDepth 20000 in
theorem zb_X5_tellDoor_18 {S : Shp} {x1 : Int32} {s0 : Int32} {σ : Mm} {r : Mm} (h : F_X5_tellDoor_18 x1 s0 σ = some r) : Z m_X5_tellDoor S (Qv r) 18 [(0, .ref (sL S 0 0 12)), (1, .int (x1))] [.int (s0)] σ := by
  unfold F_X5_tellDoor_18 at h
  refine z_if_ne (tgt := 22) dX5_tellDoor_18 (by decide) (fun q => ?_) (fun q => ?_)
  · have h := (if_neg q).symm.trans h
    refine z_aload_n dX5_tellDoor_22 rfl 0 rfl ?_
    refine z_bipush (v := 18) dX5_tellDoor_23 (by decide) ?_
    obtain ⟨v, τ, hc, h⟩ := bnd_e h
    refine z_callV (M' := m_X5_take) (t := 0) (i := 0) (k := 12) (As := [.int (18)]) (rest := []) kl_5_103 oy_X5_take ⟨Nat.le_of_ble_eq_true rfl, Nat.le_of_ble_eq_true rfl⟩ rfl rfl rfl rfl (Nat.le_of_ble_eq_true rfl) rfl dX5_tellDoor_25 (c_X5_take hc) (fun v2 τ2 hq => ?_)
    obtain ⟨rfl, rfl⟩ := hq
    change Z _ _ _ _ _ [.int (v)] _
    exact zb_X5_tellDoor_28 h
  · have h := (if_pos q).symm.trans h
    cases h
    exact z_return dX5_tellDoor_21 rfl ⟨rfl, rfl⟩
def F_X5_tellDoor (σ : Mm) : Option (Mm) := (if okP σ = true then (bnd (F_X5_hasRoom (mA σ 1 (mP σ 2) 0 6) 8 σ) (fun v τ => (F_X5_tellDoor_18 (mA σ 0 0 12 4) v τ))) else none)
set_option maxRecDepth 20000 in
theorem zb_X5_tellDoor {S : Shp} {σ : Mm} {r : Mm} (h : F_X5_tellDoor σ = some r) : Z m_X5_tellDoor S (Qv r) 0 [(0, .ref (sL S 0 0 12))] [] σ := by
  unfold F_X5_tellDoor at h
  obtain ⟨g1, h⟩ := gd h
  refine z_aload_n dX5_tellDoor_0 rfl 0 rfl ?_
  refine gf_5_18 rfl dX5_tellDoor_1 ?_
  refine z_istore_n dX5_tellDoor_4 rfl (by decide) [1, 0] rfl ?_
  refine z_aload_n dX5_tellDoor_5 rfl 0 rfl ?_
  refine z_aload_n dX5_tellDoor_6 rfl 0 rfl ?_
  have hp := g1
  refine gf_5_38 rfl dX5_tellDoor_7 ?_
  refine gf_5_128 (lv1 (okP_2 hp) rfl) rfl dX5_tellDoor_10 ?_
  refine z_bipush (v := 8) dX5_tellDoor_13 (by decide) ?_
  obtain ⟨v, τ, hc, h⟩ := bnd_e h
  refine z_callV (M' := m_X5_hasRoom) (t := 0) (i := 0) (k := 12) (As := [.int (mA σ 1 (mP σ 2) 0 6), .int (8)]) (rest := []) kl_5_99 oy_X5_hasRoom ⟨Nat.le_of_ble_eq_true rfl, Nat.le_of_ble_eq_true rfl⟩ rfl rfl rfl rfl (Nat.le_of_ble_eq_true rfl) rfl dX5_tellDoor_15 (c_X5_hasRoom hc) (fun v2 τ2 hq => ?_)
  obtain ⟨rfl, rfl⟩ := hq
  change Z _ _ _ _ _ [.int (v)] _
  exact zb_X5_tellDoor_18 h
/-- SkyStones$Reader.tellDoor()V -/
theorem c_X5_tellDoor {S : Shp} {σ : Mm} {r : Mm} (h : F_X5_tellDoor σ = some r) : Ct m_X5_tellDoor S [.ref (sL S 0 0 12)] σ (Qv r) := Ct.of (by decide) (Nat.le_of_ble_eq_true rfl) (zb_X5_tellDoor h)
def F_X5_blameAbove (x1 : Int32) (x2 : Int32) (σ : Mm) : Option (Mm) := (if inb x2 402 = true then (if (mA σ 0 0 10 x2.toNatClampNeg) ≤ x1 then some (σ) else (bnv (F_X5_blame 5 x2 σ) (fun τ => some (τ)))) else none)
set_option maxRecDepth 20000 in
theorem zb_X5_blameAbove {S : Shp} {x1 : Int32} {x2 : Int32} {σ : Mm} {r : Mm} (h : F_X5_blameAbove x1 x2 σ = some r) : Z m_X5_blameAbove S (Qv r) 0 [(0, .ref (sL S 0 0 12)), (1, .int (x1)), (2, .int (x2))] [] σ := by
  unfold F_X5_blameAbove at h
  obtain ⟨g1, h⟩ := gd h
  refine z_aload_n dX5_blameAbove_0 rfl 0 rfl ?_
  refine gf_5_34 rfl dX5_blameAbove_1 ?_
  refine gf_5_77 rfl dX5_blameAbove_4 ?_
  refine z_iload_n dX5_blameAbove_7 rfl 2 rfl ?_
  refine ia_0_10 (inb_in g1) dX5_blameAbove_8 ?_
  refine z_iload_n dX5_blameAbove_9 rfl 1 rfl ?_
  refine z_icmp_le (tgt := 19) dX5_blameAbove_10 (by decide) (fun q => ?_) (fun q => ?_)
  · have h := (if_pos q).symm.trans h
    cases h
    exact z_return dX5_blameAbove_19 rfl ⟨rfl, rfl⟩
  · have h := (if_neg q).symm.trans h
    refine z_aload_n dX5_blameAbove_13 rfl 0 rfl ?_
    refine z_iconst (v := 5) dX5_blameAbove_14 (by decide) ?_
    refine z_iload_n dX5_blameAbove_15 rfl 2 rfl ?_
    obtain ⟨τ, hc, h⟩ := bnv_e h
    refine z_callV (M' := m_X5_blame) (t := 0) (i := 0) (k := 12) (As := [.int (5), .int (x2)]) (rest := []) kl_5_80 oy_X5_blame ⟨Nat.le_of_ble_eq_true rfl, Nat.le_of_ble_eq_true rfl⟩ rfl rfl rfl rfl (Nat.le_of_ble_eq_true rfl) rfl dX5_blameAbove_16 (c_X5_blame hc) (fun v2 τ2 hq => ?_)
    obtain ⟨rfl, rfl⟩ := hq
    change Z _ _ _ _ _ [] _
    cases h
    exact z_return dX5_blameAbove_19 rfl ⟨rfl, rfl⟩
/-- SkyStones$Reader.blameAbove(II)V -/
theorem c_X5_blameAbove {S : Shp} {x1 : Int32} {x2 : Int32} {σ : Mm} {r : Mm} (h : F_X5_blameAbove x1 x2 σ = some r) : Ct m_X5_blameAbove S [.ref (sL S 0 0 12), .int (x1), .int (x2)] σ (Qv r) := Ct.of (by decide) (Nat.le_of_ble_eq_true rfl) (zb_X5_blameAbove h)
def F_X5_tellHill_160 (σ : Mm) : Option (Mm) := (if okP σ = true then some (setA σ 1 (mP σ 2) 0 (upd (mA σ 1 (mP σ 2) 0) 8 ((mA σ 1 (mP σ 2) 0 8) + 1))) else none)
set_option maxRecDepth 20000 in
theorem zb_X5_tellHill_160 {S : Shp} {σ : Mm} {r : Mm} (h : F_X5_tellHill_160 σ = some r) : Z m_X5_tellHill S (Qv r) 160 [(0, .ref (sL S 0 0 12))] [] σ := by
  unfold F_X5_tellHill_160 at h
  obtain ⟨g11, h⟩ := gd h
  refine z_aload_n dX5_tellHill_160 rfl 0 rfl ?_
  have hp := g11
  refine gf_5_38 rfl dX5_tellHill_161 ?_
  refine z_dup dX5_tellHill_164 rfl ?_
  refine gf_5_134 (lv1 (okP_2 hp) rfl) rfl dX5_tellHill_165 ?_
  refine z_iconst (v := 1) dX5_tellHill_168 (by decide) ?_
  refine z_iadd dX5_tellHill_169 ?_
  refine pf_5_134 (lv1 (okP_2 hp) rfl) rfl dX5_tellHill_170 ?_
  cases h
  exact z_return dX5_tellHill_173 rfl ⟨rfl, rfl⟩
def F_X5_tellHill_140 (x1 : Int32) (x2 : Int32) (σ : Mm) : Option (Mm) := (if okP σ = true then (if inb (x1 + 3) 402 = true then (if inb x2 12 = true then (F_X5_tellHill_160 (setA σ 1 (mP σ 2) 8 (upd (mA σ 1 (mP σ 2) 8) x2.toNatClampNeg (mA σ 0 0 10 (x1 + 3).toNatClampNeg)))) else none) else none) else none)
set_option maxRecDepth 20000 in
theorem zb_X5_tellHill_140 {S : Shp} {x1 : Int32} {x2 : Int32} {σ : Mm} {r : Mm} (h : F_X5_tellHill_140 x1 x2 σ = some r) : Z m_X5_tellHill S (Qv r) 140 [(0, .ref (sL S 0 0 12)), (1, .int (x1)), (2, .int (x2))] [] σ := by
  unfold F_X5_tellHill_140 at h
  obtain ⟨g8, h⟩ := gd h
  refine z_aload_n dX5_tellHill_140 rfl 0 rfl ?_
  obtain ⟨g9, h⟩ := gd h
  have hp := g8
  refine gf_5_38 rfl dX5_tellHill_141 ?_
  refine gf_5_143 (lv1 (okP_2 hp) rfl) rfl dX5_tellHill_144 ?_
  refine z_iload_n dX5_tellHill_147 rfl 2 rfl ?_
  refine z_aload_n dX5_tellHill_148 rfl 0 rfl ?_
  refine gf_5_34 rfl dX5_tellHill_149 ?_
  refine gf_5_77 rfl dX5_tellHill_152 ?_
  refine z_iload_n dX5_tellHill_155 rfl 1 rfl ?_
  refine z_iconst (v := 3) dX5_tellHill_156 (by decide) ?_
  refine z_iadd dX5_tellHill_157 ?_
  obtain ⟨g10, h⟩ := gd h
  refine ia_0_10 (inb_in g9) dX5_tellHill_158 ?_
  refine is_1_8 (lv1 (okP_2 hp) rfl) (inb_in g10) dX5_tellHill_159 ?_
  refine Z.lv [0] rfl ?_
  exact zb_X5_tellHill_160 h
def F_X5_tellHill_120 (x1 : Int32) (x2 : Int32) (σ : Mm) : Option (Mm) := (if okP σ = true then (if inb (x1 + 2) 402 = true then (if inb x2 12 = true then (F_X5_tellHill_140 x1 x2 (setA σ 1 (mP σ 2) 7 (upd (mA σ 1 (mP σ 2) 7) x2.toNatClampNeg (mA σ 0 0 10 (x1 + 2).toNatClampNeg)))) else none) else none) else none)
set_option maxRecDepth 20000 in
theorem zb_X5_tellHill_120 {S : Shp} {x1 : Int32} {x2 : Int32} {σ : Mm} {r : Mm} (h : F_X5_tellHill_120 x1 x2 σ = some r) : Z m_X5_tellHill S (Qv r) 120 [(0, .ref (sL S 0 0 12)), (1, .int (x1)), (2, .int (x2))] [] σ := by
  unfold F_X5_tellHill_120 at h
  obtain ⟨g5, h⟩ := gd h
  refine z_aload_n dX5_tellHill_120 rfl 0 rfl ?_
  obtain ⟨g6, h⟩ := gd h
  have hp := g5
  refine gf_5_38 rfl dX5_tellHill_121 ?_
  refine gf_5_140 (lv1 (okP_2 hp) rfl) rfl dX5_tellHill_124 ?_
  refine z_iload_n dX5_tellHill_127 rfl 2 rfl ?_
  refine z_aload_n dX5_tellHill_128 rfl 0 rfl ?_
  refine gf_5_34 rfl dX5_tellHill_129 ?_
  refine gf_5_77 rfl dX5_tellHill_132 ?_
  refine z_iload_n dX5_tellHill_135 rfl 1 rfl ?_
  refine z_iconst (v := 2) dX5_tellHill_136 (by decide) ?_
  refine z_iadd dX5_tellHill_137 ?_
  obtain ⟨g7, h⟩ := gd h
  refine ia_0_10 (inb_in g6) dX5_tellHill_138 ?_
  refine is_1_7 (lv1 (okP_2 hp) rfl) (inb_in g7) dX5_tellHill_139 ?_
  exact zb_X5_tellHill_140 h
def F_X5_tellHill_92 (x1 : Int32) (σ : Mm) : Option (Mm) := (if okP σ = true then (if inb (x1 + 1) 402 = true then (if inb (mA σ 1 (mP σ 2) 0 8) 12 = true then (F_X5_tellHill_120 x1 (mA σ 1 (mP σ 2) 0 8) (setA σ 1 (mP σ 2) 6 (upd (mA σ 1 (mP σ 2) 6) (mA σ 1 (mP σ 2) 0 8).toNatClampNeg (mA σ 0 0 10 (x1 + 1).toNatClampNeg)))) else none) else none) else none)
set_option maxRecDepth 20000 in
theorem zb_X5_tellHill_92 {S : Shp} {x1 : Int32} {σ : Mm} {r : Mm} (h : F_X5_tellHill_92 x1 σ = some r) : Z m_X5_tellHill S (Qv r) 92 [(0, .ref (sL S 0 0 12)), (1, .int (x1))] [] σ := by
  unfold F_X5_tellHill_92 at h
  obtain ⟨g2, h⟩ := gd h
  refine z_aload_n dX5_tellHill_92 rfl 0 rfl ?_
  obtain ⟨g3, h⟩ := gd h
  have hp := g2
  refine gf_5_38 rfl dX5_tellHill_93 ?_
  refine gf_5_134 (lv1 (okP_2 hp) rfl) rfl dX5_tellHill_96 ?_
  refine z_istore_n dX5_tellHill_99 rfl (by decide) [1, 2, 0] rfl ?_
  refine z_aload_n dX5_tellHill_100 rfl 0 rfl ?_
  refine gf_5_38 rfl dX5_tellHill_101 ?_
  refine gf_5_137 (lv1 (okP_2 hp) rfl) rfl dX5_tellHill_104 ?_
  refine z_iload_n dX5_tellHill_107 rfl 2 rfl ?_
  refine z_aload_n dX5_tellHill_108 rfl 0 rfl ?_
  refine gf_5_34 rfl dX5_tellHill_109 ?_
  refine gf_5_77 rfl dX5_tellHill_112 ?_
  refine z_iload_n dX5_tellHill_115 rfl 1 rfl ?_
  refine z_iconst (v := 1) dX5_tellHill_116 (by decide) ?_
  refine z_iadd dX5_tellHill_117 ?_
  obtain ⟨g4, h⟩ := gd h
  refine ia_0_10 (inb_in g3) dX5_tellHill_118 ?_
  refine is_1_6 (lv1 (okP_2 hp) rfl) (inb_in g4) dX5_tellHill_119 ?_
  exact zb_X5_tellHill_120 h
def F_X5_tellHill_83 (x1 : Int32) (σ : Mm) : Option (Mm) := (bnv (F_X5_blameAbove 20 (x1 + 3) σ) (fun τ => (F_X5_tellHill_92 x1 τ)))
set_option maxRecDepth 20000 in
theorem zb_X5_tellHill_83 {S : Shp} {x1 : Int32} {σ : Mm} {r : Mm} (h : F_X5_tellHill_83 x1 σ = some r) : Z m_X5_tellHill S (Qv r) 83 [(0, .ref (sL S 0 0 12)), (1, .int (x1))] [] σ := by
  unfold F_X5_tellHill_83 at h
  refine z_aload_n dX5_tellHill_83 rfl 0 rfl ?_
  refine z_bipush (v := 20) dX5_tellHill_84 (by decide) ?_
  refine z_iload_n dX5_tellHill_86 rfl 1 rfl ?_
  refine z_iconst (v := 3) dX5_tellHill_87 (by decide) ?_
  refine z_iadd dX5_tellHill_88 ?_
  obtain ⟨τ, hc, h⟩ := bnv_e h
  refine z_callV (M' := m_X5_blameAbove) (t := 0) (i := 0) (k := 12) (As := [.int (20), .int (x1 + 3)]) (rest := []) kl_5_110 oy_X5_blameAbove ⟨Nat.le_of_ble_eq_true rfl, Nat.le_of_ble_eq_true rfl⟩ rfl rfl rfl rfl (Nat.le_of_ble_eq_true rfl) rfl dX5_tellHill_89 (c_X5_blameAbove hc) (fun v2 τ2 hq => ?_)
  obtain ⟨rfl, rfl⟩ := hq
  change Z _ _ _ _ _ [] _
  exact zb_X5_tellHill_92 h
def F_X5_tellHill_73 (x1 : Int32) (σ : Mm) : Option (Mm) := (bnv (F_X5_blameAbove 359 (x1 + 2) σ) (fun τ => (F_X5_tellHill_83 x1 τ)))
set_option maxRecDepth 20000 in
theorem zb_X5_tellHill_73 {S : Shp} {x1 : Int32} {σ : Mm} {r : Mm} (h : F_X5_tellHill_73 x1 σ = some r) : Z m_X5_tellHill S (Qv r) 73 [(0, .ref (sL S 0 0 12)), (1, .int (x1))] [] σ := by
  unfold F_X5_tellHill_73 at h
  refine z_aload_n dX5_tellHill_73 rfl 0 rfl ?_
  refine z_sipush (v := 359) dX5_tellHill_74 (by decide) ?_
  refine z_iload_n dX5_tellHill_77 rfl 1 rfl ?_
  refine z_iconst (v := 2) dX5_tellHill_78 (by decide) ?_
  refine z_iadd dX5_tellHill_79 ?_
  obtain ⟨τ, hc, h⟩ := bnv_e h
  refine z_callV (M' := m_X5_blameAbove) (t := 0) (i := 0) (k := 12) (As := [.int (359), .int (x1 + 2)]) (rest := []) kl_5_110 oy_X5_blameAbove ⟨Nat.le_of_ble_eq_true rfl, Nat.le_of_ble_eq_true rfl⟩ rfl rfl rfl rfl (Nat.le_of_ble_eq_true rfl) rfl dX5_tellHill_80 (c_X5_blameAbove hc) (fun v2 τ2 hq => ?_)
  obtain ⟨rfl, rfl⟩ := hq
  change Z _ _ _ _ _ [] _
  exact zb_X5_tellHill_83 h
def F_X5_tellHill_60 (x1 : Int32) (s0 : Int32) (σ : Mm) : Option (Mm) := (if s0 = 0 then some (σ) else (bnv (F_X5_blameAbove 359 (x1 + 1) σ) (fun τ => (F_X5_tellHill_73 x1 τ))))
set_option maxRecDepth 20000 in
theorem zb_X5_tellHill_60 {S : Shp} {x1 : Int32} {s0 : Int32} {σ : Mm} {r : Mm} (h : F_X5_tellHill_60 x1 s0 σ = some r) : Z m_X5_tellHill S (Qv r) 60 [(0, .ref (sL S 0 0 12)), (1, .int (x1))] [.int (s0)] σ := by
  unfold F_X5_tellHill_60 at h
  refine z_if_eq (tgt := 173) dX5_tellHill_60 (by decide) (fun q => ?_) (fun q => ?_)
  · have h := (if_pos q).symm.trans h
    cases h
    exact z_return dX5_tellHill_173 rfl ⟨rfl, rfl⟩
  · have h := (if_neg q).symm.trans h
    refine z_aload_n dX5_tellHill_63 rfl 0 rfl ?_
    refine z_sipush (v := 359) dX5_tellHill_64 (by decide) ?_
    refine z_iload_n dX5_tellHill_67 rfl 1 rfl ?_
    refine z_iconst (v := 1) dX5_tellHill_68 (by decide) ?_
    refine z_iadd dX5_tellHill_69 ?_
    obtain ⟨τ, hc, h⟩ := bnv_e h
    refine z_callV (M' := m_X5_blameAbove) (t := 0) (i := 0) (k := 12) (As := [.int (359), .int (x1 + 1)]) (rest := []) kl_5_110 oy_X5_blameAbove ⟨Nat.le_of_ble_eq_true rfl, Nat.le_of_ble_eq_true rfl⟩ rfl rfl rfl rfl (Nat.le_of_ble_eq_true rfl) rfl dX5_tellHill_70 (c_X5_blameAbove hc) (fun v2 τ2 hq => ?_)
    obtain ⟨rfl, rfl⟩ := hq
    change Z _ _ _ _ _ [] _
    exact zb_X5_tellHill_73 h
def F_X5_tellHill_52 (x1 : Int32) (s0 : Int32) (σ : Mm) : Option (Mm) := (if s0 = 0 then some (σ) else (bnd (F_X5_take 4 σ) (fun v τ => (F_X5_tellHill_60 x1 v τ))))
set_option maxRecDepth 20000 in
theorem zb_X5_tellHill_52 {S : Shp} {x1 : Int32} {s0 : Int32} {σ : Mm} {r : Mm} (h : F_X5_tellHill_52 x1 s0 σ = some r) : Z m_X5_tellHill S (Qv r) 52 [(0, .ref (sL S 0 0 12)), (1, .int (x1))] [.int (s0)] σ := by
  unfold F_X5_tellHill_52 at h
  refine z_if_eq (tgt := 173) dX5_tellHill_52 (by decide) (fun q => ?_) (fun q => ?_)
  · have h := (if_pos q).symm.trans h
    cases h
    exact z_return dX5_tellHill_173 rfl ⟨rfl, rfl⟩
  · have h := (if_neg q).symm.trans h
    refine z_aload_n dX5_tellHill_55 rfl 0 rfl ?_
    refine z_iconst (v := 4) dX5_tellHill_56 (by decide) ?_
    obtain ⟨v, τ, hc, h⟩ := bnd_e h
    refine z_callV (M' := m_X5_take) (t := 0) (i := 0) (k := 12) (As := [.int (4)]) (rest := []) kl_5_103 oy_X5_take ⟨Nat.le_of_ble_eq_true rfl, Nat.le_of_ble_eq_true rfl⟩ rfl rfl rfl rfl (Nat.le_of_ble_eq_true rfl) rfl dX5_tellHill_57 (c_X5_take hc) (fun v2 τ2 hq => ?_)
    obtain ⟨rfl, rfl⟩ := hq
    change Z _ _ _ _ _ [.int (v)] _
    exact zb_X5_tellHill_60 h
def F_X5_tellHill_44 (x1 : Int32) (s0 : Int32) (σ : Mm) : Option (Mm) := (if s0 = 0 then some (σ) else (bnd (F_X5_take 3 σ) (fun v τ => (F_X5_tellHill_52 x1 v τ))))
set_option maxRecDepth 20000 in
theorem zb_X5_tellHill_44 {S : Shp} {x1 : Int32} {s0 : Int32} {σ : Mm} {r : Mm} (h : F_X5_tellHill_44 x1 s0 σ = some r) : Z m_X5_tellHill S (Qv r) 44 [(0, .ref (sL S 0 0 12)), (1, .int (x1))] [.int (s0)] σ := by
  unfold F_X5_tellHill_44 at h
  refine z_if_eq (tgt := 173) dX5_tellHill_44 (by decide) (fun q => ?_) (fun q => ?_)
  · have h := (if_pos q).symm.trans h
    cases h
    exact z_return dX5_tellHill_173 rfl ⟨rfl, rfl⟩
  · have h := (if_neg q).symm.trans h
    refine z_aload_n dX5_tellHill_47 rfl 0 rfl ?_
    refine z_iconst (v := 3) dX5_tellHill_48 (by decide) ?_
    obtain ⟨v, τ, hc, h⟩ := bnd_e h
    refine z_callV (M' := m_X5_take) (t := 0) (i := 0) (k := 12) (As := [.int (3)]) (rest := []) kl_5_103 oy_X5_take ⟨Nat.le_of_ble_eq_true rfl, Nat.le_of_ble_eq_true rfl⟩ rfl rfl rfl rfl (Nat.le_of_ble_eq_true rfl) rfl dX5_tellHill_49 (c_X5_take hc) (fun v2 τ2 hq => ?_)
    obtain ⟨rfl, rfl⟩ := hq
    change Z _ _ _ _ _ [.int (v)] _
    exact zb_X5_tellHill_52 h
def F_X5_tellHill_36 (x1 : Int32) (s0 : Int32) (σ : Mm) : Option (Mm) := (if s0 = 0 then some (σ) else (bnd (F_X5_take 3 σ) (fun v τ => (F_X5_tellHill_44 x1 v τ))))
set_option maxRecDepth 20000 in
theorem zb_X5_tellHill_36 {S : Shp} {x1 : Int32} {s0 : Int32} {σ : Mm} {r : Mm} (h : F_X5_tellHill_36 x1 s0 σ = some r) : Z m_X5_tellHill S (Qv r) 36 [(0, .ref (sL S 0 0 12)), (1, .int (x1))] [.int (s0)] σ := by
  unfold F_X5_tellHill_36 at h
  refine z_if_eq (tgt := 173) dX5_tellHill_36 (by decide) (fun q => ?_) (fun q => ?_)
  · have h := (if_pos q).symm.trans h
    cases h
    exact z_return dX5_tellHill_173 rfl ⟨rfl, rfl⟩
  · have h := (if_neg q).symm.trans h
    refine z_aload_n dX5_tellHill_39 rfl 0 rfl ?_
    refine z_iconst (v := 3) dX5_tellHill_40 (by decide) ?_
    obtain ⟨v, τ, hc, h⟩ := bnd_e h
    refine z_callV (M' := m_X5_take) (t := 0) (i := 0) (k := 12) (As := [.int (3)]) (rest := []) kl_5_103 oy_X5_take ⟨Nat.le_of_ble_eq_true rfl, Nat.le_of_ble_eq_true rfl⟩ rfl rfl rfl rfl (Nat.le_of_ble_eq_true rfl) rfl dX5_tellHill_41 (c_X5_take hc) (fun v2 τ2 hq => ?_)
    obtain ⟨rfl, rfl⟩ := hq
    change Z _ _ _ _ _ [.int (v)] _
    exact zb_X5_tellHill_44 h
def F_X5_tellHill_28 (x1 : Int32) (s0 : Int32) (σ : Mm) : Option (Mm) := (if s0 = 0 then some (σ) else (bnd (F_X5_take 3 σ) (fun v τ => (F_X5_tellHill_36 x1 v τ))))
set_option maxRecDepth 20000 in
theorem zb_X5_tellHill_28 {S : Shp} {x1 : Int32} {s0 : Int32} {σ : Mm} {r : Mm} (h : F_X5_tellHill_28 x1 s0 σ = some r) : Z m_X5_tellHill S (Qv r) 28 [(0, .ref (sL S 0 0 12)), (1, .int (x1))] [.int (s0)] σ := by
  unfold F_X5_tellHill_28 at h
  refine z_if_eq (tgt := 173) dX5_tellHill_28 (by decide) (fun q => ?_) (fun q => ?_)
  · have h := (if_pos q).symm.trans h
    cases h
    exact z_return dX5_tellHill_173 rfl ⟨rfl, rfl⟩
  · have h := (if_neg q).symm.trans h
    refine z_aload_n dX5_tellHill_31 rfl 0 rfl ?_
    refine z_iconst (v := 3) dX5_tellHill_32 (by decide) ?_
    obtain ⟨v, τ, hc, h⟩ := bnd_e h
    refine z_callV (M' := m_X5_take) (t := 0) (i := 0) (k := 12) (As := [.int (3)]) (rest := []) kl_5_103 oy_X5_take ⟨Nat.le_of_ble_eq_true rfl, Nat.le_of_ble_eq_true rfl⟩ rfl rfl rfl rfl (Nat.le_of_ble_eq_true rfl) rfl dX5_tellHill_33 (c_X5_take hc) (fun v2 τ2 hq => ?_)
    obtain ⟨rfl, rfl⟩ := hq
    change Z _ _ _ _ _ [.int (v)] _
    exact zb_X5_tellHill_36 h
def F_X5_tellHill_18 (x1 : Int32) (s0 : Int32) (σ : Mm) : Option (Mm) := (if s0 = 0 then some (σ) else (bnd (F_X5_take 19 σ) (fun v τ => (F_X5_tellHill_28 x1 v τ))))
set_option maxRecDepth 20000 in
theorem zb_X5_tellHill_18 {S : Shp} {x1 : Int32} {s0 : Int32} {σ : Mm} {r : Mm} (h : F_X5_tellHill_18 x1 s0 σ = some r) : Z m_X5_tellHill S (Qv r) 18 [(0, .ref (sL S 0 0 12)), (1, .int (x1))] [.int (s0)] σ := by
  unfold F_X5_tellHill_18 at h
  refine z_if_ne (tgt := 22) dX5_tellHill_18 (by decide) (fun q => ?_) (fun q => ?_)
  · have h := (if_neg q).symm.trans h
    refine z_aload_n dX5_tellHill_22 rfl 0 rfl ?_
    refine z_bipush (v := 19) dX5_tellHill_23 (by decide) ?_
    obtain ⟨v, τ, hc, h⟩ := bnd_e h
    refine z_callV (M' := m_X5_take) (t := 0) (i := 0) (k := 12) (As := [.int (19)]) (rest := []) kl_5_103 oy_X5_take ⟨Nat.le_of_ble_eq_true rfl, Nat.le_of_ble_eq_true rfl⟩ rfl rfl rfl rfl (Nat.le_of_ble_eq_true rfl) rfl dX5_tellHill_25 (c_X5_take hc) (fun v2 τ2 hq => ?_)
    obtain ⟨rfl, rfl⟩ := hq
    change Z _ _ _ _ _ [.int (v)] _
    exact zb_X5_tellHill_28 h
  · have h := (if_pos q).symm.trans h
    cases h
    exact z_return dX5_tellHill_21 rfl ⟨rfl, rfl⟩
def F_X5_tellHill (σ : Mm) : Option (Mm) := (if okP σ = true then (bnd (F_X5_hasRoom (mA σ 1 (mP σ 2) 0 8) 12 σ) (fun v τ => (F_X5_tellHill_18 (mA σ 0 0 12 4) v τ))) else none)
set_option maxRecDepth 20000 in
theorem zb_X5_tellHill {S : Shp} {σ : Mm} {r : Mm} (h : F_X5_tellHill σ = some r) : Z m_X5_tellHill S (Qv r) 0 [(0, .ref (sL S 0 0 12))] [] σ := by
  unfold F_X5_tellHill at h
  obtain ⟨g1, h⟩ := gd h
  refine z_aload_n dX5_tellHill_0 rfl 0 rfl ?_
  refine gf_5_18 rfl dX5_tellHill_1 ?_
  refine z_istore_n dX5_tellHill_4 rfl (by decide) [1, 0] rfl ?_
  refine z_aload_n dX5_tellHill_5 rfl 0 rfl ?_
  refine z_aload_n dX5_tellHill_6 rfl 0 rfl ?_
  have hp := g1
  refine gf_5_38 rfl dX5_tellHill_7 ?_
  refine gf_5_134 (lv1 (okP_2 hp) rfl) rfl dX5_tellHill_10 ?_
  refine z_bipush (v := 12) dX5_tellHill_13 (by decide) ?_
  obtain ⟨v, τ, hc, h⟩ := bnd_e h
  refine z_callV (M' := m_X5_hasRoom) (t := 0) (i := 0) (k := 12) (As := [.int (mA σ 1 (mP σ 2) 0 8), .int (12)]) (rest := []) kl_5_99 oy_X5_hasRoom ⟨Nat.le_of_ble_eq_true rfl, Nat.le_of_ble_eq_true rfl⟩ rfl rfl rfl rfl (Nat.le_of_ble_eq_true rfl) rfl dX5_tellHill_15 (c_X5_hasRoom hc) (fun v2 τ2 hq => ?_)
  obtain ⟨rfl, rfl⟩ := hq
  change Z _ _ _ _ _ [.int (v)] _
  exact zb_X5_tellHill_18 h
/-- SkyStones$Reader.tellHill()V -/
theorem c_X5_tellHill {S : Shp} {σ : Mm} {r : Mm} (h : F_X5_tellHill σ = some r) : Ct m_X5_tellHill S [.ref (sL S 0 0 12)] σ (Qv r) := Ct.of (by decide) (Nat.le_of_ble_eq_true rfl) (zb_X5_tellHill h)
def F_X5_tellNear_39 (x1 : Int32) (σ : Mm) : Option (Mm) := (if okP σ = true then (if inb (x1 + 1) 402 = true then some (setA σ 1 (mP σ 2) 0 (upd (mA σ 1 (mP σ 2) 0) 0 (mA σ 0 0 10 (x1 + 1).toNatClampNeg))) else none) else none)
set_option maxRecDepth 20000 in
theorem zb_X5_tellNear_39 {S : Shp} {x1 : Int32} {σ : Mm} {r : Mm} (h : F_X5_tellNear_39 x1 σ = some r) : Z m_X5_tellNear S (Qv r) 39 [(0, .ref (sL S 0 0 12)), (1, .int (x1))] [] σ := by
  unfold F_X5_tellNear_39 at h
  obtain ⟨g1, h⟩ := gd h
  refine z_aload_n dX5_tellNear_39 rfl 0 rfl ?_
  obtain ⟨g2, h⟩ := gd h
  have hp := g1
  refine gf_5_38 rfl dX5_tellNear_40 ?_
  refine z_aload_n dX5_tellNear_43 rfl 0 rfl ?_
  refine gf_5_34 rfl dX5_tellNear_44 ?_
  refine gf_5_77 rfl dX5_tellNear_47 ?_
  refine z_iload_n dX5_tellNear_50 rfl 1 rfl ?_
  refine z_iconst (v := 1) dX5_tellNear_51 (by decide) ?_
  refine z_iadd dX5_tellNear_52 ?_
  refine ia_0_10 (inb_in g2) dX5_tellNear_53 ?_
  refine pf_5_146 (lv1 (okP_2 hp) rfl) rfl dX5_tellNear_54 ?_
  cases h
  exact z_return dX5_tellNear_57 rfl ⟨rfl, rfl⟩
def F_X5_tellNear_27 (x1 : Int32) (s0 : Int32) (σ : Mm) : Option (Mm) := (if s0 = 0 then some (σ) else (bnv (F_X5_blameAbove 20 (x1 + 1) σ) (fun τ => (F_X5_tellNear_39 x1 τ))))
set_option maxRecDepth 20000 in
theorem zb_X5_tellNear_27 {S : Shp} {x1 : Int32} {s0 : Int32} {σ : Mm} {r : Mm} (h : F_X5_tellNear_27 x1 s0 σ = some r) : Z m_X5_tellNear S (Qv r) 27 [(0, .ref (sL S 0 0 12)), (1, .int (x1))] [.int (s0)] σ := by
  unfold F_X5_tellNear_27 at h
  refine z_if_eq (tgt := 57) dX5_tellNear_27 (by decide) (fun q => ?_) (fun q => ?_)
  · have h := (if_pos q).symm.trans h
    cases h
    exact z_return dX5_tellNear_57 rfl ⟨rfl, rfl⟩
  · have h := (if_neg q).symm.trans h
    refine z_aload_n dX5_tellNear_30 rfl 0 rfl ?_
    refine z_bipush (v := 20) dX5_tellNear_31 (by decide) ?_
    refine z_iload_n dX5_tellNear_33 rfl 1 rfl ?_
    refine z_iconst (v := 1) dX5_tellNear_34 (by decide) ?_
    refine z_iadd dX5_tellNear_35 ?_
    obtain ⟨τ, hc, h⟩ := bnv_e h
    refine z_callV (M' := m_X5_blameAbove) (t := 0) (i := 0) (k := 12) (As := [.int (20), .int (x1 + 1)]) (rest := []) kl_5_110 oy_X5_blameAbove ⟨Nat.le_of_ble_eq_true rfl, Nat.le_of_ble_eq_true rfl⟩ rfl rfl rfl rfl (Nat.le_of_ble_eq_true rfl) rfl dX5_tellNear_36 (c_X5_blameAbove hc) (fun v2 τ2 hq => ?_)
    obtain ⟨rfl, rfl⟩ := hq
    change Z _ _ _ _ _ [] _
    exact zb_X5_tellNear_39 h
def F_X5_tellNear_19 (x1 : Int32) (s0 : Int32) (σ : Mm) : Option (Mm) := (if s0 = 0 then some (σ) else (bnd (F_X5_take 4 σ) (fun v τ => (F_X5_tellNear_27 x1 v τ))))
set_option maxRecDepth 20000 in
theorem zb_X5_tellNear_19 {S : Shp} {x1 : Int32} {s0 : Int32} {σ : Mm} {r : Mm} (h : F_X5_tellNear_19 x1 s0 σ = some r) : Z m_X5_tellNear S (Qv r) 19 [(0, .ref (sL S 0 0 12)), (1, .int (x1))] [.int (s0)] σ := by
  unfold F_X5_tellNear_19 at h
  refine z_if_eq (tgt := 57) dX5_tellNear_19 (by decide) (fun q => ?_) (fun q => ?_)
  · have h := (if_pos q).symm.trans h
    cases h
    exact z_return dX5_tellNear_57 rfl ⟨rfl, rfl⟩
  · have h := (if_neg q).symm.trans h
    refine z_aload_n dX5_tellNear_22 rfl 0 rfl ?_
    refine z_iconst (v := 4) dX5_tellNear_23 (by decide) ?_
    obtain ⟨v, τ, hc, h⟩ := bnd_e h
    refine z_callV (M' := m_X5_take) (t := 0) (i := 0) (k := 12) (As := [.int (4)]) (rest := []) kl_5_103 oy_X5_take ⟨Nat.le_of_ble_eq_true rfl, Nat.le_of_ble_eq_true rfl⟩ rfl rfl rfl rfl (Nat.le_of_ble_eq_true rfl) rfl dX5_tellNear_24 (c_X5_take hc) (fun v2 τ2 hq => ?_)
    obtain ⟨rfl, rfl⟩ := hq
    change Z _ _ _ _ _ [.int (v)] _
    exact zb_X5_tellNear_27 h
def F_X5_tellNear_11 (x1 : Int32) (s0 : Int32) (σ : Mm) : Option (Mm) := (if s0 = 0 then some (σ) else (bnd (F_X5_take 3 σ) (fun v τ => (F_X5_tellNear_19 x1 v τ))))
set_option maxRecDepth 20000 in
theorem zb_X5_tellNear_11 {S : Shp} {x1 : Int32} {s0 : Int32} {σ : Mm} {r : Mm} (h : F_X5_tellNear_11 x1 s0 σ = some r) : Z m_X5_tellNear S (Qv r) 11 [(0, .ref (sL S 0 0 12)), (1, .int (x1))] [.int (s0)] σ := by
  unfold F_X5_tellNear_11 at h
  refine z_if_eq (tgt := 57) dX5_tellNear_11 (by decide) (fun q => ?_) (fun q => ?_)
  · have h := (if_pos q).symm.trans h
    cases h
    exact z_return dX5_tellNear_57 rfl ⟨rfl, rfl⟩
  · have h := (if_neg q).symm.trans h
    refine z_aload_n dX5_tellNear_14 rfl 0 rfl ?_
    refine z_iconst (v := 3) dX5_tellNear_15 (by decide) ?_
    obtain ⟨v, τ, hc, h⟩ := bnd_e h
    refine z_callV (M' := m_X5_take) (t := 0) (i := 0) (k := 12) (As := [.int (3)]) (rest := []) kl_5_103 oy_X5_take ⟨Nat.le_of_ble_eq_true rfl, Nat.le_of_ble_eq_true rfl⟩ rfl rfl rfl rfl (Nat.le_of_ble_eq_true rfl) rfl dX5_tellNear_16 (c_X5_take hc) (fun v2 τ2 hq => ?_)
    obtain ⟨rfl, rfl⟩ := hq
    change Z _ _ _ _ _ [.int (v)] _
    exact zb_X5_tellNear_19 h
def F_X5_tellNear (σ : Mm) : Option (Mm) := (bnd (F_X5_take 22 σ) (fun v τ => (F_X5_tellNear_11 (mA σ 0 0 12 4) v τ)))
set_option maxRecDepth 20000 in
theorem zb_X5_tellNear {S : Shp} {σ : Mm} {r : Mm} (h : F_X5_tellNear σ = some r) : Z m_X5_tellNear S (Qv r) 0 [(0, .ref (sL S 0 0 12))] [] σ := by
  unfold F_X5_tellNear at h
  refine z_aload_n dX5_tellNear_0 rfl 0 rfl ?_
  refine gf_5_18 rfl dX5_tellNear_1 ?_
  refine z_istore_n dX5_tellNear_4 rfl (by decide) [1, 0] rfl ?_
  refine z_aload_n dX5_tellNear_5 rfl 0 rfl ?_
  refine z_bipush (v := 22) dX5_tellNear_6 (by decide) ?_
  obtain ⟨v, τ, hc, h⟩ := bnd_e h
  refine z_callV (M' := m_X5_take) (t := 0) (i := 0) (k := 12) (As := [.int (22)]) (rest := []) kl_5_103 oy_X5_take ⟨Nat.le_of_ble_eq_true rfl, Nat.le_of_ble_eq_true rfl⟩ rfl rfl rfl rfl (Nat.le_of_ble_eq_true rfl) rfl dX5_tellNear_8 (c_X5_take hc) (fun v2 τ2 hq => ?_)
  obtain ⟨rfl, rfl⟩ := hq
  change Z _ _ _ _ _ [.int (v)] _
  exact zb_X5_tellNear_11 h
/-- SkyStones$Reader.tellNear()V -/
theorem c_X5_tellNear {S : Shp} {σ : Mm} {r : Mm} (h : F_X5_tellNear σ = some r) : Ct m_X5_tellNear S [.ref (sL S 0 0 12)] σ (Qv r) := Ct.of (by decide) (Nat.le_of_ble_eq_true rfl) (zb_X5_tellNear h)
def F_X5_literal_95 (x1 : Int32) (σ : Mm) : Option (Mm) := (if x1 = 0 then some (σ) else (if okP σ = true then (bnv (F_X0_put (mP σ 2) 27 0 σ) (fun τ => some (τ))) else none))
set_option maxRecDepth 20000 in
theorem zb_X5_literal_95 {S : Shp} {x1 : Int32} {σ : Mm} {r : Mm} (h : F_X5_literal_95 x1 σ = some r) : Z m_X5_literal S (Qv r) 95 [(0, .ref (sL S 0 0 12)), (1, .int (x1))] [] σ := by
  unfold F_X5_literal_95 at h
  refine z_iload_n dX5_literal_95 rfl 1 rfl ?_
  refine z_if_eq (tgt := 112) dX5_literal_96 (by decide) (fun q => ?_) (fun q => ?_)
  · have h := (if_pos q).symm.trans h
    cases h
    exact z_return dX5_literal_112 rfl ⟨rfl, rfl⟩
  · have h := (if_neg q).symm.trans h
    obtain ⟨g2, h⟩ := gd h
    refine z_aload_n dX5_literal_99 rfl 0 rfl ?_
    have hp := g2
    refine gf_5_38 rfl dX5_literal_100 ?_
    refine gf_5_152 (lv1 (okP_2 hp) rfl) rfl dX5_literal_103 ?_
    refine z_bipush (v := 27) dX5_literal_106 (by decide) ?_
    refine z_iconst (v := 0) dX5_literal_108 (by decide) ?_
    obtain ⟨τ, hc, h⟩ := bnv_e h
    refine z_callV (M' := m_X0_put) (t := 1) (i := (mP σ 2)) (k := 10) (As := [.int (27), .int (0)]) (rest := []) kl_5_173 oy_X0_put ⟨Nat.le_of_ble_eq_true rfl, Nat.le_of_ble_eq_true rfl⟩ (lv1 (okP_2 hp) rfl) rfl rfl rfl (Nat.le_of_ble_eq_true rfl) rfl dX5_literal_109 (c_X0_put (okP_2 hp) hc) (fun v2 τ2 hq => ?_)
    obtain ⟨rfl, rfl⟩ := hq
    change Z _ _ _ _ _ [] _
    cases h
    exact z_return dX5_literal_112 rfl ⟨rfl, rfl⟩
def F_X5_literal_83 (x1 : Int32) (x2 : Int32) (σ : Mm) : Option (Mm) := (if okP σ = true then (bnv (F_X0_put (mP σ 2) x2 0 σ) (fun τ => (F_X5_literal_95 x1 τ))) else none)
set_option maxRecDepth 20000 in
theorem zb_X5_literal_83 {S : Shp} {x1 : Int32} {x2 : Int32} {σ : Mm} {r : Mm} (h : F_X5_literal_83 x1 x2 σ = some r) : Z m_X5_literal S (Qv r) 83 [(0, .ref (sL S 0 0 12)), (1, .int (x1)), (2, .int (x2))] [] σ := by
  unfold F_X5_literal_83 at h
  obtain ⟨g1, h⟩ := gd h
  refine z_aload_n dX5_literal_83 rfl 0 rfl ?_
  have hp := g1
  refine gf_5_38 rfl dX5_literal_84 ?_
  refine gf_5_152 (lv1 (okP_2 hp) rfl) rfl dX5_literal_87 ?_
  refine z_iload_n dX5_literal_90 rfl 2 rfl ?_
  refine z_iconst (v := 0) dX5_literal_91 (by decide) ?_
  obtain ⟨τ, hc, h⟩ := bnv_e h
  refine z_callV (M' := m_X0_put) (t := 1) (i := (mP σ 2)) (k := 10) (As := [.int (x2), .int (0)]) (rest := []) kl_5_173 oy_X0_put ⟨Nat.le_of_ble_eq_true rfl, Nat.le_of_ble_eq_true rfl⟩ (lv1 (okP_2 hp) rfl) rfl rfl rfl (Nat.le_of_ble_eq_true rfl) rfl dX5_literal_92 (c_X0_put (okP_2 hp) hc) (fun v2 τ2 hq => ?_)
  obtain ⟨rfl, rfl⟩ := hq
  change Z _ _ _ _ _ [] _
  refine Z.lv [0, 1] rfl ?_
  exact zb_X5_literal_95 h
def F_X5_literal_77 (x1 : Int32) (x2 : Int32) (s0 : Int32) (σ : Mm) : Option (Mm) := (bnv (FS 8 0 σ) (fun τ => (F_X5_literal_83 x1 x2 τ)))
set_option maxRecDepth 20000 in
theorem zb_X5_literal_77 {S : Shp} {x1 : Int32} {x2 : Int32} {s0 : Int32} {σ : Mm} {r : Mm} (h : F_X5_literal_77 x1 x2 s0 σ = some r) : Z m_X5_literal S (Qv r) 77 [(0, .ref (sL S 0 0 12)), (1, .int (x1)), (2, .int (x2))] [.int (s0)] σ := by
  unfold F_X5_literal_77 at h
  refine z_pop dX5_literal_77 rfl ?_
  refine z_aload_n dX5_literal_78 rfl 0 rfl ?_
  refine z_iconst (v := 0) dX5_literal_79 (by decide) ?_
  obtain ⟨τ, hc, h⟩ := bnv_e h
  refine z_callV (M' := m_X5_sum 8) (t := 0) (i := 0) (k := 12) (As := [.int (0)]) (rest := []) kl_5_161 oy_X5_sum ⟨Nat.le_of_ble_eq_true rfl, Nat.le_of_ble_eq_true rfl⟩ rfl rfl rfl rfl (Nat.le_of_ble_eq_true rfl) rfl dX5_literal_80 (c_FS 8 hc) (fun v2 τ2 hq => ?_)
  obtain ⟨rfl, rfl⟩ := hq
  change Z _ _ _ _ _ [] _
  exact zb_X5_literal_83 h
def F_X5_literal_72 (x1 : Int32) (x2 : Int32) (σ : Mm) : Option (Mm) := (bnd (F_X5_take x2 σ) (fun v τ => (F_X5_literal_77 x1 x2 v τ)))
set_option maxRecDepth 20000 in
theorem zb_X5_literal_72 {S : Shp} {x1 : Int32} {x2 : Int32} {σ : Mm} {r : Mm} (h : F_X5_literal_72 x1 x2 σ = some r) : Z m_X5_literal S (Qv r) 72 [(0, .ref (sL S 0 0 12)), (1, .int (x1)), (2, .int (x2))] [] σ := by
  unfold F_X5_literal_72 at h
  refine z_aload_n dX5_literal_72 rfl 0 rfl ?_
  refine z_iload_n dX5_literal_73 rfl 2 rfl ?_
  obtain ⟨v, τ, hc, h⟩ := bnd_e h
  refine z_callV (M' := m_X5_take) (t := 0) (i := 0) (k := 12) (As := [.int (x2)]) (rest := []) kl_5_103 oy_X5_take ⟨Nat.le_of_ble_eq_true rfl, Nat.le_of_ble_eq_true rfl⟩ rfl rfl rfl rfl (Nat.le_of_ble_eq_true rfl) rfl dX5_literal_74 (c_X5_take hc) (fun v2 τ2 hq => ?_)
  obtain ⟨rfl, rfl⟩ := hq
  change Z _ _ _ _ _ [.int (v)] _
  exact zb_X5_literal_77 h
def F_X5_literal_67 (x1 : Int32) (x2 : Int32) (σ : Mm) : Option (Mm) := (bnv (F_X5_stop 1 σ) (fun τ => (F_X5_literal_72 x1 x2 τ)))
set_option maxRecDepth 20000 in
theorem zb_X5_literal_67 {S : Shp} {x1 : Int32} {x2 : Int32} {σ : Mm} {r : Mm} (h : F_X5_literal_67 x1 x2 σ = some r) : Z m_X5_literal S (Qv r) 67 [(0, .ref (sL S 0 0 12)), (1, .int (x1)), (2, .int (x2))] [] σ := by
  unfold F_X5_literal_67 at h
  refine z_aload_n dX5_literal_67 rfl 0 rfl ?_
  refine z_iconst (v := 1) dX5_literal_68 (by decide) ?_
  obtain ⟨τ, hc, h⟩ := bnv_e h
  refine z_callV (M' := m_X5_stop) (t := 0) (i := 0) (k := 12) (As := [.int (1)]) (rest := []) kl_5_65 oy_X5_stop ⟨Nat.le_of_ble_eq_true rfl, Nat.le_of_ble_eq_true rfl⟩ rfl rfl rfl rfl (Nat.le_of_ble_eq_true rfl) rfl dX5_literal_69 (c_X5_stop hc) (fun v2 τ2 hq => ?_)
  obtain ⟨rfl, rfl⟩ := hq
  change Z _ _ _ _ _ [] _
  exact zb_X5_literal_72 h
def F_X5_literal_54 (x1 : Int32) (s0 : Int32) (σ : Mm) : Option (Mm) := (if s0 < 10 then (F_X5_literal_67 x1 s0 σ) else (if s0 ≤ 13 then (F_X5_literal_72 x1 s0 σ) else (F_X5_literal_67 x1 s0 σ)))
set_option maxRecDepth 20000 in
theorem zb_X5_literal_54 {S : Shp} {x1 : Int32} {s0 : Int32} {σ : Mm} {r : Mm} (h : F_X5_literal_54 x1 s0 σ = some r) : Z m_X5_literal S (Qv r) 54 [(0, .ref (sL S 0 0 12)), (1, .int (x1))] [.int (s0)] σ := by
  unfold F_X5_literal_54 at h
  refine z_istore_n dX5_literal_54 rfl (by decide) [1, 2, 0] rfl ?_
  refine z_iload_n dX5_literal_55 rfl 2 rfl ?_
  refine z_bipush (v := 10) dX5_literal_56 (by decide) ?_
  refine z_icmp_lt (tgt := 67) dX5_literal_58 (by decide) (fun q => ?_) (fun q => ?_)
  · have h := (if_pos q).symm.trans h
    exact zb_X5_literal_67 h
  · have h := (if_neg q).symm.trans h
    refine z_iload_n dX5_literal_61 rfl 2 rfl ?_
    refine z_bipush (v := 13) dX5_literal_62 (by decide) ?_
    refine z_icmp_le (tgt := 72) dX5_literal_64 (by decide) (fun q => ?_) (fun q => ?_)
    · have h := (if_pos q).symm.trans h
      exact zb_X5_literal_72 h
    · have h := (if_neg q).symm.trans h
      exact zb_X5_literal_67 h
def F_X5_literal_50 (x1 : Int32) (σ : Mm) : Option (Mm) := (bnd (F_X5_kindHere  σ) (fun v τ => (F_X5_literal_54 x1 v τ)))
set_option maxRecDepth 20000 in
theorem zb_X5_literal_50 {S : Shp} {x1 : Int32} {σ : Mm} {r : Mm} (h : F_X5_literal_50 x1 σ = some r) : Z m_X5_literal S (Qv r) 50 [(0, .ref (sL S 0 0 12)), (1, .int (x1))] [] σ := by
  unfold F_X5_literal_50 at h
  refine z_aload_n dX5_literal_50 rfl 0 rfl ?_
  obtain ⟨v, τ, hc, h⟩ := bnd_e h
  refine z_callV (M' := m_X5_kindHere) (t := 0) (i := 0) (k := 12) (As := []) (rest := []) kl_5_42 oy_X5_kindHere ⟨Nat.le_of_ble_eq_true rfl, Nat.le_of_ble_eq_true rfl⟩ rfl rfl rfl rfl (Nat.le_of_ble_eq_true rfl) rfl dX5_literal_51 (c_X5_kindHere hc) (fun v2 τ2 hq => ?_)
  obtain ⟨rfl, rfl⟩ := hq
  change Z _ _ _ _ _ [.int (v)] _
  exact zb_X5_literal_54 h
def F_X5_literal_45 (x1 : Int32) (σ : Mm) : Option (Mm) := (bnv (FS 8 0 σ) (fun τ => (F_X5_literal_50 x1 τ)))
set_option maxRecDepth 20000 in
theorem zb_X5_literal_45 {S : Shp} {x1 : Int32} {σ : Mm} {r : Mm} (h : F_X5_literal_45 x1 σ = some r) : Z m_X5_literal S (Qv r) 45 [(0, .ref (sL S 0 0 12)), (1, .int (x1))] [] σ := by
  unfold F_X5_literal_45 at h
  refine z_aload_n dX5_literal_45 rfl 0 rfl ?_
  refine z_iconst (v := 0) dX5_literal_46 (by decide) ?_
  obtain ⟨τ, hc, h⟩ := bnv_e h
  refine z_callV (M' := m_X5_sum 8) (t := 0) (i := 0) (k := 12) (As := [.int (0)]) (rest := []) kl_5_161 oy_X5_sum ⟨Nat.le_of_ble_eq_true rfl, Nat.le_of_ble_eq_true rfl⟩ rfl rfl rfl rfl (Nat.le_of_ble_eq_true rfl) rfl dX5_literal_47 (c_FS 8 hc) (fun v2 τ2 hq => ?_)
  obtain ⟨rfl, rfl⟩ := hq
  change Z _ _ _ _ _ [] _
  exact zb_X5_literal_50 h
def F_X5_literal_38 (rc4 : Int32 → Int32 → Mm → Option (Mm)) (x2 : Int32) (s0 : Int32) (σ : Mm) : Option (Mm) := (rc4 s0 (x2 + 1) σ)
set_option maxRecDepth 20000 in
theorem zb_X5_literal_38 {S : Shp} {rc4 : Int32 → Int32 → Mm → Option (Mm)} (hrc4 : ∀ {x1 : Int32} {x2 : Int32} {σ : Mm} {r : Mm}, rc4 x1 x2 σ = some r → Z m_X5_literal S (Qv r) 4 [(0, .ref (sL S 0 0 12)), (1, .int (x1)), (2, .int (x2))] [] σ) {x2 : Int32} {s0 : Int32} {σ : Mm} {r : Mm} (h : F_X5_literal_38 rc4 x2 s0 σ = some r) : Z m_X5_literal S (Qv r) 38 [(0, .ref (sL S 0 0 12)), (2, .int (x2))] [.int (s0)] σ := by
  unfold F_X5_literal_38 at h
  refine z_istore_n dX5_literal_38 rfl (by decide) [1, 0, 2] rfl ?_
  refine z_iinc (j := 2) (v := x2 + 1) dX5_literal_39 rfl rfl (by decide) [1, 2, 0] rfl ?_
  refine z_goto (tgt := 4) dX5_literal_42 (by decide) ?_
  exact hrc4 h
def F_X5_literal_26 (rc4 : Int32 → Int32 → Mm → Option (Mm)) (x1 : Int32) (x2 : Int32) (s0 : Int32) (σ : Mm) : Option (Mm) := (if s0 = 0 then (F_X5_literal_45 x1 σ) else (if x1 = 0 then (F_X5_literal_38 rc4 x2 1 σ) else (F_X5_literal_38 rc4 x2 0 σ)))
set_option maxRecDepth 20000 in
theorem zb_X5_literal_26 {S : Shp} {rc4 : Int32 → Int32 → Mm → Option (Mm)} (hrc4 : ∀ {x1 : Int32} {x2 : Int32} {σ : Mm} {r : Mm}, rc4 x1 x2 σ = some r → Z m_X5_literal S (Qv r) 4 [(0, .ref (sL S 0 0 12)), (1, .int (x1)), (2, .int (x2))] [] σ) {x1 : Int32} {x2 : Int32} {s0 : Int32} {σ : Mm} {r : Mm} (h : F_X5_literal_26 rc4 x1 x2 s0 σ = some r) : Z m_X5_literal S (Qv r) 26 [(0, .ref (sL S 0 0 12)), (1, .int (x1)), (2, .int (x2))] [.int (s0)] σ := by
  unfold F_X5_literal_26 at h
  refine z_if_eq (tgt := 45) dX5_literal_26 (by decide) (fun q => ?_) (fun q => ?_)
  · have h := (if_pos q).symm.trans h
    refine Z.lv [0, 1] rfl ?_
    exact zb_X5_literal_45 h
  · have h := (if_neg q).symm.trans h
    refine z_iload_n dX5_literal_29 rfl 1 rfl ?_
    refine z_if_ne (tgt := 37) dX5_literal_30 (by decide) (fun q => ?_) (fun q => ?_)
    · have h := (if_neg q).symm.trans h
      refine z_iconst (v := 0) dX5_literal_37 (by decide) ?_
      refine Z.lv [0, 2] rfl ?_
      exact zb_X5_literal_38 hrc4 h
    · have h := (if_pos q).symm.trans h
      refine z_iconst (v := 1) dX5_literal_33 (by decide) ?_
      refine z_goto (tgt := 38) dX5_literal_34 (by decide) ?_
      refine Z.lv [0, 2] rfl ?_
      exact zb_X5_literal_38 hrc4 h
def F_X5_literal_15 (rc4 : Int32 → Int32 → Mm → Option (Mm)) (x1 : Int32) (x2 : Int32) (s0 : Int32) (σ : Mm) : Option (Mm) := (if s0 = 27 then (bnd (F_X5_take 27 σ) (fun v τ => (F_X5_literal_26 rc4 x1 x2 v τ))) else (F_X5_literal_45 x1 σ))
set_option maxRecDepth 20000 in
theorem zb_X5_literal_15 {S : Shp} {rc4 : Int32 → Int32 → Mm → Option (Mm)} (hrc4 : ∀ {x1 : Int32} {x2 : Int32} {σ : Mm} {r : Mm}, rc4 x1 x2 σ = some r → Z m_X5_literal S (Qv r) 4 [(0, .ref (sL S 0 0 12)), (1, .int (x1)), (2, .int (x2))] [] σ) {x1 : Int32} {x2 : Int32} {s0 : Int32} {σ : Mm} {r : Mm} (h : F_X5_literal_15 rc4 x1 x2 s0 σ = some r) : Z m_X5_literal S (Qv r) 15 [(0, .ref (sL S 0 0 12)), (1, .int (x1)), (2, .int (x2))] [.int (s0)] σ := by
  unfold F_X5_literal_15 at h
  refine z_bipush (v := 27) dX5_literal_15 (by decide) ?_
  refine z_icmp_ne (tgt := 45) dX5_literal_17 (by decide) (fun q => ?_) (fun q => ?_)
  · have h := (if_neg q).symm.trans h
    refine Z.lv [0, 1] rfl ?_
    exact zb_X5_literal_45 h
  · have h := (if_pos q).symm.trans h
    refine z_aload_n dX5_literal_20 rfl 0 rfl ?_
    refine z_bipush (v := 27) dX5_literal_21 (by decide) ?_
    obtain ⟨v, τ, hc, h⟩ := bnd_e h
    refine z_callV (M' := m_X5_take) (t := 0) (i := 0) (k := 12) (As := [.int (27)]) (rest := []) kl_5_103 oy_X5_take ⟨Nat.le_of_ble_eq_true rfl, Nat.le_of_ble_eq_true rfl⟩ rfl rfl rfl rfl (Nat.le_of_ble_eq_true rfl) rfl dX5_literal_23 (c_X5_take hc) (fun v2 τ2 hq => ?_)
    obtain ⟨rfl, rfl⟩ := hq
    change Z _ _ _ _ _ [.int (v)] _
    exact zb_X5_literal_26 hrc4 h
def B_X5_literal_4 (rc4 : Int32 → Int32 → Mm → Option (Mm)) (x1 : Int32) (x2 : Int32) (σ : Mm) : Option (Mm) := (if 400 ≤ x2 then (F_X5_literal_45 x1 σ) else (bnd (F_X5_kindHere  σ) (fun v τ => (F_X5_literal_15 rc4 x1 x2 v τ))))
set_option maxRecDepth 20000 in
theorem zB_X5_literal_4 {S : Shp} {rc4 : Int32 → Int32 → Mm → Option (Mm)} (hrc4 : ∀ {x1 : Int32} {x2 : Int32} {σ : Mm} {r : Mm}, rc4 x1 x2 σ = some r → Z m_X5_literal S (Qv r) 4 [(0, .ref (sL S 0 0 12)), (1, .int (x1)), (2, .int (x2))] [] σ) {x1 : Int32} {x2 : Int32} {σ : Mm} {r : Mm} (h : B_X5_literal_4 rc4 x1 x2 σ = some r) : Z m_X5_literal S (Qv r) 4 [(0, .ref (sL S 0 0 12)), (1, .int (x1)), (2, .int (x2))] [] σ := by
  unfold B_X5_literal_4 at h
  refine z_iload_n dX5_literal_4 rfl 2 rfl ?_
  refine z_sipush (v := 400) dX5_literal_5 (by decide) ?_
  refine z_icmp_ge (tgt := 45) dX5_literal_8 (by decide) (fun q => ?_) (fun q => ?_)
  · have h := (if_pos q).symm.trans h
    refine Z.lv [0, 1] rfl ?_
    exact zb_X5_literal_45 h
  · have h := (if_neg q).symm.trans h
    refine z_aload_n dX5_literal_11 rfl 0 rfl ?_
    obtain ⟨v, τ, hc, h⟩ := bnd_e h
    refine z_callV (M' := m_X5_kindHere) (t := 0) (i := 0) (k := 12) (As := []) (rest := []) kl_5_42 oy_X5_kindHere ⟨Nat.le_of_ble_eq_true rfl, Nat.le_of_ble_eq_true rfl⟩ rfl rfl rfl rfl (Nat.le_of_ble_eq_true rfl) rfl dX5_literal_12 (c_X5_kindHere hc) (fun v2 τ2 hq => ?_)
    obtain ⟨rfl, rfl⟩ := hq
    change Z _ _ _ _ _ [.int (v)] _
    exact zb_X5_literal_15 hrc4 h
def F_X5_literal_4 : Nat → Int32 → Int32 → Mm → Option (Mm)
  | 0 => fun _ _ _ => none
  | n + 1 => B_X5_literal_4 (F_X5_literal_4 n)
theorem zl_X5_literal_4 {S : Shp} (nn : Nat) {x1 : Int32} {x2 : Int32} {σ : Mm} {r : Mm} (h : F_X5_literal_4 nn x1 x2 σ = some r) : Z m_X5_literal S (Qv r) 4 [(0, .ref (sL S 0 0 12)), (1, .int (x1)), (2, .int (x2))] [] σ := by
  induction nn generalizing x1 x2 σ r with
  | zero => cases h
  | succ nn ih => exact zB_X5_literal_4 (fun h => ih h) h
def F_X5_literal (σ : Mm) : Option (Mm) := (F_X5_literal_4 FU 0 0 σ)
set_option maxRecDepth 20000 in
theorem zb_X5_literal {S : Shp} {σ : Mm} {r : Mm} (h : F_X5_literal σ = some r) : Z m_X5_literal S (Qv r) 0 [(0, .ref (sL S 0 0 12))] [] σ := by
  unfold F_X5_literal at h
  refine z_iconst (v := 0) dX5_literal_0 (by decide) ?_
  refine z_istore_n dX5_literal_1 rfl (by decide) [1, 0] rfl ?_
  refine z_iconst (v := 0) dX5_literal_2 (by decide) ?_
  refine z_istore_n dX5_literal_3 rfl (by decide) [1, 2, 0] rfl ?_
  exact zl_X5_literal_4 FU h
/-- SkyStones$Reader.literal()V -/
theorem c_X5_literal {S : Shp} {σ : Mm} {r : Mm} (h : F_X5_literal σ = some r) : Ct m_X5_literal S [.ref (sL S 0 0 12)] σ (Qv r) := Ct.of (by decide) (Nat.le_of_ble_eq_true rfl) (zb_X5_literal h)
def F_X5_tellRule_192 (s0 : Int32) (σ : Mm) : Option (Mm) := (if okP σ = true then some (setA σ 1 (mP σ 2) 0 (upd (mA σ 1 (mP σ 2) 0) 14 ((mA σ 1 (mP σ 2) 0 14) + 1))) else none)
set_option maxRecDepth 20000 in
theorem zb_X5_tellRule_192 {S : Shp} {s0 : Int32} {σ : Mm} {r : Mm} (h : F_X5_tellRule_192 s0 σ = some r) : Z m_X5_tellRule S (Qv r) 192 [(0, .ref (sL S 0 0 12))] [.int (s0)] σ := by
  unfold F_X5_tellRule_192 at h
  obtain ⟨g7, h⟩ := gd h
  refine z_pop dX5_tellRule_192 rfl ?_
  refine z_aload_n dX5_tellRule_193 rfl 0 rfl ?_
  have hp := g7
  refine gf_5_38 rfl dX5_tellRule_194 ?_
  refine z_dup dX5_tellRule_197 rfl ?_
  refine gf_5_167 (lv1 (okP_2 hp) rfl) rfl dX5_tellRule_198 ?_
  refine z_iconst (v := 1) dX5_tellRule_201 (by decide) ?_
  refine z_iadd dX5_tellRule_202 ?_
  refine pf_5_167 (lv1 (okP_2 hp) rfl) rfl dX5_tellRule_203 ?_
  cases h
  exact z_return dX5_tellRule_206 rfl ⟨rfl, rfl⟩
def F_X5_tellRule_187 (σ : Mm) : Option (Mm) := (bnd (F_X5_take 4 σ) (fun v τ => (F_X5_tellRule_192 v τ)))
set_option maxRecDepth 20000 in
theorem zb_X5_tellRule_187 {S : Shp} {σ : Mm} {r : Mm} (h : F_X5_tellRule_187 σ = some r) : Z m_X5_tellRule S (Qv r) 187 [(0, .ref (sL S 0 0 12))] [] σ := by
  unfold F_X5_tellRule_187 at h
  refine z_aload_n dX5_tellRule_187 rfl 0 rfl ?_
  refine z_iconst (v := 4) dX5_tellRule_188 (by decide) ?_
  obtain ⟨v, τ, hc, h⟩ := bnd_e h
  refine z_callV (M' := m_X5_take) (t := 0) (i := 0) (k := 12) (As := [.int (4)]) (rest := []) kl_5_103 oy_X5_take ⟨Nat.le_of_ble_eq_true rfl, Nat.le_of_ble_eq_true rfl⟩ rfl rfl rfl rfl (Nat.le_of_ble_eq_true rfl) rfl dX5_tellRule_189 (c_X5_take hc) (fun v2 τ2 hq => ?_)
  obtain ⟨rfl, rfl⟩ := hq
  change Z _ _ _ _ _ [.int (v)] _
  exact zb_X5_tellRule_192 h
def F_X5_tellRule_176 (x1 : Int32) (σ : Mm) : Option (Mm) := (if okP σ = true then (bnv (F_X0_close (mP σ 2) x1 σ) (fun τ => (F_X5_tellRule_187 τ))) else none)
set_option maxRecDepth 20000 in
theorem zb_X5_tellRule_176 {S : Shp} {x1 : Int32} {σ : Mm} {r : Mm} (h : F_X5_tellRule_176 x1 σ = some r) : Z m_X5_tellRule S (Qv r) 176 [(0, .ref (sL S 0 0 12)), (1, .int (x1))] [] σ := by
  unfold F_X5_tellRule_176 at h
  obtain ⟨g5, h⟩ := gd h
  refine z_aload_n dX5_tellRule_176 rfl 0 rfl ?_
  have hp := g5
  refine gf_5_38 rfl dX5_tellRule_177 ?_
  refine gf_5_152 (lv1 (okP_2 hp) rfl) rfl dX5_tellRule_180 ?_
  refine z_iload_n dX5_tellRule_183 rfl 1 rfl ?_
  obtain ⟨τ, hc, h⟩ := bnv_e h
  refine z_callV (M' := m_X0_close) (t := 1) (i := (mP σ 2)) (k := 10) (As := [.int (x1)]) (rest := []) kl_5_164 oy_X0_close ⟨Nat.le_of_ble_eq_true rfl, Nat.le_of_ble_eq_true rfl⟩ (lv1 (okP_2 hp) rfl) rfl rfl rfl (Nat.le_of_ble_eq_true rfl) rfl dX5_tellRule_184 (c_X0_close (okP_2 hp) hc) (fun v2 τ2 hq => ?_)
  obtain ⟨rfl, rfl⟩ := hq
  change Z _ _ _ _ _ [] _
  refine Z.lv [0] rfl ?_
  exact zb_X5_tellRule_187 h
def F_X5_tellRule_159 (x1 : Int32) (x2 : Int32) (σ : Mm) : Option (Mm) := (if x2 = 0 then (F_X5_tellRule_176 x1 σ) else (if okP σ = true then (bnv (F_X0_put (mP σ 2) 25 0 σ) (fun τ => (F_X5_tellRule_176 x1 τ))) else none))
set_option maxRecDepth 20000 in
theorem zb_X5_tellRule_159 {S : Shp} {x1 : Int32} {x2 : Int32} {σ : Mm} {r : Mm} (h : F_X5_tellRule_159 x1 x2 σ = some r) : Z m_X5_tellRule S (Qv r) 159 [(0, .ref (sL S 0 0 12)), (1, .int (x1)), (2, .int (x2))] [] σ := by
  unfold F_X5_tellRule_159 at h
  refine z_iload_n dX5_tellRule_159 rfl 2 rfl ?_
  refine z_if_eq (tgt := 176) dX5_tellRule_160 (by decide) (fun q => ?_) (fun q => ?_)
  · have h := (if_pos q).symm.trans h
    refine Z.lv [0, 1] rfl ?_
    exact zb_X5_tellRule_176 h
  · have h := (if_neg q).symm.trans h
    obtain ⟨g4, h⟩ := gd h
    refine z_aload_n dX5_tellRule_163 rfl 0 rfl ?_
    have hp := g4
    refine gf_5_38 rfl dX5_tellRule_164 ?_
    refine gf_5_152 (lv1 (okP_2 hp) rfl) rfl dX5_tellRule_167 ?_
    refine z_bipush (v := 25) dX5_tellRule_170 (by decide) ?_
    refine z_iconst (v := 0) dX5_tellRule_172 (by decide) ?_
    obtain ⟨τ, hc, h⟩ := bnv_e h
    refine z_callV (M' := m_X0_put) (t := 1) (i := (mP σ 2)) (k := 10) (As := [.int (25), .int (0)]) (rest := []) kl_5_173 oy_X0_put ⟨Nat.le_of_ble_eq_true rfl, Nat.le_of_ble_eq_true rfl⟩ (lv1 (okP_2 hp) rfl) rfl rfl rfl (Nat.le_of_ble_eq_true rfl) rfl dX5_tellRule_173 (c_X0_put (okP_2 hp) hc) (fun v2 τ2 hq => ?_)
    obtain ⟨rfl, rfl⟩ := hq
    change Z _ _ _ _ _ [] _
    refine Z.lv [0, 1] rfl ?_
    exact zb_X5_tellRule_176 h
def F_X5_tellRule_153 (rc60 : Int32 → Int32 → Int32 → Mm → Option (Mm)) (x1 : Int32) (x2 : Int32) (x3 : Int32) (σ : Mm) : Option (Mm) := (rc60 x1 x2 (x3 + 1) σ)
set_option maxRecDepth 20000 in
theorem zb_X5_tellRule_153 {S : Shp} {rc60 : Int32 → Int32 → Int32 → Mm → Option (Mm)} (hrc60 : ∀ {x1 : Int32} {x2 : Int32} {x3 : Int32} {σ : Mm} {r : Mm}, rc60 x1 x2 x3 σ = some r → Z m_X5_tellRule S (Qv r) 60 [(0, .ref (sL S 0 0 12)), (1, .int (x1)), (2, .int (x2)), (3, .int (x3))] [] σ) {x1 : Int32} {x2 : Int32} {x3 : Int32} {σ : Mm} {r : Mm} (h : F_X5_tellRule_153 rc60 x1 x2 x3 σ = some r) : Z m_X5_tellRule S (Qv r) 153 [(0, .ref (sL S 0 0 12)), (1, .int (x1)), (2, .int (x2)), (3, .int (x3))] [] σ := by
  unfold F_X5_tellRule_153 at h
  refine z_iinc (j := 3) (v := x3 + 1) dX5_tellRule_153 rfl rfl (by decide) [1, 2, 3, 0] rfl ?_
  refine z_goto (tgt := 60) dX5_tellRule_156 (by decide) ?_
  exact hrc60 h
def F_X5_tellRule_147 (rc60 : Int32 → Int32 → Int32 → Mm → Option (Mm)) (x1 : Int32) (x3 : Int32) (σ : Mm) : Option (Mm) := (bnv (F_X5_literal  σ) (fun τ => (F_X5_tellRule_153 rc60 x1 1 x3 τ)))
set_option maxRecDepth 20000 in
theorem zb_X5_tellRule_147 {S : Shp} {rc60 : Int32 → Int32 → Int32 → Mm → Option (Mm)} (hrc60 : ∀ {x1 : Int32} {x2 : Int32} {x3 : Int32} {σ : Mm} {r : Mm}, rc60 x1 x2 x3 σ = some r → Z m_X5_tellRule S (Qv r) 60 [(0, .ref (sL S 0 0 12)), (1, .int (x1)), (2, .int (x2)), (3, .int (x3))] [] σ) {x1 : Int32} {x3 : Int32} {σ : Mm} {r : Mm} (h : F_X5_tellRule_147 rc60 x1 x3 σ = some r) : Z m_X5_tellRule S (Qv r) 147 [(0, .ref (sL S 0 0 12)), (1, .int (x1)), (3, .int (x3))] [] σ := by
  unfold F_X5_tellRule_147 at h
  refine z_iconst (v := 1) dX5_tellRule_147 (by decide) ?_
  refine z_istore_n dX5_tellRule_148 rfl (by decide) [1, 2, 0, 3] rfl ?_
  refine z_aload_n dX5_tellRule_149 rfl 0 rfl ?_
  obtain ⟨τ, hc, h⟩ := bnv_e h
  refine z_callV (M' := m_X5_literal) (t := 0) (i := 0) (k := 12) (As := []) (rest := []) kl_5_170 oy_X5_literal ⟨Nat.le_of_ble_eq_true rfl, Nat.le_of_ble_eq_true rfl⟩ rfl rfl rfl rfl (Nat.le_of_ble_eq_true rfl) rfl dX5_tellRule_150 (c_X5_literal hc) (fun v2 τ2 hq => ?_)
  obtain ⟨rfl, rfl⟩ := hq
  change Z _ _ _ _ _ [] _
  exact zb_X5_tellRule_153 hrc60 h
def F_X5_tellRule_127 (rc60 : Int32 → Int32 → Int32 → Mm → Option (Mm)) (x1 : Int32) (x2 : Int32) (x3 : Int32) (s0 : Int32) (σ : Mm) : Option (Mm) := (if s0 = 0 then (F_X5_tellRule_159 x1 x2 σ) else (if x2 = 0 then (F_X5_tellRule_147 rc60 x1 x3 σ) else (if okP σ = true then (bnv (F_X0_put (mP σ 2) 25 0 σ) (fun τ => (F_X5_tellRule_147 rc60 x1 x3 τ))) else none)))
set_option maxRecDepth 20000 in
theorem zb_X5_tellRule_127 {S : Shp} {rc60 : Int32 → Int32 → Int32 → Mm → Option (Mm)} (hrc60 : ∀ {x1 : Int32} {x2 : Int32} {x3 : Int32} {σ : Mm} {r : Mm}, rc60 x1 x2 x3 σ = some r → Z m_X5_tellRule S (Qv r) 60 [(0, .ref (sL S 0 0 12)), (1, .int (x1)), (2, .int (x2)), (3, .int (x3))] [] σ) {x1 : Int32} {x2 : Int32} {x3 : Int32} {s0 : Int32} {σ : Mm} {r : Mm} (h : F_X5_tellRule_127 rc60 x1 x2 x3 s0 σ = some r) : Z m_X5_tellRule S (Qv r) 127 [(0, .ref (sL S 0 0 12)), (1, .int (x1)), (2, .int (x2)), (3, .int (x3))] [.int (s0)] σ := by
  unfold F_X5_tellRule_127 at h
  refine z_if_eq (tgt := 159) dX5_tellRule_127 (by decide) (fun q => ?_) (fun q => ?_)
  · have h := (if_pos q).symm.trans h
    refine Z.lv [0, 1, 2] rfl ?_
    exact zb_X5_tellRule_159 h
  · have h := (if_neg q).symm.trans h
    refine z_iload_n dX5_tellRule_130 rfl 2 rfl ?_
    refine z_if_eq (tgt := 147) dX5_tellRule_131 (by decide) (fun q => ?_) (fun q => ?_)
    · have h := (if_pos q).symm.trans h
      refine Z.lv [0, 1, 3] rfl ?_
      exact zb_X5_tellRule_147 hrc60 h
    · have h := (if_neg q).symm.trans h
      obtain ⟨g8, h⟩ := gd h
      refine z_aload_n dX5_tellRule_134 rfl 0 rfl ?_
      have hp := g8
      refine gf_5_38 rfl dX5_tellRule_135 ?_
      refine gf_5_152 (lv1 (okP_2 hp) rfl) rfl dX5_tellRule_138 ?_
      refine z_bipush (v := 25) dX5_tellRule_141 (by decide) ?_
      refine z_iconst (v := 0) dX5_tellRule_143 (by decide) ?_
      obtain ⟨τ, hc, h⟩ := bnv_e h
      refine z_callV (M' := m_X0_put) (t := 1) (i := (mP σ 2)) (k := 10) (As := [.int (25), .int (0)]) (rest := []) kl_5_173 oy_X0_put ⟨Nat.le_of_ble_eq_true rfl, Nat.le_of_ble_eq_true rfl⟩ (lv1 (okP_2 hp) rfl) rfl rfl rfl (Nat.le_of_ble_eq_true rfl) rfl dX5_tellRule_144 (c_X0_put (okP_2 hp) hc) (fun v2 τ2 hq => ?_)
      obtain ⟨rfl, rfl⟩ := hq
      change Z _ _ _ _ _ [] _
      refine Z.lv [0, 1, 3] rfl ?_
      exact zb_X5_tellRule_147 hrc60 h
def F_X5_tellRule_116 (rc60 : Int32 → Int32 → Int32 → Mm → Option (Mm)) (x1 : Int32) (x2 : Int32) (x3 : Int32) (s0 : Int32) (σ : Mm) : Option (Mm) := (if s0 = 25 then (bnd (F_X5_take 25 σ) (fun v τ => (F_X5_tellRule_127 rc60 x1 x2 x3 v τ))) else (F_X5_tellRule_159 x1 x2 σ))
set_option maxRecDepth 20000 in
theorem zb_X5_tellRule_116 {S : Shp} {rc60 : Int32 → Int32 → Int32 → Mm → Option (Mm)} (hrc60 : ∀ {x1 : Int32} {x2 : Int32} {x3 : Int32} {σ : Mm} {r : Mm}, rc60 x1 x2 x3 σ = some r → Z m_X5_tellRule S (Qv r) 60 [(0, .ref (sL S 0 0 12)), (1, .int (x1)), (2, .int (x2)), (3, .int (x3))] [] σ) {x1 : Int32} {x2 : Int32} {x3 : Int32} {s0 : Int32} {σ : Mm} {r : Mm} (h : F_X5_tellRule_116 rc60 x1 x2 x3 s0 σ = some r) : Z m_X5_tellRule S (Qv r) 116 [(0, .ref (sL S 0 0 12)), (1, .int (x1)), (2, .int (x2)), (3, .int (x3))] [.int (s0)] σ := by
  unfold F_X5_tellRule_116 at h
  refine z_bipush (v := 25) dX5_tellRule_116 (by decide) ?_
  refine z_icmp_ne (tgt := 159) dX5_tellRule_118 (by decide) (fun q => ?_) (fun q => ?_)
  · have h := (if_neg q).symm.trans h
    refine Z.lv [0, 1, 2] rfl ?_
    exact zb_X5_tellRule_159 h
  · have h := (if_pos q).symm.trans h
    refine z_aload_n dX5_tellRule_121 rfl 0 rfl ?_
    refine z_bipush (v := 25) dX5_tellRule_122 (by decide) ?_
    obtain ⟨v, τ, hc, h⟩ := bnd_e h
    refine z_callV (M' := m_X5_take) (t := 0) (i := 0) (k := 12) (As := [.int (25)]) (rest := []) kl_5_103 oy_X5_take ⟨Nat.le_of_ble_eq_true rfl, Nat.le_of_ble_eq_true rfl⟩ rfl rfl rfl rfl (Nat.le_of_ble_eq_true rfl) rfl dX5_tellRule_124 (c_X5_take hc) (fun v2 τ2 hq => ?_)
    obtain ⟨rfl, rfl⟩ := hq
    change Z _ _ _ _ _ [.int (v)] _
    exact zb_X5_tellRule_127 hrc60 h
def F_X5_tellRule_112 (rc60 : Int32 → Int32 → Int32 → Mm → Option (Mm)) (x1 : Int32) (x2 : Int32) (x3 : Int32) (σ : Mm) : Option (Mm) := (bnd (F_X5_kindHere  σ) (fun v τ => (F_X5_tellRule_116 rc60 x1 x2 x3 v τ)))
set_option maxRecDepth 20000 in
theorem zb_X5_tellRule_112 {S : Shp} {rc60 : Int32 → Int32 → Int32 → Mm → Option (Mm)} (hrc60 : ∀ {x1 : Int32} {x2 : Int32} {x3 : Int32} {σ : Mm} {r : Mm}, rc60 x1 x2 x3 σ = some r → Z m_X5_tellRule S (Qv r) 60 [(0, .ref (sL S 0 0 12)), (1, .int (x1)), (2, .int (x2)), (3, .int (x3))] [] σ) {x1 : Int32} {x2 : Int32} {x3 : Int32} {σ : Mm} {r : Mm} (h : F_X5_tellRule_112 rc60 x1 x2 x3 σ = some r) : Z m_X5_tellRule S (Qv r) 112 [(0, .ref (sL S 0 0 12)), (1, .int (x1)), (2, .int (x2)), (3, .int (x3))] [] σ := by
  unfold F_X5_tellRule_112 at h
  refine z_aload_n dX5_tellRule_112 rfl 0 rfl ?_
  obtain ⟨v, τ, hc, h⟩ := bnd_e h
  refine z_callV (M' := m_X5_kindHere) (t := 0) (i := 0) (k := 12) (As := []) (rest := []) kl_5_42 oy_X5_kindHere ⟨Nat.le_of_ble_eq_true rfl, Nat.le_of_ble_eq_true rfl⟩ rfl rfl rfl rfl (Nat.le_of_ble_eq_true rfl) rfl dX5_tellRule_113 (c_X5_kindHere hc) (fun v2 τ2 hq => ?_)
  obtain ⟨rfl, rfl⟩ := hq
  change Z _ _ _ _ _ [.int (v)] _
  exact zb_X5_tellRule_116 hrc60 h
def F_X5_tellRule_109 (rc60 : Int32 → Int32 → Int32 → Mm → Option (Mm)) (x1 : Int32) (x2 : Int32) (x3 : Int32) (σ : Mm) : Option (Mm) := (F_X5_tellRule_153 rc60 x1 x2 x3 σ)
set_option maxRecDepth 20000 in
theorem zb_X5_tellRule_109 {S : Shp} {rc60 : Int32 → Int32 → Int32 → Mm → Option (Mm)} (hrc60 : ∀ {x1 : Int32} {x2 : Int32} {x3 : Int32} {σ : Mm} {r : Mm}, rc60 x1 x2 x3 σ = some r → Z m_X5_tellRule S (Qv r) 60 [(0, .ref (sL S 0 0 12)), (1, .int (x1)), (2, .int (x2)), (3, .int (x3))] [] σ) {x1 : Int32} {x2 : Int32} {x3 : Int32} {σ : Mm} {r : Mm} (h : F_X5_tellRule_109 rc60 x1 x2 x3 σ = some r) : Z m_X5_tellRule S (Qv r) 109 [(0, .ref (sL S 0 0 12)), (1, .int (x1)), (2, .int (x2)), (3, .int (x3))] [] σ := by
  unfold F_X5_tellRule_109 at h
  refine z_goto (tgt := 153) dX5_tellRule_109 (by decide) ?_
  exact zb_X5_tellRule_153 hrc60 h
def F_X5_tellRule_96 (rc60 : Int32 → Int32 → Int32 → Mm → Option (Mm)) (x1 : Int32) (x2 : Int32) (x3 : Int32) (σ : Mm) : Option (Mm) := (if okP σ = true then (bnv (F_X0_put (mP σ 2) 26 0 σ) (fun τ => (F_X5_tellRule_109 rc60 x1 x2 x3 τ))) else none)
set_option maxRecDepth 20000 in
theorem zb_X5_tellRule_96 {S : Shp} {rc60 : Int32 → Int32 → Int32 → Mm → Option (Mm)} (hrc60 : ∀ {x1 : Int32} {x2 : Int32} {x3 : Int32} {σ : Mm} {r : Mm}, rc60 x1 x2 x3 σ = some r → Z m_X5_tellRule S (Qv r) 60 [(0, .ref (sL S 0 0 12)), (1, .int (x1)), (2, .int (x2)), (3, .int (x3))] [] σ) {x1 : Int32} {x2 : Int32} {x3 : Int32} {σ : Mm} {r : Mm} (h : F_X5_tellRule_96 rc60 x1 x2 x3 σ = some r) : Z m_X5_tellRule S (Qv r) 96 [(0, .ref (sL S 0 0 12)), (1, .int (x1)), (2, .int (x2)), (3, .int (x3))] [] σ := by
  unfold F_X5_tellRule_96 at h
  obtain ⟨g6, h⟩ := gd h
  refine z_aload_n dX5_tellRule_96 rfl 0 rfl ?_
  have hp := g6
  refine gf_5_38 rfl dX5_tellRule_97 ?_
  refine gf_5_152 (lv1 (okP_2 hp) rfl) rfl dX5_tellRule_100 ?_
  refine z_bipush (v := 26) dX5_tellRule_103 (by decide) ?_
  refine z_iconst (v := 0) dX5_tellRule_105 (by decide) ?_
  obtain ⟨τ, hc, h⟩ := bnv_e h
  refine z_callV (M' := m_X0_put) (t := 1) (i := (mP σ 2)) (k := 10) (As := [.int (26), .int (0)]) (rest := []) kl_5_173 oy_X0_put ⟨Nat.le_of_ble_eq_true rfl, Nat.le_of_ble_eq_true rfl⟩ (lv1 (okP_2 hp) rfl) rfl rfl rfl (Nat.le_of_ble_eq_true rfl) rfl dX5_tellRule_106 (c_X0_put (okP_2 hp) hc) (fun v2 τ2 hq => ?_)
  obtain ⟨rfl, rfl⟩ := hq
  change Z _ _ _ _ _ [] _
  exact zb_X5_tellRule_109 hrc60 h
def F_X5_tellRule_89 (rc60 : Int32 → Int32 → Int32 → Mm → Option (Mm)) (x1 : Int32) (x2 : Int32) (x3 : Int32) (s0 : Int32) (σ : Mm) : Option (Mm) := (if s0 = 0 then (F_X5_tellRule_112 rc60 x1 x2 x3 σ) else (bnv (F_X5_literal  σ) (fun τ => (F_X5_tellRule_96 rc60 x1 x2 x3 τ))))
set_option maxRecDepth 20000 in
theorem zb_X5_tellRule_89 {S : Shp} {rc60 : Int32 → Int32 → Int32 → Mm → Option (Mm)} (hrc60 : ∀ {x1 : Int32} {x2 : Int32} {x3 : Int32} {σ : Mm} {r : Mm}, rc60 x1 x2 x3 σ = some r → Z m_X5_tellRule S (Qv r) 60 [(0, .ref (sL S 0 0 12)), (1, .int (x1)), (2, .int (x2)), (3, .int (x3))] [] σ) {x1 : Int32} {x2 : Int32} {x3 : Int32} {s0 : Int32} {σ : Mm} {r : Mm} (h : F_X5_tellRule_89 rc60 x1 x2 x3 s0 σ = some r) : Z m_X5_tellRule S (Qv r) 89 [(0, .ref (sL S 0 0 12)), (1, .int (x1)), (2, .int (x2)), (3, .int (x3))] [.int (s0)] σ := by
  unfold F_X5_tellRule_89 at h
  refine z_if_eq (tgt := 112) dX5_tellRule_89 (by decide) (fun q => ?_) (fun q => ?_)
  · have h := (if_pos q).symm.trans h
    exact zb_X5_tellRule_112 hrc60 h
  · have h := (if_neg q).symm.trans h
    refine z_aload_n dX5_tellRule_92 rfl 0 rfl ?_
    obtain ⟨τ, hc, h⟩ := bnv_e h
    refine z_callV (M' := m_X5_literal) (t := 0) (i := 0) (k := 12) (As := []) (rest := []) kl_5_170 oy_X5_literal ⟨Nat.le_of_ble_eq_true rfl, Nat.le_of_ble_eq_true rfl⟩ rfl rfl rfl rfl (Nat.le_of_ble_eq_true rfl) rfl dX5_tellRule_93 (c_X5_literal hc) (fun v2 τ2 hq => ?_)
    obtain ⟨rfl, rfl⟩ := hq
    change Z _ _ _ _ _ [] _
    exact zb_X5_tellRule_96 hrc60 h
def F_X5_tellRule_78 (rc60 : Int32 → Int32 → Int32 → Mm → Option (Mm)) (x1 : Int32) (x2 : Int32) (x3 : Int32) (s0 : Int32) (σ : Mm) : Option (Mm) := (if s0 = 26 then (bnd (F_X5_take 26 σ) (fun v τ => (F_X5_tellRule_89 rc60 x1 x2 x3 v τ))) else (F_X5_tellRule_112 rc60 x1 x2 x3 σ))
set_option maxRecDepth 20000 in
theorem zb_X5_tellRule_78 {S : Shp} {rc60 : Int32 → Int32 → Int32 → Mm → Option (Mm)} (hrc60 : ∀ {x1 : Int32} {x2 : Int32} {x3 : Int32} {σ : Mm} {r : Mm}, rc60 x1 x2 x3 σ = some r → Z m_X5_tellRule S (Qv r) 60 [(0, .ref (sL S 0 0 12)), (1, .int (x1)), (2, .int (x2)), (3, .int (x3))] [] σ) {x1 : Int32} {x2 : Int32} {x3 : Int32} {s0 : Int32} {σ : Mm} {r : Mm} (h : F_X5_tellRule_78 rc60 x1 x2 x3 s0 σ = some r) : Z m_X5_tellRule S (Qv r) 78 [(0, .ref (sL S 0 0 12)), (1, .int (x1)), (2, .int (x2)), (3, .int (x3))] [.int (s0)] σ := by
  unfold F_X5_tellRule_78 at h
  refine z_bipush (v := 26) dX5_tellRule_78 (by decide) ?_
  refine z_icmp_ne (tgt := 112) dX5_tellRule_80 (by decide) (fun q => ?_) (fun q => ?_)
  · have h := (if_neg q).symm.trans h
    exact zb_X5_tellRule_112 hrc60 h
  · have h := (if_pos q).symm.trans h
    refine z_aload_n dX5_tellRule_83 rfl 0 rfl ?_
    refine z_bipush (v := 26) dX5_tellRule_84 (by decide) ?_
    obtain ⟨v, τ, hc, h⟩ := bnd_e h
    refine z_callV (M' := m_X5_take) (t := 0) (i := 0) (k := 12) (As := [.int (26)]) (rest := []) kl_5_103 oy_X5_take ⟨Nat.le_of_ble_eq_true rfl, Nat.le_of_ble_eq_true rfl⟩ rfl rfl rfl rfl (Nat.le_of_ble_eq_true rfl) rfl dX5_tellRule_86 (c_X5_take hc) (fun v2 τ2 hq => ?_)
    obtain ⟨rfl, rfl⟩ := hq
    change Z _ _ _ _ _ [.int (v)] _
    exact zb_X5_tellRule_89 hrc60 h
def B_X5_tellRule_60 (rc60 : Int32 → Int32 → Int32 → Mm → Option (Mm)) (x1 : Int32) (x2 : Int32) (x3 : Int32) (σ : Mm) : Option (Mm) := (if 400 ≤ x3 then (F_X5_tellRule_159 x1 x2 σ) else (if (mA σ 0 0 12 0) = 0 then (bnd (F_X5_kindHere  σ) (fun v τ => (F_X5_tellRule_78 rc60 x1 x2 x3 v τ))) else (F_X5_tellRule_159 x1 x2 σ)))
set_option maxRecDepth 20000 in
theorem zB_X5_tellRule_60 {S : Shp} {rc60 : Int32 → Int32 → Int32 → Mm → Option (Mm)} (hrc60 : ∀ {x1 : Int32} {x2 : Int32} {x3 : Int32} {σ : Mm} {r : Mm}, rc60 x1 x2 x3 σ = some r → Z m_X5_tellRule S (Qv r) 60 [(0, .ref (sL S 0 0 12)), (1, .int (x1)), (2, .int (x2)), (3, .int (x3))] [] σ) {x1 : Int32} {x2 : Int32} {x3 : Int32} {σ : Mm} {r : Mm} (h : B_X5_tellRule_60 rc60 x1 x2 x3 σ = some r) : Z m_X5_tellRule S (Qv r) 60 [(0, .ref (sL S 0 0 12)), (1, .int (x1)), (2, .int (x2)), (3, .int (x3))] [] σ := by
  unfold B_X5_tellRule_60 at h
  refine z_iload_n dX5_tellRule_60 rfl 3 rfl ?_
  refine z_sipush (v := 400) dX5_tellRule_61 (by decide) ?_
  refine z_icmp_ge (tgt := 159) dX5_tellRule_64 (by decide) (fun q => ?_) (fun q => ?_)
  · have h := (if_pos q).symm.trans h
    refine Z.lv [0, 1, 2] rfl ?_
    exact zb_X5_tellRule_159 h
  · have h := (if_neg q).symm.trans h
    refine z_aload_n dX5_tellRule_67 rfl 0 rfl ?_
    refine gf_5_9 rfl dX5_tellRule_68 ?_
    refine z_if_ne (tgt := 159) dX5_tellRule_71 (by decide) (fun q => ?_) (fun q => ?_)
    · have h := (if_neg q).symm.trans h
      refine Z.lv [0, 1, 2] rfl ?_
      exact zb_X5_tellRule_159 h
    · have h := (if_pos q).symm.trans h
      refine z_aload_n dX5_tellRule_74 rfl 0 rfl ?_
      obtain ⟨v, τ, hc, h⟩ := bnd_e h
      refine z_callV (M' := m_X5_kindHere) (t := 0) (i := 0) (k := 12) (As := []) (rest := []) kl_5_42 oy_X5_kindHere ⟨Nat.le_of_ble_eq_true rfl, Nat.le_of_ble_eq_true rfl⟩ rfl rfl rfl rfl (Nat.le_of_ble_eq_true rfl) rfl dX5_tellRule_75 (c_X5_kindHere hc) (fun v2 τ2 hq => ?_)
      obtain ⟨rfl, rfl⟩ := hq
      change Z _ _ _ _ _ [.int (v)] _
      exact zb_X5_tellRule_78 hrc60 h
def F_X5_tellRule_60 : Nat → Int32 → Int32 → Int32 → Mm → Option (Mm)
  | 0 => fun _ _ _ _ => none
  | n + 1 => B_X5_tellRule_60 (F_X5_tellRule_60 n)
theorem zl_X5_tellRule_60 {S : Shp} (nn : Nat) {x1 : Int32} {x2 : Int32} {x3 : Int32} {σ : Mm} {r : Mm} (h : F_X5_tellRule_60 nn x1 x2 x3 σ = some r) : Z m_X5_tellRule S (Qv r) 60 [(0, .ref (sL S 0 0 12)), (1, .int (x1)), (2, .int (x2)), (3, .int (x3))] [] σ := by
  induction nn generalizing x1 x2 x3 σ r with
  | zero => cases h
  | succ nn ih => exact zB_X5_tellRule_60 (fun h => ih h) h
def F_X5_tellRule_56 (x1 : Int32) (σ : Mm) : Option (Mm) := (F_X5_tellRule_60 FU x1 0 0 σ)
set_option maxRecDepth 20000 in
theorem zb_X5_tellRule_56 {S : Shp} {x1 : Int32} {σ : Mm} {r : Mm} (h : F_X5_tellRule_56 x1 σ = some r) : Z m_X5_tellRule S (Qv r) 56 [(0, .ref (sL S 0 0 12)), (1, .int (x1))] [] σ := by
  unfold F_X5_tellRule_56 at h
  refine z_iconst (v := 0) dX5_tellRule_56 (by decide) ?_
  refine z_istore_n dX5_tellRule_57 rfl (by decide) [1, 2, 0] rfl ?_
  refine z_iconst (v := 0) dX5_tellRule_58 (by decide) ?_
  refine z_istore_n dX5_tellRule_59 rfl (by decide) [1, 2, 3, 0] rfl ?_
  exact zl_X5_tellRule_60 FU h
def F_X5_tellRule_52 (x1 : Int32) (σ : Mm) : Option (Mm) := (bnv (F_X5_literal  σ) (fun τ => (F_X5_tellRule_56 x1 τ)))
set_option maxRecDepth 20000 in
theorem zb_X5_tellRule_52 {S : Shp} {x1 : Int32} {σ : Mm} {r : Mm} (h : F_X5_tellRule_52 x1 σ = some r) : Z m_X5_tellRule S (Qv r) 52 [(0, .ref (sL S 0 0 12)), (1, .int (x1))] [] σ := by
  unfold F_X5_tellRule_52 at h
  refine z_aload_n dX5_tellRule_52 rfl 0 rfl ?_
  obtain ⟨τ, hc, h⟩ := bnv_e h
  refine z_callV (M' := m_X5_literal) (t := 0) (i := 0) (k := 12) (As := []) (rest := []) kl_5_170 oy_X5_literal ⟨Nat.le_of_ble_eq_true rfl, Nat.le_of_ble_eq_true rfl⟩ rfl rfl rfl rfl (Nat.le_of_ble_eq_true rfl) rfl dX5_tellRule_53 (c_X5_literal hc) (fun v2 τ2 hq => ?_)
  obtain ⟨rfl, rfl⟩ := hq
  change Z _ _ _ _ _ [] _
  exact zb_X5_tellRule_56 h
def F_X5_tellRule_40 (x1 : Int32) (s0 : Int32) (σ : Mm) : Option (Mm) := (if okP σ = true then (bnv (F_X0_open (mP σ 2) x1 σ) (fun τ => (F_X5_tellRule_52 x1 τ))) else none)
set_option maxRecDepth 20000 in
theorem zb_X5_tellRule_40 {S : Shp} {x1 : Int32} {s0 : Int32} {σ : Mm} {r : Mm} (h : F_X5_tellRule_40 x1 s0 σ = some r) : Z m_X5_tellRule S (Qv r) 40 [(0, .ref (sL S 0 0 12)), (1, .int (x1))] [.int (s0)] σ := by
  unfold F_X5_tellRule_40 at h
  obtain ⟨g3, h⟩ := gd h
  refine z_pop dX5_tellRule_40 rfl ?_
  refine z_aload_n dX5_tellRule_41 rfl 0 rfl ?_
  have hp := g3
  refine gf_5_38 rfl dX5_tellRule_42 ?_
  refine gf_5_152 (lv1 (okP_2 hp) rfl) rfl dX5_tellRule_45 ?_
  refine z_iload_n dX5_tellRule_48 rfl 1 rfl ?_
  obtain ⟨τ, hc, h⟩ := bnv_e h
  refine z_callV (M' := m_X0_open) (t := 1) (i := (mP σ 2)) (k := 10) (As := [.int (x1)]) (rest := []) kl_5_156 oy_X0_open ⟨Nat.le_of_ble_eq_true rfl, Nat.le_of_ble_eq_true rfl⟩ (lv1 (okP_2 hp) rfl) rfl rfl rfl (Nat.le_of_ble_eq_true rfl) rfl dX5_tellRule_49 (c_X0_open (okP_2 hp) hc) (fun v2 τ2 hq => ?_)
  obtain ⟨rfl, rfl⟩ := hq
  change Z _ _ _ _ _ [] _
  exact zb_X5_tellRule_52 h
def F_X5_tellRule_33 (x1 : Int32) (s0 : Int32) (σ : Mm) : Option (Mm) := (bnd (F_X5_take 24 σ) (fun v τ => (F_X5_tellRule_40 x1 v τ)))
set_option maxRecDepth 20000 in
theorem zb_X5_tellRule_33 {S : Shp} {x1 : Int32} {s0 : Int32} {σ : Mm} {r : Mm} (h : F_X5_tellRule_33 x1 s0 σ = some r) : Z m_X5_tellRule S (Qv r) 33 [(0, .ref (sL S 0 0 12)), (1, .int (x1))] [.int (s0)] σ := by
  unfold F_X5_tellRule_33 at h
  refine z_pop dX5_tellRule_33 rfl ?_
  refine z_aload_n dX5_tellRule_34 rfl 0 rfl ?_
  refine z_bipush (v := 24) dX5_tellRule_35 (by decide) ?_
  obtain ⟨v, τ, hc, h⟩ := bnd_e h
  refine z_callV (M' := m_X5_take) (t := 0) (i := 0) (k := 12) (As := [.int (24)]) (rest := []) kl_5_103 oy_X5_take ⟨Nat.le_of_ble_eq_true rfl, Nat.le_of_ble_eq_true rfl⟩ rfl rfl rfl rfl (Nat.le_of_ble_eq_true rfl) rfl dX5_tellRule_37 (c_X5_take hc) (fun v2 τ2 hq => ?_)
  obtain ⟨rfl, rfl⟩ := hq
  change Z _ _ _ _ _ [.int (v)] _
  exact zb_X5_tellRule_40 h
def F_X5_tellRule_13 (s0 : Int32) (σ : Mm) : Option (Mm) := (if s0 = 0 then some (σ) else (if okP σ = true then (bnd (F_X5_take 23 σ) (fun v τ => (F_X5_tellRule_33 (5 + (mA σ 1 (mP σ 2) 0 14)) v τ))) else none))
set_option maxRecDepth 20000 in
theorem zb_X5_tellRule_13 {S : Shp} {s0 : Int32} {σ : Mm} {r : Mm} (h : F_X5_tellRule_13 s0 σ = some r) : Z m_X5_tellRule S (Qv r) 13 [(0, .ref (sL S 0 0 12))] [.int (s0)] σ := by
  unfold F_X5_tellRule_13 at h
  refine z_if_ne (tgt := 17) dX5_tellRule_13 (by decide) (fun q => ?_) (fun q => ?_)
  · have h := (if_neg q).symm.trans h
    obtain ⟨g2, h⟩ := gd h
    refine z_iconst (v := 5) dX5_tellRule_17 (by decide) ?_
    refine z_aload_n dX5_tellRule_18 rfl 0 rfl ?_
    have hp := g2
    refine gf_5_38 rfl dX5_tellRule_19 ?_
    refine gf_5_167 (lv1 (okP_2 hp) rfl) rfl dX5_tellRule_22 ?_
    refine z_iadd dX5_tellRule_25 ?_
    refine z_istore_n dX5_tellRule_26 rfl (by decide) [1, 0] rfl ?_
    refine z_aload_n dX5_tellRule_27 rfl 0 rfl ?_
    refine z_bipush (v := 23) dX5_tellRule_28 (by decide) ?_
    obtain ⟨v, τ, hc, h⟩ := bnd_e h
    refine z_callV (M' := m_X5_take) (t := 0) (i := 0) (k := 12) (As := [.int (23)]) (rest := []) kl_5_103 oy_X5_take ⟨Nat.le_of_ble_eq_true rfl, Nat.le_of_ble_eq_true rfl⟩ rfl rfl rfl rfl (Nat.le_of_ble_eq_true rfl) rfl dX5_tellRule_30 (c_X5_take hc) (fun v2 τ2 hq => ?_)
    obtain ⟨rfl, rfl⟩ := hq
    change Z _ _ _ _ _ [.int (v)] _
    exact zb_X5_tellRule_33 h
  · have h := (if_pos q).symm.trans h
    cases h
    exact z_return dX5_tellRule_16 rfl ⟨rfl, rfl⟩
def F_X5_tellRule (σ : Mm) : Option (Mm) := (if okP σ = true then (bnd (F_X5_hasRoom (mA σ 1 (mP σ 2) 0 14) 6 σ) (fun v τ => (F_X5_tellRule_13 v τ))) else none)
set_option maxRecDepth 20000 in
theorem zb_X5_tellRule {S : Shp} {σ : Mm} {r : Mm} (h : F_X5_tellRule σ = some r) : Z m_X5_tellRule S (Qv r) 0 [(0, .ref (sL S 0 0 12))] [] σ := by
  unfold F_X5_tellRule at h
  obtain ⟨g1, h⟩ := gd h
  refine z_aload_n dX5_tellRule_0 rfl 0 rfl ?_
  refine z_aload_n dX5_tellRule_1 rfl 0 rfl ?_
  have hp := g1
  refine gf_5_38 rfl dX5_tellRule_2 ?_
  refine gf_5_167 (lv1 (okP_2 hp) rfl) rfl dX5_tellRule_5 ?_
  refine z_bipush (v := 6) dX5_tellRule_8 (by decide) ?_
  obtain ⟨v, τ, hc, h⟩ := bnd_e h
  refine z_callV (M' := m_X5_hasRoom) (t := 0) (i := 0) (k := 12) (As := [.int (mA σ 1 (mP σ 2) 0 14), .int (6)]) (rest := []) kl_5_99 oy_X5_hasRoom ⟨Nat.le_of_ble_eq_true rfl, Nat.le_of_ble_eq_true rfl⟩ rfl rfl rfl rfl (Nat.le_of_ble_eq_true rfl) rfl dX5_tellRule_10 (c_X5_hasRoom hc) (fun v2 τ2 hq => ?_)
  obtain ⟨rfl, rfl⟩ := hq
  change Z _ _ _ _ _ [.int (v)] _
  exact zb_X5_tellRule_13 h
/-- SkyStones$Reader.tellRule()V -/
theorem c_X5_tellRule {S : Shp} {σ : Mm} {r : Mm} (h : F_X5_tellRule σ = some r) : Ct m_X5_tellRule S [.ref (sL S 0 0 12)] σ (Qv r) := Ct.of (by decide) (Nat.le_of_ble_eq_true rfl) (zb_X5_tellRule h)
