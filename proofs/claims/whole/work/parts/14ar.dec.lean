def F_X12_price_62 (rc32 : Int32 → Int32 → Mm → Option (Int32 × Mm)) (x4 : Int32) (s0 : Int32) (s1 : Int32) (σ : Mm) : Option (Int32 × Mm) := (rc32 (s1 + s0) (x4 + 1) σ)
set_option maxRecDepth 20000 in
theorem zb_X12_price_62 {S : Shp} {rc32 : Int32 → Int32 → Mm → Option (Int32 × Mm)} (hrc32 : ∀ {x3 : Int32} {x4 : Int32} {σ : Mm} {r : Int32 × Mm}, rc32 x3 x4 σ = some r → Z m_X12_price S (Qi r) 32 [(0, .ref (sL S 3 0 0)), (3, .int (x3)), (4, .int (x4))] [] σ) {x4 : Int32} {s0 : Int32} {s1 : Int32} {σ : Mm} {r : Int32 × Mm} (h : F_X12_price_62 rc32 x4 s0 s1 σ = some r) : Z m_X12_price S (Qi r) 62 [(0, .ref (sL S 3 0 0)), (4, .int (x4))] [.int (s0), .int (s1)] σ := by
  unfold F_X12_price_62 at h
  refine z_iadd dX12_price_62 ?_
  refine z_istore_n (lv' := [(0, .ref (sL S 3 0 0)), (3, .int (s1 + s0)), (4, .int (x4))]) dX12_price_63 rfl (by decide) [1, 0, 2] rfl ?_
  refine z_iinc (j := 2) (v := x4 + 1) (lv' := [(0, .ref (sL S 3 0 0)), (3, .int (s1 + s0)), (4, .int (x4 + 1))]) dX12_price_64 rfl rfl (by decide) [1, 2, 0] rfl ?_
  refine z_goto (tgt := 32) dX12_price_67 (by decide) ?_
  exact hrc32 h
def B_X12_price_32 (rc32 : Int32 → Int32 → Mm → Option (Int32 × Mm)) (x3 : Int32) (x4 : Int32) (σ : Mm) : Option (Int32 × Mm) := (if (360 : Int32) ≤ x4 then some (x3, σ) else (if inb x4 360 = true then (if inb 0 360 = true then (if (mA σ 3 0 61 (0 : Int32).toNatClampNeg) < (mA σ 3 0 61 x4.toNatClampNeg) then (F_X12_price_62 rc32 x4 0 x3 σ) else (F_X12_price_62 rc32 x4 1 x3 σ)) else none) else none))
set_option maxRecDepth 20000 in
theorem zB_X12_price_32 {S : Shp} {rc32 : Int32 → Int32 → Mm → Option (Int32 × Mm)} (hrc32 : ∀ {x3 : Int32} {x4 : Int32} {σ : Mm} {r : Int32 × Mm}, rc32 x3 x4 σ = some r → Z m_X12_price S (Qi r) 32 [(0, .ref (sL S 3 0 0)), (3, .int (x3)), (4, .int (x4))] [] σ) {x3 : Int32} {x4 : Int32} {σ : Mm} {r : Int32 × Mm} (h : B_X12_price_32 rc32 x3 x4 σ = some r) : Z m_X12_price S (Qi r) 32 [(0, .ref (sL S 3 0 0)), (3, .int (x3)), (4, .int (x4))] [] σ := by
  unfold B_X12_price_32 at h
  refine z_iload dX12_price_32 2 rfl ?_
  refine z_sipush (v := 360) dX12_price_34 (by decide) ?_
  refine z_icmp_ge (tgt := 70) dX12_price_37 (by decide) (fun q => ?_) (fun q => ?_)
  · have h := (if_pos q).symm.trans h
    refine z_iload_n dX12_price_70 rfl 1 rfl ?_
    cases h
    exact z_ireturn dX12_price_71 rfl rfl ⟨rfl, rfl⟩
  · have h := (if_neg q).symm.trans h
    obtain ⟨g1, h⟩ := gd h
    refine z_iload_n dX12_price_40 rfl 1 rfl ?_
    refine z_aload_n dX12_price_41 rfl 0 rfl ?_
    refine gf_12_196 rfl dX12_price_42 ?_
    refine z_iload dX12_price_45 2 rfl ?_
    obtain ⟨g2, h⟩ := gd h
    refine ia_3_61 (inb_in g1) dX12_price_47 ?_
    refine z_aload_n dX12_price_48 rfl 0 rfl ?_
    refine gf_12_196 rfl dX12_price_49 ?_
    refine z_iconst (v := 0) dX12_price_52 (by decide) ?_
    refine ia_3_61 (inb_in g2) dX12_price_53 ?_
    refine z_icmp_gt (tgt := 61) dX12_price_54 (by decide) (fun q => ?_) (fun q => ?_)
    · have h := (if_pos q).symm.trans h
      refine z_iconst (v := 0) dX12_price_61 (by decide) ?_
      refine Z.lv [0, 2] rfl ?_
      exact zb_X12_price_62 hrc32 h
    · have h := (if_neg q).symm.trans h
      refine z_iconst (v := 1) dX12_price_57 (by decide) ?_
      refine z_goto (tgt := 62) dX12_price_58 (by decide) ?_
      refine Z.lv [0, 2] rfl ?_
      exact zb_X12_price_62 hrc32 h
def F_X12_price_32 : Nat → Int32 → Int32 → Mm → Option (Int32 × Mm)
  | 0 => fun _ _ _ => none
  | n + 1 => B_X12_price_32 (F_X12_price_32 n)
theorem zl_X12_price_32 {S : Shp} : ∀ (nn : Nat) {x3 : Int32} {x4 : Int32} {σ : Mm} {r : Int32 × Mm}, F_X12_price_32 nn x3 x4 σ = some r → Z m_X12_price S (Qi r) 32 [(0, .ref (sL S 3 0 0)), (3, .int (x3)), (4, .int (x4))] [] σ := by
  intro nn
  induction nn with
  | zero => intro x3 x4 σ r h; cases h
  | succ nn ih => intro x3 x4 σ r h; exact zB_X12_price_32 @ih h
def F_X12_price_27 (σ : Mm) : Option (Int32 × Mm) := (F_X12_price_32 FU 0 0 σ)
set_option maxRecDepth 20000 in
theorem zb_X12_price_27 {S : Shp} {σ : Mm} {r : Int32 × Mm} (h : F_X12_price_27 σ = some r) : Z m_X12_price S (Qi r) 27 [(0, .ref (sL S 3 0 0))] [] σ := by
  unfold F_X12_price_27 at h
  refine z_iconst (v := 0) dX12_price_27 (by decide) ?_
  refine z_istore_n (lv' := [(0, .ref (sL S 3 0 0)), (3, .int (0))]) dX12_price_28 rfl (by decide) [1, 0] rfl ?_
  refine z_iconst (v := 0) dX12_price_29 (by decide) ?_
  refine z_istore (lv' := [(0, .ref (sL S 3 0 0)), (3, .int (0)), (4, .int (0))]) dX12_price_30 (by decide) [1, 2, 0] rfl ?_
  exact zl_X12_price_32 FU h
def F_X12_price_23 (σ : Mm) : Option (Int32 × Mm) := (bnv (F_X12_strike  σ) (fun τ => (F_X12_price_27 τ)))
set_option maxRecDepth 20000 in
theorem zb_X12_price_23 {S : Shp} {σ : Mm} {r : Int32 × Mm} (h : F_X12_price_23 σ = some r) : Z m_X12_price S (Qi r) 23 [(0, .ref (sL S 3 0 0))] [] σ := by
  unfold F_X12_price_23 at h
  refine z_aload_n dX12_price_23 rfl 0 rfl ?_
  obtain ⟨τ, hc, h⟩ := bnv_e h
  refine z_callV (M' := m_X12_strike) (t := 3) (i := 0) (k := 0) (As := []) (rest := []) kl_12_506 oy_X12_strike ⟨Nat.le_of_ble_eq_true rfl, Nat.le_of_ble_eq_true rfl⟩ rfl rfl rfl rfl (Nat.le_of_ble_eq_true rfl) rfl dX12_price_24 (c_X12_strike hc) (fun v2 τ2 hq => ?_)
  obtain ⟨rfl, hτ⟩ := hq
  subst τ2
  change Z _ _ _ _ _ [] _
  exact zb_X12_price_27 h
def F_X12_price_12 (x1 : Int32) (x2 : Int32) (s0 : Int32) (σ : Mm) : Option (Int32 × Mm) := (if s0 = 0 then some ((-1), σ) else (bnv (F_X12_layAll x1 x2 σ) (fun τ => (F_X12_price_23 τ))))
set_option maxRecDepth 20000 in
theorem zb_X12_price_12 {S : Shp} {x1 : Int32} {x2 : Int32} {s0 : Int32} {σ : Mm} {r : Int32 × Mm} (h : F_X12_price_12 x1 x2 s0 σ = some r) : Z m_X12_price S (Qi r) 12 [(0, .ref (sL S 3 0 0)), (1, .int (x1)), (2, .int (x2))] [.int (s0)] σ := by
  unfold F_X12_price_12 at h
  refine z_if_ne (tgt := 17) dX12_price_12 (by decide) (fun q => ?_) (fun q => ?_)
  · have h := (if_neg q).symm.trans h
    refine z_aload_n dX12_price_17 rfl 0 rfl ?_
    refine z_iload_n dX12_price_18 rfl 1 rfl ?_
    refine z_iload_n dX12_price_19 rfl 2 rfl ?_
    obtain ⟨τ, hc, h⟩ := bnv_e h
    refine z_callV (M' := m_X12_layAll) (t := 3) (i := 0) (k := 0) (As := [.int (x1), .int (x2)]) (rest := []) kl_12_494 oy_X12_layAll ⟨Nat.le_of_ble_eq_true rfl, Nat.le_of_ble_eq_true rfl⟩ rfl rfl rfl rfl (Nat.le_of_ble_eq_true rfl) rfl dX12_price_20 (c_X12_layAll hc) (fun v2 τ2 hq => ?_)
    obtain ⟨rfl, hτ⟩ := hq
    subst τ2
    change Z _ _ _ _ _ [] _
    refine Z.lv [0] rfl ?_
    exact zb_X12_price_23 h
  · have h := (if_pos q).symm.trans h
    refine z_iconst (v := (-1)) dX12_price_15 (by decide) ?_
    cases h
    exact z_ireturn dX12_price_16 rfl rfl ⟨rfl, rfl⟩
def F_X12_price (x1 : Int32) (x2 : Int32) (σ : Mm) : Option (Int32 × Mm) := (if (f_X12_isYear x1) = 0 then some ((-1), σ) else (bnd (F_X12_isKnown x2 σ) (fun v τ => (F_X12_price_12 x1 x2 v τ))))
set_option maxRecDepth 20000 in
theorem zb_X12_price {S : Shp} {x1 : Int32} {x2 : Int32} {σ : Mm} {r : Int32 × Mm} (h : F_X12_price x1 x2 σ = some r) : Z m_X12_price S (Qi r) 0 [(0, .ref (sL S 3 0 0)), (1, .int (x1)), (2, .int (x2))] [] σ := by
  unfold F_X12_price at h
  refine z_iload_n dX12_price_0 rfl 1 rfl ?_
  refine z_callS (M' := m_X12_isYear) (As := [.int (x1)]) (rest := []) kl_12_472 oy_X12_isYear ⟨Nat.le_of_ble_eq_true rfl, Nat.le_of_ble_eq_true rfl⟩ rfl (Nat.le_of_ble_eq_true rfl) rfl dX12_price_1 (c_X12_isYear rfl) (fun v τ hq => ?_)
  obtain ⟨rfl, hτ⟩ := hq
  subst τ
  change Z _ _ _ _ _ [.int (f_X12_isYear x1)] _
  refine z_if_eq (tgt := 15) dX12_price_4 (by decide) (fun q => ?_) (fun q => ?_)
  · have h := (if_pos q).symm.trans h
    refine z_iconst (v := (-1)) dX12_price_15 (by decide) ?_
    cases h
    exact z_ireturn dX12_price_16 rfl rfl ⟨rfl, rfl⟩
  · have h := (if_neg q).symm.trans h
    refine z_aload_n dX12_price_7 rfl 0 rfl ?_
    refine z_iload_n dX12_price_8 rfl 2 rfl ?_
    obtain ⟨v, τ, hc, h⟩ := bnd_e h
    refine z_callV (M' := m_X12_isKnown) (t := 3) (i := 0) (k := 0) (As := [.int (x2)]) (rest := []) kl_12_457 oy_X12_isKnown ⟨Nat.le_of_ble_eq_true rfl, Nat.le_of_ble_eq_true rfl⟩ rfl rfl rfl rfl (Nat.le_of_ble_eq_true rfl) rfl dX12_price_9 (c_X12_isKnown hc) (fun v2 τ2 hq => ?_)
    obtain ⟨rfl, hτ⟩ := hq
    subst τ2
    change Z _ _ _ _ _ [.int (v)] _
    exact zb_X12_price_12 h
/-- SkyStonesModel.price(II)I -/
theorem c_X12_price {S : Shp} {x1 : Int32} {x2 : Int32} {σ : Mm} {r : Int32 × Mm} (h : F_X12_price x1 x2 σ = some r) : Ct m_X12_price S [.ref (sL S 3 0 0), .int (x1), .int (x2)] σ (Qi r) := Ct.of (by decide +kernel) (Nat.le_of_ble_eq_true rfl) (zb_X12_price h)
def F_X12_signAt_120 (x2 : Int32) (σ : Mm) : Option (Int32 × Mm) := some (x2, σ)
set_option maxRecDepth 20000 in
theorem zb_X12_signAt_120 {S : Shp} {x2 : Int32} {σ : Mm} {r : Int32 × Mm} (h : F_X12_signAt_120 x2 σ = some r) : Z m_X12_signAt S (Qi r) 120 [(2, .int (x2))] [] σ := by
  unfold F_X12_signAt_120 at h
  refine z_iload_n dX12_signAt_120 rfl 0 rfl ?_
  refine z_goto (tgt := 125) dX12_signAt_121 (by decide) ?_
  cases h
  exact z_ireturn dX12_signAt_125 rfl rfl ⟨rfl, rfl⟩
def F_X12_signAt_23 (x2 : Int32) (s0 : Int32) (σ : Mm) : Option (Int32 × Mm) := (if x2 = (61 : Int32) then (if s0 = 0 then some (x2, σ) else some (300, σ)) else (if x2 = (33 : Int32) then (if s0 = 0 then some (0, σ) else some (301, σ)) else (if x2 = (60 : Int32) then (if s0 = 0 then some (x2, σ) else some (302, σ)) else (if x2 = (59 : Int32) then (F_X12_signAt_120 x2 σ) else (if x2 = (43 : Int32) then (F_X12_signAt_120 x2 σ) else (if x2 = (45 : Int32) then (F_X12_signAt_120 x2 σ) else (if x2 = (42 : Int32) then (F_X12_signAt_120 x2 σ) else (if x2 = (47 : Int32) then (F_X12_signAt_120 x2 σ) else (if x2 = (40 : Int32) then (F_X12_signAt_120 x2 σ) else (if x2 = (41 : Int32) then (F_X12_signAt_120 x2 σ) else some (0, σ)))))))))))
set_option maxRecDepth 20000 in
theorem zb_X12_signAt_23 {S : Shp} {x2 : Int32} {s0 : Int32} {σ : Mm} {r : Int32 × Mm} (h : F_X12_signAt_23 x2 s0 σ = some r) : Z m_X12_signAt S (Qi r) 23 [(2, .int (x2))] [.int (s0)] σ := by
  unfold F_X12_signAt_23 at h
  refine z_istore_n (lv' := [(2, .int (x2)), (3, .int (s0))]) dX12_signAt_23 rfl (by decide) [1, 0] rfl ?_
  refine z_iload_n dX12_signAt_24 rfl 0 rfl ?_
  refine z_bipush (v := 61) dX12_signAt_25 (by decide) ?_
  refine z_icmp_ne (tgt := 42) dX12_signAt_27 (by decide) (fun q => ?_) (fun q => ?_)
  · have h := (if_neg q).symm.trans h
    refine z_iload_n dX12_signAt_42 rfl 0 rfl ?_
    refine z_bipush (v := 33) dX12_signAt_43 (by decide) ?_
    refine z_icmp_ne (tgt := 60) dX12_signAt_45 (by decide) (fun q => ?_) (fun q => ?_)
    · have h := (if_neg q).symm.trans h
      refine z_iload_n dX12_signAt_60 rfl 0 rfl ?_
      refine z_bipush (v := 60) dX12_signAt_61 (by decide) ?_
      refine z_icmp_ne (tgt := 78) dX12_signAt_63 (by decide) (fun q => ?_) (fun q => ?_)
      · have h := (if_neg q).symm.trans h
        refine z_iload_n dX12_signAt_78 rfl 0 rfl ?_
        refine z_bipush (v := 59) dX12_signAt_79 (by decide) ?_
        refine z_icmp_eq (tgt := 120) dX12_signAt_81 (by decide) (fun q => ?_) (fun q => ?_)
        · have h := (if_pos q).symm.trans h
          refine Z.lv [0] rfl ?_
          exact zb_X12_signAt_120 h
        · have h := (if_neg q).symm.trans h
          refine z_iload_n dX12_signAt_84 rfl 0 rfl ?_
          refine z_bipush (v := 43) dX12_signAt_85 (by decide) ?_
          refine z_icmp_eq (tgt := 120) dX12_signAt_87 (by decide) (fun q => ?_) (fun q => ?_)
          · have h := (if_pos q).symm.trans h
            refine Z.lv [0] rfl ?_
            exact zb_X12_signAt_120 h
          · have h := (if_neg q).symm.trans h
            refine z_iload_n dX12_signAt_90 rfl 0 rfl ?_
            refine z_bipush (v := 45) dX12_signAt_91 (by decide) ?_
            refine z_icmp_eq (tgt := 120) dX12_signAt_93 (by decide) (fun q => ?_) (fun q => ?_)
            · have h := (if_pos q).symm.trans h
              refine Z.lv [0] rfl ?_
              exact zb_X12_signAt_120 h
            · have h := (if_neg q).symm.trans h
              refine z_iload_n dX12_signAt_96 rfl 0 rfl ?_
              refine z_bipush (v := 42) dX12_signAt_97 (by decide) ?_
              refine z_icmp_eq (tgt := 120) dX12_signAt_99 (by decide) (fun q => ?_) (fun q => ?_)
              · have h := (if_pos q).symm.trans h
                refine Z.lv [0] rfl ?_
                exact zb_X12_signAt_120 h
              · have h := (if_neg q).symm.trans h
                refine z_iload_n dX12_signAt_102 rfl 0 rfl ?_
                refine z_bipush (v := 47) dX12_signAt_103 (by decide) ?_
                refine z_icmp_eq (tgt := 120) dX12_signAt_105 (by decide) (fun q => ?_) (fun q => ?_)
                · have h := (if_pos q).symm.trans h
                  refine Z.lv [0] rfl ?_
                  exact zb_X12_signAt_120 h
                · have h := (if_neg q).symm.trans h
                  refine z_iload_n dX12_signAt_108 rfl 0 rfl ?_
                  refine z_bipush (v := 40) dX12_signAt_109 (by decide) ?_
                  refine z_icmp_eq (tgt := 120) dX12_signAt_111 (by decide) (fun q => ?_) (fun q => ?_)
                  · have h := (if_pos q).symm.trans h
                    refine Z.lv [0] rfl ?_
                    exact zb_X12_signAt_120 h
                  · have h := (if_neg q).symm.trans h
                    refine z_iload_n dX12_signAt_114 rfl 0 rfl ?_
                    refine z_bipush (v := 41) dX12_signAt_115 (by decide) ?_
                    refine z_icmp_ne (tgt := 124) dX12_signAt_117 (by decide) (fun q => ?_) (fun q => ?_)
                    · have h := (if_neg q).symm.trans h
                      refine z_iconst (v := 0) dX12_signAt_124 (by decide) ?_
                      cases h
                      exact z_ireturn dX12_signAt_125 rfl rfl ⟨rfl, rfl⟩
                    · have h := (if_pos q).symm.trans h
                      refine Z.lv [0] rfl ?_
                      exact zb_X12_signAt_120 h
      · have h := (if_pos q).symm.trans h
        refine z_iload_n dX12_signAt_66 rfl 1 rfl ?_
        refine z_if_eq (tgt := 76) dX12_signAt_67 (by decide) (fun q => ?_) (fun q => ?_)
        · have h := (if_pos q).symm.trans h
          refine z_iload_n dX12_signAt_76 rfl 0 rfl ?_
          cases h
          exact z_ireturn dX12_signAt_77 rfl rfl ⟨rfl, rfl⟩
        · have h := (if_neg q).symm.trans h
          refine z_sipush (v := 302) dX12_signAt_70 (by decide) ?_
          refine z_goto (tgt := 77) dX12_signAt_73 (by decide) ?_
          cases h
          exact z_ireturn dX12_signAt_77 rfl rfl ⟨rfl, rfl⟩
    · have h := (if_pos q).symm.trans h
      refine z_iload_n dX12_signAt_48 rfl 1 rfl ?_
      refine z_if_eq (tgt := 58) dX12_signAt_49 (by decide) (fun q => ?_) (fun q => ?_)
      · have h := (if_pos q).symm.trans h
        refine z_iconst (v := 0) dX12_signAt_58 (by decide) ?_
        cases h
        exact z_ireturn dX12_signAt_59 rfl rfl ⟨rfl, rfl⟩
      · have h := (if_neg q).symm.trans h
        refine z_sipush (v := 301) dX12_signAt_52 (by decide) ?_
        refine z_goto (tgt := 59) dX12_signAt_55 (by decide) ?_
        cases h
        exact z_ireturn dX12_signAt_59 rfl rfl ⟨rfl, rfl⟩
  · have h := (if_pos q).symm.trans h
    refine z_iload_n dX12_signAt_30 rfl 1 rfl ?_
    refine z_if_eq (tgt := 40) dX12_signAt_31 (by decide) (fun q => ?_) (fun q => ?_)
    · have h := (if_pos q).symm.trans h
      refine z_iload_n dX12_signAt_40 rfl 0 rfl ?_
      cases h
      exact z_ireturn dX12_signAt_41 rfl rfl ⟨rfl, rfl⟩
    · have h := (if_neg q).symm.trans h
      refine z_sipush (v := 300) dX12_signAt_34 (by decide) ?_
      refine z_goto (tgt := 41) dX12_signAt_37 (by decide) ?_
      cases h
      exact z_ireturn dX12_signAt_41 rfl rfl ⟨rfl, rfl⟩
def F_X12_signAt_13 (x2 : Int32) (s0 : Int32) (σ : Mm) : Option (Int32 × Mm) := (if s0 = (61 : Int32) then (F_X12_signAt_23 x2 1 σ) else (F_X12_signAt_23 x2 0 σ))
set_option maxRecDepth 20000 in
theorem zb_X12_signAt_13 {S : Shp} {x2 : Int32} {s0 : Int32} {σ : Mm} {r : Int32 × Mm} (h : F_X12_signAt_13 x2 s0 σ = some r) : Z m_X12_signAt S (Qi r) 13 [(2, .int (x2))] [.int (s0)] σ := by
  unfold F_X12_signAt_13 at h
  refine z_bipush (v := 61) dX12_signAt_13 (by decide) ?_
  refine z_icmp_ne (tgt := 22) dX12_signAt_15 (by decide) (fun q => ?_) (fun q => ?_)
  · have h := (if_neg q).symm.trans h
    refine z_iconst (v := 0) dX12_signAt_22 (by decide) ?_
    exact zb_X12_signAt_23 h
  · have h := (if_pos q).symm.trans h
    refine z_iconst (v := 1) dX12_signAt_18 (by decide) ?_
    refine z_goto (tgt := 23) dX12_signAt_19 (by decide) ?_
    exact zb_X12_signAt_23 h
def F_X12_signAt_5 (x1 : Int32) (s0 : Int32) (σ : Mm) : Option (Int32 × Mm) := (bnd (F_X12_byteAt (x1 + (1 : Int32)) σ) (fun v τ => (F_X12_signAt_13 s0 v τ)))
set_option maxRecDepth 20000 in
theorem zb_X12_signAt_5 {S : Shp} {x1 : Int32} {s0 : Int32} {σ : Mm} {r : Int32 × Mm} (h : F_X12_signAt_5 x1 s0 σ = some r) : Z m_X12_signAt S (Qi r) 5 [(0, .ref (sL S 3 0 0)), (1, .int (x1))] [.int (s0)] σ := by
  unfold F_X12_signAt_5 at h
  refine z_istore_n (lv' := [(0, .ref (sL S 3 0 0)), (1, .int (x1)), (2, .int (s0))]) dX12_signAt_5 rfl (by decide) [1, 2, 0] rfl ?_
  refine z_aload_n dX12_signAt_6 rfl 0 rfl ?_
  refine z_iload_n dX12_signAt_7 rfl 1 rfl ?_
  refine z_iconst (v := 1) dX12_signAt_8 (by decide) ?_
  refine z_iadd dX12_signAt_9 ?_
  obtain ⟨v, τ, hc, h⟩ := bnd_e h
  refine z_callV (M' := m_X12_byteAt) (t := 3) (i := 0) (k := 0) (As := [.int (x1 + (1 : Int32))]) (rest := []) kl_12_228 oy_X12_byteAt ⟨Nat.le_of_ble_eq_true rfl, Nat.le_of_ble_eq_true rfl⟩ rfl rfl rfl rfl (Nat.le_of_ble_eq_true rfl) rfl dX12_signAt_10 (c_X12_byteAt hc) (fun v2 τ2 hq => ?_)
  obtain ⟨rfl, hτ⟩ := hq
  subst τ2
  change Z _ _ _ _ _ [.int (v)] _
  refine Z.lv [2] rfl ?_
  exact zb_X12_signAt_13 h
def F_X12_signAt (x1 : Int32) (σ : Mm) : Option (Int32 × Mm) := (bnd (F_X12_byteAt x1 σ) (fun v τ => (F_X12_signAt_5 x1 v τ)))
set_option maxRecDepth 20000 in
theorem zb_X12_signAt {S : Shp} {x1 : Int32} {σ : Mm} {r : Int32 × Mm} (h : F_X12_signAt x1 σ = some r) : Z m_X12_signAt S (Qi r) 0 [(0, .ref (sL S 3 0 0)), (1, .int (x1))] [] σ := by
  unfold F_X12_signAt at h
  refine z_aload_n dX12_signAt_0 rfl 0 rfl ?_
  refine z_iload_n dX12_signAt_1 rfl 1 rfl ?_
  obtain ⟨v, τ, hc, h⟩ := bnd_e h
  refine z_callV (M' := m_X12_byteAt) (t := 3) (i := 0) (k := 0) (As := [.int (x1)]) (rest := []) kl_12_228 oy_X12_byteAt ⟨Nat.le_of_ble_eq_true rfl, Nat.le_of_ble_eq_true rfl⟩ rfl rfl rfl rfl (Nat.le_of_ble_eq_true rfl) rfl dX12_signAt_2 (c_X12_byteAt hc) (fun v2 τ2 hq => ?_)
  obtain ⟨rfl, hτ⟩ := hq
  subst τ2
  change Z _ _ _ _ _ [.int (v)] _
  exact zb_X12_signAt_5 h
/-- SkyStonesModel.signAt(I)I -/
theorem c_X12_signAt {S : Shp} {x1 : Int32} {σ : Mm} {r : Int32 × Mm} (h : F_X12_signAt x1 σ = some r) : Ct m_X12_signAt S [.ref (sL S 3 0 0), .int (x1)] σ (Qi r) := Ct.of (by decide +kernel) (Nat.le_of_ble_eq_true rfl) (zb_X12_signAt h)
def F_X12_token_30 (σ : Mm) : Option (Mm) := some (setA σ 3 0 0 (upd (mA σ 3 0 0) 2 ((mA σ 3 0 0 2) + (1 : Int32))))
set_option maxRecDepth 20000 in
theorem zb_X12_token_30 {S : Shp} {σ : Mm} {r : Mm} (h : F_X12_token_30 σ = some r) : Z m_X12_token S (Qv r) 30 [(0, .ref (sL S 3 0 0))] [] σ := by
  unfold F_X12_token_30 at h
  refine z_aload_n dX12_token_30 rfl 0 rfl ?_
  refine z_dup dX12_token_31 rfl ?_
  refine gf_12_232 rfl dX12_token_32 ?_
  refine z_iconst (v := 1) dX12_token_35 (by decide) ?_
  refine z_iadd dX12_token_36 ?_
  refine pf_12_232 rfl dX12_token_37 ?_
  cases h
  exact z_return dX12_token_40 rfl ⟨rfl, rfl⟩
def F_X12_token_20 (x3 : Int32) (σ : Mm) : Option (Mm) := (if inb (mA σ 3 0 0 2) 2001 = true then (F_X12_token_30 (setA σ 3 0 4 (upd (mA σ 3 0 4) (mA σ 3 0 0 2).toNatClampNeg x3))) else none)
set_option maxRecDepth 20000 in
theorem zb_X12_token_20 {S : Shp} {x3 : Int32} {σ : Mm} {r : Mm} (h : F_X12_token_20 x3 σ = some r) : Z m_X12_token S (Qv r) 20 [(0, .ref (sL S 3 0 0)), (3, .int (x3))] [] σ := by
  unfold F_X12_token_20 at h
  obtain ⟨g3, h⟩ := gd h
  refine z_aload_n dX12_token_20 rfl 0 rfl ?_
  refine gf_12_19 rfl dX12_token_21 ?_
  refine z_aload_n dX12_token_24 rfl 0 rfl ?_
  refine gf_12_232 rfl dX12_token_25 ?_
  refine z_iload_n dX12_token_28 rfl 1 rfl ?_
  refine is_3_4 (inb_in g3) dX12_token_29 ?_
  refine Z.lv [0] rfl ?_
  exact zb_X12_token_30 h
def F_X12_token_10 (x2 : Int32) (x3 : Int32) (σ : Mm) : Option (Mm) := (if inb (mA σ 3 0 0 2) 2001 = true then (F_X12_token_20 x3 (setA σ 3 0 3 (upd (mA σ 3 0 3) (mA σ 3 0 0 2).toNatClampNeg x2))) else none)
set_option maxRecDepth 20000 in
theorem zb_X12_token_10 {S : Shp} {x2 : Int32} {x3 : Int32} {σ : Mm} {r : Mm} (h : F_X12_token_10 x2 x3 σ = some r) : Z m_X12_token S (Qv r) 10 [(0, .ref (sL S 3 0 0)), (2, .int (x2)), (3, .int (x3))] [] σ := by
  unfold F_X12_token_10 at h
  obtain ⟨g2, h⟩ := gd h
  refine z_aload_n dX12_token_10 rfl 0 rfl ?_
  refine gf_12_16 rfl dX12_token_11 ?_
  refine z_aload_n dX12_token_14 rfl 0 rfl ?_
  refine gf_12_232 rfl dX12_token_15 ?_
  refine z_iload_n dX12_token_18 rfl 1 rfl ?_
  refine is_3_3 (inb_in g2) dX12_token_19 ?_
  refine Z.lv [0, 2] rfl ?_
  exact zb_X12_token_20 h
def F_X12_token (x1 : Int32) (x2 : Int32) (x3 : Int32) (σ : Mm) : Option (Mm) := (if inb (mA σ 3 0 0 2) 2001 = true then (F_X12_token_10 x2 x3 (setA σ 3 0 2 (upd (mA σ 3 0 2) (mA σ 3 0 0 2).toNatClampNeg x1))) else none)
set_option maxRecDepth 20000 in
theorem zb_X12_token {S : Shp} {x1 : Int32} {x2 : Int32} {x3 : Int32} {σ : Mm} {r : Mm} (h : F_X12_token x1 x2 x3 σ = some r) : Z m_X12_token S (Qv r) 0 [(0, .ref (sL S 3 0 0)), (1, .int (x1)), (2, .int (x2)), (3, .int (x3))] [] σ := by
  unfold F_X12_token at h
  obtain ⟨g1, h⟩ := gd h
  refine z_aload_n dX12_token_0 rfl 0 rfl ?_
  refine gf_12_13 rfl dX12_token_1 ?_
  refine z_aload_n dX12_token_4 rfl 0 rfl ?_
  refine gf_12_232 rfl dX12_token_5 ?_
  refine z_iload_n dX12_token_8 rfl 1 rfl ?_
  refine is_3_2 (inb_in g1) dX12_token_9 ?_
  refine Z.lv [0, 2, 3] rfl ?_
  exact zb_X12_token_10 h
/-- SkyStonesModel.token(III)V -/
theorem c_X12_token {S : Shp} {x1 : Int32} {x2 : Int32} {x3 : Int32} {σ : Mm} {r : Mm} (h : F_X12_token x1 x2 x3 σ = some r) : Ct m_X12_token S [.ref (sL S 3 0 0), .int (x1), .int (x2), .int (x3)] σ (Qv r) := Ct.of (by decide +kernel) (Nat.le_of_ble_eq_true rfl) (zb_X12_token h)
def f_X12_wordOf (x0 : Int64) : Int32 := (if (lg_cmp x0 (10502357 : Int64)) = 0 then 0 else (if (lg_cmp x0 (168728 : Int64)) = 0 then 1 else (if (lg_cmp x0 (90090 : Int64)) = 0 then 2 else (if (lg_cmp x0 (164361 : Int64)) = 0 then 3 else (if (lg_cmp x0 (14173 : Int64)) = 0 then 4 else (if (lg_cmp x0 (385682 : Int64)) = 0 then 5 else (if (lg_cmp x0 (279252 : Int64)) = 0 then 6 else (if (lg_cmp x0 (1905275 : Int64)) = 0 then 7 else (if (lg_cmp x0 (249 : Int64)) = 0 then 8 else (if (lg_cmp x0 (10631 : Int64)) = 0 then 10 else (if (lg_cmp x0 (1111 : Int64)) = 0 then 11 else (if (lg_cmp x0 (423 : Int64)) = 0 then 12 else (if (lg_cmp x0 (495765 : Int64)) = 0 then 13 else (if (lg_cmp x0 (117630947 : Int64)) = 0 then 14 else (if (lg_cmp x0 (5146 : Int64)) = 0 then 15 else (if (lg_cmp x0 (4419 : Int64)) = 0 then 16 else (if (lg_cmp x0 (283563658 : Int64)) = 0 then 17 else (if (lg_cmp x0 (7008275 : Int64)) = 0 then 18 else (if (lg_cmp x0 (40187 : Int64)) = 0 then 19 else (if (lg_cmp x0 (11263 : Int64)) = 0 then 20 else (if (lg_cmp x0 (60203876 : Int64)) = 0 then 21 else (-1))))))))))))))))))))))
set_option maxRecDepth 20000 in
theorem zb_X12_wordOf {S : Shp} {x0 : Int64} {σ : Mm} {r : Int32} (h : f_X12_wordOf x0 = r) : Z m_X12_wordOf S (Qi (r, σ)) 0 [(0, .long (x0))] [] σ := by
  unfold f_X12_wordOf at h
  refine z_lload_n dX12_wordOf_0 rfl 0 rfl ?_
  refine z_ldc2 qw_1415 dX12_wordOf_1 ?_
  refine z_lcmp dX12_wordOf_4 ?_
  refine z_if_ne (tgt := 10) dX12_wordOf_5 (by decide) (fun q => ?_) (fun q => ?_)
  · have h := (if_neg q).symm.trans h
    refine z_lload_n dX12_wordOf_10 rfl 0 rfl ?_
    refine z_ldc2 qw_1416 dX12_wordOf_11 ?_
    refine z_lcmp dX12_wordOf_14 ?_
    refine z_if_ne (tgt := 20) dX12_wordOf_15 (by decide) (fun q => ?_) (fun q => ?_)
    · have h := (if_neg q).symm.trans h
      refine z_lload_n dX12_wordOf_20 rfl 0 rfl ?_
      refine z_ldc2 qw_1417 dX12_wordOf_21 ?_
      refine z_lcmp dX12_wordOf_24 ?_
      refine z_if_ne (tgt := 30) dX12_wordOf_25 (by decide) (fun q => ?_) (fun q => ?_)
      · have h := (if_neg q).symm.trans h
        refine z_lload_n dX12_wordOf_30 rfl 0 rfl ?_
        refine z_ldc2 qw_1418 dX12_wordOf_31 ?_
        refine z_lcmp dX12_wordOf_34 ?_
        refine z_if_ne (tgt := 40) dX12_wordOf_35 (by decide) (fun q => ?_) (fun q => ?_)
        · have h := (if_neg q).symm.trans h
          refine z_lload_n dX12_wordOf_40 rfl 0 rfl ?_
          refine z_ldc2 qw_1419 dX12_wordOf_41 ?_
          refine z_lcmp dX12_wordOf_44 ?_
          refine z_if_ne (tgt := 50) dX12_wordOf_45 (by decide) (fun q => ?_) (fun q => ?_)
          · have h := (if_neg q).symm.trans h
            refine z_lload_n dX12_wordOf_50 rfl 0 rfl ?_
            refine z_ldc2 qw_1420 dX12_wordOf_51 ?_
            refine z_lcmp dX12_wordOf_54 ?_
            refine z_if_ne (tgt := 60) dX12_wordOf_55 (by decide) (fun q => ?_) (fun q => ?_)
            · have h := (if_neg q).symm.trans h
              refine z_lload_n dX12_wordOf_60 rfl 0 rfl ?_
              refine z_ldc2 qw_1421 dX12_wordOf_61 ?_
              refine z_lcmp dX12_wordOf_64 ?_
              refine z_if_ne (tgt := 71) dX12_wordOf_65 (by decide) (fun q => ?_) (fun q => ?_)
              · have h := (if_neg q).symm.trans h
                refine z_lload_n dX12_wordOf_71 rfl 0 rfl ?_
                refine z_ldc2 qw_1422 dX12_wordOf_72 ?_
                refine z_lcmp dX12_wordOf_75 ?_
                refine z_if_ne (tgt := 82) dX12_wordOf_76 (by decide) (fun q => ?_) (fun q => ?_)
                · have h := (if_neg q).symm.trans h
                  refine z_lload_n dX12_wordOf_82 rfl 0 rfl ?_
                  refine z_ldc2 qw_1423 dX12_wordOf_83 ?_
                  refine z_lcmp dX12_wordOf_86 ?_
                  refine z_if_ne (tgt := 93) dX12_wordOf_87 (by decide) (fun q => ?_) (fun q => ?_)
                  · have h := (if_neg q).symm.trans h
                    refine z_lload_n dX12_wordOf_93 rfl 0 rfl ?_
                    refine z_ldc2 qw_1424 dX12_wordOf_94 ?_
                    refine z_lcmp dX12_wordOf_97 ?_
                    refine z_if_ne (tgt := 104) dX12_wordOf_98 (by decide) (fun q => ?_) (fun q => ?_)
                    · have h := (if_neg q).symm.trans h
                      refine z_lload_n dX12_wordOf_104 rfl 0 rfl ?_
                      refine z_ldc2 qw_1425 dX12_wordOf_105 ?_
                      refine z_lcmp dX12_wordOf_108 ?_
                      refine z_if_ne (tgt := 115) dX12_wordOf_109 (by decide) (fun q => ?_) (fun q => ?_)
                      · have h := (if_neg q).symm.trans h
                        refine z_lload_n dX12_wordOf_115 rfl 0 rfl ?_
                        refine z_ldc2 qw_1426 dX12_wordOf_116 ?_
                        refine z_lcmp dX12_wordOf_119 ?_
                        refine z_if_ne (tgt := 126) dX12_wordOf_120 (by decide) (fun q => ?_) (fun q => ?_)
                        · have h := (if_neg q).symm.trans h
                          refine z_lload_n dX12_wordOf_126 rfl 0 rfl ?_
                          refine z_ldc2 qw_1427 dX12_wordOf_127 ?_
                          refine z_lcmp dX12_wordOf_130 ?_
                          refine z_if_ne (tgt := 137) dX12_wordOf_131 (by decide) (fun q => ?_) (fun q => ?_)
                          · have h := (if_neg q).symm.trans h
                            refine z_lload_n dX12_wordOf_137 rfl 0 rfl ?_
                            refine z_ldc2 qw_1428 dX12_wordOf_138 ?_
                            refine z_lcmp dX12_wordOf_141 ?_
                            refine z_if_ne (tgt := 148) dX12_wordOf_142 (by decide) (fun q => ?_) (fun q => ?_)
                            · have h := (if_neg q).symm.trans h
                              refine z_lload_n dX12_wordOf_148 rfl 0 rfl ?_
                              refine z_ldc2 qw_1429 dX12_wordOf_149 ?_
                              refine z_lcmp dX12_wordOf_152 ?_
                              refine z_if_ne (tgt := 159) dX12_wordOf_153 (by decide) (fun q => ?_) (fun q => ?_)
                              · have h := (if_neg q).symm.trans h
                                refine z_lload_n dX12_wordOf_159 rfl 0 rfl ?_
                                refine z_ldc2 qw_1430 dX12_wordOf_160 ?_
                                refine z_lcmp dX12_wordOf_163 ?_
                                refine z_if_ne (tgt := 170) dX12_wordOf_164 (by decide) (fun q => ?_) (fun q => ?_)
                                · have h := (if_neg q).symm.trans h
                                  refine z_lload_n dX12_wordOf_170 rfl 0 rfl ?_
                                  refine z_ldc2 qw_1431 dX12_wordOf_171 ?_
                                  refine z_lcmp dX12_wordOf_174 ?_
                                  refine z_if_ne (tgt := 181) dX12_wordOf_175 (by decide) (fun q => ?_) (fun q => ?_)
                                  · have h := (if_neg q).symm.trans h
                                    refine z_lload_n dX12_wordOf_181 rfl 0 rfl ?_
                                    refine z_ldc2 qw_1432 dX12_wordOf_182 ?_
                                    refine z_lcmp dX12_wordOf_185 ?_
                                    refine z_if_ne (tgt := 192) dX12_wordOf_186 (by decide) (fun q => ?_) (fun q => ?_)
                                    · have h := (if_neg q).symm.trans h
                                      refine z_lload_n dX12_wordOf_192 rfl 0 rfl ?_
                                      refine z_ldc2 qw_1433 dX12_wordOf_193 ?_
                                      refine z_lcmp dX12_wordOf_196 ?_
                                      refine z_if_ne (tgt := 203) dX12_wordOf_197 (by decide) (fun q => ?_) (fun q => ?_)
                                      · have h := (if_neg q).symm.trans h
                                        refine z_lload_n dX12_wordOf_203 rfl 0 rfl ?_
                                        refine z_ldc2 qw_1434 dX12_wordOf_204 ?_
                                        refine z_lcmp dX12_wordOf_207 ?_
                                        refine z_if_ne (tgt := 214) dX12_wordOf_208 (by decide) (fun q => ?_) (fun q => ?_)
                                        · have h := (if_neg q).symm.trans h
                                          refine z_lload_n dX12_wordOf_214 rfl 0 rfl ?_
                                          refine z_ldc2 qw_1435 dX12_wordOf_215 ?_
                                          refine z_lcmp dX12_wordOf_218 ?_
                                          refine z_if_ne (tgt := 225) dX12_wordOf_219 (by decide) (fun q => ?_) (fun q => ?_)
                                          · have h := (if_neg q).symm.trans h
                                            refine z_iconst (v := (-1)) dX12_wordOf_225 (by decide) ?_
                                            subst h
                                            exact z_ireturn dX12_wordOf_226 rfl rfl ⟨rfl, rfl⟩
                                          · have h := (if_pos q).symm.trans h
                                            refine z_bipush (v := 21) dX12_wordOf_222 (by decide) ?_
                                            subst h
                                            exact z_ireturn dX12_wordOf_224 rfl rfl ⟨rfl, rfl⟩
                                        · have h := (if_pos q).symm.trans h
                                          refine z_bipush (v := 20) dX12_wordOf_211 (by decide) ?_
                                          subst h
                                          exact z_ireturn dX12_wordOf_213 rfl rfl ⟨rfl, rfl⟩
                                      · have h := (if_pos q).symm.trans h
                                        refine z_bipush (v := 19) dX12_wordOf_200 (by decide) ?_
                                        subst h
                                        exact z_ireturn dX12_wordOf_202 rfl rfl ⟨rfl, rfl⟩
                                    · have h := (if_pos q).symm.trans h
                                      refine z_bipush (v := 18) dX12_wordOf_189 (by decide) ?_
                                      subst h
                                      exact z_ireturn dX12_wordOf_191 rfl rfl ⟨rfl, rfl⟩
                                  · have h := (if_pos q).symm.trans h
                                    refine z_bipush (v := 17) dX12_wordOf_178 (by decide) ?_
                                    subst h
                                    exact z_ireturn dX12_wordOf_180 rfl rfl ⟨rfl, rfl⟩
                                · have h := (if_pos q).symm.trans h
                                  refine z_bipush (v := 16) dX12_wordOf_167 (by decide) ?_
                                  subst h
                                  exact z_ireturn dX12_wordOf_169 rfl rfl ⟨rfl, rfl⟩
                              · have h := (if_pos q).symm.trans h
                                refine z_bipush (v := 15) dX12_wordOf_156 (by decide) ?_
                                subst h
                                exact z_ireturn dX12_wordOf_158 rfl rfl ⟨rfl, rfl⟩
                            · have h := (if_pos q).symm.trans h
                              refine z_bipush (v := 14) dX12_wordOf_145 (by decide) ?_
                              subst h
                              exact z_ireturn dX12_wordOf_147 rfl rfl ⟨rfl, rfl⟩
                          · have h := (if_pos q).symm.trans h
                            refine z_bipush (v := 13) dX12_wordOf_134 (by decide) ?_
                            subst h
                            exact z_ireturn dX12_wordOf_136 rfl rfl ⟨rfl, rfl⟩
                        · have h := (if_pos q).symm.trans h
                          refine z_bipush (v := 12) dX12_wordOf_123 (by decide) ?_
                          subst h
                          exact z_ireturn dX12_wordOf_125 rfl rfl ⟨rfl, rfl⟩
                      · have h := (if_pos q).symm.trans h
                        refine z_bipush (v := 11) dX12_wordOf_112 (by decide) ?_
                        subst h
                        exact z_ireturn dX12_wordOf_114 rfl rfl ⟨rfl, rfl⟩
                    · have h := (if_pos q).symm.trans h
                      refine z_bipush (v := 10) dX12_wordOf_101 (by decide) ?_
                      subst h
                      exact z_ireturn dX12_wordOf_103 rfl rfl ⟨rfl, rfl⟩
                  · have h := (if_pos q).symm.trans h
                    refine z_bipush (v := 8) dX12_wordOf_90 (by decide) ?_
                    subst h
                    exact z_ireturn dX12_wordOf_92 rfl rfl ⟨rfl, rfl⟩
                · have h := (if_pos q).symm.trans h
                  refine z_bipush (v := 7) dX12_wordOf_79 (by decide) ?_
                  subst h
                  exact z_ireturn dX12_wordOf_81 rfl rfl ⟨rfl, rfl⟩
              · have h := (if_pos q).symm.trans h
                refine z_bipush (v := 6) dX12_wordOf_68 (by decide) ?_
                subst h
                exact z_ireturn dX12_wordOf_70 rfl rfl ⟨rfl, rfl⟩
            · have h := (if_pos q).symm.trans h
              refine z_iconst (v := 5) dX12_wordOf_58 (by decide) ?_
              subst h
              exact z_ireturn dX12_wordOf_59 rfl rfl ⟨rfl, rfl⟩
          · have h := (if_pos q).symm.trans h
            refine z_iconst (v := 4) dX12_wordOf_48 (by decide) ?_
            subst h
            exact z_ireturn dX12_wordOf_49 rfl rfl ⟨rfl, rfl⟩
        · have h := (if_pos q).symm.trans h
          refine z_iconst (v := 3) dX12_wordOf_38 (by decide) ?_
          subst h
          exact z_ireturn dX12_wordOf_39 rfl rfl ⟨rfl, rfl⟩
      · have h := (if_pos q).symm.trans h
        refine z_iconst (v := 2) dX12_wordOf_28 (by decide) ?_
        subst h
        exact z_ireturn dX12_wordOf_29 rfl rfl ⟨rfl, rfl⟩
    · have h := (if_pos q).symm.trans h
      refine z_iconst (v := 1) dX12_wordOf_18 (by decide) ?_
      subst h
      exact z_ireturn dX12_wordOf_19 rfl rfl ⟨rfl, rfl⟩
  · have h := (if_pos q).symm.trans h
    refine z_iconst (v := 0) dX12_wordOf_8 (by decide) ?_
    subst h
    exact z_ireturn dX12_wordOf_9 rfl rfl ⟨rfl, rfl⟩
/-- SkyStonesModel.wordOf(J)I -/
theorem c_X12_wordOf {S : Shp} {x0 : Int64} {σ : Mm} {r : Int32} (h : f_X12_wordOf x0 = r) : Ct m_X12_wordOf S [.long (x0)] σ (Qi (r, σ)) := Ct.of (by decide +kernel) (Nat.le_of_ble_eq_true rfl) (zb_X12_wordOf h)
def F_X12_scan_196 (x1 : Int32) (x3 : Int32) (σ : Mm) : Option (Int32 × Mm) := (if x3 < (300 : Int32) then some (x1 + (1 : Int32), σ) else some (x1 + (2 : Int32), σ))
set_option maxRecDepth 20000 in
theorem zb_X12_scan_196 {S : Shp} {x1 : Int32} {x3 : Int32} {σ : Mm} {r : Int32 × Mm} (h : F_X12_scan_196 x1 x3 σ = some r) : Z m_X12_scan S (Qi r) 196 [(1, .int (x1)), (3, .int (x3))] [] σ := by
  unfold F_X12_scan_196 at h
  refine z_iload_n dX12_scan_196 rfl 0 rfl ?_
  refine z_iload_n dX12_scan_197 rfl 1 rfl ?_
  refine z_sipush (v := 300) dX12_scan_198 (by decide) ?_
  refine z_icmp_lt (tgt := 208) dX12_scan_201 (by decide) (fun q => ?_) (fun q => ?_)
  · have h := (if_pos q).symm.trans h
    refine z_iconst (v := 1) dX12_scan_208 (by decide) ?_
    refine z_iadd dX12_scan_209 ?_
    cases h
    exact z_ireturn dX12_scan_210 rfl rfl ⟨rfl, rfl⟩
  · have h := (if_neg q).symm.trans h
    refine z_iconst (v := 2) dX12_scan_204 (by decide) ?_
    refine z_goto (tgt := 209) dX12_scan_205 (by decide) ?_
    refine z_iadd dX12_scan_209 ?_
    cases h
    exact z_ireturn dX12_scan_210 rfl rfl ⟨rfl, rfl⟩
def F_X12_scan_191 (x1 : Int32) (x3 : Int32) (s0 : Int32) (σ : Mm) : Option (Int32 × Mm) := (bnv (F_X12_token s0 x1 x3 σ) (fun τ => (F_X12_scan_196 x1 x3 τ)))
set_option maxRecDepth 20000 in
theorem zb_X12_scan_191 {S : Shp} {x1 : Int32} {x3 : Int32} {s0 : Int32} {σ : Mm} {r : Int32 × Mm} (h : F_X12_scan_191 x1 x3 s0 σ = some r) : Z m_X12_scan S (Qi r) 191 [(1, .int (x1)), (3, .int (x3))] [.int (s0), .ref (sL S 3 0 0)] σ := by
  unfold F_X12_scan_191 at h
  refine z_iload_n dX12_scan_191 rfl 0 rfl ?_
  refine z_iload_n dX12_scan_192 rfl 1 rfl ?_
  obtain ⟨τ, hc, h⟩ := bnv_e h
  refine z_callV (M' := m_X12_token) (t := 3) (i := 0) (k := 0) (As := [.int (s0), .int (x1), .int (x3)]) (rest := []) kl_12_289 oy_X12_token ⟨Nat.le_of_ble_eq_true rfl, Nat.le_of_ble_eq_true rfl⟩ rfl rfl rfl rfl (Nat.le_of_ble_eq_true rfl) rfl dX12_scan_193 (c_X12_token hc) (fun v2 τ2 hq => ?_)
  obtain ⟨rfl, hτ⟩ := hq
  subst τ2
  change Z _ _ _ _ _ [] _
  exact zb_X12_scan_196 h
def F_X12_scan_180 (x1 : Int32) (s0 : Int32) (σ : Mm) : Option (Int32 × Mm) := (if s0 = 0 then (F_X12_scan_191 x1 s0 5 σ) else (F_X12_scan_191 x1 s0 2 σ))
set_option maxRecDepth 20000 in
theorem zb_X12_scan_180 {S : Shp} {x1 : Int32} {s0 : Int32} {σ : Mm} {r : Int32 × Mm} (h : F_X12_scan_180 x1 s0 σ = some r) : Z m_X12_scan S (Qi r) 180 [(0, .ref (sL S 3 0 0)), (1, .int (x1))] [.int (s0)] σ := by
  unfold F_X12_scan_180 at h
  refine z_istore_n (lv' := [(0, .ref (sL S 3 0 0)), (1, .int (x1)), (3, .int (s0))]) dX12_scan_180 rfl (by decide) [1, 2, 0] rfl ?_
  refine z_aload_n dX12_scan_181 rfl 0 rfl ?_
  refine z_iload_n dX12_scan_182 rfl 2 rfl ?_
  refine z_if_ne (tgt := 190) dX12_scan_183 (by decide) (fun q => ?_) (fun q => ?_)
  · have h := (if_neg q).symm.trans h
    refine z_iconst (v := 2) dX12_scan_190 (by decide) ?_
    refine Z.lv [1, 2] rfl ?_
    exact zb_X12_scan_191 h
  · have h := (if_pos q).symm.trans h
    refine z_iconst (v := 5) dX12_scan_186 (by decide) ?_
    refine z_goto (tgt := 191) dX12_scan_187 (by decide) ?_
    refine Z.lv [1, 2] rfl ?_
    exact zb_X12_scan_191 h
def F_X12_scan_173 (x2 : Int32) (σ : Mm) : Option (Int32 × Mm) := some (x2, σ)
set_option maxRecDepth 20000 in
theorem zb_X12_scan_173 {S : Shp} {x2 : Int32} {σ : Mm} {r : Int32 × Mm} (h : F_X12_scan_173 x2 σ = some r) : Z m_X12_scan S (Qi r) 173 [(2, .int (x2))] [] σ := by
  unfold F_X12_scan_173 at h
  refine z_iload_n dX12_scan_173 rfl 0 rfl ?_
  cases h
  exact z_ireturn dX12_scan_174 rfl rfl ⟨rfl, rfl⟩
def F_X12_scan_168 (x1 : Int32) (x2 : Int32) (x3 : Int32) (s0 : Int32) (σ : Mm) : Option (Int32 × Mm) := (bnv (F_X12_token s0 x1 x3 σ) (fun τ => (F_X12_scan_173 x2 τ)))
set_option maxRecDepth 20000 in
theorem zb_X12_scan_168 {S : Shp} {x1 : Int32} {x2 : Int32} {x3 : Int32} {s0 : Int32} {σ : Mm} {r : Int32 × Mm} (h : F_X12_scan_168 x1 x2 x3 s0 σ = some r) : Z m_X12_scan S (Qi r) 168 [(1, .int (x1)), (2, .int (x2)), (3, .int (x3))] [.int (s0), .ref (sL S 3 0 0)] σ := by
  unfold F_X12_scan_168 at h
  refine z_iload_n dX12_scan_168 rfl 0 rfl ?_
  refine z_iload_n dX12_scan_169 rfl 2 rfl ?_
  obtain ⟨τ, hc, h⟩ := bnv_e h
  refine z_callV (M' := m_X12_token) (t := 3) (i := 0) (k := 0) (As := [.int (s0), .int (x1), .int (x3)]) (rest := []) kl_12_289 oy_X12_token ⟨Nat.le_of_ble_eq_true rfl, Nat.le_of_ble_eq_true rfl⟩ rfl rfl rfl rfl (Nat.le_of_ble_eq_true rfl) rfl dX12_scan_170 (c_X12_token hc) (fun v2 τ2 hq => ?_)
  obtain ⟨rfl, hτ⟩ := hq
  subst τ2
  change Z _ _ _ _ _ [] _
  refine Z.lv [1] rfl ?_
  exact zb_X12_scan_173 h
def F_X12_scan_149 (rc120 : Int32 → Int32 → Int32 → Mm → Option (Int32 × Mm)) (x1 : Int32) (x2 : Int32) (x3 : Int32) (σ : Mm) : Option (Int32 × Mm) := (rc120 x1 (x2 + 1) x3 σ)
set_option maxRecDepth 20000 in
theorem zb_X12_scan_149 {S : Shp} {rc120 : Int32 → Int32 → Int32 → Mm → Option (Int32 × Mm)} (hrc120 : ∀ {x1 : Int32} {x2 : Int32} {x3 : Int32} {σ : Mm} {r : Int32 × Mm}, rc120 x1 x2 x3 σ = some r → Z m_X12_scan S (Qi r) 120 [(0, .ref (sL S 3 0 0)), (1, .int (x1)), (2, .int (x2)), (3, .int (x3))] [] σ) {x1 : Int32} {x2 : Int32} {x3 : Int32} {σ : Mm} {r : Int32 × Mm} (h : F_X12_scan_149 rc120 x1 x2 x3 σ = some r) : Z m_X12_scan S (Qi r) 149 [(0, .ref (sL S 3 0 0)), (1, .int (x1)), (2, .int (x2)), (3, .int (x3))] [] σ := by
  unfold F_X12_scan_149 at h
  refine z_iinc (j := 2) (v := x2 + 1) (lv' := [(0, .ref (sL S 3 0 0)), (1, .int (x1)), (2, .int (x2 + 1)), (3, .int (x3))]) dX12_scan_149 rfl rfl (by decide) [1, 2, 0, 3] rfl ?_
  refine z_goto (tgt := 120) dX12_scan_152 (by decide) ?_
  exact hrc120 h
def F_X12_scan_144 (rc120 : Int32 → Int32 → Int32 → Mm → Option (Int32 × Mm)) (x1 : Int32) (x2 : Int32) (s0 : Int32) (s1 : Int32) (σ : Mm) : Option (Int32 × Mm) := (F_X12_scan_149 rc120 x1 x2 ((s1 + s0) - (48 : Int32)) σ)
set_option maxRecDepth 20000 in
theorem zb_X12_scan_144 {S : Shp} {rc120 : Int32 → Int32 → Int32 → Mm → Option (Int32 × Mm)} (hrc120 : ∀ {x1 : Int32} {x2 : Int32} {x3 : Int32} {σ : Mm} {r : Int32 × Mm}, rc120 x1 x2 x3 σ = some r → Z m_X12_scan S (Qi r) 120 [(0, .ref (sL S 3 0 0)), (1, .int (x1)), (2, .int (x2)), (3, .int (x3))] [] σ) {x1 : Int32} {x2 : Int32} {s0 : Int32} {s1 : Int32} {σ : Mm} {r : Int32 × Mm} (h : F_X12_scan_144 rc120 x1 x2 s0 s1 σ = some r) : Z m_X12_scan S (Qi r) 144 [(0, .ref (sL S 3 0 0)), (1, .int (x1)), (2, .int (x2))] [.int (s0), .int (s1)] σ := by
  unfold F_X12_scan_144 at h
  refine z_iadd dX12_scan_144 ?_
  refine z_bipush (v := 48) dX12_scan_145 (by decide) ?_
  refine z_isub dX12_scan_147 ?_
  refine z_istore_n (lv' := [(0, .ref (sL S 3 0 0)), (1, .int (x1)), (2, .int (x2)), (3, .int ((s1 + s0) - (48 : Int32)))]) dX12_scan_148 rfl (by decide) [1, 2, 3, 0] rfl ?_
  exact zb_X12_scan_149 hrc120 h
def F_X12_scan_125 (rc120 : Int32 → Int32 → Int32 → Mm → Option (Int32 × Mm)) (x1 : Int32) (x2 : Int32) (x3 : Int32) (s0 : Int32) (σ : Mm) : Option (Int32 × Mm) := (if s0 = 0 then (if (x2 - x1) ≤ (4 : Int32) then (F_X12_scan_168 x1 x2 x3 1 σ) else (F_X12_scan_168 x1 x2 x3 5 σ)) else (if (4 : Int32) ≤ (x2 - x1) then (F_X12_scan_149 rc120 x1 x2 x3 σ) else (bnd (F_X12_byteAt x2 σ) (fun v τ => (F_X12_scan_144 rc120 x1 x2 v ((10 : Int32) * x3) τ)))))
set_option maxRecDepth 20000 in
theorem zb_X12_scan_125 {S : Shp} {rc120 : Int32 → Int32 → Int32 → Mm → Option (Int32 × Mm)} (hrc120 : ∀ {x1 : Int32} {x2 : Int32} {x3 : Int32} {σ : Mm} {r : Int32 × Mm}, rc120 x1 x2 x3 σ = some r → Z m_X12_scan S (Qi r) 120 [(0, .ref (sL S 3 0 0)), (1, .int (x1)), (2, .int (x2)), (3, .int (x3))] [] σ) {x1 : Int32} {x2 : Int32} {x3 : Int32} {s0 : Int32} {σ : Mm} {r : Int32 × Mm} (h : F_X12_scan_125 rc120 x1 x2 x3 s0 σ = some r) : Z m_X12_scan S (Qi r) 125 [(0, .ref (sL S 3 0 0)), (1, .int (x1)), (2, .int (x2)), (3, .int (x3))] [.int (s0)] σ := by
  unfold F_X12_scan_125 at h
  refine z_if_eq (tgt := 155) dX12_scan_125 (by decide) (fun q => ?_) (fun q => ?_)
  · have h := (if_pos q).symm.trans h
    refine z_aload_n dX12_scan_155 rfl 0 rfl ?_
    refine z_iload_n dX12_scan_156 rfl 2 rfl ?_
    refine z_iload_n dX12_scan_157 rfl 1 rfl ?_
    refine z_isub dX12_scan_158 ?_
    refine z_iconst (v := 4) dX12_scan_159 (by decide) ?_
    refine z_icmp_le (tgt := 167) dX12_scan_160 (by decide) (fun q => ?_) (fun q => ?_)
    · have h := (if_pos q).symm.trans h
      refine z_iconst (v := 1) dX12_scan_167 (by decide) ?_
      refine Z.lv [1, 2, 3] rfl ?_
      exact zb_X12_scan_168 h
    · have h := (if_neg q).symm.trans h
      refine z_iconst (v := 5) dX12_scan_163 (by decide) ?_
      refine z_goto (tgt := 168) dX12_scan_164 (by decide) ?_
      refine Z.lv [1, 2, 3] rfl ?_
      exact zb_X12_scan_168 h
  · have h := (if_neg q).symm.trans h
    refine z_iload_n dX12_scan_128 rfl 2 rfl ?_
    refine z_iload_n dX12_scan_129 rfl 1 rfl ?_
    refine z_isub dX12_scan_130 ?_
    refine z_iconst (v := 4) dX12_scan_131 (by decide) ?_
    refine z_icmp_ge (tgt := 149) dX12_scan_132 (by decide) (fun q => ?_) (fun q => ?_)
    · have h := (if_pos q).symm.trans h
      exact zb_X12_scan_149 hrc120 h
    · have h := (if_neg q).symm.trans h
      refine z_bipush (v := 10) dX12_scan_135 (by decide) ?_
      refine z_iload_n dX12_scan_137 rfl 3 rfl ?_
      refine z_imul dX12_scan_138 ?_
      refine z_aload_n dX12_scan_139 rfl 0 rfl ?_
      refine z_iload_n dX12_scan_140 rfl 2 rfl ?_
      obtain ⟨v, τ, hc, h⟩ := bnd_e h
      refine z_callV (M' := m_X12_byteAt) (t := 3) (i := 0) (k := 0) (As := [.int (x2)]) (rest := [.int ((10 : Int32) * x3)]) kl_12_228 oy_X12_byteAt ⟨Nat.le_of_ble_eq_true rfl, Nat.le_of_ble_eq_true rfl⟩ rfl rfl rfl rfl (Nat.le_of_ble_eq_true rfl) rfl dX12_scan_141 (c_X12_byteAt hc) (fun v2 τ2 hq => ?_)
      obtain ⟨rfl, hτ⟩ := hq
      subst τ2
      change Z _ _ _ _ _ [.int (v), .int ((10 : Int32) * x3)] _
      refine Z.lv [0, 1, 2] rfl ?_
      exact zb_X12_scan_144 hrc120 h
def B_X12_scan_120 (rc120 : Int32 → Int32 → Int32 → Mm → Option (Int32 × Mm)) (x1 : Int32) (x2 : Int32) (x3 : Int32) (σ : Mm) : Option (Int32 × Mm) := (bnd (F_X12_isDigit x2 σ) (fun v τ => (F_X12_scan_125 rc120 x1 x2 x3 v τ)))
set_option maxRecDepth 20000 in
theorem zB_X12_scan_120 {S : Shp} {rc120 : Int32 → Int32 → Int32 → Mm → Option (Int32 × Mm)} (hrc120 : ∀ {x1 : Int32} {x2 : Int32} {x3 : Int32} {σ : Mm} {r : Int32 × Mm}, rc120 x1 x2 x3 σ = some r → Z m_X12_scan S (Qi r) 120 [(0, .ref (sL S 3 0 0)), (1, .int (x1)), (2, .int (x2)), (3, .int (x3))] [] σ) {x1 : Int32} {x2 : Int32} {x3 : Int32} {σ : Mm} {r : Int32 × Mm} (h : B_X12_scan_120 rc120 x1 x2 x3 σ = some r) : Z m_X12_scan S (Qi r) 120 [(0, .ref (sL S 3 0 0)), (1, .int (x1)), (2, .int (x2)), (3, .int (x3))] [] σ := by
  unfold B_X12_scan_120 at h
  refine z_aload_n dX12_scan_120 rfl 0 rfl ?_
  refine z_iload_n dX12_scan_121 rfl 2 rfl ?_
  obtain ⟨v, τ, hc, h⟩ := bnd_e h
  refine z_callV (M' := m_X12_isDigit) (t := 3) (i := 0) (k := 0) (As := [.int (x2)]) (rest := []) kl_12_293 oy_X12_isDigit ⟨Nat.le_of_ble_eq_true rfl, Nat.le_of_ble_eq_true rfl⟩ rfl rfl rfl rfl (Nat.le_of_ble_eq_true rfl) rfl dX12_scan_122 (c_X12_isDigit hc) (fun v2 τ2 hq => ?_)
  obtain ⟨rfl, hτ⟩ := hq
  subst τ2
  change Z _ _ _ _ _ [.int (v)] _
  exact zb_X12_scan_125 hrc120 h
def F_X12_scan_120 : Nat → Int32 → Int32 → Int32 → Mm → Option (Int32 × Mm)
  | 0 => fun _ _ _ _ => none
  | n + 1 => B_X12_scan_120 (F_X12_scan_120 n)
theorem zl_X12_scan_120 {S : Shp} : ∀ (nn : Nat) {x1 : Int32} {x2 : Int32} {x3 : Int32} {σ : Mm} {r : Int32 × Mm}, F_X12_scan_120 nn x1 x2 x3 σ = some r → Z m_X12_scan S (Qi r) 120 [(0, .ref (sL S 3 0 0)), (1, .int (x1)), (2, .int (x2)), (3, .int (x3))] [] σ := by
  intro nn
  induction nn with
  | zero => intro x1 x2 x3 σ r h; cases h
  | succ nn ih => intro x1 x2 x3 σ r h; exact zB_X12_scan_120 @ih h
def F_X12_scan_115 (x1 : Int32) (x2 : Int32) (s0 : Int32) (σ : Mm) : Option (Int32 × Mm) := (if s0 = 0 then (bnd (F_X12_signAt x1 σ) (fun v τ => (F_X12_scan_180 x1 v τ))) else (F_X12_scan_120 FU x1 x2 0 σ))
set_option maxRecDepth 20000 in
theorem zb_X12_scan_115 {S : Shp} {x1 : Int32} {x2 : Int32} {s0 : Int32} {σ : Mm} {r : Int32 × Mm} (h : F_X12_scan_115 x1 x2 s0 σ = some r) : Z m_X12_scan S (Qi r) 115 [(0, .ref (sL S 3 0 0)), (1, .int (x1)), (2, .int (x2))] [.int (s0)] σ := by
  unfold F_X12_scan_115 at h
  refine z_if_eq (tgt := 175) dX12_scan_115 (by decide) (fun q => ?_) (fun q => ?_)
  · have h := (if_pos q).symm.trans h
    refine z_aload_n dX12_scan_175 rfl 0 rfl ?_
    refine z_iload_n dX12_scan_176 rfl 1 rfl ?_
    obtain ⟨v, τ, hc, h⟩ := bnd_e h
    refine z_callV (M' := m_X12_signAt) (t := 3) (i := 0) (k := 0) (As := [.int (x1)]) (rest := []) kl_12_296 oy_X12_signAt ⟨Nat.le_of_ble_eq_true rfl, Nat.le_of_ble_eq_true rfl⟩ rfl rfl rfl rfl (Nat.le_of_ble_eq_true rfl) rfl dX12_scan_177 (c_X12_signAt hc) (fun v2 τ2 hq => ?_)
    obtain ⟨rfl, hτ⟩ := hq
    subst τ2
    change Z _ _ _ _ _ [.int (v)] _
    refine Z.lv [0, 1] rfl ?_
    exact zb_X12_scan_180 h
  · have h := (if_neg q).symm.trans h
    refine z_iconst (v := 0) dX12_scan_118 (by decide) ?_
    refine z_istore_n (lv' := [(0, .ref (sL S 3 0 0)), (1, .int (x1)), (2, .int (x2)), (3, .int (0))]) dX12_scan_119 rfl (by decide) [1, 2, 3, 0] rfl ?_
    exact zl_X12_scan_120 FU h
def F_X12_scan_108 (x2 : Int32) (σ : Mm) : Option (Int32 × Mm) := some (x2, σ)
set_option maxRecDepth 20000 in
theorem zb_X12_scan_108 {S : Shp} {x2 : Int32} {σ : Mm} {r : Int32 × Mm} (h : F_X12_scan_108 x2 σ = some r) : Z m_X12_scan S (Qi r) 108 [(2, .int (x2))] [] σ := by
  unfold F_X12_scan_108 at h
  refine z_iload_n dX12_scan_108 rfl 0 rfl ?_
  cases h
  exact z_ireturn dX12_scan_109 rfl rfl ⟨rfl, rfl⟩
def F_X12_scan_102 (x1 : Int32) (x2 : Int32) (x5 : Int32) (s0 : Int32) (σ : Mm) : Option (Int32 × Mm) := (bnv (F_X12_token s0 x1 x5 σ) (fun τ => (F_X12_scan_108 x2 τ)))
set_option maxRecDepth 20000 in
theorem zb_X12_scan_102 {S : Shp} {x1 : Int32} {x2 : Int32} {x5 : Int32} {s0 : Int32} {σ : Mm} {r : Int32 × Mm} (h : F_X12_scan_102 x1 x2 x5 s0 σ = some r) : Z m_X12_scan S (Qi r) 102 [(1, .int (x1)), (2, .int (x2)), (5, .int (x5))] [.int (s0), .ref (sL S 3 0 0)] σ := by
  unfold F_X12_scan_102 at h
  refine z_iload_n dX12_scan_102 rfl 0 rfl ?_
  refine z_iload dX12_scan_103 2 rfl ?_
  obtain ⟨τ, hc, h⟩ := bnv_e h
  refine z_callV (M' := m_X12_token) (t := 3) (i := 0) (k := 0) (As := [.int (s0), .int (x1), .int (x5)]) (rest := []) kl_12_289 oy_X12_token ⟨Nat.le_of_ble_eq_true rfl, Nat.le_of_ble_eq_true rfl⟩ rfl rfl rfl rfl (Nat.le_of_ble_eq_true rfl) rfl dX12_scan_105 (c_X12_token hc) (fun v2 τ2 hq => ?_)
  obtain ⟨rfl, hτ⟩ := hq
  subst τ2
  change Z _ _ _ _ _ [] _
  refine Z.lv [1] rfl ?_
  exact zb_X12_scan_108 h
def F_X12_scan_79 (x1 : Int32) (x2 : Int32) (x5 : Int32) (σ : Mm) : Option (Int32 × Mm) := (if (x2 - x1) ≤ (8 : Int32) then (if x5 < 0 then (F_X12_scan_102 x1 x2 x5 0 σ) else (F_X12_scan_102 x1 x2 x5 3 σ)) else (F_X12_scan_102 x1 x2 x5 5 σ))
set_option maxRecDepth 20000 in
theorem zb_X12_scan_79 {S : Shp} {x1 : Int32} {x2 : Int32} {x5 : Int32} {σ : Mm} {r : Int32 × Mm} (h : F_X12_scan_79 x1 x2 x5 σ = some r) : Z m_X12_scan S (Qi r) 79 [(0, .ref (sL S 3 0 0)), (1, .int (x1)), (2, .int (x2)), (5, .int (x5))] [] σ := by
  unfold F_X12_scan_79 at h
  refine z_aload_n dX12_scan_79 rfl 0 rfl ?_
  refine z_iload_n dX12_scan_80 rfl 2 rfl ?_
  refine z_iload_n dX12_scan_81 rfl 1 rfl ?_
  refine z_isub dX12_scan_82 ?_
  refine z_bipush (v := 8) dX12_scan_83 (by decide) ?_
  refine z_icmp_le (tgt := 92) dX12_scan_85 (by decide) (fun q => ?_) (fun q => ?_)
  · have h := (if_pos q).symm.trans h
    refine z_iload dX12_scan_92 3 rfl ?_
    refine z_if_lt (tgt := 101) dX12_scan_94 (by decide) (fun q => ?_) (fun q => ?_)
    · have h := (if_pos q).symm.trans h
      refine z_iconst (v := 0) dX12_scan_101 (by decide) ?_
      refine Z.lv [1, 2, 3] rfl ?_
      exact zb_X12_scan_102 h
    · have h := (if_neg q).symm.trans h
      refine z_iconst (v := 3) dX12_scan_97 (by decide) ?_
      refine z_goto (tgt := 102) dX12_scan_98 (by decide) ?_
      refine Z.lv [1, 2, 3] rfl ?_
      exact zb_X12_scan_102 h
  · have h := (if_neg q).symm.trans h
    refine z_iconst (v := 5) dX12_scan_88 (by decide) ?_
    refine z_goto (tgt := 102) dX12_scan_89 (by decide) ?_
    refine Z.lv [1, 2, 3] rfl ?_
    exact zb_X12_scan_102 h
def F_X12_scan_67 (x1 : Int32) (x2 : Int32) (x3 : Int64) (s0 : Int32) (σ : Mm) : Option (Int32 × Mm) := (if inb (mA σ 3 0 0 2) 2001 = true then (F_X12_scan_79 x1 x2 s0 (setL σ 3 0 5 (vp_updL (mL σ 3 0 5) (mA σ 3 0 0 2).toNatClampNeg x3))) else none)
set_option maxRecDepth 20000 in
theorem zb_X12_scan_67 {S : Shp} {x1 : Int32} {x2 : Int32} {x3 : Int64} {s0 : Int32} {σ : Mm} {r : Int32 × Mm} (h : F_X12_scan_67 x1 x2 x3 s0 σ = some r) : Z m_X12_scan S (Qi r) 67 [(0, .ref (sL S 3 0 0)), (1, .int (x1)), (2, .int (x2)), (3, .long (x3))] [.int (s0)] σ := by
  unfold F_X12_scan_67 at h
  obtain ⟨g1, h⟩ := gd h
  refine z_istore (lv' := [(0, .ref (sL S 3 0 0)), (1, .int (x1)), (2, .int (x2)), (3, .long (x3)), (5, .int (s0))]) dX12_scan_67 (by decide) [1, 2, 3, 4, 0] rfl ?_
  refine z_aload_n dX12_scan_69 rfl 0 rfl ?_
  refine gf_12_22 rfl dX12_scan_70 ?_
  refine z_aload_n dX12_scan_73 rfl 0 rfl ?_
  refine gf_12_232 rfl dX12_scan_74 ?_
  refine z_lload_n dX12_scan_77 rfl 3 rfl ?_
  refine is_3_5 (inb_in g1) dX12_scan_78 ?_
  refine Z.lv [0, 1, 2, 4] rfl ?_
  exact zb_X12_scan_79 h
def F_X12_scan_45 (rc12 : Int32 → Int32 → Int64 → Mm → Option (Int32 × Mm)) (x1 : Int32) (x2 : Int32) (x3 : Int64) (σ : Mm) : Option (Int32 × Mm) := (rc12 x1 (x2 + 1) x3 σ)
set_option maxRecDepth 20000 in
theorem zb_X12_scan_45 {S : Shp} {rc12 : Int32 → Int32 → Int64 → Mm → Option (Int32 × Mm)} (hrc12 : ∀ {x1 : Int32} {x2 : Int32} {x3 : Int64} {σ : Mm} {r : Int32 × Mm}, rc12 x1 x2 x3 σ = some r → Z m_X12_scan S (Qi r) 12 [(0, .ref (sL S 3 0 0)), (1, .int (x1)), (2, .int (x2)), (3, .long (x3))] [] σ) {x1 : Int32} {x2 : Int32} {x3 : Int64} {σ : Mm} {r : Int32 × Mm} (h : F_X12_scan_45 rc12 x1 x2 x3 σ = some r) : Z m_X12_scan S (Qi r) 45 [(0, .ref (sL S 3 0 0)), (1, .int (x1)), (2, .int (x2)), (3, .long (x3))] [] σ := by
  unfold F_X12_scan_45 at h
  refine z_iinc (j := 2) (v := x2 + 1) (lv' := [(0, .ref (sL S 3 0 0)), (1, .int (x1)), (2, .int (x2 + 1)), (3, .long (x3))]) dX12_scan_45 rfl rfl (by decide) [1, 2, 0, 3] rfl ?_
  refine z_goto (tgt := 12) dX12_scan_48 (by decide) ?_
  exact hrc12 h
def F_X12_scan_38 (rc12 : Int32 → Int32 → Int64 → Mm → Option (Int32 × Mm)) (x1 : Int32) (x2 : Int32) (s0 : Int32) (s1 : Int64) (σ : Mm) : Option (Int32 × Mm) := (F_X12_scan_45 rc12 x1 x2 ((s1 + (Int32.toInt64 s0)) - (96 : Int64)) σ)
set_option maxRecDepth 20000 in
theorem zb_X12_scan_38 {S : Shp} {rc12 : Int32 → Int32 → Int64 → Mm → Option (Int32 × Mm)} (hrc12 : ∀ {x1 : Int32} {x2 : Int32} {x3 : Int64} {σ : Mm} {r : Int32 × Mm}, rc12 x1 x2 x3 σ = some r → Z m_X12_scan S (Qi r) 12 [(0, .ref (sL S 3 0 0)), (1, .int (x1)), (2, .int (x2)), (3, .long (x3))] [] σ) {x1 : Int32} {x2 : Int32} {s0 : Int32} {s1 : Int64} {σ : Mm} {r : Int32 × Mm} (h : F_X12_scan_38 rc12 x1 x2 s0 s1 σ = some r) : Z m_X12_scan S (Qi r) 38 [(0, .ref (sL S 3 0 0)), (1, .int (x1)), (2, .int (x2))] [.int (s0), .long (s1)] σ := by
  unfold F_X12_scan_38 at h
  refine z_i2l dX12_scan_38 ?_
  refine z_ladd dX12_scan_39 ?_
  refine z_ldc2 qw_1411 dX12_scan_40 ?_
  refine z_lsub dX12_scan_43 ?_
  refine z_lstore_n (lv' := [(0, .ref (sL S 3 0 0)), (1, .int (x1)), (2, .int (x2)), (3, .long ((s1 + (Int32.toInt64 s0)) - (96 : Int64)))]) dX12_scan_44 rfl (by decide) [1, 2, 3, 0] rfl ?_
  exact zb_X12_scan_45 hrc12 h
def F_X12_scan_17 (rc12 : Int32 → Int32 → Int64 → Mm → Option (Int32 × Mm)) (x1 : Int32) (x2 : Int32) (x3 : Int64) (s0 : Int32) (σ : Mm) : Option (Int32 × Mm) := (if s0 = 0 then (if (x2 - x1) ≤ (8 : Int32) then (F_X12_scan_67 x1 x2 x3 (f_X12_wordOf x3) σ) else (F_X12_scan_67 x1 x2 x3 ((-1)) σ)) else (if (8 : Int32) ≤ (x2 - x1) then (F_X12_scan_45 rc12 x1 x2 x3 σ) else (bnd (F_X12_byteAt x2 σ) (fun v τ => (F_X12_scan_38 rc12 x1 x2 v (x3 * (27 : Int64)) τ)))))
set_option maxRecDepth 20000 in
theorem zb_X12_scan_17 {S : Shp} {rc12 : Int32 → Int32 → Int64 → Mm → Option (Int32 × Mm)} (hrc12 : ∀ {x1 : Int32} {x2 : Int32} {x3 : Int64} {σ : Mm} {r : Int32 × Mm}, rc12 x1 x2 x3 σ = some r → Z m_X12_scan S (Qi r) 12 [(0, .ref (sL S 3 0 0)), (1, .int (x1)), (2, .int (x2)), (3, .long (x3))] [] σ) {x1 : Int32} {x2 : Int32} {x3 : Int64} {s0 : Int32} {σ : Mm} {r : Int32 × Mm} (h : F_X12_scan_17 rc12 x1 x2 x3 s0 σ = some r) : Z m_X12_scan S (Qi r) 17 [(0, .ref (sL S 3 0 0)), (1, .int (x1)), (2, .int (x2)), (3, .long (x3))] [.int (s0)] σ := by
  unfold F_X12_scan_17 at h
  refine z_if_eq (tgt := 51) dX12_scan_17 (by decide) (fun q => ?_) (fun q => ?_)
  · have h := (if_pos q).symm.trans h
    refine z_iload_n dX12_scan_51 rfl 2 rfl ?_
    refine z_iload_n dX12_scan_52 rfl 1 rfl ?_
    refine z_isub dX12_scan_53 ?_
    refine z_bipush (v := 8) dX12_scan_54 (by decide) ?_
    refine z_icmp_le (tgt := 63) dX12_scan_56 (by decide) (fun q => ?_) (fun q => ?_)
    · have h := (if_pos q).symm.trans h
      refine z_lload_n dX12_scan_63 rfl 3 rfl ?_
      refine z_callS (M' := m_X12_wordOf) (As := [.long (x3)]) (rest := []) kl_12_285 oy_X12_wordOf ⟨Nat.le_of_ble_eq_true rfl, Nat.le_of_ble_eq_true rfl⟩ rfl (Nat.le_of_ble_eq_true rfl) rfl dX12_scan_64 (c_X12_wordOf rfl) (fun v τ hq => ?_)
      obtain ⟨rfl, hτ⟩ := hq
      subst τ
      change Z _ _ _ _ _ [.int (f_X12_wordOf x3)] _
      exact zb_X12_scan_67 h
    · have h := (if_neg q).symm.trans h
      refine z_iconst (v := (-1)) dX12_scan_59 (by decide) ?_
      refine z_goto (tgt := 67) dX12_scan_60 (by decide) ?_
      exact zb_X12_scan_67 h
  · have h := (if_neg q).symm.trans h
    refine z_iload_n dX12_scan_20 rfl 2 rfl ?_
    refine z_iload_n dX12_scan_21 rfl 1 rfl ?_
    refine z_isub dX12_scan_22 ?_
    refine z_bipush (v := 8) dX12_scan_23 (by decide) ?_
    refine z_icmp_ge (tgt := 45) dX12_scan_25 (by decide) (fun q => ?_) (fun q => ?_)
    · have h := (if_pos q).symm.trans h
      exact zb_X12_scan_45 hrc12 h
    · have h := (if_neg q).symm.trans h
      refine z_lload_n dX12_scan_28 rfl 3 rfl ?_
      refine z_ldc2 qw_1410 dX12_scan_29 ?_
      refine z_lmul dX12_scan_32 ?_
      refine z_aload_n dX12_scan_33 rfl 0 rfl ?_
      refine z_iload_n dX12_scan_34 rfl 2 rfl ?_
      obtain ⟨v, τ, hc, h⟩ := bnd_e h
      refine z_callV (M' := m_X12_byteAt) (t := 3) (i := 0) (k := 0) (As := [.int (x2)]) (rest := [.long (x3 * (27 : Int64))]) kl_12_228 oy_X12_byteAt ⟨Nat.le_of_ble_eq_true rfl, Nat.le_of_ble_eq_true rfl⟩ rfl rfl rfl rfl (Nat.le_of_ble_eq_true rfl) rfl dX12_scan_35 (c_X12_byteAt hc) (fun v2 τ2 hq => ?_)
      obtain ⟨rfl, hτ⟩ := hq
      subst τ2
      change Z _ _ _ _ _ [.int (v), .long (x3 * (27 : Int64))] _
      refine Z.lv [0, 1, 2] rfl ?_
      exact zb_X12_scan_38 hrc12 h
def B_X12_scan_12 (rc12 : Int32 → Int32 → Int64 → Mm → Option (Int32 × Mm)) (x1 : Int32) (x2 : Int32) (x3 : Int64) (σ : Mm) : Option (Int32 × Mm) := (bnd (F_X12_isLetter x2 σ) (fun v τ => (F_X12_scan_17 rc12 x1 x2 x3 v τ)))
set_option maxRecDepth 20000 in
theorem zB_X12_scan_12 {S : Shp} {rc12 : Int32 → Int32 → Int64 → Mm → Option (Int32 × Mm)} (hrc12 : ∀ {x1 : Int32} {x2 : Int32} {x3 : Int64} {σ : Mm} {r : Int32 × Mm}, rc12 x1 x2 x3 σ = some r → Z m_X12_scan S (Qi r) 12 [(0, .ref (sL S 3 0 0)), (1, .int (x1)), (2, .int (x2)), (3, .long (x3))] [] σ) {x1 : Int32} {x2 : Int32} {x3 : Int64} {σ : Mm} {r : Int32 × Mm} (h : B_X12_scan_12 rc12 x1 x2 x3 σ = some r) : Z m_X12_scan S (Qi r) 12 [(0, .ref (sL S 3 0 0)), (1, .int (x1)), (2, .int (x2)), (3, .long (x3))] [] σ := by
  unfold B_X12_scan_12 at h
  refine z_aload_n dX12_scan_12 rfl 0 rfl ?_
  refine z_iload_n dX12_scan_13 rfl 2 rfl ?_
  obtain ⟨v, τ, hc, h⟩ := bnd_e h
  refine z_callV (M' := m_X12_isLetter) (t := 3) (i := 0) (k := 0) (As := [.int (x2)]) (rest := []) kl_12_277 oy_X12_isLetter ⟨Nat.le_of_ble_eq_true rfl, Nat.le_of_ble_eq_true rfl⟩ rfl rfl rfl rfl (Nat.le_of_ble_eq_true rfl) rfl dX12_scan_14 (c_X12_isLetter hc) (fun v2 τ2 hq => ?_)
  obtain ⟨rfl, hτ⟩ := hq
  subst τ2
  change Z _ _ _ _ _ [.int (v)] _
  exact zb_X12_scan_17 hrc12 h
def F_X12_scan_12 : Nat → Int32 → Int32 → Int64 → Mm → Option (Int32 × Mm)
  | 0 => fun _ _ _ _ => none
  | n + 1 => B_X12_scan_12 (F_X12_scan_12 n)
theorem zl_X12_scan_12 {S : Shp} : ∀ (nn : Nat) {x1 : Int32} {x2 : Int32} {x3 : Int64} {σ : Mm} {r : Int32 × Mm}, F_X12_scan_12 nn x1 x2 x3 σ = some r → Z m_X12_scan S (Qi r) 12 [(0, .ref (sL S 3 0 0)), (1, .int (x1)), (2, .int (x2)), (3, .long (x3))] [] σ := by
  intro nn
  induction nn with
  | zero => intro x1 x2 x3 σ r h; cases h
  | succ nn ih => intro x1 x2 x3 σ r h; exact zB_X12_scan_12 @ih h
def F_X12_scan_7 (x1 : Int32) (x2 : Int32) (s0 : Int32) (σ : Mm) : Option (Int32 × Mm) := (if s0 = 0 then (bnd (F_X12_isDigit x1 σ) (fun v τ => (F_X12_scan_115 x1 x2 v τ))) else (F_X12_scan_12 FU x1 x2 0 σ))
set_option maxRecDepth 20000 in
theorem zb_X12_scan_7 {S : Shp} {x1 : Int32} {x2 : Int32} {s0 : Int32} {σ : Mm} {r : Int32 × Mm} (h : F_X12_scan_7 x1 x2 s0 σ = some r) : Z m_X12_scan S (Qi r) 7 [(0, .ref (sL S 3 0 0)), (1, .int (x1)), (2, .int (x2))] [.int (s0)] σ := by
  unfold F_X12_scan_7 at h
  refine z_if_eq (tgt := 110) dX12_scan_7 (by decide) (fun q => ?_) (fun q => ?_)
  · have h := (if_pos q).symm.trans h
    refine z_aload_n dX12_scan_110 rfl 0 rfl ?_
    refine z_iload_n dX12_scan_111 rfl 1 rfl ?_
    obtain ⟨v, τ, hc, h⟩ := bnd_e h
    refine z_callV (M' := m_X12_isDigit) (t := 3) (i := 0) (k := 0) (As := [.int (x1)]) (rest := []) kl_12_293 oy_X12_isDigit ⟨Nat.le_of_ble_eq_true rfl, Nat.le_of_ble_eq_true rfl⟩ rfl rfl rfl rfl (Nat.le_of_ble_eq_true rfl) rfl dX12_scan_112 (c_X12_isDigit hc) (fun v2 τ2 hq => ?_)
    obtain ⟨rfl, hτ⟩ := hq
    subst τ2
    change Z _ _ _ _ _ [.int (v)] _
    exact zb_X12_scan_115 h
  · have h := (if_neg q).symm.trans h
    refine z_lconst (v := 0) dX12_scan_10 (by decide) ?_
    refine z_lstore_n (lv' := [(0, .ref (sL S 3 0 0)), (1, .int (x1)), (2, .int (x2)), (3, .long (0))]) dX12_scan_11 rfl (by decide) [1, 2, 3, 0] rfl ?_
    exact zl_X12_scan_12 FU h
def F_X12_scan (x1 : Int32) (σ : Mm) : Option (Int32 × Mm) := (bnd (F_X12_isLetter x1 σ) (fun v τ => (F_X12_scan_7 x1 x1 v τ)))
set_option maxRecDepth 20000 in
theorem zb_X12_scan {S : Shp} {x1 : Int32} {σ : Mm} {r : Int32 × Mm} (h : F_X12_scan x1 σ = some r) : Z m_X12_scan S (Qi r) 0 [(0, .ref (sL S 3 0 0)), (1, .int (x1))] [] σ := by
  unfold F_X12_scan at h
  refine z_iload_n dX12_scan_0 rfl 1 rfl ?_
  refine z_istore_n (lv' := [(0, .ref (sL S 3 0 0)), (1, .int (x1)), (2, .int (x1))]) dX12_scan_1 rfl (by decide) [1, 2, 0] rfl ?_
  refine z_aload_n dX12_scan_2 rfl 0 rfl ?_
  refine z_iload_n dX12_scan_3 rfl 1 rfl ?_
  obtain ⟨v, τ, hc, h⟩ := bnd_e h
  refine z_callV (M' := m_X12_isLetter) (t := 3) (i := 0) (k := 0) (As := [.int (x1)]) (rest := []) kl_12_277 oy_X12_isLetter ⟨Nat.le_of_ble_eq_true rfl, Nat.le_of_ble_eq_true rfl⟩ rfl rfl rfl rfl (Nat.le_of_ble_eq_true rfl) rfl dX12_scan_4 (c_X12_isLetter hc) (fun v2 τ2 hq => ?_)
  obtain ⟨rfl, hτ⟩ := hq
  subst τ2
  change Z _ _ _ _ _ [.int (v)] _
  exact zb_X12_scan_7 h
/-- SkyStonesModel.scan(I)I -/
theorem c_X12_scan {S : Shp} {x1 : Int32} {σ : Mm} {r : Int32 × Mm} (h : F_X12_scan x1 σ = some r) : Ct m_X12_scan S [.ref (sL S 3 0 0), .int (x1)] σ (Qi r) := Ct.of (by decide +kernel) (Nat.le_of_ble_eq_true rfl) (zb_X12_scan h)
def F_X12_scanAll_87 (x2 : Int32) (σ : Mm) : Option (Mm) := (if x2 = 0 then some (σ) else (bnv (F_X12_token 4 (mA σ 3 0 0 0) 0 σ) (fun τ => some (τ))))
set_option maxRecDepth 20000 in
theorem zb_X12_scanAll_87 {S : Shp} {x2 : Int32} {σ : Mm} {r : Mm} (h : F_X12_scanAll_87 x2 σ = some r) : Z m_X12_scanAll S (Qv r) 87 [(0, .ref (sL S 3 0 0)), (2, .int (x2))] [] σ := by
  unfold F_X12_scanAll_87 at h
  refine z_iload_n dX12_scanAll_87 rfl 1 rfl ?_
  refine z_if_eq (tgt := 101) dX12_scanAll_88 (by decide) (fun q => ?_) (fun q => ?_)
  · have h := (if_pos q).symm.trans h
    cases h
    exact z_return dX12_scanAll_101 rfl ⟨rfl, rfl⟩
  · have h := (if_neg q).symm.trans h
    refine z_aload_n dX12_scanAll_91 rfl 0 rfl ?_
    refine z_iconst (v := 4) dX12_scanAll_92 (by decide) ?_
    refine z_aload_n dX12_scanAll_93 rfl 0 rfl ?_
    refine gf_12_222 rfl dX12_scanAll_94 ?_
    refine z_iconst (v := 0) dX12_scanAll_97 (by decide) ?_
    obtain ⟨τ, hc, h⟩ := bnv_e h
    refine z_callV (M' := m_X12_token) (t := 3) (i := 0) (k := 0) (As := [.int (4), .int (mA σ 3 0 0 0), .int (0)]) (rest := []) kl_12_289 oy_X12_token ⟨Nat.le_of_ble_eq_true rfl, Nat.le_of_ble_eq_true rfl⟩ rfl rfl rfl rfl (Nat.le_of_ble_eq_true rfl) rfl dX12_scanAll_98 (c_X12_token hc) (fun v2 τ2 hq => ?_)
    obtain ⟨rfl, hτ⟩ := hq
    subst τ2
    change Z _ _ _ _ _ [] _
    cases h
    exact z_return dX12_scanAll_101 rfl ⟨rfl, rfl⟩
def F_X12_scanAll_51 (rc9 : Int32 → Int32 → Mm → Option (Mm)) (x1 : Int32) (x2 : Int32) (σ : Mm) : Option (Mm) := (rc9 (x1 + 1) x2 σ)
set_option maxRecDepth 20000 in
theorem zb_X12_scanAll_51 {S : Shp} {rc9 : Int32 → Int32 → Mm → Option (Mm)} (hrc9 : ∀ {x1 : Int32} {x2 : Int32} {σ : Mm} {r : Mm}, rc9 x1 x2 σ = some r → Z m_X12_scanAll S (Qv r) 9 [(0, .ref (sL S 3 0 0)), (1, .int (x1)), (2, .int (x2))] [] σ) {x1 : Int32} {x2 : Int32} {σ : Mm} {r : Mm} (h : F_X12_scanAll_51 rc9 x1 x2 σ = some r) : Z m_X12_scanAll S (Qv r) 51 [(0, .ref (sL S 3 0 0)), (1, .int (x1)), (2, .int (x2))] [] σ := by
  unfold F_X12_scanAll_51 at h
  refine z_iinc (j := 1) (v := x1 + 1) (lv' := [(0, .ref (sL S 3 0 0)), (1, .int (x1 + 1)), (2, .int (x2))]) dX12_scanAll_51 rfl rfl (by decide) [1, 0, 2] rfl ?_
  refine z_goto (tgt := 9) dX12_scanAll_54 (by decide) ?_
  exact hrc9 h
def F_X12_scanAll_83 (rc9 : Int32 → Int32 → Mm → Option (Mm)) (x1 : Int32) (s0 : Int32) (σ : Mm) : Option (Mm) := (rc9 x1 s0 σ)
set_option maxRecDepth 20000 in
theorem zb_X12_scanAll_83 {S : Shp} {rc9 : Int32 → Int32 → Mm → Option (Mm)} (hrc9 : ∀ {x1 : Int32} {x2 : Int32} {σ : Mm} {r : Mm}, rc9 x1 x2 σ = some r → Z m_X12_scanAll S (Qv r) 9 [(0, .ref (sL S 3 0 0)), (1, .int (x1)), (2, .int (x2))] [] σ) {x1 : Int32} {s0 : Int32} {σ : Mm} {r : Mm} (h : F_X12_scanAll_83 rc9 x1 s0 σ = some r) : Z m_X12_scanAll S (Qv r) 83 [(0, .ref (sL S 3 0 0)), (1, .int (x1))] [.int (s0)] σ := by
  unfold F_X12_scanAll_83 at h
  refine z_istore_n (lv' := [(0, .ref (sL S 3 0 0)), (1, .int (x1)), (2, .int (s0))]) dX12_scanAll_83 rfl (by decide) [1, 2, 0] rfl ?_
  refine z_goto (tgt := 9) dX12_scanAll_84 (by decide) ?_
  exact hrc9 h
def F_X12_scanAll_62 (rc9 : Int32 → Int32 → Mm → Option (Mm)) (s0 : Int32) (σ : Mm) : Option (Mm) := (if inb ((mA σ 3 0 0 2) - (1 : Int32)) 2001 = true then (if (mA σ 3 0 2 ((mA σ 3 0 0 2) - (1 : Int32)).toNatClampNeg) = (5 : Int32) then (F_X12_scanAll_83 rc9 s0 0 σ) else (F_X12_scanAll_83 rc9 s0 1 σ)) else none)
set_option maxRecDepth 20000 in
theorem zb_X12_scanAll_62 {S : Shp} {rc9 : Int32 → Int32 → Mm → Option (Mm)} (hrc9 : ∀ {x1 : Int32} {x2 : Int32} {σ : Mm} {r : Mm}, rc9 x1 x2 σ = some r → Z m_X12_scanAll S (Qv r) 9 [(0, .ref (sL S 3 0 0)), (1, .int (x1)), (2, .int (x2))] [] σ) {s0 : Int32} {σ : Mm} {r : Mm} (h : F_X12_scanAll_62 rc9 s0 σ = some r) : Z m_X12_scanAll S (Qv r) 62 [(0, .ref (sL S 3 0 0))] [.int (s0)] σ := by
  unfold F_X12_scanAll_62 at h
  obtain ⟨g1, h⟩ := gd h
  refine z_istore_n (lv' := [(0, .ref (sL S 3 0 0)), (1, .int (s0))]) dX12_scanAll_62 rfl (by decide) [1, 0] rfl ?_
  refine z_aload_n dX12_scanAll_63 rfl 0 rfl ?_
  refine gf_12_13 rfl dX12_scanAll_64 ?_
  refine z_aload_n dX12_scanAll_67 rfl 0 rfl ?_
  refine gf_12_232 rfl dX12_scanAll_68 ?_
  refine z_iconst (v := 1) dX12_scanAll_71 (by decide) ?_
  refine z_isub dX12_scanAll_72 ?_
  refine ia_3_2 (inb_in g1) dX12_scanAll_73 ?_
  refine z_iconst (v := 5) dX12_scanAll_74 (by decide) ?_
  refine z_icmp_eq (tgt := 82) dX12_scanAll_75 (by decide) (fun q => ?_) (fun q => ?_)
  · have h := (if_pos q).symm.trans h
    refine z_iconst (v := 0) dX12_scanAll_82 (by decide) ?_
    exact zb_X12_scanAll_83 hrc9 h
  · have h := (if_neg q).symm.trans h
    refine z_iconst (v := 1) dX12_scanAll_78 (by decide) ?_
    refine z_goto (tgt := 83) dX12_scanAll_79 (by decide) ?_
    exact zb_X12_scanAll_83 hrc9 h
def F_X12_scanAll_26 (rc9 : Int32 → Int32 → Mm → Option (Mm)) (x1 : Int32) (x2 : Int32) (s0 : Int32) (σ : Mm) : Option (Mm) := (if s0 = (32 : Int32) then (F_X12_scanAll_51 rc9 x1 x2 σ) else (if s0 = (9 : Int32) then (F_X12_scanAll_51 rc9 x1 x2 σ) else (if s0 = (10 : Int32) then (F_X12_scanAll_51 rc9 x1 x2 σ) else (if s0 = (13 : Int32) then (F_X12_scanAll_51 rc9 x1 x2 σ) else (bnd (F_X12_scan x1 σ) (fun v τ => (F_X12_scanAll_62 rc9 v τ)))))))
set_option maxRecDepth 20000 in
theorem zb_X12_scanAll_26 {S : Shp} {rc9 : Int32 → Int32 → Mm → Option (Mm)} (hrc9 : ∀ {x1 : Int32} {x2 : Int32} {σ : Mm} {r : Mm}, rc9 x1 x2 σ = some r → Z m_X12_scanAll S (Qv r) 9 [(0, .ref (sL S 3 0 0)), (1, .int (x1)), (2, .int (x2))] [] σ) {x1 : Int32} {x2 : Int32} {s0 : Int32} {σ : Mm} {r : Mm} (h : F_X12_scanAll_26 rc9 x1 x2 s0 σ = some r) : Z m_X12_scanAll S (Qv r) 26 [(0, .ref (sL S 3 0 0)), (1, .int (x1)), (2, .int (x2))] [.int (s0)] σ := by
  unfold F_X12_scanAll_26 at h
  refine z_istore_n (lv' := [(0, .ref (sL S 3 0 0)), (1, .int (x1)), (2, .int (x2)), (3, .int (s0))]) dX12_scanAll_26 rfl (by decide) [1, 2, 3, 0] rfl ?_
  refine z_iload_n dX12_scanAll_27 rfl 3 rfl ?_
  refine z_bipush (v := 32) dX12_scanAll_28 (by decide) ?_
  refine z_icmp_eq (tgt := 51) dX12_scanAll_30 (by decide) (fun q => ?_) (fun q => ?_)
  · have h := (if_pos q).symm.trans h
    refine Z.lv [0, 1, 2] rfl ?_
    exact zb_X12_scanAll_51 hrc9 h
  · have h := (if_neg q).symm.trans h
    refine z_iload_n dX12_scanAll_33 rfl 3 rfl ?_
    refine z_bipush (v := 9) dX12_scanAll_34 (by decide) ?_
    refine z_icmp_eq (tgt := 51) dX12_scanAll_36 (by decide) (fun q => ?_) (fun q => ?_)
    · have h := (if_pos q).symm.trans h
      refine Z.lv [0, 1, 2] rfl ?_
      exact zb_X12_scanAll_51 hrc9 h
    · have h := (if_neg q).symm.trans h
      refine z_iload_n dX12_scanAll_39 rfl 3 rfl ?_
      refine z_bipush (v := 10) dX12_scanAll_40 (by decide) ?_
      refine z_icmp_eq (tgt := 51) dX12_scanAll_42 (by decide) (fun q => ?_) (fun q => ?_)
      · have h := (if_pos q).symm.trans h
        refine Z.lv [0, 1, 2] rfl ?_
        exact zb_X12_scanAll_51 hrc9 h
      · have h := (if_neg q).symm.trans h
        refine z_iload_n dX12_scanAll_45 rfl 3 rfl ?_
        refine z_bipush (v := 13) dX12_scanAll_46 (by decide) ?_
        refine z_icmp_ne (tgt := 57) dX12_scanAll_48 (by decide) (fun q => ?_) (fun q => ?_)
        · have h := (if_neg q).symm.trans h
          refine z_aload_n dX12_scanAll_57 rfl 0 rfl ?_
          refine z_iload_n dX12_scanAll_58 rfl 1 rfl ?_
          obtain ⟨v, τ, hc, h⟩ := bnd_e h
          refine z_callV (M' := m_X12_scan) (t := 3) (i := 0) (k := 0) (As := [.int (x1)]) (rest := []) kl_12_299 oy_X12_scan ⟨Nat.le_of_ble_eq_true rfl, Nat.le_of_ble_eq_true rfl⟩ rfl rfl rfl rfl (Nat.le_of_ble_eq_true rfl) rfl dX12_scanAll_59 (c_X12_scan hc) (fun v2 τ2 hq => ?_)
          obtain ⟨rfl, hτ⟩ := hq
          subst τ2
          change Z _ _ _ _ _ [.int (v)] _
          refine Z.lv [0] rfl ?_
          exact zb_X12_scanAll_62 hrc9 h
        · have h := (if_pos q).symm.trans h
          refine Z.lv [0, 1, 2] rfl ?_
          exact zb_X12_scanAll_51 hrc9 h
def B_X12_scanAll_9 (rc9 : Int32 → Int32 → Mm → Option (Mm)) (x1 : Int32) (x2 : Int32) (σ : Mm) : Option (Mm) := (if (mA σ 3 0 0 0) ≤ x1 then (F_X12_scanAll_87 x2 σ) else (if x2 = 0 then (F_X12_scanAll_87 x2 σ) else (bnd (F_X12_byteAt x1 σ) (fun v τ => (F_X12_scanAll_26 rc9 x1 x2 v τ)))))
set_option maxRecDepth 20000 in
theorem zB_X12_scanAll_9 {S : Shp} {rc9 : Int32 → Int32 → Mm → Option (Mm)} (hrc9 : ∀ {x1 : Int32} {x2 : Int32} {σ : Mm} {r : Mm}, rc9 x1 x2 σ = some r → Z m_X12_scanAll S (Qv r) 9 [(0, .ref (sL S 3 0 0)), (1, .int (x1)), (2, .int (x2))] [] σ) {x1 : Int32} {x2 : Int32} {σ : Mm} {r : Mm} (h : B_X12_scanAll_9 rc9 x1 x2 σ = some r) : Z m_X12_scanAll S (Qv r) 9 [(0, .ref (sL S 3 0 0)), (1, .int (x1)), (2, .int (x2))] [] σ := by
  unfold B_X12_scanAll_9 at h
  refine z_iload_n dX12_scanAll_9 rfl 1 rfl ?_
  refine z_aload_n dX12_scanAll_10 rfl 0 rfl ?_
  refine gf_12_222 rfl dX12_scanAll_11 ?_
  refine z_icmp_ge (tgt := 87) dX12_scanAll_14 (by decide) (fun q => ?_) (fun q => ?_)
  · have h := (if_pos q).symm.trans h
    refine Z.lv [0, 2] rfl ?_
    exact zb_X12_scanAll_87 h
  · have h := (if_neg q).symm.trans h
    refine z_iload_n dX12_scanAll_17 rfl 2 rfl ?_
    refine z_if_eq (tgt := 87) dX12_scanAll_18 (by decide) (fun q => ?_) (fun q => ?_)
    · have h := (if_pos q).symm.trans h
      refine Z.lv [0, 2] rfl ?_
      exact zb_X12_scanAll_87 h
    · have h := (if_neg q).symm.trans h
      refine z_aload_n dX12_scanAll_21 rfl 0 rfl ?_
      refine z_iload_n dX12_scanAll_22 rfl 1 rfl ?_
      obtain ⟨v, τ, hc, h⟩ := bnd_e h
      refine z_callV (M' := m_X12_byteAt) (t := 3) (i := 0) (k := 0) (As := [.int (x1)]) (rest := []) kl_12_228 oy_X12_byteAt ⟨Nat.le_of_ble_eq_true rfl, Nat.le_of_ble_eq_true rfl⟩ rfl rfl rfl rfl (Nat.le_of_ble_eq_true rfl) rfl dX12_scanAll_23 (c_X12_byteAt hc) (fun v2 τ2 hq => ?_)
      obtain ⟨rfl, hτ⟩ := hq
      subst τ2
      change Z _ _ _ _ _ [.int (v)] _
      exact zb_X12_scanAll_26 hrc9 h
def F_X12_scanAll_9 : Nat → Int32 → Int32 → Mm → Option (Mm)
  | 0 => fun _ _ _ => none
  | n + 1 => B_X12_scanAll_9 (F_X12_scanAll_9 n)
theorem zl_X12_scanAll_9 {S : Shp} : ∀ (nn : Nat) {x1 : Int32} {x2 : Int32} {σ : Mm} {r : Mm}, F_X12_scanAll_9 nn x1 x2 σ = some r → Z m_X12_scanAll S (Qv r) 9 [(0, .ref (sL S 3 0 0)), (1, .int (x1)), (2, .int (x2))] [] σ := by
  intro nn
  induction nn with
  | zero => intro x1 x2 σ r h; cases h
  | succ nn ih => intro x1 x2 σ r h; exact zB_X12_scanAll_9 @ih h
def F_X12_scanAll_5 (σ : Mm) : Option (Mm) := (F_X12_scanAll_9 FU 0 1 σ)
set_option maxRecDepth 20000 in
theorem zb_X12_scanAll_5 {S : Shp} {σ : Mm} {r : Mm} (h : F_X12_scanAll_5 σ = some r) : Z m_X12_scanAll S (Qv r) 5 [(0, .ref (sL S 3 0 0))] [] σ := by
  unfold F_X12_scanAll_5 at h
  refine z_iconst (v := 0) dX12_scanAll_5 (by decide) ?_
  refine z_istore_n (lv' := [(0, .ref (sL S 3 0 0)), (1, .int (0))]) dX12_scanAll_6 rfl (by decide) [1, 0] rfl ?_
  refine z_iconst (v := 1) dX12_scanAll_7 (by decide) ?_
  refine z_istore_n (lv' := [(0, .ref (sL S 3 0 0)), (1, .int (0)), (2, .int (1))]) dX12_scanAll_8 rfl (by decide) [1, 2, 0] rfl ?_
  exact zl_X12_scanAll_9 FU h
def F_X12_scanAll (σ : Mm) : Option (Mm) := (F_X12_scanAll_5 (setA σ 3 0 0 (upd (mA σ 3 0 0) 2 0)))
set_option maxRecDepth 20000 in
theorem zb_X12_scanAll {S : Shp} {σ : Mm} {r : Mm} (h : F_X12_scanAll σ = some r) : Z m_X12_scanAll S (Qv r) 0 [(0, .ref (sL S 3 0 0))] [] σ := by
  unfold F_X12_scanAll at h
  refine z_aload_n dX12_scanAll_0 rfl 0 rfl ?_
  refine z_iconst (v := 0) dX12_scanAll_1 (by decide) ?_
  refine pf_12_232 rfl dX12_scanAll_2 ?_
  exact zb_X12_scanAll_5 h
/-- SkyStonesModel.scanAll()V -/
theorem c_X12_scanAll {S : Shp} {σ : Mm} {r : Mm} (h : F_X12_scanAll σ = some r) : Ct m_X12_scanAll S [.ref (sL S 3 0 0)] σ (Qv r) := Ct.of (by decide +kernel) (Nat.le_of_ble_eq_true rfl) (zb_X12_scanAll h)
def F_X12_read_72 (σ : Mm) : Option (Int32 × Mm) := some (mA σ 3 0 0 8, σ)
set_option maxRecDepth 20000 in
theorem zb_X12_read_72 {S : Shp} {σ : Mm} {r : Int32 × Mm} (h : F_X12_read_72 σ = some r) : Z m_X12_read S (Qi r) 72 [(0, .ref (sL S 3 0 0))] [] σ := by
  unfold F_X12_read_72 at h
  refine z_aload_n dX12_read_72 rfl 0 rfl ?_
  refine gf_12_302 rfl dX12_read_73 ?_
  cases h
  exact z_ireturn dX12_read_76 rfl rfl ⟨rfl, rfl⟩
def F_X12_read_59 (σ : Mm) : Option (Int32 × Mm) := (if (mA σ 3 0 0 8) = 0 then (bnv (F_X12_copy 1 0 σ) (fun τ => (F_X12_read_72 τ))) else (F_X12_read_72 σ))
set_option maxRecDepth 20000 in
theorem zb_X12_read_59 {S : Shp} {σ : Mm} {r : Int32 × Mm} (h : F_X12_read_59 σ = some r) : Z m_X12_read S (Qi r) 59 [(0, .ref (sL S 3 0 0))] [] σ := by
  unfold F_X12_read_59 at h
  refine z_aload_n dX12_read_59 rfl 0 rfl ?_
  refine gf_12_302 rfl dX12_read_60 ?_
  refine z_if_ne (tgt := 72) dX12_read_63 (by decide) (fun q => ?_) (fun q => ?_)
  · have h := (if_neg q).symm.trans h
    exact zb_X12_read_72 h
  · have h := (if_pos q).symm.trans h
    refine z_aload_n dX12_read_66 rfl 0 rfl ?_
    refine z_iconst (v := 1) dX12_read_67 (by decide) ?_
    refine z_iconst (v := 0) dX12_read_68 (by decide) ?_
    obtain ⟨τ, hc, h⟩ := bnv_e h
    refine z_callV (M' := m_X12_copy) (t := 3) (i := 0) (k := 0) (As := [.int (1), .int (0)]) (rest := []) kl_12_404 oy_X12_copy ⟨Nat.le_of_ble_eq_true rfl, Nat.le_of_ble_eq_true rfl⟩ rfl rfl rfl rfl (Nat.le_of_ble_eq_true rfl) rfl dX12_read_69 (c_X12_copy hc) (fun v2 τ2 hq => ?_)
    obtain ⟨rfl, hτ⟩ := hq
    subst τ2
    change Z _ _ _ _ _ [] _
    exact zb_X12_read_72 h
def F_X12_read_54 (σ : Mm) : Option (Int32 × Mm) := (F_X12_read_59 (setA σ 3 0 0 (upd (mA σ 3 0 0) 0 0)))
set_option maxRecDepth 20000 in
theorem zb_X12_read_54 {S : Shp} {σ : Mm} {r : Int32 × Mm} (h : F_X12_read_54 σ = some r) : Z m_X12_read S (Qi r) 54 [(0, .ref (sL S 3 0 0))] [] σ := by
  unfold F_X12_read_54 at h
  refine z_aload_n dX12_read_54 rfl 0 rfl ?_
  refine z_iconst (v := 0) dX12_read_55 (by decide) ?_
  refine pf_12_222 rfl dX12_read_56 ?_
  exact zb_X12_read_59 h
def F_X12_read_46 (σ : Mm) : Option (Int32 × Mm) := (F_X12_read_54 (setA σ 3 0 0 (upd (mA σ 3 0 0) 9 (mA σ 3 0 0 11))))
set_option maxRecDepth 20000 in
theorem zb_X12_read_46 {S : Shp} {σ : Mm} {r : Int32 × Mm} (h : F_X12_read_46 σ = some r) : Z m_X12_read S (Qi r) 46 [(0, .ref (sL S 3 0 0))] [] σ := by
  unfold F_X12_read_46 at h
  refine z_aload_n dX12_read_46 rfl 0 rfl ?_
  refine z_aload_n dX12_read_47 rfl 0 rfl ?_
  refine gf_12_311 rfl dX12_read_48 ?_
  refine pf_12_26 rfl dX12_read_51 ?_
  exact zb_X12_read_54 h
def F_X12_read_28 (s0 : Int32) (σ : Mm) : Option (Int32 × Mm) := (if s0 = 0 then (F_X12_read_54 σ) else (if (mA σ 3 0 0 10) = 0 then (F_X12_read_54 σ) else (F_X12_read_46 (setA σ 3 0 0 (upd (mA σ 3 0 0) 8 (mA σ 3 0 0 10))))))
set_option maxRecDepth 20000 in
theorem zb_X12_read_28 {S : Shp} {s0 : Int32} {σ : Mm} {r : Int32 × Mm} (h : F_X12_read_28 s0 σ = some r) : Z m_X12_read S (Qi r) 28 [(0, .ref (sL S 3 0 0))] [.int (s0)] σ := by
  unfold F_X12_read_28 at h
  refine z_if_eq (tgt := 54) dX12_read_28 (by decide) (fun q => ?_) (fun q => ?_)
  · have h := (if_pos q).symm.trans h
    exact zb_X12_read_54 h
  · have h := (if_neg q).symm.trans h
    refine z_aload_n dX12_read_31 rfl 0 rfl ?_
    refine gf_12_308 rfl dX12_read_32 ?_
    refine z_if_eq (tgt := 54) dX12_read_35 (by decide) (fun q => ?_) (fun q => ?_)
    · have h := (if_pos q).symm.trans h
      exact zb_X12_read_54 h
    · have h := (if_neg q).symm.trans h
      refine z_aload_n dX12_read_38 rfl 0 rfl ?_
      refine z_aload_n dX12_read_39 rfl 0 rfl ?_
      refine gf_12_308 rfl dX12_read_40 ?_
      refine pf_12_302 rfl dX12_read_43 ?_
      exact zb_X12_read_46 h
def F_X12_read_24 (σ : Mm) : Option (Int32 × Mm) := (bnd (F_X12_parses  σ) (fun v τ => (F_X12_read_28 v τ)))
set_option maxRecDepth 20000 in
theorem zb_X12_read_24 {S : Shp} {σ : Mm} {r : Int32 × Mm} (h : F_X12_read_24 σ = some r) : Z m_X12_read S (Qi r) 24 [(0, .ref (sL S 3 0 0))] [] σ := by
  unfold F_X12_read_24 at h
  refine z_aload_n dX12_read_24 rfl 0 rfl ?_
  obtain ⟨v, τ, hc, h⟩ := bnd_e h
  refine z_callV (M' := m_X12_parses) (t := 3) (i := 0) (k := 0) (As := []) (rest := []) kl_12_401 oy_X12_parses ⟨Nat.le_of_ble_eq_true rfl, Nat.le_of_ble_eq_true rfl⟩ rfl rfl rfl rfl (Nat.le_of_ble_eq_true rfl) rfl dX12_read_25 (c_X12_parses hc) (fun v2 τ2 hq => ?_)
  obtain ⟨rfl, hτ⟩ := hq
  subst τ2
  change Z _ _ _ _ _ [.int (v)] _
  exact zb_X12_read_28 h
def F_X12_read_19 (σ : Mm) : Option (Int32 × Mm) := (bnv (F_X12_begin 1 σ) (fun τ => (F_X12_read_24 τ)))
set_option maxRecDepth 20000 in
theorem zb_X12_read_19 {S : Shp} {σ : Mm} {r : Int32 × Mm} (h : F_X12_read_19 σ = some r) : Z m_X12_read S (Qi r) 19 [(0, .ref (sL S 3 0 0))] [] σ := by
  unfold F_X12_read_19 at h
  refine z_aload_n dX12_read_19 rfl 0 rfl ?_
  refine z_iconst (v := 1) dX12_read_20 (by decide) ?_
  obtain ⟨τ, hc, h⟩ := bnv_e h
  refine z_callV (M' := m_X12_begin) (t := 3) (i := 0) (k := 0) (As := [.int (1)]) (rest := []) kl_12_218 oy_X12_begin ⟨Nat.le_of_ble_eq_true rfl, Nat.le_of_ble_eq_true rfl⟩ rfl rfl rfl rfl (Nat.le_of_ble_eq_true rfl) rfl dX12_read_21 (c_X12_begin hc) (fun v2 τ2 hq => ?_)
  obtain ⟨rfl, hτ⟩ := hq
  subst τ2
  change Z _ _ _ _ _ [] _
  exact zb_X12_read_24 h
def F_X12_read_14 (σ : Mm) : Option (Int32 × Mm) := (F_X12_read_19 (setA σ 3 0 0 (upd (mA σ 3 0 0) 10 0)))
set_option maxRecDepth 20000 in
theorem zb_X12_read_14 {S : Shp} {σ : Mm} {r : Int32 × Mm} (h : F_X12_read_14 σ = some r) : Z m_X12_read S (Qi r) 14 [(0, .ref (sL S 3 0 0))] [] σ := by
  unfold F_X12_read_14 at h
  refine z_aload_n dX12_read_14 rfl 0 rfl ?_
  refine z_iconst (v := 0) dX12_read_15 (by decide) ?_
  refine pf_12_308 rfl dX12_read_16 ?_
  exact zb_X12_read_19 h
def F_X12_read_9 (σ : Mm) : Option (Int32 × Mm) := (F_X12_read_14 (setA σ 3 0 0 (upd (mA σ 3 0 0) 9 ((-1)))))
set_option maxRecDepth 20000 in
theorem zb_X12_read_9 {S : Shp} {σ : Mm} {r : Int32 × Mm} (h : F_X12_read_9 σ = some r) : Z m_X12_read S (Qi r) 9 [(0, .ref (sL S 3 0 0))] [] σ := by
  unfold F_X12_read_9 at h
  refine z_aload_n dX12_read_9 rfl 0 rfl ?_
  refine z_iconst (v := (-1)) dX12_read_10 (by decide) ?_
  refine pf_12_26 rfl dX12_read_11 ?_
  exact zb_X12_read_14 h
def F_X12_read_4 (σ : Mm) : Option (Int32 × Mm) := (F_X12_read_9 (setA σ 3 0 0 (upd (mA σ 3 0 0) 8 0)))
set_option maxRecDepth 20000 in
theorem zb_X12_read_4 {S : Shp} {σ : Mm} {r : Int32 × Mm} (h : F_X12_read_4 σ = some r) : Z m_X12_read S (Qi r) 4 [(0, .ref (sL S 3 0 0))] [] σ := by
  unfold F_X12_read_4 at h
  refine z_aload_n dX12_read_4 rfl 0 rfl ?_
  refine z_iconst (v := 0) dX12_read_5 (by decide) ?_
  refine pf_12_302 rfl dX12_read_6 ?_
  exact zb_X12_read_9 h
def F_X12_read (σ : Mm) : Option (Int32 × Mm) := (bnv (F_X12_scanAll  σ) (fun τ => (F_X12_read_4 τ)))
set_option maxRecDepth 20000 in
theorem zb_X12_read {S : Shp} {σ : Mm} {r : Int32 × Mm} (h : F_X12_read σ = some r) : Z m_X12_read S (Qi r) 0 [(0, .ref (sL S 3 0 0))] [] σ := by
  unfold F_X12_read at h
  refine z_aload_n dX12_read_0 rfl 0 rfl ?_
  obtain ⟨τ, hc, h⟩ := bnv_e h
  refine z_callV (M' := m_X12_scanAll) (t := 3) (i := 0) (k := 0) (As := []) (rest := []) kl_12_398 oy_X12_scanAll ⟨Nat.le_of_ble_eq_true rfl, Nat.le_of_ble_eq_true rfl⟩ rfl rfl rfl rfl (Nat.le_of_ble_eq_true rfl) rfl dX12_read_1 (c_X12_scanAll hc) (fun v2 τ2 hq => ?_)
  obtain ⟨rfl, hτ⟩ := hq
  subst τ2
  change Z _ _ _ _ _ [] _
  exact zb_X12_read_4 h
/-- SkyStonesModel.read()I -/
theorem c_X12_read {S : Shp} {σ : Mm} {r : Int32 × Mm} (h : F_X12_read σ = some r) : Ct m_X12_read S [.ref (sL S 3 0 0)] σ (Qi r) := Ct.of (by decide +kernel) (Nat.le_of_ble_eq_true rfl) (zb_X12_read h)
def F_X12_rise_27 (s0 : Int32) (σ : Mm) : Option (Int32 × Mm) := some (s0, σ)
set_option maxRecDepth 20000 in
theorem zb_X12_rise_27 {S : Shp} {s0 : Int32} {σ : Mm} {r : Int32 × Mm} (h : F_X12_rise_27 s0 σ = some r) : Z m_X12_rise S (Qi r) 27 [] [.int (s0)] σ := by
  unfold F_X12_rise_27 at h
  refine z_goto (tgt := 31) dX12_rise_27 (by decide) ?_
  cases h
  exact z_ireturn dX12_rise_31 rfl rfl ⟨rfl, rfl⟩
def F_X12_rise (x1 : Int32) (x2 : Int32) (σ : Mm) : Option (Int32 × Mm) := (if x1 < 0 then some ((-1), σ) else (if inb 0 5 = true then (if (mA σ 3 0 21 (0 : Int32).toNatClampNeg) ≤ x1 then some ((-1), σ) else (if (f_X12_isYear x2) = 0 then some ((-1), σ) else (bnd (F_X12_riseOf x1 x2 σ) (fun v τ => (F_X12_rise_27 v τ))))) else none))
set_option maxRecDepth 20000 in
theorem zb_X12_rise {S : Shp} {x1 : Int32} {x2 : Int32} {σ : Mm} {r : Int32 × Mm} (h : F_X12_rise x1 x2 σ = some r) : Z m_X12_rise S (Qi r) 0 [(0, .ref (sL S 3 0 0)), (1, .int (x1)), (2, .int (x2))] [] σ := by
  unfold F_X12_rise at h
  refine z_iload_n dX12_rise_0 rfl 1 rfl ?_
  refine z_if_lt (tgt := 30) dX12_rise_1 (by decide) (fun q => ?_) (fun q => ?_)
  · have h := (if_pos q).symm.trans h
    refine z_iconst (v := (-1)) dX12_rise_30 (by decide) ?_
    cases h
    exact z_ireturn dX12_rise_31 rfl rfl ⟨rfl, rfl⟩
  · have h := (if_neg q).symm.trans h
    obtain ⟨g1, h⟩ := gd h
    refine z_iload_n dX12_rise_4 rfl 1 rfl ?_
    refine z_aload_n dX12_rise_5 rfl 0 rfl ?_
    refine gf_12_76 rfl dX12_rise_6 ?_
    refine z_iconst (v := 0) dX12_rise_9 (by decide) ?_
    refine ia_3_21 (inb_in g1) dX12_rise_10 ?_
    refine z_icmp_ge (tgt := 30) dX12_rise_11 (by decide) (fun q => ?_) (fun q => ?_)
    · have h := (if_pos q).symm.trans h
      refine z_iconst (v := (-1)) dX12_rise_30 (by decide) ?_
      cases h
      exact z_ireturn dX12_rise_31 rfl rfl ⟨rfl, rfl⟩
    · have h := (if_neg q).symm.trans h
      refine z_iload_n dX12_rise_14 rfl 2 rfl ?_
      refine z_callS (M' := m_X12_isYear) (As := [.int (x2)]) (rest := []) kl_12_472 oy_X12_isYear ⟨Nat.le_of_ble_eq_true rfl, Nat.le_of_ble_eq_true rfl⟩ rfl (Nat.le_of_ble_eq_true rfl) rfl dX12_rise_15 (c_X12_isYear rfl) (fun v τ hq => ?_)
      obtain ⟨rfl, hτ⟩ := hq
      subst τ
      change Z _ _ _ _ _ [.int (f_X12_isYear x2)] _
      refine z_if_eq (tgt := 30) dX12_rise_18 (by decide) (fun q => ?_) (fun q => ?_)
      · have h := (if_pos q).symm.trans h
        refine z_iconst (v := (-1)) dX12_rise_30 (by decide) ?_
        cases h
        exact z_ireturn dX12_rise_31 rfl rfl ⟨rfl, rfl⟩
      · have h := (if_neg q).symm.trans h
        refine z_aload_n dX12_rise_21 rfl 0 rfl ?_
        refine z_iload_n dX12_rise_22 rfl 1 rfl ?_
        refine z_iload_n dX12_rise_23 rfl 2 rfl ?_
        obtain ⟨v, τ, hc, h⟩ := bnd_e h
        refine z_callV (M' := m_X12_riseOf) (t := 3) (i := 0) (k := 0) (As := [.int (x1), .int (x2)]) (rest := []) kl_12_475 oy_X12_riseOf ⟨Nat.le_of_ble_eq_true rfl, Nat.le_of_ble_eq_true rfl⟩ rfl rfl rfl rfl (Nat.le_of_ble_eq_true rfl) rfl dX12_rise_24 (c_X12_riseOf hc) (fun v2 τ2 hq => ?_)
        obtain ⟨rfl, hτ⟩ := hq
        subst τ2
        change Z _ _ _ _ _ [.int (v)] _
        refine Z.lv [] rfl ?_
        exact zb_X12_rise_27 h
/-- SkyStonesModel.rise(II)I -/
theorem c_X12_rise {S : Shp} {x1 : Int32} {x2 : Int32} {σ : Mm} {r : Int32 × Mm} (h : F_X12_rise x1 x2 σ = some r) : Ct m_X12_rise S [.ref (sL S 3 0 0), .int (x1), .int (x2)] σ (Qi r) := Ct.of (by decide +kernel) (Nat.le_of_ble_eq_true rfl) (zb_X12_rise h)
def F_X12_say_148 (s0 : Int32) (σ : Mm) : Option (Int32 × Mm) := (if s0 = 0 then some (5, σ) else some (6, σ))
set_option maxRecDepth 20000 in
theorem zb_X12_say_148 {S : Shp} {s0 : Int32} {σ : Mm} {r : Int32 × Mm} (h : F_X12_say_148 s0 σ = some r) : Z m_X12_say S (Qi r) 148 [] [.int (s0)] σ := by
  unfold F_X12_say_148 at h
  refine z_if_ne (tgt := 155) dX12_say_148 (by decide) (fun q => ?_) (fun q => ?_)
  · have h := (if_neg q).symm.trans h
    refine z_bipush (v := 6) dX12_say_155 (by decide) ?_
    cases h
    exact z_ireturn dX12_say_157 rfl rfl ⟨rfl, rfl⟩
  · have h := (if_pos q).symm.trans h
    refine z_iconst (v := 5) dX12_say_151 (by decide) ?_
    refine z_goto (tgt := 157) dX12_say_152 (by decide) ?_
    cases h
    exact z_ireturn dX12_say_157 rfl rfl ⟨rfl, rfl⟩
def F_X12_say_131 (x1 : Int32) (σ : Mm) : Option (Int32 × Mm) := (if inb x1 196 = true then (if inb 0 5 = true then (bnd (F_X12_hitBy (mA σ 3 0 53 x1.toNatClampNeg) (mA σ 3 0 7 (0 : Int32).toNatClampNeg) 1 σ) (fun v τ => (F_X12_say_148 v τ))) else none) else none)
set_option maxRecDepth 20000 in
theorem zb_X12_say_131 {S : Shp} {x1 : Int32} {σ : Mm} {r : Int32 × Mm} (h : F_X12_say_131 x1 σ = some r) : Z m_X12_say S (Qi r) 131 [(0, .ref (sL S 3 0 0)), (1, .int (x1))] [] σ := by
  unfold F_X12_say_131 at h
  obtain ⟨g6, h⟩ := gd h
  refine z_aload_n dX12_say_131 rfl 0 rfl ?_
  refine z_aload_n dX12_say_132 rfl 0 rfl ?_
  refine gf_12_172 rfl dX12_say_133 ?_
  refine z_iload_n dX12_say_136 rfl 1 rfl ?_
  obtain ⟨g7, h⟩ := gd h
  refine ia_3_53 (inb_in g6) dX12_say_137 ?_
  refine z_aload_n dX12_say_138 rfl 0 rfl ?_
  refine gf_12_34 rfl dX12_say_139 ?_
  refine z_iconst (v := 0) dX12_say_142 (by decide) ?_
  refine ia_3_7 (inb_in g7) dX12_say_143 ?_
  refine z_iconst (v := 1) dX12_say_144 (by decide) ?_
  obtain ⟨v, τ, hc, h⟩ := bnd_e h
  refine z_callV (M' := m_X12_hitBy) (t := 3) (i := 0) (k := 0) (As := [.int (mA σ 3 0 53 x1.toNatClampNeg), .int (mA σ 3 0 7 (0 : Int32).toNatClampNeg), .int (1)]) (rest := []) kl_12_484 oy_X12_hitBy ⟨Nat.le_of_ble_eq_true rfl, Nat.le_of_ble_eq_true rfl⟩ rfl rfl rfl rfl (Nat.le_of_ble_eq_true rfl) rfl dX12_say_145 (c_X12_hitBy hc) (fun v2 τ2 hq => ?_)
  obtain ⟨rfl, hτ⟩ := hq
  subst τ2
  change Z _ _ _ _ _ [.int (v)] _
  refine Z.lv [] rfl ?_
  exact zb_X12_say_148 h
def F_X12_say_126 (x1 : Int32) (s0 : Int32) (σ : Mm) : Option (Int32 × Mm) := (if s0 = 0 then some (4, σ) else (F_X12_say_131 x1 σ))
set_option maxRecDepth 20000 in
theorem zb_X12_say_126 {S : Shp} {x1 : Int32} {s0 : Int32} {σ : Mm} {r : Int32 × Mm} (h : F_X12_say_126 x1 s0 σ = some r) : Z m_X12_say S (Qi r) 126 [(0, .ref (sL S 3 0 0)), (1, .int (x1))] [.int (s0)] σ := by
  unfold F_X12_say_126 at h
  refine z_if_ne (tgt := 131) dX12_say_126 (by decide) (fun q => ?_) (fun q => ?_)
  · have h := (if_neg q).symm.trans h
    exact zb_X12_say_131 h
  · have h := (if_pos q).symm.trans h
    refine z_iconst (v := 4) dX12_say_129 (by decide) ?_
    cases h
    exact z_ireturn dX12_say_130 rfl rfl ⟨rfl, rfl⟩
def F_X12_say_111 (x1 : Int32) (s0 : Int32) (σ : Mm) : Option (Int32 × Mm) := (if s0 = 0 then (bnd (F_X12_isDoor (x1 - x1 / (14 : Int32) * (14 : Int32)) (x1 / (14 : Int32)) σ) (fun v τ => (F_X12_say_126 x1 v τ))) else (F_X12_say_131 x1 σ))
set_option maxRecDepth 20000 in
theorem zb_X12_say_111 {S : Shp} {x1 : Int32} {s0 : Int32} {σ : Mm} {r : Int32 × Mm} (h : F_X12_say_111 x1 s0 σ = some r) : Z m_X12_say S (Qi r) 111 [(0, .ref (sL S 3 0 0)), (1, .int (x1))] [.int (s0)] σ := by
  unfold F_X12_say_111 at h
  refine z_if_ne (tgt := 131) dX12_say_111 (by decide) (fun q => ?_) (fun q => ?_)
  · have h := (if_neg q).symm.trans h
    exact zb_X12_say_131 h
  · have h := (if_pos q).symm.trans h
    refine z_aload_n dX12_say_114 rfl 0 rfl ?_
    refine z_iload_n dX12_say_115 rfl 1 rfl ?_
    refine z_bipush (v := 14) dX12_say_116 (by decide) ?_
    refine z_irem dX12_say_118 (by decide) ?_
    refine z_iload_n dX12_say_119 rfl 1 rfl ?_
    refine z_bipush (v := 14) dX12_say_120 (by decide) ?_
    refine z_idiv dX12_say_122 (by decide) ?_
    obtain ⟨v, τ, hc, h⟩ := bnd_e h
    refine z_callV (M' := m_X12_isDoor) (t := 3) (i := 0) (k := 0) (As := [.int (x1 - x1 / (14 : Int32) * (14 : Int32)), .int (x1 / (14 : Int32))]) (rest := []) kl_12_444 oy_X12_isDoor ⟨Nat.le_of_ble_eq_true rfl, Nat.le_of_ble_eq_true rfl⟩ rfl rfl rfl rfl (Nat.le_of_ble_eq_true rfl) rfl dX12_say_123 (c_X12_isDoor hc) (fun v2 τ2 hq => ?_)
    obtain ⟨rfl, hτ⟩ := hq
    subst τ2
    change Z _ _ _ _ _ [.int (v)] _
    exact zb_X12_say_126 h
def F_X12_say_92 (x1 : Int32) (s0 : Int32) (σ : Mm) : Option (Int32 × Mm) := (if s0 ≤ (18 : Int32) then (bnd (F_X12_isDoor (x1 / (14 : Int32)) (x1 - x1 / (14 : Int32) * (14 : Int32)) σ) (fun v τ => (F_X12_say_111 x1 v τ))) else some (3, σ))
set_option maxRecDepth 20000 in
theorem zb_X12_say_92 {S : Shp} {x1 : Int32} {s0 : Int32} {σ : Mm} {r : Int32 × Mm} (h : F_X12_say_92 x1 s0 σ = some r) : Z m_X12_say S (Qi r) 92 [(0, .ref (sL S 3 0 0)), (1, .int (x1))] [.int (s0)] σ := by
  unfold F_X12_say_92 at h
  refine z_bipush (v := 18) dX12_say_92 (by decide) ?_
  refine z_icmp_le (tgt := 99) dX12_say_94 (by decide) (fun q => ?_) (fun q => ?_)
  · have h := (if_pos q).symm.trans h
    refine z_aload_n dX12_say_99 rfl 0 rfl ?_
    refine z_iload_n dX12_say_100 rfl 1 rfl ?_
    refine z_bipush (v := 14) dX12_say_101 (by decide) ?_
    refine z_idiv dX12_say_103 (by decide) ?_
    refine z_iload_n dX12_say_104 rfl 1 rfl ?_
    refine z_bipush (v := 14) dX12_say_105 (by decide) ?_
    refine z_irem dX12_say_107 (by decide) ?_
    obtain ⟨v, τ, hc, h⟩ := bnd_e h
    refine z_callV (M' := m_X12_isDoor) (t := 3) (i := 0) (k := 0) (As := [.int (x1 / (14 : Int32)), .int (x1 - x1 / (14 : Int32) * (14 : Int32))]) (rest := []) kl_12_444 oy_X12_isDoor ⟨Nat.le_of_ble_eq_true rfl, Nat.le_of_ble_eq_true rfl⟩ rfl rfl rfl rfl (Nat.le_of_ble_eq_true rfl) rfl dX12_say_108 (c_X12_isDoor hc) (fun v2 τ2 hq => ?_)
    obtain ⟨rfl, hτ⟩ := hq
    subst τ2
    change Z _ _ _ _ _ [.int (v)] _
    exact zb_X12_say_111 h
  · have h := (if_neg q).symm.trans h
    refine z_iconst (v := 3) dX12_say_97 (by decide) ?_
    cases h
    exact z_ireturn dX12_say_98 rfl rfl ⟨rfl, rfl⟩
def F_X12_say_73 (x1 : Int32) (s0 : Int32) (σ : Mm) : Option (Int32 × Mm) := (if s0 = 0 then some (2, σ) else (if inb 0 5 = true then (bnd (F_X12_asMany (((1 : Int32) <<< ((mA σ 3 0 21 (0 : Int32).toNatClampNeg) &&& 31)) - (1 : Int32)) σ) (fun v τ => (F_X12_say_92 x1 v τ))) else none))
set_option maxRecDepth 20000 in
theorem zb_X12_say_73 {S : Shp} {x1 : Int32} {s0 : Int32} {σ : Mm} {r : Int32 × Mm} (h : F_X12_say_73 x1 s0 σ = some r) : Z m_X12_say S (Qi r) 73 [(0, .ref (sL S 3 0 0)), (1, .int (x1))] [.int (s0)] σ := by
  unfold F_X12_say_73 at h
  refine z_if_ne (tgt := 78) dX12_say_73 (by decide) (fun q => ?_) (fun q => ?_)
  · have h := (if_neg q).symm.trans h
    obtain ⟨g5, h⟩ := gd h
    refine z_aload_n dX12_say_78 rfl 0 rfl ?_
    refine z_iconst (v := 1) dX12_say_79 (by decide) ?_
    refine z_aload_n dX12_say_80 rfl 0 rfl ?_
    refine gf_12_76 rfl dX12_say_81 ?_
    refine z_iconst (v := 0) dX12_say_84 (by decide) ?_
    refine ia_3_21 (inb_in g5) dX12_say_85 ?_
    refine z_ishl dX12_say_86 ?_
    refine z_iconst (v := 1) dX12_say_87 (by decide) ?_
    refine z_isub dX12_say_88 ?_
    obtain ⟨v, τ, hc, h⟩ := bnd_e h
    refine z_callV (M' := m_X12_asMany) (t := 3) (i := 0) (k := 0) (As := [.int (((1 : Int32) <<< ((mA σ 3 0 21 (0 : Int32).toNatClampNeg) &&& 31)) - (1 : Int32))]) (rest := []) kl_12_500 oy_X12_asMany ⟨Nat.le_of_ble_eq_true rfl, Nat.le_of_ble_eq_true rfl⟩ rfl rfl rfl rfl (Nat.le_of_ble_eq_true rfl) rfl dX12_say_89 (c_X12_asMany hc) (fun v2 τ2 hq => ?_)
    obtain ⟨rfl, hτ⟩ := hq
    subst τ2
    change Z _ _ _ _ _ [.int (v)] _
    exact zb_X12_say_92 h
  · have h := (if_pos q).symm.trans h
    refine z_iconst (v := 2) dX12_say_76 (by decide) ?_
    cases h
    exact z_ireturn dX12_say_77 rfl rfl ⟨rfl, rfl⟩
def F_X12_say_34 (x1 : Int32) (σ : Mm) : Option (Int32 × Mm) := (if inb x1 196 = true then (if (mA σ 3 0 52 x1.toNatClampNeg) = 0 then some (0, σ) else (if inb x1 196 = true then (if (mA σ 3 0 55 x1.toNatClampNeg) = 0 then some (1, σ) else (if inb x1 196 = true then (if inb 0 5 = true then (bnd (F_X12_hitBy (mA σ 3 0 53 x1.toNatClampNeg) (mA σ 3 0 7 (0 : Int32).toNatClampNeg) 0 σ) (fun v τ => (F_X12_say_73 x1 v τ))) else none) else none)) else none)) else none)
set_option maxRecDepth 20000 in
theorem zb_X12_say_34 {S : Shp} {x1 : Int32} {σ : Mm} {r : Int32 × Mm} (h : F_X12_say_34 x1 σ = some r) : Z m_X12_say S (Qi r) 34 [(0, .ref (sL S 3 0 0)), (1, .int (x1))] [] σ := by
  unfold F_X12_say_34 at h
  obtain ⟨g1, h⟩ := gd h
  refine z_aload_n dX12_say_34 rfl 0 rfl ?_
  refine gf_12_169 rfl dX12_say_35 ?_
  refine z_iload_n dX12_say_38 rfl 1 rfl ?_
  refine ia_3_52 (inb_in g1) dX12_say_39 ?_
  refine z_if_ne (tgt := 45) dX12_say_40 (by decide) (fun q => ?_) (fun q => ?_)
  · have h := (if_neg q).symm.trans h
    obtain ⟨g2, h⟩ := gd h
    refine z_aload_n dX12_say_45 rfl 0 rfl ?_
    refine gf_12_178 rfl dX12_say_46 ?_
    refine z_iload_n dX12_say_49 rfl 1 rfl ?_
    refine ia_3_55 (inb_in g2) dX12_say_50 ?_
    refine z_if_ne (tgt := 56) dX12_say_51 (by decide) (fun q => ?_) (fun q => ?_)
    · have h := (if_neg q).symm.trans h
      obtain ⟨g3, h⟩ := gd h
      refine z_aload_n dX12_say_56 rfl 0 rfl ?_
      refine z_aload_n dX12_say_57 rfl 0 rfl ?_
      refine gf_12_172 rfl dX12_say_58 ?_
      refine z_iload_n dX12_say_61 rfl 1 rfl ?_
      obtain ⟨g4, h⟩ := gd h
      refine ia_3_53 (inb_in g3) dX12_say_62 ?_
      refine z_aload_n dX12_say_63 rfl 0 rfl ?_
      refine gf_12_34 rfl dX12_say_64 ?_
      refine z_iconst (v := 0) dX12_say_67 (by decide) ?_
      refine ia_3_7 (inb_in g4) dX12_say_68 ?_
      refine z_iconst (v := 0) dX12_say_69 (by decide) ?_
      obtain ⟨v, τ, hc, h⟩ := bnd_e h
      refine z_callV (M' := m_X12_hitBy) (t := 3) (i := 0) (k := 0) (As := [.int (mA σ 3 0 53 x1.toNatClampNeg), .int (mA σ 3 0 7 (0 : Int32).toNatClampNeg), .int (0)]) (rest := []) kl_12_484 oy_X12_hitBy ⟨Nat.le_of_ble_eq_true rfl, Nat.le_of_ble_eq_true rfl⟩ rfl rfl rfl rfl (Nat.le_of_ble_eq_true rfl) rfl dX12_say_70 (c_X12_hitBy hc) (fun v2 τ2 hq => ?_)
      obtain ⟨rfl, hτ⟩ := hq
      subst τ2
      change Z _ _ _ _ _ [.int (v)] _
      exact zb_X12_say_73 h
    · have h := (if_pos q).symm.trans h
      refine z_iconst (v := 1) dX12_say_54 (by decide) ?_
      cases h
      exact z_ireturn dX12_say_55 rfl rfl ⟨rfl, rfl⟩
  · have h := (if_pos q).symm.trans h
    refine z_iconst (v := 0) dX12_say_43 (by decide) ?_
    cases h
    exact z_ireturn dX12_say_44 rfl rfl ⟨rfl, rfl⟩
def F_X12_say_23 (x1 : Int32) (x2 : Int32) (x3 : Int32) (s0 : Int32) (σ : Mm) : Option (Int32 × Mm) := (if s0 = 0 then some ((-1), σ) else (bnv (F_X12_layAll x2 x3 σ) (fun τ => (F_X12_say_34 x1 τ))))
set_option maxRecDepth 20000 in
theorem zb_X12_say_23 {S : Shp} {x1 : Int32} {x2 : Int32} {x3 : Int32} {s0 : Int32} {σ : Mm} {r : Int32 × Mm} (h : F_X12_say_23 x1 x2 x3 s0 σ = some r) : Z m_X12_say S (Qi r) 23 [(0, .ref (sL S 3 0 0)), (1, .int (x1)), (2, .int (x2)), (3, .int (x3))] [.int (s0)] σ := by
  unfold F_X12_say_23 at h
  refine z_if_ne (tgt := 28) dX12_say_23 (by decide) (fun q => ?_) (fun q => ?_)
  · have h := (if_neg q).symm.trans h
    refine z_aload_n dX12_say_28 rfl 0 rfl ?_
    refine z_iload_n dX12_say_29 rfl 2 rfl ?_
    refine z_iload_n dX12_say_30 rfl 3 rfl ?_
    obtain ⟨τ, hc, h⟩ := bnv_e h
    refine z_callV (M' := m_X12_layAll) (t := 3) (i := 0) (k := 0) (As := [.int (x2), .int (x3)]) (rest := []) kl_12_494 oy_X12_layAll ⟨Nat.le_of_ble_eq_true rfl, Nat.le_of_ble_eq_true rfl⟩ rfl rfl rfl rfl (Nat.le_of_ble_eq_true rfl) rfl dX12_say_31 (c_X12_layAll hc) (fun v2 τ2 hq => ?_)
    obtain ⟨rfl, hτ⟩ := hq
    subst τ2
    change Z _ _ _ _ _ [] _
    refine Z.lv [0, 1] rfl ?_
    exact zb_X12_say_34 h
  · have h := (if_pos q).symm.trans h
    refine z_iconst (v := (-1)) dX12_say_26 (by decide) ?_
    cases h
    exact z_ireturn dX12_say_27 rfl rfl ⟨rfl, rfl⟩
def F_X12_say (x1 : Int32) (x2 : Int32) (x3 : Int32) (σ : Mm) : Option (Int32 × Mm) := (if (f_X12_isIn x1 0 195) = 0 then some ((-1), σ) else (if (f_X12_isYear x2) = 0 then some ((-1), σ) else (bnd (F_X12_isKnown x3 σ) (fun v τ => (F_X12_say_23 x1 x2 x3 v τ)))))
set_option maxRecDepth 20000 in
theorem zb_X12_say {S : Shp} {x1 : Int32} {x2 : Int32} {x3 : Int32} {σ : Mm} {r : Int32 × Mm} (h : F_X12_say x1 x2 x3 σ = some r) : Z m_X12_say S (Qi r) 0 [(0, .ref (sL S 3 0 0)), (1, .int (x1)), (2, .int (x2)), (3, .int (x3))] [] σ := by
  unfold F_X12_say at h
  refine z_iload_n dX12_say_0 rfl 1 rfl ?_
  refine z_iconst (v := 0) dX12_say_1 (by decide) ?_
  refine z_sipush (v := 195) dX12_say_2 (by decide) ?_
  refine z_callS (M' := m_X12_isIn) (As := [.int (x1), .int (0), .int (195)]) (rest := []) kl_12_407 oy_X12_isIn ⟨Nat.le_of_ble_eq_true rfl, Nat.le_of_ble_eq_true rfl⟩ rfl (Nat.le_of_ble_eq_true rfl) rfl dX12_say_5 (c_X12_isIn rfl) (fun v τ hq => ?_)
  obtain ⟨rfl, hτ⟩ := hq
  subst τ
  change Z _ _ _ _ _ [.int (f_X12_isIn x1 0 195)] _
  refine z_if_eq (tgt := 26) dX12_say_8 (by decide) (fun q => ?_) (fun q => ?_)
  · have h := (if_pos q).symm.trans h
    refine z_iconst (v := (-1)) dX12_say_26 (by decide) ?_
    cases h
    exact z_ireturn dX12_say_27 rfl rfl ⟨rfl, rfl⟩
  · have h := (if_neg q).symm.trans h
    refine z_iload_n dX12_say_11 rfl 2 rfl ?_
    refine z_callS (M' := m_X12_isYear) (As := [.int (x2)]) (rest := []) kl_12_472 oy_X12_isYear ⟨Nat.le_of_ble_eq_true rfl, Nat.le_of_ble_eq_true rfl⟩ rfl (Nat.le_of_ble_eq_true rfl) rfl dX12_say_12 (c_X12_isYear rfl) (fun v τ hq => ?_)
    obtain ⟨rfl, hτ⟩ := hq
    subst τ
    change Z _ _ _ _ _ [.int (f_X12_isYear x2)] _
    refine z_if_eq (tgt := 26) dX12_say_15 (by decide) (fun q => ?_) (fun q => ?_)
    · have h := (if_pos q).symm.trans h
      refine z_iconst (v := (-1)) dX12_say_26 (by decide) ?_
      cases h
      exact z_ireturn dX12_say_27 rfl rfl ⟨rfl, rfl⟩
    · have h := (if_neg q).symm.trans h
      refine z_aload_n dX12_say_18 rfl 0 rfl ?_
      refine z_iload_n dX12_say_19 rfl 3 rfl ?_
      obtain ⟨v, τ, hc, h⟩ := bnd_e h
      refine z_callV (M' := m_X12_isKnown) (t := 3) (i := 0) (k := 0) (As := [.int (x3)]) (rest := []) kl_12_457 oy_X12_isKnown ⟨Nat.le_of_ble_eq_true rfl, Nat.le_of_ble_eq_true rfl⟩ rfl rfl rfl rfl (Nat.le_of_ble_eq_true rfl) rfl dX12_say_20 (c_X12_isKnown hc) (fun v2 τ2 hq => ?_)
      obtain ⟨rfl, hτ⟩ := hq
      subst τ2
      change Z _ _ _ _ _ [.int (v)] _
      exact zb_X12_say_23 h
/-- SkyStonesModel.say(III)I -/
theorem c_X12_say {S : Shp} {x1 : Int32} {x2 : Int32} {x3 : Int32} {σ : Mm} {r : Int32 × Mm} (h : F_X12_say x1 x2 x3 σ = some r) : Ct m_X12_say S [.ref (sL S 3 0 0), .int (x1), .int (x2), .int (x3)] σ (Qi r) := Ct.of (by decide +kernel) (Nat.le_of_ble_eq_true rfl) (zb_X12_say h)
def F_X12_seen_49 (s0 : Int64) (σ : Mm) : Option (Int64 × Mm) := some (s0, σ)
set_option maxRecDepth 20000 in
theorem zb_X12_seen_49 {S : Shp} {s0 : Int64} {σ : Mm} {r : Int64 × Mm} (h : F_X12_seen_49 s0 σ = some r) : Z m_X12_seen S (Ql r) 49 [] [.long (s0)] σ := by
  unfold F_X12_seen_49 at h
  refine z_goto (tgt := 55) dX12_seen_49 (by decide) ?_
  cases h
  exact z_lreturn dX12_seen_55 rfl ⟨rfl, rfl⟩
def F_X12_seen (x1 : Int32) (x2 : Int32) (x3 : Int32) (x4 : Int32) (σ : Mm) : Option (Int64 × Mm) := (if (f_X12_isIn x1 0 12) = 0 then some ((-1), σ) else (if (f_X12_isIn x2 0 13) = 0 then some ((-1), σ) else (if (f_X12_isIn x4 1 9) = 0 then some ((-1), σ) else (if (f_X12_isIn x3 0 x4) = 0 then some ((-1), σ) else (bnl (F_X12_rows x1 x2 x3 x4 σ) (fun v τ => (F_X12_seen_49 v τ)))))))
set_option maxRecDepth 20000 in
theorem zb_X12_seen {S : Shp} {x1 : Int32} {x2 : Int32} {x3 : Int32} {x4 : Int32} {σ : Mm} {r : Int64 × Mm} (h : F_X12_seen x1 x2 x3 x4 σ = some r) : Z m_X12_seen S (Ql r) 0 [(0, .ref (sL S 3 0 0)), (1, .int (x1)), (2, .int (x2)), (3, .int (x3)), (4, .int (x4))] [] σ := by
  unfold F_X12_seen at h
  refine z_iload_n dX12_seen_0 rfl 1 rfl ?_
  refine z_iconst (v := 0) dX12_seen_1 (by decide) ?_
  refine z_bipush (v := 12) dX12_seen_2 (by decide) ?_
  refine z_callS (M' := m_X12_isIn) (As := [.int (x1), .int (0), .int (12)]) (rest := []) kl_12_407 oy_X12_isIn ⟨Nat.le_of_ble_eq_true rfl, Nat.le_of_ble_eq_true rfl⟩ rfl (Nat.le_of_ble_eq_true rfl) rfl dX12_seen_4 (c_X12_isIn rfl) (fun v τ hq => ?_)
  obtain ⟨rfl, hτ⟩ := hq
  subst τ
  change Z _ _ _ _ _ [.int (f_X12_isIn x1 0 12)] _
  refine z_if_eq (tgt := 52) dX12_seen_7 (by decide) (fun q => ?_) (fun q => ?_)
  · have h := (if_pos q).symm.trans h
    refine z_ldc2 qw_1804 dX12_seen_52 ?_
    cases h
    exact z_lreturn dX12_seen_55 rfl ⟨rfl, rfl⟩
  · have h := (if_neg q).symm.trans h
    refine z_iload_n dX12_seen_10 rfl 2 rfl ?_
    refine z_iconst (v := 0) dX12_seen_11 (by decide) ?_
    refine z_bipush (v := 13) dX12_seen_12 (by decide) ?_
    refine z_callS (M' := m_X12_isIn) (As := [.int (x2), .int (0), .int (13)]) (rest := []) kl_12_407 oy_X12_isIn ⟨Nat.le_of_ble_eq_true rfl, Nat.le_of_ble_eq_true rfl⟩ rfl (Nat.le_of_ble_eq_true rfl) rfl dX12_seen_14 (c_X12_isIn rfl) (fun v τ hq => ?_)
    obtain ⟨rfl, hτ⟩ := hq
    subst τ
    change Z _ _ _ _ _ [.int (f_X12_isIn x2 0 13)] _
    refine z_if_eq (tgt := 52) dX12_seen_17 (by decide) (fun q => ?_) (fun q => ?_)
    · have h := (if_pos q).symm.trans h
      refine z_ldc2 qw_1804 dX12_seen_52 ?_
      cases h
      exact z_lreturn dX12_seen_55 rfl ⟨rfl, rfl⟩
    · have h := (if_neg q).symm.trans h
      refine z_iload dX12_seen_20 4 rfl ?_
      refine z_iconst (v := 1) dX12_seen_22 (by decide) ?_
      refine z_bipush (v := 9) dX12_seen_23 (by decide) ?_
      refine z_callS (M' := m_X12_isIn) (As := [.int (x4), .int (1), .int (9)]) (rest := []) kl_12_407 oy_X12_isIn ⟨Nat.le_of_ble_eq_true rfl, Nat.le_of_ble_eq_true rfl⟩ rfl (Nat.le_of_ble_eq_true rfl) rfl dX12_seen_25 (c_X12_isIn rfl) (fun v τ hq => ?_)
      obtain ⟨rfl, hτ⟩ := hq
      subst τ
      change Z _ _ _ _ _ [.int (f_X12_isIn x4 1 9)] _
      refine z_if_eq (tgt := 52) dX12_seen_28 (by decide) (fun q => ?_) (fun q => ?_)
      · have h := (if_pos q).symm.trans h
        refine z_ldc2 qw_1804 dX12_seen_52 ?_
        cases h
        exact z_lreturn dX12_seen_55 rfl ⟨rfl, rfl⟩
      · have h := (if_neg q).symm.trans h
        refine z_iload_n dX12_seen_31 rfl 3 rfl ?_
        refine z_iconst (v := 0) dX12_seen_32 (by decide) ?_
        refine z_iload dX12_seen_33 4 rfl ?_
        refine z_callS (M' := m_X12_isIn) (As := [.int (x3), .int (0), .int (x4)]) (rest := []) kl_12_407 oy_X12_isIn ⟨Nat.le_of_ble_eq_true rfl, Nat.le_of_ble_eq_true rfl⟩ rfl (Nat.le_of_ble_eq_true rfl) rfl dX12_seen_35 (c_X12_isIn rfl) (fun v τ hq => ?_)
        obtain ⟨rfl, hτ⟩ := hq
        subst τ
        change Z _ _ _ _ _ [.int (f_X12_isIn x3 0 x4)] _
        refine z_if_eq (tgt := 52) dX12_seen_38 (by decide) (fun q => ?_) (fun q => ?_)
        · have h := (if_pos q).symm.trans h
          refine z_ldc2 qw_1804 dX12_seen_52 ?_
          cases h
          exact z_lreturn dX12_seen_55 rfl ⟨rfl, rfl⟩
        · have h := (if_neg q).symm.trans h
          refine z_iload_n dX12_seen_41 rfl 1 rfl ?_
          refine z_iload_n dX12_seen_42 rfl 2 rfl ?_
          refine z_iload_n dX12_seen_43 rfl 3 rfl ?_
          refine z_iload dX12_seen_44 4 rfl ?_
          obtain ⟨v, τ, hc, h⟩ := bnl_e h
          refine z_callS (M' := m_X12_rows) (As := [.int (x1), .int (x2), .int (x3), .int (x4)]) (rest := []) kl_12_526 oy_X12_rows ⟨Nat.le_of_ble_eq_true rfl, Nat.le_of_ble_eq_true rfl⟩ rfl (Nat.le_of_ble_eq_true rfl) rfl dX12_seen_46 (c_X12_rows hc) (fun v2 τ2 hq => ?_)
          obtain ⟨rfl, hτ⟩ := hq
          subst τ2
          change Z _ _ _ _ _ [.long (v)] _
          refine Z.lv [] rfl ?_
          exact zb_X12_seen_49 h
/-- SkyStonesModel.seen(IIII)J -/
theorem c_X12_seen {S : Shp} {x1 : Int32} {x2 : Int32} {x3 : Int32} {x4 : Int32} {σ : Mm} {r : Int64 × Mm} (h : F_X12_seen x1 x2 x3 x4 σ = some r) : Ct m_X12_seen S [.ref (sL S 3 0 0), .int (x1), .int (x2), .int (x3), .int (x4)] σ (Ql r) := Ct.of (by decide +kernel) (Nat.le_of_ble_eq_true rfl) (zb_X12_seen h)
def F_X12_site_63 (σ : Mm) : Option (Int32 × Mm) := some ((mA σ 3 0 0 52) - (1 : Int32), σ)
set_option maxRecDepth 20000 in
theorem zb_X12_site_63 {S : Shp} {σ : Mm} {r : Int32 × Mm} (h : F_X12_site_63 σ = some r) : Z m_X12_site S (Qi r) 63 [(0, .ref (sL S 3 0 0))] [] σ := by
  unfold F_X12_site_63 at h
  refine z_aload_n dX12_site_63 rfl 0 rfl ?_
  refine gf_12_513 rfl dX12_site_64 ?_
  refine z_iconst (v := 1) dX12_site_67 (by decide) ?_
  refine z_isub dX12_site_68 ?_
  cases h
  exact z_ireturn dX12_site_69 rfl rfl ⟨rfl, rfl⟩
def F_X12_site_53 (σ : Mm) : Option (Int32 × Mm) := (F_X12_site_63 (setA σ 3 0 0 (upd (mA σ 3 0 0) 52 ((mA σ 3 0 0 52) + (1 : Int32)))))
set_option maxRecDepth 20000 in
theorem zb_X12_site_53 {S : Shp} {σ : Mm} {r : Int32 × Mm} (h : F_X12_site_53 σ = some r) : Z m_X12_site S (Qi r) 53 [(0, .ref (sL S 3 0 0))] [] σ := by
  unfold F_X12_site_53 at h
  refine z_aload_n dX12_site_53 rfl 0 rfl ?_
  refine z_dup dX12_site_54 rfl ?_
  refine gf_12_513 rfl dX12_site_55 ?_
  refine z_iconst (v := 1) dX12_site_58 (by decide) ?_
  refine z_iadd dX12_site_59 ?_
  refine pf_12_513 rfl dX12_site_60 ?_
  exact zb_X12_site_63 h
def F_X12_site_43 (x2 : Int32) (σ : Mm) : Option (Int32 × Mm) := (if inb (mA σ 3 0 0 52) 6 = true then (F_X12_site_53 (setA σ 3 0 46 (upd (mA σ 3 0 46) (mA σ 3 0 0 52).toNatClampNeg x2))) else none)
set_option maxRecDepth 20000 in
theorem zb_X12_site_43 {S : Shp} {x2 : Int32} {σ : Mm} {r : Int32 × Mm} (h : F_X12_site_43 x2 σ = some r) : Z m_X12_site S (Qi r) 43 [(0, .ref (sL S 3 0 0)), (2, .int (x2))] [] σ := by
  unfold F_X12_site_43 at h
  obtain ⟨g2, h⟩ := gd h
  refine z_aload_n dX12_site_43 rfl 0 rfl ?_
  refine gf_12_151 rfl dX12_site_44 ?_
  refine z_aload_n dX12_site_47 rfl 0 rfl ?_
  refine gf_12_513 rfl dX12_site_48 ?_
  refine z_iload_n dX12_site_51 rfl 1 rfl ?_
  refine is_3_46 (inb_in g2) dX12_site_52 ?_
  refine Z.lv [0] rfl ?_
  exact zb_X12_site_53 h
def F_X12_site (x1 : Int32) (x2 : Int32) (σ : Mm) : Option (Int32 × Mm) := (if (mA σ 3 0 0 52) = (6 : Int32) then some ((-1), σ) else (if (f_X12_isIn x1 0 359) = 0 then some ((-1), σ) else (if (f_X12_isIn x2 0 359) = 0 then some ((-1), σ) else (if inb (mA σ 3 0 0 52) 6 = true then (F_X12_site_43 x2 (setA σ 3 0 45 (upd (mA σ 3 0 45) (mA σ 3 0 0 52).toNatClampNeg x1))) else none))))
set_option maxRecDepth 20000 in
theorem zb_X12_site {S : Shp} {x1 : Int32} {x2 : Int32} {σ : Mm} {r : Int32 × Mm} (h : F_X12_site x1 x2 σ = some r) : Z m_X12_site S (Qi r) 0 [(0, .ref (sL S 3 0 0)), (1, .int (x1)), (2, .int (x2))] [] σ := by
  unfold F_X12_site at h
  refine z_aload_n dX12_site_0 rfl 0 rfl ?_
  refine gf_12_513 rfl dX12_site_1 ?_
  refine z_bipush (v := 6) dX12_site_4 (by decide) ?_
  refine z_icmp_eq (tgt := 31) dX12_site_6 (by decide) (fun q => ?_) (fun q => ?_)
  · have h := (if_pos q).symm.trans h
    refine z_iconst (v := (-1)) dX12_site_31 (by decide) ?_
    cases h
    exact z_ireturn dX12_site_32 rfl rfl ⟨rfl, rfl⟩
  · have h := (if_neg q).symm.trans h
    refine z_iload_n dX12_site_9 rfl 1 rfl ?_
    refine z_iconst (v := 0) dX12_site_10 (by decide) ?_
    refine z_sipush (v := 359) dX12_site_11 (by decide) ?_
    refine z_callS (M' := m_X12_isIn) (As := [.int (x1), .int (0), .int (359)]) (rest := []) kl_12_407 oy_X12_isIn ⟨Nat.le_of_ble_eq_true rfl, Nat.le_of_ble_eq_true rfl⟩ rfl (Nat.le_of_ble_eq_true rfl) rfl dX12_site_14 (c_X12_isIn rfl) (fun v τ hq => ?_)
    obtain ⟨rfl, hτ⟩ := hq
    subst τ
    change Z _ _ _ _ _ [.int (f_X12_isIn x1 0 359)] _
    refine z_if_eq (tgt := 31) dX12_site_17 (by decide) (fun q => ?_) (fun q => ?_)
    · have h := (if_pos q).symm.trans h
      refine z_iconst (v := (-1)) dX12_site_31 (by decide) ?_
      cases h
      exact z_ireturn dX12_site_32 rfl rfl ⟨rfl, rfl⟩
    · have h := (if_neg q).symm.trans h
      refine z_iload_n dX12_site_20 rfl 2 rfl ?_
      refine z_iconst (v := 0) dX12_site_21 (by decide) ?_
      refine z_sipush (v := 359) dX12_site_22 (by decide) ?_
      refine z_callS (M' := m_X12_isIn) (As := [.int (x2), .int (0), .int (359)]) (rest := []) kl_12_407 oy_X12_isIn ⟨Nat.le_of_ble_eq_true rfl, Nat.le_of_ble_eq_true rfl⟩ rfl (Nat.le_of_ble_eq_true rfl) rfl dX12_site_25 (c_X12_isIn rfl) (fun v τ hq => ?_)
      obtain ⟨rfl, hτ⟩ := hq
      subst τ
      change Z _ _ _ _ _ [.int (f_X12_isIn x2 0 359)] _
      refine z_if_ne (tgt := 33) dX12_site_28 (by decide) (fun q => ?_) (fun q => ?_)
      · have h := (if_neg q).symm.trans h
        obtain ⟨g1, h⟩ := gd h
        refine z_aload_n dX12_site_33 rfl 0 rfl ?_
        refine gf_12_148 rfl dX12_site_34 ?_
        refine z_aload_n dX12_site_37 rfl 0 rfl ?_
        refine gf_12_513 rfl dX12_site_38 ?_
        refine z_iload_n dX12_site_41 rfl 1 rfl ?_
        refine is_3_45 (inb_in g1) dX12_site_42 ?_
        refine Z.lv [0, 2] rfl ?_
        exact zb_X12_site_43 h
      · have h := (if_pos q).symm.trans h
        refine z_iconst (v := (-1)) dX12_site_31 (by decide) ?_
        cases h
        exact z_ireturn dX12_site_32 rfl rfl ⟨rfl, rfl⟩
/-- SkyStonesModel.site(II)I -/
theorem c_X12_site {S : Shp} {x1 : Int32} {x2 : Int32} {σ : Mm} {r : Int32 × Mm} (h : F_X12_site x1 x2 σ = some r) : Ct m_X12_site S [.ref (sL S 3 0 0), .int (x1), .int (x2)] σ (Qi r) := Ct.of (by decide +kernel) (Nat.le_of_ble_eq_true rfl) (zb_X12_site h)
