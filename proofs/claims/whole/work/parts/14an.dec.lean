def F_X12_count_143 (s0 : Int32) (s1 : Int32) (σ : Mm) : Option (Int32 × Mm) := (if inb 4 5 = true then (if (mA σ 3 0 6 (4 : Int32).toNatClampNeg) = 0 then some ((s1 + s0) + (0 : Int32), σ) else some ((s1 + s0) + (1 : Int32), σ)) else none)
set_option maxRecDepth 20000 in
theorem zb_X12_count_143 {S : Shp} {s0 : Int32} {s1 : Int32} {σ : Mm} {r : Int32 × Mm} (h : F_X12_count_143 s0 s1 σ = some r) : Z m_X12_count S (Qi r) 143 [(0, .ref (sL S 3 0 0))] [.int (s0), .int (s1)] σ := by
  unfold F_X12_count_143 at h
  obtain ⟨g20, h⟩ := gd h
  refine z_iadd dX12_count_143 ?_
  refine z_aload_n dX12_count_144 rfl 0 rfl ?_
  refine gf_12_30 rfl dX12_count_145 ?_
  refine z_iconst (v := 4) dX12_count_148 (by decide) ?_
  refine ia_3_6 (inb_in g20) dX12_count_149 ?_
  refine z_if_eq (tgt := 157) dX12_count_150 (by decide) (fun q => ?_) (fun q => ?_)
  · have h := (if_pos q).symm.trans h
    refine z_iconst (v := 0) dX12_count_157 (by decide) ?_
    refine z_iadd dX12_count_158 ?_
    cases h
    exact z_ireturn dX12_count_159 rfl rfl ⟨rfl, rfl⟩
  · have h := (if_neg q).symm.trans h
    refine z_iconst (v := 1) dX12_count_153 (by decide) ?_
    refine z_goto (tgt := 158) dX12_count_154 (by decide) ?_
    refine z_iadd dX12_count_158 ?_
    cases h
    exact z_ireturn dX12_count_159 rfl rfl ⟨rfl, rfl⟩
def F_X12_count_129 (s0 : Int32) (σ : Mm) : Option (Int32 × Mm) := (if inb 3 5 = true then (if (mA σ 3 0 6 (3 : Int32).toNatClampNeg) = 0 then (F_X12_count_143 0 s0 σ) else (F_X12_count_143 1 s0 σ)) else none)
set_option maxRecDepth 20000 in
theorem zb_X12_count_129 {S : Shp} {s0 : Int32} {σ : Mm} {r : Int32 × Mm} (h : F_X12_count_129 s0 σ = some r) : Z m_X12_count S (Qi r) 129 [(0, .ref (sL S 3 0 0))] [.int (s0)] σ := by
  unfold F_X12_count_129 at h
  obtain ⟨g19, h⟩ := gd h
  refine z_aload_n dX12_count_129 rfl 0 rfl ?_
  refine gf_12_30 rfl dX12_count_130 ?_
  refine z_iconst (v := 3) dX12_count_133 (by decide) ?_
  refine ia_3_6 (inb_in g19) dX12_count_134 ?_
  refine z_if_eq (tgt := 142) dX12_count_135 (by decide) (fun q => ?_) (fun q => ?_)
  · have h := (if_pos q).symm.trans h
    refine z_iconst (v := 0) dX12_count_142 (by decide) ?_
    exact zb_X12_count_143 h
  · have h := (if_neg q).symm.trans h
    refine z_iconst (v := 1) dX12_count_138 (by decide) ?_
    refine z_goto (tgt := 143) dX12_count_139 (by decide) ?_
    exact zb_X12_count_143 h
def F_X12_count (x1 : Int32) (σ : Mm) : Option (Int32 × Mm) := (if x1 = 0 then (if inb 0 5 = true then some (mA σ 3 0 8 (0 : Int32).toNatClampNeg, σ) else none) else (if x1 = 1 then (if inb 0 5 = true then some (mA σ 3 0 14 (0 : Int32).toNatClampNeg, σ) else none) else (if x1 = 2 then (if inb 0 5 = true then some (mA σ 3 0 17 (0 : Int32).toNatClampNeg, σ) else none) else (if x1 = 3 then (if inb 0 5 = true then some (mA σ 3 0 21 (0 : Int32).toNatClampNeg, σ) else none) else (if x1 = 4 then (if inb 0 5 = true then some (mA σ 3 0 25 (0 : Int32).toNatClampNeg, σ) else none) else (if x1 = 5 then (if inb 0 5 = true then some (mA σ 3 0 7 (0 : Int32).toNatClampNeg, σ) else none) else (if x1 = 6 then (if inb 0 5 = true then some (mA σ 3 0 38 (0 : Int32).toNatClampNeg, σ) else none) else (if x1 = 7 then some (mA σ 3 0 0 52, σ) else (if x1 = 8 then some (mA σ 3 0 0 0, σ) else (if x1 = 9 then (if inb 2 5 = true then (if (mA σ 3 0 6 (2 : Int32).toNatClampNeg) = 0 then (F_X12_count_129 0 σ) else (F_X12_count_129 1 σ)) else none) else some ((-1), σ)))))))))))
set_option maxRecDepth 20000 in
theorem zb_X12_count {S : Shp} {x1 : Int32} {σ : Mm} {r : Int32 × Mm} (h : F_X12_count x1 σ = some r) : Z m_X12_count S (Qi r) 0 [(0, .ref (sL S 3 0 0)), (1, .int (x1))] [] σ := by
  unfold F_X12_count at h
  refine z_iload_n dX12_count_0 rfl 1 rfl ?_
  by_cases g1 : x1 = 0
  · have h := (if_pos g1).symm.trans h
    obtain ⟨g18, h⟩ := gd h
    refine z_tableIn (tgt := 56) (off := 55) dX12_count_1 (by rw [g1]; decide) (by rw [g1]; decide) (by rw [g1]; rfl) (by decide) ?_
    refine z_aload_n dX12_count_56 rfl 0 rfl ?_
    refine gf_12_37 rfl dX12_count_57 ?_
    refine z_iconst (v := 0) dX12_count_60 (by decide) ?_
    refine ia_3_8 (inb_in g18) dX12_count_61 ?_
    cases h
    exact z_ireturn dX12_count_62 rfl rfl ⟨rfl, rfl⟩
  · have h := (if_neg g1).symm.trans h
    by_cases g2 : x1 = 1
    · have h := (if_pos g2).symm.trans h
      obtain ⟨g17, h⟩ := gd h
      refine z_tableIn (tgt := 63) (off := 62) dX12_count_1 (by rw [g2]; decide) (by rw [g2]; decide) (by rw [g2]; rfl) (by decide) ?_
      refine z_aload_n dX12_count_63 rfl 0 rfl ?_
      refine gf_12_55 rfl dX12_count_64 ?_
      refine z_iconst (v := 0) dX12_count_67 (by decide) ?_
      refine ia_3_14 (inb_in g17) dX12_count_68 ?_
      cases h
      exact z_ireturn dX12_count_69 rfl rfl ⟨rfl, rfl⟩
    · have h := (if_neg g2).symm.trans h
      by_cases g3 : x1 = 2
      · have h := (if_pos g3).symm.trans h
        obtain ⟨g16, h⟩ := gd h
        refine z_tableIn (tgt := 70) (off := 69) dX12_count_1 (by rw [g3]; decide) (by rw [g3]; decide) (by rw [g3]; rfl) (by decide) ?_
        refine z_aload_n dX12_count_70 rfl 0 rfl ?_
        refine gf_12_64 rfl dX12_count_71 ?_
        refine z_iconst (v := 0) dX12_count_74 (by decide) ?_
        refine ia_3_17 (inb_in g16) dX12_count_75 ?_
        cases h
        exact z_ireturn dX12_count_76 rfl rfl ⟨rfl, rfl⟩
      · have h := (if_neg g3).symm.trans h
        by_cases g4 : x1 = 3
        · have h := (if_pos g4).symm.trans h
          obtain ⟨g15, h⟩ := gd h
          refine z_tableIn (tgt := 77) (off := 76) dX12_count_1 (by rw [g4]; decide) (by rw [g4]; decide) (by rw [g4]; rfl) (by decide) ?_
          refine z_aload_n dX12_count_77 rfl 0 rfl ?_
          refine gf_12_76 rfl dX12_count_78 ?_
          refine z_iconst (v := 0) dX12_count_81 (by decide) ?_
          refine ia_3_21 (inb_in g15) dX12_count_82 ?_
          cases h
          exact z_ireturn dX12_count_83 rfl rfl ⟨rfl, rfl⟩
        · have h := (if_neg g4).symm.trans h
          by_cases g5 : x1 = 4
          · have h := (if_pos g5).symm.trans h
            obtain ⟨g14, h⟩ := gd h
            refine z_tableIn (tgt := 84) (off := 83) dX12_count_1 (by rw [g5]; decide) (by rw [g5]; decide) (by rw [g5]; rfl) (by decide) ?_
            refine z_aload_n dX12_count_84 rfl 0 rfl ?_
            refine gf_12_88 rfl dX12_count_85 ?_
            refine z_iconst (v := 0) dX12_count_88 (by decide) ?_
            refine ia_3_25 (inb_in g14) dX12_count_89 ?_
            cases h
            exact z_ireturn dX12_count_90 rfl rfl ⟨rfl, rfl⟩
          · have h := (if_neg g5).symm.trans h
            by_cases g6 : x1 = 5
            · have h := (if_pos g6).symm.trans h
              obtain ⟨g13, h⟩ := gd h
              refine z_tableIn (tgt := 91) (off := 90) dX12_count_1 (by rw [g6]; decide) (by rw [g6]; decide) (by rw [g6]; rfl) (by decide) ?_
              refine z_aload_n dX12_count_91 rfl 0 rfl ?_
              refine gf_12_34 rfl dX12_count_92 ?_
              refine z_iconst (v := 0) dX12_count_95 (by decide) ?_
              refine ia_3_7 (inb_in g13) dX12_count_96 ?_
              cases h
              exact z_ireturn dX12_count_97 rfl rfl ⟨rfl, rfl⟩
            · have h := (if_neg g6).symm.trans h
              by_cases g7 : x1 = 6
              · have h := (if_pos g7).symm.trans h
                obtain ⟨g12, h⟩ := gd h
                refine z_tableIn (tgt := 98) (off := 97) dX12_count_1 (by rw [g7]; decide) (by rw [g7]; decide) (by rw [g7]; rfl) (by decide) ?_
                refine z_aload_n dX12_count_98 rfl 0 rfl ?_
                refine gf_12_127 rfl dX12_count_99 ?_
                refine z_iconst (v := 0) dX12_count_102 (by decide) ?_
                refine ia_3_38 (inb_in g12) dX12_count_103 ?_
                cases h
                exact z_ireturn dX12_count_104 rfl rfl ⟨rfl, rfl⟩
              · have h := (if_neg g7).symm.trans h
                by_cases g8 : x1 = 7
                · have h := (if_pos g8).symm.trans h
                  refine z_tableIn (tgt := 105) (off := 104) dX12_count_1 (by rw [g8]; decide) (by rw [g8]; decide) (by rw [g8]; rfl) (by decide) ?_
                  refine z_aload_n dX12_count_105 rfl 0 rfl ?_
                  refine gf_12_513 rfl dX12_count_106 ?_
                  cases h
                  exact z_ireturn dX12_count_109 rfl rfl ⟨rfl, rfl⟩
                · have h := (if_neg g8).symm.trans h
                  by_cases g9 : x1 = 8
                  · have h := (if_pos g9).symm.trans h
                    refine z_tableIn (tgt := 110) (off := 109) dX12_count_1 (by rw [g9]; decide) (by rw [g9]; decide) (by rw [g9]; rfl) (by decide) ?_
                    refine z_aload_n dX12_count_110 rfl 0 rfl ?_
                    refine gf_12_222 rfl dX12_count_111 ?_
                    cases h
                    exact z_ireturn dX12_count_114 rfl rfl ⟨rfl, rfl⟩
                  · have h := (if_neg g9).symm.trans h
                    by_cases g10 : x1 = 9
                    · have h := (if_pos g10).symm.trans h
                      obtain ⟨g11, h⟩ := gd h
                      refine z_tableIn (tgt := 115) (off := 114) dX12_count_1 (by rw [g10]; decide) (by rw [g10]; decide) (by rw [g10]; rfl) (by decide) ?_
                      refine z_aload_n dX12_count_115 rfl 0 rfl ?_
                      refine gf_12_30 rfl dX12_count_116 ?_
                      refine z_iconst (v := 2) dX12_count_119 (by decide) ?_
                      refine ia_3_6 (inb_in g11) dX12_count_120 ?_
                      refine z_if_eq (tgt := 128) dX12_count_121 (by decide) (fun q => ?_) (fun q => ?_)
                      · have h := (if_pos q).symm.trans h
                        refine z_iconst (v := 0) dX12_count_128 (by decide) ?_
                        refine Z.lv [0] rfl ?_
                        exact zb_X12_count_129 h
                      · have h := (if_neg q).symm.trans h
                        refine z_iconst (v := 1) dX12_count_124 (by decide) ?_
                        refine z_goto (tgt := 129) dX12_count_125 (by decide) ?_
                        refine Z.lv [0] rfl ?_
                        exact zb_X12_count_129 h
                    · have h := (if_neg g10).symm.trans h
                      refine z_tableOut (tgt := 160) dX12_count_1 (by have eg1 := nei (n := 0) (by decide) g1; have eg2 := nei (n := 1) (by decide) g2; have eg3 := nei (n := 2) (by decide) g3; have eg4 := nei (n := 3) (by decide) g4; have eg5 := nei (n := 4) (by decide) g5; have eg6 := nei (n := 5) (by decide) g6; have eg7 := nei (n := 6) (by decide) g7; have eg8 := nei (n := 7) (by decide) g8; have eg9 := nei (n := 8) (by decide) g9; have eg10 := nei (n := 9) (by decide) g10; omega) (by decide) ?_
                      refine z_iconst (v := (-1)) dX12_count_160 (by decide) ?_
                      cases h
                      exact z_ireturn dX12_count_161 rfl rfl ⟨rfl, rfl⟩
/-- SkyStonesModel.count(I)I -/
theorem c_X12_count {S : Shp} {x1 : Int32} {σ : Mm} {r : Int32 × Mm} (h : F_X12_count x1 σ = some r) : Ct m_X12_count S [.ref (sL S 3 0 0), .int (x1)] σ (Qi r) := Ct.of (by decide +kernel) (Nat.le_of_ble_eq_true rfl) (zb_X12_count h)
def f_X12_counts (x1 : Int32) (x2 : Int32) (x3 : Int32) (x4 : Int32) (x5 : Int32) (σ : Mm) : Int32 := (if (f_X12_isIn x1 1 100) = 0 then (-1) else (if (f_X12_isIn x2 1 100) = 0 then (-1) else (if (f_X12_isIn x3 1 100) = 0 then (-1) else (if (f_X12_isIn x4 1 9999) = 0 then (-1) else (if (f_X12_isIn x5 0 99) = 0 then (-1) else (if (f_X12_isCounting x1 x2 x3 x4 x5) = 0 then 0 else 1))))))
set_option maxRecDepth 20000 in
theorem zb_X12_counts {S : Shp} {x1 : Int32} {x2 : Int32} {x3 : Int32} {x4 : Int32} {x5 : Int32} {σ : Mm} {r : Int32} (hp : okP σ = true) (h : f_X12_counts x1 x2 x3 x4 x5 σ = r) : Z m_X12_counts S (Qi (r, σ)) 0 [(0, .ref (sL S 3 0 0)), (1, .int (x1)), (2, .int (x2)), (3, .int (x3)), (4, .int (x4)), (5, .int (x5))] [] σ := by
  unfold f_X12_counts at h
  refine z_iload_n dX12_counts_0 rfl 1 rfl ?_
  refine z_iconst (v := 1) dX12_counts_1 (by decide) ?_
  refine z_bipush (v := 100) dX12_counts_2 (by decide) ?_
  refine z_callS (M' := m_X12_isIn) (As := [.int (x1), .int (1), .int (100)]) (rest := []) kl_12_407 oy_X12_isIn ⟨Nat.le_of_ble_eq_true rfl, Nat.le_of_ble_eq_true rfl⟩ rfl (Nat.le_of_ble_eq_true rfl) rfl dX12_counts_4 (c_X12_isIn rfl) (fun v τ hq => ?_)
  obtain ⟨rfl, hτ⟩ := hq
  subst τ
  change Z _ _ _ _ _ [.int (f_X12_isIn x1 1 100)] _
  refine z_if_eq (tgt := 53) dX12_counts_7 (by decide) (fun q => ?_) (fun q => ?_)
  · have h := (if_pos q).symm.trans h
    refine z_iconst (v := (-1)) dX12_counts_53 (by decide) ?_
    subst h
    exact z_ireturn dX12_counts_54 rfl rfl ⟨rfl, rfl⟩
  · have h := (if_neg q).symm.trans h
    refine z_iload_n dX12_counts_10 rfl 2 rfl ?_
    refine z_iconst (v := 1) dX12_counts_11 (by decide) ?_
    refine z_bipush (v := 100) dX12_counts_12 (by decide) ?_
    refine z_callS (M' := m_X12_isIn) (As := [.int (x2), .int (1), .int (100)]) (rest := []) kl_12_407 oy_X12_isIn ⟨Nat.le_of_ble_eq_true rfl, Nat.le_of_ble_eq_true rfl⟩ rfl (Nat.le_of_ble_eq_true rfl) rfl dX12_counts_14 (c_X12_isIn rfl) (fun v τ hq => ?_)
    obtain ⟨rfl, hτ⟩ := hq
    subst τ
    change Z _ _ _ _ _ [.int (f_X12_isIn x2 1 100)] _
    refine z_if_eq (tgt := 53) dX12_counts_17 (by decide) (fun q => ?_) (fun q => ?_)
    · have h := (if_pos q).symm.trans h
      refine z_iconst (v := (-1)) dX12_counts_53 (by decide) ?_
      subst h
      exact z_ireturn dX12_counts_54 rfl rfl ⟨rfl, rfl⟩
    · have h := (if_neg q).symm.trans h
      refine z_iload_n dX12_counts_20 rfl 3 rfl ?_
      refine z_iconst (v := 1) dX12_counts_21 (by decide) ?_
      refine z_bipush (v := 100) dX12_counts_22 (by decide) ?_
      refine z_callS (M' := m_X12_isIn) (As := [.int (x3), .int (1), .int (100)]) (rest := []) kl_12_407 oy_X12_isIn ⟨Nat.le_of_ble_eq_true rfl, Nat.le_of_ble_eq_true rfl⟩ rfl (Nat.le_of_ble_eq_true rfl) rfl dX12_counts_24 (c_X12_isIn rfl) (fun v τ hq => ?_)
      obtain ⟨rfl, hτ⟩ := hq
      subst τ
      change Z _ _ _ _ _ [.int (f_X12_isIn x3 1 100)] _
      refine z_if_eq (tgt := 53) dX12_counts_27 (by decide) (fun q => ?_) (fun q => ?_)
      · have h := (if_pos q).symm.trans h
        refine z_iconst (v := (-1)) dX12_counts_53 (by decide) ?_
        subst h
        exact z_ireturn dX12_counts_54 rfl rfl ⟨rfl, rfl⟩
      · have h := (if_neg q).symm.trans h
        refine z_iload dX12_counts_30 4 rfl ?_
        refine z_iconst (v := 1) dX12_counts_32 (by decide) ?_
        refine z_sipush (v := 9999) dX12_counts_33 (by decide) ?_
        refine z_callS (M' := m_X12_isIn) (As := [.int (x4), .int (1), .int (9999)]) (rest := []) kl_12_407 oy_X12_isIn ⟨Nat.le_of_ble_eq_true rfl, Nat.le_of_ble_eq_true rfl⟩ rfl (Nat.le_of_ble_eq_true rfl) rfl dX12_counts_36 (c_X12_isIn rfl) (fun v τ hq => ?_)
        obtain ⟨rfl, hτ⟩ := hq
        subst τ
        change Z _ _ _ _ _ [.int (f_X12_isIn x4 1 9999)] _
        refine z_if_eq (tgt := 53) dX12_counts_39 (by decide) (fun q => ?_) (fun q => ?_)
        · have h := (if_pos q).symm.trans h
          refine z_iconst (v := (-1)) dX12_counts_53 (by decide) ?_
          subst h
          exact z_ireturn dX12_counts_54 rfl rfl ⟨rfl, rfl⟩
        · have h := (if_neg q).symm.trans h
          refine z_iload dX12_counts_42 5 rfl ?_
          refine z_iconst (v := 0) dX12_counts_44 (by decide) ?_
          refine z_bipush (v := 99) dX12_counts_45 (by decide) ?_
          refine z_callS (M' := m_X12_isIn) (As := [.int (x5), .int (0), .int (99)]) (rest := []) kl_12_407 oy_X12_isIn ⟨Nat.le_of_ble_eq_true rfl, Nat.le_of_ble_eq_true rfl⟩ rfl (Nat.le_of_ble_eq_true rfl) rfl dX12_counts_47 (c_X12_isIn rfl) (fun v τ hq => ?_)
          obtain ⟨rfl, hτ⟩ := hq
          subst τ
          change Z _ _ _ _ _ [.int (f_X12_isIn x5 0 99)] _
          refine z_if_ne (tgt := 55) dX12_counts_50 (by decide) (fun q => ?_) (fun q => ?_)
          · have h := (if_neg q).symm.trans h
            refine z_iload_n dX12_counts_55 rfl 1 rfl ?_
            refine z_iload_n dX12_counts_56 rfl 2 rfl ?_
            refine z_iload_n dX12_counts_57 rfl 3 rfl ?_
            refine z_iload dX12_counts_58 4 rfl ?_
            refine z_iload dX12_counts_60 5 rfl ?_
            refine z_callS (M' := m_X12_isCounting) (As := [.int (x1), .int (x2), .int (x3), .int (x4), .int (x5)]) (rest := []) kl_12_548 oy_X12_isCounting ⟨Nat.le_of_ble_eq_true rfl, Nat.le_of_ble_eq_true rfl⟩ rfl (Nat.le_of_ble_eq_true rfl) rfl dX12_counts_62 (c_X12_isCounting rfl) (fun v τ hq => ?_)
            obtain ⟨rfl, hτ⟩ := hq
            subst τ
            change Z _ _ _ _ _ [.int (f_X12_isCounting x1 x2 x3 x4 x5)] _
            refine z_if_eq (tgt := 72) dX12_counts_65 (by decide) (fun q => ?_) (fun q => ?_)
            · have h := (if_pos q).symm.trans h
              refine z_iconst (v := 0) dX12_counts_72 (by decide) ?_
              subst h
              exact z_ireturn dX12_counts_73 rfl rfl ⟨rfl, rfl⟩
            · have h := (if_neg q).symm.trans h
              refine z_iconst (v := 1) dX12_counts_68 (by decide) ?_
              refine z_goto (tgt := 73) dX12_counts_69 (by decide) ?_
              subst h
              exact z_ireturn dX12_counts_73 rfl rfl ⟨rfl, rfl⟩
          · have h := (if_pos q).symm.trans h
            refine z_iconst (v := (-1)) dX12_counts_53 (by decide) ?_
            subst h
            exact z_ireturn dX12_counts_54 rfl rfl ⟨rfl, rfl⟩
/-- SkyStonesModel.counts(IIIII)I -/
theorem c_X12_counts {S : Shp} {x1 : Int32} {x2 : Int32} {x3 : Int32} {x4 : Int32} {x5 : Int32} {σ : Mm} {r : Int32} (hp : okP σ = true) (h : f_X12_counts x1 x2 x3 x4 x5 σ = r) : Ct m_X12_counts S [.ref (sL S 3 0 0), .int (x1), .int (x2), .int (x3), .int (x4), .int (x5)] σ (Qi (r, σ)) := Ct.of (by decide +kernel) (Nat.le_of_ble_eq_true rfl) (zb_X12_counts hp h)
def F_X12_isThing (x1 : Int32) (σ : Mm) : Option (Int32 × Mm) := (if x1 < 0 then some (0, σ) else (if inb 0 5 = true then (if (mA σ 3 0 8 (0 : Int32).toNatClampNeg) ≤ x1 then some (0, σ) else some (1, σ)) else none))
set_option maxRecDepth 20000 in
theorem zb_X12_isThing {S : Shp} {x1 : Int32} {σ : Mm} {r : Int32 × Mm} (h : F_X12_isThing x1 σ = some r) : Z m_X12_isThing S (Qi r) 0 [(0, .ref (sL S 3 0 0)), (1, .int (x1))] [] σ := by
  unfold F_X12_isThing at h
  refine z_iload_n dX12_isThing_0 rfl 1 rfl ?_
  refine z_if_lt (tgt := 18) dX12_isThing_1 (by decide) (fun q => ?_) (fun q => ?_)
  · have h := (if_pos q).symm.trans h
    refine z_iconst (v := 0) dX12_isThing_18 (by decide) ?_
    cases h
    exact z_ireturn dX12_isThing_19 rfl rfl ⟨rfl, rfl⟩
  · have h := (if_neg q).symm.trans h
    obtain ⟨g1, h⟩ := gd h
    refine z_iload_n dX12_isThing_4 rfl 1 rfl ?_
    refine z_aload_n dX12_isThing_5 rfl 0 rfl ?_
    refine gf_12_37 rfl dX12_isThing_6 ?_
    refine z_iconst (v := 0) dX12_isThing_9 (by decide) ?_
    refine ia_3_8 (inb_in g1) dX12_isThing_10 ?_
    refine z_icmp_ge (tgt := 18) dX12_isThing_11 (by decide) (fun q => ?_) (fun q => ?_)
    · have h := (if_pos q).symm.trans h
      refine z_iconst (v := 0) dX12_isThing_18 (by decide) ?_
      cases h
      exact z_ireturn dX12_isThing_19 rfl rfl ⟨rfl, rfl⟩
    · have h := (if_neg q).symm.trans h
      refine z_iconst (v := 1) dX12_isThing_14 (by decide) ?_
      refine z_goto (tgt := 19) dX12_isThing_15 (by decide) ?_
      cases h
      exact z_ireturn dX12_isThing_19 rfl rfl ⟨rfl, rfl⟩
/-- SkyStonesModel.isThing(I)Z -/
theorem c_X12_isThing {S : Shp} {x1 : Int32} {σ : Mm} {r : Int32 × Mm} (h : F_X12_isThing x1 σ = some r) : Ct m_X12_isThing S [.ref (sL S 3 0 0), .int (x1)] σ (Qi r) := Ct.of (by decide +kernel) (Nat.le_of_ble_eq_true rfl) (zb_X12_isThing h)
def F_X12_date_27 (s0 : Int32) (σ : Mm) : Option (Int32 × Mm) := some (s0, σ)
set_option maxRecDepth 20000 in
theorem zb_X12_date_27 {S : Shp} {s0 : Int32} {σ : Mm} {r : Int32 × Mm} (h : F_X12_date_27 s0 σ = some r) : Z m_X12_date S (Qi r) 27 [] [.int (s0)] σ := by
  unfold F_X12_date_27 at h
  refine z_goto (tgt := 31) dX12_date_27 (by decide) ?_
  cases h
  exact z_ireturn dX12_date_31 rfl rfl ⟨rfl, rfl⟩
def F_X12_date_5 (x1 : Int32) (x2 : Int32) (s0 : Int32) (σ : Mm) : Option (Int32 × Mm) := (if s0 = 0 then some ((-1), σ) else (if (f_X12_isIn x2 0 9999) = 0 then some ((-1), σ) else (bnd (F_X12_fact 3 x1 x2 0 σ) (fun v τ => (F_X12_date_27 v τ)))))
set_option maxRecDepth 20000 in
theorem zb_X12_date_5 {S : Shp} {x1 : Int32} {x2 : Int32} {s0 : Int32} {σ : Mm} {r : Int32 × Mm} (h : F_X12_date_5 x1 x2 s0 σ = some r) : Z m_X12_date S (Qi r) 5 [(0, .ref (sL S 3 0 0)), (1, .int (x1)), (2, .int (x2))] [.int (s0)] σ := by
  unfold F_X12_date_5 at h
  refine z_if_eq (tgt := 30) dX12_date_5 (by decide) (fun q => ?_) (fun q => ?_)
  · have h := (if_pos q).symm.trans h
    refine z_iconst (v := (-1)) dX12_date_30 (by decide) ?_
    cases h
    exact z_ireturn dX12_date_31 rfl rfl ⟨rfl, rfl⟩
  · have h := (if_neg q).symm.trans h
    refine z_iload_n dX12_date_8 rfl 2 rfl ?_
    refine z_iconst (v := 0) dX12_date_9 (by decide) ?_
    refine z_sipush (v := 9999) dX12_date_10 (by decide) ?_
    refine z_callS (M' := m_X12_isIn) (As := [.int (x2), .int (0), .int (9999)]) (rest := []) kl_12_407 oy_X12_isIn ⟨Nat.le_of_ble_eq_true rfl, Nat.le_of_ble_eq_true rfl⟩ rfl (Nat.le_of_ble_eq_true rfl) rfl dX12_date_13 (c_X12_isIn rfl) (fun v τ hq => ?_)
    obtain ⟨rfl, hτ⟩ := hq
    subst τ
    change Z _ _ _ _ _ [.int (f_X12_isIn x2 0 9999)] _
    refine z_if_eq (tgt := 30) dX12_date_16 (by decide) (fun q => ?_) (fun q => ?_)
    · have h := (if_pos q).symm.trans h
      refine z_iconst (v := (-1)) dX12_date_30 (by decide) ?_
      cases h
      exact z_ireturn dX12_date_31 rfl rfl ⟨rfl, rfl⟩
    · have h := (if_neg q).symm.trans h
      refine z_aload_n dX12_date_19 rfl 0 rfl ?_
      refine z_iconst (v := 3) dX12_date_20 (by decide) ?_
      refine z_iload_n dX12_date_21 rfl 1 rfl ?_
      refine z_iload_n dX12_date_22 rfl 2 rfl ?_
      refine z_iconst (v := 0) dX12_date_23 (by decide) ?_
      obtain ⟨v, τ, hc, h⟩ := bnd_e h
      refine z_callV (M' := m_X12_fact) (t := 3) (i := 0) (k := 0) (As := [.int (3), .int (x1), .int (x2), .int (0)]) (rest := []) kl_12_411 oy_X12_fact ⟨Nat.le_of_ble_eq_true rfl, Nat.le_of_ble_eq_true rfl⟩ rfl rfl rfl rfl (Nat.le_of_ble_eq_true rfl) rfl dX12_date_24 (c_X12_fact hc) (fun v2 τ2 hq => ?_)
      obtain ⟨rfl, hτ⟩ := hq
      subst τ2
      change Z _ _ _ _ _ [.int (v)] _
      refine Z.lv [] rfl ?_
      exact zb_X12_date_27 h
def F_X12_date (x1 : Int32) (x2 : Int32) (σ : Mm) : Option (Int32 × Mm) := (bnd (F_X12_isThing x1 σ) (fun v τ => (F_X12_date_5 x1 x2 v τ)))
set_option maxRecDepth 20000 in
theorem zb_X12_date {S : Shp} {x1 : Int32} {x2 : Int32} {σ : Mm} {r : Int32 × Mm} (h : F_X12_date x1 x2 σ = some r) : Z m_X12_date S (Qi r) 0 [(0, .ref (sL S 3 0 0)), (1, .int (x1)), (2, .int (x2))] [] σ := by
  unfold F_X12_date at h
  refine z_aload_n dX12_date_0 rfl 0 rfl ?_
  refine z_iload_n dX12_date_1 rfl 1 rfl ?_
  obtain ⟨v, τ, hc, h⟩ := bnd_e h
  refine z_callV (M' := m_X12_isThing) (t := 3) (i := 0) (k := 0) (As := [.int (x1)]) (rest := []) kl_12_415 oy_X12_isThing ⟨Nat.le_of_ble_eq_true rfl, Nat.le_of_ble_eq_true rfl⟩ rfl rfl rfl rfl (Nat.le_of_ble_eq_true rfl) rfl dX12_date_2 (c_X12_isThing hc) (fun v2 τ2 hq => ?_)
  obtain ⟨rfl, hτ⟩ := hq
  subst τ2
  change Z _ _ _ _ _ [.int (v)] _
  exact zb_X12_date_5 h
/-- SkyStonesModel.date(II)I -/
theorem c_X12_date {S : Shp} {x1 : Int32} {x2 : Int32} {σ : Mm} {r : Int32 × Mm} (h : F_X12_date x1 x2 σ = some r) : Ct m_X12_date S [.ref (sL S 3 0 0), .int (x1), .int (x2)] σ (Qi r) := Ct.of (by decide +kernel) (Nat.le_of_ble_eq_true rfl) (zb_X12_date h)
def F_X12_degree_34 (σ : Mm) : Option (Int32 × Mm) := some ((-1), σ)
set_option maxRecDepth 20000 in
theorem zb_X12_degree_34 {S : Shp} {σ : Mm} {r : Int32 × Mm} (h : F_X12_degree_34 σ = some r) : Z m_X12_degree S (Qi r) 34 [] [] σ := by
  unfold F_X12_degree_34 at h
  refine z_iconst (v := (-1)) dX12_degree_34 (by decide) ?_
  refine z_goto (tgt := 43) dX12_degree_35 (by decide) ?_
  cases h
  exact z_ireturn dX12_degree_43 rfl rfl ⟨rfl, rfl⟩
def F_X12_degree_43 (s0 : Int32) (σ : Mm) : Option (Int32 × Mm) := some (s0, σ)
set_option maxRecDepth 20000 in
theorem zb_X12_degree_43 {S : Shp} {s0 : Int32} {σ : Mm} {r : Int32 × Mm} (h : F_X12_degree_43 s0 σ = some r) : Z m_X12_degree S (Qi r) 43 [] [.int (s0)] σ := by
  unfold F_X12_degree_43 at h
  cases h
  exact z_ireturn dX12_degree_43 rfl rfl ⟨rfl, rfl⟩
def F_X12_degree_38 (x1 : Int32) (x2 : Int32) (σ : Mm) : Option (Int32 × Mm) := (bnd (F_X12_degreeOf x1 x2 σ) (fun v τ => (F_X12_degree_43 v τ)))
set_option maxRecDepth 20000 in
theorem zb_X12_degree_38 {S : Shp} {x1 : Int32} {x2 : Int32} {σ : Mm} {r : Int32 × Mm} (h : F_X12_degree_38 x1 x2 σ = some r) : Z m_X12_degree S (Qi r) 38 [(1, .int (x1)), (2, .int (x2))] [] σ := by
  unfold F_X12_degree_38 at h
  refine z_iload_n dX12_degree_38 rfl 0 rfl ?_
  refine z_iload_n dX12_degree_39 rfl 1 rfl ?_
  obtain ⟨v, τ, hc, h⟩ := bnd_e h
  refine z_callS (M' := m_X12_degreeOf) (As := [.int (x1), .int (x2)]) (rest := []) kl_12_431 oy_X12_degreeOf ⟨Nat.le_of_ble_eq_true rfl, Nat.le_of_ble_eq_true rfl⟩ rfl (Nat.le_of_ble_eq_true rfl) rfl dX12_degree_40 (c_X12_degreeOf hc) (fun v2 τ2 hq => ?_)
  obtain ⟨rfl, hτ⟩ := hq
  subst τ2
  change Z _ _ _ _ _ [.int (v)] _
  refine Z.lv [] rfl ?_
  exact zb_X12_degree_43 h
def F_X12_degree (x1 : Int32) (x2 : Int32) (σ : Mm) : Option (Int32 × Mm) := (if (f_X12_isIn x1 ((-9999)) 9999) = 0 then (F_X12_degree_34 σ) else (if (f_X12_isIn x2 ((-9999)) 9999) = 0 then (F_X12_degree_34 σ) else (if x1 = 0 then (if x2 = 0 then (F_X12_degree_34 σ) else (F_X12_degree_38 x1 x2 σ)) else (F_X12_degree_38 x1 x2 σ))))
set_option maxRecDepth 20000 in
theorem zb_X12_degree {S : Shp} {x1 : Int32} {x2 : Int32} {σ : Mm} {r : Int32 × Mm} (h : F_X12_degree x1 x2 σ = some r) : Z m_X12_degree S (Qi r) 0 [(0, .ref (sL S 3 0 0)), (1, .int (x1)), (2, .int (x2))] [] σ := by
  unfold F_X12_degree at h
  refine z_iload_n dX12_degree_0 rfl 1 rfl ?_
  refine z_sipush (v := (-9999)) dX12_degree_1 (by decide) ?_
  refine z_sipush (v := 9999) dX12_degree_4 (by decide) ?_
  refine z_callS (M' := m_X12_isIn) (As := [.int (x1), .int ((-9999)), .int (9999)]) (rest := []) kl_12_407 oy_X12_isIn ⟨Nat.le_of_ble_eq_true rfl, Nat.le_of_ble_eq_true rfl⟩ rfl (Nat.le_of_ble_eq_true rfl) rfl dX12_degree_7 (c_X12_isIn rfl) (fun v τ hq => ?_)
  obtain ⟨rfl, hτ⟩ := hq
  subst τ
  change Z _ _ _ _ _ [.int (f_X12_isIn x1 ((-9999)) 9999)] _
  refine z_if_eq (tgt := 34) dX12_degree_10 (by decide) (fun q => ?_) (fun q => ?_)
  · have h := (if_pos q).symm.trans h
    refine Z.lv [] rfl ?_
    exact zb_X12_degree_34 h
  · have h := (if_neg q).symm.trans h
    refine z_iload_n dX12_degree_13 rfl 2 rfl ?_
    refine z_sipush (v := (-9999)) dX12_degree_14 (by decide) ?_
    refine z_sipush (v := 9999) dX12_degree_17 (by decide) ?_
    refine z_callS (M' := m_X12_isIn) (As := [.int (x2), .int ((-9999)), .int (9999)]) (rest := []) kl_12_407 oy_X12_isIn ⟨Nat.le_of_ble_eq_true rfl, Nat.le_of_ble_eq_true rfl⟩ rfl (Nat.le_of_ble_eq_true rfl) rfl dX12_degree_20 (c_X12_isIn rfl) (fun v τ hq => ?_)
    obtain ⟨rfl, hτ⟩ := hq
    subst τ
    change Z _ _ _ _ _ [.int (f_X12_isIn x2 ((-9999)) 9999)] _
    refine z_if_eq (tgt := 34) dX12_degree_23 (by decide) (fun q => ?_) (fun q => ?_)
    · have h := (if_pos q).symm.trans h
      refine Z.lv [] rfl ?_
      exact zb_X12_degree_34 h
    · have h := (if_neg q).symm.trans h
      refine z_iload_n dX12_degree_26 rfl 1 rfl ?_
      refine z_if_ne (tgt := 38) dX12_degree_27 (by decide) (fun q => ?_) (fun q => ?_)
      · have h := (if_neg q).symm.trans h
        refine Z.lv [1, 2] rfl ?_
        exact zb_X12_degree_38 h
      · have h := (if_pos q).symm.trans h
        refine z_iload_n dX12_degree_30 rfl 2 rfl ?_
        refine z_if_ne (tgt := 38) dX12_degree_31 (by decide) (fun q => ?_) (fun q => ?_)
        · have h := (if_neg q).symm.trans h
          refine Z.lv [1, 2] rfl ?_
          exact zb_X12_degree_38 h
        · have h := (if_pos q).symm.trans h
          refine Z.lv [] rfl ?_
          exact zb_X12_degree_34 h
/-- SkyStonesModel.degree(II)I -/
theorem c_X12_degree {S : Shp} {x1 : Int32} {x2 : Int32} {σ : Mm} {r : Int32 × Mm} (h : F_X12_degree x1 x2 σ = some r) : Ct m_X12_degree S [.ref (sL S 3 0 0), .int (x1), .int (x2)] σ (Qi r) := Ct.of (by decide +kernel) (Nat.le_of_ble_eq_true rfl) (zb_X12_degree h)
def F_X12_typed_39 (rc2 : Int32 → Int32 → Mm → Option (Mm)) (x1 : Int32) (x2 : Int32) (σ : Mm) : Option (Mm) := (rc2 x1 (x2 + 1) σ)
set_option maxRecDepth 20000 in
theorem zb_X12_typed_39 {S : Shp} {rc2 : Int32 → Int32 → Mm → Option (Mm)} (hrc2 : ∀ {x1 : Int32} {x2 : Int32} {σ : Mm} {r : Mm}, rc2 x1 x2 σ = some r → Z m_X12_typed S (Qv r) 2 [(0, .ref (sL S 3 0 0)), (1, .int (x1)), (2, .int (x2))] [] σ) {x1 : Int32} {x2 : Int32} {σ : Mm} {r : Mm} (h : F_X12_typed_39 rc2 x1 x2 σ = some r) : Z m_X12_typed S (Qv r) 39 [(0, .ref (sL S 3 0 0)), (1, .int (x1)), (2, .int (x2))] [] σ := by
  unfold F_X12_typed_39 at h
  refine z_iinc (j := 2) (v := x2 + 1) (lv' := [(0, .ref (sL S 3 0 0)), (1, .int (x1)), (2, .int (x2 + 1))]) dX12_typed_39 rfl rfl (by decide) [1, 2, 0] rfl ?_
  refine z_goto (tgt := 2) dX12_typed_42 (by decide) ?_
  exact hrc2 h
def F_X12_typed_29 (rc2 : Int32 → Int32 → Mm → Option (Mm)) (x1 : Int32) (x2 : Int32) (σ : Mm) : Option (Mm) := (F_X12_typed_39 rc2 x1 x2 (setA σ 3 0 0 (upd (mA σ 3 0 0) 0 ((mA σ 3 0 0 0) + (1 : Int32)))))
set_option maxRecDepth 20000 in
theorem zb_X12_typed_29 {S : Shp} {rc2 : Int32 → Int32 → Mm → Option (Mm)} (hrc2 : ∀ {x1 : Int32} {x2 : Int32} {σ : Mm} {r : Mm}, rc2 x1 x2 σ = some r → Z m_X12_typed S (Qv r) 2 [(0, .ref (sL S 3 0 0)), (1, .int (x1)), (2, .int (x2))] [] σ) {x1 : Int32} {x2 : Int32} {σ : Mm} {r : Mm} (h : F_X12_typed_29 rc2 x1 x2 σ = some r) : Z m_X12_typed S (Qv r) 29 [(0, .ref (sL S 3 0 0)), (1, .int (x1)), (2, .int (x2))] [] σ := by
  unfold F_X12_typed_29 at h
  refine z_aload_n dX12_typed_29 rfl 0 rfl ?_
  refine z_dup dX12_typed_30 rfl ?_
  refine gf_12_222 rfl dX12_typed_31 ?_
  refine z_iconst (v := 1) dX12_typed_34 (by decide) ?_
  refine z_iadd dX12_typed_35 ?_
  refine pf_12_222 rfl dX12_typed_36 ?_
  exact zb_X12_typed_39 hrc2 h
def B_X12_typed_2 (rc2 : Int32 → Int32 → Mm → Option (Mm)) (x1 : Int32) (x2 : Int32) (σ : Mm) : Option (Mm) := (if (4 : Int32) ≤ x2 then some (σ) else (if inb (mA σ 3 0 0 0) 2000 = true then (F_X12_typed_29 rc2 x1 x2 (setA σ 3 0 1 (upd (mA σ 3 0 1) (mA σ 3 0 0 0).toNatClampNeg ((x1 >>> (((24 : Int32) - ((8 : Int32) * x2)) &&& 31)) &&& (255 : Int32))))) else none))
set_option maxRecDepth 20000 in
theorem zB_X12_typed_2 {S : Shp} {rc2 : Int32 → Int32 → Mm → Option (Mm)} (hrc2 : ∀ {x1 : Int32} {x2 : Int32} {σ : Mm} {r : Mm}, rc2 x1 x2 σ = some r → Z m_X12_typed S (Qv r) 2 [(0, .ref (sL S 3 0 0)), (1, .int (x1)), (2, .int (x2))] [] σ) {x1 : Int32} {x2 : Int32} {σ : Mm} {r : Mm} (h : B_X12_typed_2 rc2 x1 x2 σ = some r) : Z m_X12_typed S (Qv r) 2 [(0, .ref (sL S 3 0 0)), (1, .int (x1)), (2, .int (x2))] [] σ := by
  unfold B_X12_typed_2 at h
  refine z_iload_n dX12_typed_2 rfl 2 rfl ?_
  refine z_iconst (v := 4) dX12_typed_3 (by decide) ?_
  refine z_icmp_ge (tgt := 45) dX12_typed_4 (by decide) (fun q => ?_) (fun q => ?_)
  · have h := (if_pos q).symm.trans h
    cases h
    exact z_return dX12_typed_45 rfl ⟨rfl, rfl⟩
  · have h := (if_neg q).symm.trans h
    obtain ⟨g1, h⟩ := gd h
    refine z_aload_n dX12_typed_7 rfl 0 rfl ?_
    refine gf_12_7 rfl dX12_typed_8 ?_
    refine z_aload_n dX12_typed_11 rfl 0 rfl ?_
    refine gf_12_222 rfl dX12_typed_12 ?_
    refine z_iload_n dX12_typed_15 rfl 1 rfl ?_
    refine z_bipush (v := 24) dX12_typed_16 (by decide) ?_
    refine z_bipush (v := 8) dX12_typed_18 (by decide) ?_
    refine z_iload_n dX12_typed_20 rfl 2 rfl ?_
    refine z_imul dX12_typed_21 ?_
    refine z_isub dX12_typed_22 ?_
    refine z_ishr dX12_typed_23 ?_
    refine z_sipush (v := 255) dX12_typed_24 (by decide) ?_
    refine z_iand dX12_typed_27 ?_
    refine is_3_1 (inb_in g1) dX12_typed_28 ?_
    exact zb_X12_typed_29 hrc2 h
def F_X12_typed_2 : Nat → Int32 → Int32 → Mm → Option (Mm)
  | 0 => fun _ _ _ => none
  | n + 1 => B_X12_typed_2 (F_X12_typed_2 n)
theorem zl_X12_typed_2 {S : Shp} : ∀ (nn : Nat) {x1 : Int32} {x2 : Int32} {σ : Mm} {r : Mm}, F_X12_typed_2 nn x1 x2 σ = some r → Z m_X12_typed S (Qv r) 2 [(0, .ref (sL S 3 0 0)), (1, .int (x1)), (2, .int (x2))] [] σ := by
  intro nn
  induction nn with
  | zero => intro x1 x2 σ r h; cases h
  | succ nn ih => intro x1 x2 σ r h; exact zB_X12_typed_2 @ih h
def F_X12_typed (x1 : Int32) (σ : Mm) : Option (Mm) := (F_X12_typed_2 FU x1 0 σ)
set_option maxRecDepth 20000 in
theorem zb_X12_typed {S : Shp} {x1 : Int32} {σ : Mm} {r : Mm} (h : F_X12_typed x1 σ = some r) : Z m_X12_typed S (Qv r) 0 [(0, .ref (sL S 3 0 0)), (1, .int (x1))] [] σ := by
  unfold F_X12_typed at h
  refine z_iconst (v := 0) dX12_typed_0 (by decide) ?_
  refine z_istore_n (lv' := [(0, .ref (sL S 3 0 0)), (1, .int (x1)), (2, .int (0))]) dX12_typed_1 rfl (by decide) [1, 2, 0] rfl ?_
  exact zl_X12_typed_2 FU h
/-- SkyStonesModel.typed(I)V -/
theorem c_X12_typed {S : Shp} {x1 : Int32} {σ : Mm} {r : Mm} (h : F_X12_typed x1 σ = some r) : Ct m_X12_typed S [.ref (sL S 3 0 0), .int (x1)] σ (Qv r) := Ct.of (by decide +kernel) (Nat.le_of_ble_eq_true rfl) (zb_X12_typed h)
def F_X12_feed_42 (σ : Mm) : Option (Int32 × Mm) := some (mA σ 3 0 0 0, σ)
set_option maxRecDepth 20000 in
theorem zb_X12_feed_42 {S : Shp} {σ : Mm} {r : Int32 × Mm} (h : F_X12_feed_42 σ = some r) : Z m_X12_feed S (Qi r) 42 [(0, .ref (sL S 3 0 0))] [] σ := by
  unfold F_X12_feed_42 at h
  refine z_aload_n dX12_feed_42 rfl 0 rfl ?_
  refine gf_12_222 rfl dX12_feed_43 ?_
  cases h
  exact z_ireturn dX12_feed_46 rfl rfl ⟨rfl, rfl⟩
def F_X12_feed_36 (x5 : Int32) (σ : Mm) : Option (Int32 × Mm) := (bnv (F_X12_typed x5 σ) (fun τ => (F_X12_feed_42 τ)))
set_option maxRecDepth 20000 in
theorem zb_X12_feed_36 {S : Shp} {x5 : Int32} {σ : Mm} {r : Int32 × Mm} (h : F_X12_feed_36 x5 σ = some r) : Z m_X12_feed S (Qi r) 36 [(0, .ref (sL S 3 0 0)), (5, .int (x5))] [] σ := by
  unfold F_X12_feed_36 at h
  refine z_aload_n dX12_feed_36 rfl 0 rfl ?_
  refine z_iload dX12_feed_37 1 rfl ?_
  obtain ⟨τ, hc, h⟩ := bnv_e h
  refine z_callV (M' := m_X12_typed) (t := 3) (i := 0) (k := 0) (As := [.int (x5)]) (rest := []) kl_12_225 oy_X12_typed ⟨Nat.le_of_ble_eq_true rfl, Nat.le_of_ble_eq_true rfl⟩ rfl rfl rfl rfl (Nat.le_of_ble_eq_true rfl) rfl dX12_feed_39 (c_X12_typed hc) (fun v2 τ2 hq => ?_)
  obtain ⟨rfl, hτ⟩ := hq
  subst τ2
  change Z _ _ _ _ _ [] _
  refine Z.lv [0] rfl ?_
  exact zb_X12_feed_42 h
def F_X12_feed_30 (x4 : Int32) (x5 : Int32) (σ : Mm) : Option (Int32 × Mm) := (bnv (F_X12_typed x4 σ) (fun τ => (F_X12_feed_36 x5 τ)))
set_option maxRecDepth 20000 in
theorem zb_X12_feed_30 {S : Shp} {x4 : Int32} {x5 : Int32} {σ : Mm} {r : Int32 × Mm} (h : F_X12_feed_30 x4 x5 σ = some r) : Z m_X12_feed S (Qi r) 30 [(0, .ref (sL S 3 0 0)), (4, .int (x4)), (5, .int (x5))] [] σ := by
  unfold F_X12_feed_30 at h
  refine z_aload_n dX12_feed_30 rfl 0 rfl ?_
  refine z_iload dX12_feed_31 1 rfl ?_
  obtain ⟨τ, hc, h⟩ := bnv_e h
  refine z_callV (M' := m_X12_typed) (t := 3) (i := 0) (k := 0) (As := [.int (x4)]) (rest := []) kl_12_225 oy_X12_typed ⟨Nat.le_of_ble_eq_true rfl, Nat.le_of_ble_eq_true rfl⟩ rfl rfl rfl rfl (Nat.le_of_ble_eq_true rfl) rfl dX12_feed_33 (c_X12_typed hc) (fun v2 τ2 hq => ?_)
  obtain ⟨rfl, hτ⟩ := hq
  subst τ2
  change Z _ _ _ _ _ [] _
  refine Z.lv [0, 2] rfl ?_
  exact zb_X12_feed_36 h
def F_X12_feed_25 (x3 : Int32) (x4 : Int32) (x5 : Int32) (σ : Mm) : Option (Int32 × Mm) := (bnv (F_X12_typed x3 σ) (fun τ => (F_X12_feed_30 x4 x5 τ)))
set_option maxRecDepth 20000 in
theorem zb_X12_feed_25 {S : Shp} {x3 : Int32} {x4 : Int32} {x5 : Int32} {σ : Mm} {r : Int32 × Mm} (h : F_X12_feed_25 x3 x4 x5 σ = some r) : Z m_X12_feed S (Qi r) 25 [(0, .ref (sL S 3 0 0)), (3, .int (x3)), (4, .int (x4)), (5, .int (x5))] [] σ := by
  unfold F_X12_feed_25 at h
  refine z_aload_n dX12_feed_25 rfl 0 rfl ?_
  refine z_iload_n dX12_feed_26 rfl 1 rfl ?_
  obtain ⟨τ, hc, h⟩ := bnv_e h
  refine z_callV (M' := m_X12_typed) (t := 3) (i := 0) (k := 0) (As := [.int (x3)]) (rest := []) kl_12_225 oy_X12_typed ⟨Nat.le_of_ble_eq_true rfl, Nat.le_of_ble_eq_true rfl⟩ rfl rfl rfl rfl (Nat.le_of_ble_eq_true rfl) rfl dX12_feed_27 (c_X12_typed hc) (fun v2 τ2 hq => ?_)
  obtain ⟨rfl, hτ⟩ := hq
  subst τ2
  change Z _ _ _ _ _ [] _
  refine Z.lv [0, 2, 3] rfl ?_
  exact zb_X12_feed_30 h
def F_X12_feed_20 (x2 : Int32) (x3 : Int32) (x4 : Int32) (x5 : Int32) (σ : Mm) : Option (Int32 × Mm) := (bnv (F_X12_typed x2 σ) (fun τ => (F_X12_feed_25 x3 x4 x5 τ)))
set_option maxRecDepth 20000 in
theorem zb_X12_feed_20 {S : Shp} {x2 : Int32} {x3 : Int32} {x4 : Int32} {x5 : Int32} {σ : Mm} {r : Int32 × Mm} (h : F_X12_feed_20 x2 x3 x4 x5 σ = some r) : Z m_X12_feed S (Qi r) 20 [(0, .ref (sL S 3 0 0)), (2, .int (x2)), (3, .int (x3)), (4, .int (x4)), (5, .int (x5))] [] σ := by
  unfold F_X12_feed_20 at h
  refine z_aload_n dX12_feed_20 rfl 0 rfl ?_
  refine z_iload_n dX12_feed_21 rfl 1 rfl ?_
  obtain ⟨τ, hc, h⟩ := bnv_e h
  refine z_callV (M' := m_X12_typed) (t := 3) (i := 0) (k := 0) (As := [.int (x2)]) (rest := []) kl_12_225 oy_X12_typed ⟨Nat.le_of_ble_eq_true rfl, Nat.le_of_ble_eq_true rfl⟩ rfl rfl rfl rfl (Nat.le_of_ble_eq_true rfl) rfl dX12_feed_22 (c_X12_typed hc) (fun v2 τ2 hq => ?_)
  obtain ⟨rfl, hτ⟩ := hq
  subst τ2
  change Z _ _ _ _ _ [] _
  refine Z.lv [0, 2, 3, 4] rfl ?_
  exact zb_X12_feed_25 h
def F_X12_feed (x1 : Int32) (x2 : Int32) (x3 : Int32) (x4 : Int32) (x5 : Int32) (σ : Mm) : Option (Int32 × Mm) := (if ((mA σ 3 0 0 0) + (20 : Int32)) ≤ (2000 : Int32) then (bnv (F_X12_typed x1 σ) (fun τ => (F_X12_feed_20 x2 x3 x4 x5 τ))) else some ((-1), σ))
set_option maxRecDepth 20000 in
theorem zb_X12_feed {S : Shp} {x1 : Int32} {x2 : Int32} {x3 : Int32} {x4 : Int32} {x5 : Int32} {σ : Mm} {r : Int32 × Mm} (h : F_X12_feed x1 x2 x3 x4 x5 σ = some r) : Z m_X12_feed S (Qi r) 0 [(0, .ref (sL S 3 0 0)), (1, .int (x1)), (2, .int (x2)), (3, .int (x3)), (4, .int (x4)), (5, .int (x5))] [] σ := by
  unfold F_X12_feed at h
  refine z_aload_n dX12_feed_0 rfl 0 rfl ?_
  refine gf_12_222 rfl dX12_feed_1 ?_
  refine z_bipush (v := 20) dX12_feed_4 (by decide) ?_
  refine z_iadd dX12_feed_6 ?_
  refine z_sipush (v := 2000) dX12_feed_7 (by decide) ?_
  refine z_icmp_le (tgt := 15) dX12_feed_10 (by decide) (fun q => ?_) (fun q => ?_)
  · have h := (if_pos q).symm.trans h
    refine z_aload_n dX12_feed_15 rfl 0 rfl ?_
    refine z_iload_n dX12_feed_16 rfl 1 rfl ?_
    obtain ⟨τ, hc, h⟩ := bnv_e h
    refine z_callV (M' := m_X12_typed) (t := 3) (i := 0) (k := 0) (As := [.int (x1)]) (rest := []) kl_12_225 oy_X12_typed ⟨Nat.le_of_ble_eq_true rfl, Nat.le_of_ble_eq_true rfl⟩ rfl rfl rfl rfl (Nat.le_of_ble_eq_true rfl) rfl dX12_feed_17 (c_X12_typed hc) (fun v2 τ2 hq => ?_)
    obtain ⟨rfl, hτ⟩ := hq
    subst τ2
    change Z _ _ _ _ _ [] _
    refine Z.lv [0, 2, 3, 4, 5] rfl ?_
    exact zb_X12_feed_20 h
  · have h := (if_neg q).symm.trans h
    refine z_iconst (v := (-1)) dX12_feed_13 (by decide) ?_
    cases h
    exact z_ireturn dX12_feed_14 rfl rfl ⟨rfl, rfl⟩
/-- SkyStonesModel.feed(IIIII)I -/
theorem c_X12_feed {S : Shp} {x1 : Int32} {x2 : Int32} {x3 : Int32} {x4 : Int32} {x5 : Int32} {σ : Mm} {r : Int32 × Mm} (h : F_X12_feed x1 x2 x3 x4 x5 σ = some r) : Ct m_X12_feed S [.ref (sL S 3 0 0), .int (x1), .int (x2), .int (x3), .int (x4), .int (x5)] σ (Qi r) := Ct.of (by decide +kernel) (Nat.le_of_ble_eq_true rfl) (zb_X12_feed h)
def F_X12_found_123 (x4 : Int32) (σ : Mm) : Option (Int32 × Mm) := some (x4, σ)
set_option maxRecDepth 20000 in
theorem zb_X12_found_123 {S : Shp} {x4 : Int32} {σ : Mm} {r : Int32 × Mm} (h : F_X12_found_123 x4 σ = some r) : Z m_X12_found S (Qi r) 123 [(4, .int (x4))] [] σ := by
  unfold F_X12_found_123 at h
  refine z_iload dX12_found_123 0 rfl ?_
  cases h
  exact z_ireturn dX12_found_125 rfl rfl ⟨rfl, rfl⟩
def F_X12_found_113 (x4 : Int32) (σ : Mm) : Option (Int32 × Mm) := (if inb 0 5 = true then (if inb 0 5 = true then (F_X12_found_123 x4 (setA σ 3 0 8 (upd (mA σ 3 0 8) (0 : Int32).toNatClampNeg ((mA σ 3 0 8 (0 : Int32).toNatClampNeg) + (1 : Int32))))) else none) else none)
set_option maxRecDepth 20000 in
theorem zb_X12_found_113 {S : Shp} {x4 : Int32} {σ : Mm} {r : Int32 × Mm} (h : F_X12_found_113 x4 σ = some r) : Z m_X12_found S (Qi r) 113 [(0, .ref (sL S 3 0 0)), (4, .int (x4))] [] σ := by
  unfold F_X12_found_113 at h
  obtain ⟨g9, h⟩ := gd h
  refine z_aload_n dX12_found_113 rfl 0 rfl ?_
  refine gf_12_37 rfl dX12_found_114 ?_
  refine z_iconst (v := 0) dX12_found_117 (by decide) ?_
  refine z_dup2_11 dX12_found_118 rfl rfl ?_
  obtain ⟨g10, h⟩ := gd h
  refine ia_3_8 (inb_in g9) dX12_found_119 ?_
  refine z_iconst (v := 1) dX12_found_120 (by decide) ?_
  refine z_iadd dX12_found_121 ?_
  refine is_3_8 (inb_in g10) dX12_found_122 ?_
  refine Z.lv [1] rfl ?_
  exact zb_X12_found_123 h
def F_X12_found_105 (x3 : Int32) (x4 : Int32) (σ : Mm) : Option (Int32 × Mm) := (if inb x4 70 = true then (F_X12_found_113 x4 (setA σ 3 0 12 (upd (mA σ 3 0 12) x4.toNatClampNeg x3))) else none)
set_option maxRecDepth 20000 in
theorem zb_X12_found_105 {S : Shp} {x3 : Int32} {x4 : Int32} {σ : Mm} {r : Int32 × Mm} (h : F_X12_found_105 x3 x4 σ = some r) : Z m_X12_found S (Qi r) 105 [(0, .ref (sL S 3 0 0)), (3, .int (x3)), (4, .int (x4))] [] σ := by
  unfold F_X12_found_105 at h
  obtain ⟨g8, h⟩ := gd h
  refine z_aload_n dX12_found_105 rfl 0 rfl ?_
  refine gf_12_49 rfl dX12_found_106 ?_
  refine z_iload dX12_found_109 2 rfl ?_
  refine z_iload_n dX12_found_111 rfl 1 rfl ?_
  refine is_3_12 (inb_in g8) dX12_found_112 ?_
  refine Z.lv [0, 2] rfl ?_
  exact zb_X12_found_113 h
def F_X12_found_97 (x2 : Int32) (x3 : Int32) (x4 : Int32) (σ : Mm) : Option (Int32 × Mm) := (if inb x4 70 = true then (F_X12_found_105 x3 x4 (setA σ 3 0 11 (upd (mA σ 3 0 11) x4.toNatClampNeg x2))) else none)
set_option maxRecDepth 20000 in
theorem zb_X12_found_97 {S : Shp} {x2 : Int32} {x3 : Int32} {x4 : Int32} {σ : Mm} {r : Int32 × Mm} (h : F_X12_found_97 x2 x3 x4 σ = some r) : Z m_X12_found S (Qi r) 97 [(0, .ref (sL S 3 0 0)), (2, .int (x2)), (3, .int (x3)), (4, .int (x4))] [] σ := by
  unfold F_X12_found_97 at h
  obtain ⟨g7, h⟩ := gd h
  refine z_aload_n dX12_found_97 rfl 0 rfl ?_
  refine gf_12_46 rfl dX12_found_98 ?_
  refine z_iload dX12_found_101 3 rfl ?_
  refine z_iload_n dX12_found_103 rfl 1 rfl ?_
  refine is_3_11 (inb_in g7) dX12_found_104 ?_
  refine Z.lv [0, 2, 3] rfl ?_
  exact zb_X12_found_105 h
def F_X12_found_89 (x1 : Int32) (x2 : Int32) (x3 : Int32) (x4 : Int32) (σ : Mm) : Option (Int32 × Mm) := (if inb x4 70 = true then (F_X12_found_97 x2 x3 x4 (setA σ 3 0 10 (upd (mA σ 3 0 10) x4.toNatClampNeg x1))) else none)
set_option maxRecDepth 20000 in
theorem zb_X12_found_89 {S : Shp} {x1 : Int32} {x2 : Int32} {x3 : Int32} {x4 : Int32} {σ : Mm} {r : Int32 × Mm} (h : F_X12_found_89 x1 x2 x3 x4 σ = some r) : Z m_X12_found S (Qi r) 89 [(0, .ref (sL S 3 0 0)), (1, .int (x1)), (2, .int (x2)), (3, .int (x3)), (4, .int (x4))] [] σ := by
  unfold F_X12_found_89 at h
  obtain ⟨g6, h⟩ := gd h
  refine z_aload_n dX12_found_89 rfl 0 rfl ?_
  refine gf_12_43 rfl dX12_found_90 ?_
  refine z_iload dX12_found_93 4 rfl ?_
  refine z_iload_n dX12_found_95 rfl 1 rfl ?_
  refine is_3_10 (inb_in g6) dX12_found_96 ?_
  refine Z.lv [0, 2, 3, 4] rfl ?_
  exact zb_X12_found_97 h
def F_X12_found_81 (x1 : Int32) (x2 : Int32) (x3 : Int32) (x4 : Int32) (σ : Mm) : Option (Int32 × Mm) := (if inb x4 70 = true then (F_X12_found_89 x1 x2 x3 x4 (setA σ 3 0 9 (upd (mA σ 3 0 9) x4.toNatClampNeg (vp_nar .boolean 0)))) else none)
set_option maxRecDepth 20000 in
theorem zb_X12_found_81 {S : Shp} {x1 : Int32} {x2 : Int32} {x3 : Int32} {x4 : Int32} {σ : Mm} {r : Int32 × Mm} (h : F_X12_found_81 x1 x2 x3 x4 σ = some r) : Z m_X12_found S (Qi r) 81 [(0, .ref (sL S 3 0 0)), (1, .int (x1)), (2, .int (x2)), (3, .int (x3)), (4, .int (x4))] [] σ := by
  unfold F_X12_found_81 at h
  obtain ⟨g5, h⟩ := gd h
  refine z_aload_n dX12_found_81 rfl 0 rfl ?_
  refine gf_12_40 rfl dX12_found_82 ?_
  refine z_iload dX12_found_85 4 rfl ?_
  refine z_iconst (v := 0) dX12_found_87 (by decide) ?_
  refine is_3_9 (inb_in g5) dX12_found_88 ?_
  exact zb_X12_found_89 h
def F_X12_found_80 (x1 : Int32) (x2 : Int32) (x3 : Int32) (x4 : Int32) (s0 : Int32) (s1 : Int32) (σ : Mm) : Option (Int32 × Mm) := (if inb s1 70 = true then (F_X12_found_81 x1 x2 x3 x4 (setA σ 3 0 13 (upd (mA σ 3 0 13) s1.toNatClampNeg s0))) else none)
set_option maxRecDepth 20000 in
theorem zb_X12_found_80 {S : Shp} {x1 : Int32} {x2 : Int32} {x3 : Int32} {x4 : Int32} {s0 : Int32} {s1 : Int32} {σ : Mm} {r : Int32 × Mm} (h : F_X12_found_80 x1 x2 x3 x4 s0 s1 σ = some r) : Z m_X12_found S (Qi r) 80 [(0, .ref (sL S 3 0 0)), (1, .int (x1)), (2, .int (x2)), (3, .int (x3)), (4, .int (x4))] [.int (s0), .int (s1), .ref (sL S 3 0 13)] σ := by
  unfold F_X12_found_80 at h
  obtain ⟨g4, h⟩ := gd h
  refine is_3_13 (inb_in g4) dX12_found_80 ?_
  exact zb_X12_found_81 h
def F_X12_found_65 (x1 : Int32) (x2 : Int32) (x3 : Int32) (x4 : Int32) (σ : Mm) : Option (Int32 × Mm) := (bnd (F_X12_fact 0 x4 x1 x2 σ) (fun v τ => (F_X12_found_80 x1 x2 x3 x4 v x4 τ)))
set_option maxRecDepth 20000 in
theorem zb_X12_found_65 {S : Shp} {x1 : Int32} {x2 : Int32} {x3 : Int32} {x4 : Int32} {σ : Mm} {r : Int32 × Mm} (h : F_X12_found_65 x1 x2 x3 x4 σ = some r) : Z m_X12_found S (Qi r) 65 [(0, .ref (sL S 3 0 0)), (1, .int (x1)), (2, .int (x2)), (3, .int (x3)), (4, .int (x4))] [] σ := by
  unfold F_X12_found_65 at h
  refine z_aload_n dX12_found_65 rfl 0 rfl ?_
  refine gf_12_52 rfl dX12_found_66 ?_
  refine z_iload dX12_found_69 4 rfl ?_
  refine z_aload_n dX12_found_71 rfl 0 rfl ?_
  refine z_iconst (v := 0) dX12_found_72 (by decide) ?_
  refine z_iload dX12_found_73 4 rfl ?_
  refine z_iload_n dX12_found_75 rfl 1 rfl ?_
  refine z_iload_n dX12_found_76 rfl 2 rfl ?_
  obtain ⟨v, τ, hc, h⟩ := bnd_e h
  refine z_callV (M' := m_X12_fact) (t := 3) (i := 0) (k := 0) (As := [.int (0), .int (x4), .int (x1), .int (x2)]) (rest := [.int (x4), .ref (sL S 3 0 13)]) kl_12_411 oy_X12_fact ⟨Nat.le_of_ble_eq_true rfl, Nat.le_of_ble_eq_true rfl⟩ rfl rfl rfl rfl (Nat.le_of_ble_eq_true rfl) rfl dX12_found_77 (c_X12_fact hc) (fun v2 τ2 hq => ?_)
  obtain ⟨rfl, hτ⟩ := hq
  subst τ2
  change Z _ _ _ _ _ [.int (v), .int (x4), .ref (sL S 3 0 13)] _
  exact zb_X12_found_80 h
def F_X12_found (x1 : Int32) (x2 : Int32) (x3 : Int32) (σ : Mm) : Option (Int32 × Mm) := (if inb 0 5 = true then (if (mA σ 3 0 8 (0 : Int32).toNatClampNeg) = (14 : Int32) then some ((-1), σ) else (if inb 0 5 = true then (if (mA σ 3 0 38 (0 : Int32).toNatClampNeg) = (60 : Int32) then some ((-1), σ) else (if (f_X12_isIn x1 0 999) = 0 then some ((-1), σ) else (if (f_X12_isIn x2 0 999) = 0 then some ((-1), σ) else (if (f_X12_isIn x3 0 9999) = 0 then some ((-1), σ) else (if inb 0 5 = true then (F_X12_found_65 x1 x2 x3 (mA σ 3 0 8 (0 : Int32).toNatClampNeg) σ) else none))))) else none)) else none)
set_option maxRecDepth 20000 in
theorem zb_X12_found {S : Shp} {x1 : Int32} {x2 : Int32} {x3 : Int32} {σ : Mm} {r : Int32 × Mm} (h : F_X12_found x1 x2 x3 σ = some r) : Z m_X12_found S (Qi r) 0 [(0, .ref (sL S 3 0 0)), (1, .int (x1)), (2, .int (x2)), (3, .int (x3))] [] σ := by
  unfold F_X12_found at h
  obtain ⟨g1, h⟩ := gd h
  refine z_aload_n dX12_found_0 rfl 0 rfl ?_
  refine gf_12_37 rfl dX12_found_1 ?_
  refine z_iconst (v := 0) dX12_found_4 (by decide) ?_
  refine ia_3_8 (inb_in g1) dX12_found_5 ?_
  refine z_bipush (v := 14) dX12_found_6 (by decide) ?_
  refine z_icmp_eq (tgt := 55) dX12_found_8 (by decide) (fun q => ?_) (fun q => ?_)
  · have h := (if_pos q).symm.trans h
    refine z_iconst (v := (-1)) dX12_found_55 (by decide) ?_
    cases h
    exact z_ireturn dX12_found_56 rfl rfl ⟨rfl, rfl⟩
  · have h := (if_neg q).symm.trans h
    obtain ⟨g2, h⟩ := gd h
    refine z_aload_n dX12_found_11 rfl 0 rfl ?_
    refine gf_12_127 rfl dX12_found_12 ?_
    refine z_iconst (v := 0) dX12_found_15 (by decide) ?_
    refine ia_3_38 (inb_in g2) dX12_found_16 ?_
    refine z_bipush (v := 60) dX12_found_17 (by decide) ?_
    refine z_icmp_eq (tgt := 55) dX12_found_19 (by decide) (fun q => ?_) (fun q => ?_)
    · have h := (if_pos q).symm.trans h
      refine z_iconst (v := (-1)) dX12_found_55 (by decide) ?_
      cases h
      exact z_ireturn dX12_found_56 rfl rfl ⟨rfl, rfl⟩
    · have h := (if_neg q).symm.trans h
      refine z_iload_n dX12_found_22 rfl 1 rfl ?_
      refine z_iconst (v := 0) dX12_found_23 (by decide) ?_
      refine z_sipush (v := 999) dX12_found_24 (by decide) ?_
      refine z_callS (M' := m_X12_isIn) (As := [.int (x1), .int (0), .int (999)]) (rest := []) kl_12_407 oy_X12_isIn ⟨Nat.le_of_ble_eq_true rfl, Nat.le_of_ble_eq_true rfl⟩ rfl (Nat.le_of_ble_eq_true rfl) rfl dX12_found_27 (c_X12_isIn rfl) (fun v τ hq => ?_)
      obtain ⟨rfl, hτ⟩ := hq
      subst τ
      change Z _ _ _ _ _ [.int (f_X12_isIn x1 0 999)] _
      refine z_if_eq (tgt := 55) dX12_found_30 (by decide) (fun q => ?_) (fun q => ?_)
      · have h := (if_pos q).symm.trans h
        refine z_iconst (v := (-1)) dX12_found_55 (by decide) ?_
        cases h
        exact z_ireturn dX12_found_56 rfl rfl ⟨rfl, rfl⟩
      · have h := (if_neg q).symm.trans h
        refine z_iload_n dX12_found_33 rfl 2 rfl ?_
        refine z_iconst (v := 0) dX12_found_34 (by decide) ?_
        refine z_sipush (v := 999) dX12_found_35 (by decide) ?_
        refine z_callS (M' := m_X12_isIn) (As := [.int (x2), .int (0), .int (999)]) (rest := []) kl_12_407 oy_X12_isIn ⟨Nat.le_of_ble_eq_true rfl, Nat.le_of_ble_eq_true rfl⟩ rfl (Nat.le_of_ble_eq_true rfl) rfl dX12_found_38 (c_X12_isIn rfl) (fun v τ hq => ?_)
        obtain ⟨rfl, hτ⟩ := hq
        subst τ
        change Z _ _ _ _ _ [.int (f_X12_isIn x2 0 999)] _
        refine z_if_eq (tgt := 55) dX12_found_41 (by decide) (fun q => ?_) (fun q => ?_)
        · have h := (if_pos q).symm.trans h
          refine z_iconst (v := (-1)) dX12_found_55 (by decide) ?_
          cases h
          exact z_ireturn dX12_found_56 rfl rfl ⟨rfl, rfl⟩
        · have h := (if_neg q).symm.trans h
          refine z_iload_n dX12_found_44 rfl 3 rfl ?_
          refine z_iconst (v := 0) dX12_found_45 (by decide) ?_
          refine z_sipush (v := 9999) dX12_found_46 (by decide) ?_
          refine z_callS (M' := m_X12_isIn) (As := [.int (x3), .int (0), .int (9999)]) (rest := []) kl_12_407 oy_X12_isIn ⟨Nat.le_of_ble_eq_true rfl, Nat.le_of_ble_eq_true rfl⟩ rfl (Nat.le_of_ble_eq_true rfl) rfl dX12_found_49 (c_X12_isIn rfl) (fun v τ hq => ?_)
          obtain ⟨rfl, hτ⟩ := hq
          subst τ
          change Z _ _ _ _ _ [.int (f_X12_isIn x3 0 9999)] _
          refine z_if_ne (tgt := 57) dX12_found_52 (by decide) (fun q => ?_) (fun q => ?_)
          · have h := (if_neg q).symm.trans h
            obtain ⟨g3, h⟩ := gd h
            refine z_aload_n dX12_found_57 rfl 0 rfl ?_
            refine gf_12_37 rfl dX12_found_58 ?_
            refine z_iconst (v := 0) dX12_found_61 (by decide) ?_
            refine ia_3_8 (inb_in g3) dX12_found_62 ?_
            refine z_istore (lv' := [(0, .ref (sL S 3 0 0)), (1, .int (x1)), (2, .int (x2)), (3, .int (x3)), (4, .int (mA σ 3 0 8 (0 : Int32).toNatClampNeg))]) dX12_found_63 (by decide) [1, 2, 3, 4, 0] rfl ?_
            exact zb_X12_found_65 h
          · have h := (if_pos q).symm.trans h
            refine z_iconst (v := (-1)) dX12_found_55 (by decide) ?_
            cases h
            exact z_ireturn dX12_found_56 rfl rfl ⟨rfl, rfl⟩
/-- SkyStonesModel.found(III)I -/
theorem c_X12_found {S : Shp} {x1 : Int32} {x2 : Int32} {x3 : Int32} {σ : Mm} {r : Int32 × Mm} (h : F_X12_found x1 x2 x3 σ = some r) : Ct m_X12_found S [.ref (sL S 3 0 0), .int (x1), .int (x2), .int (x3)] σ (Qi r) := Ct.of (by decide +kernel) (Nat.le_of_ble_eq_true rfl) (zb_X12_found h)
def F_X12_isSpan_7 (x3 : Int32) (x4 : Int32) (x5 : Int32) (s0 : Int32) (σ : Mm) : Option (Int32 × Mm) := (if s0 = 0 then some (0, σ) else (if (f_X12_isIn x4 1 100) = 0 then some (0, σ) else (if (f_X12_isIn x5 1 200) = 0 then some (0, σ) else (if (5000 : Int32) < (x3 + (x4 * (x5 - (1 : Int32)))) then some (0, σ) else some (1, σ)))))
set_option maxRecDepth 20000 in
theorem zb_X12_isSpan_7 {S : Shp} {x3 : Int32} {x4 : Int32} {x5 : Int32} {s0 : Int32} {σ : Mm} {r : Int32 × Mm} (h : F_X12_isSpan_7 x3 x4 x5 s0 σ = some r) : Z m_X12_isSpan S (Qi r) 7 [(3, .int (x3)), (4, .int (x4)), (5, .int (x5))] [.int (s0)] σ := by
  unfold F_X12_isSpan_7 at h
  refine z_if_eq (tgt := 52) dX12_isSpan_7 (by decide) (fun q => ?_) (fun q => ?_)
  · have h := (if_pos q).symm.trans h
    refine z_iconst (v := 0) dX12_isSpan_52 (by decide) ?_
    cases h
    exact z_ireturn dX12_isSpan_53 rfl rfl ⟨rfl, rfl⟩
  · have h := (if_neg q).symm.trans h
    refine z_iload dX12_isSpan_10 1 rfl ?_
    refine z_iconst (v := 1) dX12_isSpan_12 (by decide) ?_
    refine z_bipush (v := 100) dX12_isSpan_13 (by decide) ?_
    refine z_callS (M' := m_X12_isIn) (As := [.int (x4), .int (1), .int (100)]) (rest := []) kl_12_407 oy_X12_isIn ⟨Nat.le_of_ble_eq_true rfl, Nat.le_of_ble_eq_true rfl⟩ rfl (Nat.le_of_ble_eq_true rfl) rfl dX12_isSpan_15 (c_X12_isIn rfl) (fun v τ hq => ?_)
    obtain ⟨rfl, hτ⟩ := hq
    subst τ
    change Z _ _ _ _ _ [.int (f_X12_isIn x4 1 100)] _
    refine z_if_eq (tgt := 52) dX12_isSpan_18 (by decide) (fun q => ?_) (fun q => ?_)
    · have h := (if_pos q).symm.trans h
      refine z_iconst (v := 0) dX12_isSpan_52 (by decide) ?_
      cases h
      exact z_ireturn dX12_isSpan_53 rfl rfl ⟨rfl, rfl⟩
    · have h := (if_neg q).symm.trans h
      refine z_iload dX12_isSpan_21 2 rfl ?_
      refine z_iconst (v := 1) dX12_isSpan_23 (by decide) ?_
      refine z_sipush (v := 200) dX12_isSpan_24 (by decide) ?_
      refine z_callS (M' := m_X12_isIn) (As := [.int (x5), .int (1), .int (200)]) (rest := []) kl_12_407 oy_X12_isIn ⟨Nat.le_of_ble_eq_true rfl, Nat.le_of_ble_eq_true rfl⟩ rfl (Nat.le_of_ble_eq_true rfl) rfl dX12_isSpan_27 (c_X12_isIn rfl) (fun v τ hq => ?_)
      obtain ⟨rfl, hτ⟩ := hq
      subst τ
      change Z _ _ _ _ _ [.int (f_X12_isIn x5 1 200)] _
      refine z_if_eq (tgt := 52) dX12_isSpan_30 (by decide) (fun q => ?_) (fun q => ?_)
      · have h := (if_pos q).symm.trans h
        refine z_iconst (v := 0) dX12_isSpan_52 (by decide) ?_
        cases h
        exact z_ireturn dX12_isSpan_53 rfl rfl ⟨rfl, rfl⟩
      · have h := (if_neg q).symm.trans h
        refine z_iload_n dX12_isSpan_33 rfl 0 rfl ?_
        refine z_iload dX12_isSpan_34 1 rfl ?_
        refine z_iload dX12_isSpan_36 2 rfl ?_
        refine z_iconst (v := 1) dX12_isSpan_38 (by decide) ?_
        refine z_isub dX12_isSpan_39 ?_
        refine z_imul dX12_isSpan_40 ?_
        refine z_iadd dX12_isSpan_41 ?_
        refine z_sipush (v := 5000) dX12_isSpan_42 (by decide) ?_
        refine z_icmp_gt (tgt := 52) dX12_isSpan_45 (by decide) (fun q => ?_) (fun q => ?_)
        · have h := (if_pos q).symm.trans h
          refine z_iconst (v := 0) dX12_isSpan_52 (by decide) ?_
          cases h
          exact z_ireturn dX12_isSpan_53 rfl rfl ⟨rfl, rfl⟩
        · have h := (if_neg q).symm.trans h
          refine z_iconst (v := 1) dX12_isSpan_48 (by decide) ?_
          refine z_goto (tgt := 53) dX12_isSpan_49 (by decide) ?_
          cases h
          exact z_ireturn dX12_isSpan_53 rfl rfl ⟨rfl, rfl⟩
def F_X12_isSpan (x1 : Int32) (x2 : Int32) (x3 : Int32) (x4 : Int32) (x5 : Int32) (σ : Mm) : Option (Int32 × Mm) := (bnd (F_X12_isSet x1 x3 x2 σ) (fun v τ => (F_X12_isSpan_7 x3 x4 x5 v τ)))
set_option maxRecDepth 20000 in
theorem zb_X12_isSpan {S : Shp} {x1 : Int32} {x2 : Int32} {x3 : Int32} {x4 : Int32} {x5 : Int32} {σ : Mm} {r : Int32 × Mm} (h : F_X12_isSpan x1 x2 x3 x4 x5 σ = some r) : Z m_X12_isSpan S (Qi r) 0 [(0, .ref (sL S 3 0 0)), (1, .int (x1)), (2, .int (x2)), (3, .int (x3)), (4, .int (x4)), (5, .int (x5))] [] σ := by
  unfold F_X12_isSpan at h
  refine z_aload_n dX12_isSpan_0 rfl 0 rfl ?_
  refine z_iload_n dX12_isSpan_1 rfl 1 rfl ?_
  refine z_iload_n dX12_isSpan_2 rfl 3 rfl ?_
  refine z_iload_n dX12_isSpan_3 rfl 2 rfl ?_
  obtain ⟨v, τ, hc, h⟩ := bnd_e h
  refine z_callV (M' := m_X12_isSet) (t := 3) (i := 0) (k := 0) (As := [.int (x1), .int (x3), .int (x2)]) (rest := []) kl_12_491 oy_X12_isSet ⟨Nat.le_of_ble_eq_true rfl, Nat.le_of_ble_eq_true rfl⟩ rfl rfl rfl rfl (Nat.le_of_ble_eq_true rfl) rfl dX12_isSpan_4 (c_X12_isSet hc) (fun v2 τ2 hq => ?_)
  obtain ⟨rfl, hτ⟩ := hq
  subst τ2
  change Z _ _ _ _ _ [.int (v)] _
  refine Z.lv [3, 4, 5] rfl ?_
  exact zb_X12_isSpan_7 h
/-- SkyStonesModel.isSpan(IIIII)Z -/
theorem c_X12_isSpan {S : Shp} {x1 : Int32} {x2 : Int32} {x3 : Int32} {x4 : Int32} {x5 : Int32} {σ : Mm} {r : Int32 × Mm} (h : F_X12_isSpan x1 x2 x3 x4 x5 σ = some r) : Ct m_X12_isSpan S [.ref (sL S 3 0 0), .int (x1), .int (x2), .int (x3), .int (x4), .int (x5)] σ (Qi r) := Ct.of (by decide +kernel) (Nat.le_of_ble_eq_true rfl) (zb_X12_isSpan h)
def F_X12_free_80 (rc30 : Int32 → Int32 → Int32 → Int32 → Int32 → Int32 → Int32 → Mm → Option (Int32 × Mm)) (x1 : Int32) (x3 : Int32) (x4 : Int32) (x5 : Int32) (x6 : Int32) (x7 : Int32) (x8 : Int32) (σ : Mm) : Option (Int32 × Mm) := (rc30 x1 x3 x4 x5 x6 x7 (x8 + 1) σ)
set_option maxRecDepth 20000 in
theorem zb_X12_free_80 {S : Shp} {rc30 : Int32 → Int32 → Int32 → Int32 → Int32 → Int32 → Int32 → Mm → Option (Int32 × Mm)} (hrc30 : ∀ {x1 : Int32} {x3 : Int32} {x4 : Int32} {x5 : Int32} {x6 : Int32} {x7 : Int32} {x8 : Int32} {σ : Mm} {r : Int32 × Mm}, rc30 x1 x3 x4 x5 x6 x7 x8 σ = some r → Z m_X12_free S (Qi r) 30 [(0, .ref (sL S 3 0 0)), (1, .int (x1)), (3, .int (x3)), (4, .int (x4)), (5, .int (x5)), (6, .int (x6)), (7, .int (x7)), (8, .int (x8))] [] σ) {x1 : Int32} {x3 : Int32} {x4 : Int32} {x5 : Int32} {x6 : Int32} {x7 : Int32} {x8 : Int32} {σ : Mm} {r : Int32 × Mm} (h : F_X12_free_80 rc30 x1 x3 x4 x5 x6 x7 x8 σ = some r) : Z m_X12_free S (Qi r) 80 [(0, .ref (sL S 3 0 0)), (1, .int (x1)), (3, .int (x3)), (4, .int (x4)), (5, .int (x5)), (6, .int (x6)), (7, .int (x7)), (8, .int (x8))] [] σ := by
  unfold F_X12_free_80 at h
  refine z_iinc (j := 7) (v := x8 + 1) (lv' := [(0, .ref (sL S 3 0 0)), (1, .int (x1)), (3, .int (x3)), (4, .int (x4)), (5, .int (x5)), (6, .int (x6)), (7, .int (x7)), (8, .int (x8 + 1))]) dX12_free_80 rfl rfl (by decide) [1, 2, 3, 4, 5, 6, 7, 0] rfl ?_
  refine z_goto (tgt := 30) dX12_free_83 (by decide) ?_
  exact hrc30 h
def F_X12_free_55 (rc30 : Int32 → Int32 → Int32 → Int32 → Int32 → Int32 → Int32 → Mm → Option (Int32 × Mm)) (x1 : Int32) (x3 : Int32) (x4 : Int32) (x5 : Int32) (x6 : Int32) (x7 : Int32) (x8 : Int32) (s0 : Int32) (σ : Mm) : Option (Int32 × Mm) := (if x6 < s0 then (F_X12_free_80 rc30 x1 x3 x4 x5 s0 (x3 + (x4 * x8)) x8 σ) else (F_X12_free_80 rc30 x1 x3 x4 x5 x6 x7 x8 σ))
set_option maxRecDepth 20000 in
theorem zb_X12_free_55 {S : Shp} {rc30 : Int32 → Int32 → Int32 → Int32 → Int32 → Int32 → Int32 → Mm → Option (Int32 × Mm)} (hrc30 : ∀ {x1 : Int32} {x3 : Int32} {x4 : Int32} {x5 : Int32} {x6 : Int32} {x7 : Int32} {x8 : Int32} {σ : Mm} {r : Int32 × Mm}, rc30 x1 x3 x4 x5 x6 x7 x8 σ = some r → Z m_X12_free S (Qi r) 30 [(0, .ref (sL S 3 0 0)), (1, .int (x1)), (3, .int (x3)), (4, .int (x4)), (5, .int (x5)), (6, .int (x6)), (7, .int (x7)), (8, .int (x8))] [] σ) {x1 : Int32} {x3 : Int32} {x4 : Int32} {x5 : Int32} {x6 : Int32} {x7 : Int32} {x8 : Int32} {s0 : Int32} {σ : Mm} {r : Int32 × Mm} (h : F_X12_free_55 rc30 x1 x3 x4 x5 x6 x7 x8 s0 σ = some r) : Z m_X12_free S (Qi r) 55 [(0, .ref (sL S 3 0 0)), (1, .int (x1)), (3, .int (x3)), (4, .int (x4)), (5, .int (x5)), (6, .int (x6)), (7, .int (x7)), (8, .int (x8))] [.int (s0)] σ := by
  unfold F_X12_free_55 at h
  refine z_istore (lv' := [(0, .ref (sL S 3 0 0)), (1, .int (x1)), (3, .int (x3)), (4, .int (x4)), (5, .int (x5)), (6, .int (x6)), (7, .int (x7)), (8, .int (x8)), (9, .int (s0))]) dX12_free_55 (by decide) [1, 2, 3, 4, 5, 6, 7, 8, 0] rfl ?_
  refine z_iload dX12_free_57 8 rfl ?_
  refine z_iload dX12_free_59 5 rfl ?_
  refine z_icmp_gt (tgt := 67) dX12_free_61 (by decide) (fun q => ?_) (fun q => ?_)
  · have h := (if_pos q).symm.trans h
    refine z_iload dX12_free_67 8 rfl ?_
    refine z_istore (lv' := [(0, .ref (sL S 3 0 0)), (1, .int (x1)), (3, .int (x3)), (4, .int (x4)), (5, .int (x5)), (6, .int (s0)), (7, .int (x7)), (8, .int (x8)), (9, .int (s0))]) dX12_free_69 (by decide) [1, 2, 3, 4, 5, 0, 6, 7, 8] rfl ?_
    refine z_iload_n dX12_free_71 rfl 2 rfl ?_
    refine z_iload dX12_free_72 3 rfl ?_
    refine z_iload dX12_free_74 7 rfl ?_
    refine z_imul dX12_free_76 ?_
    refine z_iadd dX12_free_77 ?_
    refine z_istore (lv' := [(0, .ref (sL S 3 0 0)), (1, .int (x1)), (3, .int (x3)), (4, .int (x4)), (5, .int (x5)), (6, .int (s0)), (7, .int (x3 + (x4 * x8))), (8, .int (x8)), (9, .int (s0))]) dX12_free_78 (by decide) [1, 2, 3, 4, 5, 6, 0, 7, 8] rfl ?_
    refine Z.lv [0, 1, 2, 3, 4, 5, 6, 7] rfl ?_
    exact zb_X12_free_80 hrc30 h
  · have h := (if_neg q).symm.trans h
    refine z_goto (tgt := 80) dX12_free_64 (by decide) ?_
    refine Z.lv [0, 1, 2, 3, 4, 5, 6, 7] rfl ?_
    exact zb_X12_free_80 hrc30 h
def F_X12_free_48 (rc30 : Int32 → Int32 → Int32 → Int32 → Int32 → Int32 → Int32 → Mm → Option (Int32 × Mm)) (x1 : Int32) (x3 : Int32) (x4 : Int32) (x5 : Int32) (x6 : Int32) (x7 : Int32) (x8 : Int32) (σ : Mm) : Option (Int32 × Mm) := (bnd (F_X12_hitsOf x1 0 0 σ) (fun v τ => (F_X12_free_55 rc30 x1 x3 x4 x5 x6 x7 x8 v τ)))
set_option maxRecDepth 20000 in
theorem zb_X12_free_48 {S : Shp} {rc30 : Int32 → Int32 → Int32 → Int32 → Int32 → Int32 → Int32 → Mm → Option (Int32 × Mm)} (hrc30 : ∀ {x1 : Int32} {x3 : Int32} {x4 : Int32} {x5 : Int32} {x6 : Int32} {x7 : Int32} {x8 : Int32} {σ : Mm} {r : Int32 × Mm}, rc30 x1 x3 x4 x5 x6 x7 x8 σ = some r → Z m_X12_free S (Qi r) 30 [(0, .ref (sL S 3 0 0)), (1, .int (x1)), (3, .int (x3)), (4, .int (x4)), (5, .int (x5)), (6, .int (x6)), (7, .int (x7)), (8, .int (x8))] [] σ) {x1 : Int32} {x3 : Int32} {x4 : Int32} {x5 : Int32} {x6 : Int32} {x7 : Int32} {x8 : Int32} {σ : Mm} {r : Int32 × Mm} (h : F_X12_free_48 rc30 x1 x3 x4 x5 x6 x7 x8 σ = some r) : Z m_X12_free S (Qi r) 48 [(0, .ref (sL S 3 0 0)), (1, .int (x1)), (3, .int (x3)), (4, .int (x4)), (5, .int (x5)), (6, .int (x6)), (7, .int (x7)), (8, .int (x8))] [] σ := by
  unfold F_X12_free_48 at h
  refine z_aload_n dX12_free_48 rfl 0 rfl ?_
  refine z_iload_n dX12_free_49 rfl 1 rfl ?_
  refine z_iconst (v := 0) dX12_free_50 (by decide) ?_
  refine z_iconst (v := 0) dX12_free_51 (by decide) ?_
  obtain ⟨v, τ, hc, h⟩ := bnd_e h
  refine z_callV (M' := m_X12_hitsOf) (t := 3) (i := 0) (k := 0) (As := [.int (x1), .int (0), .int (0)]) (rest := []) kl_12_497 oy_X12_hitsOf ⟨Nat.le_of_ble_eq_true rfl, Nat.le_of_ble_eq_true rfl⟩ rfl rfl rfl rfl (Nat.le_of_ble_eq_true rfl) rfl dX12_free_52 (c_X12_hitsOf hc) (fun v2 τ2 hq => ?_)
  obtain ⟨rfl, hτ⟩ := hq
  subst τ2
  change Z _ _ _ _ _ [.int (v)] _
  exact zb_X12_free_55 hrc30 h
def B_X12_free_30 (rc30 : Int32 → Int32 → Int32 → Int32 → Int32 → Int32 → Int32 → Mm → Option (Int32 × Mm)) (x1 : Int32) (x3 : Int32) (x4 : Int32) (x5 : Int32) (x6 : Int32) (x7 : Int32) (x8 : Int32) (σ : Mm) : Option (Int32 × Mm) := (if x5 ≤ x8 then some (x7, σ) else (bnv (F_X12_laySky (x3 + (x4 * x8)) σ) (fun τ => (F_X12_free_48 rc30 x1 x3 x4 x5 x6 x7 x8 τ))))
set_option maxRecDepth 20000 in
theorem zB_X12_free_30 {S : Shp} {rc30 : Int32 → Int32 → Int32 → Int32 → Int32 → Int32 → Int32 → Mm → Option (Int32 × Mm)} (hrc30 : ∀ {x1 : Int32} {x3 : Int32} {x4 : Int32} {x5 : Int32} {x6 : Int32} {x7 : Int32} {x8 : Int32} {σ : Mm} {r : Int32 × Mm}, rc30 x1 x3 x4 x5 x6 x7 x8 σ = some r → Z m_X12_free S (Qi r) 30 [(0, .ref (sL S 3 0 0)), (1, .int (x1)), (3, .int (x3)), (4, .int (x4)), (5, .int (x5)), (6, .int (x6)), (7, .int (x7)), (8, .int (x8))] [] σ) {x1 : Int32} {x3 : Int32} {x4 : Int32} {x5 : Int32} {x6 : Int32} {x7 : Int32} {x8 : Int32} {σ : Mm} {r : Int32 × Mm} (h : B_X12_free_30 rc30 x1 x3 x4 x5 x6 x7 x8 σ = some r) : Z m_X12_free S (Qi r) 30 [(0, .ref (sL S 3 0 0)), (1, .int (x1)), (3, .int (x3)), (4, .int (x4)), (5, .int (x5)), (6, .int (x6)), (7, .int (x7)), (8, .int (x8))] [] σ := by
  unfold B_X12_free_30 at h
  refine z_iload dX12_free_30 7 rfl ?_
  refine z_iload dX12_free_32 4 rfl ?_
  refine z_icmp_ge (tgt := 86) dX12_free_34 (by decide) (fun q => ?_) (fun q => ?_)
  · have h := (if_pos q).symm.trans h
    refine z_iload dX12_free_86 6 rfl ?_
    cases h
    exact z_ireturn dX12_free_88 rfl rfl ⟨rfl, rfl⟩
  · have h := (if_neg q).symm.trans h
    refine z_aload_n dX12_free_37 rfl 0 rfl ?_
    refine z_iload_n dX12_free_38 rfl 2 rfl ?_
    refine z_iload dX12_free_39 3 rfl ?_
    refine z_iload dX12_free_41 7 rfl ?_
    refine z_imul dX12_free_43 ?_
    refine z_iadd dX12_free_44 ?_
    obtain ⟨τ, hc, h⟩ := bnv_e h
    refine z_callV (M' := m_X12_laySky) (t := 3) (i := 0) (k := 0) (As := [.int (x3 + (x4 * x8))]) (rest := []) kl_12_481 oy_X12_laySky ⟨Nat.le_of_ble_eq_true rfl, Nat.le_of_ble_eq_true rfl⟩ rfl rfl rfl rfl (Nat.le_of_ble_eq_true rfl) rfl dX12_free_45 (c_X12_laySky hc) (fun v2 τ2 hq => ?_)
    obtain ⟨rfl, hτ⟩ := hq
    subst τ2
    change Z _ _ _ _ _ [] _
    exact zb_X12_free_48 hrc30 h
def F_X12_free_30 : Nat → Int32 → Int32 → Int32 → Int32 → Int32 → Int32 → Int32 → Mm → Option (Int32 × Mm)
  | 0 => fun _ _ _ _ _ _ _ _ => none
  | n + 1 => B_X12_free_30 (F_X12_free_30 n)
theorem zl_X12_free_30 {S : Shp} : ∀ (nn : Nat) {x1 : Int32} {x3 : Int32} {x4 : Int32} {x5 : Int32} {x6 : Int32} {x7 : Int32} {x8 : Int32} {σ : Mm} {r : Int32 × Mm}, F_X12_free_30 nn x1 x3 x4 x5 x6 x7 x8 σ = some r → Z m_X12_free S (Qi r) 30 [(0, .ref (sL S 3 0 0)), (1, .int (x1)), (3, .int (x3)), (4, .int (x4)), (5, .int (x5)), (6, .int (x6)), (7, .int (x7)), (8, .int (x8))] [] σ := by
  intro nn
  induction nn with
  | zero => intro x1 x3 x4 x5 x6 x7 x8 σ r h; cases h
  | succ nn ih => intro x1 x3 x4 x5 x6 x7 x8 σ r h; exact zB_X12_free_30 @ih h
def F_X12_free_21 (x1 : Int32) (x3 : Int32) (x4 : Int32) (x5 : Int32) (σ : Mm) : Option (Int32 × Mm) := (F_X12_free_30 FU x1 x3 x4 x5 ((-1)) ((-1)) 0 σ)
set_option maxRecDepth 20000 in
theorem zb_X12_free_21 {S : Shp} {x1 : Int32} {x3 : Int32} {x4 : Int32} {x5 : Int32} {σ : Mm} {r : Int32 × Mm} (h : F_X12_free_21 x1 x3 x4 x5 σ = some r) : Z m_X12_free S (Qi r) 21 [(0, .ref (sL S 3 0 0)), (1, .int (x1)), (3, .int (x3)), (4, .int (x4)), (5, .int (x5))] [] σ := by
  unfold F_X12_free_21 at h
  refine z_iconst (v := (-1)) dX12_free_21 (by decide) ?_
  refine z_istore (lv' := [(0, .ref (sL S 3 0 0)), (1, .int (x1)), (3, .int (x3)), (4, .int (x4)), (5, .int (x5)), (6, .int ((-1)))]) dX12_free_22 (by decide) [1, 2, 3, 4, 5, 0] rfl ?_
  refine z_iconst (v := (-1)) dX12_free_24 (by decide) ?_
  refine z_istore (lv' := [(0, .ref (sL S 3 0 0)), (1, .int (x1)), (3, .int (x3)), (4, .int (x4)), (5, .int (x5)), (6, .int ((-1))), (7, .int ((-1)))]) dX12_free_25 (by decide) [1, 2, 3, 4, 5, 6, 0] rfl ?_
  refine z_iconst (v := 0) dX12_free_27 (by decide) ?_
  refine z_istore (lv' := [(0, .ref (sL S 3 0 0)), (1, .int (x1)), (3, .int (x3)), (4, .int (x4)), (5, .int (x5)), (6, .int ((-1))), (7, .int ((-1))), (8, .int (0))]) dX12_free_28 (by decide) [1, 2, 3, 4, 5, 6, 7, 0] rfl ?_
  exact zl_X12_free_30 FU h
def F_X12_free_11 (x1 : Int32) (x2 : Int32) (x3 : Int32) (x4 : Int32) (x5 : Int32) (s0 : Int32) (σ : Mm) : Option (Int32 × Mm) := (if s0 = 0 then some ((-1), σ) else (bnv (F_X12_lay x2 σ) (fun τ => (F_X12_free_21 x1 x3 x4 x5 τ))))
set_option maxRecDepth 20000 in
theorem zb_X12_free_11 {S : Shp} {x1 : Int32} {x2 : Int32} {x3 : Int32} {x4 : Int32} {x5 : Int32} {s0 : Int32} {σ : Mm} {r : Int32 × Mm} (h : F_X12_free_11 x1 x2 x3 x4 x5 s0 σ = some r) : Z m_X12_free S (Qi r) 11 [(0, .ref (sL S 3 0 0)), (1, .int (x1)), (2, .int (x2)), (3, .int (x3)), (4, .int (x4)), (5, .int (x5))] [.int (s0)] σ := by
  unfold F_X12_free_11 at h
  refine z_if_ne (tgt := 16) dX12_free_11 (by decide) (fun q => ?_) (fun q => ?_)
  · have h := (if_neg q).symm.trans h
    refine z_aload_n dX12_free_16 rfl 0 rfl ?_
    refine z_iload_n dX12_free_17 rfl 2 rfl ?_
    obtain ⟨τ, hc, h⟩ := bnv_e h
    refine z_callV (M' := m_X12_lay) (t := 3) (i := 0) (k := 0) (As := [.int (x2)]) (rest := []) kl_12_463 oy_X12_lay ⟨Nat.le_of_ble_eq_true rfl, Nat.le_of_ble_eq_true rfl⟩ rfl rfl rfl rfl (Nat.le_of_ble_eq_true rfl) rfl dX12_free_18 (c_X12_lay hc) (fun v2 τ2 hq => ?_)
    obtain ⟨rfl, hτ⟩ := hq
    subst τ2
    change Z _ _ _ _ _ [] _
    refine Z.lv [0, 1, 3, 4, 5] rfl ?_
    exact zb_X12_free_21 h
  · have h := (if_pos q).symm.trans h
    refine z_iconst (v := (-1)) dX12_free_14 (by decide) ?_
    cases h
    exact z_ireturn dX12_free_15 rfl rfl ⟨rfl, rfl⟩
def F_X12_free (x1 : Int32) (x2 : Int32) (x3 : Int32) (x4 : Int32) (x5 : Int32) (σ : Mm) : Option (Int32 × Mm) := (bnd (F_X12_isSpan x1 x2 x3 x4 x5 σ) (fun v τ => (F_X12_free_11 x1 x2 x3 x4 x5 v τ)))
set_option maxRecDepth 20000 in
theorem zb_X12_free {S : Shp} {x1 : Int32} {x2 : Int32} {x3 : Int32} {x4 : Int32} {x5 : Int32} {σ : Mm} {r : Int32 × Mm} (h : F_X12_free x1 x2 x3 x4 x5 σ = some r) : Z m_X12_free S (Qi r) 0 [(0, .ref (sL S 3 0 0)), (1, .int (x1)), (2, .int (x2)), (3, .int (x3)), (4, .int (x4)), (5, .int (x5))] [] σ := by
  unfold F_X12_free at h
  refine z_aload_n dX12_free_0 rfl 0 rfl ?_
  refine z_iload_n dX12_free_1 rfl 1 rfl ?_
  refine z_iload_n dX12_free_2 rfl 2 rfl ?_
  refine z_iload_n dX12_free_3 rfl 3 rfl ?_
  refine z_iload dX12_free_4 4 rfl ?_
  refine z_iload dX12_free_6 5 rfl ?_
  obtain ⟨v, τ, hc, h⟩ := bnd_e h
  refine z_callV (M' := m_X12_isSpan) (t := 3) (i := 0) (k := 0) (As := [.int (x1), .int (x2), .int (x3), .int (x4), .int (x5)]) (rest := []) kl_12_509 oy_X12_isSpan ⟨Nat.le_of_ble_eq_true rfl, Nat.le_of_ble_eq_true rfl⟩ rfl rfl rfl rfl (Nat.le_of_ble_eq_true rfl) rfl dX12_free_8 (c_X12_isSpan hc) (fun v2 τ2 hq => ?_)
  obtain ⟨rfl, hτ⟩ := hq
  subst τ2
  change Z _ _ _ _ _ [.int (v)] _
  exact zb_X12_free_11 h
/-- SkyStonesModel.free(IIIII)I -/
theorem c_X12_free {S : Shp} {x1 : Int32} {x2 : Int32} {x3 : Int32} {x4 : Int32} {x5 : Int32} {σ : Mm} {r : Int32 × Mm} (h : F_X12_free x1 x2 x3 x4 x5 σ = some r) : Ct m_X12_free S [.ref (sL S 3 0 0), .int (x1), .int (x2), .int (x3), .int (x4), .int (x5)] σ (Qi r) := Ct.of (by decide +kernel) (Nat.le_of_ble_eq_true rfl) (zb_X12_free h)
def F_X12_freer_83 (rc46 : Int32 → Int32 → Int32 → Int32 → Int32 → Int32 → Int32 → Mm → Option (Int32 × Mm)) (x1 : Int32) (x3 : Int32) (x4 : Int32) (x5 : Int32) (x7 : Int32) (x9 : Int32) (s0 : Int32) (s1 : Int32) (σ : Mm) : Option (Int32 × Mm) := (rc46 x1 x3 x4 x5 x7 (s1 + s0) (x9 + 1) σ)
set_option maxRecDepth 20000 in
theorem zb_X12_freer_83 {S : Shp} {rc46 : Int32 → Int32 → Int32 → Int32 → Int32 → Int32 → Int32 → Mm → Option (Int32 × Mm)} (hrc46 : ∀ {x1 : Int32} {x3 : Int32} {x4 : Int32} {x5 : Int32} {x7 : Int32} {x8 : Int32} {x9 : Int32} {σ : Mm} {r : Int32 × Mm}, rc46 x1 x3 x4 x5 x7 x8 x9 σ = some r → Z m_X12_freer S (Qi r) 46 [(0, .ref (sL S 3 0 0)), (1, .int (x1)), (3, .int (x3)), (4, .int (x4)), (5, .int (x5)), (7, .int (x7)), (8, .int (x8)), (9, .int (x9))] [] σ) {x1 : Int32} {x3 : Int32} {x4 : Int32} {x5 : Int32} {x7 : Int32} {x9 : Int32} {s0 : Int32} {s1 : Int32} {σ : Mm} {r : Int32 × Mm} (h : F_X12_freer_83 rc46 x1 x3 x4 x5 x7 x9 s0 s1 σ = some r) : Z m_X12_freer S (Qi r) 83 [(0, .ref (sL S 3 0 0)), (1, .int (x1)), (3, .int (x3)), (4, .int (x4)), (5, .int (x5)), (7, .int (x7)), (9, .int (x9))] [.int (s0), .int (s1)] σ := by
  unfold F_X12_freer_83 at h
  refine z_iadd dX12_freer_83 ?_
  refine z_istore (lv' := [(0, .ref (sL S 3 0 0)), (1, .int (x1)), (3, .int (x3)), (4, .int (x4)), (5, .int (x5)), (7, .int (x7)), (8, .int (s1 + s0)), (9, .int (x9))]) dX12_freer_84 (by decide) [1, 2, 3, 4, 5, 6, 0, 7] rfl ?_
  refine z_iinc (j := 7) (v := x9 + 1) (lv' := [(0, .ref (sL S 3 0 0)), (1, .int (x1)), (3, .int (x3)), (4, .int (x4)), (5, .int (x5)), (7, .int (x7)), (8, .int (s1 + s0)), (9, .int (x9 + 1))]) dX12_freer_86 rfl rfl (by decide) [1, 2, 3, 4, 5, 6, 7, 0] rfl ?_
  refine z_goto (tgt := 46) dX12_freer_89 (by decide) ?_
  exact hrc46 h
def F_X12_freer_73 (rc46 : Int32 → Int32 → Int32 → Int32 → Int32 → Int32 → Int32 → Mm → Option (Int32 × Mm)) (x1 : Int32) (x3 : Int32) (x4 : Int32) (x5 : Int32) (x7 : Int32) (x9 : Int32) (s0 : Int32) (s1 : Int32) (σ : Mm) : Option (Int32 × Mm) := (if s0 < x7 then (F_X12_freer_83 rc46 x1 x3 x4 x5 x7 x9 0 s1 σ) else (F_X12_freer_83 rc46 x1 x3 x4 x5 x7 x9 1 s1 σ))
set_option maxRecDepth 20000 in
theorem zb_X12_freer_73 {S : Shp} {rc46 : Int32 → Int32 → Int32 → Int32 → Int32 → Int32 → Int32 → Mm → Option (Int32 × Mm)} (hrc46 : ∀ {x1 : Int32} {x3 : Int32} {x4 : Int32} {x5 : Int32} {x7 : Int32} {x8 : Int32} {x9 : Int32} {σ : Mm} {r : Int32 × Mm}, rc46 x1 x3 x4 x5 x7 x8 x9 σ = some r → Z m_X12_freer S (Qi r) 46 [(0, .ref (sL S 3 0 0)), (1, .int (x1)), (3, .int (x3)), (4, .int (x4)), (5, .int (x5)), (7, .int (x7)), (8, .int (x8)), (9, .int (x9))] [] σ) {x1 : Int32} {x3 : Int32} {x4 : Int32} {x5 : Int32} {x7 : Int32} {x9 : Int32} {s0 : Int32} {s1 : Int32} {σ : Mm} {r : Int32 × Mm} (h : F_X12_freer_73 rc46 x1 x3 x4 x5 x7 x9 s0 s1 σ = some r) : Z m_X12_freer S (Qi r) 73 [(0, .ref (sL S 3 0 0)), (1, .int (x1)), (3, .int (x3)), (4, .int (x4)), (5, .int (x5)), (7, .int (x7)), (9, .int (x9))] [.int (s0), .int (s1)] σ := by
  unfold F_X12_freer_73 at h
  refine z_iload dX12_freer_73 5 rfl ?_
  refine z_icmp_lt (tgt := 82) dX12_freer_75 (by decide) (fun q => ?_) (fun q => ?_)
  · have h := (if_pos q).symm.trans h
    refine z_iconst (v := 0) dX12_freer_82 (by decide) ?_
    exact zb_X12_freer_83 hrc46 h
  · have h := (if_neg q).symm.trans h
    refine z_iconst (v := 1) dX12_freer_78 (by decide) ?_
    refine z_goto (tgt := 83) dX12_freer_79 (by decide) ?_
    exact zb_X12_freer_83 hrc46 h
def F_X12_freer_64 (rc46 : Int32 → Int32 → Int32 → Int32 → Int32 → Int32 → Int32 → Mm → Option (Int32 × Mm)) (x1 : Int32) (x3 : Int32) (x4 : Int32) (x5 : Int32) (x7 : Int32) (x8 : Int32) (x9 : Int32) (σ : Mm) : Option (Int32 × Mm) := (bnd (F_X12_hitsOf x1 0 0 σ) (fun v τ => (F_X12_freer_73 rc46 x1 x3 x4 x5 x7 x9 v x8 τ)))
set_option maxRecDepth 20000 in
theorem zb_X12_freer_64 {S : Shp} {rc46 : Int32 → Int32 → Int32 → Int32 → Int32 → Int32 → Int32 → Mm → Option (Int32 × Mm)} (hrc46 : ∀ {x1 : Int32} {x3 : Int32} {x4 : Int32} {x5 : Int32} {x7 : Int32} {x8 : Int32} {x9 : Int32} {σ : Mm} {r : Int32 × Mm}, rc46 x1 x3 x4 x5 x7 x8 x9 σ = some r → Z m_X12_freer S (Qi r) 46 [(0, .ref (sL S 3 0 0)), (1, .int (x1)), (3, .int (x3)), (4, .int (x4)), (5, .int (x5)), (7, .int (x7)), (8, .int (x8)), (9, .int (x9))] [] σ) {x1 : Int32} {x3 : Int32} {x4 : Int32} {x5 : Int32} {x7 : Int32} {x8 : Int32} {x9 : Int32} {σ : Mm} {r : Int32 × Mm} (h : F_X12_freer_64 rc46 x1 x3 x4 x5 x7 x8 x9 σ = some r) : Z m_X12_freer S (Qi r) 64 [(0, .ref (sL S 3 0 0)), (1, .int (x1)), (3, .int (x3)), (4, .int (x4)), (5, .int (x5)), (7, .int (x7)), (8, .int (x8)), (9, .int (x9))] [] σ := by
  unfold F_X12_freer_64 at h
  refine z_iload dX12_freer_64 6 rfl ?_
  refine z_aload_n dX12_freer_66 rfl 0 rfl ?_
  refine z_iload_n dX12_freer_67 rfl 1 rfl ?_
  refine z_iconst (v := 0) dX12_freer_68 (by decide) ?_
  refine z_iconst (v := 0) dX12_freer_69 (by decide) ?_
  obtain ⟨v, τ, hc, h⟩ := bnd_e h
  refine z_callV (M' := m_X12_hitsOf) (t := 3) (i := 0) (k := 0) (As := [.int (x1), .int (0), .int (0)]) (rest := [.int (x8)]) kl_12_497 oy_X12_hitsOf ⟨Nat.le_of_ble_eq_true rfl, Nat.le_of_ble_eq_true rfl⟩ rfl rfl rfl rfl (Nat.le_of_ble_eq_true rfl) rfl dX12_freer_70 (c_X12_hitsOf hc) (fun v2 τ2 hq => ?_)
  obtain ⟨rfl, hτ⟩ := hq
  subst τ2
  change Z _ _ _ _ _ [.int (v), .int (x8)] _
  refine Z.lv [0, 1, 2, 3, 4, 5, 7] rfl ?_
  exact zb_X12_freer_73 hrc46 h
def B_X12_freer_46 (rc46 : Int32 → Int32 → Int32 → Int32 → Int32 → Int32 → Int32 → Mm → Option (Int32 × Mm)) (x1 : Int32) (x3 : Int32) (x4 : Int32) (x5 : Int32) (x7 : Int32) (x8 : Int32) (x9 : Int32) (σ : Mm) : Option (Int32 × Mm) := (if x5 ≤ x9 then some (x8, σ) else (bnv (F_X12_laySky (x3 + (x4 * x9)) σ) (fun τ => (F_X12_freer_64 rc46 x1 x3 x4 x5 x7 x8 x9 τ))))
set_option maxRecDepth 20000 in
theorem zB_X12_freer_46 {S : Shp} {rc46 : Int32 → Int32 → Int32 → Int32 → Int32 → Int32 → Int32 → Mm → Option (Int32 × Mm)} (hrc46 : ∀ {x1 : Int32} {x3 : Int32} {x4 : Int32} {x5 : Int32} {x7 : Int32} {x8 : Int32} {x9 : Int32} {σ : Mm} {r : Int32 × Mm}, rc46 x1 x3 x4 x5 x7 x8 x9 σ = some r → Z m_X12_freer S (Qi r) 46 [(0, .ref (sL S 3 0 0)), (1, .int (x1)), (3, .int (x3)), (4, .int (x4)), (5, .int (x5)), (7, .int (x7)), (8, .int (x8)), (9, .int (x9))] [] σ) {x1 : Int32} {x3 : Int32} {x4 : Int32} {x5 : Int32} {x7 : Int32} {x8 : Int32} {x9 : Int32} {σ : Mm} {r : Int32 × Mm} (h : B_X12_freer_46 rc46 x1 x3 x4 x5 x7 x8 x9 σ = some r) : Z m_X12_freer S (Qi r) 46 [(0, .ref (sL S 3 0 0)), (1, .int (x1)), (3, .int (x3)), (4, .int (x4)), (5, .int (x5)), (7, .int (x7)), (8, .int (x8)), (9, .int (x9))] [] σ := by
  unfold B_X12_freer_46 at h
  refine z_iload dX12_freer_46 7 rfl ?_
  refine z_iload dX12_freer_48 4 rfl ?_
  refine z_icmp_ge (tgt := 92) dX12_freer_50 (by decide) (fun q => ?_) (fun q => ?_)
  · have h := (if_pos q).symm.trans h
    refine z_iload dX12_freer_92 6 rfl ?_
    cases h
    exact z_ireturn dX12_freer_94 rfl rfl ⟨rfl, rfl⟩
  · have h := (if_neg q).symm.trans h
    refine z_aload_n dX12_freer_53 rfl 0 rfl ?_
    refine z_iload_n dX12_freer_54 rfl 2 rfl ?_
    refine z_iload dX12_freer_55 3 rfl ?_
    refine z_iload dX12_freer_57 7 rfl ?_
    refine z_imul dX12_freer_59 ?_
    refine z_iadd dX12_freer_60 ?_
    obtain ⟨τ, hc, h⟩ := bnv_e h
    refine z_callV (M' := m_X12_laySky) (t := 3) (i := 0) (k := 0) (As := [.int (x3 + (x4 * x9))]) (rest := []) kl_12_481 oy_X12_laySky ⟨Nat.le_of_ble_eq_true rfl, Nat.le_of_ble_eq_true rfl⟩ rfl rfl rfl rfl (Nat.le_of_ble_eq_true rfl) rfl dX12_freer_61 (c_X12_laySky hc) (fun v2 τ2 hq => ?_)
    obtain ⟨rfl, hτ⟩ := hq
    subst τ2
    change Z _ _ _ _ _ [] _
    exact zb_X12_freer_64 hrc46 h
def F_X12_freer_46 : Nat → Int32 → Int32 → Int32 → Int32 → Int32 → Int32 → Int32 → Mm → Option (Int32 × Mm)
  | 0 => fun _ _ _ _ _ _ _ _ => none
  | n + 1 => B_X12_freer_46 (F_X12_freer_46 n)
theorem zl_X12_freer_46 {S : Shp} : ∀ (nn : Nat) {x1 : Int32} {x3 : Int32} {x4 : Int32} {x5 : Int32} {x7 : Int32} {x8 : Int32} {x9 : Int32} {σ : Mm} {r : Int32 × Mm}, F_X12_freer_46 nn x1 x3 x4 x5 x7 x8 x9 σ = some r → Z m_X12_freer S (Qi r) 46 [(0, .ref (sL S 3 0 0)), (1, .int (x1)), (3, .int (x3)), (4, .int (x4)), (5, .int (x5)), (7, .int (x7)), (8, .int (x8)), (9, .int (x9))] [] σ := by
  intro nn
  induction nn with
  | zero => intro x1 x3 x4 x5 x7 x8 x9 σ r h; cases h
  | succ nn ih => intro x1 x3 x4 x5 x7 x8 x9 σ r h; exact zB_X12_freer_46 @ih h
def F_X12_freer_38 (x1 : Int32) (x3 : Int32) (x4 : Int32) (x5 : Int32) (s0 : Int32) (σ : Mm) : Option (Int32 × Mm) := (F_X12_freer_46 FU x1 x3 x4 x5 s0 0 0 σ)
set_option maxRecDepth 20000 in
theorem zb_X12_freer_38 {S : Shp} {x1 : Int32} {x3 : Int32} {x4 : Int32} {x5 : Int32} {s0 : Int32} {σ : Mm} {r : Int32 × Mm} (h : F_X12_freer_38 x1 x3 x4 x5 s0 σ = some r) : Z m_X12_freer S (Qi r) 38 [(0, .ref (sL S 3 0 0)), (1, .int (x1)), (3, .int (x3)), (4, .int (x4)), (5, .int (x5))] [.int (s0)] σ := by
  unfold F_X12_freer_38 at h
  refine z_istore (lv' := [(0, .ref (sL S 3 0 0)), (1, .int (x1)), (3, .int (x3)), (4, .int (x4)), (5, .int (x5)), (7, .int (s0))]) dX12_freer_38 (by decide) [1, 2, 3, 4, 5, 0] rfl ?_
  refine z_iconst (v := 0) dX12_freer_40 (by decide) ?_
  refine z_istore (lv' := [(0, .ref (sL S 3 0 0)), (1, .int (x1)), (3, .int (x3)), (4, .int (x4)), (5, .int (x5)), (7, .int (s0)), (8, .int (0))]) dX12_freer_41 (by decide) [1, 2, 3, 4, 5, 6, 0] rfl ?_
  refine z_iconst (v := 0) dX12_freer_43 (by decide) ?_
  refine z_istore (lv' := [(0, .ref (sL S 3 0 0)), (1, .int (x1)), (3, .int (x3)), (4, .int (x4)), (5, .int (x5)), (7, .int (s0)), (8, .int (0)), (9, .int (0))]) dX12_freer_44 (by decide) [1, 2, 3, 4, 5, 6, 7, 0] rfl ?_
  exact zl_X12_freer_46 FU h
def F_X12_freer_31 (x1 : Int32) (x3 : Int32) (x4 : Int32) (x5 : Int32) (σ : Mm) : Option (Int32 × Mm) := (bnd (F_X12_hitsOf x1 0 0 σ) (fun v τ => (F_X12_freer_38 x1 x3 x4 x5 v τ)))
set_option maxRecDepth 20000 in
theorem zb_X12_freer_31 {S : Shp} {x1 : Int32} {x3 : Int32} {x4 : Int32} {x5 : Int32} {σ : Mm} {r : Int32 × Mm} (h : F_X12_freer_31 x1 x3 x4 x5 σ = some r) : Z m_X12_freer S (Qi r) 31 [(0, .ref (sL S 3 0 0)), (1, .int (x1)), (3, .int (x3)), (4, .int (x4)), (5, .int (x5))] [] σ := by
  unfold F_X12_freer_31 at h
  refine z_aload_n dX12_freer_31 rfl 0 rfl ?_
  refine z_iload_n dX12_freer_32 rfl 1 rfl ?_
  refine z_iconst (v := 0) dX12_freer_33 (by decide) ?_
  refine z_iconst (v := 0) dX12_freer_34 (by decide) ?_
  obtain ⟨v, τ, hc, h⟩ := bnd_e h
  refine z_callV (M' := m_X12_hitsOf) (t := 3) (i := 0) (k := 0) (As := [.int (x1), .int (0), .int (0)]) (rest := []) kl_12_497 oy_X12_hitsOf ⟨Nat.le_of_ble_eq_true rfl, Nat.le_of_ble_eq_true rfl⟩ rfl rfl rfl rfl (Nat.le_of_ble_eq_true rfl) rfl dX12_freer_35 (c_X12_hitsOf hc) (fun v2 τ2 hq => ?_)
  obtain ⟨rfl, hτ⟩ := hq
  subst τ2
  change Z _ _ _ _ _ [.int (v)] _
  exact zb_X12_freer_38 h
def F_X12_freer_11 (x1 : Int32) (x2 : Int32) (x3 : Int32) (x4 : Int32) (x5 : Int32) (x6 : Int32) (s0 : Int32) (σ : Mm) : Option (Int32 × Mm) := (if s0 = 0 then some ((-1), σ) else (if (f_X12_isYear x6) = 0 then some ((-1), σ) else (bnv (F_X12_layAll x6 x2 σ) (fun τ => (F_X12_freer_31 x1 x3 x4 x5 τ)))))
set_option maxRecDepth 20000 in
theorem zb_X12_freer_11 {S : Shp} {x1 : Int32} {x2 : Int32} {x3 : Int32} {x4 : Int32} {x5 : Int32} {x6 : Int32} {s0 : Int32} {σ : Mm} {r : Int32 × Mm} (h : F_X12_freer_11 x1 x2 x3 x4 x5 x6 s0 σ = some r) : Z m_X12_freer S (Qi r) 11 [(0, .ref (sL S 3 0 0)), (1, .int (x1)), (2, .int (x2)), (3, .int (x3)), (4, .int (x4)), (5, .int (x5)), (6, .int (x6))] [.int (s0)] σ := by
  unfold F_X12_freer_11 at h
  refine z_if_eq (tgt := 22) dX12_freer_11 (by decide) (fun q => ?_) (fun q => ?_)
  · have h := (if_pos q).symm.trans h
    refine z_iconst (v := (-1)) dX12_freer_22 (by decide) ?_
    cases h
    exact z_ireturn dX12_freer_23 rfl rfl ⟨rfl, rfl⟩
  · have h := (if_neg q).symm.trans h
    refine z_iload dX12_freer_14 6 rfl ?_
    refine z_callS (M' := m_X12_isYear) (As := [.int (x6)]) (rest := []) kl_12_472 oy_X12_isYear ⟨Nat.le_of_ble_eq_true rfl, Nat.le_of_ble_eq_true rfl⟩ rfl (Nat.le_of_ble_eq_true rfl) rfl dX12_freer_16 (c_X12_isYear rfl) (fun v τ hq => ?_)
    obtain ⟨rfl, hτ⟩ := hq
    subst τ
    change Z _ _ _ _ _ [.int (f_X12_isYear x6)] _
    refine z_if_ne (tgt := 24) dX12_freer_19 (by decide) (fun q => ?_) (fun q => ?_)
    · have h := (if_neg q).symm.trans h
      refine z_aload_n dX12_freer_24 rfl 0 rfl ?_
      refine z_iload dX12_freer_25 6 rfl ?_
      refine z_iload_n dX12_freer_27 rfl 2 rfl ?_
      obtain ⟨τ, hc, h⟩ := bnv_e h
      refine z_callV (M' := m_X12_layAll) (t := 3) (i := 0) (k := 0) (As := [.int (x6), .int (x2)]) (rest := []) kl_12_494 oy_X12_layAll ⟨Nat.le_of_ble_eq_true rfl, Nat.le_of_ble_eq_true rfl⟩ rfl rfl rfl rfl (Nat.le_of_ble_eq_true rfl) rfl dX12_freer_28 (c_X12_layAll hc) (fun v2 τ2 hq => ?_)
      obtain ⟨rfl, hτ⟩ := hq
      subst τ2
      change Z _ _ _ _ _ [] _
      refine Z.lv [0, 1, 3, 4, 5] rfl ?_
      exact zb_X12_freer_31 h
    · have h := (if_pos q).symm.trans h
      refine z_iconst (v := (-1)) dX12_freer_22 (by decide) ?_
      cases h
      exact z_ireturn dX12_freer_23 rfl rfl ⟨rfl, rfl⟩
def F_X12_freer (x1 : Int32) (x2 : Int32) (x3 : Int32) (x4 : Int32) (x5 : Int32) (x6 : Int32) (σ : Mm) : Option (Int32 × Mm) := (bnd (F_X12_isSpan x1 x2 x3 x4 x5 σ) (fun v τ => (F_X12_freer_11 x1 x2 x3 x4 x5 x6 v τ)))
set_option maxRecDepth 20000 in
theorem zb_X12_freer {S : Shp} {x1 : Int32} {x2 : Int32} {x3 : Int32} {x4 : Int32} {x5 : Int32} {x6 : Int32} {σ : Mm} {r : Int32 × Mm} (h : F_X12_freer x1 x2 x3 x4 x5 x6 σ = some r) : Z m_X12_freer S (Qi r) 0 [(0, .ref (sL S 3 0 0)), (1, .int (x1)), (2, .int (x2)), (3, .int (x3)), (4, .int (x4)), (5, .int (x5)), (6, .int (x6))] [] σ := by
  unfold F_X12_freer at h
  refine z_aload_n dX12_freer_0 rfl 0 rfl ?_
  refine z_iload_n dX12_freer_1 rfl 1 rfl ?_
  refine z_iload_n dX12_freer_2 rfl 2 rfl ?_
  refine z_iload_n dX12_freer_3 rfl 3 rfl ?_
  refine z_iload dX12_freer_4 4 rfl ?_
  refine z_iload dX12_freer_6 5 rfl ?_
  obtain ⟨v, τ, hc, h⟩ := bnd_e h
  refine z_callV (M' := m_X12_isSpan) (t := 3) (i := 0) (k := 0) (As := [.int (x1), .int (x2), .int (x3), .int (x4), .int (x5)]) (rest := []) kl_12_509 oy_X12_isSpan ⟨Nat.le_of_ble_eq_true rfl, Nat.le_of_ble_eq_true rfl⟩ rfl rfl rfl rfl (Nat.le_of_ble_eq_true rfl) rfl dX12_freer_8 (c_X12_isSpan hc) (fun v2 τ2 hq => ?_)
  obtain ⟨rfl, hτ⟩ := hq
  subst τ2
  change Z _ _ _ _ _ [.int (v)] _
  exact zb_X12_freer_11 h
/-- SkyStonesModel.freer(IIIIII)I -/
theorem c_X12_freer {S : Shp} {x1 : Int32} {x2 : Int32} {x3 : Int32} {x4 : Int32} {x5 : Int32} {x6 : Int32} {σ : Mm} {r : Int32 × Mm} (h : F_X12_freer x1 x2 x3 x4 x5 x6 σ = some r) : Ct m_X12_freer S [.ref (sL S 3 0 0), .int (x1), .int (x2), .int (x3), .int (x4), .int (x5), .int (x6)] σ (Qi r) := Ct.of (by decide +kernel) (Nat.le_of_ble_eq_true rfl) (zb_X12_freer h)
def F_X12_gone_16 (s0 : Int32) (σ : Mm) : Option (Int32 × Mm) := some (s0, σ)
set_option maxRecDepth 20000 in
theorem zb_X12_gone_16 {S : Shp} {s0 : Int32} {σ : Mm} {r : Int32 × Mm} (h : F_X12_gone_16 s0 σ = some r) : Z m_X12_gone S (Qi r) 16 [] [.int (s0)] σ := by
  unfold F_X12_gone_16 at h
  refine z_goto (tgt := 20) dX12_gone_16 (by decide) ?_
  cases h
  exact z_ireturn dX12_gone_20 rfl rfl ⟨rfl, rfl⟩
def F_X12_gone_5 (x1 : Int32) (s0 : Int32) (σ : Mm) : Option (Int32 × Mm) := (if s0 = 0 then some ((-1), σ) else (bnd (F_X12_fact 2 x1 0 0 σ) (fun v τ => (F_X12_gone_16 v τ))))
set_option maxRecDepth 20000 in
theorem zb_X12_gone_5 {S : Shp} {x1 : Int32} {s0 : Int32} {σ : Mm} {r : Int32 × Mm} (h : F_X12_gone_5 x1 s0 σ = some r) : Z m_X12_gone S (Qi r) 5 [(0, .ref (sL S 3 0 0)), (1, .int (x1))] [.int (s0)] σ := by
  unfold F_X12_gone_5 at h
  refine z_if_eq (tgt := 19) dX12_gone_5 (by decide) (fun q => ?_) (fun q => ?_)
  · have h := (if_pos q).symm.trans h
    refine z_iconst (v := (-1)) dX12_gone_19 (by decide) ?_
    cases h
    exact z_ireturn dX12_gone_20 rfl rfl ⟨rfl, rfl⟩
  · have h := (if_neg q).symm.trans h
    refine z_aload_n dX12_gone_8 rfl 0 rfl ?_
    refine z_iconst (v := 2) dX12_gone_9 (by decide) ?_
    refine z_iload_n dX12_gone_10 rfl 1 rfl ?_
    refine z_iconst (v := 0) dX12_gone_11 (by decide) ?_
    refine z_iconst (v := 0) dX12_gone_12 (by decide) ?_
    obtain ⟨v, τ, hc, h⟩ := bnd_e h
    refine z_callV (M' := m_X12_fact) (t := 3) (i := 0) (k := 0) (As := [.int (2), .int (x1), .int (0), .int (0)]) (rest := []) kl_12_411 oy_X12_fact ⟨Nat.le_of_ble_eq_true rfl, Nat.le_of_ble_eq_true rfl⟩ rfl rfl rfl rfl (Nat.le_of_ble_eq_true rfl) rfl dX12_gone_13 (c_X12_fact hc) (fun v2 τ2 hq => ?_)
    obtain ⟨rfl, hτ⟩ := hq
    subst τ2
    change Z _ _ _ _ _ [.int (v)] _
    refine Z.lv [] rfl ?_
    exact zb_X12_gone_16 h
def F_X12_gone (x1 : Int32) (σ : Mm) : Option (Int32 × Mm) := (bnd (F_X12_isThing x1 σ) (fun v τ => (F_X12_gone_5 x1 v τ)))
set_option maxRecDepth 20000 in
theorem zb_X12_gone {S : Shp} {x1 : Int32} {σ : Mm} {r : Int32 × Mm} (h : F_X12_gone x1 σ = some r) : Z m_X12_gone S (Qi r) 0 [(0, .ref (sL S 3 0 0)), (1, .int (x1))] [] σ := by
  unfold F_X12_gone at h
  refine z_aload_n dX12_gone_0 rfl 0 rfl ?_
  refine z_iload_n dX12_gone_1 rfl 1 rfl ?_
  obtain ⟨v, τ, hc, h⟩ := bnd_e h
  refine z_callV (M' := m_X12_isThing) (t := 3) (i := 0) (k := 0) (As := [.int (x1)]) (rest := []) kl_12_415 oy_X12_isThing ⟨Nat.le_of_ble_eq_true rfl, Nat.le_of_ble_eq_true rfl⟩ rfl rfl rfl rfl (Nat.le_of_ble_eq_true rfl) rfl dX12_gone_2 (c_X12_isThing hc) (fun v2 τ2 hq => ?_)
  obtain ⟨rfl, hτ⟩ := hq
  subst τ2
  change Z _ _ _ _ _ [.int (v)] _
  exact zb_X12_gone_5 h
/-- SkyStonesModel.gone(I)I -/
theorem c_X12_gone {S : Shp} {x1 : Int32} {σ : Mm} {r : Int32 × Mm} (h : F_X12_gone x1 σ = some r) : Ct m_X12_gone S [.ref (sL S 3 0 0), .int (x1)] σ (Qi r) := Ct.of (by decide +kernel) (Nat.le_of_ble_eq_true rfl) (zb_X12_gone h)
def F_X12_height_16 (s0 : Int32) (σ : Mm) : Option (Int32 × Mm) := some (s0, σ)
set_option maxRecDepth 20000 in
theorem zb_X12_height_16 {S : Shp} {s0 : Int32} {σ : Mm} {r : Int32 × Mm} (h : F_X12_height_16 s0 σ = some r) : Z m_X12_height S (Qi r) 16 [] [.int (s0)] σ := by
  unfold F_X12_height_16 at h
  refine z_goto (tgt := 20) dX12_height_16 (by decide) ?_
  cases h
  exact z_ireturn dX12_height_20 rfl rfl ⟨rfl, rfl⟩
def F_X12_height (x1 : Int32) (σ : Mm) : Option (Int32 × Mm) := (if (f_X12_isIn x1 0 359) = 0 then some ((-1), σ) else (bnd (F_X12_heightOf x1 σ) (fun v τ => (F_X12_height_16 v τ))))
set_option maxRecDepth 20000 in
theorem zb_X12_height {S : Shp} {x1 : Int32} {σ : Mm} {r : Int32 × Mm} (h : F_X12_height x1 σ = some r) : Z m_X12_height S (Qi r) 0 [(0, .ref (sL S 3 0 0)), (1, .int (x1))] [] σ := by
  unfold F_X12_height at h
  refine z_iload_n dX12_height_0 rfl 1 rfl ?_
  refine z_iconst (v := 0) dX12_height_1 (by decide) ?_
  refine z_sipush (v := 359) dX12_height_2 (by decide) ?_
  refine z_callS (M' := m_X12_isIn) (As := [.int (x1), .int (0), .int (359)]) (rest := []) kl_12_407 oy_X12_isIn ⟨Nat.le_of_ble_eq_true rfl, Nat.le_of_ble_eq_true rfl⟩ rfl (Nat.le_of_ble_eq_true rfl) rfl dX12_height_5 (c_X12_isIn rfl) (fun v τ hq => ?_)
  obtain ⟨rfl, hτ⟩ := hq
  subst τ
  change Z _ _ _ _ _ [.int (f_X12_isIn x1 0 359)] _
  refine z_if_eq (tgt := 19) dX12_height_8 (by decide) (fun q => ?_) (fun q => ?_)
  · have h := (if_pos q).symm.trans h
    refine z_iconst (v := (-1)) dX12_height_19 (by decide) ?_
    cases h
    exact z_ireturn dX12_height_20 rfl rfl ⟨rfl, rfl⟩
  · have h := (if_neg q).symm.trans h
    refine z_aload_n dX12_height_11 rfl 0 rfl ?_
    refine z_iload_n dX12_height_12 rfl 1 rfl ?_
    obtain ⟨v, τ, hc, h⟩ := bnd_e h
    refine z_callV (M' := m_X12_heightOf) (t := 3) (i := 0) (k := 0) (As := [.int (x1)]) (rest := []) kl_12_466 oy_X12_heightOf ⟨Nat.le_of_ble_eq_true rfl, Nat.le_of_ble_eq_true rfl⟩ rfl rfl rfl rfl (Nat.le_of_ble_eq_true rfl) rfl dX12_height_13 (c_X12_heightOf hc) (fun v2 τ2 hq => ?_)
    obtain ⟨rfl, hτ⟩ := hq
    subst τ2
    change Z _ _ _ _ _ [.int (v)] _
    refine Z.lv [] rfl ?_
    exact zb_X12_height_16 h
/-- SkyStonesModel.height(I)I -/
theorem c_X12_height {S : Shp} {x1 : Int32} {σ : Mm} {r : Int32 × Mm} (h : F_X12_height x1 σ = some r) : Ct m_X12_height S [.ref (sL S 3 0 0), .int (x1)] σ (Qi r) := Ct.of (by decide +kernel) (Nat.le_of_ble_eq_true rfl) (zb_X12_height h)
def F_X12_hit_109 (x2 : Int32) (s0 : Int32) (σ : Mm) : Option (Int32 × Mm) := some ((s0 >>> (x2 &&& 31)) &&& (1 : Int32), σ)
set_option maxRecDepth 20000 in
theorem zb_X12_hit_109 {S : Shp} {x2 : Int32} {s0 : Int32} {σ : Mm} {r : Int32 × Mm} (h : F_X12_hit_109 x2 s0 σ = some r) : Z m_X12_hit S (Qi r) 109 [(2, .int (x2))] [.int (s0)] σ := by
  unfold F_X12_hit_109 at h
  refine z_iload_n dX12_hit_109 rfl 0 rfl ?_
  refine z_ishr dX12_hit_110 ?_
  refine z_iconst (v := 1) dX12_hit_111 (by decide) ?_
  refine z_iand dX12_hit_112 ?_
  cases h
  exact z_ireturn dX12_hit_113 rfl rfl ⟨rfl, rfl⟩
def F_X12_hit_82 (x1 : Int32) (x2 : Int32) (s0 : Int32) (σ : Mm) : Option (Int32 × Mm) := (if ((s0 >>> (x2 &&& 31)) &&& (1 : Int32)) = (1 : Int32) then some (2, σ) else (if inb x1 196 = true then (if inb 0 5 = true then (bnd (F_X12_hitBy (mA σ 3 0 53 x1.toNatClampNeg) (mA σ 3 0 7 (0 : Int32).toNatClampNeg) 0 σ) (fun v τ => (F_X12_hit_109 x2 v τ))) else none) else none))
set_option maxRecDepth 20000 in
theorem zb_X12_hit_82 {S : Shp} {x1 : Int32} {x2 : Int32} {s0 : Int32} {σ : Mm} {r : Int32 × Mm} (h : F_X12_hit_82 x1 x2 s0 σ = some r) : Z m_X12_hit S (Qi r) 82 [(0, .ref (sL S 3 0 0)), (1, .int (x1)), (2, .int (x2))] [.int (s0)] σ := by
  unfold F_X12_hit_82 at h
  refine z_iload_n dX12_hit_82 rfl 2 rfl ?_
  refine z_ishr dX12_hit_83 ?_
  refine z_iconst (v := 1) dX12_hit_84 (by decide) ?_
  refine z_iand dX12_hit_85 ?_
  refine z_iconst (v := 1) dX12_hit_86 (by decide) ?_
  refine z_icmp_ne (tgt := 92) dX12_hit_87 (by decide) (fun q => ?_) (fun q => ?_)
  · have h := (if_neg q).symm.trans h
    obtain ⟨g5, h⟩ := gd h
    refine z_aload_n dX12_hit_92 rfl 0 rfl ?_
    refine z_aload_n dX12_hit_93 rfl 0 rfl ?_
    refine gf_12_172 rfl dX12_hit_94 ?_
    refine z_iload_n dX12_hit_97 rfl 1 rfl ?_
    obtain ⟨g6, h⟩ := gd h
    refine ia_3_53 (inb_in g5) dX12_hit_98 ?_
    refine z_aload_n dX12_hit_99 rfl 0 rfl ?_
    refine gf_12_34 rfl dX12_hit_100 ?_
    refine z_iconst (v := 0) dX12_hit_103 (by decide) ?_
    refine ia_3_7 (inb_in g6) dX12_hit_104 ?_
    refine z_iconst (v := 0) dX12_hit_105 (by decide) ?_
    obtain ⟨v, τ, hc, h⟩ := bnd_e h
    refine z_callV (M' := m_X12_hitBy) (t := 3) (i := 0) (k := 0) (As := [.int (mA σ 3 0 53 x1.toNatClampNeg), .int (mA σ 3 0 7 (0 : Int32).toNatClampNeg), .int (0)]) (rest := []) kl_12_484 oy_X12_hitBy ⟨Nat.le_of_ble_eq_true rfl, Nat.le_of_ble_eq_true rfl⟩ rfl rfl rfl rfl (Nat.le_of_ble_eq_true rfl) rfl dX12_hit_106 (c_X12_hitBy hc) (fun v2 τ2 hq => ?_)
    obtain ⟨rfl, hτ⟩ := hq
    subst τ2
    change Z _ _ _ _ _ [.int (v)] _
    refine Z.lv [2] rfl ?_
    exact zb_X12_hit_109 h
  · have h := (if_pos q).symm.trans h
    refine z_iconst (v := 2) dX12_hit_90 (by decide) ?_
    cases h
    exact z_ireturn dX12_hit_91 rfl rfl ⟨rfl, rfl⟩
def F_X12_hit_54 (x1 : Int32) (x2 : Int32) (σ : Mm) : Option (Int32 × Mm) := (if inb x1 196 = true then (if (mA σ 3 0 52 x1.toNatClampNeg) = 0 then some ((-1), σ) else (if inb x1 196 = true then (if inb 0 5 = true then (bnd (F_X12_hitBy (mA σ 3 0 53 x1.toNatClampNeg) (mA σ 3 0 7 (0 : Int32).toNatClampNeg) 1 σ) (fun v τ => (F_X12_hit_82 x1 x2 v τ))) else none) else none)) else none)
set_option maxRecDepth 20000 in
theorem zb_X12_hit_54 {S : Shp} {x1 : Int32} {x2 : Int32} {σ : Mm} {r : Int32 × Mm} (h : F_X12_hit_54 x1 x2 σ = some r) : Z m_X12_hit S (Qi r) 54 [(0, .ref (sL S 3 0 0)), (1, .int (x1)), (2, .int (x2))] [] σ := by
  unfold F_X12_hit_54 at h
  obtain ⟨g2, h⟩ := gd h
  refine z_aload_n dX12_hit_54 rfl 0 rfl ?_
  refine gf_12_169 rfl dX12_hit_55 ?_
  refine z_iload_n dX12_hit_58 rfl 1 rfl ?_
  refine ia_3_52 (inb_in g2) dX12_hit_59 ?_
  refine z_if_ne (tgt := 65) dX12_hit_60 (by decide) (fun q => ?_) (fun q => ?_)
  · have h := (if_neg q).symm.trans h
    obtain ⟨g3, h⟩ := gd h
    refine z_aload_n dX12_hit_65 rfl 0 rfl ?_
    refine z_aload_n dX12_hit_66 rfl 0 rfl ?_
    refine gf_12_172 rfl dX12_hit_67 ?_
    refine z_iload_n dX12_hit_70 rfl 1 rfl ?_
    obtain ⟨g4, h⟩ := gd h
    refine ia_3_53 (inb_in g3) dX12_hit_71 ?_
    refine z_aload_n dX12_hit_72 rfl 0 rfl ?_
    refine gf_12_34 rfl dX12_hit_73 ?_
    refine z_iconst (v := 0) dX12_hit_76 (by decide) ?_
    refine ia_3_7 (inb_in g4) dX12_hit_77 ?_
    refine z_iconst (v := 1) dX12_hit_78 (by decide) ?_
    obtain ⟨v, τ, hc, h⟩ := bnd_e h
    refine z_callV (M' := m_X12_hitBy) (t := 3) (i := 0) (k := 0) (As := [.int (mA σ 3 0 53 x1.toNatClampNeg), .int (mA σ 3 0 7 (0 : Int32).toNatClampNeg), .int (1)]) (rest := []) kl_12_484 oy_X12_hitBy ⟨Nat.le_of_ble_eq_true rfl, Nat.le_of_ble_eq_true rfl⟩ rfl rfl rfl rfl (Nat.le_of_ble_eq_true rfl) rfl dX12_hit_79 (c_X12_hitBy hc) (fun v2 τ2 hq => ?_)
    obtain ⟨rfl, hτ⟩ := hq
    subst τ2
    change Z _ _ _ _ _ [.int (v)] _
    exact zb_X12_hit_82 h
  · have h := (if_pos q).symm.trans h
    refine z_iconst (v := (-1)) dX12_hit_63 (by decide) ?_
    cases h
    exact z_ireturn dX12_hit_64 rfl rfl ⟨rfl, rfl⟩
def F_X12_hit_49 (x1 : Int32) (x2 : Int32) (x3 : Int32) (σ : Mm) : Option (Int32 × Mm) := (bnv (F_X12_laySky x3 σ) (fun τ => (F_X12_hit_54 x1 x2 τ)))
set_option maxRecDepth 20000 in
theorem zb_X12_hit_49 {S : Shp} {x1 : Int32} {x2 : Int32} {x3 : Int32} {σ : Mm} {r : Int32 × Mm} (h : F_X12_hit_49 x1 x2 x3 σ = some r) : Z m_X12_hit S (Qi r) 49 [(0, .ref (sL S 3 0 0)), (1, .int (x1)), (2, .int (x2)), (3, .int (x3))] [] σ := by
  unfold F_X12_hit_49 at h
  refine z_aload_n dX12_hit_49 rfl 0 rfl ?_
  refine z_iload_n dX12_hit_50 rfl 3 rfl ?_
  obtain ⟨τ, hc, h⟩ := bnv_e h
  refine z_callV (M' := m_X12_laySky) (t := 3) (i := 0) (k := 0) (As := [.int (x3)]) (rest := []) kl_12_481 oy_X12_laySky ⟨Nat.le_of_ble_eq_true rfl, Nat.le_of_ble_eq_true rfl⟩ rfl rfl rfl rfl (Nat.le_of_ble_eq_true rfl) rfl dX12_hit_51 (c_X12_laySky hc) (fun v2 τ2 hq => ?_)
  obtain ⟨rfl, hτ⟩ := hq
  subst τ2
  change Z _ _ _ _ _ [] _
  refine Z.lv [0, 1, 2] rfl ?_
  exact zb_X12_hit_54 h
def F_X12_hit_38 (x1 : Int32) (x2 : Int32) (x3 : Int32) (x4 : Int32) (s0 : Int32) (σ : Mm) : Option (Int32 × Mm) := (if s0 = 0 then some ((-1), σ) else (bnv (F_X12_lay x4 σ) (fun τ => (F_X12_hit_49 x1 x2 x3 τ))))
set_option maxRecDepth 20000 in
theorem zb_X12_hit_38 {S : Shp} {x1 : Int32} {x2 : Int32} {x3 : Int32} {x4 : Int32} {s0 : Int32} {σ : Mm} {r : Int32 × Mm} (h : F_X12_hit_38 x1 x2 x3 x4 s0 σ = some r) : Z m_X12_hit S (Qi r) 38 [(0, .ref (sL S 3 0 0)), (1, .int (x1)), (2, .int (x2)), (3, .int (x3)), (4, .int (x4))] [.int (s0)] σ := by
  unfold F_X12_hit_38 at h
  refine z_if_ne (tgt := 43) dX12_hit_38 (by decide) (fun q => ?_) (fun q => ?_)
  · have h := (if_neg q).symm.trans h
    refine z_aload_n dX12_hit_43 rfl 0 rfl ?_
    refine z_iload dX12_hit_44 4 rfl ?_
    obtain ⟨τ, hc, h⟩ := bnv_e h
    refine z_callV (M' := m_X12_lay) (t := 3) (i := 0) (k := 0) (As := [.int (x4)]) (rest := []) kl_12_463 oy_X12_lay ⟨Nat.le_of_ble_eq_true rfl, Nat.le_of_ble_eq_true rfl⟩ rfl rfl rfl rfl (Nat.le_of_ble_eq_true rfl) rfl dX12_hit_46 (c_X12_lay hc) (fun v2 τ2 hq => ?_)
    obtain ⟨rfl, hτ⟩ := hq
    subst τ2
    change Z _ _ _ _ _ [] _
    refine Z.lv [0, 1, 2, 3] rfl ?_
    exact zb_X12_hit_49 h
  · have h := (if_pos q).symm.trans h
    refine z_iconst (v := (-1)) dX12_hit_41 (by decide) ?_
    cases h
    exact z_ireturn dX12_hit_42 rfl rfl ⟨rfl, rfl⟩
def F_X12_hit (x1 : Int32) (x2 : Int32) (x3 : Int32) (x4 : Int32) (σ : Mm) : Option (Int32 × Mm) := (if (f_X12_isIn x1 0 195) = 0 then some ((-1), σ) else (if x2 < 0 then some ((-1), σ) else (if inb 0 5 = true then (if (mA σ 3 0 21 (0 : Int32).toNatClampNeg) ≤ x2 then some ((-1), σ) else (if (f_X12_isYear x3) = 0 then some ((-1), σ) else (bnd (F_X12_isKnown x4 σ) (fun v τ => (F_X12_hit_38 x1 x2 x3 x4 v τ))))) else none)))
set_option maxRecDepth 20000 in
theorem zb_X12_hit {S : Shp} {x1 : Int32} {x2 : Int32} {x3 : Int32} {x4 : Int32} {σ : Mm} {r : Int32 × Mm} (h : F_X12_hit x1 x2 x3 x4 σ = some r) : Z m_X12_hit S (Qi r) 0 [(0, .ref (sL S 3 0 0)), (1, .int (x1)), (2, .int (x2)), (3, .int (x3)), (4, .int (x4))] [] σ := by
  unfold F_X12_hit at h
  refine z_iload_n dX12_hit_0 rfl 1 rfl ?_
  refine z_iconst (v := 0) dX12_hit_1 (by decide) ?_
  refine z_sipush (v := 195) dX12_hit_2 (by decide) ?_
  refine z_callS (M' := m_X12_isIn) (As := [.int (x1), .int (0), .int (195)]) (rest := []) kl_12_407 oy_X12_isIn ⟨Nat.le_of_ble_eq_true rfl, Nat.le_of_ble_eq_true rfl⟩ rfl (Nat.le_of_ble_eq_true rfl) rfl dX12_hit_5 (c_X12_isIn rfl) (fun v τ hq => ?_)
  obtain ⟨rfl, hτ⟩ := hq
  subst τ
  change Z _ _ _ _ _ [.int (f_X12_isIn x1 0 195)] _
  refine z_if_eq (tgt := 41) dX12_hit_8 (by decide) (fun q => ?_) (fun q => ?_)
  · have h := (if_pos q).symm.trans h
    refine z_iconst (v := (-1)) dX12_hit_41 (by decide) ?_
    cases h
    exact z_ireturn dX12_hit_42 rfl rfl ⟨rfl, rfl⟩
  · have h := (if_neg q).symm.trans h
    refine z_iload_n dX12_hit_11 rfl 2 rfl ?_
    refine z_if_lt (tgt := 41) dX12_hit_12 (by decide) (fun q => ?_) (fun q => ?_)
    · have h := (if_pos q).symm.trans h
      refine z_iconst (v := (-1)) dX12_hit_41 (by decide) ?_
      cases h
      exact z_ireturn dX12_hit_42 rfl rfl ⟨rfl, rfl⟩
    · have h := (if_neg q).symm.trans h
      obtain ⟨g1, h⟩ := gd h
      refine z_iload_n dX12_hit_15 rfl 2 rfl ?_
      refine z_aload_n dX12_hit_16 rfl 0 rfl ?_
      refine gf_12_76 rfl dX12_hit_17 ?_
      refine z_iconst (v := 0) dX12_hit_20 (by decide) ?_
      refine ia_3_21 (inb_in g1) dX12_hit_21 ?_
      refine z_icmp_ge (tgt := 41) dX12_hit_22 (by decide) (fun q => ?_) (fun q => ?_)
      · have h := (if_pos q).symm.trans h
        refine z_iconst (v := (-1)) dX12_hit_41 (by decide) ?_
        cases h
        exact z_ireturn dX12_hit_42 rfl rfl ⟨rfl, rfl⟩
      · have h := (if_neg q).symm.trans h
        refine z_iload_n dX12_hit_25 rfl 3 rfl ?_
        refine z_callS (M' := m_X12_isYear) (As := [.int (x3)]) (rest := []) kl_12_472 oy_X12_isYear ⟨Nat.le_of_ble_eq_true rfl, Nat.le_of_ble_eq_true rfl⟩ rfl (Nat.le_of_ble_eq_true rfl) rfl dX12_hit_26 (c_X12_isYear rfl) (fun v τ hq => ?_)
        obtain ⟨rfl, hτ⟩ := hq
        subst τ
        change Z _ _ _ _ _ [.int (f_X12_isYear x3)] _
        refine z_if_eq (tgt := 41) dX12_hit_29 (by decide) (fun q => ?_) (fun q => ?_)
        · have h := (if_pos q).symm.trans h
          refine z_iconst (v := (-1)) dX12_hit_41 (by decide) ?_
          cases h
          exact z_ireturn dX12_hit_42 rfl rfl ⟨rfl, rfl⟩
        · have h := (if_neg q).symm.trans h
          refine z_aload_n dX12_hit_32 rfl 0 rfl ?_
          refine z_iload dX12_hit_33 4 rfl ?_
          obtain ⟨v, τ, hc, h⟩ := bnd_e h
          refine z_callV (M' := m_X12_isKnown) (t := 3) (i := 0) (k := 0) (As := [.int (x4)]) (rest := []) kl_12_457 oy_X12_isKnown ⟨Nat.le_of_ble_eq_true rfl, Nat.le_of_ble_eq_true rfl⟩ rfl rfl rfl rfl (Nat.le_of_ble_eq_true rfl) rfl dX12_hit_35 (c_X12_isKnown hc) (fun v2 τ2 hq => ?_)
          obtain ⟨rfl, hτ⟩ := hq
          subst τ2
          change Z _ _ _ _ _ [.int (v)] _
          exact zb_X12_hit_38 h
/-- SkyStonesModel.hit(IIII)I -/
theorem c_X12_hit {S : Shp} {x1 : Int32} {x2 : Int32} {x3 : Int32} {x4 : Int32} {σ : Mm} {r : Int32 × Mm} (h : F_X12_hit x1 x2 x3 x4 σ = some r) : Ct m_X12_hit S [.ref (sL S 3 0 0), .int (x1), .int (x2), .int (x3), .int (x4)] σ (Qi r) := Ct.of (by decide +kernel) (Nat.le_of_ble_eq_true rfl) (zb_X12_hit h)
def F_X12_hitAt_83 (rc26 : Int32 → Int32 → Int32 → Int32 → Int32 → Mm → Option (Int32 × Mm)) (x1 : Int32) (x3 : Int32) (x5 : Int32) (x6 : Int32) (x7 : Int32) (σ : Mm) : Option (Int32 × Mm) := (rc26 x1 x3 x5 x6 (x7 + 1) σ)
set_option maxRecDepth 20000 in
theorem zb_X12_hitAt_83 {S : Shp} {rc26 : Int32 → Int32 → Int32 → Int32 → Int32 → Mm → Option (Int32 × Mm)} (hrc26 : ∀ {x1 : Int32} {x3 : Int32} {x5 : Int32} {x6 : Int32} {x7 : Int32} {σ : Mm} {r : Int32 × Mm}, rc26 x1 x3 x5 x6 x7 σ = some r → Z m_X12_hitAt S (Qi r) 26 [(0, .ref (sL S 3 0 0)), (1, .int (x1)), (3, .int (x3)), (5, .int (x5)), (6, .int (x6)), (7, .int (x7))] [] σ) {x1 : Int32} {x3 : Int32} {x5 : Int32} {x6 : Int32} {x7 : Int32} {σ : Mm} {r : Int32 × Mm} (h : F_X12_hitAt_83 rc26 x1 x3 x5 x6 x7 σ = some r) : Z m_X12_hitAt S (Qi r) 83 [(0, .ref (sL S 3 0 0)), (1, .int (x1)), (3, .int (x3)), (5, .int (x5)), (6, .int (x6)), (7, .int (x7))] [] σ := by
  unfold F_X12_hitAt_83 at h
  refine z_iinc (j := 5) (v := x7 + 1) (lv' := [(0, .ref (sL S 3 0 0)), (1, .int (x1)), (3, .int (x3)), (5, .int (x5)), (6, .int (x6)), (7, .int (x7 + 1))]) dX12_hitAt_83 rfl rfl (by decide) [1, 2, 3, 4, 5, 0] rfl ?_
  refine z_goto (tgt := 26) dX12_hitAt_86 (by decide) ?_
  exact hrc26 h
def F_X12_hitAt_62 (rc26 : Int32 → Int32 → Int32 → Int32 → Int32 → Mm → Option (Int32 × Mm)) (x1 : Int32) (x3 : Int32) (x5 : Int32) (x6 : Int32) (x7 : Int32) (s0 : Int32) (σ : Mm) : Option (Int32 × Mm) := (if (s0 &&& x1) = 0 then (F_X12_hitAt_83 rc26 x1 x3 x5 x6 x7 σ) else (if x6 = x5 then some (x7, σ) else (F_X12_hitAt_83 rc26 x1 x3 x5 (x6 + 1) x7 σ)))
set_option maxRecDepth 20000 in
theorem zb_X12_hitAt_62 {S : Shp} {rc26 : Int32 → Int32 → Int32 → Int32 → Int32 → Mm → Option (Int32 × Mm)} (hrc26 : ∀ {x1 : Int32} {x3 : Int32} {x5 : Int32} {x6 : Int32} {x7 : Int32} {σ : Mm} {r : Int32 × Mm}, rc26 x1 x3 x5 x6 x7 σ = some r → Z m_X12_hitAt S (Qi r) 26 [(0, .ref (sL S 3 0 0)), (1, .int (x1)), (3, .int (x3)), (5, .int (x5)), (6, .int (x6)), (7, .int (x7))] [] σ) {x1 : Int32} {x3 : Int32} {x5 : Int32} {x6 : Int32} {x7 : Int32} {s0 : Int32} {σ : Mm} {r : Int32 × Mm} (h : F_X12_hitAt_62 rc26 x1 x3 x5 x6 x7 s0 σ = some r) : Z m_X12_hitAt S (Qi r) 62 [(0, .ref (sL S 3 0 0)), (1, .int (x1)), (3, .int (x3)), (5, .int (x5)), (6, .int (x6)), (7, .int (x7))] [.int (s0)] σ := by
  unfold F_X12_hitAt_62 at h
  refine z_iload_n dX12_hitAt_62 rfl 1 rfl ?_
  refine z_iand dX12_hitAt_63 ?_
  refine z_if_ne (tgt := 70) dX12_hitAt_64 (by decide) (fun q => ?_) (fun q => ?_)
  · have h := (if_neg q).symm.trans h
    refine z_iload dX12_hitAt_70 4 rfl ?_
    refine z_iload dX12_hitAt_72 3 rfl ?_
    refine z_icmp_ne (tgt := 80) dX12_hitAt_74 (by decide) (fun q => ?_) (fun q => ?_)
    · have h := (if_neg q).symm.trans h
      refine z_iinc (j := 4) (v := x6 + 1) (lv' := [(0, .ref (sL S 3 0 0)), (1, .int (x1)), (3, .int (x3)), (5, .int (x5)), (6, .int (x6 + 1)), (7, .int (x7))]) dX12_hitAt_80 rfl rfl (by decide) [1, 2, 3, 4, 0, 5] rfl ?_
      exact zb_X12_hitAt_83 hrc26 h
    · have h := (if_pos q).symm.trans h
      refine z_iload dX12_hitAt_77 5 rfl ?_
      cases h
      exact z_ireturn dX12_hitAt_79 rfl rfl ⟨rfl, rfl⟩
  · have h := (if_pos q).symm.trans h
    refine z_goto (tgt := 83) dX12_hitAt_67 (by decide) ?_
    exact zb_X12_hitAt_83 hrc26 h
def B_X12_hitAt_26 (rc26 : Int32 → Int32 → Int32 → Int32 → Int32 → Mm → Option (Int32 × Mm)) (x1 : Int32) (x3 : Int32) (x5 : Int32) (x6 : Int32) (x7 : Int32) (σ : Mm) : Option (Int32 × Mm) := (if (196 : Int32) ≤ x7 then some ((-1), σ) else (if inb x7 196 = true then (if (mA σ 3 0 55 x7.toNatClampNeg) = 0 then (F_X12_hitAt_83 rc26 x1 x3 x5 x6 x7 σ) else (if inb x7 196 = true then (if inb 0 5 = true then (bnd (F_X12_hitBy (mA σ 3 0 53 x7.toNatClampNeg) (mA σ 3 0 7 (0 : Int32).toNatClampNeg) x3 σ) (fun v τ => (F_X12_hitAt_62 rc26 x1 x3 x5 x6 x7 v τ))) else none) else none)) else none))
set_option maxRecDepth 20000 in
theorem zB_X12_hitAt_26 {S : Shp} {rc26 : Int32 → Int32 → Int32 → Int32 → Int32 → Mm → Option (Int32 × Mm)} (hrc26 : ∀ {x1 : Int32} {x3 : Int32} {x5 : Int32} {x6 : Int32} {x7 : Int32} {σ : Mm} {r : Int32 × Mm}, rc26 x1 x3 x5 x6 x7 σ = some r → Z m_X12_hitAt S (Qi r) 26 [(0, .ref (sL S 3 0 0)), (1, .int (x1)), (3, .int (x3)), (5, .int (x5)), (6, .int (x6)), (7, .int (x7))] [] σ) {x1 : Int32} {x3 : Int32} {x5 : Int32} {x6 : Int32} {x7 : Int32} {σ : Mm} {r : Int32 × Mm} (h : B_X12_hitAt_26 rc26 x1 x3 x5 x6 x7 σ = some r) : Z m_X12_hitAt S (Qi r) 26 [(0, .ref (sL S 3 0 0)), (1, .int (x1)), (3, .int (x3)), (5, .int (x5)), (6, .int (x6)), (7, .int (x7))] [] σ := by
  unfold B_X12_hitAt_26 at h
  refine z_iload dX12_hitAt_26 5 rfl ?_
  refine z_sipush (v := 196) dX12_hitAt_28 (by decide) ?_
  refine z_icmp_ge (tgt := 89) dX12_hitAt_31 (by decide) (fun q => ?_) (fun q => ?_)
  · have h := (if_pos q).symm.trans h
    refine z_iconst (v := (-1)) dX12_hitAt_89 (by decide) ?_
    cases h
    exact z_ireturn dX12_hitAt_90 rfl rfl ⟨rfl, rfl⟩
  · have h := (if_neg q).symm.trans h
    obtain ⟨g1, h⟩ := gd h
    refine z_aload_n dX12_hitAt_34 rfl 0 rfl ?_
    refine gf_12_178 rfl dX12_hitAt_35 ?_
    refine z_iload dX12_hitAt_38 5 rfl ?_
    refine ia_3_55 (inb_in g1) dX12_hitAt_40 ?_
    refine z_if_eq (tgt := 83) dX12_hitAt_41 (by decide) (fun q => ?_) (fun q => ?_)
    · have h := (if_pos q).symm.trans h
      exact zb_X12_hitAt_83 hrc26 h
    · have h := (if_neg q).symm.trans h
      obtain ⟨g2, h⟩ := gd h
      refine z_aload_n dX12_hitAt_44 rfl 0 rfl ?_
      refine z_aload_n dX12_hitAt_45 rfl 0 rfl ?_
      refine gf_12_172 rfl dX12_hitAt_46 ?_
      refine z_iload dX12_hitAt_49 5 rfl ?_
      obtain ⟨g3, h⟩ := gd h
      refine ia_3_53 (inb_in g2) dX12_hitAt_51 ?_
      refine z_aload_n dX12_hitAt_52 rfl 0 rfl ?_
      refine gf_12_34 rfl dX12_hitAt_53 ?_
      refine z_iconst (v := 0) dX12_hitAt_56 (by decide) ?_
      refine ia_3_7 (inb_in g3) dX12_hitAt_57 ?_
      refine z_iload_n dX12_hitAt_58 rfl 2 rfl ?_
      obtain ⟨v, τ, hc, h⟩ := bnd_e h
      refine z_callV (M' := m_X12_hitBy) (t := 3) (i := 0) (k := 0) (As := [.int (mA σ 3 0 53 x7.toNatClampNeg), .int (mA σ 3 0 7 (0 : Int32).toNatClampNeg), .int (x3)]) (rest := []) kl_12_484 oy_X12_hitBy ⟨Nat.le_of_ble_eq_true rfl, Nat.le_of_ble_eq_true rfl⟩ rfl rfl rfl rfl (Nat.le_of_ble_eq_true rfl) rfl dX12_hitAt_59 (c_X12_hitBy hc) (fun v2 τ2 hq => ?_)
      obtain ⟨rfl, hτ⟩ := hq
      subst τ2
      change Z _ _ _ _ _ [.int (v)] _
      exact zb_X12_hitAt_62 hrc26 h
def F_X12_hitAt_26 : Nat → Int32 → Int32 → Int32 → Int32 → Int32 → Mm → Option (Int32 × Mm)
  | 0 => fun _ _ _ _ _ _ => none
  | n + 1 => B_X12_hitAt_26 (F_X12_hitAt_26 n)
theorem zl_X12_hitAt_26 {S : Shp} : ∀ (nn : Nat) {x1 : Int32} {x3 : Int32} {x5 : Int32} {x6 : Int32} {x7 : Int32} {σ : Mm} {r : Int32 × Mm}, F_X12_hitAt_26 nn x1 x3 x5 x6 x7 σ = some r → Z m_X12_hitAt S (Qi r) 26 [(0, .ref (sL S 3 0 0)), (1, .int (x1)), (3, .int (x3)), (5, .int (x5)), (6, .int (x6)), (7, .int (x7))] [] σ := by
  intro nn
  induction nn with
  | zero => intro x1 x3 x5 x6 x7 σ r h; cases h
  | succ nn ih => intro x1 x3 x5 x6 x7 σ r h; exact zB_X12_hitAt_26 @ih h
def F_X12_hitAt_20 (x1 : Int32) (x3 : Int32) (x5 : Int32) (σ : Mm) : Option (Int32 × Mm) := (F_X12_hitAt_26 FU x1 x3 x5 0 0 σ)
set_option maxRecDepth 20000 in
theorem zb_X12_hitAt_20 {S : Shp} {x1 : Int32} {x3 : Int32} {x5 : Int32} {σ : Mm} {r : Int32 × Mm} (h : F_X12_hitAt_20 x1 x3 x5 σ = some r) : Z m_X12_hitAt S (Qi r) 20 [(0, .ref (sL S 3 0 0)), (1, .int (x1)), (3, .int (x3)), (5, .int (x5))] [] σ := by
  unfold F_X12_hitAt_20 at h
  refine z_iconst (v := 0) dX12_hitAt_20 (by decide) ?_
  refine z_istore (lv' := [(0, .ref (sL S 3 0 0)), (1, .int (x1)), (3, .int (x3)), (5, .int (x5)), (6, .int (0))]) dX12_hitAt_21 (by decide) [1, 2, 3, 4, 0] rfl ?_
  refine z_iconst (v := 0) dX12_hitAt_23 (by decide) ?_
  refine z_istore (lv' := [(0, .ref (sL S 3 0 0)), (1, .int (x1)), (3, .int (x3)), (5, .int (x5)), (6, .int (0)), (7, .int (0))]) dX12_hitAt_24 (by decide) [1, 2, 3, 4, 5, 0] rfl ?_
  exact zl_X12_hitAt_26 FU h
def F_X12_hitAt_8 (x1 : Int32) (x2 : Int32) (x3 : Int32) (x4 : Int32) (x5 : Int32) (s0 : Int32) (σ : Mm) : Option (Int32 × Mm) := (if s0 = 0 then some ((-1), σ) else (bnv (F_X12_layAll x2 x4 σ) (fun τ => (F_X12_hitAt_20 x1 x3 x5 τ))))
set_option maxRecDepth 20000 in
theorem zb_X12_hitAt_8 {S : Shp} {x1 : Int32} {x2 : Int32} {x3 : Int32} {x4 : Int32} {x5 : Int32} {s0 : Int32} {σ : Mm} {r : Int32 × Mm} (h : F_X12_hitAt_8 x1 x2 x3 x4 x5 s0 σ = some r) : Z m_X12_hitAt S (Qi r) 8 [(0, .ref (sL S 3 0 0)), (1, .int (x1)), (2, .int (x2)), (3, .int (x3)), (4, .int (x4)), (5, .int (x5))] [.int (s0)] σ := by
  unfold F_X12_hitAt_8 at h
  refine z_if_ne (tgt := 13) dX12_hitAt_8 (by decide) (fun q => ?_) (fun q => ?_)
  · have h := (if_neg q).symm.trans h
    refine z_aload_n dX12_hitAt_13 rfl 0 rfl ?_
    refine z_iload_n dX12_hitAt_14 rfl 2 rfl ?_
    refine z_iload dX12_hitAt_15 4 rfl ?_
    obtain ⟨τ, hc, h⟩ := bnv_e h
    refine z_callV (M' := m_X12_layAll) (t := 3) (i := 0) (k := 0) (As := [.int (x2), .int (x4)]) (rest := []) kl_12_494 oy_X12_layAll ⟨Nat.le_of_ble_eq_true rfl, Nat.le_of_ble_eq_true rfl⟩ rfl rfl rfl rfl (Nat.le_of_ble_eq_true rfl) rfl dX12_hitAt_17 (c_X12_layAll hc) (fun v2 τ2 hq => ?_)
    obtain ⟨rfl, hτ⟩ := hq
    subst τ2
    change Z _ _ _ _ _ [] _
    refine Z.lv [0, 1, 3, 5] rfl ?_
    exact zb_X12_hitAt_20 h
  · have h := (if_pos q).symm.trans h
    refine z_iconst (v := (-1)) dX12_hitAt_11 (by decide) ?_
    cases h
    exact z_ireturn dX12_hitAt_12 rfl rfl ⟨rfl, rfl⟩
def F_X12_hitAt (x1 : Int32) (x2 : Int32) (x3 : Int32) (x4 : Int32) (x5 : Int32) (σ : Mm) : Option (Int32 × Mm) := (bnd (F_X12_isSet x1 x2 x4 σ) (fun v τ => (F_X12_hitAt_8 x1 x2 x3 x4 x5 v τ)))
set_option maxRecDepth 20000 in
theorem zb_X12_hitAt {S : Shp} {x1 : Int32} {x2 : Int32} {x3 : Int32} {x4 : Int32} {x5 : Int32} {σ : Mm} {r : Int32 × Mm} (h : F_X12_hitAt x1 x2 x3 x4 x5 σ = some r) : Z m_X12_hitAt S (Qi r) 0 [(0, .ref (sL S 3 0 0)), (1, .int (x1)), (2, .int (x2)), (3, .int (x3)), (4, .int (x4)), (5, .int (x5))] [] σ := by
  unfold F_X12_hitAt at h
  refine z_aload_n dX12_hitAt_0 rfl 0 rfl ?_
  refine z_iload_n dX12_hitAt_1 rfl 1 rfl ?_
  refine z_iload_n dX12_hitAt_2 rfl 2 rfl ?_
  refine z_iload dX12_hitAt_3 4 rfl ?_
  obtain ⟨v, τ, hc, h⟩ := bnd_e h
  refine z_callV (M' := m_X12_isSet) (t := 3) (i := 0) (k := 0) (As := [.int (x1), .int (x2), .int (x4)]) (rest := []) kl_12_491 oy_X12_isSet ⟨Nat.le_of_ble_eq_true rfl, Nat.le_of_ble_eq_true rfl⟩ rfl rfl rfl rfl (Nat.le_of_ble_eq_true rfl) rfl dX12_hitAt_5 (c_X12_isSet hc) (fun v2 τ2 hq => ?_)
  obtain ⟨rfl, hτ⟩ := hq
  subst τ2
  change Z _ _ _ _ _ [.int (v)] _
  exact zb_X12_hitAt_8 h
/-- SkyStonesModel.hitAt(IIZII)I -/
theorem c_X12_hitAt {S : Shp} {x1 : Int32} {x2 : Int32} {x3 : Int32} {x4 : Int32} {x5 : Int32} {σ : Mm} {r : Int32 × Mm} (h : F_X12_hitAt x1 x2 x3 x4 x5 σ = some r) : Ct m_X12_hitAt S [.ref (sL S 3 0 0), .int (x1), .int (x2), .int (x3), .int (x4), .int (x5)] σ (Qi r) := Ct.of (by decide +kernel) (Nat.le_of_ble_eq_true rfl) (zb_X12_hitAt h)
def F_X12_hits_39 (s0 : Int32) (σ : Mm) : Option (Int32 × Mm) := some (s0, σ)
set_option maxRecDepth 20000 in
theorem zb_X12_hits_39 {S : Shp} {s0 : Int32} {σ : Mm} {r : Int32 × Mm} (h : F_X12_hits_39 s0 σ = some r) : Z m_X12_hits S (Qi r) 39 [] [.int (s0)] σ := by
  unfold F_X12_hits_39 at h
  cases h
  exact z_ireturn dX12_hits_39 rfl rfl ⟨rfl, rfl⟩
def F_X12_hits_31 (x1 : Int32) (x3 : Int32) (x4 : Int32) (σ : Mm) : Option (Int32 × Mm) := (bnd (F_X12_hitsOf x1 x3 x4 σ) (fun v τ => (F_X12_hits_39 v τ)))
set_option maxRecDepth 20000 in
theorem zb_X12_hits_31 {S : Shp} {x1 : Int32} {x3 : Int32} {x4 : Int32} {σ : Mm} {r : Int32 × Mm} (h : F_X12_hits_31 x1 x3 x4 σ = some r) : Z m_X12_hits S (Qi r) 31 [(0, .ref (sL S 3 0 0)), (1, .int (x1)), (3, .int (x3)), (4, .int (x4))] [] σ := by
  unfold F_X12_hits_31 at h
  refine z_aload_n dX12_hits_31 rfl 0 rfl ?_
  refine z_iload_n dX12_hits_32 rfl 1 rfl ?_
  refine z_iload_n dX12_hits_33 rfl 2 rfl ?_
  refine z_iload dX12_hits_34 3 rfl ?_
  obtain ⟨v, τ, hc, h⟩ := bnd_e h
  refine z_callV (M' := m_X12_hitsOf) (t := 3) (i := 0) (k := 0) (As := [.int (x1), .int (x3), .int (x4)]) (rest := []) kl_12_497 oy_X12_hitsOf ⟨Nat.le_of_ble_eq_true rfl, Nat.le_of_ble_eq_true rfl⟩ rfl rfl rfl rfl (Nat.le_of_ble_eq_true rfl) rfl dX12_hits_36 (c_X12_hitsOf hc) (fun v2 τ2 hq => ?_)
  obtain ⟨rfl, hτ⟩ := hq
  subst τ2
  change Z _ _ _ _ _ [.int (v)] _
  refine Z.lv [] rfl ?_
  exact zb_X12_hits_39 h
def F_X12_hits_8 (x1 : Int32) (x2 : Int32) (x3 : Int32) (x4 : Int32) (x5 : Int32) (s0 : Int32) (σ : Mm) : Option (Int32 × Mm) := (if s0 = 0 then some ((-1), σ) else (if (f_X12_isIn x3 0 359) = 0 then some ((-1), σ) else (bnv (F_X12_layAll x2 x5 σ) (fun τ => (F_X12_hits_31 x1 x3 x4 τ)))))
set_option maxRecDepth 20000 in
theorem zb_X12_hits_8 {S : Shp} {x1 : Int32} {x2 : Int32} {x3 : Int32} {x4 : Int32} {x5 : Int32} {s0 : Int32} {σ : Mm} {r : Int32 × Mm} (h : F_X12_hits_8 x1 x2 x3 x4 x5 s0 σ = some r) : Z m_X12_hits S (Qi r) 8 [(0, .ref (sL S 3 0 0)), (1, .int (x1)), (2, .int (x2)), (3, .int (x3)), (4, .int (x4)), (5, .int (x5))] [.int (s0)] σ := by
  unfold F_X12_hits_8 at h
  refine z_if_eq (tgt := 22) dX12_hits_8 (by decide) (fun q => ?_) (fun q => ?_)
  · have h := (if_pos q).symm.trans h
    refine z_iconst (v := (-1)) dX12_hits_22 (by decide) ?_
    cases h
    exact z_ireturn dX12_hits_23 rfl rfl ⟨rfl, rfl⟩
  · have h := (if_neg q).symm.trans h
    refine z_iload_n dX12_hits_11 rfl 3 rfl ?_
    refine z_iconst (v := 0) dX12_hits_12 (by decide) ?_
    refine z_sipush (v := 359) dX12_hits_13 (by decide) ?_
    refine z_callS (M' := m_X12_isIn) (As := [.int (x3), .int (0), .int (359)]) (rest := []) kl_12_407 oy_X12_isIn ⟨Nat.le_of_ble_eq_true rfl, Nat.le_of_ble_eq_true rfl⟩ rfl (Nat.le_of_ble_eq_true rfl) rfl dX12_hits_16 (c_X12_isIn rfl) (fun v τ hq => ?_)
    obtain ⟨rfl, hτ⟩ := hq
    subst τ
    change Z _ _ _ _ _ [.int (f_X12_isIn x3 0 359)] _
    refine z_if_ne (tgt := 24) dX12_hits_19 (by decide) (fun q => ?_) (fun q => ?_)
    · have h := (if_neg q).symm.trans h
      refine z_aload_n dX12_hits_24 rfl 0 rfl ?_
      refine z_iload_n dX12_hits_25 rfl 2 rfl ?_
      refine z_iload dX12_hits_26 5 rfl ?_
      obtain ⟨τ, hc, h⟩ := bnv_e h
      refine z_callV (M' := m_X12_layAll) (t := 3) (i := 0) (k := 0) (As := [.int (x2), .int (x5)]) (rest := []) kl_12_494 oy_X12_layAll ⟨Nat.le_of_ble_eq_true rfl, Nat.le_of_ble_eq_true rfl⟩ rfl rfl rfl rfl (Nat.le_of_ble_eq_true rfl) rfl dX12_hits_28 (c_X12_layAll hc) (fun v2 τ2 hq => ?_)
      obtain ⟨rfl, hτ⟩ := hq
      subst τ2
      change Z _ _ _ _ _ [] _
      refine Z.lv [0, 1, 3, 4] rfl ?_
      exact zb_X12_hits_31 h
    · have h := (if_pos q).symm.trans h
      refine z_iconst (v := (-1)) dX12_hits_22 (by decide) ?_
      cases h
      exact z_ireturn dX12_hits_23 rfl rfl ⟨rfl, rfl⟩
def F_X12_hits (x1 : Int32) (x2 : Int32) (x3 : Int32) (x4 : Int32) (x5 : Int32) (σ : Mm) : Option (Int32 × Mm) := (bnd (F_X12_isSet x1 x2 x5 σ) (fun v τ => (F_X12_hits_8 x1 x2 x3 x4 x5 v τ)))
set_option maxRecDepth 20000 in
theorem zb_X12_hits {S : Shp} {x1 : Int32} {x2 : Int32} {x3 : Int32} {x4 : Int32} {x5 : Int32} {σ : Mm} {r : Int32 × Mm} (h : F_X12_hits x1 x2 x3 x4 x5 σ = some r) : Z m_X12_hits S (Qi r) 0 [(0, .ref (sL S 3 0 0)), (1, .int (x1)), (2, .int (x2)), (3, .int (x3)), (4, .int (x4)), (5, .int (x5))] [] σ := by
  unfold F_X12_hits at h
  refine z_aload_n dX12_hits_0 rfl 0 rfl ?_
  refine z_iload_n dX12_hits_1 rfl 1 rfl ?_
  refine z_iload_n dX12_hits_2 rfl 2 rfl ?_
  refine z_iload dX12_hits_3 5 rfl ?_
  obtain ⟨v, τ, hc, h⟩ := bnd_e h
  refine z_callV (M' := m_X12_isSet) (t := 3) (i := 0) (k := 0) (As := [.int (x1), .int (x2), .int (x5)]) (rest := []) kl_12_491 oy_X12_isSet ⟨Nat.le_of_ble_eq_true rfl, Nat.le_of_ble_eq_true rfl⟩ rfl rfl rfl rfl (Nat.le_of_ble_eq_true rfl) rfl dX12_hits_5 (c_X12_isSet hc) (fun v2 τ2 hq => ?_)
  obtain ⟨rfl, hτ⟩ := hq
  subst τ2
  change Z _ _ _ _ _ [.int (v)] _
  exact zb_X12_hits_8 h
/-- SkyStonesModel.hits(IIIZI)I -/
theorem c_X12_hits {S : Shp} {x1 : Int32} {x2 : Int32} {x3 : Int32} {x4 : Int32} {x5 : Int32} {σ : Mm} {r : Int32 × Mm} (h : F_X12_hits x1 x2 x3 x4 x5 σ = some r) : Ct m_X12_hits S [.ref (sL S 3 0 0), .int (x1), .int (x2), .int (x3), .int (x4), .int (x5)] σ (Qi r) := Ct.of (by decide +kernel) (Nat.le_of_ble_eq_true rfl) (zb_X12_hits h)
def F_X12_hold_28 (σ : Mm) : Option (Int32 × Mm) := some (1, σ)
set_option maxRecDepth 20000 in
theorem zb_X12_hold_28 {S : Shp} {σ : Mm} {r : Int32 × Mm} (h : F_X12_hold_28 σ = some r) : Z m_X12_hold S (Qi r) 28 [] [] σ := by
  unfold F_X12_hold_28 at h
  refine z_iconst (v := 1) dX12_hold_28 (by decide) ?_
  cases h
  exact z_ireturn dX12_hold_29 rfl rfl ⟨rfl, rfl⟩
def F_X12_hold_19 (x1 : Int32) (σ : Mm) : Option (Int32 × Mm) := (if inb ((2 : Int32) + x1) 5 = true then (F_X12_hold_28 (setA σ 3 0 6 (upd (mA σ 3 0 6) ((2 : Int32) + x1).toNatClampNeg (vp_nar .boolean 1)))) else none)
set_option maxRecDepth 20000 in
theorem zb_X12_hold_19 {S : Shp} {x1 : Int32} {σ : Mm} {r : Int32 × Mm} (h : F_X12_hold_19 x1 σ = some r) : Z m_X12_hold S (Qi r) 19 [(0, .ref (sL S 3 0 0)), (1, .int (x1))] [] σ := by
  unfold F_X12_hold_19 at h
  obtain ⟨g1, h⟩ := gd h
  refine z_aload_n dX12_hold_19 rfl 0 rfl ?_
  refine gf_12_30 rfl dX12_hold_20 ?_
  refine z_iconst (v := 2) dX12_hold_23 (by decide) ?_
  refine z_iload_n dX12_hold_24 rfl 1 rfl ?_
  refine z_iadd dX12_hold_25 ?_
  refine z_iconst (v := 1) dX12_hold_26 (by decide) ?_
  refine is_3_6 (inb_in g1) dX12_hold_27 ?_
  refine Z.lv [] rfl ?_
  exact zb_X12_hold_28 h
def F_X12_hold (x1 : Int32) (σ : Mm) : Option (Int32 × Mm) := (if x1 < 0 then some (0, σ) else (if x1 ≤ (2 : Int32) then (bnv (F_X12_copy 0 ((2 : Int32) + x1) σ) (fun τ => (F_X12_hold_19 x1 τ))) else some (0, σ)))
set_option maxRecDepth 20000 in
theorem zb_X12_hold {S : Shp} {x1 : Int32} {σ : Mm} {r : Int32 × Mm} (h : F_X12_hold x1 σ = some r) : Z m_X12_hold S (Qi r) 0 [(0, .ref (sL S 3 0 0)), (1, .int (x1))] [] σ := by
  unfold F_X12_hold at h
  refine z_iload_n dX12_hold_0 rfl 1 rfl ?_
  refine z_if_lt (tgt := 9) dX12_hold_1 (by decide) (fun q => ?_) (fun q => ?_)
  · have h := (if_pos q).symm.trans h
    refine z_iconst (v := 0) dX12_hold_9 (by decide) ?_
    cases h
    exact z_ireturn dX12_hold_10 rfl rfl ⟨rfl, rfl⟩
  · have h := (if_neg q).symm.trans h
    refine z_iload_n dX12_hold_4 rfl 1 rfl ?_
    refine z_iconst (v := 2) dX12_hold_5 (by decide) ?_
    refine z_icmp_le (tgt := 11) dX12_hold_6 (by decide) (fun q => ?_) (fun q => ?_)
    · have h := (if_pos q).symm.trans h
      refine z_aload_n dX12_hold_11 rfl 0 rfl ?_
      refine z_iconst (v := 0) dX12_hold_12 (by decide) ?_
      refine z_iconst (v := 2) dX12_hold_13 (by decide) ?_
      refine z_iload_n dX12_hold_14 rfl 1 rfl ?_
      refine z_iadd dX12_hold_15 ?_
      obtain ⟨τ, hc, h⟩ := bnv_e h
      refine z_callV (M' := m_X12_copy) (t := 3) (i := 0) (k := 0) (As := [.int (0), .int ((2 : Int32) + x1)]) (rest := []) kl_12_404 oy_X12_copy ⟨Nat.le_of_ble_eq_true rfl, Nat.le_of_ble_eq_true rfl⟩ rfl rfl rfl rfl (Nat.le_of_ble_eq_true rfl) rfl dX12_hold_16 (c_X12_copy hc) (fun v2 τ2 hq => ?_)
      obtain ⟨rfl, hτ⟩ := hq
      subst τ2
      change Z _ _ _ _ _ [] _
      exact zb_X12_hold_19 h
    · have h := (if_neg q).symm.trans h
      refine z_iconst (v := 0) dX12_hold_9 (by decide) ?_
      cases h
      exact z_ireturn dX12_hold_10 rfl rfl ⟨rfl, rfl⟩
/-- SkyStonesModel.hold(I)Z -/
theorem c_X12_hold {S : Shp} {x1 : Int32} {σ : Mm} {r : Int32 × Mm} (h : F_X12_hold x1 σ = some r) : Ct m_X12_hold S [.ref (sL S 3 0 0), .int (x1)] σ (Qi r) := Ct.of (by decide +kernel) (Nat.le_of_ble_eq_true rfl) (zb_X12_hold h)
