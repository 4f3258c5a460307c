def f_X11_isMade (x0 : Int32) (x1 : Int32) : Int32 := (if x0 < (1 : Int32) then 0 else (if (7 : Int32) < x0 then 0 else (if x1 < 0 then 0 else (if x0 < x1 then 0 else 1))))
set_option maxRecDepth 20000 in
theorem zb_X11_isMade {S : Shp} {x0 : Int32} {x1 : Int32} {σ : Mm} {r : Int32} (h : f_X11_isMade x0 x1 = r) : Z m_X11_isMade S (Qi (r, σ)) 0 [(0, .int (x0)), (1, .int (x1))] [] σ := by
  unfold f_X11_isMade at h
  refine z_iload_n dX11_isMade_0 rfl 0 rfl ?_
  refine z_iconst (v := 1) dX11_isMade_1 (by decide) ?_
  refine z_icmp_lt (tgt := 24) dX11_isMade_2 (by decide) (fun q => ?_) (fun q => ?_)
  · have h := (if_pos q).symm.trans h
    refine z_iconst (v := 0) dX11_isMade_24 (by decide) ?_
    subst h
    exact z_ireturn dX11_isMade_25 rfl rfl ⟨rfl, rfl⟩
  · have h := (if_neg q).symm.trans h
    refine z_iload_n dX11_isMade_5 rfl 0 rfl ?_
    refine z_bipush (v := 7) dX11_isMade_6 (by decide) ?_
    refine z_icmp_gt (tgt := 24) dX11_isMade_8 (by decide) (fun q => ?_) (fun q => ?_)
    · have h := (if_pos q).symm.trans h
      refine z_iconst (v := 0) dX11_isMade_24 (by decide) ?_
      subst h
      exact z_ireturn dX11_isMade_25 rfl rfl ⟨rfl, rfl⟩
    · have h := (if_neg q).symm.trans h
      refine z_iload_n dX11_isMade_11 rfl 1 rfl ?_
      refine z_if_lt (tgt := 24) dX11_isMade_12 (by decide) (fun q => ?_) (fun q => ?_)
      · have h := (if_pos q).symm.trans h
        refine z_iconst (v := 0) dX11_isMade_24 (by decide) ?_
        subst h
        exact z_ireturn dX11_isMade_25 rfl rfl ⟨rfl, rfl⟩
      · have h := (if_neg q).symm.trans h
        refine z_iload_n dX11_isMade_15 rfl 1 rfl ?_
        refine z_iload_n dX11_isMade_16 rfl 0 rfl ?_
        refine z_icmp_gt (tgt := 24) dX11_isMade_17 (by decide) (fun q => ?_) (fun q => ?_)
        · have h := (if_pos q).symm.trans h
          refine z_iconst (v := 0) dX11_isMade_24 (by decide) ?_
          subst h
          exact z_ireturn dX11_isMade_25 rfl rfl ⟨rfl, rfl⟩
        · have h := (if_neg q).symm.trans h
          refine z_iconst (v := 1) dX11_isMade_20 (by decide) ?_
          refine z_goto (tgt := 25) dX11_isMade_21 (by decide) ?_
          subst h
          exact z_ireturn dX11_isMade_25 rfl rfl ⟨rfl, rfl⟩
/-- SkyStones.isMade(II)Z -/
theorem c_X11_isMade {S : Shp} {x0 : Int32} {x1 : Int32} {σ : Mm} {r : Int32} (h : f_X11_isMade x0 x1 = r) : Ct m_X11_isMade S [.int (x0), .int (x1)] σ (Qi (r, σ)) := Ct.of (by decide +kernel) (Nat.le_of_ble_eq_true rfl) (zb_X11_isMade h)
def F_X11_life_68 (rc48 : Int32 → Int32 → Int32 → Int32 → Int32 → Int32 → Mm → Option (Int32 × Mm)) (x1 : Int32) (x2 : Int32) (x3 : Int32) (x4 : Int32) (x5 : Int32) (x6 : Int32) (σ : Mm) : Option (Int32 × Mm) := (rc48 x1 x2 x3 x4 x5 (x6 + 1) σ)
set_option maxRecDepth 20000 in
theorem zb_X11_life_68 {S : Shp} {rc48 : Int32 → Int32 → Int32 → Int32 → Int32 → Int32 → Mm → Option (Int32 × Mm)} (hrc48 : ∀ {x1 : Int32} {x2 : Int32} {x3 : Int32} {x4 : Int32} {x5 : Int32} {x6 : Int32} {σ : Mm} {r : Int32 × Mm}, rc48 x1 x2 x3 x4 x5 x6 σ = some r → Z m_X11_life S (Qi r) 48 [(1, .int (x1)), (2, .int (x2)), (3, .int (x3)), (4, .int (x4)), (5, .int (x5)), (6, .int (x6))] [] σ) {x1 : Int32} {x2 : Int32} {x3 : Int32} {x4 : Int32} {x5 : Int32} {x6 : Int32} {σ : Mm} {r : Int32 × Mm} (h : F_X11_life_68 rc48 x1 x2 x3 x4 x5 x6 σ = some r) : Z m_X11_life S (Qi r) 68 [(1, .int (x1)), (2, .int (x2)), (3, .int (x3)), (4, .int (x4)), (5, .int (x5)), (6, .int (x6))] [] σ := by
  unfold F_X11_life_68 at h
  refine z_iinc (j := 5) (v := x6 + 1) (lv' := [(1, .int (x1)), (2, .int (x2)), (3, .int (x3)), (4, .int (x4)), (5, .int (x5)), (6, .int (x6 + 1))]) dX11_life_68 rfl rfl (by decide) [1, 2, 3, 4, 5, 0] rfl ?_
  refine z_goto (tgt := 48) dX11_life_71 (by decide) ?_
  exact hrc48 h
def B_X11_life_48 (rc48 : Int32 → Int32 → Int32 → Int32 → Int32 → Int32 → Mm → Option (Int32 × Mm)) (x1 : Int32) (x2 : Int32) (x3 : Int32) (x4 : Int32) (x5 : Int32) (x6 : Int32) (σ : Mm) : Option (Int32 × Mm) := (if (x1 + x2) ≤ x6 then some (x5, σ) else (if ¬ x3 = 0 then (if (x6 - x6 / x3 * x3) = x4 then (F_X11_life_68 rc48 x1 x2 x3 x4 (x5 + 1) x6 σ) else (F_X11_life_68 rc48 x1 x2 x3 x4 x5 x6 σ)) else none))
set_option maxRecDepth 20000 in
theorem zB_X11_life_48 {S : Shp} {rc48 : Int32 → Int32 → Int32 → Int32 → Int32 → Int32 → Mm → Option (Int32 × Mm)} (hrc48 : ∀ {x1 : Int32} {x2 : Int32} {x3 : Int32} {x4 : Int32} {x5 : Int32} {x6 : Int32} {σ : Mm} {r : Int32 × Mm}, rc48 x1 x2 x3 x4 x5 x6 σ = some r → Z m_X11_life S (Qi r) 48 [(1, .int (x1)), (2, .int (x2)), (3, .int (x3)), (4, .int (x4)), (5, .int (x5)), (6, .int (x6))] [] σ) {x1 : Int32} {x2 : Int32} {x3 : Int32} {x4 : Int32} {x5 : Int32} {x6 : Int32} {σ : Mm} {r : Int32 × Mm} (h : B_X11_life_48 rc48 x1 x2 x3 x4 x5 x6 σ = some r) : Z m_X11_life S (Qi r) 48 [(1, .int (x1)), (2, .int (x2)), (3, .int (x3)), (4, .int (x4)), (5, .int (x5)), (6, .int (x6))] [] σ := by
  unfold B_X11_life_48 at h
  refine z_iload dX11_life_48 5 rfl ?_
  refine z_iload_n dX11_life_50 rfl 0 rfl ?_
  refine z_iload_n dX11_life_51 rfl 1 rfl ?_
  refine z_iadd dX11_life_52 ?_
  refine z_icmp_ge (tgt := 74) dX11_life_53 (by decide) (fun q => ?_) (fun q => ?_)
  · have h := (if_pos q).symm.trans h
    refine z_iload dX11_life_74 4 rfl ?_
    cases h
    exact z_ireturn dX11_life_76 rfl rfl ⟨rfl, rfl⟩
  · have h := (if_neg q).symm.trans h
    obtain ⟨g1, h⟩ := gd h
    refine z_iload dX11_life_56 5 rfl ?_
    refine z_iload_n dX11_life_58 rfl 2 rfl ?_
    refine z_irem dX11_life_59 g1 ?_
    refine z_iload dX11_life_60 3 rfl ?_
    refine z_icmp_ne (tgt := 68) dX11_life_62 (by decide) (fun q => ?_) (fun q => ?_)
    · have h := (if_neg q).symm.trans h
      exact zb_X11_life_68 hrc48 h
    · have h := (if_pos q).symm.trans h
      refine z_iinc (j := 4) (v := x5 + 1) (lv' := [(1, .int (x1)), (2, .int (x2)), (3, .int (x3)), (4, .int (x4)), (5, .int (x5 + 1)), (6, .int (x6))]) dX11_life_65 rfl rfl (by decide) [1, 2, 3, 4, 0, 5] rfl ?_
      exact zb_X11_life_68 hrc48 h
def F_X11_life_48 : Nat → Int32 → Int32 → Int32 → Int32 → Int32 → Int32 → Mm → Option (Int32 × Mm)
  | 0 => fun _ _ _ _ _ _ _ => none
  | n + 1 => B_X11_life_48 (F_X11_life_48 n)
theorem zl_X11_life_48 {S : Shp} : ∀ (nn : Nat) {x1 : Int32} {x2 : Int32} {x3 : Int32} {x4 : Int32} {x5 : Int32} {x6 : Int32} {σ : Mm} {r : Int32 × Mm}, F_X11_life_48 nn x1 x2 x3 x4 x5 x6 σ = some r → Z m_X11_life S (Qi r) 48 [(1, .int (x1)), (2, .int (x2)), (3, .int (x3)), (4, .int (x4)), (5, .int (x5)), (6, .int (x6))] [] σ := by
  intro nn
  induction nn with
  | zero => intro x1 x2 x3 x4 x5 x6 σ r h; cases h
  | succ nn ih => intro x1 x2 x3 x4 x5 x6 σ r h; exact zB_X11_life_48 @ih h
def F_X11_life (x1 : Int32) (x2 : Int32) (x3 : Int32) (x4 : Int32) (σ : Mm) : Option (Int32 × Mm) := (if (f_X11_isYear x1) = 0 then some ((-1), σ) else (if x2 < (1 : Int32) then some ((-1), σ) else (if (90 : Int32) < x2 then some ((-1), σ) else (if x3 < (2 : Int32) then some ((-1), σ) else (if (60 : Int32) < x3 then some ((-1), σ) else (if x4 < 0 then some ((-1), σ) else (if x4 < x3 then (F_X11_life_48 FU x1 x2 x3 x4 0 x1 σ) else some ((-1), σ))))))))
set_option maxRecDepth 20000 in
theorem zb_X11_life {S : Shp} {x1 : Int32} {x2 : Int32} {x3 : Int32} {x4 : Int32} {σ : Mm} {r : Int32 × Mm} (h : F_X11_life x1 x2 x3 x4 σ = some r) : Z m_X11_life S (Qi r) 0 [(0, .ref (sL S 0 0 0)), (1, .int (x1)), (2, .int (x2)), (3, .int (x3)), (4, .int (x4))] [] σ := by
  unfold F_X11_life at h
  refine z_iload_n dX11_life_0 rfl 1 rfl ?_
  refine z_callS (M' := m_X11_isYear) (As := [.int (x1)]) (rest := []) kl_11_219 oy_X11_isYear ⟨Nat.le_of_ble_eq_true rfl, Nat.le_of_ble_eq_true rfl⟩ rfl (Nat.le_of_ble_eq_true rfl) rfl dX11_life_1 (c_X11_isYear rfl) (fun v τ hq => ?_)
  obtain ⟨rfl, hτ⟩ := hq
  subst τ
  change Z _ _ _ _ _ [.int (f_X11_isYear x1)] _
  refine z_if_eq (tgt := 40) dX11_life_4 (by decide) (fun q => ?_) (fun q => ?_)
  · have h := (if_pos q).symm.trans h
    refine z_iconst (v := (-1)) dX11_life_40 (by decide) ?_
    cases h
    exact z_ireturn dX11_life_41 rfl rfl ⟨rfl, rfl⟩
  · have h := (if_neg q).symm.trans h
    refine z_iload_n dX11_life_7 rfl 2 rfl ?_
    refine z_iconst (v := 1) dX11_life_8 (by decide) ?_
    refine z_icmp_lt (tgt := 40) dX11_life_9 (by decide) (fun q => ?_) (fun q => ?_)
    · have h := (if_pos q).symm.trans h
      refine z_iconst (v := (-1)) dX11_life_40 (by decide) ?_
      cases h
      exact z_ireturn dX11_life_41 rfl rfl ⟨rfl, rfl⟩
    · have h := (if_neg q).symm.trans h
      refine z_iload_n dX11_life_12 rfl 2 rfl ?_
      refine z_bipush (v := 90) dX11_life_13 (by decide) ?_
      refine z_icmp_gt (tgt := 40) dX11_life_15 (by decide) (fun q => ?_) (fun q => ?_)
      · have h := (if_pos q).symm.trans h
        refine z_iconst (v := (-1)) dX11_life_40 (by decide) ?_
        cases h
        exact z_ireturn dX11_life_41 rfl rfl ⟨rfl, rfl⟩
      · have h := (if_neg q).symm.trans h
        refine z_iload_n dX11_life_18 rfl 3 rfl ?_
        refine z_iconst (v := 2) dX11_life_19 (by decide) ?_
        refine z_icmp_lt (tgt := 40) dX11_life_20 (by decide) (fun q => ?_) (fun q => ?_)
        · have h := (if_pos q).symm.trans h
          refine z_iconst (v := (-1)) dX11_life_40 (by decide) ?_
          cases h
          exact z_ireturn dX11_life_41 rfl rfl ⟨rfl, rfl⟩
        · have h := (if_neg q).symm.trans h
          refine z_iload_n dX11_life_23 rfl 3 rfl ?_
          refine z_bipush (v := 60) dX11_life_24 (by decide) ?_
          refine z_icmp_gt (tgt := 40) dX11_life_26 (by decide) (fun q => ?_) (fun q => ?_)
          · have h := (if_pos q).symm.trans h
            refine z_iconst (v := (-1)) dX11_life_40 (by decide) ?_
            cases h
            exact z_ireturn dX11_life_41 rfl rfl ⟨rfl, rfl⟩
          · have h := (if_neg q).symm.trans h
            refine z_iload dX11_life_29 4 rfl ?_
            refine z_if_lt (tgt := 40) dX11_life_31 (by decide) (fun q => ?_) (fun q => ?_)
            · have h := (if_pos q).symm.trans h
              refine z_iconst (v := (-1)) dX11_life_40 (by decide) ?_
              cases h
              exact z_ireturn dX11_life_41 rfl rfl ⟨rfl, rfl⟩
            · have h := (if_neg q).symm.trans h
              refine z_iload dX11_life_34 4 rfl ?_
              refine z_iload_n dX11_life_36 rfl 3 rfl ?_
              refine z_icmp_lt (tgt := 42) dX11_life_37 (by decide) (fun q => ?_) (fun q => ?_)
              · have h := (if_pos q).symm.trans h
                refine z_iconst (v := 0) dX11_life_42 (by decide) ?_
                refine z_istore (lv' := [(0, .ref (sL S 0 0 0)), (1, .int (x1)), (2, .int (x2)), (3, .int (x3)), (4, .int (x4)), (5, .int (0))]) dX11_life_43 (by decide) [1, 2, 3, 4, 5, 0] rfl ?_
                refine z_iload_n dX11_life_45 rfl 1 rfl ?_
                refine z_istore (lv' := [(0, .ref (sL S 0 0 0)), (1, .int (x1)), (2, .int (x2)), (3, .int (x3)), (4, .int (x4)), (5, .int (0)), (6, .int (x1))]) dX11_life_46 (by decide) [1, 2, 3, 4, 5, 6, 0] rfl ?_
                refine Z.lv [1, 2, 3, 4, 5, 6] rfl ?_
                exact zl_X11_life_48 FU h
              · have h := (if_neg q).symm.trans h
                refine z_iconst (v := (-1)) dX11_life_40 (by decide) ?_
                cases h
                exact z_ireturn dX11_life_41 rfl rfl ⟨rfl, rfl⟩
/-- SkyStones.life(IIII)I -/
theorem c_X11_life {S : Shp} {x1 : Int32} {x2 : Int32} {x3 : Int32} {x4 : Int32} {σ : Mm} {r : Int32 × Mm} (h : F_X11_life x1 x2 x3 x4 σ = some r) : Ct m_X11_life S [.ref (sL S 0 0 0), .int (x1), .int (x2), .int (x3), .int (x4)] σ (Qi r) := Ct.of (by decide +kernel) (Nat.le_of_ble_eq_true rfl) (zb_X11_life h)
def F_X11_line_89 (x2 : Int32) (σ : Mm) : Option (Int32 × Mm) := (if x2 = 0 then (if inb 8 9 = true then some (mA σ 0 0 22 (8 : Int32).toNatClampNeg, σ) else none) else (if inb (((2 : Int32) + x2) - (1 : Int32)) 9 = true then some (mA σ 0 0 22 (((2 : Int32) + x2) - (1 : Int32)).toNatClampNeg, σ) else none))
set_option maxRecDepth 20000 in
theorem zb_X11_line_89 {S : Shp} {x2 : Int32} {σ : Mm} {r : Int32 × Mm} (h : F_X11_line_89 x2 σ = some r) : Z m_X11_line S (Qi r) 89 [(0, .ref (sL S 0 0 0)), (2, .int (x2))] [] σ := by
  unfold F_X11_line_89 at h
  refine z_iload_n dX11_line_89 rfl 1 rfl ?_
  refine z_if_ne (tgt := 106) dX11_line_90 (by decide) (fun q => ?_) (fun q => ?_)
  · have h := (if_neg q).symm.trans h
    obtain ⟨g4, h⟩ := gd h
    refine z_aload_n dX11_line_106 rfl 0 rfl ?_
    refine gf_11_53 rfl dX11_line_107 ?_
    refine gf_11_201 rfl dX11_line_110 ?_
    refine z_iconst (v := 2) dX11_line_113 (by decide) ?_
    refine z_iload_n dX11_line_114 rfl 1 rfl ?_
    refine z_iadd dX11_line_115 ?_
    refine z_iconst (v := 1) dX11_line_116 (by decide) ?_
    refine z_isub dX11_line_117 ?_
    refine ia_0_22 (inb_in g4) dX11_line_118 ?_
    cases h
    exact z_ireturn dX11_line_119 rfl rfl ⟨rfl, rfl⟩
  · have h := (if_pos q).symm.trans h
    obtain ⟨g5, h⟩ := gd h
    refine z_aload_n dX11_line_93 rfl 0 rfl ?_
    refine gf_11_53 rfl dX11_line_94 ?_
    refine gf_11_201 rfl dX11_line_97 ?_
    refine z_bipush (v := 8) dX11_line_100 (by decide) ?_
    refine ia_0_22 (inb_in g5) dX11_line_102 ?_
    refine z_goto (tgt := 119) dX11_line_103 (by decide) ?_
    cases h
    exact z_ireturn dX11_line_119 rfl rfl ⟨rfl, rfl⟩
def F_X11_line_68 (s0 : Int32) (σ : Mm) : Option (Int32 × Mm) := (if s0 = 0 then some (0, σ) else some (1, σ))
set_option maxRecDepth 20000 in
theorem zb_X11_line_68 {S : Shp} {s0 : Int32} {σ : Mm} {r : Int32 × Mm} (h : F_X11_line_68 s0 σ = some r) : Z m_X11_line S (Qi r) 68 [] [.int (s0)] σ := by
  unfold F_X11_line_68 at h
  refine z_if_eq (tgt := 75) dX11_line_68 (by decide) (fun q => ?_) (fun q => ?_)
  · have h := (if_pos q).symm.trans h
    refine z_iconst (v := 0) dX11_line_75 (by decide) ?_
    cases h
    exact z_ireturn dX11_line_76 rfl rfl ⟨rfl, rfl⟩
  · have h := (if_neg q).symm.trans h
    refine z_iconst (v := 1) dX11_line_71 (by decide) ?_
    refine z_goto (tgt := 76) dX11_line_72 (by decide) ?_
    cases h
    exact z_ireturn dX11_line_76 rfl rfl ⟨rfl, rfl⟩
def F_X11_line_44 (x1 : Int32) (x2 : Int32) (s0 : Int32) (σ : Mm) : Option (Int32 × Mm) := (if s0 = 0 then some ((-1), σ) else (if x2 = (7 : Int32) then (if okP σ = true then (bnd (F_X2_holds (mP σ 0) x1 ((-1)) σ) (fun v τ => (F_X11_line_68 v τ))) else none) else (if okP σ = true then (bnv (F_X2_describe (mP σ 0) x1 σ) (fun τ => (F_X11_line_89 x2 τ))) else none)))
set_option maxRecDepth 20000 in
theorem zb_X11_line_44 {S : Shp} {x1 : Int32} {x2 : Int32} {s0 : Int32} {σ : Mm} {r : Int32 × Mm} (h : F_X11_line_44 x1 x2 s0 σ = some r) : Z m_X11_line S (Qi r) 44 [(0, .ref (sL S 0 0 0)), (1, .int (x1)), (2, .int (x2))] [.int (s0)] σ := by
  unfold F_X11_line_44 at h
  refine z_if_ne (tgt := 49) dX11_line_44 (by decide) (fun q => ?_) (fun q => ?_)
  · have h := (if_neg q).symm.trans h
    refine z_iload_n dX11_line_49 rfl 2 rfl ?_
    refine z_bipush (v := 7) dX11_line_50 (by decide) ?_
    refine z_icmp_ne (tgt := 77) dX11_line_52 (by decide) (fun q => ?_) (fun q => ?_)
    · have h := (if_neg q).symm.trans h
      obtain ⟨g2, h⟩ := gd h
      refine z_aload_n dX11_line_77 rfl 0 rfl ?_
      refine gf_11_53 rfl dX11_line_78 ?_
      refine z_aload_n dX11_line_81 rfl 0 rfl ?_
      have hp := g2
      refine gf_11_19 rfl dX11_line_82 ?_
      refine z_iload_n dX11_line_85 rfl 1 rfl ?_
      obtain ⟨τ, hc, h⟩ := bnv_e h
      refine z_callV (M' := m_X2_describe) (t := 0) (i := 0) (k := 15) (As := [.ref (sL S 1 (mP σ 0) 0), .int (x1)]) (rest := []) kl_11_197 oy_X2_describe ⟨Nat.le_of_ble_eq_true rfl, Nat.le_of_ble_eq_true rfl⟩ rfl rfl rfl rfl (Nat.le_of_ble_eq_true rfl) rfl dX11_line_86 (c_X2_describe (okP_0 hp) hc) (fun v2 τ2 hq => ?_)
      obtain ⟨rfl, hτ⟩ := hq
      subst τ2
      change Z _ _ _ _ _ [] _
      refine Z.lv [0, 2] rfl ?_
      exact zb_X11_line_89 h
    · have h := (if_pos q).symm.trans h
      obtain ⟨g3, h⟩ := gd h
      refine z_aload_n dX11_line_55 rfl 0 rfl ?_
      refine gf_11_53 rfl dX11_line_56 ?_
      refine z_aload_n dX11_line_59 rfl 0 rfl ?_
      have hp := g3
      refine gf_11_19 rfl dX11_line_60 ?_
      refine z_iload_n dX11_line_63 rfl 1 rfl ?_
      refine z_iconst (v := (-1)) dX11_line_64 (by decide) ?_
      obtain ⟨v, τ, hc, h⟩ := bnd_e h
      refine z_callV (M' := m_X2_holds) (t := 0) (i := 0) (k := 15) (As := [.ref (sL S 1 (mP σ 0) 0), .int (x1), .int ((-1))]) (rest := []) kl_11_193 oy_X2_holds ⟨Nat.le_of_ble_eq_true rfl, Nat.le_of_ble_eq_true rfl⟩ rfl rfl rfl rfl (Nat.le_of_ble_eq_true rfl) rfl dX11_line_65 (c_X2_holds (okP_0 hp) hc) (fun v2 τ2 hq => ?_)
      obtain ⟨rfl, hτ⟩ := hq
      subst τ2
      change Z _ _ _ _ _ [.int (v)] _
      refine Z.lv [] rfl ?_
      exact zb_X11_line_68 h
  · have h := (if_pos q).symm.trans h
    refine z_iconst (v := (-1)) dX11_line_47 (by decide) ?_
    cases h
    exact z_ireturn dX11_line_48 rfl rfl ⟨rfl, rfl⟩
def F_X11_line_36 (x1 : Int32) (x2 : Int32) (σ : Mm) : Option (Int32 × Mm) := (bnd (F_X2_joins x1 σ) (fun v τ => (F_X11_line_44 x1 x2 v τ)))
set_option maxRecDepth 20000 in
theorem zb_X11_line_36 {S : Shp} {x1 : Int32} {x2 : Int32} {σ : Mm} {r : Int32 × Mm} (h : F_X11_line_36 x1 x2 σ = some r) : Z m_X11_line S (Qi r) 36 [(0, .ref (sL S 0 0 0)), (1, .int (x1)), (2, .int (x2))] [] σ := by
  unfold F_X11_line_36 at h
  refine z_aload_n dX11_line_36 rfl 0 rfl ?_
  refine gf_11_53 rfl dX11_line_37 ?_
  refine z_iload_n dX11_line_40 rfl 1 rfl ?_
  obtain ⟨v, τ, hc, h⟩ := bnd_e h
  refine z_callV (M' := m_X2_joins) (t := 0) (i := 0) (k := 15) (As := [.int (x1)]) (rest := []) kl_11_190 oy_X2_joins ⟨Nat.le_of_ble_eq_true rfl, Nat.le_of_ble_eq_true rfl⟩ rfl rfl rfl rfl (Nat.le_of_ble_eq_true rfl) rfl dX11_line_41 (c_X2_joins hc) (fun v2 τ2 hq => ?_)
  obtain ⟨rfl, hτ⟩ := hq
  subst τ2
  change Z _ _ _ _ _ [.int (v)] _
  exact zb_X11_line_44 h
def F_X11_line (x1 : Int32) (x2 : Int32) (x3 : Int32) (σ : Mm) : Option (Int32 × Mm) := (if okP σ = true then (if (f_X11_isKnown x3 σ) = 0 then some ((-1), σ) else (if x2 < 0 then some ((-1), σ) else (if x2 ≤ (7 : Int32) then (bnv (F_X2_know (mP σ 0) 0 x3 σ) (fun τ => (F_X11_line_36 x1 x2 τ))) else some ((-1), σ)))) else none)
set_option maxRecDepth 20000 in
theorem zb_X11_line {S : Shp} {x1 : Int32} {x2 : Int32} {x3 : Int32} {σ : Mm} {r : Int32 × Mm} (h : F_X11_line x1 x2 x3 σ = some r) : Z m_X11_line S (Qi r) 0 [(0, .ref (sL S 0 0 0)), (1, .int (x1)), (2, .int (x2)), (3, .int (x3))] [] σ := by
  unfold F_X11_line at h
  obtain ⟨g1, h⟩ := gd h
  refine z_aload_n dX11_line_0 rfl 0 rfl ?_
  refine z_iload_n dX11_line_1 rfl 3 rfl ?_
  have hp := g1
  refine z_callV (M' := m_X11_isKnown) (t := 0) (i := 0) (k := 0) (As := [.int (x3)]) (rest := []) kl_11_152 oy_X11_isKnown ⟨Nat.le_of_ble_eq_true rfl, Nat.le_of_ble_eq_true rfl⟩ rfl rfl rfl rfl (Nat.le_of_ble_eq_true rfl) rfl dX11_line_2 (c_X11_isKnown hp rfl) (fun v τ hq => ?_)
  obtain ⟨rfl, hτ⟩ := hq
  subst τ
  change Z _ _ _ _ _ [.int (f_X11_isKnown x3 σ)] _
  refine z_if_eq (tgt := 18) dX11_line_5 (by decide) (fun q => ?_) (fun q => ?_)
  · have h := (if_pos q).symm.trans h
    refine z_iconst (v := (-1)) dX11_line_18 (by decide) ?_
    cases h
    exact z_ireturn dX11_line_19 rfl rfl ⟨rfl, rfl⟩
  · have h := (if_neg q).symm.trans h
    refine z_iload_n dX11_line_8 rfl 2 rfl ?_
    refine z_if_lt (tgt := 18) dX11_line_9 (by decide) (fun q => ?_) (fun q => ?_)
    · have h := (if_pos q).symm.trans h
      refine z_iconst (v := (-1)) dX11_line_18 (by decide) ?_
      cases h
      exact z_ireturn dX11_line_19 rfl rfl ⟨rfl, rfl⟩
    · have h := (if_neg q).symm.trans h
      refine z_iload_n dX11_line_12 rfl 2 rfl ?_
      refine z_bipush (v := 7) dX11_line_13 (by decide) ?_
      refine z_icmp_le (tgt := 20) dX11_line_15 (by decide) (fun q => ?_) (fun q => ?_)
      · have h := (if_pos q).symm.trans h
        refine z_aload_n dX11_line_20 rfl 0 rfl ?_
        refine gf_11_53 rfl dX11_line_21 ?_
        refine z_aload_n dX11_line_24 rfl 0 rfl ?_
        refine gf_11_19 rfl dX11_line_25 ?_
        refine z_aload_n dX11_line_28 rfl 0 rfl ?_
        refine gf_11_38 rfl dX11_line_29 ?_
        refine z_iload_n dX11_line_32 rfl 3 rfl ?_
        obtain ⟨τ, hc, h⟩ := bnv_e h
        refine z_callV (M' := m_X2_know) (t := 0) (i := 0) (k := 15) (As := [.ref (sL S 1 (mP σ 0) 0), .ref (sL S 2 0 0), .int (x3)]) (rest := []) kl_11_155 oy_X2_know ⟨Nat.le_of_ble_eq_true rfl, Nat.le_of_ble_eq_true rfl⟩ rfl rfl rfl rfl (Nat.le_of_ble_eq_true rfl) rfl dX11_line_33 (c_X2_know (okP_0 hp) rfl hc) (fun v2 τ2 hq => ?_)
        obtain ⟨rfl, hτ⟩ := hq
        subst τ2
        change Z _ _ _ _ _ [] _
        refine Z.lv [0, 1, 2] rfl ?_
        exact zb_X11_line_36 h
      · have h := (if_neg q).symm.trans h
        refine z_iconst (v := (-1)) dX11_line_18 (by decide) ?_
        cases h
        exact z_ireturn dX11_line_19 rfl rfl ⟨rfl, rfl⟩
/-- SkyStones.line(III)I -/
theorem c_X11_line {S : Shp} {x1 : Int32} {x2 : Int32} {x3 : Int32} {σ : Mm} {r : Int32 × Mm} (h : F_X11_line x1 x2 x3 σ = some r) : Ct m_X11_line S [.ref (sL S 0 0 0), .int (x1), .int (x2), .int (x3)] σ (Qi r) := Ct.of (by decide +kernel) (Nat.le_of_ble_eq_true rfl) (zb_X11_line h)
def F_X2_joinedInAll_22 (rc4 : Int32 → Int32 → Mm → Option (Int32 × Mm)) (x1 : Int32) (x2 : Int32) (σ : Mm) : Option (Int32 × Mm) := (rc4 x1 (x2 + 1) σ)
set_option maxRecDepth 20000 in
theorem zb_X2_joinedInAll_22 {S : Shp} {rc4 : Int32 → Int32 → Mm → Option (Int32 × Mm)} (hrc4 : ∀ {x1 : Int32} {x2 : Int32} {σ : Mm} {r : Int32 × Mm}, rc4 x1 x2 σ = some r → Z m_X2_joinedInAll S (Qi r) 4 [(0, .ref (sL S 0 0 15)), (1, .int (x1)), (2, .int (x2))] [] σ) {x1 : Int32} {x2 : Int32} {σ : Mm} {r : Int32 × Mm} (h : F_X2_joinedInAll_22 rc4 x1 x2 σ = some r) : Z m_X2_joinedInAll S (Qi r) 22 [(0, .ref (sL S 0 0 15)), (1, .int (x1)), (2, .int (x2))] [] σ := by
  unfold F_X2_joinedInAll_22 at h
  refine z_iinc (j := 2) (v := x2 + 1) (lv' := [(0, .ref (sL S 0 0 15)), (1, .int (x1)), (2, .int (x2 + 1))]) dX2_joinedInAll_22 rfl rfl (by decide) [1, 2, 0] rfl ?_
  refine z_goto (tgt := 4) dX2_joinedInAll_25 (by decide) ?_
  exact hrc4 h
def F_X2_joinedInAll_16 (rc4 : Int32 → Int32 → Mm → Option (Int32 × Mm)) (x1 : Int32) (x2 : Int32) (s0 : Int32) (σ : Mm) : Option (Int32 × Mm) := (if s0 = 0 then (F_X2_joinedInAll_22 rc4 x1 x2 σ) else (F_X2_joinedInAll_22 rc4 (x1 + 1) x2 σ))
set_option maxRecDepth 20000 in
theorem zb_X2_joinedInAll_16 {S : Shp} {rc4 : Int32 → Int32 → Mm → Option (Int32 × Mm)} (hrc4 : ∀ {x1 : Int32} {x2 : Int32} {σ : Mm} {r : Int32 × Mm}, rc4 x1 x2 σ = some r → Z m_X2_joinedInAll S (Qi r) 4 [(0, .ref (sL S 0 0 15)), (1, .int (x1)), (2, .int (x2))] [] σ) {x1 : Int32} {x2 : Int32} {s0 : Int32} {σ : Mm} {r : Int32 × Mm} (h : F_X2_joinedInAll_16 rc4 x1 x2 s0 σ = some r) : Z m_X2_joinedInAll S (Qi r) 16 [(0, .ref (sL S 0 0 15)), (1, .int (x1)), (2, .int (x2))] [.int (s0)] σ := by
  unfold F_X2_joinedInAll_16 at h
  refine z_if_eq (tgt := 22) dX2_joinedInAll_16 (by decide) (fun q => ?_) (fun q => ?_)
  · have h := (if_pos q).symm.trans h
    exact zb_X2_joinedInAll_22 hrc4 h
  · have h := (if_neg q).symm.trans h
    refine z_iinc (j := 1) (v := x1 + 1) (lv' := [(0, .ref (sL S 0 0 15)), (1, .int (x1 + 1)), (2, .int (x2))]) dX2_joinedInAll_19 rfl rfl (by decide) [1, 0, 2] rfl ?_
    exact zb_X2_joinedInAll_22 hrc4 h
def B_X2_joinedInAll_4 (rc4 : Int32 → Int32 → Mm → Option (Int32 × Mm)) (x1 : Int32) (x2 : Int32) (σ : Mm) : Option (Int32 × Mm) := (if (196 : Int32) ≤ x2 then some (x1, σ) else (bnd (F_X2_joins x2 σ) (fun v τ => (F_X2_joinedInAll_16 rc4 x1 x2 v τ))))
set_option maxRecDepth 20000 in
theorem zB_X2_joinedInAll_4 {S : Shp} {rc4 : Int32 → Int32 → Mm → Option (Int32 × Mm)} (hrc4 : ∀ {x1 : Int32} {x2 : Int32} {σ : Mm} {r : Int32 × Mm}, rc4 x1 x2 σ = some r → Z m_X2_joinedInAll S (Qi r) 4 [(0, .ref (sL S 0 0 15)), (1, .int (x1)), (2, .int (x2))] [] σ) {x1 : Int32} {x2 : Int32} {σ : Mm} {r : Int32 × Mm} (h : B_X2_joinedInAll_4 rc4 x1 x2 σ = some r) : Z m_X2_joinedInAll S (Qi r) 4 [(0, .ref (sL S 0 0 15)), (1, .int (x1)), (2, .int (x2))] [] σ := by
  unfold B_X2_joinedInAll_4 at h
  refine z_iload_n dX2_joinedInAll_4 rfl 2 rfl ?_
  refine z_sipush (v := 196) dX2_joinedInAll_5 (by decide) ?_
  refine z_icmp_ge (tgt := 28) dX2_joinedInAll_8 (by decide) (fun q => ?_) (fun q => ?_)
  · have h := (if_pos q).symm.trans h
    refine z_iload_n dX2_joinedInAll_28 rfl 1 rfl ?_
    cases h
    exact z_ireturn dX2_joinedInAll_29 rfl rfl ⟨rfl, rfl⟩
  · have h := (if_neg q).symm.trans h
    refine z_aload_n dX2_joinedInAll_11 rfl 0 rfl ?_
    refine z_iload_n dX2_joinedInAll_12 rfl 2 rfl ?_
    obtain ⟨v, τ, hc, h⟩ := bnd_e h
    refine z_callV (M' := m_X2_joins) (t := 0) (i := 0) (k := 15) (As := [.int (x2)]) (rest := []) kl_2_84 oy_X2_joins ⟨Nat.le_of_ble_eq_true rfl, Nat.le_of_ble_eq_true rfl⟩ rfl rfl rfl rfl (Nat.le_of_ble_eq_true rfl) rfl dX2_joinedInAll_13 (c_X2_joins hc) (fun v2 τ2 hq => ?_)
    obtain ⟨rfl, hτ⟩ := hq
    subst τ2
    change Z _ _ _ _ _ [.int (v)] _
    exact zb_X2_joinedInAll_16 hrc4 h
def F_X2_joinedInAll_4 : Nat → Int32 → Int32 → Mm → Option (Int32 × Mm)
  | 0 => fun _ _ _ => none
  | n + 1 => B_X2_joinedInAll_4 (F_X2_joinedInAll_4 n)
theorem zl_X2_joinedInAll_4 {S : Shp} : ∀ (nn : Nat) {x1 : Int32} {x2 : Int32} {σ : Mm} {r : Int32 × Mm}, F_X2_joinedInAll_4 nn x1 x2 σ = some r → Z m_X2_joinedInAll S (Qi r) 4 [(0, .ref (sL S 0 0 15)), (1, .int (x1)), (2, .int (x2))] [] σ := by
  intro nn
  induction nn with
  | zero => intro x1 x2 σ r h; cases h
  | succ nn ih => intro x1 x2 σ r h; exact zB_X2_joinedInAll_4 @ih h
def F_X2_joinedInAll (σ : Mm) : Option (Int32 × Mm) := (F_X2_joinedInAll_4 FU 0 0 σ)
set_option maxRecDepth 20000 in
theorem zb_X2_joinedInAll {S : Shp} {σ : Mm} {r : Int32 × Mm} (h : F_X2_joinedInAll σ = some r) : Z m_X2_joinedInAll S (Qi r) 0 [(0, .ref (sL S 0 0 15))] [] σ := by
  unfold F_X2_joinedInAll at h
  refine z_iconst (v := 0) dX2_joinedInAll_0 (by decide) ?_
  refine z_istore_n (lv' := [(0, .ref (sL S 0 0 15)), (1, .int (0))]) dX2_joinedInAll_1 rfl (by decide) [1, 0] rfl ?_
  refine z_iconst (v := 0) dX2_joinedInAll_2 (by decide) ?_
  refine z_istore_n (lv' := [(0, .ref (sL S 0 0 15)), (1, .int (0)), (2, .int (0))]) dX2_joinedInAll_3 rfl (by decide) [1, 2, 0] rfl ?_
  exact zl_X2_joinedInAll_4 FU h
/-- SkyStones$Ground.joinedInAll()I -/
theorem c_X2_joinedInAll {S : Shp} {σ : Mm} {r : Int32 × Mm} (h : F_X2_joinedInAll σ = some r) : Ct m_X2_joinedInAll S [.ref (sL S 0 0 15)] σ (Qi r) := Ct.of (by decide +kernel) (Nat.le_of_ble_eq_true rfl) (zb_X2_joinedInAll h)
def F_X11_lines_50 (σ : Mm) : Option (Int32 × Mm) := some (mA σ 0 0 15 8, σ)
set_option maxRecDepth 20000 in
theorem zb_X11_lines_50 {S : Shp} {σ : Mm} {r : Int32 × Mm} (h : F_X11_lines_50 σ = some r) : Z m_X11_lines S (Qi r) 50 [(0, .ref (sL S 0 0 0))] [] σ := by
  unfold F_X11_lines_50 at h
  refine z_aload_n dX11_lines_50 rfl 0 rfl ?_
  refine gf_11_53 rfl dX11_lines_51 ?_
  refine gf_11_210 rfl dX11_lines_54 ?_
  cases h
  exact z_ireturn dX11_lines_57 rfl rfl ⟨rfl, rfl⟩
def F_X11_lines_37 (s0 : Int32) (σ : Mm) : Option (Int32 × Mm) := some (s0, σ)
set_option maxRecDepth 20000 in
theorem zb_X11_lines_37 {S : Shp} {s0 : Int32} {σ : Mm} {r : Int32 × Mm} (h : F_X11_lines_37 s0 σ = some r) : Z m_X11_lines S (Qi r) 37 [] [.int (s0)] σ := by
  unfold F_X11_lines_37 at h
  cases h
  exact z_ireturn dX11_lines_37 rfl rfl ⟨rfl, rfl⟩
def F_X11_lines_26 (x1 : Int32) (σ : Mm) : Option (Int32 × Mm) := (if x1 = 0 then (bnd (F_X2_joinedInAll  σ) (fun v τ => (F_X11_lines_37 v τ))) else (if okP σ = true then (bnv (F_X2_choose (mP σ 0) ((-1)) σ) (fun τ => (F_X11_lines_50 τ))) else none))
set_option maxRecDepth 20000 in
theorem zb_X11_lines_26 {S : Shp} {x1 : Int32} {σ : Mm} {r : Int32 × Mm} (h : F_X11_lines_26 x1 σ = some r) : Z m_X11_lines S (Qi r) 26 [(0, .ref (sL S 0 0 0)), (1, .int (x1))] [] σ := by
  unfold F_X11_lines_26 at h
  refine z_iload_n dX11_lines_26 rfl 1 rfl ?_
  refine z_if_ne (tgt := 38) dX11_lines_27 (by decide) (fun q => ?_) (fun q => ?_)
  · have h := (if_neg q).symm.trans h
    obtain ⟨g2, h⟩ := gd h
    refine z_aload_n dX11_lines_38 rfl 0 rfl ?_
    refine gf_11_53 rfl dX11_lines_39 ?_
    refine z_aload_n dX11_lines_42 rfl 0 rfl ?_
    have hp := g2
    refine gf_11_19 rfl dX11_lines_43 ?_
    refine z_iconst (v := (-1)) dX11_lines_46 (by decide) ?_
    obtain ⟨τ, hc, h⟩ := bnv_e h
    refine z_callV (M' := m_X2_choose) (t := 0) (i := 0) (k := 15) (As := [.ref (sL S 1 (mP σ 0) 0), .int ((-1))]) (rest := []) kl_11_207 oy_X2_choose ⟨Nat.le_of_ble_eq_true rfl, Nat.le_of_ble_eq_true rfl⟩ rfl rfl rfl rfl (Nat.le_of_ble_eq_true rfl) rfl dX11_lines_47 (c_X2_choose (okP_0 hp) hc) (fun v2 τ2 hq => ?_)
    obtain ⟨rfl, hτ⟩ := hq
    subst τ2
    change Z _ _ _ _ _ [] _
    refine Z.lv [0] rfl ?_
    exact zb_X11_lines_50 h
  · have h := (if_pos q).symm.trans h
    refine z_aload_n dX11_lines_30 rfl 0 rfl ?_
    refine gf_11_53 rfl dX11_lines_31 ?_
    obtain ⟨v, τ, hc, h⟩ := bnd_e h
    refine z_callV (M' := m_X2_joinedInAll) (t := 0) (i := 0) (k := 15) (As := []) (rest := []) kl_11_204 oy_X2_joinedInAll ⟨Nat.le_of_ble_eq_true rfl, Nat.le_of_ble_eq_true rfl⟩ rfl rfl rfl rfl (Nat.le_of_ble_eq_true rfl) rfl dX11_lines_34 (c_X2_joinedInAll hc) (fun v2 τ2 hq => ?_)
    obtain ⟨rfl, hτ⟩ := hq
    subst τ2
    change Z _ _ _ _ _ [.int (v)] _
    refine Z.lv [] rfl ?_
    exact zb_X11_lines_37 h
def F_X11_lines (x1 : Int32) (x2 : Int32) (σ : Mm) : Option (Int32 × Mm) := (if okP σ = true then (if (f_X11_isKnown x2 σ) = 0 then some ((-1), σ) else (bnv (F_X2_know (mP σ 0) 0 x2 σ) (fun τ => (F_X11_lines_26 x1 τ)))) else none)
set_option maxRecDepth 20000 in
theorem zb_X11_lines {S : Shp} {x1 : Int32} {x2 : Int32} {σ : Mm} {r : Int32 × Mm} (h : F_X11_lines x1 x2 σ = some r) : Z m_X11_lines S (Qi r) 0 [(0, .ref (sL S 0 0 0)), (1, .int (x1)), (2, .int (x2))] [] σ := by
  unfold F_X11_lines at h
  obtain ⟨g1, h⟩ := gd h
  refine z_aload_n dX11_lines_0 rfl 0 rfl ?_
  refine z_iload_n dX11_lines_1 rfl 2 rfl ?_
  have hp := g1
  refine z_callV (M' := m_X11_isKnown) (t := 0) (i := 0) (k := 0) (As := [.int (x2)]) (rest := []) kl_11_152 oy_X11_isKnown ⟨Nat.le_of_ble_eq_true rfl, Nat.le_of_ble_eq_true rfl⟩ rfl rfl rfl rfl (Nat.le_of_ble_eq_true rfl) rfl dX11_lines_2 (c_X11_isKnown hp rfl) (fun v τ hq => ?_)
  obtain ⟨rfl, hτ⟩ := hq
  subst τ
  change Z _ _ _ _ _ [.int (f_X11_isKnown x2 σ)] _
  refine z_if_ne (tgt := 10) dX11_lines_5 (by decide) (fun q => ?_) (fun q => ?_)
  · have h := (if_neg q).symm.trans h
    refine z_aload_n dX11_lines_10 rfl 0 rfl ?_
    refine gf_11_53 rfl dX11_lines_11 ?_
    refine z_aload_n dX11_lines_14 rfl 0 rfl ?_
    refine gf_11_19 rfl dX11_lines_15 ?_
    refine z_aload_n dX11_lines_18 rfl 0 rfl ?_
    refine gf_11_38 rfl dX11_lines_19 ?_
    refine z_iload_n dX11_lines_22 rfl 2 rfl ?_
    obtain ⟨τ, hc, h⟩ := bnv_e h
    refine z_callV (M' := m_X2_know) (t := 0) (i := 0) (k := 15) (As := [.ref (sL S 1 (mP σ 0) 0), .ref (sL S 2 0 0), .int (x2)]) (rest := []) kl_11_155 oy_X2_know ⟨Nat.le_of_ble_eq_true rfl, Nat.le_of_ble_eq_true rfl⟩ rfl rfl rfl rfl (Nat.le_of_ble_eq_true rfl) rfl dX11_lines_23 (c_X2_know (okP_0 hp) rfl hc) (fun v2 τ2 hq => ?_)
    obtain ⟨rfl, hτ⟩ := hq
    subst τ2
    change Z _ _ _ _ _ [] _
    refine Z.lv [0, 1] rfl ?_
    exact zb_X11_lines_26 h
  · have h := (if_pos q).symm.trans h
    refine z_iconst (v := (-1)) dX11_lines_8 (by decide) ?_
    cases h
    exact z_ireturn dX11_lines_9 rfl rfl ⟨rfl, rfl⟩
/-- SkyStones.lines(ZI)I -/
theorem c_X11_lines {S : Shp} {x1 : Int32} {x2 : Int32} {σ : Mm} {r : Int32 × Mm} (h : F_X11_lines x1 x2 σ = some r) : Ct m_X11_lines S [.ref (sL S 0 0 0), .int (x1), .int (x2)] σ (Qi r) := Ct.of (by decide +kernel) (Nat.le_of_ble_eq_true rfl) (zb_X11_lines h)
def f_X1_eastward (x0 : Int32) : Int32 := (if (45 : Int32) < x0 then (if (135 : Int32) < x0 then (if (225 : Int32) < x0 then (if (315 : Int32) < x0 then x0 - (360 : Int32) else (-45)) else (180 : Int32) - x0) else 45) else x0)
set_option maxRecDepth 20000 in
theorem zb_X1_eastward {S : Shp} {x0 : Int32} {σ : Mm} {r : Int32} (h : f_X1_eastward x0 = r) : Z m_X1_eastward S (Qi (r, σ)) 0 [(0, .int (x0))] [] σ := by
  unfold f_X1_eastward at h
  refine z_iload_n dX1_eastward_0 rfl 0 rfl ?_
  refine z_bipush (v := 45) dX1_eastward_1 (by decide) ?_
  refine z_icmp_gt (tgt := 8) dX1_eastward_3 (by decide) (fun q => ?_) (fun q => ?_)
  · have h := (if_pos q).symm.trans h
    refine z_iload_n dX1_eastward_8 rfl 0 rfl ?_
    refine z_sipush (v := 135) dX1_eastward_9 (by decide) ?_
    refine z_icmp_gt (tgt := 18) dX1_eastward_12 (by decide) (fun q => ?_) (fun q => ?_)
    · have h := (if_pos q).symm.trans h
      refine z_iload_n dX1_eastward_18 rfl 0 rfl ?_
      refine z_sipush (v := 225) dX1_eastward_19 (by decide) ?_
      refine z_icmp_gt (tgt := 31) dX1_eastward_22 (by decide) (fun q => ?_) (fun q => ?_)
      · have h := (if_pos q).symm.trans h
        refine z_iload_n dX1_eastward_31 rfl 0 rfl ?_
        refine z_sipush (v := 315) dX1_eastward_32 (by decide) ?_
        refine z_icmp_gt (tgt := 43) dX1_eastward_35 (by decide) (fun q => ?_) (fun q => ?_)
        · have h := (if_pos q).symm.trans h
          refine z_iload_n dX1_eastward_43 rfl 0 rfl ?_
          refine z_sipush (v := 360) dX1_eastward_44 (by decide) ?_
          refine z_isub dX1_eastward_47 ?_
          subst h
          exact z_ireturn dX1_eastward_48 rfl rfl ⟨rfl, rfl⟩
        · have h := (if_neg q).symm.trans h
          refine z_bipush (v := (-45)) dX1_eastward_38 (by decide) ?_
          refine z_goto (tgt := 48) dX1_eastward_40 (by decide) ?_
          subst h
          exact z_ireturn dX1_eastward_48 rfl rfl ⟨rfl, rfl⟩
      · have h := (if_neg q).symm.trans h
        refine z_sipush (v := 180) dX1_eastward_25 (by decide) ?_
        refine z_iload_n dX1_eastward_28 rfl 0 rfl ?_
        refine z_isub dX1_eastward_29 ?_
        subst h
        exact z_ireturn dX1_eastward_30 rfl rfl ⟨rfl, rfl⟩
    · have h := (if_neg q).symm.trans h
      refine z_bipush (v := 45) dX1_eastward_15 (by decide) ?_
      subst h
      exact z_ireturn dX1_eastward_17 rfl rfl ⟨rfl, rfl⟩
  · have h := (if_neg q).symm.trans h
    refine z_iload_n dX1_eastward_6 rfl 0 rfl ?_
    subst h
    exact z_ireturn dX1_eastward_7 rfl rfl ⟨rfl, rfl⟩
/-- SkyStones$Compass.eastward(I)I -/
theorem c_X1_eastward {S : Shp} {x0 : Int32} {σ : Mm} {r : Int32} (h : f_X1_eastward x0 = r) : Ct m_X1_eastward S [.int (x0)] σ (Qi (r, σ)) := Ct.of (by decide +kernel) (Nat.le_of_ble_eq_true rfl) (zb_X1_eastward h)
def f_X1_northward (x0 : Int32) : Int32 := (if (45 : Int32) < x0 then (if (135 : Int32) < x0 then (if (225 : Int32) < x0 then (if (315 : Int32) < x0 then 45 else x0 - (270 : Int32)) else (-45)) else (90 : Int32) - x0) else 45)
set_option maxRecDepth 20000 in
theorem zb_X1_northward {S : Shp} {x0 : Int32} {σ : Mm} {r : Int32} (h : f_X1_northward x0 = r) : Z m_X1_northward S (Qi (r, σ)) 0 [(0, .int (x0))] [] σ := by
  unfold f_X1_northward at h
  refine z_iload_n dX1_northward_0 rfl 0 rfl ?_
  refine z_bipush (v := 45) dX1_northward_1 (by decide) ?_
  refine z_icmp_gt (tgt := 9) dX1_northward_3 (by decide) (fun q => ?_) (fun q => ?_)
  · have h := (if_pos q).symm.trans h
    refine z_iload_n dX1_northward_9 rfl 0 rfl ?_
    refine z_sipush (v := 135) dX1_northward_10 (by decide) ?_
    refine z_icmp_gt (tgt := 21) dX1_northward_13 (by decide) (fun q => ?_) (fun q => ?_)
    · have h := (if_pos q).symm.trans h
      refine z_iload_n dX1_northward_21 rfl 0 rfl ?_
      refine z_sipush (v := 225) dX1_northward_22 (by decide) ?_
      refine z_icmp_gt (tgt := 31) dX1_northward_25 (by decide) (fun q => ?_) (fun q => ?_)
      · have h := (if_pos q).symm.trans h
        refine z_iload_n dX1_northward_31 rfl 0 rfl ?_
        refine z_sipush (v := 315) dX1_northward_32 (by decide) ?_
        refine z_icmp_gt (tgt := 46) dX1_northward_35 (by decide) (fun q => ?_) (fun q => ?_)
        · have h := (if_pos q).symm.trans h
          refine z_bipush (v := 45) dX1_northward_46 (by decide) ?_
          subst h
          exact z_ireturn dX1_northward_48 rfl rfl ⟨rfl, rfl⟩
        · have h := (if_neg q).symm.trans h
          refine z_iload_n dX1_northward_38 rfl 0 rfl ?_
          refine z_sipush (v := 270) dX1_northward_39 (by decide) ?_
          refine z_isub dX1_northward_42 ?_
          refine z_goto (tgt := 48) dX1_northward_43 (by decide) ?_
          subst h
          exact z_ireturn dX1_northward_48 rfl rfl ⟨rfl, rfl⟩
      · have h := (if_neg q).symm.trans h
        refine z_bipush (v := (-45)) dX1_northward_28 (by decide) ?_
        subst h
        exact z_ireturn dX1_northward_30 rfl rfl ⟨rfl, rfl⟩
    · have h := (if_neg q).symm.trans h
      refine z_bipush (v := 90) dX1_northward_16 (by decide) ?_
      refine z_iload_n dX1_northward_18 rfl 0 rfl ?_
      refine z_isub dX1_northward_19 ?_
      subst h
      exact z_ireturn dX1_northward_20 rfl rfl ⟨rfl, rfl⟩
  · have h := (if_neg q).symm.trans h
    refine z_bipush (v := 45) dX1_northward_6 (by decide) ?_
    subst h
    exact z_ireturn dX1_northward_8 rfl rfl ⟨rfl, rfl⟩
/-- SkyStones$Compass.northward(I)I -/
theorem c_X1_northward {S : Shp} {x0 : Int32} {σ : Mm} {r : Int32} (h : f_X1_northward x0 = r) : Ct m_X1_northward S [.int (x0)] σ (Qi (r, σ)) := Ct.of (by decide +kernel) (Nat.le_of_ble_eq_true rfl) (zb_X1_northward h)
def f_X3_stir_11 (x2 : Int32) : Int32 := x2 ^^^ ((x2.toUInt32 >>> ((15 : Int32).toUInt32 &&& Int32.toUInt32 31)).toInt32)
set_option maxRecDepth 20000 in
theorem zb_X3_stir_11 {S : Shp} {x2 : Int32} {σ : Mm} {r : Int32} (h : f_X3_stir_11 x2 = r) : Z m_X3_stir S (Qi (r, σ)) 11 [(2, .int (x2))] [] σ := by
  unfold f_X3_stir_11 at h
  refine z_iload_n dX3_stir_11 rfl 0 rfl ?_
  refine z_iload_n dX3_stir_12 rfl 0 rfl ?_
  refine z_bipush (v := 15) dX3_stir_13 (by decide) ?_
  refine z_iushr dX3_stir_15 ?_
  refine z_ixor dX3_stir_16 ?_
  subst h
  exact z_ireturn dX3_stir_17 rfl rfl ⟨rfl, rfl⟩
def f_X3_stir (x0 : Int32) (x1 : Int32) : Int32 := (f_X3_stir_11 (((x0 ^^^ x1) * (1103515245 : Int32)) + (12345 : Int32)))
set_option maxRecDepth 20000 in
theorem zb_X3_stir {S : Shp} {x0 : Int32} {x1 : Int32} {σ : Mm} {r : Int32} (h : f_X3_stir x0 x1 = r) : Z m_X3_stir S (Qi (r, σ)) 0 [(0, .int (x0)), (1, .int (x1))] [] σ := by
  unfold f_X3_stir at h
  refine z_iload_n dX3_stir_0 rfl 0 rfl ?_
  refine z_iload_n dX3_stir_1 rfl 1 rfl ?_
  refine z_ixor dX3_stir_2 ?_
  refine z_ldc qw_1049 dX3_stir_3 ?_
  refine z_imul dX3_stir_5 ?_
  refine z_sipush (v := 12345) dX3_stir_6 (by decide) ?_
  refine z_iadd dX3_stir_9 ?_
  refine z_istore_n (lv' := [(0, .int (x0)), (1, .int (x1)), (2, .int (((x0 ^^^ x1) * (1103515245 : Int32)) + (12345 : Int32)))]) dX3_stir_10 rfl (by decide) [1, 2, 0] rfl ?_
  refine Z.lv [2] rfl ?_
  exact zb_X3_stir_11 h
/-- SkyStones$Maker.stir(II)I -/
theorem c_X3_stir {S : Shp} {x0 : Int32} {x1 : Int32} {σ : Mm} {r : Int32} (h : f_X3_stir x0 x1 = r) : Ct m_X3_stir S [.int (x0), .int (x1)] σ (Qi (r, σ)) := Ct.of (by decide +kernel) (Nat.le_of_ble_eq_true rfl) (zb_X3_stir h)
def F_X3_lot (x0 : Int32) (x1 : Int32) (x2 : Int32) (σ : Mm) : Option (Int32 × Mm) := (if (1 : Int32) ≤ x0 then (if ¬ x0 = 0 then some ((((f_X3_stir (f_X3_stir x1 2) x2).toUInt32 >>> ((1 : Int32).toUInt32 &&& Int32.toUInt32 31)).toInt32) - (((f_X3_stir (f_X3_stir x1 2) x2).toUInt32 >>> ((1 : Int32).toUInt32 &&& Int32.toUInt32 31)).toInt32) / x0 * x0, σ) else none) else some (0, σ))
set_option maxRecDepth 20000 in
theorem zb_X3_lot {S : Shp} {x0 : Int32} {x1 : Int32} {x2 : Int32} {σ : Mm} {r : Int32 × Mm} (h : F_X3_lot x0 x1 x2 σ = some r) : Z m_X3_lot S (Qi r) 0 [(0, .int (x0)), (1, .int (x1)), (2, .int (x2))] [] σ := by
  unfold F_X3_lot at h
  refine z_iload_n dX3_lot_0 rfl 0 rfl ?_
  refine z_iconst (v := 1) dX3_lot_1 (by decide) ?_
  refine z_icmp_ge (tgt := 7) dX3_lot_2 (by decide) (fun q => ?_) (fun q => ?_)
  · have h := (if_pos q).symm.trans h
    obtain ⟨g1, h⟩ := gd h
    refine z_iload_n dX3_lot_7 rfl 1 rfl ?_
    refine z_iconst (v := 2) dX3_lot_8 (by decide) ?_
    refine z_callS (M' := m_X3_stir) (As := [.int (x1), .int (2)]) (rest := []) kl_3_40 oy_X3_stir ⟨Nat.le_of_ble_eq_true rfl, Nat.le_of_ble_eq_true rfl⟩ rfl (Nat.le_of_ble_eq_true rfl) rfl dX3_lot_9 (c_X3_stir rfl) (fun v τ hq => ?_)
    obtain ⟨rfl, hτ⟩ := hq
    subst τ
    change Z _ _ _ _ _ [.int (f_X3_stir x1 2)] _
    refine z_iload_n dX3_lot_12 rfl 2 rfl ?_
    refine z_callS (M' := m_X3_stir) (As := [.int (f_X3_stir x1 2), .int (x2)]) (rest := []) kl_3_40 oy_X3_stir ⟨Nat.le_of_ble_eq_true rfl, Nat.le_of_ble_eq_true rfl⟩ rfl (Nat.le_of_ble_eq_true rfl) rfl dX3_lot_13 (c_X3_stir rfl) (fun v τ hq => ?_)
    obtain ⟨rfl, hτ⟩ := hq
    subst τ
    change Z _ _ _ _ _ [.int (f_X3_stir (f_X3_stir x1 2) x2)] _
    refine z_iconst (v := 1) dX3_lot_16 (by decide) ?_
    refine z_iushr dX3_lot_17 ?_
    refine z_iload_n dX3_lot_18 rfl 0 rfl ?_
    refine z_irem dX3_lot_19 g1 ?_
    cases h
    exact z_ireturn dX3_lot_20 rfl rfl ⟨rfl, rfl⟩
  · have h := (if_neg q).symm.trans h
    refine z_iconst (v := 0) dX3_lot_5 (by decide) ?_
    cases h
    exact z_ireturn dX3_lot_6 rfl rfl ⟨rfl, rfl⟩
/-- SkyStones$Maker.lot(III)I -/
theorem c_X3_lot {S : Shp} {x0 : Int32} {x1 : Int32} {x2 : Int32} {σ : Mm} {r : Int32 × Mm} (h : F_X3_lot x0 x1 x2 σ = some r) : Ct m_X3_lot S [.int (x0), .int (x1), .int (x2)] σ (Qi r) := Ct.of (by decide +kernel) (Nat.le_of_ble_eq_true rfl) (zb_X3_lot h)
def F_X3_make_200 (rc3 : Int32 → Int32 → Int32 → Int32 → Mm → Option (Mm)) (x1 : Int32) (x2 : Int32) (x3 : Int32) (x5 : Int32) (σ : Mm) : Option (Mm) := (rc3 x1 x2 x3 (x5 + 1) σ)
set_option maxRecDepth 20000 in
theorem zb_X3_make_200 {S : Shp} {rc3 : Int32 → Int32 → Int32 → Int32 → Mm → Option (Mm)} (hrc3 : ∀ {x1 : Int32} {x2 : Int32} {x3 : Int32} {x5 : Int32} {σ : Mm} {r : Mm}, rc3 x1 x2 x3 x5 σ = some r → Z m_X3_make S (Qv r) 3 [(0, .ref (sL S 0 0 40)), (1, .int (x1)), (2, .int (x2)), (3, .int (x3)), (4, .ref (sL S 0 0 25)), (5, .int (x5))] [] σ) {x1 : Int32} {x2 : Int32} {x3 : Int32} {x5 : Int32} {σ : Mm} {r : Mm} (h : F_X3_make_200 rc3 x1 x2 x3 x5 σ = some r) : Z m_X3_make S (Qv r) 200 [(0, .ref (sL S 0 0 40)), (1, .int (x1)), (2, .int (x2)), (3, .int (x3)), (4, .ref (sL S 0 0 25)), (5, .int (x5))] [] σ := by
  unfold F_X3_make_200 at h
  refine z_iinc (j := 5) (v := x5 + 1) (lv' := [(0, .ref (sL S 0 0 40)), (1, .int (x1)), (2, .int (x2)), (3, .int (x3)), (4, .ref (sL S 0 0 25)), (5, .int (x5 + 1))]) dX3_make_200 rfl rfl (by decide) [1, 2, 3, 4, 5, 0] rfl ?_
  refine z_goto (tgt := 3) dX3_make_203 (by decide) ?_
  exact hrc3 h
def F_X3_make_171 (rc3 : Int32 → Int32 → Int32 → Int32 → Mm → Option (Mm)) (x1 : Int32) (x2 : Int32) (x3 : Int32) (x5 : Int32) (x6 : Int32) (x7 : Int32) (σ : Mm) : Option (Mm) := (if inb ((2 : Int32) * x5) 14 = true then (if inb (((2 : Int32) * x5) + (1 : Int32)) 14 = true then (F_X3_make_200 rc3 x1 x2 x3 x5 (setA σ 0 0 42 (upd (mA σ 0 0 42) (((2 : Int32) * x5) + (1 : Int32)).toNatClampNeg ((mA σ 0 0 42 ((2 : Int32) * x5).toNatClampNeg) + (x7 * (f_X1_northward x6)))))) else none) else none)
set_option maxRecDepth 20000 in
theorem zb_X3_make_171 {S : Shp} {rc3 : Int32 → Int32 → Int32 → Int32 → Mm → Option (Mm)} (hrc3 : ∀ {x1 : Int32} {x2 : Int32} {x3 : Int32} {x5 : Int32} {σ : Mm} {r : Mm}, rc3 x1 x2 x3 x5 σ = some r → Z m_X3_make S (Qv r) 3 [(0, .ref (sL S 0 0 40)), (1, .int (x1)), (2, .int (x2)), (3, .int (x3)), (4, .ref (sL S 0 0 25)), (5, .int (x5))] [] σ) {x1 : Int32} {x2 : Int32} {x3 : Int32} {x5 : Int32} {x6 : Int32} {x7 : Int32} {σ : Mm} {r : Mm} (h : F_X3_make_171 rc3 x1 x2 x3 x5 x6 x7 σ = some r) : Z m_X3_make S (Qv r) 171 [(0, .ref (sL S 0 0 40)), (1, .int (x1)), (2, .int (x2)), (3, .int (x3)), (4, .ref (sL S 0 0 25)), (5, .int (x5)), (6, .int (x6)), (7, .int (x7))] [] σ := by
  unfold F_X3_make_171 at h
  obtain ⟨g6, h⟩ := gd h
  refine z_aload_n dX3_make_171 rfl 0 rfl ?_
  refine gf_3_15 rfl dX3_make_172 ?_
  refine z_iconst (v := 2) dX3_make_175 (by decide) ?_
  refine z_iload dX3_make_176 5 rfl ?_
  refine z_imul dX3_make_178 ?_
  refine z_iconst (v := 1) dX3_make_179 (by decide) ?_
  refine z_iadd dX3_make_180 ?_
  refine z_aload_n dX3_make_181 rfl 0 rfl ?_
  refine gf_3_15 rfl dX3_make_182 ?_
  refine z_iconst (v := 2) dX3_make_185 (by decide) ?_
  refine z_iload dX3_make_186 5 rfl ?_
  refine z_imul dX3_make_188 ?_
  obtain ⟨g7, h⟩ := gd h
  refine ia_0_42 (inb_in g6) dX3_make_189 ?_
  refine z_iload dX3_make_190 7 rfl ?_
  refine z_iload dX3_make_192 6 rfl ?_
  refine z_callS (M' := m_X1_northward) (As := [.int (x6)]) (rest := [.int (x7), .int (mA σ 0 0 42 ((2 : Int32) * x5).toNatClampNeg), .int (((2 : Int32) * x5) + (1 : Int32)), .ref (sL S 0 0 42)]) kl_3_37 oy_X1_northward ⟨Nat.le_of_ble_eq_true rfl, Nat.le_of_ble_eq_true rfl⟩ rfl (Nat.le_of_ble_eq_true rfl) rfl dX3_make_194 (c_X1_northward rfl) (fun v τ hq => ?_)
  obtain ⟨rfl, hτ⟩ := hq
  subst τ
  change Z _ _ _ _ _ [.int (f_X1_northward x6), .int (x7), .int (mA σ 0 0 42 ((2 : Int32) * x5).toNatClampNeg), .int (((2 : Int32) * x5) + (1 : Int32)), .ref (sL S 0 0 42)] _
  refine z_imul dX3_make_197 ?_
  refine z_iadd dX3_make_198 ?_
  refine is_0_42 (inb_in g7) dX3_make_199 ?_
  refine Z.lv [0, 1, 2, 3, 4, 5] rfl ?_
  exact zb_X3_make_200 hrc3 h
def F_X3_make_142 (rc3 : Int32 → Int32 → Int32 → Int32 → Mm → Option (Mm)) (x1 : Int32) (x2 : Int32) (x3 : Int32) (x5 : Int32) (x6 : Int32) (x7 : Int32) (σ : Mm) : Option (Mm) := (if inb ((2 : Int32) * x5) 14 = true then (if inb (((2 : Int32) * x5) + (1 : Int32)) 14 = true then (F_X3_make_171 rc3 x1 x2 x3 x5 x6 x7 (setA σ 0 0 41 (upd (mA σ 0 0 41) (((2 : Int32) * x5) + (1 : Int32)).toNatClampNeg ((mA σ 0 0 41 ((2 : Int32) * x5).toNatClampNeg) + (x7 * (f_X1_eastward x6)))))) else none) else none)
set_option maxRecDepth 20000 in
theorem zb_X3_make_142 {S : Shp} {rc3 : Int32 → Int32 → Int32 → Int32 → Mm → Option (Mm)} (hrc3 : ∀ {x1 : Int32} {x2 : Int32} {x3 : Int32} {x5 : Int32} {σ : Mm} {r : Mm}, rc3 x1 x2 x3 x5 σ = some r → Z m_X3_make S (Qv r) 3 [(0, .ref (sL S 0 0 40)), (1, .int (x1)), (2, .int (x2)), (3, .int (x3)), (4, .ref (sL S 0 0 25)), (5, .int (x5))] [] σ) {x1 : Int32} {x2 : Int32} {x3 : Int32} {x5 : Int32} {x6 : Int32} {x7 : Int32} {σ : Mm} {r : Mm} (h : F_X3_make_142 rc3 x1 x2 x3 x5 x6 x7 σ = some r) : Z m_X3_make S (Qv r) 142 [(0, .ref (sL S 0 0 40)), (1, .int (x1)), (2, .int (x2)), (3, .int (x3)), (4, .ref (sL S 0 0 25)), (5, .int (x5)), (6, .int (x6)), (7, .int (x7))] [] σ := by
  unfold F_X3_make_142 at h
  obtain ⟨g4, h⟩ := gd h
  refine z_aload_n dX3_make_142 rfl 0 rfl ?_
  refine gf_3_9 rfl dX3_make_143 ?_
  refine z_iconst (v := 2) dX3_make_146 (by decide) ?_
  refine z_iload dX3_make_147 5 rfl ?_
  refine z_imul dX3_make_149 ?_
  refine z_iconst (v := 1) dX3_make_150 (by decide) ?_
  refine z_iadd dX3_make_151 ?_
  refine z_aload_n dX3_make_152 rfl 0 rfl ?_
  refine gf_3_9 rfl dX3_make_153 ?_
  refine z_iconst (v := 2) dX3_make_156 (by decide) ?_
  refine z_iload dX3_make_157 5 rfl ?_
  refine z_imul dX3_make_159 ?_
  obtain ⟨g5, h⟩ := gd h
  refine ia_0_41 (inb_in g4) dX3_make_160 ?_
  refine z_iload dX3_make_161 7 rfl ?_
  refine z_iload dX3_make_163 6 rfl ?_
  refine z_callS (M' := m_X1_eastward) (As := [.int (x6)]) (rest := [.int (x7), .int (mA σ 0 0 41 ((2 : Int32) * x5).toNatClampNeg), .int (((2 : Int32) * x5) + (1 : Int32)), .ref (sL S 0 0 41)]) kl_3_31 oy_X1_eastward ⟨Nat.le_of_ble_eq_true rfl, Nat.le_of_ble_eq_true rfl⟩ rfl (Nat.le_of_ble_eq_true rfl) rfl dX3_make_165 (c_X1_eastward rfl) (fun v τ hq => ?_)
  obtain ⟨rfl, hτ⟩ := hq
  subst τ
  change Z _ _ _ _ _ [.int (f_X1_eastward x6), .int (x7), .int (mA σ 0 0 41 ((2 : Int32) * x5).toNatClampNeg), .int (((2 : Int32) * x5) + (1 : Int32)), .ref (sL S 0 0 41)] _
  refine z_imul dX3_make_168 ?_
  refine z_iadd dX3_make_169 ?_
  refine is_0_41 (inb_in g5) dX3_make_170 ?_
  exact zb_X3_make_171 hrc3 h
def F_X3_make_140 (rc3 : Int32 → Int32 → Int32 → Int32 → Mm → Option (Mm)) (x1 : Int32) (x2 : Int32) (x3 : Int32) (x5 : Int32) (x6 : Int32) (x7 : Int32) (s0 : Int32) (s1 : Int32) (s2 : Int32) (σ : Mm) : Option (Mm) := (if inb s2 14 = true then (F_X3_make_142 rc3 x1 x2 x3 x5 x6 x7 (setA σ 0 0 42 (upd (mA σ 0 0 42) s2.toNatClampNeg (s1 + s0)))) else none)
set_option maxRecDepth 20000 in
theorem zb_X3_make_140 {S : Shp} {rc3 : Int32 → Int32 → Int32 → Int32 → Mm → Option (Mm)} (hrc3 : ∀ {x1 : Int32} {x2 : Int32} {x3 : Int32} {x5 : Int32} {σ : Mm} {r : Mm}, rc3 x1 x2 x3 x5 σ = some r → Z m_X3_make S (Qv r) 3 [(0, .ref (sL S 0 0 40)), (1, .int (x1)), (2, .int (x2)), (3, .int (x3)), (4, .ref (sL S 0 0 25)), (5, .int (x5))] [] σ) {x1 : Int32} {x2 : Int32} {x3 : Int32} {x5 : Int32} {x6 : Int32} {x7 : Int32} {s0 : Int32} {s1 : Int32} {s2 : Int32} {σ : Mm} {r : Mm} (h : F_X3_make_140 rc3 x1 x2 x3 x5 x6 x7 s0 s1 s2 σ = some r) : Z m_X3_make S (Qv r) 140 [(0, .ref (sL S 0 0 40)), (1, .int (x1)), (2, .int (x2)), (3, .int (x3)), (4, .ref (sL S 0 0 25)), (5, .int (x5)), (6, .int (x6)), (7, .int (x7))] [.int (s0), .int (s1), .int (s2), .ref (sL S 0 0 42)] σ := by
  unfold F_X3_make_140 at h
  obtain ⟨g3, h⟩ := gd h
  refine z_iadd dX3_make_140 ?_
  refine is_0_42 (inb_in g3) dX3_make_141 ?_
  exact zb_X3_make_142 hrc3 h
def F_X3_make_115 (rc3 : Int32 → Int32 → Int32 → Int32 → Mm → Option (Mm)) (x1 : Int32) (x2 : Int32) (x3 : Int32) (x5 : Int32) (x6 : Int32) (x7 : Int32) (σ : Mm) : Option (Mm) := (bnd (F_X3_lot 400 x1 (((8 : Int32) * x5) + (1 : Int32)) σ) (fun v τ => (F_X3_make_140 rc3 x1 x2 x3 x5 x6 x7 v 300 ((2 : Int32) * x5) τ)))
set_option maxRecDepth 20000 in
theorem zb_X3_make_115 {S : Shp} {rc3 : Int32 → Int32 → Int32 → Int32 → Mm → Option (Mm)} (hrc3 : ∀ {x1 : Int32} {x2 : Int32} {x3 : Int32} {x5 : Int32} {σ : Mm} {r : Mm}, rc3 x1 x2 x3 x5 σ = some r → Z m_X3_make S (Qv r) 3 [(0, .ref (sL S 0 0 40)), (1, .int (x1)), (2, .int (x2)), (3, .int (x3)), (4, .ref (sL S 0 0 25)), (5, .int (x5))] [] σ) {x1 : Int32} {x2 : Int32} {x3 : Int32} {x5 : Int32} {x6 : Int32} {x7 : Int32} {σ : Mm} {r : Mm} (h : F_X3_make_115 rc3 x1 x2 x3 x5 x6 x7 σ = some r) : Z m_X3_make S (Qv r) 115 [(0, .ref (sL S 0 0 40)), (1, .int (x1)), (2, .int (x2)), (3, .int (x3)), (4, .ref (sL S 0 0 25)), (5, .int (x5)), (6, .int (x6)), (7, .int (x7))] [] σ := by
  unfold F_X3_make_115 at h
  refine z_aload_n dX3_make_115 rfl 0 rfl ?_
  refine gf_3_15 rfl dX3_make_116 ?_
  refine z_iconst (v := 2) dX3_make_119 (by decide) ?_
  refine z_iload dX3_make_120 5 rfl ?_
  refine z_imul dX3_make_122 ?_
  refine z_sipush (v := 300) dX3_make_123 (by decide) ?_
  refine z_sipush (v := 400) dX3_make_126 (by decide) ?_
  refine z_iload_n dX3_make_129 rfl 1 rfl ?_
  refine z_bipush (v := 8) dX3_make_130 (by decide) ?_
  refine z_iload dX3_make_132 5 rfl ?_
  refine z_imul dX3_make_134 ?_
  refine z_iconst (v := 1) dX3_make_135 (by decide) ?_
  refine z_iadd dX3_make_136 ?_
  obtain ⟨v, τ, hc, h⟩ := bnd_e h
  refine z_callS (M' := m_X3_lot) (As := [.int (400), .int (x1), .int (((8 : Int32) * x5) + (1 : Int32))]) (rest := [.int (300), .int ((2 : Int32) * x5), .ref (sL S 0 0 42)]) kl_3_18 oy_X3_lot ⟨Nat.le_of_ble_eq_true rfl, Nat.le_of_ble_eq_true rfl⟩ rfl (Nat.le_of_ble_eq_true rfl) rfl dX3_make_137 (c_X3_lot hc) (fun v2 τ2 hq => ?_)
  obtain ⟨rfl, hτ⟩ := hq
  subst τ2
  change Z _ _ _ _ _ [.int (v), .int (300), .int ((2 : Int32) * x5), .ref (sL S 0 0 42)] _
  exact zb_X3_make_140 hrc3 h
def F_X3_make_113 (rc3 : Int32 → Int32 → Int32 → Int32 → Mm → Option (Mm)) (x1 : Int32) (x2 : Int32) (x3 : Int32) (x5 : Int32) (x6 : Int32) (x7 : Int32) (s0 : Int32) (s1 : Int32) (s2 : Int32) (σ : Mm) : Option (Mm) := (if inb s2 14 = true then (F_X3_make_115 rc3 x1 x2 x3 x5 x6 x7 (setA σ 0 0 41 (upd (mA σ 0 0 41) s2.toNatClampNeg (s1 + s0)))) else none)
set_option maxRecDepth 20000 in
theorem zb_X3_make_113 {S : Shp} {rc3 : Int32 → Int32 → Int32 → Int32 → Mm → Option (Mm)} (hrc3 : ∀ {x1 : Int32} {x2 : Int32} {x3 : Int32} {x5 : Int32} {σ : Mm} {r : Mm}, rc3 x1 x2 x3 x5 σ = some r → Z m_X3_make S (Qv r) 3 [(0, .ref (sL S 0 0 40)), (1, .int (x1)), (2, .int (x2)), (3, .int (x3)), (4, .ref (sL S 0 0 25)), (5, .int (x5))] [] σ) {x1 : Int32} {x2 : Int32} {x3 : Int32} {x5 : Int32} {x6 : Int32} {x7 : Int32} {s0 : Int32} {s1 : Int32} {s2 : Int32} {σ : Mm} {r : Mm} (h : F_X3_make_113 rc3 x1 x2 x3 x5 x6 x7 s0 s1 s2 σ = some r) : Z m_X3_make S (Qv r) 113 [(0, .ref (sL S 0 0 40)), (1, .int (x1)), (2, .int (x2)), (3, .int (x3)), (4, .ref (sL S 0 0 25)), (5, .int (x5)), (6, .int (x6)), (7, .int (x7))] [.int (s0), .int (s1), .int (s2), .ref (sL S 0 0 41)] σ := by
  unfold F_X3_make_113 at h
  obtain ⟨g2, h⟩ := gd h
  refine z_iadd dX3_make_113 ?_
  refine is_0_41 (inb_in g2) dX3_make_114 ?_
  exact zb_X3_make_115 hrc3 h
def F_X3_make_87 (rc3 : Int32 → Int32 → Int32 → Int32 → Mm → Option (Mm)) (x1 : Int32) (x2 : Int32) (x3 : Int32) (x5 : Int32) (x6 : Int32) (s0 : Int32) (s1 : Int32) (σ : Mm) : Option (Mm) := (bnd (F_X3_lot 400 x1 ((8 : Int32) * x5) σ) (fun v τ => (F_X3_make_113 rc3 x1 x2 x3 x5 x6 (s1 + s0) v 300 ((2 : Int32) * x5) τ)))
set_option maxRecDepth 20000 in
theorem zb_X3_make_87 {S : Shp} {rc3 : Int32 → Int32 → Int32 → Int32 → Mm → Option (Mm)} (hrc3 : ∀ {x1 : Int32} {x2 : Int32} {x3 : Int32} {x5 : Int32} {σ : Mm} {r : Mm}, rc3 x1 x2 x3 x5 σ = some r → Z m_X3_make S (Qv r) 3 [(0, .ref (sL S 0 0 40)), (1, .int (x1)), (2, .int (x2)), (3, .int (x3)), (4, .ref (sL S 0 0 25)), (5, .int (x5))] [] σ) {x1 : Int32} {x2 : Int32} {x3 : Int32} {x5 : Int32} {x6 : Int32} {s0 : Int32} {s1 : Int32} {σ : Mm} {r : Mm} (h : F_X3_make_87 rc3 x1 x2 x3 x5 x6 s0 s1 σ = some r) : Z m_X3_make S (Qv r) 87 [(0, .ref (sL S 0 0 40)), (1, .int (x1)), (2, .int (x2)), (3, .int (x3)), (4, .ref (sL S 0 0 25)), (5, .int (x5)), (6, .int (x6))] [.int (s0), .int (s1)] σ := by
  unfold F_X3_make_87 at h
  refine z_iadd dX3_make_87 ?_
  refine z_istore (lv' := [(0, .ref (sL S 0 0 40)), (1, .int (x1)), (2, .int (x2)), (3, .int (x3)), (4, .ref (sL S 0 0 25)), (5, .int (x5)), (6, .int (x6)), (7, .int (s1 + s0))]) dX3_make_88 (by decide) [1, 2, 3, 4, 5, 6, 7, 0] rfl ?_
  refine z_aload_n dX3_make_90 rfl 0 rfl ?_
  refine gf_3_9 rfl dX3_make_91 ?_
  refine z_iconst (v := 2) dX3_make_94 (by decide) ?_
  refine z_iload dX3_make_95 5 rfl ?_
  refine z_imul dX3_make_97 ?_
  refine z_sipush (v := 300) dX3_make_98 (by decide) ?_
  refine z_sipush (v := 400) dX3_make_101 (by decide) ?_
  refine z_iload_n dX3_make_104 rfl 1 rfl ?_
  refine z_bipush (v := 8) dX3_make_105 (by decide) ?_
  refine z_iload dX3_make_107 5 rfl ?_
  refine z_imul dX3_make_109 ?_
  obtain ⟨v, τ, hc, h⟩ := bnd_e h
  refine z_callS (M' := m_X3_lot) (As := [.int (400), .int (x1), .int ((8 : Int32) * x5)]) (rest := [.int (300), .int ((2 : Int32) * x5), .ref (sL S 0 0 41)]) kl_3_18 oy_X3_lot ⟨Nat.le_of_ble_eq_true rfl, Nat.le_of_ble_eq_true rfl⟩ rfl (Nat.le_of_ble_eq_true rfl) rfl dX3_make_110 (c_X3_lot hc) (fun v2 τ2 hq => ?_)
  obtain ⟨rfl, hτ⟩ := hq
  subst τ2
  change Z _ _ _ _ _ [.int (v), .int (300), .int ((2 : Int32) * x5), .ref (sL S 0 0 41)] _
  exact zb_X3_make_113 hrc3 h
def F_X3_make_74 (rc3 : Int32 → Int32 → Int32 → Int32 → Mm → Option (Mm)) (x1 : Int32) (x2 : Int32) (x3 : Int32) (x5 : Int32) (x6 : Int32) (σ : Mm) : Option (Mm) := (bnd (F_X3_lot 3 x1 (((8 : Int32) * x5) + (2 : Int32)) σ) (fun v τ => (F_X3_make_87 rc3 x1 x2 x3 x5 x6 v 1 τ)))
set_option maxRecDepth 20000 in
theorem zb_X3_make_74 {S : Shp} {rc3 : Int32 → Int32 → Int32 → Int32 → Mm → Option (Mm)} (hrc3 : ∀ {x1 : Int32} {x2 : Int32} {x3 : Int32} {x5 : Int32} {σ : Mm} {r : Mm}, rc3 x1 x2 x3 x5 σ = some r → Z m_X3_make S (Qv r) 3 [(0, .ref (sL S 0 0 40)), (1, .int (x1)), (2, .int (x2)), (3, .int (x3)), (4, .ref (sL S 0 0 25)), (5, .int (x5))] [] σ) {x1 : Int32} {x2 : Int32} {x3 : Int32} {x5 : Int32} {x6 : Int32} {σ : Mm} {r : Mm} (h : F_X3_make_74 rc3 x1 x2 x3 x5 x6 σ = some r) : Z m_X3_make S (Qv r) 74 [(0, .ref (sL S 0 0 40)), (1, .int (x1)), (2, .int (x2)), (3, .int (x3)), (4, .ref (sL S 0 0 25)), (5, .int (x5)), (6, .int (x6))] [] σ := by
  unfold F_X3_make_74 at h
  refine z_iconst (v := 1) dX3_make_74 (by decide) ?_
  refine z_iconst (v := 3) dX3_make_75 (by decide) ?_
  refine z_iload_n dX3_make_76 rfl 1 rfl ?_
  refine z_bipush (v := 8) dX3_make_77 (by decide) ?_
  refine z_iload dX3_make_79 5 rfl ?_
  refine z_imul dX3_make_81 ?_
  refine z_iconst (v := 2) dX3_make_82 (by decide) ?_
  refine z_iadd dX3_make_83 ?_
  obtain ⟨v, τ, hc, h⟩ := bnd_e h
  refine z_callS (M' := m_X3_lot) (As := [.int (3), .int (x1), .int (((8 : Int32) * x5) + (2 : Int32))]) (rest := [.int (1)]) kl_3_18 oy_X3_lot ⟨Nat.le_of_ble_eq_true rfl, Nat.le_of_ble_eq_true rfl⟩ rfl (Nat.le_of_ble_eq_true rfl) rfl dX3_make_84 (c_X3_lot hc) (fun v2 τ2 hq => ?_)
  obtain ⟨rfl, hτ⟩ := hq
  subst τ2
  change Z _ _ _ _ _ [.int (v), .int (1)] _
  exact zb_X3_make_87 hrc3 h
def F_X3_make_71 (rc3 : Int32 → Int32 → Int32 → Int32 → Mm → Option (Mm)) (x1 : Int32) (x2 : Int32) (x3 : Int32) (x5 : Int32) (s0 : Int32) (σ : Mm) : Option (Mm) := (if inb s0 5 = true then (F_X3_make_74 rc3 x1 x2 x3 x5 (mA σ 0 0 26 s0.toNatClampNeg) σ) else none)
set_option maxRecDepth 20000 in
theorem zb_X3_make_71 {S : Shp} {rc3 : Int32 → Int32 → Int32 → Int32 → Mm → Option (Mm)} (hrc3 : ∀ {x1 : Int32} {x2 : Int32} {x3 : Int32} {x5 : Int32} {σ : Mm} {r : Mm}, rc3 x1 x2 x3 x5 σ = some r → Z m_X3_make S (Qv r) 3 [(0, .ref (sL S 0 0 40)), (1, .int (x1)), (2, .int (x2)), (3, .int (x3)), (4, .ref (sL S 0 0 25)), (5, .int (x5))] [] σ) {x1 : Int32} {x2 : Int32} {x3 : Int32} {x5 : Int32} {s0 : Int32} {σ : Mm} {r : Mm} (h : F_X3_make_71 rc3 x1 x2 x3 x5 s0 σ = some r) : Z m_X3_make S (Qv r) 71 [(0, .ref (sL S 0 0 40)), (1, .int (x1)), (2, .int (x2)), (3, .int (x3)), (4, .ref (sL S 0 0 25)), (5, .int (x5))] [.int (s0), .ref (sL S 0 0 26)] σ := by
  unfold F_X3_make_71 at h
  obtain ⟨g1, h⟩ := gd h
  refine ia_0_26 (inb_in g1) dX3_make_71 ?_
  refine z_istore (lv' := [(0, .ref (sL S 0 0 40)), (1, .int (x1)), (2, .int (x2)), (3, .int (x3)), (4, .ref (sL S 0 0 25)), (5, .int (x5)), (6, .int (mA σ 0 0 26 s0.toNatClampNeg))]) dX3_make_72 (by decide) [1, 2, 3, 4, 5, 6, 0] rfl ?_
  exact zb_X3_make_74 hrc3 h
def F_X3_make_34 (rc3 : Int32 → Int32 → Int32 → Int32 → Mm → Option (Mm)) (x1 : Int32) (x2 : Int32) (x3 : Int32) (x5 : Int32) (s0 : Int32) (σ : Mm) : Option (Mm) := (if x3 ≤ x5 then (F_X3_make_74 rc3 x1 x2 x3 x5 s0 σ) else (if (mA σ 0 0 25 0) ≤ 0 then (F_X3_make_74 rc3 x1 x2 x3 x5 s0 σ) else (bnd (F_X3_lot (mA σ 0 0 25 0) x1 (((8 : Int32) * x5) + (4 : Int32)) σ) (fun v τ => (F_X3_make_71 rc3 x1 x2 x3 x5 v τ)))))
set_option maxRecDepth 20000 in
theorem zb_X3_make_34 {S : Shp} {rc3 : Int32 → Int32 → Int32 → Int32 → Mm → Option (Mm)} (hrc3 : ∀ {x1 : Int32} {x2 : Int32} {x3 : Int32} {x5 : Int32} {σ : Mm} {r : Mm}, rc3 x1 x2 x3 x5 σ = some r → Z m_X3_make S (Qv r) 3 [(0, .ref (sL S 0 0 40)), (1, .int (x1)), (2, .int (x2)), (3, .int (x3)), (4, .ref (sL S 0 0 25)), (5, .int (x5))] [] σ) {x1 : Int32} {x2 : Int32} {x3 : Int32} {x5 : Int32} {s0 : Int32} {σ : Mm} {r : Mm} (h : F_X3_make_34 rc3 x1 x2 x3 x5 s0 σ = some r) : Z m_X3_make S (Qv r) 34 [(0, .ref (sL S 0 0 40)), (1, .int (x1)), (2, .int (x2)), (3, .int (x3)), (4, .ref (sL S 0 0 25)), (5, .int (x5))] [.int (s0)] σ := by
  unfold F_X3_make_34 at h
  refine z_istore (lv' := [(0, .ref (sL S 0 0 40)), (1, .int (x1)), (2, .int (x2)), (3, .int (x3)), (4, .ref (sL S 0 0 25)), (5, .int (x5)), (6, .int (s0))]) dX3_make_34 (by decide) [1, 2, 3, 4, 5, 6, 0] rfl ?_
  refine z_iload dX3_make_36 5 rfl ?_
  refine z_iload_n dX3_make_38 rfl 3 rfl ?_
  refine z_icmp_ge (tgt := 74) dX3_make_39 (by decide) (fun q => ?_) (fun q => ?_)
  · have h := (if_pos q).symm.trans h
    exact zb_X3_make_74 hrc3 h
  · have h := (if_neg q).symm.trans h
    refine z_aload dX3_make_42 4 rfl ?_
    refine gf_3_22 rfl dX3_make_44 ?_
    refine z_if_le (tgt := 74) dX3_make_47 (by decide) (fun q => ?_) (fun q => ?_)
    · have h := (if_pos q).symm.trans h
      exact zb_X3_make_74 hrc3 h
    · have h := (if_neg q).symm.trans h
      refine z_aload dX3_make_50 4 rfl ?_
      refine gf_3_28 rfl dX3_make_52 ?_
      refine z_aload dX3_make_55 4 rfl ?_
      refine gf_3_22 rfl dX3_make_57 ?_
      refine z_iload_n dX3_make_60 rfl 1 rfl ?_
      refine z_bipush (v := 8) dX3_make_61 (by decide) ?_
      refine z_iload dX3_make_63 5 rfl ?_
      refine z_imul dX3_make_65 ?_
      refine z_iconst (v := 4) dX3_make_66 (by decide) ?_
      refine z_iadd dX3_make_67 ?_
      obtain ⟨v, τ, hc, h⟩ := bnd_e h
      refine z_callS (M' := m_X3_lot) (As := [.int (mA σ 0 0 25 0), .int (x1), .int (((8 : Int32) * x5) + (4 : Int32))]) (rest := [.ref (sL S 0 0 26)]) kl_3_18 oy_X3_lot ⟨Nat.le_of_ble_eq_true rfl, Nat.le_of_ble_eq_true rfl⟩ rfl (Nat.le_of_ble_eq_true rfl) rfl dX3_make_68 (c_X3_lot hc) (fun v2 τ2 hq => ?_)
      obtain ⟨rfl, hτ⟩ := hq
      subst τ2
      change Z _ _ _ _ _ [.int (v), .ref (sL S 0 0 26)] _
      refine Z.lv [0, 1, 2, 3, 4, 5] rfl ?_
      exact zb_X3_make_71 hrc3 h
def B_X3_make_3 (rc3 : Int32 → Int32 → Int32 → Int32 → Mm → Option (Mm)) (x1 : Int32) (x2 : Int32) (x3 : Int32) (x5 : Int32) (σ : Mm) : Option (Mm) := (if x2 ≤ x5 then some (σ) else (if (14 : Int32) ≤ (((2 : Int32) * x5) + (1 : Int32)) then some (σ) else (bnd (F_X3_lot 360 x1 (((8 : Int32) * x5) + (3 : Int32)) σ) (fun v τ => (F_X3_make_34 rc3 x1 x2 x3 x5 v τ)))))
set_option maxRecDepth 20000 in
theorem zB_X3_make_3 {S : Shp} {rc3 : Int32 → Int32 → Int32 → Int32 → Mm → Option (Mm)} (hrc3 : ∀ {x1 : Int32} {x2 : Int32} {x3 : Int32} {x5 : Int32} {σ : Mm} {r : Mm}, rc3 x1 x2 x3 x5 σ = some r → Z m_X3_make S (Qv r) 3 [(0, .ref (sL S 0 0 40)), (1, .int (x1)), (2, .int (x2)), (3, .int (x3)), (4, .ref (sL S 0 0 25)), (5, .int (x5))] [] σ) {x1 : Int32} {x2 : Int32} {x3 : Int32} {x5 : Int32} {σ : Mm} {r : Mm} (h : B_X3_make_3 rc3 x1 x2 x3 x5 σ = some r) : Z m_X3_make S (Qv r) 3 [(0, .ref (sL S 0 0 40)), (1, .int (x1)), (2, .int (x2)), (3, .int (x3)), (4, .ref (sL S 0 0 25)), (5, .int (x5))] [] σ := by
  unfold B_X3_make_3 at h
  refine z_iload dX3_make_3 5 rfl ?_
  refine z_iload_n dX3_make_5 rfl 2 rfl ?_
  refine z_icmp_ge (tgt := 206) dX3_make_6 (by decide) (fun q => ?_) (fun q => ?_)
  · have h := (if_pos q).symm.trans h
    cases h
    exact z_return dX3_make_206 rfl ⟨rfl, rfl⟩
  · have h := (if_neg q).symm.trans h
    refine z_iconst (v := 2) dX3_make_9 (by decide) ?_
    refine z_iload dX3_make_10 5 rfl ?_
    refine z_imul dX3_make_12 ?_
    refine z_iconst (v := 1) dX3_make_13 (by decide) ?_
    refine z_iadd dX3_make_14 ?_
    refine z_bipush (v := 14) dX3_make_15 (by decide) ?_
    refine z_icmp_ge (tgt := 206) dX3_make_17 (by decide) (fun q => ?_) (fun q => ?_)
    · have h := (if_pos q).symm.trans h
      cases h
      exact z_return dX3_make_206 rfl ⟨rfl, rfl⟩
    · have h := (if_neg q).symm.trans h
      refine z_sipush (v := 360) dX3_make_20 (by decide) ?_
      refine z_iload_n dX3_make_23 rfl 1 rfl ?_
      refine z_bipush (v := 8) dX3_make_24 (by decide) ?_
      refine z_iload dX3_make_26 5 rfl ?_
      refine z_imul dX3_make_28 ?_
      refine z_iconst (v := 3) dX3_make_29 (by decide) ?_
      refine z_iadd dX3_make_30 ?_
      obtain ⟨v, τ, hc, h⟩ := bnd_e h
      refine z_callS (M' := m_X3_lot) (As := [.int (360), .int (x1), .int (((8 : Int32) * x5) + (3 : Int32))]) (rest := []) kl_3_18 oy_X3_lot ⟨Nat.le_of_ble_eq_true rfl, Nat.le_of_ble_eq_true rfl⟩ rfl (Nat.le_of_ble_eq_true rfl) rfl dX3_make_31 (c_X3_lot hc) (fun v2 τ2 hq => ?_)
      obtain ⟨rfl, hτ⟩ := hq
      subst τ2
      change Z _ _ _ _ _ [.int (v)] _
      exact zb_X3_make_34 hrc3 h
def F_X3_make_3 : Nat → Int32 → Int32 → Int32 → Int32 → Mm → Option (Mm)
  | 0 => fun _ _ _ _ _ => none
  | n + 1 => B_X3_make_3 (F_X3_make_3 n)
theorem zl_X3_make_3 {S : Shp} : ∀ (nn : Nat) {x1 : Int32} {x2 : Int32} {x3 : Int32} {x5 : Int32} {σ : Mm} {r : Mm}, F_X3_make_3 nn x1 x2 x3 x5 σ = some r → Z m_X3_make S (Qv r) 3 [(0, .ref (sL S 0 0 40)), (1, .int (x1)), (2, .int (x2)), (3, .int (x3)), (4, .ref (sL S 0 0 25)), (5, .int (x5))] [] σ := by
  intro nn
  induction nn with
  | zero => intro x1 x2 x3 x5 σ r h; cases h
  | succ nn ih => intro x1 x2 x3 x5 σ r h; exact zB_X3_make_3 @ih h
def F_X3_make (x1 : Int32) (x2 : Int32) (x3 : Int32) (σ : Mm) : Option (Mm) := (F_X3_make_3 FU x1 x2 x3 0 σ)
set_option maxRecDepth 20000 in
theorem zb_X3_make {S : Shp} {x1 : Int32} {x2 : Int32} {x3 : Int32} {σ : Mm} {r : Mm} (h : F_X3_make x1 x2 x3 σ = some r) : Z m_X3_make S (Qv r) 0 [(0, .ref (sL S 0 0 40)), (1, .int (x1)), (2, .int (x2)), (3, .int (x3)), (4, .ref (sL S 0 0 25))] [] σ := by
  unfold F_X3_make at h
  refine z_iconst (v := 0) dX3_make_0 (by decide) ?_
  refine z_istore (lv' := [(0, .ref (sL S 0 0 40)), (1, .int (x1)), (2, .int (x2)), (3, .int (x3)), (4, .ref (sL S 0 0 25)), (5, .int (0))]) dX3_make_1 (by decide) [1, 2, 3, 4, 5, 0] rfl ?_
  exact zl_X3_make_3 FU h
/-- SkyStones$Maker.make(IIILSkyStones$Sky;)V -/
theorem c_X3_make {S : Shp} {x1 : Int32} {x2 : Int32} {x3 : Int32} {σ : Mm} {r : Mm} (h : F_X3_make x1 x2 x3 σ = some r) : Ct m_X3_make S [.ref (sL S 0 0 40), .int (x1), .int (x2), .int (x3), .ref (sL S 0 0 25)] σ (Qv r) := Ct.of (by decide +kernel) (Nat.le_of_ble_eq_true rfl) (zb_X3_make h)
def F_X3_strikes_95 (rc5 : Int32 → Int32 → Int32 → Mm → Option (Int32 × Mm)) (x1 : Int32) (x3 : Int32) (x4 : Int32) (σ : Mm) : Option (Int32 × Mm) := (rc5 x1 x3 (x4 + 1) σ)
set_option maxRecDepth 20000 in
theorem zb_X3_strikes_95 {S : Shp} {rc5 : Int32 → Int32 → Int32 → Mm → Option (Int32 × Mm)} (hrc5 : ∀ {x1 : Int32} {x3 : Int32} {x4 : Int32} {σ : Mm} {r : Int32 × Mm}, rc5 x1 x3 x4 σ = some r → Z m_X3_strikes S (Qi r) 5 [(0, .ref (sL S 0 0 40)), (1, .int (x1)), (2, .ref (sL S 0 0 31)), (3, .int (x3)), (4, .int (x4))] [] σ) {x1 : Int32} {x3 : Int32} {x4 : Int32} {σ : Mm} {r : Int32 × Mm} (h : F_X3_strikes_95 rc5 x1 x3 x4 σ = some r) : Z m_X3_strikes S (Qi r) 95 [(0, .ref (sL S 0 0 40)), (1, .int (x1)), (2, .ref (sL S 0 0 31)), (3, .int (x3)), (4, .int (x4))] [] σ := by
  unfold F_X3_strikes_95 at h
  refine z_iinc (j := 4) (v := x4 + 1) (lv' := [(0, .ref (sL S 0 0 40)), (1, .int (x1)), (2, .ref (sL S 0 0 31)), (3, .int (x3)), (4, .int (x4 + 1))]) dX3_strikes_95 rfl rfl (by decide) [1, 2, 3, 4, 0] rfl ?_
  refine z_goto (tgt := 5) dX3_strikes_98 (by decide) ?_
  exact hrc5 h
def F_X3_strikes_89 (rc5 : Int32 → Int32 → Int32 → Mm → Option (Int32 × Mm)) (rc23 : Int32 → Int32 → Int32 → Int32 → Mm → Option (Int32 × Mm)) (x1 : Int32) (x3 : Int32) (x4 : Int32) (x5 : Int32) (σ : Mm) : Option (Int32 × Mm) := (rc23 x1 x3 x4 (x5 + 1) σ)
set_option maxRecDepth 20000 in
theorem zb_X3_strikes_89 {S : Shp} {rc5 : Int32 → Int32 → Int32 → Mm → Option (Int32 × Mm)} (hrc5 : ∀ {x1 : Int32} {x3 : Int32} {x4 : Int32} {σ : Mm} {r : Int32 × Mm}, rc5 x1 x3 x4 σ = some r → Z m_X3_strikes S (Qi r) 5 [(0, .ref (sL S 0 0 40)), (1, .int (x1)), (2, .ref (sL S 0 0 31)), (3, .int (x3)), (4, .int (x4))] [] σ) {rc23 : Int32 → Int32 → Int32 → Int32 → Mm → Option (Int32 × Mm)} (hrc23 : ∀ {x1 : Int32} {x3 : Int32} {x4 : Int32} {x5 : Int32} {σ : Mm} {r : Int32 × Mm}, rc23 x1 x3 x4 x5 σ = some r → Z m_X3_strikes S (Qi r) 23 [(0, .ref (sL S 0 0 40)), (1, .int (x1)), (2, .ref (sL S 0 0 31)), (3, .int (x3)), (4, .int (x4)), (5, .int (x5))] [] σ) {x1 : Int32} {x3 : Int32} {x4 : Int32} {x5 : Int32} {σ : Mm} {r : Int32 × Mm} (h : F_X3_strikes_89 rc5 rc23 x1 x3 x4 x5 σ = some r) : Z m_X3_strikes S (Qi r) 89 [(0, .ref (sL S 0 0 40)), (1, .int (x1)), (2, .ref (sL S 0 0 31)), (3, .int (x3)), (4, .int (x4)), (5, .int (x5))] [] σ := by
  unfold F_X3_strikes_89 at h
  refine z_iinc (j := 5) (v := x5 + 1) (lv' := [(0, .ref (sL S 0 0 40)), (1, .int (x1)), (2, .ref (sL S 0 0 31)), (3, .int (x3)), (4, .int (x4)), (5, .int (x5 + 1))]) dX3_strikes_89 rfl rfl (by decide) [1, 2, 3, 4, 5, 0] rfl ?_
  refine z_goto (tgt := 23) dX3_strikes_92 (by decide) ?_
  exact hrc23 h
def F_X3_strikes_71 (rc5 : Int32 → Int32 → Int32 → Mm → Option (Int32 × Mm)) (rc23 : Int32 → Int32 → Int32 → Int32 → Mm → Option (Int32 × Mm)) (x1 : Int32) (x3 : Int32) (x4 : Int32) (x5 : Int32) (s0 : Int32) (σ : Mm) : Option (Int32 × Mm) := (if s0 = (-1 : Int32) then (F_X3_strikes_89 rc5 rc23 x1 x3 x4 x5 σ) else (if inb s0 360 = true then (if (mA σ 0 0 31 s0.toNatClampNeg) = 0 then (F_X3_strikes_89 rc5 rc23 x1 x3 x4 x5 σ) else (F_X3_strikes_89 rc5 rc23 x1 (x3 + 1) x4 x5 σ)) else none))
set_option maxRecDepth 20000 in
theorem zb_X3_strikes_71 {S : Shp} {rc5 : Int32 → Int32 → Int32 → Mm → Option (Int32 × Mm)} (hrc5 : ∀ {x1 : Int32} {x3 : Int32} {x4 : Int32} {σ : Mm} {r : Int32 × Mm}, rc5 x1 x3 x4 σ = some r → Z m_X3_strikes S (Qi r) 5 [(0, .ref (sL S 0 0 40)), (1, .int (x1)), (2, .ref (sL S 0 0 31)), (3, .int (x3)), (4, .int (x4))] [] σ) {rc23 : Int32 → Int32 → Int32 → Int32 → Mm → Option (Int32 × Mm)} (hrc23 : ∀ {x1 : Int32} {x3 : Int32} {x4 : Int32} {x5 : Int32} {σ : Mm} {r : Int32 × Mm}, rc23 x1 x3 x4 x5 σ = some r → Z m_X3_strikes S (Qi r) 23 [(0, .ref (sL S 0 0 40)), (1, .int (x1)), (2, .ref (sL S 0 0 31)), (3, .int (x3)), (4, .int (x4)), (5, .int (x5))] [] σ) {x1 : Int32} {x3 : Int32} {x4 : Int32} {x5 : Int32} {s0 : Int32} {σ : Mm} {r : Int32 × Mm} (h : F_X3_strikes_71 rc5 rc23 x1 x3 x4 x5 s0 σ = some r) : Z m_X3_strikes S (Qi r) 71 [(0, .ref (sL S 0 0 40)), (1, .int (x1)), (2, .ref (sL S 0 0 31)), (3, .int (x3)), (4, .int (x4)), (5, .int (x5))] [.int (s0)] σ := by
  unfold F_X3_strikes_71 at h
  refine z_istore (lv' := [(0, .ref (sL S 0 0 40)), (1, .int (x1)), (2, .ref (sL S 0 0 31)), (3, .int (x3)), (4, .int (x4)), (5, .int (x5)), (6, .int (s0))]) dX3_strikes_71 (by decide) [1, 2, 3, 4, 5, 6, 0] rfl ?_
  refine z_iload dX3_strikes_73 6 rfl ?_
  refine z_iconst (v := (-1)) dX3_strikes_75 (by decide) ?_
  refine z_icmp_eq (tgt := 89) dX3_strikes_76 (by decide) (fun q => ?_) (fun q => ?_)
  · have h := (if_pos q).symm.trans h
    refine Z.lv [0, 1, 2, 3, 4, 5] rfl ?_
    exact zb_X3_strikes_89 hrc5 hrc23 h
  · have h := (if_neg q).symm.trans h
    obtain ⟨g5, h⟩ := gd h
    refine z_aload_n dX3_strikes_79 rfl 2 rfl ?_
    refine z_iload dX3_strikes_80 6 rfl ?_
    refine ia_0_31 (inb_in g5) dX3_strikes_82 ?_
    refine z_if_eq (tgt := 89) dX3_strikes_83 (by decide) (fun q => ?_) (fun q => ?_)
    · have h := (if_pos q).symm.trans h
      refine Z.lv [0, 1, 2, 3, 4, 5] rfl ?_
      exact zb_X3_strikes_89 hrc5 hrc23 h
    · have h := (if_neg q).symm.trans h
      refine z_iinc (j := 3) (v := x3 + 1) (lv' := [(0, .ref (sL S 0 0 40)), (1, .int (x1)), (2, .ref (sL S 0 0 31)), (3, .int (x3 + 1)), (4, .int (x4)), (5, .int (x5)), (6, .int (s0))]) dX3_strikes_86 rfl rfl (by decide) [1, 2, 3, 0, 4, 5, 6] rfl ?_
      refine Z.lv [0, 1, 2, 3, 4, 5] rfl ?_
      exact zb_X3_strikes_89 hrc5 hrc23 h
def B_X3_strikes_23 (rc5 : Int32 → Int32 → Int32 → Mm → Option (Int32 × Mm)) (rc23 : Int32 → Int32 → Int32 → Int32 → Mm → Option (Int32 × Mm)) (x1 : Int32) (x3 : Int32) (x4 : Int32) (x5 : Int32) (σ : Mm) : Option (Int32 × Mm) := (if ((2 : Int32) * x1) ≤ x5 then (F_X3_strikes_95 rc5 x1 x3 x4 σ) else (if (14 : Int32) ≤ x5 then (F_X3_strikes_95 rc5 x1 x3 x4 σ) else (if inb x5 14 = true then (if inb x4 14 = true then (if inb x5 14 = true then (if inb x4 14 = true then (bnd (F_X1_bearing ((mA σ 0 0 41 x5.toNatClampNeg) - (mA σ 0 0 41 x4.toNatClampNeg)) ((mA σ 0 0 42 x5.toNatClampNeg) - (mA σ 0 0 42 x4.toNatClampNeg)) σ) (fun v τ => (F_X3_strikes_71 rc5 rc23 x1 x3 x4 x5 v τ))) else none) else none) else none) else none)))
set_option maxRecDepth 20000 in
theorem zB_X3_strikes_23 {S : Shp} {rc5 : Int32 → Int32 → Int32 → Mm → Option (Int32 × Mm)} (hrc5 : ∀ {x1 : Int32} {x3 : Int32} {x4 : Int32} {σ : Mm} {r : Int32 × Mm}, rc5 x1 x3 x4 σ = some r → Z m_X3_strikes S (Qi r) 5 [(0, .ref (sL S 0 0 40)), (1, .int (x1)), (2, .ref (sL S 0 0 31)), (3, .int (x3)), (4, .int (x4))] [] σ) {rc23 : Int32 → Int32 → Int32 → Int32 → Mm → Option (Int32 × Mm)} (hrc23 : ∀ {x1 : Int32} {x3 : Int32} {x4 : Int32} {x5 : Int32} {σ : Mm} {r : Int32 × Mm}, rc23 x1 x3 x4 x5 σ = some r → Z m_X3_strikes S (Qi r) 23 [(0, .ref (sL S 0 0 40)), (1, .int (x1)), (2, .ref (sL S 0 0 31)), (3, .int (x3)), (4, .int (x4)), (5, .int (x5))] [] σ) {x1 : Int32} {x3 : Int32} {x4 : Int32} {x5 : Int32} {σ : Mm} {r : Int32 × Mm} (h : B_X3_strikes_23 rc5 rc23 x1 x3 x4 x5 σ = some r) : Z m_X3_strikes S (Qi r) 23 [(0, .ref (sL S 0 0 40)), (1, .int (x1)), (2, .ref (sL S 0 0 31)), (3, .int (x3)), (4, .int (x4)), (5, .int (x5))] [] σ := by
  unfold B_X3_strikes_23 at h
  refine z_iload dX3_strikes_23 5 rfl ?_
  refine z_iconst (v := 2) dX3_strikes_25 (by decide) ?_
  refine z_iload_n dX3_strikes_26 rfl 1 rfl ?_
  refine z_imul dX3_strikes_27 ?_
  refine z_icmp_ge (tgt := 95) dX3_strikes_28 (by decide) (fun q => ?_) (fun q => ?_)
  · have h := (if_pos q).symm.trans h
    refine Z.lv [0, 1, 2, 3, 4] rfl ?_
    exact zb_X3_strikes_95 hrc5 h
  · have h := (if_neg q).symm.trans h
    refine z_iload dX3_strikes_31 5 rfl ?_
    refine z_bipush (v := 14) dX3_strikes_33 (by decide) ?_
    refine z_icmp_ge (tgt := 95) dX3_strikes_35 (by decide) (fun q => ?_) (fun q => ?_)
    · have h := (if_pos q).symm.trans h
      refine Z.lv [0, 1, 2, 3, 4] rfl ?_
      exact zb_X3_strikes_95 hrc5 h
    · have h := (if_neg q).symm.trans h
      obtain ⟨g1, h⟩ := gd h
      refine z_aload_n dX3_strikes_38 rfl 0 rfl ?_
      refine gf_3_9 rfl dX3_strikes_39 ?_
      refine z_iload dX3_strikes_42 5 rfl ?_
      obtain ⟨g2, h⟩ := gd h
      refine ia_0_41 (inb_in g1) dX3_strikes_44 ?_
      refine z_aload_n dX3_strikes_45 rfl 0 rfl ?_
      refine gf_3_9 rfl dX3_strikes_46 ?_
      refine z_iload dX3_strikes_49 4 rfl ?_
      obtain ⟨g3, h⟩ := gd h
      refine ia_0_41 (inb_in g2) dX3_strikes_51 ?_
      refine z_isub dX3_strikes_52 ?_
      refine z_aload_n dX3_strikes_53 rfl 0 rfl ?_
      refine gf_3_15 rfl dX3_strikes_54 ?_
      refine z_iload dX3_strikes_57 5 rfl ?_
      obtain ⟨g4, h⟩ := gd h
      refine ia_0_42 (inb_in g3) dX3_strikes_59 ?_
      refine z_aload_n dX3_strikes_60 rfl 0 rfl ?_
      refine gf_3_15 rfl dX3_strikes_61 ?_
      refine z_iload dX3_strikes_64 4 rfl ?_
      refine ia_0_42 (inb_in g4) dX3_strikes_66 ?_
      refine z_isub dX3_strikes_67 ?_
      obtain ⟨v, τ, hc, h⟩ := bnd_e h
      refine z_callS (M' := m_X1_bearing) (As := [.int ((mA σ 0 0 41 x5.toNatClampNeg) - (mA σ 0 0 41 x4.toNatClampNeg)), .int ((mA σ 0 0 42 x5.toNatClampNeg) - (mA σ 0 0 42 x4.toNatClampNeg))]) (rest := []) kl_3_45 oy_X1_bearing ⟨Nat.le_of_ble_eq_true rfl, Nat.le_of_ble_eq_true rfl⟩ rfl (Nat.le_of_ble_eq_true rfl) rfl dX3_strikes_68 (c_X1_bearing hc) (fun v2 τ2 hq => ?_)
      obtain ⟨rfl, hτ⟩ := hq
      subst τ2
      change Z _ _ _ _ _ [.int (v)] _
      exact zb_X3_strikes_71 hrc5 hrc23 h
def F_X3_strikes_23 (rc5 : Int32 → Int32 → Int32 → Mm → Option (Int32 × Mm)) : Nat → Int32 → Int32 → Int32 → Int32 → Mm → Option (Int32 × Mm)
  | 0 => fun _ _ _ _ _ => none
  | n + 1 => B_X3_strikes_23 rc5 (F_X3_strikes_23 rc5 n)
theorem zl_X3_strikes_23 {S : Shp} {rc5 : Int32 → Int32 → Int32 → Mm → Option (Int32 × Mm)} (hrc5 : ∀ {x1 : Int32} {x3 : Int32} {x4 : Int32} {σ : Mm} {r : Int32 × Mm}, rc5 x1 x3 x4 σ = some r → Z m_X3_strikes S (Qi r) 5 [(0, .ref (sL S 0 0 40)), (1, .int (x1)), (2, .ref (sL S 0 0 31)), (3, .int (x3)), (4, .int (x4))] [] σ) : ∀ (nn : Nat) {x1 : Int32} {x3 : Int32} {x4 : Int32} {x5 : Int32} {σ : Mm} {r : Int32 × Mm}, F_X3_strikes_23 rc5 nn x1 x3 x4 x5 σ = some r → Z m_X3_strikes S (Qi r) 23 [(0, .ref (sL S 0 0 40)), (1, .int (x1)), (2, .ref (sL S 0 0 31)), (3, .int (x3)), (4, .int (x4)), (5, .int (x5))] [] σ := by
  intro nn
  induction nn with
  | zero => intro x1 x3 x4 x5 σ r h; cases h
  | succ nn ih => intro x1 x3 x4 x5 σ r h; exact zB_X3_strikes_23 hrc5 @ih h
def B_X3_strikes_5 (rc5 : Int32 → Int32 → Int32 → Mm → Option (Int32 × Mm)) (x1 : Int32) (x3 : Int32) (x4 : Int32) (σ : Mm) : Option (Int32 × Mm) := (if ((2 : Int32) * x1) ≤ x4 then some (x3, σ) else (if (14 : Int32) ≤ x4 then some (x3, σ) else (F_X3_strikes_23 rc5 FU x1 x3 x4 0 σ)))
set_option maxRecDepth 20000 in
theorem zB_X3_strikes_5 {S : Shp} {rc5 : Int32 → Int32 → Int32 → Mm → Option (Int32 × Mm)} (hrc5 : ∀ {x1 : Int32} {x3 : Int32} {x4 : Int32} {σ : Mm} {r : Int32 × Mm}, rc5 x1 x3 x4 σ = some r → Z m_X3_strikes S (Qi r) 5 [(0, .ref (sL S 0 0 40)), (1, .int (x1)), (2, .ref (sL S 0 0 31)), (3, .int (x3)), (4, .int (x4))] [] σ) {x1 : Int32} {x3 : Int32} {x4 : Int32} {σ : Mm} {r : Int32 × Mm} (h : B_X3_strikes_5 rc5 x1 x3 x4 σ = some r) : Z m_X3_strikes S (Qi r) 5 [(0, .ref (sL S 0 0 40)), (1, .int (x1)), (2, .ref (sL S 0 0 31)), (3, .int (x3)), (4, .int (x4))] [] σ := by
  unfold B_X3_strikes_5 at h
  refine z_iload dX3_strikes_5 4 rfl ?_
  refine z_iconst (v := 2) dX3_strikes_7 (by decide) ?_
  refine z_iload_n dX3_strikes_8 rfl 1 rfl ?_
  refine z_imul dX3_strikes_9 ?_
  refine z_icmp_ge (tgt := 101) dX3_strikes_10 (by decide) (fun q => ?_) (fun q => ?_)
  · have h := (if_pos q).symm.trans h
    refine z_iload_n dX3_strikes_101 rfl 3 rfl ?_
    cases h
    exact z_ireturn dX3_strikes_102 rfl rfl ⟨rfl, rfl⟩
  · have h := (if_neg q).symm.trans h
    refine z_iload dX3_strikes_13 4 rfl ?_
    refine z_bipush (v := 14) dX3_strikes_15 (by decide) ?_
    refine z_icmp_ge (tgt := 101) dX3_strikes_17 (by decide) (fun q => ?_) (fun q => ?_)
    · have h := (if_pos q).symm.trans h
      refine z_iload_n dX3_strikes_101 rfl 3 rfl ?_
      cases h
      exact z_ireturn dX3_strikes_102 rfl rfl ⟨rfl, rfl⟩
    · have h := (if_neg q).symm.trans h
      refine z_iconst (v := 0) dX3_strikes_20 (by decide) ?_
      refine z_istore (lv' := [(0, .ref (sL S 0 0 40)), (1, .int (x1)), (2, .ref (sL S 0 0 31)), (3, .int (x3)), (4, .int (x4)), (5, .int (0))]) dX3_strikes_21 (by decide) [1, 2, 3, 4, 5, 0] rfl ?_
      exact zl_X3_strikes_23 hrc5 FU h
def F_X3_strikes_5 : Nat → Int32 → Int32 → Int32 → Mm → Option (Int32 × Mm)
  | 0 => fun _ _ _ _ => none
  | n + 1 => B_X3_strikes_5 (F_X3_strikes_5 n)
theorem zl_X3_strikes_5 {S : Shp} : ∀ (nn : Nat) {x1 : Int32} {x3 : Int32} {x4 : Int32} {σ : Mm} {r : Int32 × Mm}, F_X3_strikes_5 nn x1 x3 x4 σ = some r → Z m_X3_strikes S (Qi r) 5 [(0, .ref (sL S 0 0 40)), (1, .int (x1)), (2, .ref (sL S 0 0 31)), (3, .int (x3)), (4, .int (x4))] [] σ := by
  intro nn
  induction nn with
  | zero => intro x1 x3 x4 σ r h; cases h
  | succ nn ih => intro x1 x3 x4 σ r h; exact zB_X3_strikes_5 @ih h
def F_X3_strikes (x1 : Int32) (σ : Mm) : Option (Int32 × Mm) := (F_X3_strikes_5 FU x1 0 0 σ)
set_option maxRecDepth 20000 in
theorem zb_X3_strikes {S : Shp} {x1 : Int32} {σ : Mm} {r : Int32 × Mm} (h : F_X3_strikes x1 σ = some r) : Z m_X3_strikes S (Qi r) 0 [(0, .ref (sL S 0 0 40)), (1, .int (x1)), (2, .ref (sL S 0 0 31))] [] σ := by
  unfold F_X3_strikes at h
  refine z_iconst (v := 0) dX3_strikes_0 (by decide) ?_
  refine z_istore_n (lv' := [(0, .ref (sL S 0 0 40)), (1, .int (x1)), (2, .ref (sL S 0 0 31)), (3, .int (0))]) dX3_strikes_1 rfl (by decide) [1, 2, 3, 0] rfl ?_
  refine z_iconst (v := 0) dX3_strikes_2 (by decide) ?_
  refine z_istore (lv' := [(0, .ref (sL S 0 0 40)), (1, .int (x1)), (2, .ref (sL S 0 0 31)), (3, .int (0)), (4, .int (0))]) dX3_strikes_3 (by decide) [1, 2, 3, 4, 0] rfl ?_
  exact zl_X3_strikes_5 FU h
/-- SkyStones$Maker.strikes(I[I)I -/
theorem c_X3_strikes {S : Shp} {x1 : Int32} {σ : Mm} {r : Int32 × Mm} (h : F_X3_strikes x1 σ = some r) : Ct m_X3_strikes S [.ref (sL S 0 0 40), .int (x1), .ref (sL S 0 0 31)] σ (Qi r) := Ct.of (by decide +kernel) (Nat.le_of_ble_eq_true rfl) (zb_X3_strikes h)
def F_X11_made_69 (s0 : Int32) (σ : Mm) : Option (Int32 × Mm) := some (s0, σ)
set_option maxRecDepth 20000 in
theorem zb_X11_made_69 {S : Shp} {s0 : Int32} {σ : Mm} {r : Int32 × Mm} (h : F_X11_made_69 s0 σ = some r) : Z m_X11_made S (Qi r) 69 [] [.int (s0)] σ := by
  unfold F_X11_made_69 at h
  cases h
  exact z_ireturn dX11_made_69 rfl rfl ⟨rfl, rfl⟩
def F_X11_made_54 (x2 : Int32) (σ : Mm) : Option (Int32 × Mm) := (bnd (F_X3_strikes x2 σ) (fun v τ => (F_X11_made_69 v τ)))
set_option maxRecDepth 20000 in
theorem zb_X11_made_54 {S : Shp} {x2 : Int32} {σ : Mm} {r : Int32 × Mm} (h : F_X11_made_54 x2 σ = some r) : Z m_X11_made S (Qi r) 54 [(0, .ref (sL S 0 0 0)), (2, .int (x2))] [] σ := by
  unfold F_X11_made_54 at h
  refine z_aload_n dX11_made_54 rfl 0 rfl ?_
  refine gf_11_81 rfl dX11_made_55 ?_
  refine z_iload_n dX11_made_58 rfl 1 rfl ?_
  refine z_aload_n dX11_made_59 rfl 0 rfl ?_
  refine gf_11_67 rfl dX11_made_60 ?_
  refine gf_11_326 rfl dX11_made_63 ?_
  obtain ⟨v, τ, hc, h⟩ := bnd_e h
  refine z_callV (M' := m_X3_strikes) (t := 0) (i := 0) (k := 40) (As := [.int (x2), .ref (sL S 0 0 31)]) (rest := []) kl_11_328 oy_X3_strikes ⟨Nat.le_of_ble_eq_true rfl, Nat.le_of_ble_eq_true rfl⟩ rfl rfl rfl rfl (Nat.le_of_ble_eq_true rfl) rfl dX11_made_66 (c_X3_strikes hc) (fun v2 τ2 hq => ?_)
  obtain ⟨rfl, hτ⟩ := hq
  subst τ2
  change Z _ _ _ _ _ [.int (v)] _
  refine Z.lv [] rfl ?_
  exact zb_X11_made_69 h
def F_X11_made_40 (x1 : Int32) (x2 : Int32) (x3 : Int32) (σ : Mm) : Option (Int32 × Mm) := (bnv (F_X3_make x1 x2 x3 σ) (fun τ => (F_X11_made_54 x2 τ)))
set_option maxRecDepth 20000 in
theorem zb_X11_made_40 {S : Shp} {x1 : Int32} {x2 : Int32} {x3 : Int32} {σ : Mm} {r : Int32 × Mm} (h : F_X11_made_40 x1 x2 x3 σ = some r) : Z m_X11_made S (Qi r) 40 [(0, .ref (sL S 0 0 0)), (1, .int (x1)), (2, .int (x2)), (3, .int (x3))] [] σ := by
  unfold F_X11_made_40 at h
  refine z_aload_n dX11_made_40 rfl 0 rfl ?_
  refine gf_11_81 rfl dX11_made_41 ?_
  refine z_iload_n dX11_made_44 rfl 1 rfl ?_
  refine z_iload_n dX11_made_45 rfl 2 rfl ?_
  refine z_iload_n dX11_made_46 rfl 3 rfl ?_
  refine z_aload_n dX11_made_47 rfl 0 rfl ?_
  refine gf_11_60 rfl dX11_made_48 ?_
  obtain ⟨τ, hc, h⟩ := bnv_e h
  refine z_callV (M' := m_X3_make) (t := 0) (i := 0) (k := 40) (As := [.int (x1), .int (x2), .int (x3), .ref (sL S 0 0 25)]) (rest := []) kl_11_322 oy_X3_make ⟨Nat.le_of_ble_eq_true rfl, Nat.le_of_ble_eq_true rfl⟩ rfl rfl rfl rfl (Nat.le_of_ble_eq_true rfl) rfl dX11_made_51 (c_X3_make hc) (fun v2 τ2 hq => ?_)
  obtain ⟨rfl, hτ⟩ := hq
  subst τ2
  change Z _ _ _ _ _ [] _
  refine Z.lv [0, 2] rfl ?_
  exact zb_X11_made_54 h
def F_X11_made_22 (x1 : Int32) (x2 : Int32) (x3 : Int32) (σ : Mm) : Option (Int32 × Mm) := (if okP σ = true then (bnv (F_X10_cover (mA σ 1 (mP σ 0) 0 0) σ) (fun τ => (F_X11_made_40 x1 x2 x3 τ))) else none)
set_option maxRecDepth 20000 in
theorem zb_X11_made_22 {S : Shp} {x1 : Int32} {x2 : Int32} {x3 : Int32} {σ : Mm} {r : Int32 × Mm} (h : F_X11_made_22 x1 x2 x3 σ = some r) : Z m_X11_made S (Qi r) 22 [(0, .ref (sL S 0 0 0)), (1, .int (x1)), (2, .int (x2)), (3, .int (x3))] [] σ := by
  unfold F_X11_made_22 at h
  obtain ⟨g2, h⟩ := gd h
  refine z_aload_n dX11_made_22 rfl 0 rfl ?_
  refine gf_11_67 rfl dX11_made_23 ?_
  refine z_aload_n dX11_made_26 rfl 0 rfl ?_
  refine gf_11_60 rfl dX11_made_27 ?_
  refine z_aload_n dX11_made_30 rfl 0 rfl ?_
  have hp := g2
  refine gf_11_19 rfl dX11_made_31 ?_
  refine gf_11_232 (lv1 (okP_0 hp) rfl) rfl dX11_made_34 ?_
  obtain ⟨τ, hc, h⟩ := bnv_e h
  refine z_callV (M' := m_X10_cover) (t := 0) (i := 0) (k := 29) (As := [.ref (sL S 0 0 25), .int (mA σ 1 (mP σ 0) 0 0)]) (rest := []) kl_11_318 oy_X10_cover ⟨Nat.le_of_ble_eq_true rfl, Nat.le_of_ble_eq_true rfl⟩ rfl rfl rfl rfl (Nat.le_of_ble_eq_true rfl) rfl dX11_made_37 (c_X10_cover hc) (fun v2 τ2 hq => ?_)
  obtain ⟨rfl, hτ⟩ := hq
  subst τ2
  change Z _ _ _ _ _ [] _
  exact zb_X11_made_40 h
def F_X11_made (x1 : Int32) (x2 : Int32) (x3 : Int32) (σ : Mm) : Option (Int32 × Mm) := (if (f_X11_isMade x2 x3) = 0 then some ((-1), σ) else (if okP σ = true then (bnv (F_X6_watch (mP σ 0) 0 σ) (fun τ => (F_X11_made_22 x1 x2 x3 τ))) else none))
set_option maxRecDepth 20000 in
theorem zb_X11_made {S : Shp} {x1 : Int32} {x2 : Int32} {x3 : Int32} {σ : Mm} {r : Int32 × Mm} (h : F_X11_made x1 x2 x3 σ = some r) : Z m_X11_made S (Qi r) 0 [(0, .ref (sL S 0 0 0)), (1, .int (x1)), (2, .int (x2)), (3, .int (x3))] [] σ := by
  unfold F_X11_made at h
  refine z_iload_n dX11_made_0 rfl 2 rfl ?_
  refine z_iload_n dX11_made_1 rfl 3 rfl ?_
  refine z_callS (M' := m_X11_isMade) (As := [.int (x2), .int (x3)]) (rest := []) kl_11_315 oy_X11_isMade ⟨Nat.le_of_ble_eq_true rfl, Nat.le_of_ble_eq_true rfl⟩ rfl (Nat.le_of_ble_eq_true rfl) rfl dX11_made_2 (c_X11_isMade rfl) (fun v τ hq => ?_)
  obtain ⟨rfl, hτ⟩ := hq
  subst τ
  change Z _ _ _ _ _ [.int (f_X11_isMade x2 x3)] _
  refine z_if_ne (tgt := 10) dX11_made_5 (by decide) (fun q => ?_) (fun q => ?_)
  · have h := (if_neg q).symm.trans h
    obtain ⟨g1, h⟩ := gd h
    refine z_aload_n dX11_made_10 rfl 0 rfl ?_
    refine gf_11_60 rfl dX11_made_11 ?_
    refine z_aload_n dX11_made_14 rfl 0 rfl ?_
    have hp := g1
    refine gf_11_19 rfl dX11_made_15 ?_
    refine z_iconst (v := 0) dX11_made_18 (by decide) ?_
    obtain ⟨τ, hc, h⟩ := bnv_e h
    refine z_callV (M' := m_X6_watch) (t := 0) (i := 0) (k := 25) (As := [.ref (sL S 1 (mP σ 0) 0), .int (0)]) (rest := []) kl_11_226 oy_X6_watch ⟨Nat.le_of_ble_eq_true rfl, Nat.le_of_ble_eq_true rfl⟩ rfl rfl rfl rfl (Nat.le_of_ble_eq_true rfl) rfl dX11_made_19 (c_X6_watch (okP_0 hp) hc) (fun v2 τ2 hq => ?_)
    obtain ⟨rfl, hτ⟩ := hq
    subst τ2
    change Z _ _ _ _ _ [] _
    exact zb_X11_made_22 h
  · have h := (if_pos q).symm.trans h
    refine z_iconst (v := (-1)) dX11_made_8 (by decide) ?_
    cases h
    exact z_ireturn dX11_made_9 rfl rfl ⟨rfl, rfl⟩
/-- SkyStones.made(III)I -/
theorem c_X11_made {S : Shp} {x1 : Int32} {x2 : Int32} {x3 : Int32} {σ : Mm} {r : Int32 × Mm} (h : F_X11_made x1 x2 x3 σ = some r) : Ct m_X11_made S [.ref (sL S 0 0 0), .int (x1), .int (x2), .int (x3)] σ (Qi r) := Ct.of (by decide +kernel) (Nat.le_of_ble_eq_true rfl) (zb_X11_made h)
def F_X11_madeAt_62 (x4 : Int32) (x5 : Int32) (σ : Mm) : Option (Int32 × Mm) := (if x5 = 0 then (if inb x4 14 = true then some (mA σ 0 0 41 x4.toNatClampNeg, σ) else none) else (if inb x4 14 = true then some (mA σ 0 0 42 x4.toNatClampNeg, σ) else none))
set_option maxRecDepth 20000 in
theorem zb_X11_madeAt_62 {S : Shp} {x4 : Int32} {x5 : Int32} {σ : Mm} {r : Int32 × Mm} (h : F_X11_madeAt_62 x4 x5 σ = some r) : Z m_X11_madeAt S (Qi r) 62 [(0, .ref (sL S 0 0 0)), (4, .int (x4)), (5, .int (x5))] [] σ := by
  unfold F_X11_madeAt_62 at h
  refine z_iload dX11_madeAt_62 2 rfl ?_
  refine z_if_ne (tgt := 80) dX11_madeAt_64 (by decide) (fun q => ?_) (fun q => ?_)
  · have h := (if_neg q).symm.trans h
    obtain ⟨g2, h⟩ := gd h
    refine z_aload_n dX11_madeAt_80 rfl 0 rfl ?_
    refine gf_11_81 rfl dX11_madeAt_81 ?_
    refine gf_11_332 rfl dX11_madeAt_84 ?_
    refine z_iload dX11_madeAt_87 1 rfl ?_
    refine ia_0_42 (inb_in g2) dX11_madeAt_89 ?_
    cases h
    exact z_ireturn dX11_madeAt_90 rfl rfl ⟨rfl, rfl⟩
  · have h := (if_pos q).symm.trans h
    obtain ⟨g3, h⟩ := gd h
    refine z_aload_n dX11_madeAt_67 rfl 0 rfl ?_
    refine gf_11_81 rfl dX11_madeAt_68 ?_
    refine gf_11_331 rfl dX11_madeAt_71 ?_
    refine z_iload dX11_madeAt_74 1 rfl ?_
    refine ia_0_41 (inb_in g3) dX11_madeAt_76 ?_
    refine z_goto (tgt := 90) dX11_madeAt_77 (by decide) ?_
    cases h
    exact z_ireturn dX11_madeAt_90 rfl rfl ⟨rfl, rfl⟩
def F_X11_madeAt_48 (x1 : Int32) (x2 : Int32) (x3 : Int32) (x4 : Int32) (x5 : Int32) (σ : Mm) : Option (Int32 × Mm) := (bnv (F_X3_make x1 x2 x3 σ) (fun τ => (F_X11_madeAt_62 x4 x5 τ)))
set_option maxRecDepth 20000 in
theorem zb_X11_madeAt_48 {S : Shp} {x1 : Int32} {x2 : Int32} {x3 : Int32} {x4 : Int32} {x5 : Int32} {σ : Mm} {r : Int32 × Mm} (h : F_X11_madeAt_48 x1 x2 x3 x4 x5 σ = some r) : Z m_X11_madeAt S (Qi r) 48 [(0, .ref (sL S 0 0 0)), (1, .int (x1)), (2, .int (x2)), (3, .int (x3)), (4, .int (x4)), (5, .int (x5))] [] σ := by
  unfold F_X11_madeAt_48 at h
  refine z_aload_n dX11_madeAt_48 rfl 0 rfl ?_
  refine gf_11_81 rfl dX11_madeAt_49 ?_
  refine z_iload_n dX11_madeAt_52 rfl 1 rfl ?_
  refine z_iload_n dX11_madeAt_53 rfl 2 rfl ?_
  refine z_iload_n dX11_madeAt_54 rfl 3 rfl ?_
  refine z_aload_n dX11_madeAt_55 rfl 0 rfl ?_
  refine gf_11_60 rfl dX11_madeAt_56 ?_
  obtain ⟨τ, hc, h⟩ := bnv_e h
  refine z_callV (M' := m_X3_make) (t := 0) (i := 0) (k := 40) (As := [.int (x1), .int (x2), .int (x3), .ref (sL S 0 0 25)]) (rest := []) kl_11_322 oy_X3_make ⟨Nat.le_of_ble_eq_true rfl, Nat.le_of_ble_eq_true rfl⟩ rfl rfl rfl rfl (Nat.le_of_ble_eq_true rfl) rfl dX11_madeAt_59 (c_X3_make hc) (fun v2 τ2 hq => ?_)
  obtain ⟨rfl, hτ⟩ := hq
  subst τ2
  change Z _ _ _ _ _ [] _
  refine Z.lv [0, 4, 5] rfl ?_
  exact zb_X11_madeAt_62 h
def F_X11_madeAt (x1 : Int32) (x2 : Int32) (x3 : Int32) (x4 : Int32) (x5 : Int32) (σ : Mm) : Option (Int32 × Mm) := (if (f_X11_isMade x2 x3) = 0 then some ((-10000), σ) else (if x4 < 0 then some ((-10000), σ) else (if ((2 : Int32) * x2) ≤ x4 then some ((-10000), σ) else (if x5 < 0 then some ((-10000), σ) else (if x5 ≤ (1 : Int32) then (if okP σ = true then (bnv (F_X6_watch (mP σ 0) 0 σ) (fun τ => (F_X11_madeAt_48 x1 x2 x3 x4 x5 τ))) else none) else some ((-10000), σ))))))
set_option maxRecDepth 20000 in
theorem zb_X11_madeAt {S : Shp} {x1 : Int32} {x2 : Int32} {x3 : Int32} {x4 : Int32} {x5 : Int32} {σ : Mm} {r : Int32 × Mm} (h : F_X11_madeAt x1 x2 x3 x4 x5 σ = some r) : Z m_X11_madeAt S (Qi r) 0 [(0, .ref (sL S 0 0 0)), (1, .int (x1)), (2, .int (x2)), (3, .int (x3)), (4, .int (x4)), (5, .int (x5))] [] σ := by
  unfold F_X11_madeAt at h
  refine z_iload_n dX11_madeAt_0 rfl 2 rfl ?_
  refine z_iload_n dX11_madeAt_1 rfl 3 rfl ?_
  refine z_callS (M' := m_X11_isMade) (As := [.int (x2), .int (x3)]) (rest := []) kl_11_315 oy_X11_isMade ⟨Nat.le_of_ble_eq_true rfl, Nat.le_of_ble_eq_true rfl⟩ rfl (Nat.le_of_ble_eq_true rfl) rfl dX11_madeAt_2 (c_X11_isMade rfl) (fun v τ hq => ?_)
  obtain ⟨rfl, hτ⟩ := hq
  subst τ
  change Z _ _ _ _ _ [.int (f_X11_isMade x2 x3)] _
  refine z_if_eq (tgt := 32) dX11_madeAt_5 (by decide) (fun q => ?_) (fun q => ?_)
  · have h := (if_pos q).symm.trans h
    refine z_sipush (v := (-10000)) dX11_madeAt_32 (by decide) ?_
    cases h
    exact z_ireturn dX11_madeAt_35 rfl rfl ⟨rfl, rfl⟩
  · have h := (if_neg q).symm.trans h
    refine z_iload dX11_madeAt_8 4 rfl ?_
    refine z_if_lt (tgt := 32) dX11_madeAt_10 (by decide) (fun q => ?_) (fun q => ?_)
    · have h := (if_pos q).symm.trans h
      refine z_sipush (v := (-10000)) dX11_madeAt_32 (by decide) ?_
      cases h
      exact z_ireturn dX11_madeAt_35 rfl rfl ⟨rfl, rfl⟩
    · have h := (if_neg q).symm.trans h
      refine z_iload dX11_madeAt_13 4 rfl ?_
      refine z_iconst (v := 2) dX11_madeAt_15 (by decide) ?_
      refine z_iload_n dX11_madeAt_16 rfl 2 rfl ?_
      refine z_imul dX11_madeAt_17 ?_
      refine z_icmp_ge (tgt := 32) dX11_madeAt_18 (by decide) (fun q => ?_) (fun q => ?_)
      · have h := (if_pos q).symm.trans h
        refine z_sipush (v := (-10000)) dX11_madeAt_32 (by decide) ?_
        cases h
        exact z_ireturn dX11_madeAt_35 rfl rfl ⟨rfl, rfl⟩
      · have h := (if_neg q).symm.trans h
        refine z_iload dX11_madeAt_21 5 rfl ?_
        refine z_if_lt (tgt := 32) dX11_madeAt_23 (by decide) (fun q => ?_) (fun q => ?_)
        · have h := (if_pos q).symm.trans h
          refine z_sipush (v := (-10000)) dX11_madeAt_32 (by decide) ?_
          cases h
          exact z_ireturn dX11_madeAt_35 rfl rfl ⟨rfl, rfl⟩
        · have h := (if_neg q).symm.trans h
          refine z_iload dX11_madeAt_26 5 rfl ?_
          refine z_iconst (v := 1) dX11_madeAt_28 (by decide) ?_
          refine z_icmp_le (tgt := 36) dX11_madeAt_29 (by decide) (fun q => ?_) (fun q => ?_)
          · have h := (if_pos q).symm.trans h
            obtain ⟨g1, h⟩ := gd h
            refine z_aload_n dX11_madeAt_36 rfl 0 rfl ?_
            refine gf_11_60 rfl dX11_madeAt_37 ?_
            refine z_aload_n dX11_madeAt_40 rfl 0 rfl ?_
            have hp := g1
            refine gf_11_19 rfl dX11_madeAt_41 ?_
            refine z_iconst (v := 0) dX11_madeAt_44 (by decide) ?_
            obtain ⟨τ, hc, h⟩ := bnv_e h
            refine z_callV (M' := m_X6_watch) (t := 0) (i := 0) (k := 25) (As := [.ref (sL S 1 (mP σ 0) 0), .int (0)]) (rest := []) kl_11_226 oy_X6_watch ⟨Nat.le_of_ble_eq_true rfl, Nat.le_of_ble_eq_true rfl⟩ rfl rfl rfl rfl (Nat.le_of_ble_eq_true rfl) rfl dX11_madeAt_45 (c_X6_watch (okP_0 hp) hc) (fun v2 τ2 hq => ?_)
            obtain ⟨rfl, hτ⟩ := hq
            subst τ2
            change Z _ _ _ _ _ [] _
            exact zb_X11_madeAt_48 h
          · have h := (if_neg q).symm.trans h
            refine z_sipush (v := (-10000)) dX11_madeAt_32 (by decide) ?_
            cases h
            exact z_ireturn dX11_madeAt_35 rfl rfl ⟨rfl, rfl⟩
/-- SkyStones.madeAt(IIIII)I -/
theorem c_X11_madeAt {S : Shp} {x1 : Int32} {x2 : Int32} {x3 : Int32} {x4 : Int32} {x5 : Int32} {σ : Mm} {r : Int32 × Mm} (h : F_X11_madeAt x1 x2 x3 x4 x5 σ = some r) : Ct m_X11_madeAt S [.ref (sL S 0 0 0), .int (x1), .int (x2), .int (x3), .int (x4), .int (x5)] σ (Qi r) := Ct.of (by decide +kernel) (Nat.le_of_ble_eq_true rfl) (zb_X11_madeAt h)
def F_X11_many_27 (s0 : Int32) (σ : Mm) : Option (Int32 × Mm) := some (s0, σ)
set_option maxRecDepth 20000 in
theorem zb_X11_many_27 {S : Shp} {s0 : Int32} {σ : Mm} {r : Int32 × Mm} (h : F_X11_many_27 s0 σ = some r) : Z m_X11_many S (Qi r) 27 [] [.int (s0)] σ := by
  unfold F_X11_many_27 at h
  cases h
  exact z_ireturn dX11_many_27 rfl rfl ⟨rfl, rfl⟩
def F_X11_many_20 (σ : Mm) : Option (Int32 × Mm) := (bnd (F_X10_asManyAsUnturned  σ) (fun v τ => (F_X11_many_27 v τ)))
set_option maxRecDepth 20000 in
theorem zb_X11_many_20 {S : Shp} {σ : Mm} {r : Int32 × Mm} (h : F_X11_many_20 σ = some r) : Z m_X11_many S (Qi r) 20 [(0, .ref (sL S 0 0 0))] [] σ := by
  unfold F_X11_many_20 at h
  refine z_aload_n dX11_many_20 rfl 0 rfl ?_
  refine gf_11_67 rfl dX11_many_21 ?_
  obtain ⟨v, τ, hc, h⟩ := bnd_e h
  refine z_callV (M' := m_X10_asManyAsUnturned) (t := 0) (i := 0) (k := 29) (As := []) (rest := []) kl_11_264 oy_X10_asManyAsUnturned ⟨Nat.le_of_ble_eq_true rfl, Nat.le_of_ble_eq_true rfl⟩ rfl rfl rfl rfl (Nat.le_of_ble_eq_true rfl) rfl dX11_many_24 (c_X10_asManyAsUnturned hc) (fun v2 τ2 hq => ?_)
  obtain ⟨rfl, hτ⟩ := hq
  subst τ2
  change Z _ _ _ _ _ [.int (v)] _
  refine Z.lv [] rfl ?_
  exact zb_X11_many_27 h
def F_X11_many (x1 : Int32) (x2 : Int32) (x3 : Int32) (σ : Mm) : Option (Int32 × Mm) := (if okP σ = true then (if (f_X11_isAsked x1 x2 x3 σ) = 0 then some ((-1), σ) else (bnv (F_X11_turnAll x1 x2 x3 ((-1)) σ) (fun τ => (F_X11_many_20 τ)))) else none)
set_option maxRecDepth 20000 in
theorem zb_X11_many {S : Shp} {x1 : Int32} {x2 : Int32} {x3 : Int32} {σ : Mm} {r : Int32 × Mm} (h : F_X11_many x1 x2 x3 σ = some r) : Z m_X11_many S (Qi r) 0 [(0, .ref (sL S 0 0 0)), (1, .int (x1)), (2, .int (x2)), (3, .int (x3))] [] σ := by
  unfold F_X11_many at h
  obtain ⟨g1, h⟩ := gd h
  refine z_aload_n dX11_many_0 rfl 0 rfl ?_
  refine z_iload_n dX11_many_1 rfl 1 rfl ?_
  refine z_iload_n dX11_many_2 rfl 2 rfl ?_
  refine z_iload_n dX11_many_3 rfl 3 rfl ?_
  have hp := g1
  refine z_callV (M' := m_X11_isAsked) (t := 0) (i := 0) (k := 0) (As := [.int (x1), .int (x2), .int (x3)]) (rest := []) kl_11_239 oy_X11_isAsked ⟨Nat.le_of_ble_eq_true rfl, Nat.le_of_ble_eq_true rfl⟩ rfl rfl rfl rfl (Nat.le_of_ble_eq_true rfl) rfl dX11_many_4 (c_X11_isAsked hp rfl) (fun v τ hq => ?_)
  obtain ⟨rfl, hτ⟩ := hq
  subst τ
  change Z _ _ _ _ _ [.int (f_X11_isAsked x1 x2 x3 σ)] _
  refine z_if_ne (tgt := 12) dX11_many_7 (by decide) (fun q => ?_) (fun q => ?_)
  · have h := (if_neg q).symm.trans h
    refine z_aload_n dX11_many_12 rfl 0 rfl ?_
    refine z_iload_n dX11_many_13 rfl 1 rfl ?_
    refine z_iload_n dX11_many_14 rfl 2 rfl ?_
    refine z_iload_n dX11_many_15 rfl 3 rfl ?_
    refine z_iconst (v := (-1)) dX11_many_16 (by decide) ?_
    obtain ⟨τ, hc, h⟩ := bnv_e h
    refine z_callV (M' := m_X11_turnAll) (t := 0) (i := 0) (k := 0) (As := [.int (x1), .int (x2), .int (x3), .int ((-1))]) (rest := []) kl_11_260 oy_X11_turnAll ⟨Nat.le_of_ble_eq_true rfl, Nat.le_of_ble_eq_true rfl⟩ rfl rfl rfl rfl (Nat.le_of_ble_eq_true rfl) rfl dX11_many_17 (c_X11_turnAll hc) (fun v2 τ2 hq => ?_)
    obtain ⟨rfl, hτ⟩ := hq
    subst τ2
    change Z _ _ _ _ _ [] _
    refine Z.lv [0] rfl ?_
    exact zb_X11_many_20 h
  · have h := (if_pos q).symm.trans h
    refine z_iconst (v := (-1)) dX11_many_10 (by decide) ?_
    cases h
    exact z_ireturn dX11_many_11 rfl rfl ⟨rfl, rfl⟩
/-- SkyStones.many(III)I -/
theorem c_X11_many {S : Shp} {x1 : Int32} {x2 : Int32} {x3 : Int32} {σ : Mm} {r : Int32 × Mm} (h : F_X11_many x1 x2 x3 σ = some r) : Ct m_X11_many S [.ref (sL S 0 0 0), .int (x1), .int (x2), .int (x3)] σ (Qi r) := Ct.of (by decide +kernel) (Nat.le_of_ble_eq_true rfl) (zb_X11_many h)
def F_X11_move_30 (s0 : Int32) (σ : Mm) : Option (Int32 × Mm) := some (s0, σ)
set_option maxRecDepth 20000 in
theorem zb_X11_move_30 {S : Shp} {s0 : Int32} {σ : Mm} {r : Int32 × Mm} (h : F_X11_move_30 s0 σ = some r) : Z m_X11_move S (Qi r) 30 [] [.int (s0)] σ := by
  unfold F_X11_move_30 at h
  cases h
  exact z_ireturn dX11_move_30 rfl rfl ⟨rfl, rfl⟩
def F_X11_move (x1 : Int32) (x2 : Int32) (x3 : Int32) (σ : Mm) : Option (Int32 × Mm) := (if okP σ = true then (if (f_X11_isThing x1 σ) = 0 then some ((-1), σ) else (if (f_X11_isSpot x2 x3) = 0 then some ((-1), σ) else (bnd (F_X7_note 0 1 x1 x2 x3 0 σ) (fun v τ => (F_X11_move_30 v τ))))) else none)
set_option maxRecDepth 20000 in
theorem zb_X11_move {S : Shp} {x1 : Int32} {x2 : Int32} {x3 : Int32} {σ : Mm} {r : Int32 × Mm} (h : F_X11_move x1 x2 x3 σ = some r) : Z m_X11_move S (Qi r) 0 [(0, .ref (sL S 0 0 0)), (1, .int (x1)), (2, .int (x2)), (3, .int (x3))] [] σ := by
  unfold F_X11_move at h
  obtain ⟨g1, h⟩ := gd h
  refine z_aload_n dX11_move_0 rfl 0 rfl ?_
  refine z_iload_n dX11_move_1 rfl 1 rfl ?_
  have hp := g1
  refine z_callV (M' := m_X11_isThing) (t := 0) (i := 0) (k := 0) (As := [.int (x1)]) (rest := []) kl_11_146 oy_X11_isThing ⟨Nat.le_of_ble_eq_true rfl, Nat.le_of_ble_eq_true rfl⟩ rfl rfl rfl rfl (Nat.le_of_ble_eq_true rfl) rfl dX11_move_2 (c_X11_isThing hp rfl) (fun v τ hq => ?_)
  obtain ⟨rfl, hτ⟩ := hq
  subst τ
  change Z _ _ _ _ _ [.int (f_X11_isThing x1 σ)] _
  refine z_if_eq (tgt := 16) dX11_move_5 (by decide) (fun q => ?_) (fun q => ?_)
  · have h := (if_pos q).symm.trans h
    refine z_iconst (v := (-1)) dX11_move_16 (by decide) ?_
    cases h
    exact z_ireturn dX11_move_17 rfl rfl ⟨rfl, rfl⟩
  · have h := (if_neg q).symm.trans h
    refine z_iload_n dX11_move_8 rfl 2 rfl ?_
    refine z_iload_n dX11_move_9 rfl 3 rfl ?_
    refine z_callS (M' := m_X11_isSpot) (As := [.int (x2), .int (x3)]) (rest := []) kl_11_131 oy_X11_isSpot ⟨Nat.le_of_ble_eq_true rfl, Nat.le_of_ble_eq_true rfl⟩ rfl (Nat.le_of_ble_eq_true rfl) rfl dX11_move_10 (c_X11_isSpot rfl) (fun v τ hq => ?_)
    obtain ⟨rfl, hτ⟩ := hq
    subst τ
    change Z _ _ _ _ _ [.int (f_X11_isSpot x2 x3)] _
    refine z_if_ne (tgt := 18) dX11_move_13 (by decide) (fun q => ?_) (fun q => ?_)
    · have h := (if_neg q).symm.trans h
      refine z_aload_n dX11_move_18 rfl 0 rfl ?_
      refine gf_11_38 rfl dX11_move_19 ?_
      refine z_iconst (v := 1) dX11_move_22 (by decide) ?_
      refine z_iload_n dX11_move_23 rfl 1 rfl ?_
      refine z_iload_n dX11_move_24 rfl 2 rfl ?_
      refine z_iload_n dX11_move_25 rfl 3 rfl ?_
      refine z_iconst (v := 0) dX11_move_26 (by decide) ?_
      obtain ⟨v, τ, hc, h⟩ := bnd_e h
      refine z_callV (M' := m_X7_note) (t := 2) (i := 0) (k := 0) (As := [.int (1), .int (x1), .int (x2), .int (x3), .int (0)]) (rest := []) kl_11_139 oy_X7_note ⟨Nat.le_of_ble_eq_true rfl, Nat.le_of_ble_eq_true rfl⟩ rfl rfl rfl rfl (Nat.le_of_ble_eq_true rfl) rfl dX11_move_27 (c_X7_note rfl hc) (fun v2 τ2 hq => ?_)
      obtain ⟨rfl, hτ⟩ := hq
      subst τ2
      change Z _ _ _ _ _ [.int (v)] _
      refine Z.lv [] rfl ?_
      exact zb_X11_move_30 h
    · have h := (if_pos q).symm.trans h
      refine z_iconst (v := (-1)) dX11_move_16 (by decide) ?_
      cases h
      exact z_ireturn dX11_move_17 rfl rfl ⟨rfl, rfl⟩
/-- SkyStones.move(III)I -/
theorem c_X11_move {S : Shp} {x1 : Int32} {x2 : Int32} {x3 : Int32} {σ : Mm} {r : Int32 × Mm} (h : F_X11_move x1 x2 x3 σ = some r) : Ct m_X11_move S [.ref (sL S 0 0 0), .int (x1), .int (x2), .int (x3)] σ (Qi r) := Ct.of (by decide +kernel) (Nat.le_of_ble_eq_true rfl) (zb_X11_move h)
def F_X11_next_78 (rc29 : Int32 → Int32 → Int32 → Int32 → Mm → Option (Int32 × Mm)) (x1 : Int32) (x4 : Int32) (x5 : Int32) (x6 : Int32) (σ : Mm) : Option (Int32 × Mm) := (rc29 x1 x4 x5 (x6 + 1) σ)
set_option maxRecDepth 20000 in
theorem zb_X11_next_78 {S : Shp} {rc29 : Int32 → Int32 → Int32 → Int32 → Mm → Option (Int32 × Mm)} (hrc29 : ∀ {x1 : Int32} {x4 : Int32} {x5 : Int32} {x6 : Int32} {σ : Mm} {r : Int32 × Mm}, rc29 x1 x4 x5 x6 σ = some r → Z m_X11_next S (Qi r) 29 [(0, .ref (sL S 0 0 0)), (1, .int (x1)), (4, .int (x4)), (5, .int (x5)), (6, .int (x6))] [] σ) {x1 : Int32} {x4 : Int32} {x5 : Int32} {x6 : Int32} {σ : Mm} {r : Int32 × Mm} (h : F_X11_next_78 rc29 x1 x4 x5 x6 σ = some r) : Z m_X11_next S (Qi r) 78 [(0, .ref (sL S 0 0 0)), (1, .int (x1)), (4, .int (x4)), (5, .int (x5)), (6, .int (x6))] [] σ := by
  unfold F_X11_next_78 at h
  refine z_iinc (j := 4) (v := x6 + 1) (lv' := [(0, .ref (sL S 0 0 0)), (1, .int (x1)), (4, .int (x4)), (5, .int (x5)), (6, .int (x6 + 1))]) dX11_next_78 rfl rfl (by decide) [1, 2, 3, 4, 0] rfl ?_
  refine z_goto (tgt := 29) dX11_next_81 (by decide) ?_
  exact hrc29 h
def F_X11_next_61 (rc29 : Int32 → Int32 → Int32 → Int32 → Mm → Option (Int32 × Mm)) (x1 : Int32) (x4 : Int32) (x5 : Int32) (x6 : Int32) (s0 : Int32) (σ : Mm) : Option (Int32 × Mm) := (if s0 ≤ x4 then (F_X11_next_78 rc29 x1 x4 x5 x6 σ) else (F_X11_next_78 rc29 x1 s0 x6 x6 σ))
set_option maxRecDepth 20000 in
theorem zb_X11_next_61 {S : Shp} {rc29 : Int32 → Int32 → Int32 → Int32 → Mm → Option (Int32 × Mm)} (hrc29 : ∀ {x1 : Int32} {x4 : Int32} {x5 : Int32} {x6 : Int32} {σ : Mm} {r : Int32 × Mm}, rc29 x1 x4 x5 x6 σ = some r → Z m_X11_next S (Qi r) 29 [(0, .ref (sL S 0 0 0)), (1, .int (x1)), (4, .int (x4)), (5, .int (x5)), (6, .int (x6))] [] σ) {x1 : Int32} {x4 : Int32} {x5 : Int32} {x6 : Int32} {s0 : Int32} {σ : Mm} {r : Int32 × Mm} (h : F_X11_next_61 rc29 x1 x4 x5 x6 s0 σ = some r) : Z m_X11_next S (Qi r) 61 [(0, .ref (sL S 0 0 0)), (1, .int (x1)), (4, .int (x4)), (5, .int (x5)), (6, .int (x6))] [.int (s0)] σ := by
  unfold F_X11_next_61 at h
  refine z_istore (lv' := [(0, .ref (sL S 0 0 0)), (1, .int (x1)), (4, .int (x4)), (5, .int (x5)), (6, .int (x6)), (7, .int (s0))]) dX11_next_61 (by decide) [1, 2, 3, 4, 5, 0] rfl ?_
  refine z_iload dX11_next_63 5 rfl ?_
  refine z_iload dX11_next_65 2 rfl ?_
  refine z_icmp_le (tgt := 78) dX11_next_67 (by decide) (fun q => ?_) (fun q => ?_)
  · have h := (if_pos q).symm.trans h
    refine Z.lv [0, 1, 2, 3, 4] rfl ?_
    exact zb_X11_next_78 hrc29 h
  · have h := (if_neg q).symm.trans h
    refine z_iload dX11_next_70 5 rfl ?_
    refine z_istore (lv' := [(0, .ref (sL S 0 0 0)), (1, .int (x1)), (4, .int (s0)), (5, .int (x5)), (6, .int (x6)), (7, .int (s0))]) dX11_next_72 (by decide) [1, 2, 0, 3, 4, 5] rfl ?_
    refine z_iload dX11_next_74 4 rfl ?_
    refine z_istore (lv' := [(0, .ref (sL S 0 0 0)), (1, .int (x1)), (4, .int (s0)), (5, .int (x6)), (6, .int (x6)), (7, .int (s0))]) dX11_next_76 (by decide) [1, 2, 3, 0, 4, 5] rfl ?_
    refine Z.lv [0, 1, 2, 3, 4] rfl ?_
    exact zb_X11_next_78 hrc29 h
def B_X11_next_29 (rc29 : Int32 → Int32 → Int32 → Int32 → Mm → Option (Int32 × Mm)) (x1 : Int32) (x4 : Int32) (x5 : Int32) (x6 : Int32) (σ : Mm) : Option (Int32 × Mm) := (if (mA σ 0 0 15 0) ≤ x6 then some (x5, σ) else (if inb x6 14 = true then (if (mA σ 0 0 20 x6.toNatClampNeg) = 0 then (bnd (F_X11_hitsOf x6 x1 σ) (fun v τ => (F_X11_next_61 rc29 x1 x4 x5 x6 v τ))) else (F_X11_next_78 rc29 x1 x4 x5 x6 σ)) else none))
set_option maxRecDepth 20000 in
theorem zB_X11_next_29 {S : Shp} {rc29 : Int32 → Int32 → Int32 → Int32 → Mm → Option (Int32 × Mm)} (hrc29 : ∀ {x1 : Int32} {x4 : Int32} {x5 : Int32} {x6 : Int32} {σ : Mm} {r : Int32 × Mm}, rc29 x1 x4 x5 x6 σ = some r → Z m_X11_next S (Qi r) 29 [(0, .ref (sL S 0 0 0)), (1, .int (x1)), (4, .int (x4)), (5, .int (x5)), (6, .int (x6))] [] σ) {x1 : Int32} {x4 : Int32} {x5 : Int32} {x6 : Int32} {σ : Mm} {r : Int32 × Mm} (h : B_X11_next_29 rc29 x1 x4 x5 x6 σ = some r) : Z m_X11_next S (Qi r) 29 [(0, .ref (sL S 0 0 0)), (1, .int (x1)), (4, .int (x4)), (5, .int (x5)), (6, .int (x6))] [] σ := by
  unfold B_X11_next_29 at h
  refine z_iload dX11_next_29 4 rfl ?_
  refine z_aload_n dX11_next_31 rfl 0 rfl ?_
  refine gf_11_53 rfl dX11_next_32 ?_
  refine gf_11_300 rfl dX11_next_35 ?_
  refine z_icmp_ge (tgt := 84) dX11_next_38 (by decide) (fun q => ?_) (fun q => ?_)
  · have h := (if_pos q).symm.trans h
    refine z_iload dX11_next_84 3 rfl ?_
    cases h
    exact z_ireturn dX11_next_86 rfl rfl ⟨rfl, rfl⟩
  · have h := (if_neg q).symm.trans h
    obtain ⟨g2, h⟩ := gd h
    refine z_aload_n dX11_next_41 rfl 0 rfl ?_
    refine gf_11_53 rfl dX11_next_42 ?_
    refine gf_11_171 rfl dX11_next_45 ?_
    refine z_iload dX11_next_48 4 rfl ?_
    refine ia_0_20 (inb_in g2) dX11_next_50 ?_
    refine z_if_ne (tgt := 78) dX11_next_51 (by decide) (fun q => ?_) (fun q => ?_)
    · have h := (if_neg q).symm.trans h
      exact zb_X11_next_78 hrc29 h
    · have h := (if_pos q).symm.trans h
      refine z_aload_n dX11_next_54 rfl 0 rfl ?_
      refine z_iload dX11_next_55 4 rfl ?_
      refine z_iload_n dX11_next_57 rfl 1 rfl ?_
      obtain ⟨v, τ, hc, h⟩ := bnd_e h
      refine z_callV (M' := m_X11_hitsOf) (t := 0) (i := 0) (k := 0) (As := [.int (x6), .int (x1)]) (rest := []) kl_11_303 oy_X11_hitsOf ⟨Nat.le_of_ble_eq_true rfl, Nat.le_of_ble_eq_true rfl⟩ rfl rfl rfl rfl (Nat.le_of_ble_eq_true rfl) rfl dX11_next_58 (c_X11_hitsOf hc) (fun v2 τ2 hq => ?_)
      obtain ⟨rfl, hτ⟩ := hq
      subst τ2
      change Z _ _ _ _ _ [.int (v)] _
      exact zb_X11_next_61 hrc29 h
def F_X11_next_29 : Nat → Int32 → Int32 → Int32 → Int32 → Mm → Option (Int32 × Mm)
  | 0 => fun _ _ _ _ _ => none
  | n + 1 => B_X11_next_29 (F_X11_next_29 n)
theorem zl_X11_next_29 {S : Shp} : ∀ (nn : Nat) {x1 : Int32} {x4 : Int32} {x5 : Int32} {x6 : Int32} {σ : Mm} {r : Int32 × Mm}, F_X11_next_29 nn x1 x4 x5 x6 σ = some r → Z m_X11_next S (Qi r) 29 [(0, .ref (sL S 0 0 0)), (1, .int (x1)), (4, .int (x4)), (5, .int (x5)), (6, .int (x6))] [] σ := by
  intro nn
  induction nn with
  | zero => intro x1 x4 x5 x6 σ r h; cases h
  | succ nn ih => intro x1 x4 x5 x6 σ r h; exact zB_X11_next_29 @ih h
def F_X11_next_19 (x1 : Int32) (σ : Mm) : Option (Int32 × Mm) := (F_X11_next_29 FU x1 ((-1)) ((-2)) 0 σ)
set_option maxRecDepth 20000 in
theorem zb_X11_next_19 {S : Shp} {x1 : Int32} {σ : Mm} {r : Int32 × Mm} (h : F_X11_next_19 x1 σ = some r) : Z m_X11_next S (Qi r) 19 [(0, .ref (sL S 0 0 0)), (1, .int (x1))] [] σ := by
  unfold F_X11_next_19 at h
  refine z_iconst (v := (-1)) dX11_next_19 (by decide) ?_
  refine z_istore (lv' := [(0, .ref (sL S 0 0 0)), (1, .int (x1)), (4, .int ((-1)))]) dX11_next_20 (by decide) [1, 2, 0] rfl ?_
  refine z_bipush (v := (-2)) dX11_next_22 (by decide) ?_
  refine z_istore (lv' := [(0, .ref (sL S 0 0 0)), (1, .int (x1)), (4, .int ((-1))), (5, .int ((-2)))]) dX11_next_24 (by decide) [1, 2, 3, 0] rfl ?_
  refine z_iconst (v := 0) dX11_next_26 (by decide) ?_
  refine z_istore (lv' := [(0, .ref (sL S 0 0 0)), (1, .int (x1)), (4, .int ((-1))), (5, .int ((-2))), (6, .int (0))]) dX11_next_27 (by decide) [1, 2, 3, 4, 0] rfl ?_
  exact zl_X11_next_29 FU h
def F_X11_next (x1 : Int32) (x2 : Int32) (x3 : Int32) (σ : Mm) : Option (Int32 × Mm) := (if okP σ = true then (if (f_X11_isAsked x1 x2 x3 σ) = 0 then some ((-1), σ) else (bnv (F_X11_lookAt x2 x3 ((-1)) σ) (fun τ => (F_X11_next_19 x1 τ)))) else none)
set_option maxRecDepth 20000 in
theorem zb_X11_next {S : Shp} {x1 : Int32} {x2 : Int32} {x3 : Int32} {σ : Mm} {r : Int32 × Mm} (h : F_X11_next x1 x2 x3 σ = some r) : Z m_X11_next S (Qi r) 0 [(0, .ref (sL S 0 0 0)), (1, .int (x1)), (2, .int (x2)), (3, .int (x3))] [] σ := by
  unfold F_X11_next at h
  obtain ⟨g1, h⟩ := gd h
  refine z_aload_n dX11_next_0 rfl 0 rfl ?_
  refine z_iload_n dX11_next_1 rfl 1 rfl ?_
  refine z_iload_n dX11_next_2 rfl 2 rfl ?_
  refine z_iload_n dX11_next_3 rfl 3 rfl ?_
  have hp := g1
  refine z_callV (M' := m_X11_isAsked) (t := 0) (i := 0) (k := 0) (As := [.int (x1), .int (x2), .int (x3)]) (rest := []) kl_11_239 oy_X11_isAsked ⟨Nat.le_of_ble_eq_true rfl, Nat.le_of_ble_eq_true rfl⟩ rfl rfl rfl rfl (Nat.le_of_ble_eq_true rfl) rfl dX11_next_4 (c_X11_isAsked hp rfl) (fun v τ hq => ?_)
  obtain ⟨rfl, hτ⟩ := hq
  subst τ
  change Z _ _ _ _ _ [.int (f_X11_isAsked x1 x2 x3 σ)] _
  refine z_if_ne (tgt := 12) dX11_next_7 (by decide) (fun q => ?_) (fun q => ?_)
  · have h := (if_neg q).symm.trans h
    refine z_aload_n dX11_next_12 rfl 0 rfl ?_
    refine z_iload_n dX11_next_13 rfl 2 rfl ?_
    refine z_iload_n dX11_next_14 rfl 3 rfl ?_
    refine z_iconst (v := (-1)) dX11_next_15 (by decide) ?_
    obtain ⟨τ, hc, h⟩ := bnv_e h
    refine z_callV (M' := m_X11_lookAt) (t := 0) (i := 0) (k := 0) (As := [.int (x2), .int (x3), .int ((-1))]) (rest := []) kl_11_243 oy_X11_lookAt ⟨Nat.le_of_ble_eq_true rfl, Nat.le_of_ble_eq_true rfl⟩ rfl rfl rfl rfl (Nat.le_of_ble_eq_true rfl) rfl dX11_next_16 (c_X11_lookAt hc) (fun v2 τ2 hq => ?_)
    obtain ⟨rfl, hτ⟩ := hq
    subst τ2
    change Z _ _ _ _ _ [] _
    refine Z.lv [0, 1] rfl ?_
    exact zb_X11_next_19 h
  · have h := (if_pos q).symm.trans h
    refine z_iconst (v := (-1)) dX11_next_10 (by decide) ?_
    cases h
    exact z_ireturn dX11_next_11 rfl rfl ⟨rfl, rfl⟩
/-- SkyStones.next(III)I -/
theorem c_X11_next {S : Shp} {x1 : Int32} {x2 : Int32} {x3 : Int32} {σ : Mm} {r : Int32 × Mm} (h : F_X11_next x1 x2 x3 σ = some r) : Ct m_X11_next S [.ref (sL S 0 0 0), .int (x1), .int (x2), .int (x3)] σ (Qi r) := Ct.of (by decide +kernel) (Nat.le_of_ble_eq_true rfl) (zb_X11_next h)
def F_X11_odds_107 (rc60 : Int32 → Int32 → Int32 → Int32 → Int32 → Int32 → Int32 → Mm → Option (Int32 × Mm)) (x1 : Int32) (x2 : Int32) (x3 : Int32) (x4 : Int32) (x5 : Int32) (x6 : Int32) (x7 : Int32) (σ : Mm) : Option (Int32 × Mm) := (rc60 x1 x2 x3 x4 x5 x6 (x7 + 1) σ)
set_option maxRecDepth 20000 in
theorem zb_X11_odds_107 {S : Shp} {rc60 : Int32 → Int32 → Int32 → Int32 → Int32 → Int32 → Int32 → Mm → Option (Int32 × Mm)} (hrc60 : ∀ {x1 : Int32} {x2 : Int32} {x3 : Int32} {x4 : Int32} {x5 : Int32} {x6 : Int32} {x7 : Int32} {σ : Mm} {r : Int32 × Mm}, rc60 x1 x2 x3 x4 x5 x6 x7 σ = some r → Z m_X11_odds S (Qi r) 60 [(0, .ref (sL S 0 0 0)), (1, .int (x1)), (2, .int (x2)), (3, .int (x3)), (4, .int (x4)), (5, .int (x5)), (6, .int (x6)), (7, .int (x7))] [] σ) {x1 : Int32} {x2 : Int32} {x3 : Int32} {x4 : Int32} {x5 : Int32} {x6 : Int32} {x7 : Int32} {σ : Mm} {r : Int32 × Mm} (h : F_X11_odds_107 rc60 x1 x2 x3 x4 x5 x6 x7 σ = some r) : Z m_X11_odds S (Qi r) 107 [(0, .ref (sL S 0 0 0)), (1, .int (x1)), (2, .int (x2)), (3, .int (x3)), (4, .int (x4)), (5, .int (x5)), (6, .int (x6)), (7, .int (x7))] [] σ := by
  unfold F_X11_odds_107 at h
  refine z_iinc (j := 7) (v := x7 + 1) (lv' := [(0, .ref (sL S 0 0 0)), (1, .int (x1)), (2, .int (x2)), (3, .int (x3)), (4, .int (x4)), (5, .int (x5)), (6, .int (x6)), (7, .int (x7 + 1))]) dX11_odds_107 rfl rfl (by decide) [1, 2, 3, 4, 5, 6, 7, 0] rfl ?_
  refine z_goto (tgt := 60) dX11_odds_110 (by decide) ?_
  exact hrc60 h
def F_X11_odds_99 (rc60 : Int32 → Int32 → Int32 → Int32 → Int32 → Int32 → Int32 → Mm → Option (Int32 × Mm)) (x1 : Int32) (x2 : Int32) (x3 : Int32) (x4 : Int32) (x5 : Int32) (x6 : Int32) (x7 : Int32) (s0 : Int32) (σ : Mm) : Option (Int32 × Mm) := (if s0 < x5 then (F_X11_odds_107 rc60 x1 x2 x3 x4 x5 x6 x7 σ) else (F_X11_odds_107 rc60 x1 x2 x3 x4 x5 (x6 + 1) x7 σ))
set_option maxRecDepth 20000 in
theorem zb_X11_odds_99 {S : Shp} {rc60 : Int32 → Int32 → Int32 → Int32 → Int32 → Int32 → Int32 → Mm → Option (Int32 × Mm)} (hrc60 : ∀ {x1 : Int32} {x2 : Int32} {x3 : Int32} {x4 : Int32} {x5 : Int32} {x6 : Int32} {x7 : Int32} {σ : Mm} {r : Int32 × Mm}, rc60 x1 x2 x3 x4 x5 x6 x7 σ = some r → Z m_X11_odds S (Qi r) 60 [(0, .ref (sL S 0 0 0)), (1, .int (x1)), (2, .int (x2)), (3, .int (x3)), (4, .int (x4)), (5, .int (x5)), (6, .int (x6)), (7, .int (x7))] [] σ) {x1 : Int32} {x2 : Int32} {x3 : Int32} {x4 : Int32} {x5 : Int32} {x6 : Int32} {x7 : Int32} {s0 : Int32} {σ : Mm} {r : Int32 × Mm} (h : F_X11_odds_99 rc60 x1 x2 x3 x4 x5 x6 x7 s0 σ = some r) : Z m_X11_odds S (Qi r) 99 [(0, .ref (sL S 0 0 0)), (1, .int (x1)), (2, .int (x2)), (3, .int (x3)), (4, .int (x4)), (5, .int (x5)), (6, .int (x6)), (7, .int (x7))] [.int (s0)] σ := by
  unfold F_X11_odds_99 at h
  refine z_iload dX11_odds_99 5 rfl ?_
  refine z_icmp_lt (tgt := 107) dX11_odds_101 (by decide) (fun q => ?_) (fun q => ?_)
  · have h := (if_pos q).symm.trans h
    exact zb_X11_odds_107 hrc60 h
  · have h := (if_neg q).symm.trans h
    refine z_iinc (j := 6) (v := x6 + 1) (lv' := [(0, .ref (sL S 0 0 0)), (1, .int (x1)), (2, .int (x2)), (3, .int (x3)), (4, .int (x4)), (5, .int (x5)), (6, .int (x6 + 1)), (7, .int (x7))]) dX11_odds_104 rfl rfl (by decide) [1, 2, 3, 4, 5, 6, 0, 7] rfl ?_
    exact zb_X11_odds_107 hrc60 h
def F_X11_odds_84 (rc60 : Int32 → Int32 → Int32 → Int32 → Int32 → Int32 → Int32 → Mm → Option (Int32 × Mm)) (x1 : Int32) (x2 : Int32) (x3 : Int32) (x4 : Int32) (x5 : Int32) (x6 : Int32) (x7 : Int32) (σ : Mm) : Option (Int32 × Mm) := (bnd (F_X3_strikes x2 σ) (fun v τ => (F_X11_odds_99 rc60 x1 x2 x3 x4 x5 x6 x7 v τ)))
set_option maxRecDepth 20000 in
theorem zb_X11_odds_84 {S : Shp} {rc60 : Int32 → Int32 → Int32 → Int32 → Int32 → Int32 → Int32 → Mm → Option (Int32 × Mm)} (hrc60 : ∀ {x1 : Int32} {x2 : Int32} {x3 : Int32} {x4 : Int32} {x5 : Int32} {x6 : Int32} {x7 : Int32} {σ : Mm} {r : Int32 × Mm}, rc60 x1 x2 x3 x4 x5 x6 x7 σ = some r → Z m_X11_odds S (Qi r) 60 [(0, .ref (sL S 0 0 0)), (1, .int (x1)), (2, .int (x2)), (3, .int (x3)), (4, .int (x4)), (5, .int (x5)), (6, .int (x6)), (7, .int (x7))] [] σ) {x1 : Int32} {x2 : Int32} {x3 : Int32} {x4 : Int32} {x5 : Int32} {x6 : Int32} {x7 : Int32} {σ : Mm} {r : Int32 × Mm} (h : F_X11_odds_84 rc60 x1 x2 x3 x4 x5 x6 x7 σ = some r) : Z m_X11_odds S (Qi r) 84 [(0, .ref (sL S 0 0 0)), (1, .int (x1)), (2, .int (x2)), (3, .int (x3)), (4, .int (x4)), (5, .int (x5)), (6, .int (x6)), (7, .int (x7))] [] σ := by
  unfold F_X11_odds_84 at h
  refine z_aload_n dX11_odds_84 rfl 0 rfl ?_
  refine gf_11_81 rfl dX11_odds_85 ?_
  refine z_iload_n dX11_odds_88 rfl 2 rfl ?_
  refine z_aload_n dX11_odds_89 rfl 0 rfl ?_
  refine gf_11_67 rfl dX11_odds_90 ?_
  refine gf_11_326 rfl dX11_odds_93 ?_
  obtain ⟨v, τ, hc, h⟩ := bnd_e h
  refine z_callV (M' := m_X3_strikes) (t := 0) (i := 0) (k := 40) (As := [.int (x2), .ref (sL S 0 0 31)]) (rest := []) kl_11_328 oy_X3_strikes ⟨Nat.le_of_ble_eq_true rfl, Nat.le_of_ble_eq_true rfl⟩ rfl rfl rfl rfl (Nat.le_of_ble_eq_true rfl) rfl dX11_odds_96 (c_X3_strikes hc) (fun v2 τ2 hq => ?_)
  obtain ⟨rfl, hτ⟩ := hq
  subst τ2
  change Z _ _ _ _ _ [.int (v)] _
  exact zb_X11_odds_99 hrc60 h
def B_X11_odds_60 (rc60 : Int32 → Int32 → Int32 → Int32 → Int32 → Int32 → Int32 → Mm → Option (Int32 × Mm)) (x1 : Int32) (x2 : Int32) (x3 : Int32) (x4 : Int32) (x5 : Int32) (x6 : Int32) (x7 : Int32) (σ : Mm) : Option (Int32 × Mm) := (if x4 ≤ x7 then some (x6, σ) else (bnv (F_X3_make (x1 + x7) x2 x3 σ) (fun τ => (F_X11_odds_84 rc60 x1 x2 x3 x4 x5 x6 x7 τ))))
set_option maxRecDepth 20000 in
theorem zB_X11_odds_60 {S : Shp} {rc60 : Int32 → Int32 → Int32 → Int32 → Int32 → Int32 → Int32 → Mm → Option (Int32 × Mm)} (hrc60 : ∀ {x1 : Int32} {x2 : Int32} {x3 : Int32} {x4 : Int32} {x5 : Int32} {x6 : Int32} {x7 : Int32} {σ : Mm} {r : Int32 × Mm}, rc60 x1 x2 x3 x4 x5 x6 x7 σ = some r → Z m_X11_odds S (Qi r) 60 [(0, .ref (sL S 0 0 0)), (1, .int (x1)), (2, .int (x2)), (3, .int (x3)), (4, .int (x4)), (5, .int (x5)), (6, .int (x6)), (7, .int (x7))] [] σ) {x1 : Int32} {x2 : Int32} {x3 : Int32} {x4 : Int32} {x5 : Int32} {x6 : Int32} {x7 : Int32} {σ : Mm} {r : Int32 × Mm} (h : B_X11_odds_60 rc60 x1 x2 x3 x4 x5 x6 x7 σ = some r) : Z m_X11_odds S (Qi r) 60 [(0, .ref (sL S 0 0 0)), (1, .int (x1)), (2, .int (x2)), (3, .int (x3)), (4, .int (x4)), (5, .int (x5)), (6, .int (x6)), (7, .int (x7))] [] σ := by
  unfold B_X11_odds_60 at h
  refine z_iload dX11_odds_60 7 rfl ?_
  refine z_iload dX11_odds_62 4 rfl ?_
  refine z_icmp_ge (tgt := 113) dX11_odds_64 (by decide) (fun q => ?_) (fun q => ?_)
  · have h := (if_pos q).symm.trans h
    refine z_iload dX11_odds_113 6 rfl ?_
    cases h
    exact z_ireturn dX11_odds_115 rfl rfl ⟨rfl, rfl⟩
  · have h := (if_neg q).symm.trans h
    refine z_aload_n dX11_odds_67 rfl 0 rfl ?_
    refine gf_11_81 rfl dX11_odds_68 ?_
    refine z_iload_n dX11_odds_71 rfl 1 rfl ?_
    refine z_iload dX11_odds_72 7 rfl ?_
    refine z_iadd dX11_odds_74 ?_
    refine z_iload_n dX11_odds_75 rfl 2 rfl ?_
    refine z_iload_n dX11_odds_76 rfl 3 rfl ?_
    refine z_aload_n dX11_odds_77 rfl 0 rfl ?_
    refine gf_11_60 rfl dX11_odds_78 ?_
    obtain ⟨τ, hc, h⟩ := bnv_e h
    refine z_callV (M' := m_X3_make) (t := 0) (i := 0) (k := 40) (As := [.int (x1 + x7), .int (x2), .int (x3), .ref (sL S 0 0 25)]) (rest := []) kl_11_322 oy_X3_make ⟨Nat.le_of_ble_eq_true rfl, Nat.le_of_ble_eq_true rfl⟩ rfl rfl rfl rfl (Nat.le_of_ble_eq_true rfl) rfl dX11_odds_81 (c_X3_make hc) (fun v2 τ2 hq => ?_)
    obtain ⟨rfl, hτ⟩ := hq
    subst τ2
    change Z _ _ _ _ _ [] _
    exact zb_X11_odds_84 hrc60 h
def F_X11_odds_60 : Nat → Int32 → Int32 → Int32 → Int32 → Int32 → Int32 → Int32 → Mm → Option (Int32 × Mm)
  | 0 => fun _ _ _ _ _ _ _ _ => none
  | n + 1 => B_X11_odds_60 (F_X11_odds_60 n)
theorem zl_X11_odds_60 {S : Shp} : ∀ (nn : Nat) {x1 : Int32} {x2 : Int32} {x3 : Int32} {x4 : Int32} {x5 : Int32} {x6 : Int32} {x7 : Int32} {σ : Mm} {r : Int32 × Mm}, F_X11_odds_60 nn x1 x2 x3 x4 x5 x6 x7 σ = some r → Z m_X11_odds S (Qi r) 60 [(0, .ref (sL S 0 0 0)), (1, .int (x1)), (2, .int (x2)), (3, .int (x3)), (4, .int (x4)), (5, .int (x5)), (6, .int (x6)), (7, .int (x7))] [] σ := by
  intro nn
  induction nn with
  | zero => intro x1 x2 x3 x4 x5 x6 x7 σ r h; cases h
  | succ nn ih => intro x1 x2 x3 x4 x5 x6 x7 σ r h; exact zB_X11_odds_60 @ih h
def F_X11_odds_54 (x1 : Int32) (x2 : Int32) (x3 : Int32) (x4 : Int32) (x5 : Int32) (σ : Mm) : Option (Int32 × Mm) := (F_X11_odds_60 FU x1 x2 x3 x4 x5 0 0 σ)
set_option maxRecDepth 20000 in
theorem zb_X11_odds_54 {S : Shp} {x1 : Int32} {x2 : Int32} {x3 : Int32} {x4 : Int32} {x5 : Int32} {σ : Mm} {r : Int32 × Mm} (h : F_X11_odds_54 x1 x2 x3 x4 x5 σ = some r) : Z m_X11_odds S (Qi r) 54 [(0, .ref (sL S 0 0 0)), (1, .int (x1)), (2, .int (x2)), (3, .int (x3)), (4, .int (x4)), (5, .int (x5))] [] σ := by
  unfold F_X11_odds_54 at h
  refine z_iconst (v := 0) dX11_odds_54 (by decide) ?_
  refine z_istore (lv' := [(0, .ref (sL S 0 0 0)), (1, .int (x1)), (2, .int (x2)), (3, .int (x3)), (4, .int (x4)), (5, .int (x5)), (6, .int (0))]) dX11_odds_55 (by decide) [1, 2, 3, 4, 5, 6, 0] rfl ?_
  refine z_iconst (v := 0) dX11_odds_57 (by decide) ?_
  refine z_istore (lv' := [(0, .ref (sL S 0 0 0)), (1, .int (x1)), (2, .int (x2)), (3, .int (x3)), (4, .int (x4)), (5, .int (x5)), (6, .int (0)), (7, .int (0))]) dX11_odds_58 (by decide) [1, 2, 3, 4, 5, 6, 7, 0] rfl ?_
  exact zl_X11_odds_60 FU h
def F_X11_odds_36 (x1 : Int32) (x2 : Int32) (x3 : Int32) (x4 : Int32) (x5 : Int32) (σ : Mm) : Option (Int32 × Mm) := (if okP σ = true then (bnv (F_X10_cover (mA σ 1 (mP σ 0) 0 0) σ) (fun τ => (F_X11_odds_54 x1 x2 x3 x4 x5 τ))) else none)
set_option maxRecDepth 20000 in
theorem zb_X11_odds_36 {S : Shp} {x1 : Int32} {x2 : Int32} {x3 : Int32} {x4 : Int32} {x5 : Int32} {σ : Mm} {r : Int32 × Mm} (h : F_X11_odds_36 x1 x2 x3 x4 x5 σ = some r) : Z m_X11_odds S (Qi r) 36 [(0, .ref (sL S 0 0 0)), (1, .int (x1)), (2, .int (x2)), (3, .int (x3)), (4, .int (x4)), (5, .int (x5))] [] σ := by
  unfold F_X11_odds_36 at h
  obtain ⟨g2, h⟩ := gd h
  refine z_aload_n dX11_odds_36 rfl 0 rfl ?_
  refine gf_11_67 rfl dX11_odds_37 ?_
  refine z_aload_n dX11_odds_40 rfl 0 rfl ?_
  refine gf_11_60 rfl dX11_odds_41 ?_
  refine z_aload_n dX11_odds_44 rfl 0 rfl ?_
  have hp := g2
  refine gf_11_19 rfl dX11_odds_45 ?_
  refine gf_11_232 (lv1 (okP_0 hp) rfl) rfl dX11_odds_48 ?_
  obtain ⟨τ, hc, h⟩ := bnv_e h
  refine z_callV (M' := m_X10_cover) (t := 0) (i := 0) (k := 29) (As := [.ref (sL S 0 0 25), .int (mA σ 1 (mP σ 0) 0 0)]) (rest := []) kl_11_318 oy_X10_cover ⟨Nat.le_of_ble_eq_true rfl, Nat.le_of_ble_eq_true rfl⟩ rfl rfl rfl rfl (Nat.le_of_ble_eq_true rfl) rfl dX11_odds_51 (c_X10_cover hc) (fun v2 τ2 hq => ?_)
  obtain ⟨rfl, hτ⟩ := hq
  subst τ2
  change Z _ _ _ _ _ [] _
  exact zb_X11_odds_54 h
def F_X11_odds (x1 : Int32) (x2 : Int32) (x3 : Int32) (x4 : Int32) (x5 : Int32) (σ : Mm) : Option (Int32 × Mm) := (if (f_X11_isMade x2 x3) = 0 then some ((-1), σ) else (if x4 < (1 : Int32) then some ((-1), σ) else (if x4 ≤ (200 : Int32) then (if okP σ = true then (bnv (F_X6_watch (mP σ 0) 0 σ) (fun τ => (F_X11_odds_36 x1 x2 x3 x4 x5 τ))) else none) else some ((-1), σ))))
set_option maxRecDepth 20000 in
theorem zb_X11_odds {S : Shp} {x1 : Int32} {x2 : Int32} {x3 : Int32} {x4 : Int32} {x5 : Int32} {σ : Mm} {r : Int32 × Mm} (h : F_X11_odds x1 x2 x3 x4 x5 σ = some r) : Z m_X11_odds S (Qi r) 0 [(0, .ref (sL S 0 0 0)), (1, .int (x1)), (2, .int (x2)), (3, .int (x3)), (4, .int (x4)), (5, .int (x5))] [] σ := by
  unfold F_X11_odds at h
  refine z_iload_n dX11_odds_0 rfl 2 rfl ?_
  refine z_iload_n dX11_odds_1 rfl 3 rfl ?_
  refine z_callS (M' := m_X11_isMade) (As := [.int (x2), .int (x3)]) (rest := []) kl_11_315 oy_X11_isMade ⟨Nat.le_of_ble_eq_true rfl, Nat.le_of_ble_eq_true rfl⟩ rfl (Nat.le_of_ble_eq_true rfl) rfl dX11_odds_2 (c_X11_isMade rfl) (fun v τ hq => ?_)
  obtain ⟨rfl, hτ⟩ := hq
  subst τ
  change Z _ _ _ _ _ [.int (f_X11_isMade x2 x3)] _
  refine z_if_eq (tgt := 22) dX11_odds_5 (by decide) (fun q => ?_) (fun q => ?_)
  · have h := (if_pos q).symm.trans h
    refine z_iconst (v := (-1)) dX11_odds_22 (by decide) ?_
    cases h
    exact z_ireturn dX11_odds_23 rfl rfl ⟨rfl, rfl⟩
  · have h := (if_neg q).symm.trans h
    refine z_iload dX11_odds_8 4 rfl ?_
    refine z_iconst (v := 1) dX11_odds_10 (by decide) ?_
    refine z_icmp_lt (tgt := 22) dX11_odds_11 (by decide) (fun q => ?_) (fun q => ?_)
    · have h := (if_pos q).symm.trans h
      refine z_iconst (v := (-1)) dX11_odds_22 (by decide) ?_
      cases h
      exact z_ireturn dX11_odds_23 rfl rfl ⟨rfl, rfl⟩
    · have h := (if_neg q).symm.trans h
      refine z_iload dX11_odds_14 4 rfl ?_
      refine z_sipush (v := 200) dX11_odds_16 (by decide) ?_
      refine z_icmp_le (tgt := 24) dX11_odds_19 (by decide) (fun q => ?_) (fun q => ?_)
      · have h := (if_pos q).symm.trans h
        obtain ⟨g1, h⟩ := gd h
        refine z_aload_n dX11_odds_24 rfl 0 rfl ?_
        refine gf_11_60 rfl dX11_odds_25 ?_
        refine z_aload_n dX11_odds_28 rfl 0 rfl ?_
        have hp := g1
        refine gf_11_19 rfl dX11_odds_29 ?_
        refine z_iconst (v := 0) dX11_odds_32 (by decide) ?_
        obtain ⟨τ, hc, h⟩ := bnv_e h
        refine z_callV (M' := m_X6_watch) (t := 0) (i := 0) (k := 25) (As := [.ref (sL S 1 (mP σ 0) 0), .int (0)]) (rest := []) kl_11_226 oy_X6_watch ⟨Nat.le_of_ble_eq_true rfl, Nat.le_of_ble_eq_true rfl⟩ rfl rfl rfl rfl (Nat.le_of_ble_eq_true rfl) rfl dX11_odds_33 (c_X6_watch (okP_0 hp) hc) (fun v2 τ2 hq => ?_)
        obtain ⟨rfl, hτ⟩ := hq
        subst τ2
        change Z _ _ _ _ _ [] _
        exact zb_X11_odds_36 h
      · have h := (if_neg q).symm.trans h
        refine z_iconst (v := (-1)) dX11_odds_22 (by decide) ?_
        cases h
        exact z_ireturn dX11_odds_23 rfl rfl ⟨rfl, rfl⟩
/-- SkyStones.odds(IIIII)I -/
theorem c_X11_odds {S : Shp} {x1 : Int32} {x2 : Int32} {x3 : Int32} {x4 : Int32} {x5 : Int32} {σ : Mm} {r : Int32 × Mm} (h : F_X11_odds x1 x2 x3 x4 x5 σ = some r) : Ct m_X11_odds S [.ref (sL S 0 0 0), .int (x1), .int (x2), .int (x3), .int (x4), .int (x5)] σ (Qi r) := Ct.of (by decide +kernel) (Nat.le_of_ble_eq_true rfl) (zb_X11_odds h)
