def F_X10_findEdges_130 (rc27 : Int32 → Int32 → Int32 → Int32 → Mm → Option (Int32 × Mm)) (x1 : Int32) (x2 : Int32) (x4 : Int32) (x5 : Int32) (σ : Mm) : Option (Int32 × Mm) := (rc27 x1 x2 x5 (x4 + 1) σ)
set_option maxRecDepth 20000 in
theorem zb_X10_findEdges_130 {S : Shp} {rc27 : Int32 → Int32 → Int32 → Int32 → Mm → Option (Int32 × Mm)} (hrc27 : ∀ {x1 : Int32} {x2 : Int32} {x3 : Int32} {x4 : Int32} {σ : Mm} {r : Int32 × Mm}, rc27 x1 x2 x3 x4 σ = some r → Z m_X10_findEdges S (Qi r) 27 [(0, .ref (sL S 0 0 29)), (1, .int (x1)), (2, .int (x2)), (3, .int (x3)), (4, .int (x4))] [] σ) {x1 : Int32} {x2 : Int32} {x4 : Int32} {x5 : Int32} {σ : Mm} {r : Int32 × Mm} (h : F_X10_findEdges_130 rc27 x1 x2 x4 x5 σ = some r) : Z m_X10_findEdges S (Qi r) 130 [(0, .ref (sL S 0 0 29)), (1, .int (x1)), (2, .int (x2)), (4, .int (x4)), (5, .int (x5))] [] σ := by
  unfold F_X10_findEdges_130 at h
  refine z_iload dX10_findEdges_130 4 rfl ?_
  refine z_istore_n (lv' := [(0, .ref (sL S 0 0 29)), (1, .int (x1)), (2, .int (x2)), (3, .int (x5)), (4, .int (x4)), (5, .int (x5))]) dX10_findEdges_132 rfl (by decide) [1, 2, 3, 0, 4, 5] rfl ?_
  refine z_iinc (j := 4) (v := x4 + 1) (lv' := [(0, .ref (sL S 0 0 29)), (1, .int (x1)), (2, .int (x2)), (3, .int (x5)), (4, .int (x4 + 1)), (5, .int (x5))]) dX10_findEdges_133 rfl rfl (by decide) [1, 2, 3, 4, 0, 5] rfl ?_
  refine z_goto (tgt := 27) dX10_findEdges_136 (by decide) ?_
  refine Z.lv [0, 1, 2, 3, 4] rfl ?_
  exact hrc27 h
def F_X10_findEdges_120 (rc27 : Int32 → Int32 → Int32 → Int32 → Mm → Option (Int32 × Mm)) (x1 : Int32) (x2 : Int32) (x4 : Int32) (x5 : Int32) (σ : Mm) : Option (Int32 × Mm) := (F_X10_findEdges_130 rc27 x1 x2 x4 x5 (setA σ 0 0 29 (upd (mA σ 0 0 29) 5 ((mA σ 0 0 29 5) + (1 : Int32)))))
set_option maxRecDepth 20000 in
theorem zb_X10_findEdges_120 {S : Shp} {rc27 : Int32 → Int32 → Int32 → Int32 → Mm → Option (Int32 × Mm)} (hrc27 : ∀ {x1 : Int32} {x2 : Int32} {x3 : Int32} {x4 : Int32} {σ : Mm} {r : Int32 × Mm}, rc27 x1 x2 x3 x4 σ = some r → Z m_X10_findEdges S (Qi r) 27 [(0, .ref (sL S 0 0 29)), (1, .int (x1)), (2, .int (x2)), (3, .int (x3)), (4, .int (x4))] [] σ) {x1 : Int32} {x2 : Int32} {x4 : Int32} {x5 : Int32} {σ : Mm} {r : Int32 × Mm} (h : F_X10_findEdges_120 rc27 x1 x2 x4 x5 σ = some r) : Z m_X10_findEdges S (Qi r) 120 [(0, .ref (sL S 0 0 29)), (1, .int (x1)), (2, .int (x2)), (4, .int (x4)), (5, .int (x5))] [] σ := by
  unfold F_X10_findEdges_120 at h
  refine z_aload_n dX10_findEdges_120 rfl 0 rfl ?_
  refine z_dup dX10_findEdges_121 rfl ?_
  refine gf_10_27 rfl dX10_findEdges_122 ?_
  refine z_iconst (v := 1) dX10_findEdges_125 (by decide) ?_
  refine z_iadd dX10_findEdges_126 ?_
  refine pf_10_27 rfl dX10_findEdges_127 ?_
  exact zb_X10_findEdges_130 hrc27 h
def F_X10_findEdges_119 (rc27 : Int32 → Int32 → Int32 → Int32 → Mm → Option (Int32 × Mm)) (x1 : Int32) (x2 : Int32) (x4 : Int32) (x5 : Int32) (s0 : Int32) (s1 : Int32) (σ : Mm) : Option (Int32 × Mm) := (if inb s1 360 = true then (F_X10_findEdges_120 rc27 x1 x2 x4 x5 (setA σ 0 0 36 (upd (mA σ 0 0 36) s1.toNatClampNeg s0))) else none)
set_option maxRecDepth 20000 in
theorem zb_X10_findEdges_119 {S : Shp} {rc27 : Int32 → Int32 → Int32 → Int32 → Mm → Option (Int32 × Mm)} (hrc27 : ∀ {x1 : Int32} {x2 : Int32} {x3 : Int32} {x4 : Int32} {σ : Mm} {r : Int32 × Mm}, rc27 x1 x2 x3 x4 σ = some r → Z m_X10_findEdges S (Qi r) 27 [(0, .ref (sL S 0 0 29)), (1, .int (x1)), (2, .int (x2)), (3, .int (x3)), (4, .int (x4))] [] σ) {x1 : Int32} {x2 : Int32} {x4 : Int32} {x5 : Int32} {s0 : Int32} {s1 : Int32} {σ : Mm} {r : Int32 × Mm} (h : F_X10_findEdges_119 rc27 x1 x2 x4 x5 s0 s1 σ = some r) : Z m_X10_findEdges S (Qi r) 119 [(0, .ref (sL S 0 0 29)), (1, .int (x1)), (2, .int (x2)), (4, .int (x4)), (5, .int (x5))] [.int (s0), .int (s1), .ref (sL S 0 0 36)] σ := by
  unfold F_X10_findEdges_119 at h
  obtain ⟨g5, h⟩ := gd h
  refine is_0_36 (inb_in g5) dX10_findEdges_119 ?_
  exact zb_X10_findEdges_120 hrc27 h
def F_X10_findEdges_101 (rc27 : Int32 → Int32 → Int32 → Int32 → Mm → Option (Int32 × Mm)) (x1 : Int32) (x2 : Int32) (x4 : Int32) (x5 : Int32) (σ : Mm) : Option (Int32 × Mm) := (if x5 = 0 then (F_X10_findEdges_119 rc27 x1 x2 x4 x5 ((-1)) (mA σ 0 0 29 5) σ) else (F_X10_findEdges_119 rc27 x1 x2 x4 x5 1 (mA σ 0 0 29 5) σ))
set_option maxRecDepth 20000 in
theorem zb_X10_findEdges_101 {S : Shp} {rc27 : Int32 → Int32 → Int32 → Int32 → Mm → Option (Int32 × Mm)} (hrc27 : ∀ {x1 : Int32} {x2 : Int32} {x3 : Int32} {x4 : Int32} {σ : Mm} {r : Int32 × Mm}, rc27 x1 x2 x3 x4 σ = some r → Z m_X10_findEdges S (Qi r) 27 [(0, .ref (sL S 0 0 29)), (1, .int (x1)), (2, .int (x2)), (3, .int (x3)), (4, .int (x4))] [] σ) {x1 : Int32} {x2 : Int32} {x4 : Int32} {x5 : Int32} {σ : Mm} {r : Int32 × Mm} (h : F_X10_findEdges_101 rc27 x1 x2 x4 x5 σ = some r) : Z m_X10_findEdges S (Qi r) 101 [(0, .ref (sL S 0 0 29)), (1, .int (x1)), (2, .int (x2)), (4, .int (x4)), (5, .int (x5))] [] σ := by
  unfold F_X10_findEdges_101 at h
  refine z_aload_n dX10_findEdges_101 rfl 0 rfl ?_
  refine gf_10_34 rfl dX10_findEdges_102 ?_
  refine z_aload_n dX10_findEdges_105 rfl 0 rfl ?_
  refine gf_10_27 rfl dX10_findEdges_106 ?_
  refine z_iload dX10_findEdges_109 4 rfl ?_
  refine z_if_eq (tgt := 118) dX10_findEdges_111 (by decide) (fun q => ?_) (fun q => ?_)
  · have h := (if_pos q).symm.trans h
    refine z_iconst (v := (-1)) dX10_findEdges_118 (by decide) ?_
    exact zb_X10_findEdges_119 hrc27 h
  · have h := (if_neg q).symm.trans h
    refine z_iconst (v := 1) dX10_findEdges_114 (by decide) ?_
    refine z_goto (tgt := 119) dX10_findEdges_115 (by decide) ?_
    exact zb_X10_findEdges_119 hrc27 h
def F_X10_findEdges_84 (rc27 : Int32 → Int32 → Int32 → Int32 → Mm → Option (Int32 × Mm)) (x1 : Int32) (x2 : Int32) (x3 : Int32) (x4 : Int32) (x5 : Int32) (σ : Mm) : Option (Int32 × Mm) := (if x3 = x5 then (F_X10_findEdges_130 rc27 x1 x2 x4 x5 σ) else (if inb (mA σ 0 0 29 5) 360 = true then (F_X10_findEdges_101 rc27 x1 x2 x4 x5 (setA σ 0 0 35 (upd (mA σ 0 0 35) (mA σ 0 0 29 5).toNatClampNeg x4))) else none))
set_option maxRecDepth 20000 in
theorem zb_X10_findEdges_84 {S : Shp} {rc27 : Int32 → Int32 → Int32 → Int32 → Mm → Option (Int32 × Mm)} (hrc27 : ∀ {x1 : Int32} {x2 : Int32} {x3 : Int32} {x4 : Int32} {σ : Mm} {r : Int32 × Mm}, rc27 x1 x2 x3 x4 σ = some r → Z m_X10_findEdges S (Qi r) 27 [(0, .ref (sL S 0 0 29)), (1, .int (x1)), (2, .int (x2)), (3, .int (x3)), (4, .int (x4))] [] σ) {x1 : Int32} {x2 : Int32} {x3 : Int32} {x4 : Int32} {x5 : Int32} {σ : Mm} {r : Int32 × Mm} (h : F_X10_findEdges_84 rc27 x1 x2 x3 x4 x5 σ = some r) : Z m_X10_findEdges S (Qi r) 84 [(0, .ref (sL S 0 0 29)), (1, .int (x1)), (2, .int (x2)), (3, .int (x3)), (4, .int (x4)), (5, .int (x5))] [] σ := by
  unfold F_X10_findEdges_84 at h
  refine z_iload_n dX10_findEdges_84 rfl 3 rfl ?_
  refine z_iload dX10_findEdges_85 5 rfl ?_
  refine z_icmp_eq (tgt := 130) dX10_findEdges_87 (by decide) (fun q => ?_) (fun q => ?_)
  · have h := (if_pos q).symm.trans h
    refine Z.lv [0, 1, 2, 4, 5] rfl ?_
    exact zb_X10_findEdges_130 hrc27 h
  · have h := (if_neg q).symm.trans h
    obtain ⟨g4, h⟩ := gd h
    refine z_aload_n dX10_findEdges_90 rfl 0 rfl ?_
    refine gf_10_31 rfl dX10_findEdges_91 ?_
    refine z_aload_n dX10_findEdges_94 rfl 0 rfl ?_
    refine gf_10_27 rfl dX10_findEdges_95 ?_
    refine z_iload dX10_findEdges_98 4 rfl ?_
    refine is_0_35 (inb_in g4) dX10_findEdges_100 ?_
    refine Z.lv [0, 1, 2, 4, 5] rfl ?_
    exact zb_X10_findEdges_101 hrc27 h
def F_X10_findEdges_68 (rc27 : Int32 → Int32 → Int32 → Int32 → Mm → Option (Int32 × Mm)) (x1 : Int32) (x2 : Int32) (x3 : Int32) (x4 : Int32) (s0 : Int32) (σ : Mm) : Option (Int32 × Mm) := (if x3 = 0 then (F_X10_findEdges_84 rc27 x1 x2 x3 x4 s0 σ) else (if inb x4 360 = true then (F_X10_findEdges_84 rc27 x1 (x2 + (mA σ 0 0 30 x4.toNatClampNeg)) x3 x4 s0 σ) else none))
set_option maxRecDepth 20000 in
theorem zb_X10_findEdges_68 {S : Shp} {rc27 : Int32 → Int32 → Int32 → Int32 → Mm → Option (Int32 × Mm)} (hrc27 : ∀ {x1 : Int32} {x2 : Int32} {x3 : Int32} {x4 : Int32} {σ : Mm} {r : Int32 × Mm}, rc27 x1 x2 x3 x4 σ = some r → Z m_X10_findEdges S (Qi r) 27 [(0, .ref (sL S 0 0 29)), (1, .int (x1)), (2, .int (x2)), (3, .int (x3)), (4, .int (x4))] [] σ) {x1 : Int32} {x2 : Int32} {x3 : Int32} {x4 : Int32} {s0 : Int32} {σ : Mm} {r : Int32 × Mm} (h : F_X10_findEdges_68 rc27 x1 x2 x3 x4 s0 σ = some r) : Z m_X10_findEdges S (Qi r) 68 [(0, .ref (sL S 0 0 29)), (1, .int (x1)), (2, .int (x2)), (3, .int (x3)), (4, .int (x4))] [.int (s0)] σ := by
  unfold F_X10_findEdges_68 at h
  refine z_istore (lv' := [(0, .ref (sL S 0 0 29)), (1, .int (x1)), (2, .int (x2)), (3, .int (x3)), (4, .int (x4)), (5, .int (s0))]) dX10_findEdges_68 (by decide) [1, 2, 3, 4, 5, 0] rfl ?_
  refine z_iload_n dX10_findEdges_70 rfl 3 rfl ?_
  refine z_if_eq (tgt := 84) dX10_findEdges_71 (by decide) (fun q => ?_) (fun q => ?_)
  · have h := (if_pos q).symm.trans h
    exact zb_X10_findEdges_84 hrc27 h
  · have h := (if_neg q).symm.trans h
    obtain ⟨g3, h⟩ := gd h
    refine z_iload_n dX10_findEdges_74 rfl 2 rfl ?_
    refine z_aload_n dX10_findEdges_75 rfl 0 rfl ?_
    refine gf_10_9 rfl dX10_findEdges_76 ?_
    refine z_iload dX10_findEdges_79 4 rfl ?_
    refine ia_0_30 (inb_in g3) dX10_findEdges_81 ?_
    refine z_iadd dX10_findEdges_82 ?_
    refine z_istore_n (lv' := [(0, .ref (sL S 0 0 29)), (1, .int (x1)), (2, .int (x2 + (mA σ 0 0 30 x4.toNatClampNeg))), (3, .int (x3)), (4, .int (x4)), (5, .int (s0))]) dX10_findEdges_83 rfl (by decide) [1, 2, 0, 3, 4, 5] rfl ?_
    exact zb_X10_findEdges_84 hrc27 h
def F_X10_findEdges_57 (rc27 : Int32 → Int32 → Int32 → Int32 → Mm → Option (Int32 × Mm)) (x1 : Int32) (x2 : Int32) (x3 : Int32) (x4 : Int32) (s0 : Int32) (σ : Mm) : Option (Int32 × Mm) := (if inb s0 360 = true then (if ((mA σ 0 0 31 s0.toNatClampNeg) &&& x1) = 0 then (F_X10_findEdges_68 rc27 x1 x2 x3 x4 0 σ) else (F_X10_findEdges_68 rc27 x1 x2 x3 x4 1 σ)) else none)
set_option maxRecDepth 20000 in
theorem zb_X10_findEdges_57 {S : Shp} {rc27 : Int32 → Int32 → Int32 → Int32 → Mm → Option (Int32 × Mm)} (hrc27 : ∀ {x1 : Int32} {x2 : Int32} {x3 : Int32} {x4 : Int32} {σ : Mm} {r : Int32 × Mm}, rc27 x1 x2 x3 x4 σ = some r → Z m_X10_findEdges S (Qi r) 27 [(0, .ref (sL S 0 0 29)), (1, .int (x1)), (2, .int (x2)), (3, .int (x3)), (4, .int (x4))] [] σ) {x1 : Int32} {x2 : Int32} {x3 : Int32} {x4 : Int32} {s0 : Int32} {σ : Mm} {r : Int32 × Mm} (h : F_X10_findEdges_57 rc27 x1 x2 x3 x4 s0 σ = some r) : Z m_X10_findEdges S (Qi r) 57 [(0, .ref (sL S 0 0 29)), (1, .int (x1)), (2, .int (x2)), (3, .int (x3)), (4, .int (x4))] [.int (s0), .ref (sL S 0 0 31)] σ := by
  unfold F_X10_findEdges_57 at h
  obtain ⟨g2, h⟩ := gd h
  refine ia_0_31 (inb_in g2) dX10_findEdges_57 ?_
  refine z_iload_n dX10_findEdges_58 rfl 1 rfl ?_
  refine z_iand dX10_findEdges_59 ?_
  refine z_if_eq (tgt := 67) dX10_findEdges_60 (by decide) (fun q => ?_) (fun q => ?_)
  · have h := (if_pos q).symm.trans h
    refine z_iconst (v := 0) dX10_findEdges_67 (by decide) ?_
    exact zb_X10_findEdges_68 hrc27 h
  · have h := (if_neg q).symm.trans h
    refine z_iconst (v := 1) dX10_findEdges_63 (by decide) ?_
    refine z_goto (tgt := 68) dX10_findEdges_64 (by decide) ?_
    exact zb_X10_findEdges_68 hrc27 h
def B_X10_findEdges_27 (rc27 : Int32 → Int32 → Int32 → Int32 → Mm → Option (Int32 × Mm)) (x1 : Int32) (x2 : Int32) (x3 : Int32) (x4 : Int32) (σ : Mm) : Option (Int32 × Mm) := (if (360 : Int32) ≤ x4 then some (x2, σ) else (if (360 : Int32) ≤ (x4 + (1 : Int32)) then (F_X10_findEdges_57 rc27 x1 x2 x3 x4 0 σ) else (F_X10_findEdges_57 rc27 x1 x2 x3 x4 (x4 + (1 : Int32)) σ)))
set_option maxRecDepth 20000 in
theorem zB_X10_findEdges_27 {S : Shp} {rc27 : Int32 → Int32 → Int32 → Int32 → Mm → Option (Int32 × Mm)} (hrc27 : ∀ {x1 : Int32} {x2 : Int32} {x3 : Int32} {x4 : Int32} {σ : Mm} {r : Int32 × Mm}, rc27 x1 x2 x3 x4 σ = some r → Z m_X10_findEdges S (Qi r) 27 [(0, .ref (sL S 0 0 29)), (1, .int (x1)), (2, .int (x2)), (3, .int (x3)), (4, .int (x4))] [] σ) {x1 : Int32} {x2 : Int32} {x3 : Int32} {x4 : Int32} {σ : Mm} {r : Int32 × Mm} (h : B_X10_findEdges_27 rc27 x1 x2 x3 x4 σ = some r) : Z m_X10_findEdges S (Qi r) 27 [(0, .ref (sL S 0 0 29)), (1, .int (x1)), (2, .int (x2)), (3, .int (x3)), (4, .int (x4))] [] σ := by
  unfold B_X10_findEdges_27 at h
  refine z_iload dX10_findEdges_27 4 rfl ?_
  refine z_sipush (v := 360) dX10_findEdges_29 (by decide) ?_
  refine z_icmp_ge (tgt := 139) dX10_findEdges_32 (by decide) (fun q => ?_) (fun q => ?_)
  · have h := (if_pos q).symm.trans h
    refine z_iload_n dX10_findEdges_139 rfl 2 rfl ?_
    cases h
    exact z_ireturn dX10_findEdges_140 rfl rfl ⟨rfl, rfl⟩
  · have h := (if_neg q).symm.trans h
    refine z_aload_n dX10_findEdges_35 rfl 0 rfl ?_
    refine gf_10_15 rfl dX10_findEdges_36 ?_
    refine z_iload dX10_findEdges_39 4 rfl ?_
    refine z_iconst (v := 1) dX10_findEdges_41 (by decide) ?_
    refine z_iadd dX10_findEdges_42 ?_
    refine z_sipush (v := 360) dX10_findEdges_43 (by decide) ?_
    refine z_icmp_ge (tgt := 56) dX10_findEdges_46 (by decide) (fun q => ?_) (fun q => ?_)
    · have h := (if_pos q).symm.trans h
      refine z_iconst (v := 0) dX10_findEdges_56 (by decide) ?_
      exact zb_X10_findEdges_57 hrc27 h
    · have h := (if_neg q).symm.trans h
      refine z_iload dX10_findEdges_49 4 rfl ?_
      refine z_iconst (v := 1) dX10_findEdges_51 (by decide) ?_
      refine z_iadd dX10_findEdges_52 ?_
      refine z_goto (tgt := 57) dX10_findEdges_53 (by decide) ?_
      exact zb_X10_findEdges_57 hrc27 h
def F_X10_findEdges_27 : Nat → Int32 → Int32 → Int32 → Int32 → Mm → Option (Int32 × Mm)
  | 0 => fun _ _ _ _ _ => none
  | n + 1 => B_X10_findEdges_27 (F_X10_findEdges_27 n)
theorem zl_X10_findEdges_27 {S : Shp} : ∀ (nn : Nat) {x1 : Int32} {x2 : Int32} {x3 : Int32} {x4 : Int32} {σ : Mm} {r : Int32 × Mm}, F_X10_findEdges_27 nn x1 x2 x3 x4 σ = some r → Z m_X10_findEdges S (Qi r) 27 [(0, .ref (sL S 0 0 29)), (1, .int (x1)), (2, .int (x2)), (3, .int (x3)), (4, .int (x4))] [] σ := by
  intro nn
  induction nn with
  | zero => intro x1 x2 x3 x4 σ r h; cases h
  | succ nn ih => intro x1 x2 x3 x4 σ r h; exact zB_X10_findEdges_27 @ih h
def F_X10_findEdges_23 (x1 : Int32) (x2 : Int32) (s0 : Int32) (σ : Mm) : Option (Int32 × Mm) := (F_X10_findEdges_27 FU x1 x2 s0 0 σ)
set_option maxRecDepth 20000 in
theorem zb_X10_findEdges_23 {S : Shp} {x1 : Int32} {x2 : Int32} {s0 : Int32} {σ : Mm} {r : Int32 × Mm} (h : F_X10_findEdges_23 x1 x2 s0 σ = some r) : Z m_X10_findEdges S (Qi r) 23 [(0, .ref (sL S 0 0 29)), (1, .int (x1)), (2, .int (x2))] [.int (s0)] σ := by
  unfold F_X10_findEdges_23 at h
  refine z_istore_n (lv' := [(0, .ref (sL S 0 0 29)), (1, .int (x1)), (2, .int (x2)), (3, .int (s0))]) dX10_findEdges_23 rfl (by decide) [1, 2, 3, 0] rfl ?_
  refine z_iconst (v := 0) dX10_findEdges_24 (by decide) ?_
  refine z_istore (lv' := [(0, .ref (sL S 0 0 29)), (1, .int (x1)), (2, .int (x2)), (3, .int (s0)), (4, .int (0))]) dX10_findEdges_25 (by decide) [1, 2, 3, 4, 0] rfl ?_
  exact zl_X10_findEdges_27 FU h
def F_X10_findEdges_7 (x1 : Int32) (x2 : Int32) (σ : Mm) : Option (Int32 × Mm) := (if inb 0 360 = true then (if ((mA σ 0 0 31 (0 : Int32).toNatClampNeg) &&& x1) = 0 then (F_X10_findEdges_23 x1 x2 0 σ) else (F_X10_findEdges_23 x1 x2 1 σ)) else none)
set_option maxRecDepth 20000 in
theorem zb_X10_findEdges_7 {S : Shp} {x1 : Int32} {x2 : Int32} {σ : Mm} {r : Int32 × Mm} (h : F_X10_findEdges_7 x1 x2 σ = some r) : Z m_X10_findEdges S (Qi r) 7 [(0, .ref (sL S 0 0 29)), (1, .int (x1)), (2, .int (x2))] [] σ := by
  unfold F_X10_findEdges_7 at h
  obtain ⟨g1, h⟩ := gd h
  refine z_aload_n dX10_findEdges_7 rfl 0 rfl ?_
  refine gf_10_15 rfl dX10_findEdges_8 ?_
  refine z_iconst (v := 0) dX10_findEdges_11 (by decide) ?_
  refine ia_0_31 (inb_in g1) dX10_findEdges_12 ?_
  refine z_iload_n dX10_findEdges_13 rfl 1 rfl ?_
  refine z_iand dX10_findEdges_14 ?_
  refine z_if_eq (tgt := 22) dX10_findEdges_15 (by decide) (fun q => ?_) (fun q => ?_)
  · have h := (if_pos q).symm.trans h
    refine z_iconst (v := 0) dX10_findEdges_22 (by decide) ?_
    exact zb_X10_findEdges_23 h
  · have h := (if_neg q).symm.trans h
    refine z_iconst (v := 1) dX10_findEdges_18 (by decide) ?_
    refine z_goto (tgt := 23) dX10_findEdges_19 (by decide) ?_
    exact zb_X10_findEdges_23 h
def F_X10_findEdges (x1 : Int32) (σ : Mm) : Option (Int32 × Mm) := (F_X10_findEdges_7 x1 0 (setA σ 0 0 29 (upd (mA σ 0 0 29) 5 0)))
set_option maxRecDepth 20000 in
theorem zb_X10_findEdges {S : Shp} {x1 : Int32} {σ : Mm} {r : Int32 × Mm} (h : F_X10_findEdges x1 σ = some r) : Z m_X10_findEdges S (Qi r) 0 [(0, .ref (sL S 0 0 29)), (1, .int (x1))] [] σ := by
  unfold F_X10_findEdges at h
  refine z_iconst (v := 0) dX10_findEdges_0 (by decide) ?_
  refine z_istore_n (lv' := [(0, .ref (sL S 0 0 29)), (1, .int (x1)), (2, .int (0))]) dX10_findEdges_1 rfl (by decide) [1, 2, 0] rfl ?_
  refine z_aload_n dX10_findEdges_2 rfl 0 rfl ?_
  refine z_iconst (v := 0) dX10_findEdges_3 (by decide) ?_
  refine pf_10_27 rfl dX10_findEdges_4 ?_
  exact zb_X10_findEdges_7 h
/-- SkyStones$Turns.findEdges(I)I -/
theorem c_X10_findEdges {S : Shp} {x1 : Int32} {σ : Mm} {r : Int32 × Mm} (h : F_X10_findEdges x1 σ = some r) : Ct m_X10_findEdges S [.ref (sL S 0 0 29), .int (x1)] σ (Qi r) := Ct.of (by decide +kernel) (Nat.le_of_ble_eq_true rfl) (zb_X10_findEdges h)
def F_X10_gather_33 (rc10 : Int32 → Mm → Option (Mm)) (x2 : Int32) (σ : Mm) : Option (Mm) := (rc10 (x2 + 1) σ)
set_option maxRecDepth 20000 in
theorem zb_X10_gather_33 {S : Shp} {rc10 : Int32 → Mm → Option (Mm)} (hrc10 : ∀ {x2 : Int32} {σ : Mm} {r : Mm}, rc10 x2 σ = some r → Z m_X10_gather S (Qv r) 10 [(0, .ref (sL S 0 0 29)), (1, .ref (sL S 0 0 15)), (2, .int (x2))] [] σ) {x2 : Int32} {σ : Mm} {r : Mm} (h : F_X10_gather_33 rc10 x2 σ = some r) : Z m_X10_gather S (Qv r) 33 [(0, .ref (sL S 0 0 29)), (1, .ref (sL S 0 0 15)), (2, .int (x2))] [] σ := by
  unfold F_X10_gather_33 at h
  refine z_iinc (j := 2) (v := x2 + 1) (lv' := [(0, .ref (sL S 0 0 29)), (1, .ref (sL S 0 0 15)), (2, .int (x2 + 1))]) dX10_gather_33 rfl rfl (by decide) [1, 2, 0] rfl ?_
  refine z_goto (tgt := 10) dX10_gather_36 (by decide) ?_
  exact hrc10 h
def B_X10_gather_10 (rc10 : Int32 → Mm → Option (Mm)) (x2 : Int32) (σ : Mm) : Option (Mm) := (if (mA σ 0 0 15 8) ≤ x2 then some (σ) else (if inb x2 182 = true then (if inb (mA σ 0 0 24 x2.toNatClampNeg) 360 = true then (if inb (mA σ 0 0 24 x2.toNatClampNeg) 360 = true then (F_X10_gather_33 rc10 x2 (setA σ 0 0 30 (upd (mA σ 0 0 30) (mA σ 0 0 24 x2.toNatClampNeg).toNatClampNeg ((mA σ 0 0 30 (mA σ 0 0 24 x2.toNatClampNeg).toNatClampNeg) + (1 : Int32))))) else none) else none) else none))
set_option maxRecDepth 20000 in
theorem zB_X10_gather_10 {S : Shp} {rc10 : Int32 → Mm → Option (Mm)} (hrc10 : ∀ {x2 : Int32} {σ : Mm} {r : Mm}, rc10 x2 σ = some r → Z m_X10_gather S (Qv r) 10 [(0, .ref (sL S 0 0 29)), (1, .ref (sL S 0 0 15)), (2, .int (x2))] [] σ) {x2 : Int32} {σ : Mm} {r : Mm} (h : B_X10_gather_10 rc10 x2 σ = some r) : Z m_X10_gather S (Qv r) 10 [(0, .ref (sL S 0 0 29)), (1, .ref (sL S 0 0 15)), (2, .int (x2))] [] σ := by
  unfold B_X10_gather_10 at h
  refine z_iload_n dX10_gather_10 rfl 2 rfl ?_
  refine z_aload_n dX10_gather_11 rfl 1 rfl ?_
  refine gf_10_43 rfl dX10_gather_12 ?_
  refine z_icmp_ge (tgt := 39) dX10_gather_15 (by decide) (fun q => ?_) (fun q => ?_)
  · have h := (if_pos q).symm.trans h
    cases h
    exact z_return dX10_gather_39 rfl ⟨rfl, rfl⟩
  · have h := (if_neg q).symm.trans h
    obtain ⟨g1, h⟩ := gd h
    refine z_aload_n dX10_gather_18 rfl 0 rfl ?_
    refine gf_10_9 rfl dX10_gather_19 ?_
    refine z_aload_n dX10_gather_22 rfl 1 rfl ?_
    refine gf_10_48 rfl dX10_gather_23 ?_
    refine z_iload_n dX10_gather_26 rfl 2 rfl ?_
    obtain ⟨g2, h⟩ := gd h
    refine ia_0_24 (inb_in g1) dX10_gather_27 ?_
    refine z_dup2_11 dX10_gather_28 rfl rfl ?_
    obtain ⟨g3, h⟩ := gd h
    refine ia_0_30 (inb_in g2) dX10_gather_29 ?_
    refine z_iconst (v := 1) dX10_gather_30 (by decide) ?_
    refine z_iadd dX10_gather_31 ?_
    refine is_0_30 (inb_in g3) dX10_gather_32 ?_
    exact zb_X10_gather_33 hrc10 h
def F_X10_gather_10 : Nat → Int32 → Mm → Option (Mm)
  | 0 => fun _ _ => none
  | n + 1 => B_X10_gather_10 (F_X10_gather_10 n)
theorem zl_X10_gather_10 {S : Shp} : ∀ (nn : Nat) {x2 : Int32} {σ : Mm} {r : Mm}, F_X10_gather_10 nn x2 σ = some r → Z m_X10_gather S (Qv r) 10 [(0, .ref (sL S 0 0 29)), (1, .ref (sL S 0 0 15)), (2, .int (x2))] [] σ := by
  intro nn
  induction nn with
  | zero => intro x2 σ r h; cases h
  | succ nn ih => intro x2 σ r h; exact zB_X10_gather_10 @ih h
def F_X10_gather_8 (σ : Mm) : Option (Mm) := (F_X10_gather_10 FU 0 σ)
set_option maxRecDepth 20000 in
theorem zb_X10_gather_8 {S : Shp} {σ : Mm} {r : Mm} (h : F_X10_gather_8 σ = some r) : Z m_X10_gather S (Qv r) 8 [(0, .ref (sL S 0 0 29)), (1, .ref (sL S 0 0 15))] [] σ := by
  unfold F_X10_gather_8 at h
  refine z_iconst (v := 0) dX10_gather_8 (by decide) ?_
  refine z_istore_n (lv' := [(0, .ref (sL S 0 0 29)), (1, .ref (sL S 0 0 15)), (2, .int (0))]) dX10_gather_9 rfl (by decide) [1, 2, 0] rfl ?_
  exact zl_X10_gather_10 FU h
def F_X10_gather (σ : Mm) : Option (Mm) := (bnv (F_J7_fill_53178_lk 0 σ) (fun τ => (F_X10_gather_8 τ)))
set_option maxRecDepth 20000 in
theorem zb_X10_gather {S : Shp} {σ : Mm} {r : Mm} (h : F_X10_gather σ = some r) : Z m_X10_gather S (Qv r) 0 [(0, .ref (sL S 0 0 29)), (1, .ref (sL S 0 0 15))] [] σ := by
  unfold F_X10_gather at h
  refine z_aload_n dX10_gather_0 rfl 0 rfl ?_
  refine gf_10_9 rfl dX10_gather_1 ?_
  refine z_iconst (v := 0) dX10_gather_4 (by decide) ?_
  obtain ⟨τ, hc, h⟩ := bnv_e h
  refine z_callS (M' := m_J7_fill_53178) (As := [.ref (sL S 0 0 30), .int (0)]) (rest := []) kl_10_37 oy_J7_fill_53178 ⟨Nat.le_of_ble_eq_true rfl, Nat.le_of_ble_eq_true rfl⟩ rfl (Nat.le_of_ble_eq_true rfl) rfl dX10_gather_5 (c_J7_fill_53178_lk hc) (fun v2 τ2 hq => ?_)
  obtain ⟨rfl, hτ⟩ := hq
  subst τ2
  change Z _ _ _ _ _ [] _
  exact zb_X10_gather_8 h
/-- SkyStones$Turns.gather(LSkyStones$Ground;)V -/
theorem c_X10_gather {S : Shp} {σ : Mm} {r : Mm} (h : F_X10_gather σ = some r) : Ct m_X10_gather S [.ref (sL S 0 0 29), .ref (sL S 0 0 15)] σ (Qv r) := Ct.of (by decide +kernel) (Nat.le_of_ble_eq_true rfl) (zb_X10_gather h)
def F_X10_lower_104 (rc71 : Int32 → Mm → Option (Mm)) (x1 : Int32) (σ : Mm) : Option (Mm) := (rc71 (x1 + 1) σ)
set_option maxRecDepth 20000 in
theorem zb_X10_lower_104 {S : Shp} {rc71 : Int32 → Mm → Option (Mm)} (hrc71 : ∀ {x1 : Int32} {σ : Mm} {r : Mm}, rc71 x1 σ = some r → Z m_X10_lower S (Qv r) 71 [(0, .ref (sL S 0 0 29)), (1, .int (x1))] [] σ) {x1 : Int32} {σ : Mm} {r : Mm} (h : F_X10_lower_104 rc71 x1 σ = some r) : Z m_X10_lower S (Qv r) 104 [(0, .ref (sL S 0 0 29)), (1, .int (x1))] [] σ := by
  unfold F_X10_lower_104 at h
  refine z_iinc (j := 1) (v := x1 + 1) (lv' := [(0, .ref (sL S 0 0 29)), (1, .int (x1 + 1))]) dX10_lower_104 rfl rfl (by decide) [1, 0] rfl ?_
  refine z_goto (tgt := 71) dX10_lower_107 (by decide) ?_
  exact hrc71 h
def B_X10_lower_71 (rc71 : Int32 → Mm → Option (Mm)) (x1 : Int32) (σ : Mm) : Option (Mm) := (if (360 : Int32) ≤ x1 then some (σ) else (if inb x1 360 = true then (if inb x1 360 = true then (if inb (mA σ 0 0 32 x1.toNatClampNeg) 184 = true then (if inb x1 360 = true then (F_X10_lower_104 rc71 x1 (setA σ 0 0 33 (upd (mA σ 0 0 33) x1.toNatClampNeg (f_J9_min_7cf53 (mA σ 0 0 33 x1.toNatClampNeg) (mA σ 0 0 34 (mA σ 0 0 32 x1.toNatClampNeg).toNatClampNeg))))) else none) else none) else none) else none))
set_option maxRecDepth 20000 in
theorem zB_X10_lower_71 {S : Shp} {rc71 : Int32 → Mm → Option (Mm)} (hrc71 : ∀ {x1 : Int32} {σ : Mm} {r : Mm}, rc71 x1 σ = some r → Z m_X10_lower S (Qv r) 71 [(0, .ref (sL S 0 0 29)), (1, .int (x1))] [] σ) {x1 : Int32} {σ : Mm} {r : Mm} (h : B_X10_lower_71 rc71 x1 σ = some r) : Z m_X10_lower S (Qv r) 71 [(0, .ref (sL S 0 0 29)), (1, .int (x1))] [] σ := by
  unfold B_X10_lower_71 at h
  refine z_iload_n dX10_lower_71 rfl 1 rfl ?_
  refine z_sipush (v := 360) dX10_lower_72 (by decide) ?_
  refine z_icmp_ge (tgt := 110) dX10_lower_75 (by decide) (fun q => ?_) (fun q => ?_)
  · have h := (if_pos q).symm.trans h
    cases h
    exact z_return dX10_lower_110 rfl ⟨rfl, rfl⟩
  · have h := (if_neg q).symm.trans h
    obtain ⟨g7, h⟩ := gd h
    refine z_aload_n dX10_lower_78 rfl 0 rfl ?_
    refine gf_10_21 rfl dX10_lower_79 ?_
    refine z_iload_n dX10_lower_82 rfl 1 rfl ?_
    refine z_aload_n dX10_lower_83 rfl 0 rfl ?_
    refine gf_10_21 rfl dX10_lower_84 ?_
    refine z_iload_n dX10_lower_87 rfl 1 rfl ?_
    obtain ⟨g8, h⟩ := gd h
    refine ia_0_33 (inb_in g7) dX10_lower_88 ?_
    refine z_aload_n dX10_lower_89 rfl 0 rfl ?_
    refine gf_10_24 rfl dX10_lower_90 ?_
    refine z_aload_n dX10_lower_93 rfl 0 rfl ?_
    refine gf_10_18 rfl dX10_lower_94 ?_
    refine z_iload_n dX10_lower_97 rfl 1 rfl ?_
    obtain ⟨g9, h⟩ := gd h
    refine ia_0_32 (inb_in g8) dX10_lower_98 ?_
    obtain ⟨g10, h⟩ := gd h
    refine ia_0_34 (inb_in g9) dX10_lower_99 ?_
    refine z_callS (M' := m_J9_min_7cf53) (As := [.int (mA σ 0 0 33 x1.toNatClampNeg), .int (mA σ 0 0 34 (mA σ 0 0 32 x1.toNatClampNeg).toNatClampNeg)]) (rest := [.int (x1), .ref (sL S 0 0 33)]) kl_10_78 oy_J9_min_7cf53 ⟨Nat.le_of_ble_eq_true rfl, Nat.le_of_ble_eq_true rfl⟩ rfl (Nat.le_of_ble_eq_true rfl) rfl dX10_lower_100 (c_J9_min_7cf53 rfl) (fun v τ hq => ?_)
    obtain ⟨rfl, hτ⟩ := hq
    subst τ
    change Z _ _ _ _ _ [.int (f_J9_min_7cf53 (mA σ 0 0 33 x1.toNatClampNeg) (mA σ 0 0 34 (mA σ 0 0 32 x1.toNatClampNeg).toNatClampNeg)), .int (x1), .ref (sL S 0 0 33)] _
    refine is_0_33 (inb_in g10) dX10_lower_103 ?_
    exact zb_X10_lower_104 hrc71 h
def F_X10_lower_71 : Nat → Int32 → Mm → Option (Mm)
  | 0 => fun _ _ => none
  | n + 1 => B_X10_lower_71 (F_X10_lower_71 n)
theorem zl_X10_lower_71 {S : Shp} : ∀ (nn : Nat) {x1 : Int32} {σ : Mm} {r : Mm}, F_X10_lower_71 nn x1 σ = some r → Z m_X10_lower S (Qv r) 71 [(0, .ref (sL S 0 0 29)), (1, .int (x1))] [] σ := by
  intro nn
  induction nn with
  | zero => intro x1 σ r h; cases h
  | succ nn ih => intro x1 σ r h; exact zB_X10_lower_71 @ih h
def F_X10_lower_63 (rc42 : Int32 → Mm → Option (Mm)) (x1 : Int32) (σ : Mm) : Option (Mm) := (rc42 (x1 + (-1)) σ)
set_option maxRecDepth 20000 in
theorem zb_X10_lower_63 {S : Shp} {rc42 : Int32 → Mm → Option (Mm)} (hrc42 : ∀ {x1 : Int32} {σ : Mm} {r : Mm}, rc42 x1 σ = some r → Z m_X10_lower S (Qv r) 42 [(0, .ref (sL S 0 0 29)), (1, .int (x1))] [] σ) {x1 : Int32} {σ : Mm} {r : Mm} (h : F_X10_lower_63 rc42 x1 σ = some r) : Z m_X10_lower S (Qv r) 63 [(0, .ref (sL S 0 0 29)), (1, .int (x1))] [] σ := by
  unfold F_X10_lower_63 at h
  refine z_iinc (j := 1) (v := x1 + (-1)) (lv' := [(0, .ref (sL S 0 0 29)), (1, .int (x1 + (-1)))]) dX10_lower_63 rfl rfl (by decide) [1, 0] rfl ?_
  refine z_goto (tgt := 42) dX10_lower_66 (by decide) ?_
  exact hrc42 h
def B_X10_lower_42 (rc42 : Int32 → Mm → Option (Mm)) (x1 : Int32) (σ : Mm) : Option (Mm) := (if x1 < 0 then (F_X10_lower_71 FU 0 σ) else (if inb x1 184 = true then (if inb (x1 + (1 : Int32)) 184 = true then (if inb x1 184 = true then (F_X10_lower_63 rc42 x1 (setA σ 0 0 34 (upd (mA σ 0 0 34) x1.toNatClampNeg ((mA σ 0 0 34 x1.toNatClampNeg) + (mA σ 0 0 34 (x1 + (1 : Int32)).toNatClampNeg))))) else none) else none) else none))
set_option maxRecDepth 20000 in
theorem zB_X10_lower_42 {S : Shp} {rc42 : Int32 → Mm → Option (Mm)} (hrc42 : ∀ {x1 : Int32} {σ : Mm} {r : Mm}, rc42 x1 σ = some r → Z m_X10_lower S (Qv r) 42 [(0, .ref (sL S 0 0 29)), (1, .int (x1))] [] σ) {x1 : Int32} {σ : Mm} {r : Mm} (h : B_X10_lower_42 rc42 x1 σ = some r) : Z m_X10_lower S (Qv r) 42 [(0, .ref (sL S 0 0 29)), (1, .int (x1))] [] σ := by
  unfold B_X10_lower_42 at h
  refine z_iload_n dX10_lower_42 rfl 1 rfl ?_
  refine z_if_lt (tgt := 69) dX10_lower_43 (by decide) (fun q => ?_) (fun q => ?_)
  · have h := (if_pos q).symm.trans h
    refine z_iconst (v := 0) dX10_lower_69 (by decide) ?_
    refine z_istore_n (lv' := [(0, .ref (sL S 0 0 29)), (1, .int (0))]) dX10_lower_70 rfl (by decide) [1, 0] rfl ?_
    exact zl_X10_lower_71 FU h
  · have h := (if_neg q).symm.trans h
    obtain ⟨g4, h⟩ := gd h
    refine z_aload_n dX10_lower_46 rfl 0 rfl ?_
    refine gf_10_24 rfl dX10_lower_47 ?_
    refine z_iload_n dX10_lower_50 rfl 1 rfl ?_
    refine z_dup2_11 dX10_lower_51 rfl rfl ?_
    obtain ⟨g5, h⟩ := gd h
    refine ia_0_34 (inb_in g4) dX10_lower_52 ?_
    refine z_aload_n dX10_lower_53 rfl 0 rfl ?_
    refine gf_10_24 rfl dX10_lower_54 ?_
    refine z_iload_n dX10_lower_57 rfl 1 rfl ?_
    refine z_iconst (v := 1) dX10_lower_58 (by decide) ?_
    refine z_iadd dX10_lower_59 ?_
    obtain ⟨g6, h⟩ := gd h
    refine ia_0_34 (inb_in g5) dX10_lower_60 ?_
    refine z_iadd dX10_lower_61 ?_
    refine is_0_34 (inb_in g6) dX10_lower_62 ?_
    exact zb_X10_lower_63 hrc42 h
def F_X10_lower_42 : Nat → Int32 → Mm → Option (Mm)
  | 0 => fun _ _ => none
  | n + 1 => B_X10_lower_42 (F_X10_lower_42 n)
theorem zl_X10_lower_42 {S : Shp} : ∀ (nn : Nat) {x1 : Int32} {σ : Mm} {r : Mm}, F_X10_lower_42 nn x1 σ = some r → Z m_X10_lower S (Qv r) 42 [(0, .ref (sL S 0 0 29)), (1, .int (x1))] [] σ := by
  intro nn
  induction nn with
  | zero => intro x1 σ r h; cases h
  | succ nn ih => intro x1 σ r h; exact zB_X10_lower_42 @ih h
def F_X10_lower_32 (rc10 : Int32 → Mm → Option (Mm)) (x1 : Int32) (σ : Mm) : Option (Mm) := (rc10 (x1 + 1) σ)
set_option maxRecDepth 20000 in
theorem zb_X10_lower_32 {S : Shp} {rc10 : Int32 → Mm → Option (Mm)} (hrc10 : ∀ {x1 : Int32} {σ : Mm} {r : Mm}, rc10 x1 σ = some r → Z m_X10_lower S (Qv r) 10 [(0, .ref (sL S 0 0 29)), (1, .int (x1))] [] σ) {x1 : Int32} {σ : Mm} {r : Mm} (h : F_X10_lower_32 rc10 x1 σ = some r) : Z m_X10_lower S (Qv r) 32 [(0, .ref (sL S 0 0 29)), (1, .int (x1))] [] σ := by
  unfold F_X10_lower_32 at h
  refine z_iinc (j := 1) (v := x1 + 1) (lv' := [(0, .ref (sL S 0 0 29)), (1, .int (x1 + 1))]) dX10_lower_32 rfl rfl (by decide) [1, 0] rfl ?_
  refine z_goto (tgt := 10) dX10_lower_35 (by decide) ?_
  exact hrc10 h
def B_X10_lower_10 (rc10 : Int32 → Mm → Option (Mm)) (x1 : Int32) (σ : Mm) : Option (Mm) := (if (360 : Int32) ≤ x1 then (F_X10_lower_42 FU 182 σ) else (if inb x1 360 = true then (if inb (mA σ 0 0 32 x1.toNatClampNeg) 184 = true then (if inb (mA σ 0 0 32 x1.toNatClampNeg) 184 = true then (F_X10_lower_32 rc10 x1 (setA σ 0 0 34 (upd (mA σ 0 0 34) (mA σ 0 0 32 x1.toNatClampNeg).toNatClampNeg ((mA σ 0 0 34 (mA σ 0 0 32 x1.toNatClampNeg).toNatClampNeg) + (1 : Int32))))) else none) else none) else none))
set_option maxRecDepth 20000 in
theorem zB_X10_lower_10 {S : Shp} {rc10 : Int32 → Mm → Option (Mm)} (hrc10 : ∀ {x1 : Int32} {σ : Mm} {r : Mm}, rc10 x1 σ = some r → Z m_X10_lower S (Qv r) 10 [(0, .ref (sL S 0 0 29)), (1, .int (x1))] [] σ) {x1 : Int32} {σ : Mm} {r : Mm} (h : B_X10_lower_10 rc10 x1 σ = some r) : Z m_X10_lower S (Qv r) 10 [(0, .ref (sL S 0 0 29)), (1, .int (x1))] [] σ := by
  unfold B_X10_lower_10 at h
  refine z_iload_n dX10_lower_10 rfl 1 rfl ?_
  refine z_sipush (v := 360) dX10_lower_11 (by decide) ?_
  refine z_icmp_ge (tgt := 38) dX10_lower_14 (by decide) (fun q => ?_) (fun q => ?_)
  · have h := (if_pos q).symm.trans h
    refine z_sipush (v := 182) dX10_lower_38 (by decide) ?_
    refine z_istore_n (lv' := [(0, .ref (sL S 0 0 29)), (1, .int (182))]) dX10_lower_41 rfl (by decide) [1, 0] rfl ?_
    exact zl_X10_lower_42 FU h
  · have h := (if_neg q).symm.trans h
    obtain ⟨g1, h⟩ := gd h
    refine z_aload_n dX10_lower_17 rfl 0 rfl ?_
    refine gf_10_24 rfl dX10_lower_18 ?_
    refine z_aload_n dX10_lower_21 rfl 0 rfl ?_
    refine gf_10_18 rfl dX10_lower_22 ?_
    refine z_iload_n dX10_lower_25 rfl 1 rfl ?_
    obtain ⟨g2, h⟩ := gd h
    refine ia_0_32 (inb_in g1) dX10_lower_26 ?_
    refine z_dup2_11 dX10_lower_27 rfl rfl ?_
    obtain ⟨g3, h⟩ := gd h
    refine ia_0_34 (inb_in g2) dX10_lower_28 ?_
    refine z_iconst (v := 1) dX10_lower_29 (by decide) ?_
    refine z_iadd dX10_lower_30 ?_
    refine is_0_34 (inb_in g3) dX10_lower_31 ?_
    exact zb_X10_lower_32 hrc10 h
def F_X10_lower_10 : Nat → Int32 → Mm → Option (Mm)
  | 0 => fun _ _ => none
  | n + 1 => B_X10_lower_10 (F_X10_lower_10 n)
theorem zl_X10_lower_10 {S : Shp} : ∀ (nn : Nat) {x1 : Int32} {σ : Mm} {r : Mm}, F_X10_lower_10 nn x1 σ = some r → Z m_X10_lower S (Qv r) 10 [(0, .ref (sL S 0 0 29)), (1, .int (x1))] [] σ := by
  intro nn
  induction nn with
  | zero => intro x1 σ r h; cases h
  | succ nn ih => intro x1 σ r h; exact zB_X10_lower_10 @ih h
def F_X10_lower_8 (σ : Mm) : Option (Mm) := (F_X10_lower_10 FU 0 σ)
set_option maxRecDepth 20000 in
theorem zb_X10_lower_8 {S : Shp} {σ : Mm} {r : Mm} (h : F_X10_lower_8 σ = some r) : Z m_X10_lower S (Qv r) 8 [(0, .ref (sL S 0 0 29))] [] σ := by
  unfold F_X10_lower_8 at h
  refine z_iconst (v := 0) dX10_lower_8 (by decide) ?_
  refine z_istore_n (lv' := [(0, .ref (sL S 0 0 29)), (1, .int (0))]) dX10_lower_9 rfl (by decide) [1, 0] rfl ?_
  exact zl_X10_lower_10 FU h
def F_X10_lower (σ : Mm) : Option (Mm) := (bnv (F_J7_fill_53178_ta 0 σ) (fun τ => (F_X10_lower_8 τ)))
set_option maxRecDepth 20000 in
theorem zb_X10_lower {S : Shp} {σ : Mm} {r : Mm} (h : F_X10_lower σ = some r) : Z m_X10_lower S (Qv r) 0 [(0, .ref (sL S 0 0 29))] [] σ := by
  unfold F_X10_lower at h
  refine z_aload_n dX10_lower_0 rfl 0 rfl ?_
  refine gf_10_24 rfl dX10_lower_1 ?_
  refine z_iconst (v := 0) dX10_lower_4 (by decide) ?_
  obtain ⟨τ, hc, h⟩ := bnv_e h
  refine z_callS (M' := m_J7_fill_53178) (As := [.ref (sL S 0 0 34), .int (0)]) (rest := []) kl_10_37 oy_J7_fill_53178 ⟨Nat.le_of_ble_eq_true rfl, Nat.le_of_ble_eq_true rfl⟩ rfl (Nat.le_of_ble_eq_true rfl) rfl dX10_lower_5 (c_J7_fill_53178_ta hc) (fun v2 τ2 hq => ?_)
  obtain ⟨rfl, hτ⟩ := hq
  subst τ2
  change Z _ _ _ _ _ [] _
  exact zb_X10_lower_8 h
/-- SkyStones$Turns.lower()V -/
theorem c_X10_lower {S : Shp} {σ : Mm} {r : Mm} (h : F_X10_lower σ = some r) : Ct m_X10_lower S [.ref (sL S 0 0 29)] σ (Qv r) := Ct.of (by decide +kernel) (Nat.le_of_ble_eq_true rfl) (zb_X10_lower h)
def F_X10_spin_77 (rc8 : Int32 → Int32 → Mm → Option (Mm)) (rc25 : Int32 → Int32 → Int32 → Mm → Option (Mm)) (x2 : Int32) (x3 : Int32) (x4 : Int32) (σ : Mm) : Option (Mm) := (rc25 x2 x3 (x4 + 1) σ)
set_option maxRecDepth 20000 in
theorem zb_X10_spin_77 {S : Shp} {rc8 : Int32 → Int32 → Mm → Option (Mm)} (hrc8 : ∀ {x2 : Int32} {x3 : Int32} {σ : Mm} {r : Mm}, rc8 x2 x3 σ = some r → Z m_X10_spin S (Qv r) 8 [(0, .ref (sL S 0 0 29)), (2, .int (x2)), (3, .int (x3))] [] σ) {rc25 : Int32 → Int32 → Int32 → Mm → Option (Mm)} (hrc25 : ∀ {x2 : Int32} {x3 : Int32} {x4 : Int32} {σ : Mm} {r : Mm}, rc25 x2 x3 x4 σ = some r → Z m_X10_spin S (Qv r) 25 [(0, .ref (sL S 0 0 29)), (2, .int (x2)), (3, .int (x3)), (4, .int (x4))] [] σ) {x2 : Int32} {x3 : Int32} {x4 : Int32} {σ : Mm} {r : Mm} (h : F_X10_spin_77 rc8 rc25 x2 x3 x4 σ = some r) : Z m_X10_spin S (Qv r) 77 [(0, .ref (sL S 0 0 29)), (2, .int (x2)), (3, .int (x3)), (4, .int (x4))] [] σ := by
  unfold F_X10_spin_77 at h
  refine z_iinc (j := 3) (v := x4 + 1) (lv' := [(0, .ref (sL S 0 0 29)), (2, .int (x2)), (3, .int (x3)), (4, .int (x4 + 1))]) dX10_spin_77 rfl rfl (by decide) [1, 2, 3, 0] rfl ?_
  refine z_goto (tgt := 25) dX10_spin_80 (by decide) ?_
  exact hrc25 h
def F_X10_spin_73 (rc8 : Int32 → Int32 → Mm → Option (Mm)) (rc25 : Int32 → Int32 → Int32 → Mm → Option (Mm)) (x3 : Int32) (x4 : Int32) (s0 : Int32) (s2 : Int32) (s3 : Int32) (σ : Mm) : Option (Mm) := (if inb s0 360 = true then (F_X10_spin_77 rc8 rc25 (s3 + (s2 * (mA σ 0 0 30 s0.toNatClampNeg))) x3 x4 σ) else none)
set_option maxRecDepth 20000 in
theorem zb_X10_spin_73 {S : Shp} {rc8 : Int32 → Int32 → Mm → Option (Mm)} (hrc8 : ∀ {x2 : Int32} {x3 : Int32} {σ : Mm} {r : Mm}, rc8 x2 x3 σ = some r → Z m_X10_spin S (Qv r) 8 [(0, .ref (sL S 0 0 29)), (2, .int (x2)), (3, .int (x3))] [] σ) {rc25 : Int32 → Int32 → Int32 → Mm → Option (Mm)} (hrc25 : ∀ {x2 : Int32} {x3 : Int32} {x4 : Int32} {σ : Mm} {r : Mm}, rc25 x2 x3 x4 σ = some r → Z m_X10_spin S (Qv r) 25 [(0, .ref (sL S 0 0 29)), (2, .int (x2)), (3, .int (x3)), (4, .int (x4))] [] σ) {x3 : Int32} {x4 : Int32} {s0 : Int32} {s2 : Int32} {s3 : Int32} {σ : Mm} {r : Mm} (h : F_X10_spin_73 rc8 rc25 x3 x4 s0 s2 s3 σ = some r) : Z m_X10_spin S (Qv r) 73 [(0, .ref (sL S 0 0 29)), (3, .int (x3)), (4, .int (x4))] [.int (s0), .ref (sL S 0 0 30), .int (s2), .int (s3)] σ := by
  unfold F_X10_spin_73 at h
  obtain ⟨g4, h⟩ := gd h
  refine ia_0_30 (inb_in g4) dX10_spin_73 ?_
  refine z_imul dX10_spin_74 ?_
  refine z_iadd dX10_spin_75 ?_
  refine z_istore_n (lv' := [(0, .ref (sL S 0 0 29)), (2, .int (s3 + (s2 * (mA σ 0 0 30 s0.toNatClampNeg)))), (3, .int (x3)), (4, .int (x4))]) dX10_spin_76 rfl (by decide) [1, 0, 2, 3] rfl ?_
  exact zb_X10_spin_77 hrc8 hrc25 h
def F_X10_spin_45 (rc8 : Int32 → Int32 → Mm → Option (Mm)) (rc25 : Int32 → Int32 → Int32 → Mm → Option (Mm)) (x2 : Int32) (x3 : Int32) (x4 : Int32) (x5 : Int32) (σ : Mm) : Option (Mm) := (if inb x4 360 = true then (if 0 ≤ x5 then (F_X10_spin_73 rc8 rc25 x3 x4 x5 (mA σ 0 0 36 x4.toNatClampNeg) x2 σ) else (F_X10_spin_73 rc8 rc25 x3 x4 (x5 + (360 : Int32)) (mA σ 0 0 36 x4.toNatClampNeg) x2 σ)) else none)
set_option maxRecDepth 20000 in
theorem zb_X10_spin_45 {S : Shp} {rc8 : Int32 → Int32 → Mm → Option (Mm)} (hrc8 : ∀ {x2 : Int32} {x3 : Int32} {σ : Mm} {r : Mm}, rc8 x2 x3 σ = some r → Z m_X10_spin S (Qv r) 8 [(0, .ref (sL S 0 0 29)), (2, .int (x2)), (3, .int (x3))] [] σ) {rc25 : Int32 → Int32 → Int32 → Mm → Option (Mm)} (hrc25 : ∀ {x2 : Int32} {x3 : Int32} {x4 : Int32} {σ : Mm} {r : Mm}, rc25 x2 x3 x4 σ = some r → Z m_X10_spin S (Qv r) 25 [(0, .ref (sL S 0 0 29)), (2, .int (x2)), (3, .int (x3)), (4, .int (x4))] [] σ) {x2 : Int32} {x3 : Int32} {x4 : Int32} {x5 : Int32} {σ : Mm} {r : Mm} (h : F_X10_spin_45 rc8 rc25 x2 x3 x4 x5 σ = some r) : Z m_X10_spin S (Qv r) 45 [(0, .ref (sL S 0 0 29)), (2, .int (x2)), (3, .int (x3)), (4, .int (x4)), (5, .int (x5))] [] σ := by
  unfold F_X10_spin_45 at h
  obtain ⟨g3, h⟩ := gd h
  refine z_iload_n dX10_spin_45 rfl 1 rfl ?_
  refine z_aload_n dX10_spin_46 rfl 0 rfl ?_
  refine gf_10_34 rfl dX10_spin_47 ?_
  refine z_iload dX10_spin_50 3 rfl ?_
  refine ia_0_36 (inb_in g3) dX10_spin_52 ?_
  refine z_aload_n dX10_spin_53 rfl 0 rfl ?_
  refine gf_10_9 rfl dX10_spin_54 ?_
  refine z_iload dX10_spin_57 4 rfl ?_
  refine z_if_ge (tgt := 71) dX10_spin_59 (by decide) (fun q => ?_) (fun q => ?_)
  · have h := (if_pos q).symm.trans h
    refine z_iload dX10_spin_71 4 rfl ?_
    refine Z.lv [0, 2, 3] rfl ?_
    exact zb_X10_spin_73 hrc8 hrc25 h
  · have h := (if_neg q).symm.trans h
    refine z_iload dX10_spin_62 4 rfl ?_
    refine z_sipush (v := 360) dX10_spin_64 (by decide) ?_
    refine z_iadd dX10_spin_67 ?_
    refine z_goto (tgt := 73) dX10_spin_68 (by decide) ?_
    refine Z.lv [0, 2, 3] rfl ?_
    exact zb_X10_spin_73 hrc8 hrc25 h
def B_X10_spin_25 (rc8 : Int32 → Int32 → Mm → Option (Mm)) (rc25 : Int32 → Int32 → Int32 → Mm → Option (Mm)) (x2 : Int32) (x3 : Int32) (x4 : Int32) (σ : Mm) : Option (Mm) := (if (mA σ 0 0 29 5) ≤ x4 then (rc8 x2 (x3 + 1) σ) else (if inb x4 360 = true then (F_X10_spin_45 rc8 rc25 x2 x3 x4 ((mA σ 0 0 35 x4.toNatClampNeg) - x3) σ) else none))
set_option maxRecDepth 20000 in
theorem zB_X10_spin_25 {S : Shp} {rc8 : Int32 → Int32 → Mm → Option (Mm)} (hrc8 : ∀ {x2 : Int32} {x3 : Int32} {σ : Mm} {r : Mm}, rc8 x2 x3 σ = some r → Z m_X10_spin S (Qv r) 8 [(0, .ref (sL S 0 0 29)), (2, .int (x2)), (3, .int (x3))] [] σ) {rc25 : Int32 → Int32 → Int32 → Mm → Option (Mm)} (hrc25 : ∀ {x2 : Int32} {x3 : Int32} {x4 : Int32} {σ : Mm} {r : Mm}, rc25 x2 x3 x4 σ = some r → Z m_X10_spin S (Qv r) 25 [(0, .ref (sL S 0 0 29)), (2, .int (x2)), (3, .int (x3)), (4, .int (x4))] [] σ) {x2 : Int32} {x3 : Int32} {x4 : Int32} {σ : Mm} {r : Mm} (h : B_X10_spin_25 rc8 rc25 x2 x3 x4 σ = some r) : Z m_X10_spin S (Qv r) 25 [(0, .ref (sL S 0 0 29)), (2, .int (x2)), (3, .int (x3)), (4, .int (x4))] [] σ := by
  unfold B_X10_spin_25 at h
  refine z_iload dX10_spin_25 3 rfl ?_
  refine z_aload_n dX10_spin_27 rfl 0 rfl ?_
  refine gf_10_27 rfl dX10_spin_28 ?_
  refine z_icmp_ge (tgt := 83) dX10_spin_31 (by decide) (fun q => ?_) (fun q => ?_)
  · have h := (if_pos q).symm.trans h
    refine z_iinc (j := 2) (v := x3 + 1) (lv' := [(0, .ref (sL S 0 0 29)), (2, .int (x2)), (3, .int (x3 + 1)), (4, .int (x4))]) dX10_spin_83 rfl rfl (by decide) [1, 2, 0, 3] rfl ?_
    refine z_goto (tgt := 8) dX10_spin_86 (by decide) ?_
    refine Z.lv [0, 1, 2] rfl ?_
    exact hrc8 h
  · have h := (if_neg q).symm.trans h
    obtain ⟨g2, h⟩ := gd h
    refine z_aload_n dX10_spin_34 rfl 0 rfl ?_
    refine gf_10_31 rfl dX10_spin_35 ?_
    refine z_iload dX10_spin_38 3 rfl ?_
    refine ia_0_35 (inb_in g2) dX10_spin_40 ?_
    refine z_iload_n dX10_spin_41 rfl 2 rfl ?_
    refine z_isub dX10_spin_42 ?_
    refine z_istore (lv' := [(0, .ref (sL S 0 0 29)), (2, .int (x2)), (3, .int (x3)), (4, .int (x4)), (5, .int ((mA σ 0 0 35 x4.toNatClampNeg) - x3))]) dX10_spin_43 (by decide) [1, 2, 3, 4, 0] rfl ?_
    exact zb_X10_spin_45 hrc8 hrc25 h
def F_X10_spin_25 (rc8 : Int32 → Int32 → Mm → Option (Mm)) : Nat → Int32 → Int32 → Int32 → Mm → Option (Mm)
  | 0 => fun _ _ _ _ => none
  | n + 1 => B_X10_spin_25 rc8 (F_X10_spin_25 rc8 n)
theorem zl_X10_spin_25 {S : Shp} {rc8 : Int32 → Int32 → Mm → Option (Mm)} (hrc8 : ∀ {x2 : Int32} {x3 : Int32} {σ : Mm} {r : Mm}, rc8 x2 x3 σ = some r → Z m_X10_spin S (Qv r) 8 [(0, .ref (sL S 0 0 29)), (2, .int (x2)), (3, .int (x3))] [] σ) : ∀ (nn : Nat) {x2 : Int32} {x3 : Int32} {x4 : Int32} {σ : Mm} {r : Mm}, F_X10_spin_25 rc8 nn x2 x3 x4 σ = some r → Z m_X10_spin S (Qv r) 25 [(0, .ref (sL S 0 0 29)), (2, .int (x2)), (3, .int (x3)), (4, .int (x4))] [] σ := by
  intro nn
  induction nn with
  | zero => intro x2 x3 x4 σ r h; cases h
  | succ nn ih => intro x2 x3 x4 σ r h; exact zB_X10_spin_25 hrc8 @ih h
def F_X10_spin_22 (rc8 : Int32 → Int32 → Mm → Option (Mm)) (x2 : Int32) (x3 : Int32) (σ : Mm) : Option (Mm) := (F_X10_spin_25 rc8 FU x2 x3 0 σ)
set_option maxRecDepth 20000 in
theorem zb_X10_spin_22 {S : Shp} {rc8 : Int32 → Int32 → Mm → Option (Mm)} (hrc8 : ∀ {x2 : Int32} {x3 : Int32} {σ : Mm} {r : Mm}, rc8 x2 x3 σ = some r → Z m_X10_spin S (Qv r) 8 [(0, .ref (sL S 0 0 29)), (2, .int (x2)), (3, .int (x3))] [] σ) {x2 : Int32} {x3 : Int32} {σ : Mm} {r : Mm} (h : F_X10_spin_22 rc8 x2 x3 σ = some r) : Z m_X10_spin S (Qv r) 22 [(0, .ref (sL S 0 0 29)), (2, .int (x2)), (3, .int (x3))] [] σ := by
  unfold F_X10_spin_22 at h
  refine z_iconst (v := 0) dX10_spin_22 (by decide) ?_
  refine z_istore (lv' := [(0, .ref (sL S 0 0 29)), (2, .int (x2)), (3, .int (x3)), (4, .int (0))]) dX10_spin_23 (by decide) [1, 2, 3, 0] rfl ?_
  exact zl_X10_spin_25 hrc8 FU h
def B_X10_spin_8 (rc8 : Int32 → Int32 → Mm → Option (Mm)) (x2 : Int32) (x3 : Int32) (σ : Mm) : Option (Mm) := (if (360 : Int32) ≤ x3 then some (σ) else (if inb x3 360 = true then (F_X10_spin_22 rc8 x2 x3 (setA σ 0 0 32 (upd (mA σ 0 0 32) x3.toNatClampNeg x2))) else none))
set_option maxRecDepth 20000 in
theorem zB_X10_spin_8 {S : Shp} {rc8 : Int32 → Int32 → Mm → Option (Mm)} (hrc8 : ∀ {x2 : Int32} {x3 : Int32} {σ : Mm} {r : Mm}, rc8 x2 x3 σ = some r → Z m_X10_spin S (Qv r) 8 [(0, .ref (sL S 0 0 29)), (2, .int (x2)), (3, .int (x3))] [] σ) {x2 : Int32} {x3 : Int32} {σ : Mm} {r : Mm} (h : B_X10_spin_8 rc8 x2 x3 σ = some r) : Z m_X10_spin S (Qv r) 8 [(0, .ref (sL S 0 0 29)), (2, .int (x2)), (3, .int (x3))] [] σ := by
  unfold B_X10_spin_8 at h
  refine z_iload_n dX10_spin_8 rfl 2 rfl ?_
  refine z_sipush (v := 360) dX10_spin_9 (by decide) ?_
  refine z_icmp_ge (tgt := 89) dX10_spin_12 (by decide) (fun q => ?_) (fun q => ?_)
  · have h := (if_pos q).symm.trans h
    cases h
    exact z_return dX10_spin_89 rfl ⟨rfl, rfl⟩
  · have h := (if_neg q).symm.trans h
    obtain ⟨g1, h⟩ := gd h
    refine z_aload_n dX10_spin_15 rfl 0 rfl ?_
    refine gf_10_18 rfl dX10_spin_16 ?_
    refine z_iload_n dX10_spin_19 rfl 2 rfl ?_
    refine z_iload_n dX10_spin_20 rfl 1 rfl ?_
    refine is_0_32 (inb_in g1) dX10_spin_21 ?_
    exact zb_X10_spin_22 hrc8 h
def F_X10_spin_8 : Nat → Int32 → Int32 → Mm → Option (Mm)
  | 0 => fun _ _ _ => none
  | n + 1 => B_X10_spin_8 (F_X10_spin_8 n)
theorem zl_X10_spin_8 {S : Shp} : ∀ (nn : Nat) {x2 : Int32} {x3 : Int32} {σ : Mm} {r : Mm}, F_X10_spin_8 nn x2 x3 σ = some r → Z m_X10_spin S (Qv r) 8 [(0, .ref (sL S 0 0 29)), (2, .int (x2)), (3, .int (x3))] [] σ := by
  intro nn
  induction nn with
  | zero => intro x2 x3 σ r h; cases h
  | succ nn ih => intro x2 x3 σ r h; exact zB_X10_spin_8 @ih h
def F_X10_spin_5 (s0 : Int32) (σ : Mm) : Option (Mm) := (F_X10_spin_8 FU s0 0 σ)
set_option maxRecDepth 20000 in
theorem zb_X10_spin_5 {S : Shp} {s0 : Int32} {σ : Mm} {r : Mm} (h : F_X10_spin_5 s0 σ = some r) : Z m_X10_spin S (Qv r) 5 [(0, .ref (sL S 0 0 29))] [.int (s0)] σ := by
  unfold F_X10_spin_5 at h
  refine z_istore_n (lv' := [(0, .ref (sL S 0 0 29)), (2, .int (s0))]) dX10_spin_5 rfl (by decide) [1, 0] rfl ?_
  refine z_iconst (v := 0) dX10_spin_6 (by decide) ?_
  refine z_istore_n (lv' := [(0, .ref (sL S 0 0 29)), (2, .int (s0)), (3, .int (0))]) dX10_spin_7 rfl (by decide) [1, 2, 0] rfl ?_
  exact zl_X10_spin_8 FU h
def F_X10_spin (x1 : Int32) (σ : Mm) : Option (Mm) := (bnd (F_X10_findEdges x1 σ) (fun v τ => (F_X10_spin_5 v τ)))
set_option maxRecDepth 20000 in
theorem zb_X10_spin {S : Shp} {x1 : Int32} {σ : Mm} {r : Mm} (h : F_X10_spin x1 σ = some r) : Z m_X10_spin S (Qv r) 0 [(0, .ref (sL S 0 0 29)), (1, .int (x1))] [] σ := by
  unfold F_X10_spin at h
  refine z_aload_n dX10_spin_0 rfl 0 rfl ?_
  refine z_iload_n dX10_spin_1 rfl 1 rfl ?_
  obtain ⟨v, τ, hc, h⟩ := bnd_e h
  refine z_callV (M' := m_X10_findEdges) (t := 0) (i := 0) (k := 29) (As := [.int (x1)]) (rest := []) kl_10_56 oy_X10_findEdges ⟨Nat.le_of_ble_eq_true rfl, Nat.le_of_ble_eq_true rfl⟩ rfl rfl rfl rfl (Nat.le_of_ble_eq_true rfl) rfl dX10_spin_2 (c_X10_findEdges hc) (fun v2 τ2 hq => ?_)
  obtain ⟨rfl, hτ⟩ := hq
  subst τ2
  change Z _ _ _ _ _ [.int (v)] _
  refine Z.lv [0] rfl ?_
  exact zb_X10_spin_5 h
/-- SkyStones$Turns.spin(I)V -/
theorem c_X10_spin {S : Shp} {x1 : Int32} {σ : Mm} {r : Mm} (h : F_X10_spin x1 σ = some r) : Ct m_X10_spin S [.ref (sL S 0 0 29), .int (x1)] σ (Qv r) := Ct.of (by decide +kernel) (Nat.le_of_ble_eq_true rfl) (zb_X10_spin h)
def F_X10_sum_20 (rc4 : Int32 → Int32 → Mm → Option (Int32 × Mm)) (x1 : Int32) (x2 : Int32) (σ : Mm) : Option (Int32 × Mm) := (rc4 x1 (x2 + 1) σ)
set_option maxRecDepth 20000 in
theorem zb_X10_sum_20 {S : Shp} {rc4 : Int32 → Int32 → Mm → Option (Int32 × Mm)} (hrc4 : ∀ {x1 : Int32} {x2 : Int32} {σ : Mm} {r : Int32 × Mm}, rc4 x1 x2 σ = some r → Z m_X10_sum S (Qi r) 4 [(0, .ref (sL S 0 0 29)), (1, .int (x1)), (2, .int (x2))] [] σ) {x1 : Int32} {x2 : Int32} {σ : Mm} {r : Int32 × Mm} (h : F_X10_sum_20 rc4 x1 x2 σ = some r) : Z m_X10_sum S (Qi r) 20 [(0, .ref (sL S 0 0 29)), (1, .int (x1)), (2, .int (x2))] [] σ := by
  unfold F_X10_sum_20 at h
  refine z_iinc (j := 2) (v := x2 + 1) (lv' := [(0, .ref (sL S 0 0 29)), (1, .int (x1)), (2, .int (x2 + 1))]) dX10_sum_20 rfl rfl (by decide) [1, 2, 0] rfl ?_
  refine z_goto (tgt := 4) dX10_sum_23 (by decide) ?_
  exact hrc4 h
def B_X10_sum_4 (rc4 : Int32 → Int32 → Mm → Option (Int32 × Mm)) (x1 : Int32) (x2 : Int32) (σ : Mm) : Option (Int32 × Mm) := (if (360 : Int32) ≤ x2 then some (x1, σ) else (if inb x2 360 = true then (F_X10_sum_20 rc4 (x1 + (mA σ 0 0 32 x2.toNatClampNeg)) x2 σ) else none))
set_option maxRecDepth 20000 in
theorem zB_X10_sum_4 {S : Shp} {rc4 : Int32 → Int32 → Mm → Option (Int32 × Mm)} (hrc4 : ∀ {x1 : Int32} {x2 : Int32} {σ : Mm} {r : Int32 × Mm}, rc4 x1 x2 σ = some r → Z m_X10_sum S (Qi r) 4 [(0, .ref (sL S 0 0 29)), (1, .int (x1)), (2, .int (x2))] [] σ) {x1 : Int32} {x2 : Int32} {σ : Mm} {r : Int32 × Mm} (h : B_X10_sum_4 rc4 x1 x2 σ = some r) : Z m_X10_sum S (Qi r) 4 [(0, .ref (sL S 0 0 29)), (1, .int (x1)), (2, .int (x2))] [] σ := by
  unfold B_X10_sum_4 at h
  refine z_iload_n dX10_sum_4 rfl 2 rfl ?_
  refine z_sipush (v := 360) dX10_sum_5 (by decide) ?_
  refine z_icmp_ge (tgt := 26) dX10_sum_8 (by decide) (fun q => ?_) (fun q => ?_)
  · have h := (if_pos q).symm.trans h
    refine z_iload_n dX10_sum_26 rfl 1 rfl ?_
    cases h
    exact z_ireturn dX10_sum_27 rfl rfl ⟨rfl, rfl⟩
  · have h := (if_neg q).symm.trans h
    obtain ⟨g1, h⟩ := gd h
    refine z_iload_n dX10_sum_11 rfl 1 rfl ?_
    refine z_aload_n dX10_sum_12 rfl 0 rfl ?_
    refine gf_10_18 rfl dX10_sum_13 ?_
    refine z_iload_n dX10_sum_16 rfl 2 rfl ?_
    refine ia_0_32 (inb_in g1) dX10_sum_17 ?_
    refine z_iadd dX10_sum_18 ?_
    refine z_istore_n (lv' := [(0, .ref (sL S 0 0 29)), (1, .int (x1 + (mA σ 0 0 32 x2.toNatClampNeg))), (2, .int (x2))]) dX10_sum_19 rfl (by decide) [1, 0, 2] rfl ?_
    exact zb_X10_sum_20 hrc4 h
def F_X10_sum_4 : Nat → Int32 → Int32 → Mm → Option (Int32 × Mm)
  | 0 => fun _ _ _ => none
  | n + 1 => B_X10_sum_4 (F_X10_sum_4 n)
theorem zl_X10_sum_4 {S : Shp} : ∀ (nn : Nat) {x1 : Int32} {x2 : Int32} {σ : Mm} {r : Int32 × Mm}, F_X10_sum_4 nn x1 x2 σ = some r → Z m_X10_sum S (Qi r) 4 [(0, .ref (sL S 0 0 29)), (1, .int (x1)), (2, .int (x2))] [] σ := by
  intro nn
  induction nn with
  | zero => intro x1 x2 σ r h; cases h
  | succ nn ih => intro x1 x2 σ r h; exact zB_X10_sum_4 @ih h
def F_X10_sum (σ : Mm) : Option (Int32 × Mm) := (F_X10_sum_4 FU 0 0 σ)
set_option maxRecDepth 20000 in
theorem zb_X10_sum {S : Shp} {σ : Mm} {r : Int32 × Mm} (h : F_X10_sum σ = some r) : Z m_X10_sum S (Qi r) 0 [(0, .ref (sL S 0 0 29))] [] σ := by
  unfold F_X10_sum at h
  refine z_iconst (v := 0) dX10_sum_0 (by decide) ?_
  refine z_istore_n (lv' := [(0, .ref (sL S 0 0 29)), (1, .int (0))]) dX10_sum_1 rfl (by decide) [1, 0] rfl ?_
  refine z_iconst (v := 0) dX10_sum_2 (by decide) ?_
  refine z_istore_n (lv' := [(0, .ref (sL S 0 0 29)), (1, .int (0)), (2, .int (0))]) dX10_sum_3 rfl (by decide) [1, 2, 0] rfl ?_
  exact zl_X10_sum_4 FU h
/-- SkyStones$Turns.sum()I -/
theorem c_X10_sum {S : Shp} {σ : Mm} {r : Int32 × Mm} (h : F_X10_sum σ = some r) : Ct m_X10_sum S [.ref (sL S 0 0 29)] σ (Qi r) := Ct.of (by decide +kernel) (Nat.le_of_ble_eq_true rfl) (zb_X10_sum h)
def F_X10_tellAfter_52 (rc17 : Int32 → Mm → Option (Mm)) (rc31 : Int32 → Int32 → Mm → Option (Mm)) (x3 : Int32) (x4 : Int32) (σ : Mm) : Option (Mm) := (rc31 x3 (x4 + 1) σ)
set_option maxRecDepth 20000 in
theorem zb_X10_tellAfter_52 {S : Shp} {rc17 : Int32 → Mm → Option (Mm)} (hrc17 : ∀ {x3 : Int32} {σ : Mm} {r : Mm}, rc17 x3 σ = some r → Z m_X10_tellAfter S (Qv r) 17 [(0, .ref (sL S 0 0 29)), (2, .ref (sL S 0 0 25)), (3, .int (x3))] [] σ) {rc31 : Int32 → Int32 → Mm → Option (Mm)} (hrc31 : ∀ {x3 : Int32} {x4 : Int32} {σ : Mm} {r : Mm}, rc31 x3 x4 σ = some r → Z m_X10_tellAfter S (Qv r) 31 [(0, .ref (sL S 0 0 29)), (2, .ref (sL S 0 0 25)), (3, .int (x3)), (4, .int (x4))] [] σ) {x3 : Int32} {x4 : Int32} {σ : Mm} {r : Mm} (h : F_X10_tellAfter_52 rc17 rc31 x3 x4 σ = some r) : Z m_X10_tellAfter S (Qv r) 52 [(0, .ref (sL S 0 0 29)), (2, .ref (sL S 0 0 25)), (3, .int (x3)), (4, .int (x4))] [] σ := by
  unfold F_X10_tellAfter_52 at h
  refine z_iinc (j := 3) (v := x4 + 1) (lv' := [(0, .ref (sL S 0 0 29)), (2, .ref (sL S 0 0 25)), (3, .int (x3)), (4, .int (x4 + 1))]) dX10_tellAfter_52 rfl rfl (by decide) [1, 2, 3, 0] rfl ?_
  refine z_goto (tgt := 31) dX10_tellAfter_55 (by decide) ?_
  exact hrc31 h
def F_X10_tellAfter_48 (rc17 : Int32 → Mm → Option (Mm)) (rc31 : Int32 → Int32 → Mm → Option (Mm)) (x3 : Int32) (x4 : Int32) (σ : Mm) : Option (Mm) := (bnv (F_X10_lower  σ) (fun τ => (F_X10_tellAfter_52 rc17 rc31 x3 x4 τ)))
set_option maxRecDepth 20000 in
theorem zb_X10_tellAfter_48 {S : Shp} {rc17 : Int32 → Mm → Option (Mm)} (hrc17 : ∀ {x3 : Int32} {σ : Mm} {r : Mm}, rc17 x3 σ = some r → Z m_X10_tellAfter S (Qv r) 17 [(0, .ref (sL S 0 0 29)), (2, .ref (sL S 0 0 25)), (3, .int (x3))] [] σ) {rc31 : Int32 → Int32 → Mm → Option (Mm)} (hrc31 : ∀ {x3 : Int32} {x4 : Int32} {σ : Mm} {r : Mm}, rc31 x3 x4 σ = some r → Z m_X10_tellAfter S (Qv r) 31 [(0, .ref (sL S 0 0 29)), (2, .ref (sL S 0 0 25)), (3, .int (x3)), (4, .int (x4))] [] σ) {x3 : Int32} {x4 : Int32} {σ : Mm} {r : Mm} (h : F_X10_tellAfter_48 rc17 rc31 x3 x4 σ = some r) : Z m_X10_tellAfter S (Qv r) 48 [(0, .ref (sL S 0 0 29)), (2, .ref (sL S 0 0 25)), (3, .int (x3)), (4, .int (x4))] [] σ := by
  unfold F_X10_tellAfter_48 at h
  refine z_aload_n dX10_tellAfter_48 rfl 0 rfl ?_
  obtain ⟨τ, hc, h⟩ := bnv_e h
  refine z_callV (M' := m_X10_lower) (t := 0) (i := 0) (k := 29) (As := []) (rest := []) kl_10_75 oy_X10_lower ⟨Nat.le_of_ble_eq_true rfl, Nat.le_of_ble_eq_true rfl⟩ rfl rfl rfl rfl (Nat.le_of_ble_eq_true rfl) rfl dX10_tellAfter_49 (c_X10_lower hc) (fun v2 τ2 hq => ?_)
  obtain ⟨rfl, hτ⟩ := hq
  subst τ2
  change Z _ _ _ _ _ [] _
  exact zb_X10_tellAfter_52 hrc17 hrc31 h
def B_X10_tellAfter_31 (rc17 : Int32 → Mm → Option (Mm)) (rc31 : Int32 → Int32 → Mm → Option (Mm)) (x3 : Int32) (x4 : Int32) (σ : Mm) : Option (Mm) := (if ((1 : Int32) <<< ((mA σ 0 0 25 0) &&& 31)) ≤ x4 then (rc17 (x3 + 1) σ) else (bnv (F_X10_spin x4 σ) (fun τ => (F_X10_tellAfter_48 rc17 rc31 x3 x4 τ))))
set_option maxRecDepth 20000 in
theorem zB_X10_tellAfter_31 {S : Shp} {rc17 : Int32 → Mm → Option (Mm)} (hrc17 : ∀ {x3 : Int32} {σ : Mm} {r : Mm}, rc17 x3 σ = some r → Z m_X10_tellAfter S (Qv r) 17 [(0, .ref (sL S 0 0 29)), (2, .ref (sL S 0 0 25)), (3, .int (x3))] [] σ) {rc31 : Int32 → Int32 → Mm → Option (Mm)} (hrc31 : ∀ {x3 : Int32} {x4 : Int32} {σ : Mm} {r : Mm}, rc31 x3 x4 σ = some r → Z m_X10_tellAfter S (Qv r) 31 [(0, .ref (sL S 0 0 29)), (2, .ref (sL S 0 0 25)), (3, .int (x3)), (4, .int (x4))] [] σ) {x3 : Int32} {x4 : Int32} {σ : Mm} {r : Mm} (h : B_X10_tellAfter_31 rc17 rc31 x3 x4 σ = some r) : Z m_X10_tellAfter S (Qv r) 31 [(0, .ref (sL S 0 0 29)), (2, .ref (sL S 0 0 25)), (3, .int (x3)), (4, .int (x4))] [] σ := by
  unfold B_X10_tellAfter_31 at h
  refine z_iload dX10_tellAfter_31 3 rfl ?_
  refine z_iconst (v := 1) dX10_tellAfter_33 (by decide) ?_
  refine z_aload_n dX10_tellAfter_34 rfl 1 rfl ?_
  refine gf_10_68 rfl dX10_tellAfter_35 ?_
  refine z_ishl dX10_tellAfter_38 ?_
  refine z_icmp_ge (tgt := 58) dX10_tellAfter_39 (by decide) (fun q => ?_) (fun q => ?_)
  · have h := (if_pos q).symm.trans h
    refine z_iinc (j := 2) (v := x3 + 1) (lv' := [(0, .ref (sL S 0 0 29)), (2, .ref (sL S 0 0 25)), (3, .int (x3 + 1)), (4, .int (x4))]) dX10_tellAfter_58 rfl rfl (by decide) [1, 2, 0, 3] rfl ?_
    refine z_goto (tgt := 17) dX10_tellAfter_61 (by decide) ?_
    refine Z.lv [0, 1, 2] rfl ?_
    exact hrc17 h
  · have h := (if_neg q).symm.trans h
    refine z_aload_n dX10_tellAfter_42 rfl 0 rfl ?_
    refine z_iload dX10_tellAfter_43 3 rfl ?_
    obtain ⟨τ, hc, h⟩ := bnv_e h
    refine z_callV (M' := m_X10_spin) (t := 0) (i := 0) (k := 29) (As := [.int (x4)]) (rest := []) kl_10_71 oy_X10_spin ⟨Nat.le_of_ble_eq_true rfl, Nat.le_of_ble_eq_true rfl⟩ rfl rfl rfl rfl (Nat.le_of_ble_eq_true rfl) rfl dX10_tellAfter_45 (c_X10_spin hc) (fun v2 τ2 hq => ?_)
    obtain ⟨rfl, hτ⟩ := hq
    subst τ2
    change Z _ _ _ _ _ [] _
    exact zb_X10_tellAfter_48 hrc17 hrc31 h
def F_X10_tellAfter_31 (rc17 : Int32 → Mm → Option (Mm)) : Nat → Int32 → Int32 → Mm → Option (Mm)
  | 0 => fun _ _ _ => none
  | n + 1 => B_X10_tellAfter_31 rc17 (F_X10_tellAfter_31 rc17 n)
theorem zl_X10_tellAfter_31 {S : Shp} {rc17 : Int32 → Mm → Option (Mm)} (hrc17 : ∀ {x3 : Int32} {σ : Mm} {r : Mm}, rc17 x3 σ = some r → Z m_X10_tellAfter S (Qv r) 17 [(0, .ref (sL S 0 0 29)), (2, .ref (sL S 0 0 25)), (3, .int (x3))] [] σ) : ∀ (nn : Nat) {x3 : Int32} {x4 : Int32} {σ : Mm} {r : Mm}, F_X10_tellAfter_31 rc17 nn x3 x4 σ = some r → Z m_X10_tellAfter S (Qv r) 31 [(0, .ref (sL S 0 0 29)), (2, .ref (sL S 0 0 25)), (3, .int (x3)), (4, .int (x4))] [] σ := by
  intro nn
  induction nn with
  | zero => intro x3 x4 σ r h; cases h
  | succ nn ih => intro x3 x4 σ r h; exact zB_X10_tellAfter_31 hrc17 @ih h
def F_X10_tellAfter_28 (rc17 : Int32 → Mm → Option (Mm)) (x3 : Int32) (σ : Mm) : Option (Mm) := (F_X10_tellAfter_31 rc17 FU x3 1 σ)
set_option maxRecDepth 20000 in
theorem zb_X10_tellAfter_28 {S : Shp} {rc17 : Int32 → Mm → Option (Mm)} (hrc17 : ∀ {x3 : Int32} {σ : Mm} {r : Mm}, rc17 x3 σ = some r → Z m_X10_tellAfter S (Qv r) 17 [(0, .ref (sL S 0 0 29)), (2, .ref (sL S 0 0 25)), (3, .int (x3))] [] σ) {x3 : Int32} {σ : Mm} {r : Mm} (h : F_X10_tellAfter_28 rc17 x3 σ = some r) : Z m_X10_tellAfter S (Qv r) 28 [(0, .ref (sL S 0 0 29)), (2, .ref (sL S 0 0 25)), (3, .int (x3))] [] σ := by
  unfold F_X10_tellAfter_28 at h
  refine z_iconst (v := 1) dX10_tellAfter_28 (by decide) ?_
  refine z_istore (lv' := [(0, .ref (sL S 0 0 29)), (2, .ref (sL S 0 0 25)), (3, .int (x3)), (4, .int (1))]) dX10_tellAfter_29 (by decide) [1, 2, 3, 0] rfl ?_
  exact zl_X10_tellAfter_31 hrc17 FU h
def B_X10_tellAfter_17 (rc17 : Int32 → Mm → Option (Mm)) (x3 : Int32) (σ : Mm) : Option (Mm) := (if (4 : Int32) < x3 then some (σ) else (bnv (F_X10_cover x3 σ) (fun τ => (F_X10_tellAfter_28 rc17 x3 τ))))
set_option maxRecDepth 20000 in
theorem zB_X10_tellAfter_17 {S : Shp} {rc17 : Int32 → Mm → Option (Mm)} (hrc17 : ∀ {x3 : Int32} {σ : Mm} {r : Mm}, rc17 x3 σ = some r → Z m_X10_tellAfter S (Qv r) 17 [(0, .ref (sL S 0 0 29)), (2, .ref (sL S 0 0 25)), (3, .int (x3))] [] σ) {x3 : Int32} {σ : Mm} {r : Mm} (h : B_X10_tellAfter_17 rc17 x3 σ = some r) : Z m_X10_tellAfter S (Qv r) 17 [(0, .ref (sL S 0 0 29)), (2, .ref (sL S 0 0 25)), (3, .int (x3))] [] σ := by
  unfold B_X10_tellAfter_17 at h
  refine z_iload_n dX10_tellAfter_17 rfl 2 rfl ?_
  refine z_iconst (v := 4) dX10_tellAfter_18 (by decide) ?_
  refine z_icmp_gt (tgt := 64) dX10_tellAfter_19 (by decide) (fun q => ?_) (fun q => ?_)
  · have h := (if_pos q).symm.trans h
    cases h
    exact z_return dX10_tellAfter_64 rfl ⟨rfl, rfl⟩
  · have h := (if_neg q).symm.trans h
    refine z_aload_n dX10_tellAfter_22 rfl 0 rfl ?_
    refine z_aload_n dX10_tellAfter_23 rfl 1 rfl ?_
    refine z_iload_n dX10_tellAfter_24 rfl 2 rfl ?_
    obtain ⟨τ, hc, h⟩ := bnv_e h
    refine z_callV (M' := m_X10_cover) (t := 0) (i := 0) (k := 29) (As := [.ref (sL S 0 0 25), .int (x3)]) (rest := []) kl_10_64 oy_X10_cover ⟨Nat.le_of_ble_eq_true rfl, Nat.le_of_ble_eq_true rfl⟩ rfl rfl rfl rfl (Nat.le_of_ble_eq_true rfl) rfl dX10_tellAfter_25 (c_X10_cover hc) (fun v2 τ2 hq => ?_)
    obtain ⟨rfl, hτ⟩ := hq
    subst τ2
    change Z _ _ _ _ _ [] _
    exact zb_X10_tellAfter_28 hrc17 h
def F_X10_tellAfter_17 : Nat → Int32 → Mm → Option (Mm)
  | 0 => fun _ _ => none
  | n + 1 => B_X10_tellAfter_17 (F_X10_tellAfter_17 n)
theorem zl_X10_tellAfter_17 {S : Shp} : ∀ (nn : Nat) {x3 : Int32} {σ : Mm} {r : Mm}, F_X10_tellAfter_17 nn x3 σ = some r → Z m_X10_tellAfter S (Qv r) 17 [(0, .ref (sL S 0 0 29)), (2, .ref (sL S 0 0 25)), (3, .int (x3))] [] σ := by
  intro nn
  induction nn with
  | zero => intro x3 σ r h; cases h
  | succ nn ih => intro x3 σ r h; exact zB_X10_tellAfter_17 @ih h
def F_X10_tellAfter_15 (σ : Mm) : Option (Mm) := (F_X10_tellAfter_17 FU 0 σ)
set_option maxRecDepth 20000 in
theorem zb_X10_tellAfter_15 {S : Shp} {σ : Mm} {r : Mm} (h : F_X10_tellAfter_15 σ = some r) : Z m_X10_tellAfter S (Qv r) 15 [(0, .ref (sL S 0 0 29)), (2, .ref (sL S 0 0 25))] [] σ := by
  unfold F_X10_tellAfter_15 at h
  refine z_iconst (v := 0) dX10_tellAfter_15 (by decide) ?_
  refine z_istore_n (lv' := [(0, .ref (sL S 0 0 29)), (2, .ref (sL S 0 0 25)), (3, .int (0))]) dX10_tellAfter_16 rfl (by decide) [1, 2, 0] rfl ?_
  exact zl_X10_tellAfter_17 FU h
def F_X10_tellAfter_10 (σ : Mm) : Option (Mm) := (bnv (F_X10_gather  σ) (fun τ => (F_X10_tellAfter_15 τ)))
set_option maxRecDepth 20000 in
theorem zb_X10_tellAfter_10 {S : Shp} {σ : Mm} {r : Mm} (h : F_X10_tellAfter_10 σ = some r) : Z m_X10_tellAfter S (Qv r) 10 [(0, .ref (sL S 0 0 29)), (1, .ref (sL S 0 0 15)), (2, .ref (sL S 0 0 25))] [] σ := by
  unfold F_X10_tellAfter_10 at h
  refine z_aload_n dX10_tellAfter_10 rfl 0 rfl ?_
  refine z_aload_n dX10_tellAfter_11 rfl 1 rfl ?_
  obtain ⟨τ, hc, h⟩ := bnv_e h
  refine z_callV (M' := m_X10_gather) (t := 0) (i := 0) (k := 29) (As := [.ref (sL S 0 0 15)]) (rest := []) kl_10_60 oy_X10_gather ⟨Nat.le_of_ble_eq_true rfl, Nat.le_of_ble_eq_true rfl⟩ rfl rfl rfl rfl (Nat.le_of_ble_eq_true rfl) rfl dX10_tellAfter_12 (c_X10_gather hc) (fun v2 τ2 hq => ?_)
  obtain ⟨rfl, hτ⟩ := hq
  subst τ2
  change Z _ _ _ _ _ [] _
  refine Z.lv [0, 2] rfl ?_
  exact zb_X10_tellAfter_15 h
def F_X10_tellAfter (σ : Mm) : Option (Mm) := (bnv (F_J7_fill_53178_le 360 σ) (fun τ => (F_X10_tellAfter_10 τ)))
set_option maxRecDepth 20000 in
theorem zb_X10_tellAfter {S : Shp} {σ : Mm} {r : Mm} (h : F_X10_tellAfter σ = some r) : Z m_X10_tellAfter S (Qv r) 0 [(0, .ref (sL S 0 0 29)), (1, .ref (sL S 0 0 15)), (2, .ref (sL S 0 0 25))] [] σ := by
  unfold F_X10_tellAfter at h
  refine z_aload_n dX10_tellAfter_0 rfl 0 rfl ?_
  refine gf_10_21 rfl dX10_tellAfter_1 ?_
  refine z_sipush (v := 360) dX10_tellAfter_4 (by decide) ?_
  obtain ⟨τ, hc, h⟩ := bnv_e h
  refine z_callS (M' := m_J7_fill_53178) (As := [.ref (sL S 0 0 33), .int (360)]) (rest := []) kl_10_37 oy_J7_fill_53178 ⟨Nat.le_of_ble_eq_true rfl, Nat.le_of_ble_eq_true rfl⟩ rfl (Nat.le_of_ble_eq_true rfl) rfl dX10_tellAfter_7 (c_J7_fill_53178_le hc) (fun v2 τ2 hq => ?_)
  obtain ⟨rfl, hτ⟩ := hq
  subst τ2
  change Z _ _ _ _ _ [] _
  exact zb_X10_tellAfter_10 h
/-- SkyStones$Turns.tellAfter(LSkyStones$Ground;LSkyStones$Sky;)V -/
theorem c_X10_tellAfter {S : Shp} {σ : Mm} {r : Mm} (h : F_X10_tellAfter σ = some r) : Ct m_X10_tellAfter S [.ref (sL S 0 0 29), .ref (sL S 0 0 15), .ref (sL S 0 0 25)] σ (Qv r) := Ct.of (by decide +kernel) (Nat.le_of_ble_eq_true rfl) (zb_X10_tellAfter h)
def F_X7_copy_81 (i0 : Nat) (i1 : Nat) (σ : Mm) : Option (Mm) := some (setA σ 2 i0 5 (va_cpy (mA σ 2 i1 5) (mA σ 2 i0 5) (0 : Int32).toNatClampNeg (0 : Int32).toNatClampNeg (60 : Int32).toNatClampNeg))
set_option maxRecDepth 20000 in
theorem zb_X7_copy_81 {S : Shp} {i0 : Nat} (hi0 : slv (sH S) i0 = true) {i1 : Nat} (hi1 : slv (sH S) i1 = true) {σ : Mm} {r : Mm} (h : F_X7_copy_81 i0 i1 σ = some r) : Z m_X7_copy S (Qv r) 81 [(0, .ref (sL S 2 i0 0)), (1, .ref (sL S 2 i1 0))] [] σ := by
  unfold F_X7_copy_81 at h
  refine z_aload_n dX7_copy_81 rfl 1 rfl ?_
  refine gf_7_31 (lv2 (hi1) rfl) rfl dX7_copy_82 ?_
  refine z_iconst (v := 0) dX7_copy_85 (by decide) ?_
  refine z_aload_n dX7_copy_86 rfl 0 rfl ?_
  refine gf_7_31 (lv2 (hi0) rfl) rfl dX7_copy_87 ?_
  refine z_iconst (v := 0) dX7_copy_90 (by decide) ?_
  refine z_bipush (v := 60) dX7_copy_91 (by decide) ?_
  refine z_copyi (n0 := 60) (n1 := 60) kn_7_34 (lv2 (hi1) rfl) (fun _ _ => rfl) (lv2 (hi0) rfl) (fun _ _ => rfl) (by decide) (by decide) (by decide) (by decide) (by decide) (Nat.le_of_ble_eq_true rfl) (Nat.le_of_ble_eq_true rfl) dX7_copy_93 ?_
  cases h
  exact z_return dX7_copy_96 rfl ⟨rfl, rfl⟩
def F_X7_copy_66 (i0 : Nat) (i1 : Nat) (σ : Mm) : Option (Mm) := (F_X7_copy_81 i0 i1 (setA σ 2 i0 4 (va_cpy (mA σ 2 i1 4) (mA σ 2 i0 4) (0 : Int32).toNatClampNeg (0 : Int32).toNatClampNeg (60 : Int32).toNatClampNeg)))
set_option maxRecDepth 20000 in
theorem zb_X7_copy_66 {S : Shp} {i0 : Nat} (hi0 : slv (sH S) i0 = true) {i1 : Nat} (hi1 : slv (sH S) i1 = true) {σ : Mm} {r : Mm} (h : F_X7_copy_66 i0 i1 σ = some r) : Z m_X7_copy S (Qv r) 66 [(0, .ref (sL S 2 i0 0)), (1, .ref (sL S 2 i1 0))] [] σ := by
  unfold F_X7_copy_66 at h
  refine z_aload_n dX7_copy_66 rfl 1 rfl ?_
  refine gf_7_28 (lv2 (hi1) rfl) rfl dX7_copy_67 ?_
  refine z_iconst (v := 0) dX7_copy_70 (by decide) ?_
  refine z_aload_n dX7_copy_71 rfl 0 rfl ?_
  refine gf_7_28 (lv2 (hi0) rfl) rfl dX7_copy_72 ?_
  refine z_iconst (v := 0) dX7_copy_75 (by decide) ?_
  refine z_bipush (v := 60) dX7_copy_76 (by decide) ?_
  refine z_copyi (n0 := 60) (n1 := 60) kn_7_34 (lv2 (hi1) rfl) (fun _ _ => rfl) (lv2 (hi0) rfl) (fun _ _ => rfl) (by decide) (by decide) (by decide) (by decide) (by decide) (Nat.le_of_ble_eq_true rfl) (Nat.le_of_ble_eq_true rfl) dX7_copy_78 ?_
  exact zb_X7_copy_81 (hi0) (hi1) h
def F_X7_copy_51 (i0 : Nat) (i1 : Nat) (σ : Mm) : Option (Mm) := (F_X7_copy_66 i0 i1 (setA σ 2 i0 3 (va_cpy (mA σ 2 i1 3) (mA σ 2 i0 3) (0 : Int32).toNatClampNeg (0 : Int32).toNatClampNeg (60 : Int32).toNatClampNeg)))
set_option maxRecDepth 20000 in
theorem zb_X7_copy_51 {S : Shp} {i0 : Nat} (hi0 : slv (sH S) i0 = true) {i1 : Nat} (hi1 : slv (sH S) i1 = true) {σ : Mm} {r : Mm} (h : F_X7_copy_51 i0 i1 σ = some r) : Z m_X7_copy S (Qv r) 51 [(0, .ref (sL S 2 i0 0)), (1, .ref (sL S 2 i1 0))] [] σ := by
  unfold F_X7_copy_51 at h
  refine z_aload_n dX7_copy_51 rfl 1 rfl ?_
  refine gf_7_25 (lv2 (hi1) rfl) rfl dX7_copy_52 ?_
  refine z_iconst (v := 0) dX7_copy_55 (by decide) ?_
  refine z_aload_n dX7_copy_56 rfl 0 rfl ?_
  refine gf_7_25 (lv2 (hi0) rfl) rfl dX7_copy_57 ?_
  refine z_iconst (v := 0) dX7_copy_60 (by decide) ?_
  refine z_bipush (v := 60) dX7_copy_61 (by decide) ?_
  refine z_copyi (n0 := 60) (n1 := 60) kn_7_34 (lv2 (hi1) rfl) (fun _ _ => rfl) (lv2 (hi0) rfl) (fun _ _ => rfl) (by decide) (by decide) (by decide) (by decide) (by decide) (Nat.le_of_ble_eq_true rfl) (Nat.le_of_ble_eq_true rfl) dX7_copy_63 ?_
  exact zb_X7_copy_66 (hi0) (hi1) h
def F_X7_copy_36 (i0 : Nat) (i1 : Nat) (σ : Mm) : Option (Mm) := (F_X7_copy_51 i0 i1 (setA σ 2 i0 2 (va_cpy (mA σ 2 i1 2) (mA σ 2 i0 2) (0 : Int32).toNatClampNeg (0 : Int32).toNatClampNeg (60 : Int32).toNatClampNeg)))
set_option maxRecDepth 20000 in
theorem zb_X7_copy_36 {S : Shp} {i0 : Nat} (hi0 : slv (sH S) i0 = true) {i1 : Nat} (hi1 : slv (sH S) i1 = true) {σ : Mm} {r : Mm} (h : F_X7_copy_36 i0 i1 σ = some r) : Z m_X7_copy S (Qv r) 36 [(0, .ref (sL S 2 i0 0)), (1, .ref (sL S 2 i1 0))] [] σ := by
  unfold F_X7_copy_36 at h
  refine z_aload_n dX7_copy_36 rfl 1 rfl ?_
  refine gf_7_22 (lv2 (hi1) rfl) rfl dX7_copy_37 ?_
  refine z_iconst (v := 0) dX7_copy_40 (by decide) ?_
  refine z_aload_n dX7_copy_41 rfl 0 rfl ?_
  refine gf_7_22 (lv2 (hi0) rfl) rfl dX7_copy_42 ?_
  refine z_iconst (v := 0) dX7_copy_45 (by decide) ?_
  refine z_bipush (v := 60) dX7_copy_46 (by decide) ?_
  refine z_copyi (n0 := 60) (n1 := 60) kn_7_34 (lv2 (hi1) rfl) (fun _ _ => rfl) (lv2 (hi0) rfl) (fun _ _ => rfl) (by decide) (by decide) (by decide) (by decide) (by decide) (Nat.le_of_ble_eq_true rfl) (Nat.le_of_ble_eq_true rfl) dX7_copy_48 ?_
  exact zb_X7_copy_51 (hi0) (hi1) h
def F_X7_copy_21 (i0 : Nat) (i1 : Nat) (σ : Mm) : Option (Mm) := (F_X7_copy_36 i0 i1 (setA σ 2 i0 1 (va_cpy (mA σ 2 i1 1) (mA σ 2 i0 1) (0 : Int32).toNatClampNeg (0 : Int32).toNatClampNeg (60 : Int32).toNatClampNeg)))
set_option maxRecDepth 20000 in
theorem zb_X7_copy_21 {S : Shp} {i0 : Nat} (hi0 : slv (sH S) i0 = true) {i1 : Nat} (hi1 : slv (sH S) i1 = true) {σ : Mm} {r : Mm} (h : F_X7_copy_21 i0 i1 σ = some r) : Z m_X7_copy S (Qv r) 21 [(0, .ref (sL S 2 i0 0)), (1, .ref (sL S 2 i1 0))] [] σ := by
  unfold F_X7_copy_21 at h
  refine z_aload_n dX7_copy_21 rfl 1 rfl ?_
  refine gf_7_18 (lv2 (hi1) rfl) rfl dX7_copy_22 ?_
  refine z_iconst (v := 0) dX7_copy_25 (by decide) ?_
  refine z_aload_n dX7_copy_26 rfl 0 rfl ?_
  refine gf_7_18 (lv2 (hi0) rfl) rfl dX7_copy_27 ?_
  refine z_iconst (v := 0) dX7_copy_30 (by decide) ?_
  refine z_bipush (v := 60) dX7_copy_31 (by decide) ?_
  refine z_copyi (n0 := 60) (n1 := 60) kn_7_34 (lv2 (hi1) rfl) (fun _ _ => rfl) (lv2 (hi0) rfl) (fun _ _ => rfl) (by decide) (by decide) (by decide) (by decide) (by decide) (Nat.le_of_ble_eq_true rfl) (Nat.le_of_ble_eq_true rfl) dX7_copy_33 ?_
  exact zb_X7_copy_36 (hi0) (hi1) h
def F_X7_copy_13 (i0 : Nat) (i1 : Nat) (σ : Mm) : Option (Mm) := (F_X7_copy_21 i0 i1 (setA σ 2 i0 0 (upd (mA σ 2 i0 0) 1 (mA σ 2 i1 0 1))))
set_option maxRecDepth 20000 in
theorem zb_X7_copy_13 {S : Shp} {i0 : Nat} (hi0 : slv (sH S) i0 = true) {i1 : Nat} (hi1 : slv (sH S) i1 = true) {σ : Mm} {r : Mm} (h : F_X7_copy_13 i0 i1 σ = some r) : Z m_X7_copy S (Qv r) 13 [(0, .ref (sL S 2 i0 0)), (1, .ref (sL S 2 i1 0))] [] σ := by
  unfold F_X7_copy_13 at h
  refine z_aload_n dX7_copy_13 rfl 0 rfl ?_
  refine z_aload_n dX7_copy_14 rfl 1 rfl ?_
  refine gf_7_15 (lv2 (hi1) rfl) rfl dX7_copy_15 ?_
  refine pf_7_15 (lv2 (hi0) rfl) rfl dX7_copy_18 ?_
  exact zb_X7_copy_21 (hi0) (hi1) h
def F_X7_copy (i0 : Nat) (i1 : Nat) (σ : Mm) : Option (Mm) := (F_X7_copy_13 i0 i1 (setA σ 2 i0 0 (upd (mA σ 2 i0 0) 0 (mA σ 2 i1 0 0))))
set_option maxRecDepth 20000 in
theorem zb_X7_copy {S : Shp} {i0 : Nat} (hi0 : slv (sH S) i0 = true) {i1 : Nat} (hi1 : slv (sH S) i1 = true) {σ : Mm} {r : Mm} (h : F_X7_copy i0 i1 σ = some r) : Z m_X7_copy S (Qv r) 0 [(0, .ref (sL S 2 i0 0)), (1, .ref (sL S 2 i1 0))] [] σ := by
  unfold F_X7_copy at h
  refine z_aload_n dX7_copy_0 rfl 1 rfl ?_
  refine z_ifnonnull (tgt := 5) dX7_copy_1 (by decide) ?_
  refine z_aload_n dX7_copy_5 rfl 0 rfl ?_
  refine z_aload_n dX7_copy_6 rfl 1 rfl ?_
  refine gf_7_9 (lv2 (hi1) rfl) rfl dX7_copy_7 ?_
  refine pf_7_9 (lv2 (hi0) rfl) rfl dX7_copy_10 ?_
  exact zb_X7_copy_13 (hi0) (hi1) h
/-- SkyStones$Survey.copy(LSkyStones$Survey;)V -/
theorem c_X7_copy {S : Shp} {i0 : Nat} (hi0 : slv (sH S) i0 = true) {i1 : Nat} (hi1 : slv (sH S) i1 = true) {σ : Mm} {r : Mm} (h : F_X7_copy i0 i1 σ = some r) : Ct m_X7_copy S [.ref (sL S 2 i0 0), .ref (sL S 2 i1 0)] σ (Qv r) := Ct.of (by decide +kernel) (Nat.le_of_ble_eq_true rfl) (zb_X7_copy hi0 hi1 h)
def F_X9_copy_187 (i0 : Nat) (i1 : Nat) (σ : Mm) : Option (Mm) := (bnv (F_X0_copy i0 i1 σ) (fun τ => some (τ)))
set_option maxRecDepth 20000 in
theorem zb_X9_copy_187 {S : Shp} {i0 : Nat} (hi0 : tlv (sH S) i0 = true) {i1 : Nat} (hi1 : tlv (sH S) i1 = true) {σ : Mm} {r : Mm} (h : F_X9_copy_187 i0 i1 σ = some r) : Z m_X9_copy S (Qv r) 187 [(0, .ref (sL S 1 i0 0)), (1, .ref (sL S 1 i1 0))] [] σ := by
  unfold F_X9_copy_187 at h
  refine z_aload_n dX9_copy_187 rfl 0 rfl ?_
  refine gf_9_61 (lv1 (hi0) rfl) rfl dX9_copy_188 ?_
  refine z_aload_n dX9_copy_191 rfl 1 rfl ?_
  refine gf_9_61 (lv1 (hi1) rfl) rfl dX9_copy_192 ?_
  obtain ⟨τ, hc, h⟩ := bnv_e h
  refine z_callV (M' := m_X0_copy) (t := 1) (i := i0) (k := 10) (As := [.ref (sL S 1 i1 10)]) (rest := []) kl_9_80 oy_X0_copy ⟨Nat.le_of_ble_eq_true rfl, Nat.le_of_ble_eq_true rfl⟩ (lv1 (hi0) rfl) rfl rfl rfl (Nat.le_of_ble_eq_true rfl) rfl dX9_copy_195 (c_X0_copy (hi0) (hi1) hc) (fun v2 τ2 hq => ?_)
  obtain ⟨rfl, hτ⟩ := hq
  subst τ2
  change Z _ _ _ _ _ [] _
  cases h
  exact z_return dX9_copy_198 rfl ⟨rfl, rfl⟩
def F_X9_copy_173 (i0 : Nat) (i1 : Nat) (σ : Mm) : Option (Mm) := (F_X9_copy_187 i0 i1 (setA σ 1 i0 9 (va_cpy (mA σ 1 i1 9) (mA σ 1 i0 9) (0 : Int32).toNatClampNeg (0 : Int32).toNatClampNeg (5 : Int32).toNatClampNeg)))
set_option maxRecDepth 20000 in
theorem zb_X9_copy_173 {S : Shp} {i0 : Nat} (hi0 : tlv (sH S) i0 = true) {i1 : Nat} (hi1 : tlv (sH S) i1 = true) {σ : Mm} {r : Mm} (h : F_X9_copy_173 i0 i1 σ = some r) : Z m_X9_copy S (Qv r) 173 [(0, .ref (sL S 1 i0 0)), (1, .ref (sL S 1 i1 0))] [] σ := by
  unfold F_X9_copy_173 at h
  refine z_aload_n dX9_copy_173 rfl 1 rfl ?_
  refine gf_9_52 (lv1 (hi1) rfl) rfl dX9_copy_174 ?_
  refine z_iconst (v := 0) dX9_copy_177 (by decide) ?_
  refine z_aload_n dX9_copy_178 rfl 0 rfl ?_
  refine gf_9_52 (lv1 (hi0) rfl) rfl dX9_copy_179 ?_
  refine z_iconst (v := 0) dX9_copy_182 (by decide) ?_
  refine z_iconst (v := 5) dX9_copy_183 (by decide) ?_
  refine z_copyi (n0 := 5) (n1 := 5) kn_9_74 (lv1 (hi1) rfl) (fun _ _ => rfl) (lv1 (hi0) rfl) (fun _ _ => rfl) (by decide) (by decide) (by decide) (by decide) (by decide) (Nat.le_of_ble_eq_true rfl) (Nat.le_of_ble_eq_true rfl) dX9_copy_184 ?_
  exact zb_X9_copy_187 (hi0) (hi1) h
def F_X9_copy_158 (i0 : Nat) (i1 : Nat) (σ : Mm) : Option (Mm) := (F_X9_copy_173 i0 i1 (setA σ 1 i0 8 (va_cpy (mA σ 1 i1 8) (mA σ 1 i0 8) (0 : Int32).toNatClampNeg (0 : Int32).toNatClampNeg (12 : Int32).toNatClampNeg)))
set_option maxRecDepth 20000 in
theorem zb_X9_copy_158 {S : Shp} {i0 : Nat} (hi0 : tlv (sH S) i0 = true) {i1 : Nat} (hi1 : tlv (sH S) i1 = true) {σ : Mm} {r : Mm} (h : F_X9_copy_158 i0 i1 σ = some r) : Z m_X9_copy S (Qv r) 158 [(0, .ref (sL S 1 i0 0)), (1, .ref (sL S 1 i1 0))] [] σ := by
  unfold F_X9_copy_158 at h
  refine z_aload_n dX9_copy_158 rfl 1 rfl ?_
  refine gf_9_46 (lv1 (hi1) rfl) rfl dX9_copy_159 ?_
  refine z_iconst (v := 0) dX9_copy_162 (by decide) ?_
  refine z_aload_n dX9_copy_163 rfl 0 rfl ?_
  refine gf_9_46 (lv1 (hi0) rfl) rfl dX9_copy_164 ?_
  refine z_iconst (v := 0) dX9_copy_167 (by decide) ?_
  refine z_bipush (v := 12) dX9_copy_168 (by decide) ?_
  refine z_copyi (n0 := 12) (n1 := 12) kn_9_74 (lv1 (hi1) rfl) (fun _ _ => rfl) (lv1 (hi0) rfl) (fun _ _ => rfl) (by decide) (by decide) (by decide) (by decide) (by decide) (Nat.le_of_ble_eq_true rfl) (Nat.le_of_ble_eq_true rfl) dX9_copy_170 ?_
  exact zb_X9_copy_173 (hi0) (hi1) h
def F_X9_copy_143 (i0 : Nat) (i1 : Nat) (σ : Mm) : Option (Mm) := (F_X9_copy_158 i0 i1 (setA σ 1 i0 7 (va_cpy (mA σ 1 i1 7) (mA σ 1 i0 7) (0 : Int32).toNatClampNeg (0 : Int32).toNatClampNeg (12 : Int32).toNatClampNeg)))
set_option maxRecDepth 20000 in
theorem zb_X9_copy_143 {S : Shp} {i0 : Nat} (hi0 : tlv (sH S) i0 = true) {i1 : Nat} (hi1 : tlv (sH S) i1 = true) {σ : Mm} {r : Mm} (h : F_X9_copy_143 i0 i1 σ = some r) : Z m_X9_copy S (Qv r) 143 [(0, .ref (sL S 1 i0 0)), (1, .ref (sL S 1 i1 0))] [] σ := by
  unfold F_X9_copy_143 at h
  refine z_aload_n dX9_copy_143 rfl 1 rfl ?_
  refine gf_9_43 (lv1 (hi1) rfl) rfl dX9_copy_144 ?_
  refine z_iconst (v := 0) dX9_copy_147 (by decide) ?_
  refine z_aload_n dX9_copy_148 rfl 0 rfl ?_
  refine gf_9_43 (lv1 (hi0) rfl) rfl dX9_copy_149 ?_
  refine z_iconst (v := 0) dX9_copy_152 (by decide) ?_
  refine z_bipush (v := 12) dX9_copy_153 (by decide) ?_
  refine z_copyi (n0 := 12) (n1 := 12) kn_9_74 (lv1 (hi1) rfl) (fun _ _ => rfl) (lv1 (hi0) rfl) (fun _ _ => rfl) (by decide) (by decide) (by decide) (by decide) (by decide) (Nat.le_of_ble_eq_true rfl) (Nat.le_of_ble_eq_true rfl) dX9_copy_155 ?_
  exact zb_X9_copy_158 (hi0) (hi1) h
def F_X9_copy_128 (i0 : Nat) (i1 : Nat) (σ : Mm) : Option (Mm) := (F_X9_copy_143 i0 i1 (setA σ 1 i0 6 (va_cpy (mA σ 1 i1 6) (mA σ 1 i0 6) (0 : Int32).toNatClampNeg (0 : Int32).toNatClampNeg (12 : Int32).toNatClampNeg)))
set_option maxRecDepth 20000 in
theorem zb_X9_copy_128 {S : Shp} {i0 : Nat} (hi0 : tlv (sH S) i0 = true) {i1 : Nat} (hi1 : tlv (sH S) i1 = true) {σ : Mm} {r : Mm} (h : F_X9_copy_128 i0 i1 σ = some r) : Z m_X9_copy S (Qv r) 128 [(0, .ref (sL S 1 i0 0)), (1, .ref (sL S 1 i1 0))] [] σ := by
  unfold F_X9_copy_128 at h
  refine z_aload_n dX9_copy_128 rfl 1 rfl ?_
  refine gf_9_40 (lv1 (hi1) rfl) rfl dX9_copy_129 ?_
  refine z_iconst (v := 0) dX9_copy_132 (by decide) ?_
  refine z_aload_n dX9_copy_133 rfl 0 rfl ?_
  refine gf_9_40 (lv1 (hi0) rfl) rfl dX9_copy_134 ?_
  refine z_iconst (v := 0) dX9_copy_137 (by decide) ?_
  refine z_bipush (v := 12) dX9_copy_138 (by decide) ?_
  refine z_copyi (n0 := 12) (n1 := 12) kn_9_74 (lv1 (hi1) rfl) (fun _ _ => rfl) (lv1 (hi0) rfl) (fun _ _ => rfl) (by decide) (by decide) (by decide) (by decide) (by decide) (Nat.le_of_ble_eq_true rfl) (Nat.le_of_ble_eq_true rfl) dX9_copy_140 ?_
  exact zb_X9_copy_143 (hi0) (hi1) h
def F_X9_copy_113 (i0 : Nat) (i1 : Nat) (σ : Mm) : Option (Mm) := (F_X9_copy_128 i0 i1 (setA σ 1 i0 5 (va_cpy (mA σ 1 i1 5) (mA σ 1 i0 5) (0 : Int32).toNatClampNeg (0 : Int32).toNatClampNeg (14 : Int32).toNatClampNeg)))
set_option maxRecDepth 20000 in
theorem zb_X9_copy_113 {S : Shp} {i0 : Nat} (hi0 : tlv (sH S) i0 = true) {i1 : Nat} (hi1 : tlv (sH S) i1 = true) {σ : Mm} {r : Mm} (h : F_X9_copy_113 i0 i1 σ = some r) : Z m_X9_copy S (Qv r) 113 [(0, .ref (sL S 1 i0 0)), (1, .ref (sL S 1 i1 0))] [] σ := by
  unfold F_X9_copy_113 at h
  refine z_aload_n dX9_copy_113 rfl 1 rfl ?_
  refine gf_9_34 (lv1 (hi1) rfl) rfl dX9_copy_114 ?_
  refine z_iconst (v := 0) dX9_copy_117 (by decide) ?_
  refine z_aload_n dX9_copy_118 rfl 0 rfl ?_
  refine gf_9_34 (lv1 (hi0) rfl) rfl dX9_copy_119 ?_
  refine z_iconst (v := 0) dX9_copy_122 (by decide) ?_
  refine z_bipush (v := 14) dX9_copy_123 (by decide) ?_
  refine z_copyi (n0 := 14) (n1 := 14) kn_9_74 (lv1 (hi1) rfl) (fun _ _ => rfl) (lv1 (hi0) rfl) (fun _ _ => rfl) (by decide) (by decide) (by decide) (by decide) (by decide) (Nat.le_of_ble_eq_true rfl) (Nat.le_of_ble_eq_true rfl) dX9_copy_125 ?_
  exact zb_X9_copy_128 (hi0) (hi1) h
def F_X9_copy_98 (i0 : Nat) (i1 : Nat) (σ : Mm) : Option (Mm) := (F_X9_copy_113 i0 i1 (setA σ 1 i0 4 (va_cpy (mA σ 1 i1 4) (mA σ 1 i0 4) (0 : Int32).toNatClampNeg (0 : Int32).toNatClampNeg (14 : Int32).toNatClampNeg)))
set_option maxRecDepth 20000 in
theorem zb_X9_copy_98 {S : Shp} {i0 : Nat} (hi0 : tlv (sH S) i0 = true) {i1 : Nat} (hi1 : tlv (sH S) i1 = true) {σ : Mm} {r : Mm} (h : F_X9_copy_98 i0 i1 σ = some r) : Z m_X9_copy S (Qv r) 98 [(0, .ref (sL S 1 i0 0)), (1, .ref (sL S 1 i1 0))] [] σ := by
  unfold F_X9_copy_98 at h
  refine z_aload_n dX9_copy_98 rfl 1 rfl ?_
  refine gf_9_28 (lv1 (hi1) rfl) rfl dX9_copy_99 ?_
  refine z_iconst (v := 0) dX9_copy_102 (by decide) ?_
  refine z_aload_n dX9_copy_103 rfl 0 rfl ?_
  refine gf_9_28 (lv1 (hi0) rfl) rfl dX9_copy_104 ?_
  refine z_iconst (v := 0) dX9_copy_107 (by decide) ?_
  refine z_bipush (v := 14) dX9_copy_108 (by decide) ?_
  refine z_copyi (n0 := 14) (n1 := 14) kn_9_74 (lv1 (hi1) rfl) (fun _ _ => rfl) (lv1 (hi0) rfl) (fun _ _ => rfl) (by decide) (by decide) (by decide) (by decide) (by decide) (Nat.le_of_ble_eq_true rfl) (Nat.le_of_ble_eq_true rfl) dX9_copy_110 ?_
  exact zb_X9_copy_113 (hi0) (hi1) h
def F_X9_copy_83 (i0 : Nat) (i1 : Nat) (σ : Mm) : Option (Mm) := (F_X9_copy_98 i0 i1 (setA σ 1 i0 3 (va_cpy (mA σ 1 i1 3) (mA σ 1 i0 3) (0 : Int32).toNatClampNeg (0 : Int32).toNatClampNeg (14 : Int32).toNatClampNeg)))
set_option maxRecDepth 20000 in
theorem zb_X9_copy_83 {S : Shp} {i0 : Nat} (hi0 : tlv (sH S) i0 = true) {i1 : Nat} (hi1 : tlv (sH S) i1 = true) {σ : Mm} {r : Mm} (h : F_X9_copy_83 i0 i1 σ = some r) : Z m_X9_copy S (Qv r) 83 [(0, .ref (sL S 1 i0 0)), (1, .ref (sL S 1 i1 0))] [] σ := by
  unfold F_X9_copy_83 at h
  refine z_aload_n dX9_copy_83 rfl 1 rfl ?_
  refine gf_9_25 (lv1 (hi1) rfl) rfl dX9_copy_84 ?_
  refine z_iconst (v := 0) dX9_copy_87 (by decide) ?_
  refine z_aload_n dX9_copy_88 rfl 0 rfl ?_
  refine gf_9_25 (lv1 (hi0) rfl) rfl dX9_copy_89 ?_
  refine z_iconst (v := 0) dX9_copy_92 (by decide) ?_
  refine z_bipush (v := 14) dX9_copy_93 (by decide) ?_
  refine z_copyi (n0 := 14) (n1 := 14) kn_9_74 (lv1 (hi1) rfl) (fun _ _ => rfl) (lv1 (hi0) rfl) (fun _ _ => rfl) (by decide) (by decide) (by decide) (by decide) (by decide) (Nat.le_of_ble_eq_true rfl) (Nat.le_of_ble_eq_true rfl) dX9_copy_95 ?_
  exact zb_X9_copy_98 (hi0) (hi1) h
def F_X9_copy_68 (i0 : Nat) (i1 : Nat) (σ : Mm) : Option (Mm) := (F_X9_copy_83 i0 i1 (setA σ 1 i0 2 (va_cpy (mA σ 1 i1 2) (mA σ 1 i0 2) (0 : Int32).toNatClampNeg (0 : Int32).toNatClampNeg (14 : Int32).toNatClampNeg)))
set_option maxRecDepth 20000 in
theorem zb_X9_copy_68 {S : Shp} {i0 : Nat} (hi0 : tlv (sH S) i0 = true) {i1 : Nat} (hi1 : tlv (sH S) i1 = true) {σ : Mm} {r : Mm} (h : F_X9_copy_68 i0 i1 σ = some r) : Z m_X9_copy S (Qv r) 68 [(0, .ref (sL S 1 i0 0)), (1, .ref (sL S 1 i1 0))] [] σ := by
  unfold F_X9_copy_68 at h
  refine z_aload_n dX9_copy_68 rfl 1 rfl ?_
  refine gf_9_22 (lv1 (hi1) rfl) rfl dX9_copy_69 ?_
  refine z_iconst (v := 0) dX9_copy_72 (by decide) ?_
  refine z_aload_n dX9_copy_73 rfl 0 rfl ?_
  refine gf_9_22 (lv1 (hi0) rfl) rfl dX9_copy_74 ?_
  refine z_iconst (v := 0) dX9_copy_77 (by decide) ?_
  refine z_bipush (v := 14) dX9_copy_78 (by decide) ?_
  refine z_copyi (n0 := 14) (n1 := 14) kn_9_74 (lv1 (hi1) rfl) (fun _ _ => rfl) (lv1 (hi0) rfl) (fun _ _ => rfl) (by decide) (by decide) (by decide) (by decide) (by decide) (Nat.le_of_ble_eq_true rfl) (Nat.le_of_ble_eq_true rfl) dX9_copy_80 ?_
  exact zb_X9_copy_83 (hi0) (hi1) h
def F_X9_copy_53 (i0 : Nat) (i1 : Nat) (σ : Mm) : Option (Mm) := (F_X9_copy_68 i0 i1 (setA σ 1 i0 1 (va_cpy (mA σ 1 i1 1) (mA σ 1 i0 1) (0 : Int32).toNatClampNeg (0 : Int32).toNatClampNeg (14 : Int32).toNatClampNeg)))
set_option maxRecDepth 20000 in
theorem zb_X9_copy_53 {S : Shp} {i0 : Nat} (hi0 : tlv (sH S) i0 = true) {i1 : Nat} (hi1 : tlv (sH S) i1 = true) {σ : Mm} {r : Mm} (h : F_X9_copy_53 i0 i1 σ = some r) : Z m_X9_copy S (Qv r) 53 [(0, .ref (sL S 1 i0 0)), (1, .ref (sL S 1 i1 0))] [] σ := by
  unfold F_X9_copy_53 at h
  refine z_aload_n dX9_copy_53 rfl 1 rfl ?_
  refine gf_9_18 (lv1 (hi1) rfl) rfl dX9_copy_54 ?_
  refine z_iconst (v := 0) dX9_copy_57 (by decide) ?_
  refine z_aload_n dX9_copy_58 rfl 0 rfl ?_
  refine gf_9_18 (lv1 (hi0) rfl) rfl dX9_copy_59 ?_
  refine z_iconst (v := 0) dX9_copy_62 (by decide) ?_
  refine z_bipush (v := 14) dX9_copy_63 (by decide) ?_
  refine z_copyi (n0 := 14) (n1 := 14) kn_9_74 (lv1 (hi1) rfl) (fun _ _ => rfl) (lv1 (hi0) rfl) (fun _ _ => rfl) (by decide) (by decide) (by decide) (by decide) (by decide) (Nat.le_of_ble_eq_true rfl) (Nat.le_of_ble_eq_true rfl) dX9_copy_65 ?_
  exact zb_X9_copy_68 (hi0) (hi1) h
def F_X9_copy_45 (i0 : Nat) (i1 : Nat) (σ : Mm) : Option (Mm) := (F_X9_copy_53 i0 i1 (setA σ 1 i0 0 (upd (mA σ 1 i0 0) 14 (mA σ 1 i1 0 14))))
set_option maxRecDepth 20000 in
theorem zb_X9_copy_45 {S : Shp} {i0 : Nat} (hi0 : tlv (sH S) i0 = true) {i1 : Nat} (hi1 : tlv (sH S) i1 = true) {σ : Mm} {r : Mm} (h : F_X9_copy_45 i0 i1 σ = some r) : Z m_X9_copy S (Qv r) 45 [(0, .ref (sL S 1 i0 0)), (1, .ref (sL S 1 i1 0))] [] σ := by
  unfold F_X9_copy_45 at h
  refine z_aload_n dX9_copy_45 rfl 0 rfl ?_
  refine z_aload_n dX9_copy_46 rfl 1 rfl ?_
  refine gf_9_55 (lv1 (hi1) rfl) rfl dX9_copy_47 ?_
  refine pf_9_55 (lv1 (hi0) rfl) rfl dX9_copy_50 ?_
  exact zb_X9_copy_53 (hi0) (hi1) h
def F_X9_copy_37 (i0 : Nat) (i1 : Nat) (σ : Mm) : Option (Mm) := (F_X9_copy_45 i0 i1 (setA σ 1 i0 0 (upd (mA σ 1 i0 0) 12 (mA σ 1 i1 0 12))))
set_option maxRecDepth 20000 in
theorem zb_X9_copy_37 {S : Shp} {i0 : Nat} (hi0 : tlv (sH S) i0 = true) {i1 : Nat} (hi1 : tlv (sH S) i1 = true) {σ : Mm} {r : Mm} (h : F_X9_copy_37 i0 i1 σ = some r) : Z m_X9_copy S (Qv r) 37 [(0, .ref (sL S 1 i0 0)), (1, .ref (sL S 1 i1 0))] [] σ := by
  unfold F_X9_copy_37 at h
  refine z_aload_n dX9_copy_37 rfl 0 rfl ?_
  refine z_aload_n dX9_copy_38 rfl 1 rfl ?_
  refine gf_9_49 (lv1 (hi1) rfl) rfl dX9_copy_39 ?_
  refine pf_9_49 (lv1 (hi0) rfl) rfl dX9_copy_42 ?_
  exact zb_X9_copy_45 (hi0) (hi1) h
def F_X9_copy_29 (i0 : Nat) (i1 : Nat) (σ : Mm) : Option (Mm) := (F_X9_copy_37 i0 i1 (setA σ 1 i0 0 (upd (mA σ 1 i0 0) 8 (mA σ 1 i1 0 8))))
set_option maxRecDepth 20000 in
theorem zb_X9_copy_29 {S : Shp} {i0 : Nat} (hi0 : tlv (sH S) i0 = true) {i1 : Nat} (hi1 : tlv (sH S) i1 = true) {σ : Mm} {r : Mm} (h : F_X9_copy_29 i0 i1 σ = some r) : Z m_X9_copy S (Qv r) 29 [(0, .ref (sL S 1 i0 0)), (1, .ref (sL S 1 i1 0))] [] σ := by
  unfold F_X9_copy_29 at h
  refine z_aload_n dX9_copy_29 rfl 0 rfl ?_
  refine z_aload_n dX9_copy_30 rfl 1 rfl ?_
  refine gf_9_37 (lv1 (hi1) rfl) rfl dX9_copy_31 ?_
  refine pf_9_37 (lv1 (hi0) rfl) rfl dX9_copy_34 ?_
  exact zb_X9_copy_37 (hi0) (hi1) h
def F_X9_copy_21 (i0 : Nat) (i1 : Nat) (σ : Mm) : Option (Mm) := (F_X9_copy_29 i0 i1 (setA σ 1 i0 0 (upd (mA σ 1 i0 0) 6 (mA σ 1 i1 0 6))))
set_option maxRecDepth 20000 in
theorem zb_X9_copy_21 {S : Shp} {i0 : Nat} (hi0 : tlv (sH S) i0 = true) {i1 : Nat} (hi1 : tlv (sH S) i1 = true) {σ : Mm} {r : Mm} (h : F_X9_copy_21 i0 i1 σ = some r) : Z m_X9_copy S (Qv r) 21 [(0, .ref (sL S 1 i0 0)), (1, .ref (sL S 1 i1 0))] [] σ := by
  unfold F_X9_copy_21 at h
  refine z_aload_n dX9_copy_21 rfl 0 rfl ?_
  refine z_aload_n dX9_copy_22 rfl 1 rfl ?_
  refine gf_9_31 (lv1 (hi1) rfl) rfl dX9_copy_23 ?_
  refine pf_9_31 (lv1 (hi0) rfl) rfl dX9_copy_26 ?_
  exact zb_X9_copy_29 (hi0) (hi1) h
def F_X9_copy_13 (i0 : Nat) (i1 : Nat) (σ : Mm) : Option (Mm) := (F_X9_copy_21 i0 i1 (setA σ 1 i0 0 (upd (mA σ 1 i0 0) 1 (mA σ 1 i1 0 1))))
set_option maxRecDepth 20000 in
theorem zb_X9_copy_13 {S : Shp} {i0 : Nat} (hi0 : tlv (sH S) i0 = true) {i1 : Nat} (hi1 : tlv (sH S) i1 = true) {σ : Mm} {r : Mm} (h : F_X9_copy_13 i0 i1 σ = some r) : Z m_X9_copy S (Qv r) 13 [(0, .ref (sL S 1 i0 0)), (1, .ref (sL S 1 i1 0))] [] σ := by
  unfold F_X9_copy_13 at h
  refine z_aload_n dX9_copy_13 rfl 0 rfl ?_
  refine z_aload_n dX9_copy_14 rfl 1 rfl ?_
  refine gf_9_15 (lv1 (hi1) rfl) rfl dX9_copy_15 ?_
  refine pf_9_15 (lv1 (hi0) rfl) rfl dX9_copy_18 ?_
  exact zb_X9_copy_21 (hi0) (hi1) h
def F_X9_copy (i0 : Nat) (i1 : Nat) (σ : Mm) : Option (Mm) := (F_X9_copy_13 i0 i1 (setA σ 1 i0 0 (upd (mA σ 1 i0 0) 0 (mA σ 1 i1 0 0))))
set_option maxRecDepth 20000 in
theorem zb_X9_copy {S : Shp} {i0 : Nat} (hi0 : tlv (sH S) i0 = true) {i1 : Nat} (hi1 : tlv (sH S) i1 = true) {σ : Mm} {r : Mm} (h : F_X9_copy i0 i1 σ = some r) : Z m_X9_copy S (Qv r) 0 [(0, .ref (sL S 1 i0 0)), (1, .ref (sL S 1 i1 0))] [] σ := by
  unfold F_X9_copy at h
  refine z_aload_n dX9_copy_0 rfl 1 rfl ?_
  refine z_ifnonnull (tgt := 5) dX9_copy_1 (by decide) ?_
  refine z_aload_n dX9_copy_5 rfl 0 rfl ?_
  refine z_aload_n dX9_copy_6 rfl 1 rfl ?_
  refine gf_9_9 (lv1 (hi1) rfl) rfl dX9_copy_7 ?_
  refine pf_9_9 (lv1 (hi0) rfl) rfl dX9_copy_10 ?_
  exact zb_X9_copy_13 (hi0) (hi1) h
/-- SkyStones$Told.copy(LSkyStones$Told;)V -/
theorem c_X9_copy {S : Shp} {i0 : Nat} (hi0 : tlv (sH S) i0 = true) {i1 : Nat} (hi1 : tlv (sH S) i1 = true) {σ : Mm} {r : Mm} (h : F_X9_copy i0 i1 σ = some r) : Ct m_X9_copy S [.ref (sL S 1 i0 0), .ref (sL S 1 i1 0)] σ (Qv r) := Ct.of (by decide +kernel) (Nat.le_of_ble_eq_true rfl) (zb_X9_copy hi0 hi1 h)
def F_X11_again_55 (H : Nat → Bool) (σ : Mm) : Option (Int32 × Mm) := some (1, σ)
set_option maxRecDepth 20000 in
theorem zb_X11_again_55 {S : Shp} {σ : Mm} {r : Int32 × Mm} (h : F_X11_again_55 (sH S) σ = some r) : Z m_X11_again S (Qi r) 55 [] [] σ := by
  unfold F_X11_again_55 at h
  refine z_iconst (v := 1) dX11_again_55 (by decide) ?_
  cases h
  exact z_ireturn dX11_again_56 rfl rfl ⟨rfl, rfl⟩
def F_X11_again_42 (H : Nat → Bool) (x1 : Int32) (σ : Mm) : Option (Int32 × Mm) := (if inb x1 3 = true then (if H (x1.toNatClampNeg) = true then (bnv (F_X7_copy 0 (1 + x1.toNatClampNeg) σ) (fun τ => (F_X11_again_55 H τ))) else none) else none)
set_option maxRecDepth 20000 in
theorem zb_X11_again_42 {S : Shp} {x1 : Int32} {σ : Mm} {r : Int32 × Mm} (h : F_X11_again_42 (sH S) x1 σ = some r) : Z m_X11_again S (Qi r) 42 [(0, .ref (sL S 0 0 0)), (1, .int (x1))] [] σ := by
  unfold F_X11_again_42 at h
  obtain ⟨g8, h⟩ := gd h
  refine z_aload_n dX11_again_42 rfl 0 rfl ?_
  refine gf_11_38 rfl dX11_again_43 ?_
  refine z_aload_n dX11_again_46 rfl 0 rfl ?_
  refine gf_11_46 rfl dX11_again_47 ?_
  refine z_iload_n dX11_again_50 rfl 1 rfl ?_
  refine z_heldS (inb_in g8) dX11_again_51 ?_
  by_cases g9 : sH S (x1.toNatClampNeg) = true
  · have h := (if_pos g9).symm.trans h
    rw [if_pos g9]
    change Z _ _ _ _ _ [.ref (sL S 2 (1 + x1.toNatClampNeg) 0), .ref (sL S 2 0 0)] _
    obtain ⟨τ, hc, h⟩ := bnv_e h
    refine z_callV (M' := m_X7_copy) (t := 2) (i := 0) (k := 0) (As := [.ref (sL S 2 (1 + x1.toNatClampNeg) 0)]) (rest := []) kl_11_347 oy_X7_copy ⟨Nat.le_of_ble_eq_true rfl, Nat.le_of_ble_eq_true rfl⟩ rfl rfl rfl rfl (Nat.le_of_ble_eq_true rfl) rfl dX11_again_52 (c_X7_copy rfl (sl_held (inb_lt g8) g9) hc) (fun v2 τ2 hq => ?_)
    obtain ⟨rfl, hτ⟩ := hq
    subst τ2
    change Z _ _ _ _ _ [] _
    refine Z.lv [] rfl ?_
    exact zb_X11_again_55 h
  · have h := (if_neg g9).symm.trans h
    rw [if_neg g9]
    change Z _ _ _ _ _ [.null, .ref (sL S 2 0 0)] _
    cases h
def F_X11_again (H : Nat → Bool) (x1 : Int32) (σ : Mm) : Option (Int32 × Mm) := (if x1 < 0 then some (0, σ) else (if (3 : Int32) ≤ x1 then some (0, σ) else (if inb x1 3 = true then (if H (x1.toNatClampNeg) = true then (if inb x1 3 = true then (if H (x1.toNatClampNeg) = true then (if okP σ = true then (if inb x1 3 = true then (if H (x1.toNatClampNeg) = true then (bnv (F_X9_copy (mP σ 0) (2 + x1.toNatClampNeg) σ) (fun τ => (F_X11_again_42 H x1 τ))) else none) else none) else none) else some (0, σ)) else none) else some (0, σ)) else none)))
set_option maxRecDepth 20000 in
theorem zb_X11_again {S : Shp} {x1 : Int32} {σ : Mm} {r : Int32 × Mm} (h : F_X11_again (sH S) x1 σ = some r) : Z m_X11_again S (Qi r) 0 [(0, .ref (sL S 0 0 0)), (1, .int (x1))] [] σ := by
  unfold F_X11_again at h
  refine z_iload_n dX11_again_0 rfl 1 rfl ?_
  refine z_if_lt (tgt := 27) dX11_again_1 (by decide) (fun q => ?_) (fun q => ?_)
  · have h := (if_pos q).symm.trans h
    refine z_iconst (v := 0) dX11_again_27 (by decide) ?_
    cases h
    exact z_ireturn dX11_again_28 rfl rfl ⟨rfl, rfl⟩
  · have h := (if_neg q).symm.trans h
    refine z_iload_n dX11_again_4 rfl 1 rfl ?_
    refine z_iconst (v := 3) dX11_again_5 (by decide) ?_
    refine z_icmp_ge (tgt := 27) dX11_again_6 (by decide) (fun q => ?_) (fun q => ?_)
    · have h := (if_pos q).symm.trans h
      refine z_iconst (v := 0) dX11_again_27 (by decide) ?_
      cases h
      exact z_ireturn dX11_again_28 rfl rfl ⟨rfl, rfl⟩
    · have h := (if_neg q).symm.trans h
      obtain ⟨g1, h⟩ := gd h
      refine z_aload_n dX11_again_9 rfl 0 rfl ?_
      refine gf_11_42 rfl dX11_again_10 ?_
      refine z_iload_n dX11_again_13 rfl 1 rfl ?_
      refine z_heldT (inb_in g1) dX11_again_14 ?_
      by_cases g2 : sH S (x1.toNatClampNeg) = true
      · have h := (if_pos g2).symm.trans h
        obtain ⟨g3, h⟩ := gd h
        rw [if_pos g2]
        change Z _ _ _ _ _ [.ref (sL S 1 (2 + x1.toNatClampNeg) 0)] _
        refine z_ifnull dX11_again_15 ?_
        refine z_aload_n dX11_again_18 rfl 0 rfl ?_
        refine gf_11_46 rfl dX11_again_19 ?_
        refine z_iload_n dX11_again_22 rfl 1 rfl ?_
        refine z_heldS (inb_in g3) dX11_again_23 ?_
        by_cases g4 : sH S (x1.toNatClampNeg) = true
        · have h := (if_pos g4).symm.trans h
          obtain ⟨g5, h⟩ := gd h
          rw [if_pos g4]
          change Z _ _ _ _ _ [.ref (sL S 2 (1 + x1.toNatClampNeg) 0)] _
          refine z_ifnonnull (tgt := 29) dX11_again_24 (by decide) ?_
          refine z_aload_n dX11_again_29 rfl 0 rfl ?_
          obtain ⟨g6, h⟩ := gd h
          have hp := g5
          refine gf_11_19 rfl dX11_again_30 ?_
          refine z_aload_n dX11_again_33 rfl 0 rfl ?_
          refine gf_11_42 rfl dX11_again_34 ?_
          refine z_iload_n dX11_again_37 rfl 1 rfl ?_
          refine z_heldT (inb_in g6) dX11_again_38 ?_
          by_cases g7 : sH S (x1.toNatClampNeg) = true
          · have h := (if_pos g7).symm.trans h
            rw [if_pos g7]
            change Z _ _ _ _ _ [.ref (sL S 1 (2 + x1.toNatClampNeg) 0), .ref (sL S 1 (mP σ 0) 0)] _
            obtain ⟨τ, hc, h⟩ := bnv_e h
            refine z_callV (M' := m_X9_copy) (t := 1) (i := (mP σ 0)) (k := 0) (As := [.ref (sL S 1 (2 + x1.toNatClampNeg) 0)]) (rest := []) kl_11_344 oy_X9_copy ⟨Nat.le_of_ble_eq_true rfl, Nat.le_of_ble_eq_true rfl⟩ (lv1 (okP_0 hp) rfl) rfl rfl rfl (Nat.le_of_ble_eq_true rfl) rfl dX11_again_39 (c_X9_copy (okP_0 hp) (tl_held (inb_lt g6) g7) hc) (fun v2 τ2 hq => ?_)
            obtain ⟨rfl, hτ⟩ := hq
            subst τ2
            change Z _ _ _ _ _ [] _
            exact zb_X11_again_42 h
          · have h := (if_neg g7).symm.trans h
            rw [if_neg g7]
            change Z _ _ _ _ _ [.null, .ref (sL S 1 (mP σ 0) 0)] _
            cases h
        · have h := (if_neg g4).symm.trans h
          rw [if_neg g4]
          change Z _ _ _ _ _ [.null] _
          refine z_ifnonnullN dX11_again_24 ?_
          refine z_iconst (v := 0) dX11_again_27 (by decide) ?_
          cases h
          exact z_ireturn dX11_again_28 rfl rfl ⟨rfl, rfl⟩
      · have h := (if_neg g2).symm.trans h
        rw [if_neg g2]
        change Z _ _ _ _ _ [.null] _
        refine z_ifnullN (tgt := 27) dX11_again_15 (by decide) ?_
        refine z_iconst (v := 0) dX11_again_27 (by decide) ?_
        cases h
        exact z_ireturn dX11_again_28 rfl rfl ⟨rfl, rfl⟩
/-- SkyStones.again(I)Z -/
theorem c_X11_again {S : Shp} {x1 : Int32} {σ : Mm} {r : Int32 × Mm} (h : F_X11_again (sH S) x1 σ = some r) : Ct m_X11_again S [.ref (sL S 0 0 0), .int (x1)] σ (Qi r) := Ct.of (by decide +kernel) (Nat.le_of_ble_eq_true rfl) (zb_X11_again h)
def f_X11_isKnown (x1 : Int32) (σ : Mm) : Int32 := (if x1 < 0 then 0 else (if (mA σ 2 0 0 0) < x1 then 0 else 1))
set_option maxRecDepth 20000 in
theorem zb_X11_isKnown {S : Shp} {x1 : Int32} {σ : Mm} {r : Int32} (hp : okP σ = true) (h : f_X11_isKnown x1 σ = r) : Z m_X11_isKnown S (Qi (r, σ)) 0 [(0, .ref (sL S 0 0 0)), (1, .int (x1))] [] σ := by
  unfold f_X11_isKnown at h
  refine z_iload_n dX11_isKnown_0 rfl 1 rfl ?_
  refine z_if_lt (tgt := 19) dX11_isKnown_1 (by decide) (fun q => ?_) (fun q => ?_)
  · have h := (if_pos q).symm.trans h
    refine z_iconst (v := 0) dX11_isKnown_19 (by decide) ?_
    subst h
    exact z_ireturn dX11_isKnown_20 rfl rfl ⟨rfl, rfl⟩
  · have h := (if_neg q).symm.trans h
    refine z_iload_n dX11_isKnown_4 rfl 1 rfl ?_
    refine z_aload_n dX11_isKnown_5 rfl 0 rfl ?_
    refine gf_11_38 rfl dX11_isKnown_6 ?_
    refine gf_11_128 (rfl) rfl dX11_isKnown_9 ?_
    refine z_icmp_gt (tgt := 19) dX11_isKnown_12 (by decide) (fun q => ?_) (fun q => ?_)
    · have h := (if_pos q).symm.trans h
      refine z_iconst (v := 0) dX11_isKnown_19 (by decide) ?_
      subst h
      exact z_ireturn dX11_isKnown_20 rfl rfl ⟨rfl, rfl⟩
    · have h := (if_neg q).symm.trans h
      refine z_iconst (v := 1) dX11_isKnown_15 (by decide) ?_
      refine z_goto (tgt := 20) dX11_isKnown_16 (by decide) ?_
      subst h
      exact z_ireturn dX11_isKnown_20 rfl rfl ⟨rfl, rfl⟩
/-- SkyStones.isKnown(I)Z -/
theorem c_X11_isKnown {S : Shp} {x1 : Int32} {σ : Mm} {r : Int32} (hp : okP σ = true) (h : f_X11_isKnown x1 σ = r) : Ct m_X11_isKnown S [.ref (sL S 0 0 0), .int (x1)] σ (Qi (r, σ)) := Ct.of (by decide +kernel) (Nat.le_of_ble_eq_true rfl) (zb_X11_isKnown hp h)
def f_X11_isYear (x0 : Int32) : Int32 := (if x0 < 0 then 0 else (if (5000 : Int32) < x0 then 0 else 1))
set_option maxRecDepth 20000 in
theorem zb_X11_isYear {S : Shp} {x0 : Int32} {σ : Mm} {r : Int32} (h : f_X11_isYear x0 = r) : Z m_X11_isYear S (Qi (r, σ)) 0 [(0, .int (x0))] [] σ := by
  unfold f_X11_isYear at h
  refine z_iload_n dX11_isYear_0 rfl 0 rfl ?_
  refine z_if_lt (tgt := 15) dX11_isYear_1 (by decide) (fun q => ?_) (fun q => ?_)
  · have h := (if_pos q).symm.trans h
    refine z_iconst (v := 0) dX11_isYear_15 (by decide) ?_
    subst h
    exact z_ireturn dX11_isYear_16 rfl rfl ⟨rfl, rfl⟩
  · have h := (if_neg q).symm.trans h
    refine z_iload_n dX11_isYear_4 rfl 0 rfl ?_
    refine z_sipush (v := 5000) dX11_isYear_5 (by decide) ?_
    refine z_icmp_gt (tgt := 15) dX11_isYear_8 (by decide) (fun q => ?_) (fun q => ?_)
    · have h := (if_pos q).symm.trans h
      refine z_iconst (v := 0) dX11_isYear_15 (by decide) ?_
      subst h
      exact z_ireturn dX11_isYear_16 rfl rfl ⟨rfl, rfl⟩
    · have h := (if_neg q).symm.trans h
      refine z_iconst (v := 1) dX11_isYear_11 (by decide) ?_
      refine z_goto (tgt := 16) dX11_isYear_12 (by decide) ?_
      subst h
      exact z_ireturn dX11_isYear_16 rfl rfl ⟨rfl, rfl⟩
/-- SkyStones.isYear(I)Z -/
theorem c_X11_isYear {S : Shp} {x0 : Int32} {σ : Mm} {r : Int32} (h : f_X11_isYear x0 = r) : Ct m_X11_isYear S [.int (x0)] σ (Qi (r, σ)) := Ct.of (by decide +kernel) (Nat.le_of_ble_eq_true rfl) (zb_X11_isYear h)
def f_X11_isAsked (x1 : Int32) (x2 : Int32) (x3 : Int32) (σ : Mm) : Int32 := (if x1 < 0 then 0 else (if ((1 : Int32) <<< ((mA σ 1 (mP σ 0) 0 12) &&& 31)) ≤ x1 then 0 else (if (f_X11_isYear x2) = 0 then 0 else (if (f_X11_isKnown x3 σ) = 0 then 0 else 1))))
set_option maxRecDepth 20000 in
theorem zb_X11_isAsked {S : Shp} {x1 : Int32} {x2 : Int32} {x3 : Int32} {σ : Mm} {r : Int32} (hp : okP σ = true) (h : f_X11_isAsked x1 x2 x3 σ = r) : Z m_X11_isAsked S (Qi (r, σ)) 0 [(0, .ref (sL S 0 0 0)), (1, .int (x1)), (2, .int (x2)), (3, .int (x3))] [] σ := by
  unfold f_X11_isAsked at h
  refine z_iload_n dX11_isAsked_0 rfl 1 rfl ?_
  refine z_if_lt (tgt := 36) dX11_isAsked_1 (by decide) (fun q => ?_) (fun q => ?_)
  · have h := (if_pos q).symm.trans h
    refine z_iconst (v := 0) dX11_isAsked_36 (by decide) ?_
    subst h
    exact z_ireturn dX11_isAsked_37 rfl rfl ⟨rfl, rfl⟩
  · have h := (if_neg q).symm.trans h
    refine z_iload_n dX11_isAsked_4 rfl 1 rfl ?_
    refine z_iconst (v := 1) dX11_isAsked_5 (by decide) ?_
    refine z_aload_n dX11_isAsked_6 rfl 0 rfl ?_
    refine gf_11_19 rfl dX11_isAsked_7 ?_
    refine gf_11_341 (lv1 (okP_0 hp) rfl) rfl dX11_isAsked_10 ?_
    refine z_ishl dX11_isAsked_13 ?_
    refine z_icmp_ge (tgt := 36) dX11_isAsked_14 (by decide) (fun q => ?_) (fun q => ?_)
    · have h := (if_pos q).symm.trans h
      refine z_iconst (v := 0) dX11_isAsked_36 (by decide) ?_
      subst h
      exact z_ireturn dX11_isAsked_37 rfl rfl ⟨rfl, rfl⟩
    · have h := (if_neg q).symm.trans h
      refine z_iload_n dX11_isAsked_17 rfl 2 rfl ?_
      refine z_callS (M' := m_X11_isYear) (As := [.int (x2)]) (rest := []) kl_11_219 oy_X11_isYear ⟨Nat.le_of_ble_eq_true rfl, Nat.le_of_ble_eq_true rfl⟩ rfl (Nat.le_of_ble_eq_true rfl) rfl dX11_isAsked_18 (c_X11_isYear rfl) (fun v τ hq => ?_)
      obtain ⟨rfl, hτ⟩ := hq
      subst τ
      change Z _ _ _ _ _ [.int (f_X11_isYear x2)] _
      refine z_if_eq (tgt := 36) dX11_isAsked_21 (by decide) (fun q => ?_) (fun q => ?_)
      · have h := (if_pos q).symm.trans h
        refine z_iconst (v := 0) dX11_isAsked_36 (by decide) ?_
        subst h
        exact z_ireturn dX11_isAsked_37 rfl rfl ⟨rfl, rfl⟩
      · have h := (if_neg q).symm.trans h
        refine z_aload_n dX11_isAsked_24 rfl 0 rfl ?_
        refine z_iload_n dX11_isAsked_25 rfl 3 rfl ?_
        refine z_callV (M' := m_X11_isKnown) (t := 0) (i := 0) (k := 0) (As := [.int (x3)]) (rest := []) kl_11_152 oy_X11_isKnown ⟨Nat.le_of_ble_eq_true rfl, Nat.le_of_ble_eq_true rfl⟩ rfl rfl rfl rfl (Nat.le_of_ble_eq_true rfl) rfl dX11_isAsked_26 (c_X11_isKnown hp rfl) (fun v τ hq => ?_)
        obtain ⟨rfl, hτ⟩ := hq
        subst τ
        change Z _ _ _ _ _ [.int (f_X11_isKnown x3 σ)] _
        refine z_if_eq (tgt := 36) dX11_isAsked_29 (by decide) (fun q => ?_) (fun q => ?_)
        · have h := (if_pos q).symm.trans h
          refine z_iconst (v := 0) dX11_isAsked_36 (by decide) ?_
          subst h
          exact z_ireturn dX11_isAsked_37 rfl rfl ⟨rfl, rfl⟩
        · have h := (if_neg q).symm.trans h
          refine z_iconst (v := 1) dX11_isAsked_32 (by decide) ?_
          refine z_goto (tgt := 37) dX11_isAsked_33 (by decide) ?_
          subst h
          exact z_ireturn dX11_isAsked_37 rfl rfl ⟨rfl, rfl⟩
/-- SkyStones.isAsked(III)Z -/
theorem c_X11_isAsked {S : Shp} {x1 : Int32} {x2 : Int32} {x3 : Int32} {σ : Mm} {r : Int32} (hp : okP σ = true) (h : f_X11_isAsked x1 x2 x3 σ = r) : Ct m_X11_isAsked S [.ref (sL S 0 0 0), .int (x1), .int (x2), .int (x3)] σ (Qi (r, σ)) := Ct.of (by decide +kernel) (Nat.le_of_ble_eq_true rfl) (zb_X11_isAsked hp h)
def F_X1_bearing_61 (x0 : Int32) (x1 : Int32) (x2 : Int32) (x3 : Int32) (x5 : Int32) (σ : Mm) : Option (Int32 × Mm) := (if x0 ≤ 0 then (if 0 ≤ x1 then (if x2 < x3 then some (((360 : Int32) - x5) - ((360 : Int32) - x5) / (360 : Int32) * (360 : Int32), σ) else some ((270 : Int32) + x5, σ)) else (if x3 < x2 then some ((270 : Int32) - x5, σ) else some ((180 : Int32) + x5, σ))) else (if x2 < x3 then some ((180 : Int32) - x5, σ) else some ((90 : Int32) + x5, σ)))
set_option maxRecDepth 20000 in
theorem zb_X1_bearing_61 {S : Shp} {x0 : Int32} {x1 : Int32} {x2 : Int32} {x3 : Int32} {x5 : Int32} {σ : Mm} {r : Int32 × Mm} (h : F_X1_bearing_61 x0 x1 x2 x3 x5 σ = some r) : Z m_X1_bearing S (Qi r) 61 [(0, .int (x0)), (1, .int (x1)), (2, .int (x2)), (3, .int (x3)), (5, .int (x5))] [] σ := by
  unfold F_X1_bearing_61 at h
  refine z_iload_n dX1_bearing_61 rfl 0 rfl ?_
  refine z_if_le (tgt := 85) dX1_bearing_62 (by decide) (fun q => ?_) (fun q => ?_)
  · have h := (if_pos q).symm.trans h
    refine z_iload_n dX1_bearing_85 rfl 1 rfl ?_
    refine z_if_ge (tgt := 110) dX1_bearing_86 (by decide) (fun q => ?_) (fun q => ?_)
    · have h := (if_pos q).symm.trans h
      refine z_iload_n dX1_bearing_110 rfl 3 rfl ?_
      refine z_iload_n dX1_bearing_111 rfl 2 rfl ?_
      refine z_icmp_gt (tgt := 124) dX1_bearing_112 (by decide) (fun q => ?_) (fun q => ?_)
      · have h := (if_pos q).symm.trans h
        refine z_sipush (v := 360) dX1_bearing_124 (by decide) ?_
        refine z_iload dX1_bearing_127 4 rfl ?_
        refine z_isub dX1_bearing_129 ?_
        refine z_sipush (v := 360) dX1_bearing_130 (by decide) ?_
        refine z_irem dX1_bearing_133 (by decide) ?_
        cases h
        exact z_ireturn dX1_bearing_134 rfl rfl ⟨rfl, rfl⟩
      · have h := (if_neg q).symm.trans h
        refine z_sipush (v := 270) dX1_bearing_115 (by decide) ?_
        refine z_iload dX1_bearing_118 4 rfl ?_
        refine z_iadd dX1_bearing_120 ?_
        refine z_goto (tgt := 134) dX1_bearing_121 (by decide) ?_
        cases h
        exact z_ireturn dX1_bearing_134 rfl rfl ⟨rfl, rfl⟩
    · have h := (if_neg q).symm.trans h
      refine z_iload_n dX1_bearing_89 rfl 2 rfl ?_
      refine z_iload_n dX1_bearing_90 rfl 3 rfl ?_
      refine z_icmp_gt (tgt := 103) dX1_bearing_91 (by decide) (fun q => ?_) (fun q => ?_)
      · have h := (if_pos q).symm.trans h
        refine z_sipush (v := 270) dX1_bearing_103 (by decide) ?_
        refine z_iload dX1_bearing_106 4 rfl ?_
        refine z_isub dX1_bearing_108 ?_
        cases h
        exact z_ireturn dX1_bearing_109 rfl rfl ⟨rfl, rfl⟩
      · have h := (if_neg q).symm.trans h
        refine z_sipush (v := 180) dX1_bearing_94 (by decide) ?_
        refine z_iload dX1_bearing_97 4 rfl ?_
        refine z_iadd dX1_bearing_99 ?_
        refine z_goto (tgt := 109) dX1_bearing_100 (by decide) ?_
        cases h
        exact z_ireturn dX1_bearing_109 rfl rfl ⟨rfl, rfl⟩
  · have h := (if_neg q).symm.trans h
    refine z_iload_n dX1_bearing_65 rfl 3 rfl ?_
    refine z_iload_n dX1_bearing_66 rfl 2 rfl ?_
    refine z_icmp_gt (tgt := 78) dX1_bearing_67 (by decide) (fun q => ?_) (fun q => ?_)
    · have h := (if_pos q).symm.trans h
      refine z_sipush (v := 180) dX1_bearing_78 (by decide) ?_
      refine z_iload dX1_bearing_81 4 rfl ?_
      refine z_isub dX1_bearing_83 ?_
      cases h
      exact z_ireturn dX1_bearing_84 rfl rfl ⟨rfl, rfl⟩
    · have h := (if_neg q).symm.trans h
      refine z_bipush (v := 90) dX1_bearing_70 (by decide) ?_
      refine z_iload dX1_bearing_72 4 rfl ?_
      refine z_iadd dX1_bearing_74 ?_
      refine z_goto (tgt := 84) dX1_bearing_75 (by decide) ?_
      cases h
      exact z_ireturn dX1_bearing_84 rfl rfl ⟨rfl, rfl⟩
def F_X1_bearing_37 (x0 : Int32) (x1 : Int32) (x2 : Int32) (x3 : Int32) (x5 : Int32) (σ : Mm) : Option (Int32 × Mm) := (if x0 < 0 then (F_X1_bearing_61 x0 x1 x2 x3 x5 σ) else (if x1 ≤ 0 then (F_X1_bearing_61 x0 x1 x2 x3 x5 σ) else (if x3 < x2 then some ((90 : Int32) - x5, σ) else some (x5, σ))))
set_option maxRecDepth 20000 in
theorem zb_X1_bearing_37 {S : Shp} {x0 : Int32} {x1 : Int32} {x2 : Int32} {x3 : Int32} {x5 : Int32} {σ : Mm} {r : Int32 × Mm} (h : F_X1_bearing_37 x0 x1 x2 x3 x5 σ = some r) : Z m_X1_bearing S (Qi r) 37 [(0, .int (x0)), (1, .int (x1)), (2, .int (x2)), (3, .int (x3)), (5, .int (x5))] [] σ := by
  unfold F_X1_bearing_37 at h
  refine z_iload_n dX1_bearing_37 rfl 0 rfl ?_
  refine z_if_lt (tgt := 61) dX1_bearing_38 (by decide) (fun q => ?_) (fun q => ?_)
  · have h := (if_pos q).symm.trans h
    exact zb_X1_bearing_61 h
  · have h := (if_neg q).symm.trans h
    refine z_iload_n dX1_bearing_41 rfl 1 rfl ?_
    refine z_if_le (tgt := 61) dX1_bearing_42 (by decide) (fun q => ?_) (fun q => ?_)
    · have h := (if_pos q).symm.trans h
      exact zb_X1_bearing_61 h
    · have h := (if_neg q).symm.trans h
      refine z_iload_n dX1_bearing_45 rfl 2 rfl ?_
      refine z_iload_n dX1_bearing_46 rfl 3 rfl ?_
      refine z_icmp_gt (tgt := 55) dX1_bearing_47 (by decide) (fun q => ?_) (fun q => ?_)
      · have h := (if_pos q).symm.trans h
        refine z_bipush (v := 90) dX1_bearing_55 (by decide) ?_
        refine z_iload dX1_bearing_57 4 rfl ?_
        refine z_isub dX1_bearing_59 ?_
        cases h
        exact z_ireturn dX1_bearing_60 rfl rfl ⟨rfl, rfl⟩
      · have h := (if_neg q).symm.trans h
        refine z_iload dX1_bearing_50 4 rfl ?_
        refine z_goto (tgt := 60) dX1_bearing_52 (by decide) ?_
        cases h
        exact z_ireturn dX1_bearing_60 rfl rfl ⟨rfl, rfl⟩
def F_X1_bearing_17 (x0 : Int32) (x1 : Int32) (x2 : Int32) (x3 : Int32) (x4 : Int32) (σ : Mm) : Option (Int32 × Mm) := (if x4 = 0 then some ((-1), σ) else (if ¬ x4 = 0 then (F_X1_bearing_37 x0 x1 x2 x3 (((45 : Int32) * (f_J9_min_7cf53 x2 x3)) / x4) σ) else none))
set_option maxRecDepth 20000 in
theorem zb_X1_bearing_17 {S : Shp} {x0 : Int32} {x1 : Int32} {x2 : Int32} {x3 : Int32} {x4 : Int32} {σ : Mm} {r : Int32 × Mm} (h : F_X1_bearing_17 x0 x1 x2 x3 x4 σ = some r) : Z m_X1_bearing S (Qi r) 17 [(0, .int (x0)), (1, .int (x1)), (2, .int (x2)), (3, .int (x3)), (4, .int (x4))] [] σ := by
  unfold F_X1_bearing_17 at h
  refine z_iload dX1_bearing_17 4 rfl ?_
  refine z_if_ne (tgt := 24) dX1_bearing_19 (by decide) (fun q => ?_) (fun q => ?_)
  · have h := (if_neg q).symm.trans h
    obtain ⟨g1, h⟩ := gd h
    refine z_bipush (v := 45) dX1_bearing_24 (by decide) ?_
    refine z_iload_n dX1_bearing_26 rfl 2 rfl ?_
    refine z_iload_n dX1_bearing_27 rfl 3 rfl ?_
    refine z_callS (M' := m_J9_min_7cf53) (As := [.int (x2), .int (x3)]) (rest := [.int (45)]) kl_1_19 oy_J9_min_7cf53 ⟨Nat.le_of_ble_eq_true rfl, Nat.le_of_ble_eq_true rfl⟩ rfl (Nat.le_of_ble_eq_true rfl) rfl dX1_bearing_28 (c_J9_min_7cf53 rfl) (fun v τ hq => ?_)
    obtain ⟨rfl, hτ⟩ := hq
    subst τ
    change Z _ _ _ _ _ [.int (f_J9_min_7cf53 x2 x3), .int (45)] _
    refine z_imul dX1_bearing_31 ?_
    refine z_iload dX1_bearing_32 4 rfl ?_
    refine z_idiv dX1_bearing_34 g1 ?_
    refine z_istore (lv' := [(0, .int (x0)), (1, .int (x1)), (2, .int (x2)), (3, .int (x3)), (4, .int (x4)), (5, .int (((45 : Int32) * (f_J9_min_7cf53 x2 x3)) / x4))]) dX1_bearing_35 (by decide) [1, 2, 3, 4, 5, 0] rfl ?_
    refine Z.lv [0, 1, 2, 3, 5] rfl ?_
    exact zb_X1_bearing_37 h
  · have h := (if_pos q).symm.trans h
    refine z_iconst (v := (-1)) dX1_bearing_22 (by decide) ?_
    cases h
    exact z_ireturn dX1_bearing_23 rfl rfl ⟨rfl, rfl⟩
def F_X1_bearing (x0 : Int32) (x1 : Int32) (σ : Mm) : Option (Int32 × Mm) := (F_X1_bearing_17 x0 x1 (f_J9_abs_0f7a4 x0) (f_J9_abs_0f7a4 x1) (f_J9_max_7cf53 (f_J9_abs_0f7a4 x0) (f_J9_abs_0f7a4 x1)) σ)
set_option maxRecDepth 20000 in
theorem zb_X1_bearing {S : Shp} {x0 : Int32} {x1 : Int32} {σ : Mm} {r : Int32 × Mm} (h : F_X1_bearing x0 x1 σ = some r) : Z m_X1_bearing S (Qi r) 0 [(0, .int (x0)), (1, .int (x1))] [] σ := by
  unfold F_X1_bearing at h
  refine z_iload_n dX1_bearing_0 rfl 0 rfl ?_
  refine z_callS (M' := m_J9_abs_0f7a4) (As := [.int (x0)]) (rest := []) kl_1_9 oy_J9_abs_0f7a4 ⟨Nat.le_of_ble_eq_true rfl, Nat.le_of_ble_eq_true rfl⟩ rfl (Nat.le_of_ble_eq_true rfl) rfl dX1_bearing_1 (c_J9_abs_0f7a4 rfl) (fun v τ hq => ?_)
  obtain ⟨rfl, hτ⟩ := hq
  subst τ
  change Z _ _ _ _ _ [.int (f_J9_abs_0f7a4 x0)] _
  refine z_istore_n (lv' := [(0, .int (x0)), (1, .int (x1)), (2, .int (f_J9_abs_0f7a4 x0))]) dX1_bearing_4 rfl (by decide) [1, 2, 0] rfl ?_
  refine z_iload_n dX1_bearing_5 rfl 1 rfl ?_
  refine z_callS (M' := m_J9_abs_0f7a4) (As := [.int (x1)]) (rest := []) kl_1_9 oy_J9_abs_0f7a4 ⟨Nat.le_of_ble_eq_true rfl, Nat.le_of_ble_eq_true rfl⟩ rfl (Nat.le_of_ble_eq_true rfl) rfl dX1_bearing_6 (c_J9_abs_0f7a4 rfl) (fun v τ hq => ?_)
  obtain ⟨rfl, hτ⟩ := hq
  subst τ
  change Z _ _ _ _ _ [.int (f_J9_abs_0f7a4 x1)] _
  refine z_istore_n (lv' := [(0, .int (x0)), (1, .int (x1)), (2, .int (f_J9_abs_0f7a4 x0)), (3, .int (f_J9_abs_0f7a4 x1))]) dX1_bearing_9 rfl (by decide) [1, 2, 3, 0] rfl ?_
  refine z_iload_n dX1_bearing_10 rfl 2 rfl ?_
  refine z_iload_n dX1_bearing_11 rfl 3 rfl ?_
  refine z_callS (M' := m_J9_max_7cf53) (As := [.int (f_J9_abs_0f7a4 x0), .int (f_J9_abs_0f7a4 x1)]) (rest := []) kl_1_15 oy_J9_max_7cf53 ⟨Nat.le_of_ble_eq_true rfl, Nat.le_of_ble_eq_true rfl⟩ rfl (Nat.le_of_ble_eq_true rfl) rfl dX1_bearing_12 (c_J9_max_7cf53 rfl) (fun v τ hq => ?_)
  obtain ⟨rfl, hτ⟩ := hq
  subst τ
  change Z _ _ _ _ _ [.int (f_J9_max_7cf53 (f_J9_abs_0f7a4 x0) (f_J9_abs_0f7a4 x1))] _
  refine z_istore (lv' := [(0, .int (x0)), (1, .int (x1)), (2, .int (f_J9_abs_0f7a4 x0)), (3, .int (f_J9_abs_0f7a4 x1)), (4, .int (f_J9_max_7cf53 (f_J9_abs_0f7a4 x0) (f_J9_abs_0f7a4 x1)))]) dX1_bearing_15 (by decide) [1, 2, 3, 4, 0] rfl ?_
  exact zb_X1_bearing_17 h
/-- SkyStones$Compass.bearing(II)I -/
theorem c_X1_bearing {S : Shp} {x0 : Int32} {x1 : Int32} {σ : Mm} {r : Int32 × Mm} (h : F_X1_bearing x0 x1 σ = some r) : Ct m_X1_bearing S [.int (x0), .int (x1)] σ (Qi r) := Ct.of (by decide +kernel) (Nat.le_of_ble_eq_true rfl) (zb_X1_bearing h)
def F_X2_bearingOf_39 (s0 : Int32) (σ : Mm) : Option (Int32 × Mm) := some (s0, σ)
set_option maxRecDepth 20000 in
theorem zb_X2_bearingOf_39 {S : Shp} {s0 : Int32} {σ : Mm} {r : Int32 × Mm} (h : F_X2_bearingOf_39 s0 σ = some r) : Z m_X2_bearingOf S (Qi r) 39 [] [.int (s0)] σ := by
  unfold F_X2_bearingOf_39 at h
  cases h
  exact z_ireturn dX2_bearingOf_39 rfl rfl ⟨rfl, rfl⟩
def F_X2_bearingOf_10 (x2 : Int32) (x3 : Int32) (σ : Mm) : Option (Int32 × Mm) := (if inb x3 14 = true then (if inb x2 14 = true then (if inb x3 14 = true then (if inb x2 14 = true then (bnd (F_X1_bearing ((mA σ 0 0 16 x3.toNatClampNeg) - (mA σ 0 0 16 x2.toNatClampNeg)) ((mA σ 0 0 17 x3.toNatClampNeg) - (mA σ 0 0 17 x2.toNatClampNeg)) σ) (fun v τ => (F_X2_bearingOf_39 v τ))) else none) else none) else none) else none)
set_option maxRecDepth 20000 in
theorem zb_X2_bearingOf_10 {S : Shp} {x2 : Int32} {x3 : Int32} {σ : Mm} {r : Int32 × Mm} (h : F_X2_bearingOf_10 x2 x3 σ = some r) : Z m_X2_bearingOf S (Qi r) 10 [(0, .ref (sL S 0 0 15)), (2, .int (x2)), (3, .int (x3))] [] σ := by
  unfold F_X2_bearingOf_10 at h
  obtain ⟨g1, h⟩ := gd h
  refine z_aload_n dX2_bearingOf_10 rfl 0 rfl ?_
  refine gf_2_15 rfl dX2_bearingOf_11 ?_
  refine z_iload_n dX2_bearingOf_14 rfl 2 rfl ?_
  obtain ⟨g2, h⟩ := gd h
  refine ia_0_16 (inb_in g1) dX2_bearingOf_15 ?_
  refine z_aload_n dX2_bearingOf_16 rfl 0 rfl ?_
  refine gf_2_15 rfl dX2_bearingOf_17 ?_
  refine z_iload_n dX2_bearingOf_20 rfl 1 rfl ?_
  obtain ⟨g3, h⟩ := gd h
  refine ia_0_16 (inb_in g2) dX2_bearingOf_21 ?_
  refine z_isub dX2_bearingOf_22 ?_
  refine z_aload_n dX2_bearingOf_23 rfl 0 rfl ?_
  refine gf_2_19 rfl dX2_bearingOf_24 ?_
  refine z_iload_n dX2_bearingOf_27 rfl 2 rfl ?_
  obtain ⟨g4, h⟩ := gd h
  refine ia_0_17 (inb_in g3) dX2_bearingOf_28 ?_
  refine z_aload_n dX2_bearingOf_29 rfl 0 rfl ?_
  refine gf_2_19 rfl dX2_bearingOf_30 ?_
  refine z_iload_n dX2_bearingOf_33 rfl 1 rfl ?_
  refine ia_0_17 (inb_in g4) dX2_bearingOf_34 ?_
  refine z_isub dX2_bearingOf_35 ?_
  obtain ⟨v, τ, hc, h⟩ := bnd_e h
  refine z_callS (M' := m_X1_bearing) (As := [.int ((mA σ 0 0 16 x3.toNatClampNeg) - (mA σ 0 0 16 x2.toNatClampNeg)), .int ((mA σ 0 0 17 x3.toNatClampNeg) - (mA σ 0 0 17 x2.toNatClampNeg))]) (rest := []) kl_2_78 oy_X1_bearing ⟨Nat.le_of_ble_eq_true rfl, Nat.le_of_ble_eq_true rfl⟩ rfl (Nat.le_of_ble_eq_true rfl) rfl dX2_bearingOf_36 (c_X1_bearing hc) (fun v2 τ2 hq => ?_)
  obtain ⟨rfl, hτ⟩ := hq
  subst τ2
  change Z _ _ _ _ _ [.int (v)] _
  refine Z.lv [] rfl ?_
  exact zb_X2_bearingOf_39 h
def F_X2_bearingOf (x1 : Int32) (σ : Mm) : Option (Int32 × Mm) := (F_X2_bearingOf_10 (x1 / (14 : Int32)) (x1 - x1 / (14 : Int32) * (14 : Int32)) σ)
set_option maxRecDepth 20000 in
theorem zb_X2_bearingOf {S : Shp} {x1 : Int32} {σ : Mm} {r : Int32 × Mm} (h : F_X2_bearingOf x1 σ = some r) : Z m_X2_bearingOf S (Qi r) 0 [(0, .ref (sL S 0 0 15)), (1, .int (x1))] [] σ := by
  unfold F_X2_bearingOf at h
  refine z_iload_n dX2_bearingOf_0 rfl 1 rfl ?_
  refine z_bipush (v := 14) dX2_bearingOf_1 (by decide) ?_
  refine z_idiv dX2_bearingOf_3 (by decide) ?_
  refine z_istore_n (lv' := [(0, .ref (sL S 0 0 15)), (1, .int (x1)), (2, .int (x1 / (14 : Int32)))]) dX2_bearingOf_4 rfl (by decide) [1, 2, 0] rfl ?_
  refine z_iload_n dX2_bearingOf_5 rfl 1 rfl ?_
  refine z_bipush (v := 14) dX2_bearingOf_6 (by decide) ?_
  refine z_irem dX2_bearingOf_8 (by decide) ?_
  refine z_istore_n (lv' := [(0, .ref (sL S 0 0 15)), (1, .int (x1)), (2, .int (x1 / (14 : Int32))), (3, .int (x1 - x1 / (14 : Int32) * (14 : Int32)))]) dX2_bearingOf_9 rfl (by decide) [1, 2, 3, 0] rfl ?_
  refine Z.lv [0, 2, 3] rfl ?_
  exact zb_X2_bearingOf_10 h
/-- SkyStones$Ground.bearingOf(I)I -/
theorem c_X2_bearingOf {S : Shp} {x1 : Int32} {σ : Mm} {r : Int32 × Mm} (h : F_X2_bearingOf x1 σ = some r) : Ct m_X2_bearingOf S [.ref (sL S 0 0 15), .int (x1)] σ (Qi r) := Ct.of (by decide +kernel) (Nat.le_of_ble_eq_true rfl) (zb_X2_bearingOf h)
def F_X2_describe_190 (s0 : Int32) (s1 : Int32) (σ : Mm) : Option (Mm) := (if inb s1 9 = true then some (setA σ 0 0 22 (upd (mA σ 0 0 22) s1.toNatClampNeg s0)) else none)
set_option maxRecDepth 20000 in
theorem zb_X2_describe_190 {S : Shp} {s0 : Int32} {s1 : Int32} {σ : Mm} {r : Mm} (h : F_X2_describe_190 s0 s1 σ = some r) : Z m_X2_describe S (Qv r) 190 [] [.int (s0), .int (s1), .ref (sL S 0 0 22)] σ := by
  unfold F_X2_describe_190 at h
  obtain ⟨g21, h⟩ := gd h
  refine is_0_22 (inb_in g21) dX2_describe_190 ?_
  cases h
  exact z_return dX2_describe_191 rfl ⟨rfl, rfl⟩
def F_X2_describe_177 (x5 : Int32) (x6 : Int32) (σ : Mm) : Option (Mm) := (bnd (F_X1_bearing x5 x6 σ) (fun v τ => (F_X2_describe_190 v 8 τ)))
set_option maxRecDepth 20000 in
theorem zb_X2_describe_177 {S : Shp} {x5 : Int32} {x6 : Int32} {σ : Mm} {r : Mm} (h : F_X2_describe_177 x5 x6 σ = some r) : Z m_X2_describe S (Qv r) 177 [(0, .ref (sL S 0 0 15)), (5, .int (x5)), (6, .int (x6))] [] σ := by
  unfold F_X2_describe_177 at h
  refine z_aload_n dX2_describe_177 rfl 0 rfl ?_
  refine gf_2_35 rfl dX2_describe_178 ?_
  refine z_bipush (v := 8) dX2_describe_181 (by decide) ?_
  refine z_iload dX2_describe_183 1 rfl ?_
  refine z_iload dX2_describe_185 2 rfl ?_
  obtain ⟨v, τ, hc, h⟩ := bnd_e h
  refine z_callS (M' := m_X1_bearing) (As := [.int (x5), .int (x6)]) (rest := [.int (8), .ref (sL S 0 0 22)]) kl_2_78 oy_X1_bearing ⟨Nat.le_of_ble_eq_true rfl, Nat.le_of_ble_eq_true rfl⟩ rfl (Nat.le_of_ble_eq_true rfl) rfl dX2_describe_187 (c_X1_bearing hc) (fun v2 τ2 hq => ?_)
  obtain ⟨rfl, hτ⟩ := hq
  subst τ2
  change Z _ _ _ _ _ [.int (v), .int (8), .ref (sL S 0 0 22)] _
  refine Z.lv [] rfl ?_
  exact zb_X2_describe_190 h
def F_X2_describe_154 (x3 : Int32) (x4 : Int32) (x5 : Int32) (x6 : Int32) (σ : Mm) : Option (Mm) := (if inb x3 14 = true then (if inb x4 14 = true then (if inb 7 9 = true then (F_X2_describe_177 x5 x6 (setA σ 0 0 22 (upd (mA σ 0 0 22) (7 : Int32).toNatClampNeg (f_J9_min_7cf53 (mA σ 0 0 18 x3.toNatClampNeg) (mA σ 0 0 18 x4.toNatClampNeg))))) else none) else none) else none)
set_option maxRecDepth 20000 in
theorem zb_X2_describe_154 {S : Shp} {x3 : Int32} {x4 : Int32} {x5 : Int32} {x6 : Int32} {σ : Mm} {r : Mm} (h : F_X2_describe_154 x3 x4 x5 x6 σ = some r) : Z m_X2_describe S (Qv r) 154 [(0, .ref (sL S 0 0 15)), (3, .int (x3)), (4, .int (x4)), (5, .int (x5)), (6, .int (x6))] [] σ := by
  unfold F_X2_describe_154 at h
  obtain ⟨g18, h⟩ := gd h
  refine z_aload_n dX2_describe_154 rfl 0 rfl ?_
  refine gf_2_35 rfl dX2_describe_155 ?_
  refine z_bipush (v := 7) dX2_describe_158 (by decide) ?_
  refine z_aload_n dX2_describe_160 rfl 0 rfl ?_
  refine gf_2_22 rfl dX2_describe_161 ?_
  refine z_iload_n dX2_describe_164 rfl 1 rfl ?_
  obtain ⟨g19, h⟩ := gd h
  refine ia_0_18 (inb_in g18) dX2_describe_165 ?_
  refine z_aload_n dX2_describe_166 rfl 0 rfl ?_
  refine gf_2_22 rfl dX2_describe_167 ?_
  refine z_iload dX2_describe_170 2 rfl ?_
  obtain ⟨g20, h⟩ := gd h
  refine ia_0_18 (inb_in g19) dX2_describe_172 ?_
  refine z_callS (M' := m_J9_min_7cf53) (As := [.int (mA σ 0 0 18 x3.toNatClampNeg), .int (mA σ 0 0 18 x4.toNatClampNeg)]) (rest := [.int (7), .ref (sL S 0 0 22)]) kl_2_100 oy_J9_min_7cf53 ⟨Nat.le_of_ble_eq_true rfl, Nat.le_of_ble_eq_true rfl⟩ rfl (Nat.le_of_ble_eq_true rfl) rfl dX2_describe_173 (c_J9_min_7cf53 rfl) (fun v τ hq => ?_)
  obtain ⟨rfl, hτ⟩ := hq
  subst τ
  change Z _ _ _ _ _ [.int (f_J9_min_7cf53 (mA σ 0 0 18 x3.toNatClampNeg) (mA σ 0 0 18 x4.toNatClampNeg)), .int (7), .ref (sL S 0 0 22)] _
  refine is_0_22 (inb_in g20) dX2_describe_176 ?_
  refine Z.lv [0, 3, 4] rfl ?_
  exact zb_X2_describe_177 h
def F_X2_describe_136 (i0 : Nat) (x3 : Int32) (x4 : Int32) (x5 : Int32) (x6 : Int32) (σ : Mm) : Option (Mm) := (if inb x4 14 = true then (if inb 6 9 = true then (F_X2_describe_154 x3 x4 x5 x6 (setA σ 0 0 22 (upd (mA σ 0 0 22) (6 : Int32).toNatClampNeg (((mA σ 1 i0 5 x4.toNatClampNeg) >>> (x3 &&& 31)) &&& (1 : Int32))))) else none) else none)
set_option maxRecDepth 20000 in
theorem zb_X2_describe_136 {S : Shp} {i0 : Nat} (hi0 : tlv (sH S) i0 = true) {x3 : Int32} {x4 : Int32} {x5 : Int32} {x6 : Int32} {σ : Mm} {r : Mm} (h : F_X2_describe_136 i0 x3 x4 x5 x6 σ = some r) : Z m_X2_describe S (Qv r) 136 [(0, .ref (sL S 0 0 15)), (1, .ref (sL S 1 i0 0)), (3, .int (x3)), (4, .int (x4)), (5, .int (x5)), (6, .int (x6))] [] σ := by
  unfold F_X2_describe_136 at h
  obtain ⟨g16, h⟩ := gd h
  refine z_aload_n dX2_describe_136 rfl 0 rfl ?_
  refine gf_2_35 rfl dX2_describe_137 ?_
  refine z_bipush (v := 6) dX2_describe_140 (by decide) ?_
  refine z_aload_n dX2_describe_142 rfl 1 rfl ?_
  refine gf_2_97 (lv1 (hi0) rfl) rfl dX2_describe_143 ?_
  refine z_iload dX2_describe_146 3 rfl ?_
  obtain ⟨g17, h⟩ := gd h
  refine ia_1_5 (lv1 (hi0) rfl) (inb_in g16) dX2_describe_148 ?_
  refine z_iload_n dX2_describe_149 rfl 2 rfl ?_
  refine z_ishr dX2_describe_150 ?_
  refine z_iconst (v := 1) dX2_describe_151 (by decide) ?_
  refine z_iand dX2_describe_152 ?_
  refine is_0_22 (inb_in g17) dX2_describe_153 ?_
  refine Z.lv [0, 2, 3, 4, 5] rfl ?_
  exact zb_X2_describe_154 h
def F_X2_describe_119 (i0 : Nat) (x3 : Int32) (x4 : Int32) (x5 : Int32) (x6 : Int32) (σ : Mm) : Option (Mm) := (if inb x3 14 = true then (if inb 5 9 = true then (F_X2_describe_136 i0 x3 x4 x5 x6 (setA σ 0 0 22 (upd (mA σ 0 0 22) (5 : Int32).toNatClampNeg (((mA σ 1 i0 5 x3.toNatClampNeg) >>> (x4 &&& 31)) &&& (1 : Int32))))) else none) else none)
set_option maxRecDepth 20000 in
theorem zb_X2_describe_119 {S : Shp} {i0 : Nat} (hi0 : tlv (sH S) i0 = true) {x3 : Int32} {x4 : Int32} {x5 : Int32} {x6 : Int32} {σ : Mm} {r : Mm} (h : F_X2_describe_119 i0 x3 x4 x5 x6 σ = some r) : Z m_X2_describe S (Qv r) 119 [(0, .ref (sL S 0 0 15)), (1, .ref (sL S 1 i0 0)), (3, .int (x3)), (4, .int (x4)), (5, .int (x5)), (6, .int (x6))] [] σ := by
  unfold F_X2_describe_119 at h
  obtain ⟨g14, h⟩ := gd h
  refine z_aload_n dX2_describe_119 rfl 0 rfl ?_
  refine gf_2_35 rfl dX2_describe_120 ?_
  refine z_iconst (v := 5) dX2_describe_123 (by decide) ?_
  refine z_aload_n dX2_describe_124 rfl 1 rfl ?_
  refine gf_2_97 (lv1 (hi0) rfl) rfl dX2_describe_125 ?_
  refine z_iload_n dX2_describe_128 rfl 2 rfl ?_
  obtain ⟨g15, h⟩ := gd h
  refine ia_1_5 (lv1 (hi0) rfl) (inb_in g14) dX2_describe_129 ?_
  refine z_iload dX2_describe_130 3 rfl ?_
  refine z_ishr dX2_describe_132 ?_
  refine z_iconst (v := 1) dX2_describe_133 (by decide) ?_
  refine z_iand dX2_describe_134 ?_
  refine is_0_22 (inb_in g15) dX2_describe_135 ?_
  exact zb_X2_describe_136 (hi0) h
def F_X2_describe_99 (i0 : Nat) (x3 : Int32) (x4 : Int32) (x5 : Int32) (x6 : Int32) (σ : Mm) : Option (Mm) := (if inb x3 14 = true then (if inb x4 14 = true then (if inb 4 9 = true then (F_X2_describe_119 i0 x3 x4 x5 x6 (setA σ 0 0 22 (upd (mA σ 0 0 22) (4 : Int32).toNatClampNeg ((mA σ 0 0 19 x3.toNatClampNeg) + (mA σ 0 0 19 x4.toNatClampNeg))))) else none) else none) else none)
set_option maxRecDepth 20000 in
theorem zb_X2_describe_99 {S : Shp} {i0 : Nat} (hi0 : tlv (sH S) i0 = true) {x3 : Int32} {x4 : Int32} {x5 : Int32} {x6 : Int32} {σ : Mm} {r : Mm} (h : F_X2_describe_99 i0 x3 x4 x5 x6 σ = some r) : Z m_X2_describe S (Qv r) 99 [(0, .ref (sL S 0 0 15)), (1, .ref (sL S 1 i0 0)), (3, .int (x3)), (4, .int (x4)), (5, .int (x5)), (6, .int (x6))] [] σ := by
  unfold F_X2_describe_99 at h
  obtain ⟨g11, h⟩ := gd h
  refine z_aload_n dX2_describe_99 rfl 0 rfl ?_
  refine gf_2_35 rfl dX2_describe_100 ?_
  refine z_iconst (v := 4) dX2_describe_103 (by decide) ?_
  refine z_aload_n dX2_describe_104 rfl 0 rfl ?_
  refine gf_2_25 rfl dX2_describe_105 ?_
  refine z_iload_n dX2_describe_108 rfl 2 rfl ?_
  obtain ⟨g12, h⟩ := gd h
  refine ia_0_19 (inb_in g11) dX2_describe_109 ?_
  refine z_aload_n dX2_describe_110 rfl 0 rfl ?_
  refine gf_2_25 rfl dX2_describe_111 ?_
  refine z_iload dX2_describe_114 3 rfl ?_
  obtain ⟨g13, h⟩ := gd h
  refine ia_0_19 (inb_in g12) dX2_describe_116 ?_
  refine z_iadd dX2_describe_117 ?_
  refine is_0_22 (inb_in g13) dX2_describe_118 ?_
  exact zb_X2_describe_119 (hi0) h
def F_X2_describe_80 (i0 : Nat) (x3 : Int32) (x4 : Int32) (x5 : Int32) (x6 : Int32) (σ : Mm) : Option (Mm) := (if inb 3 9 = true then (F_X2_describe_99 i0 x3 x4 x5 x6 (setA σ 0 0 22 (upd (mA σ 0 0 22) (3 : Int32).toNatClampNeg (f_J9_max_7cf53 (f_J9_abs_0f7a4 x5) (f_J9_abs_0f7a4 x6))))) else none)
set_option maxRecDepth 20000 in
theorem zb_X2_describe_80 {S : Shp} {i0 : Nat} (hi0 : tlv (sH S) i0 = true) {x3 : Int32} {x4 : Int32} {x5 : Int32} {x6 : Int32} {σ : Mm} {r : Mm} (h : F_X2_describe_80 i0 x3 x4 x5 x6 σ = some r) : Z m_X2_describe S (Qv r) 80 [(0, .ref (sL S 0 0 15)), (1, .ref (sL S 1 i0 0)), (3, .int (x3)), (4, .int (x4)), (5, .int (x5)), (6, .int (x6))] [] σ := by
  unfold F_X2_describe_80 at h
  obtain ⟨g10, h⟩ := gd h
  refine z_aload_n dX2_describe_80 rfl 0 rfl ?_
  refine gf_2_35 rfl dX2_describe_81 ?_
  refine z_iconst (v := 3) dX2_describe_84 (by decide) ?_
  refine z_iload dX2_describe_85 4 rfl ?_
  refine z_callS (M' := m_J9_abs_0f7a4) (As := [.int (x5)]) (rest := [.int (3), .ref (sL S 0 0 22)]) kl_2_88 oy_J9_abs_0f7a4 ⟨Nat.le_of_ble_eq_true rfl, Nat.le_of_ble_eq_true rfl⟩ rfl (Nat.le_of_ble_eq_true rfl) rfl dX2_describe_87 (c_J9_abs_0f7a4 rfl) (fun v τ hq => ?_)
  obtain ⟨rfl, hτ⟩ := hq
  subst τ
  change Z _ _ _ _ _ [.int (f_J9_abs_0f7a4 x5), .int (3), .ref (sL S 0 0 22)] _
  refine z_iload dX2_describe_90 5 rfl ?_
  refine z_callS (M' := m_J9_abs_0f7a4) (As := [.int (x6)]) (rest := [.int (f_J9_abs_0f7a4 x5), .int (3), .ref (sL S 0 0 22)]) kl_2_88 oy_J9_abs_0f7a4 ⟨Nat.le_of_ble_eq_true rfl, Nat.le_of_ble_eq_true rfl⟩ rfl (Nat.le_of_ble_eq_true rfl) rfl dX2_describe_92 (c_J9_abs_0f7a4 rfl) (fun v τ hq => ?_)
  obtain ⟨rfl, hτ⟩ := hq
  subst τ
  change Z _ _ _ _ _ [.int (f_J9_abs_0f7a4 x6), .int (f_J9_abs_0f7a4 x5), .int (3), .ref (sL S 0 0 22)] _
  refine z_callS (M' := m_J9_max_7cf53) (As := [.int (f_J9_abs_0f7a4 x5), .int (f_J9_abs_0f7a4 x6)]) (rest := [.int (3), .ref (sL S 0 0 22)]) kl_2_94 oy_J9_max_7cf53 ⟨Nat.le_of_ble_eq_true rfl, Nat.le_of_ble_eq_true rfl⟩ rfl (Nat.le_of_ble_eq_true rfl) rfl dX2_describe_95 (c_J9_max_7cf53 rfl) (fun v τ hq => ?_)
  obtain ⟨rfl, hτ⟩ := hq
  subst τ
  change Z _ _ _ _ _ [.int (f_J9_max_7cf53 (f_J9_abs_0f7a4 x5) (f_J9_abs_0f7a4 x6)), .int (3), .ref (sL S 0 0 22)] _
  refine is_0_22 (inb_in g10) dX2_describe_98 ?_
  exact zb_X2_describe_99 (hi0) h
def F_X2_describe_57 (i0 : Nat) (x3 : Int32) (x4 : Int32) (x5 : Int32) (x6 : Int32) (σ : Mm) : Option (Mm) := (if inb x4 14 = true then (if inb x3 14 = true then (if inb 2 9 = true then (F_X2_describe_80 i0 x3 x4 x5 x6 (setA σ 0 0 22 (upd (mA σ 0 0 22) (2 : Int32).toNatClampNeg (f_J9_abs_0f7a4 ((mA σ 0 0 18 x4.toNatClampNeg) - (mA σ 0 0 18 x3.toNatClampNeg)))))) else none) else none) else none)
set_option maxRecDepth 20000 in
theorem zb_X2_describe_57 {S : Shp} {i0 : Nat} (hi0 : tlv (sH S) i0 = true) {x3 : Int32} {x4 : Int32} {x5 : Int32} {x6 : Int32} {σ : Mm} {r : Mm} (h : F_X2_describe_57 i0 x3 x4 x5 x6 σ = some r) : Z m_X2_describe S (Qv r) 57 [(0, .ref (sL S 0 0 15)), (1, .ref (sL S 1 i0 0)), (3, .int (x3)), (4, .int (x4)), (5, .int (x5)), (6, .int (x6))] [] σ := by
  unfold F_X2_describe_57 at h
  obtain ⟨g7, h⟩ := gd h
  refine z_aload_n dX2_describe_57 rfl 0 rfl ?_
  refine gf_2_35 rfl dX2_describe_58 ?_
  refine z_iconst (v := 2) dX2_describe_61 (by decide) ?_
  refine z_aload_n dX2_describe_62 rfl 0 rfl ?_
  refine gf_2_22 rfl dX2_describe_63 ?_
  refine z_iload dX2_describe_66 3 rfl ?_
  obtain ⟨g8, h⟩ := gd h
  refine ia_0_18 (inb_in g7) dX2_describe_68 ?_
  refine z_aload_n dX2_describe_69 rfl 0 rfl ?_
  refine gf_2_22 rfl dX2_describe_70 ?_
  refine z_iload_n dX2_describe_73 rfl 2 rfl ?_
  obtain ⟨g9, h⟩ := gd h
  refine ia_0_18 (inb_in g8) dX2_describe_74 ?_
  refine z_isub dX2_describe_75 ?_
  refine z_callS (M' := m_J9_abs_0f7a4) (As := [.int ((mA σ 0 0 18 x4.toNatClampNeg) - (mA σ 0 0 18 x3.toNatClampNeg))]) (rest := [.int (2), .ref (sL S 0 0 22)]) kl_2_88 oy_J9_abs_0f7a4 ⟨Nat.le_of_ble_eq_true rfl, Nat.le_of_ble_eq_true rfl⟩ rfl (Nat.le_of_ble_eq_true rfl) rfl dX2_describe_76 (c_J9_abs_0f7a4 rfl) (fun v τ hq => ?_)
  obtain ⟨rfl, hτ⟩ := hq
  subst τ
  change Z _ _ _ _ _ [.int (f_J9_abs_0f7a4 ((mA σ 0 0 18 x4.toNatClampNeg) - (mA σ 0 0 18 x3.toNatClampNeg))), .int (2), .ref (sL S 0 0 22)] _
  refine is_0_22 (inb_in g9) dX2_describe_79 ?_
  exact zb_X2_describe_80 (hi0) h
def F_X2_describe_50 (i0 : Nat) (x3 : Int32) (x4 : Int32) (x5 : Int32) (x6 : Int32) (σ : Mm) : Option (Mm) := (if inb 1 9 = true then (F_X2_describe_57 i0 x3 x4 x5 x6 (setA σ 0 0 22 (upd (mA σ 0 0 22) (1 : Int32).toNatClampNeg 0))) else none)
set_option maxRecDepth 20000 in
theorem zb_X2_describe_50 {S : Shp} {i0 : Nat} (hi0 : tlv (sH S) i0 = true) {x3 : Int32} {x4 : Int32} {x5 : Int32} {x6 : Int32} {σ : Mm} {r : Mm} (h : F_X2_describe_50 i0 x3 x4 x5 x6 σ = some r) : Z m_X2_describe S (Qv r) 50 [(0, .ref (sL S 0 0 15)), (1, .ref (sL S 1 i0 0)), (3, .int (x3)), (4, .int (x4)), (5, .int (x5)), (6, .int (x6))] [] σ := by
  unfold F_X2_describe_50 at h
  obtain ⟨g6, h⟩ := gd h
  refine z_aload_n dX2_describe_50 rfl 0 rfl ?_
  refine gf_2_35 rfl dX2_describe_51 ?_
  refine z_iconst (v := 1) dX2_describe_54 (by decide) ?_
  refine z_iconst (v := 0) dX2_describe_55 (by decide) ?_
  refine is_0_22 (inb_in g6) dX2_describe_56 ?_
  exact zb_X2_describe_57 (hi0) h
def F_X2_describe_43 (i0 : Nat) (x3 : Int32) (x4 : Int32) (x5 : Int32) (x6 : Int32) (σ : Mm) : Option (Mm) := (if inb 0 9 = true then (F_X2_describe_50 i0 x3 x4 x5 x6 (setA σ 0 0 22 (upd (mA σ 0 0 22) (0 : Int32).toNatClampNeg 0))) else none)
set_option maxRecDepth 20000 in
theorem zb_X2_describe_43 {S : Shp} {i0 : Nat} (hi0 : tlv (sH S) i0 = true) {x3 : Int32} {x4 : Int32} {x5 : Int32} {x6 : Int32} {σ : Mm} {r : Mm} (h : F_X2_describe_43 i0 x3 x4 x5 x6 σ = some r) : Z m_X2_describe S (Qv r) 43 [(0, .ref (sL S 0 0 15)), (1, .ref (sL S 1 i0 0)), (3, .int (x3)), (4, .int (x4)), (5, .int (x5)), (6, .int (x6))] [] σ := by
  unfold F_X2_describe_43 at h
  obtain ⟨g5, h⟩ := gd h
  refine z_aload_n dX2_describe_43 rfl 0 rfl ?_
  refine gf_2_35 rfl dX2_describe_44 ?_
  refine z_iconst (v := 0) dX2_describe_47 (by decide) ?_
  refine z_iconst (v := 0) dX2_describe_48 (by decide) ?_
  refine is_0_22 (inb_in g5) dX2_describe_49 ?_
  exact zb_X2_describe_50 (hi0) h
def F_X2_describe_27 (i0 : Nat) (x3 : Int32) (x4 : Int32) (x5 : Int32) (σ : Mm) : Option (Mm) := (if inb x4 14 = true then (if inb x3 14 = true then (F_X2_describe_43 i0 x3 x4 x5 ((mA σ 0 0 17 x4.toNatClampNeg) - (mA σ 0 0 17 x3.toNatClampNeg)) σ) else none) else none)
set_option maxRecDepth 20000 in
theorem zb_X2_describe_27 {S : Shp} {i0 : Nat} (hi0 : tlv (sH S) i0 = true) {x3 : Int32} {x4 : Int32} {x5 : Int32} {σ : Mm} {r : Mm} (h : F_X2_describe_27 i0 x3 x4 x5 σ = some r) : Z m_X2_describe S (Qv r) 27 [(0, .ref (sL S 0 0 15)), (1, .ref (sL S 1 i0 0)), (3, .int (x3)), (4, .int (x4)), (5, .int (x5))] [] σ := by
  unfold F_X2_describe_27 at h
  obtain ⟨g3, h⟩ := gd h
  refine z_aload_n dX2_describe_27 rfl 0 rfl ?_
  refine gf_2_19 rfl dX2_describe_28 ?_
  refine z_iload dX2_describe_31 3 rfl ?_
  obtain ⟨g4, h⟩ := gd h
  refine ia_0_17 (inb_in g3) dX2_describe_33 ?_
  refine z_aload_n dX2_describe_34 rfl 0 rfl ?_
  refine gf_2_19 rfl dX2_describe_35 ?_
  refine z_iload_n dX2_describe_38 rfl 2 rfl ?_
  refine ia_0_17 (inb_in g4) dX2_describe_39 ?_
  refine z_isub dX2_describe_40 ?_
  refine z_istore (lv' := [(0, .ref (sL S 0 0 15)), (1, .ref (sL S 1 i0 0)), (3, .int (x3)), (4, .int (x4)), (5, .int (x5)), (6, .int ((mA σ 0 0 17 x4.toNatClampNeg) - (mA σ 0 0 17 x3.toNatClampNeg)))]) dX2_describe_41 (by decide) [1, 2, 3, 4, 5, 0] rfl ?_
  exact zb_X2_describe_43 (hi0) h
def F_X2_describe_11 (i0 : Nat) (x3 : Int32) (x4 : Int32) (σ : Mm) : Option (Mm) := (if inb x4 14 = true then (if inb x3 14 = true then (F_X2_describe_27 i0 x3 x4 ((mA σ 0 0 16 x4.toNatClampNeg) - (mA σ 0 0 16 x3.toNatClampNeg)) σ) else none) else none)
set_option maxRecDepth 20000 in
theorem zb_X2_describe_11 {S : Shp} {i0 : Nat} (hi0 : tlv (sH S) i0 = true) {x3 : Int32} {x4 : Int32} {σ : Mm} {r : Mm} (h : F_X2_describe_11 i0 x3 x4 σ = some r) : Z m_X2_describe S (Qv r) 11 [(0, .ref (sL S 0 0 15)), (1, .ref (sL S 1 i0 0)), (3, .int (x3)), (4, .int (x4))] [] σ := by
  unfold F_X2_describe_11 at h
  obtain ⟨g1, h⟩ := gd h
  refine z_aload_n dX2_describe_11 rfl 0 rfl ?_
  refine gf_2_15 rfl dX2_describe_12 ?_
  refine z_iload dX2_describe_15 3 rfl ?_
  obtain ⟨g2, h⟩ := gd h
  refine ia_0_16 (inb_in g1) dX2_describe_17 ?_
  refine z_aload_n dX2_describe_18 rfl 0 rfl ?_
  refine gf_2_15 rfl dX2_describe_19 ?_
  refine z_iload_n dX2_describe_22 rfl 2 rfl ?_
  refine ia_0_16 (inb_in g2) dX2_describe_23 ?_
  refine z_isub dX2_describe_24 ?_
  refine z_istore (lv' := [(0, .ref (sL S 0 0 15)), (1, .ref (sL S 1 i0 0)), (3, .int (x3)), (4, .int (x4)), (5, .int ((mA σ 0 0 16 x4.toNatClampNeg) - (mA σ 0 0 16 x3.toNatClampNeg)))]) dX2_describe_25 (by decide) [1, 2, 3, 4, 0] rfl ?_
  exact zb_X2_describe_27 (hi0) h
def F_X2_describe (i0 : Nat) (x2 : Int32) (σ : Mm) : Option (Mm) := (F_X2_describe_11 i0 (x2 / (14 : Int32)) (x2 - x2 / (14 : Int32) * (14 : Int32)) σ)
set_option maxRecDepth 20000 in
theorem zb_X2_describe {S : Shp} {i0 : Nat} (hi0 : tlv (sH S) i0 = true) {x2 : Int32} {σ : Mm} {r : Mm} (h : F_X2_describe i0 x2 σ = some r) : Z m_X2_describe S (Qv r) 0 [(0, .ref (sL S 0 0 15)), (1, .ref (sL S 1 i0 0)), (2, .int (x2))] [] σ := by
  unfold F_X2_describe at h
  refine z_iload_n dX2_describe_0 rfl 2 rfl ?_
  refine z_bipush (v := 14) dX2_describe_1 (by decide) ?_
  refine z_idiv dX2_describe_3 (by decide) ?_
  refine z_istore_n (lv' := [(0, .ref (sL S 0 0 15)), (1, .ref (sL S 1 i0 0)), (2, .int (x2)), (3, .int (x2 / (14 : Int32)))]) dX2_describe_4 rfl (by decide) [1, 2, 3, 0] rfl ?_
  refine z_iload_n dX2_describe_5 rfl 2 rfl ?_
  refine z_bipush (v := 14) dX2_describe_6 (by decide) ?_
  refine z_irem dX2_describe_8 (by decide) ?_
  refine z_istore (lv' := [(0, .ref (sL S 0 0 15)), (1, .ref (sL S 1 i0 0)), (2, .int (x2)), (3, .int (x2 / (14 : Int32))), (4, .int (x2 - x2 / (14 : Int32) * (14 : Int32)))]) dX2_describe_9 (by decide) [1, 2, 3, 4, 0] rfl ?_
  refine Z.lv [0, 1, 3, 4] rfl ?_
  exact zb_X2_describe_11 (hi0) h
/-- SkyStones$Ground.describe(LSkyStones$Told;I)V -/
theorem c_X2_describe {S : Shp} {i0 : Nat} (hi0 : tlv (sH S) i0 = true) {x2 : Int32} {σ : Mm} {r : Mm} (h : F_X2_describe i0 x2 σ = some r) : Ct m_X2_describe S [.ref (sL S 0 0 15), .ref (sL S 1 i0 0), .int (x2)] σ (Qv r) := Ct.of (by decide +kernel) (Nat.le_of_ble_eq_true rfl) (zb_X2_describe hi0 h)
