def F_X3_strikes_95 (rc5 : Int32 → Int32 → Int32 → Mm → Option (Int32 × Mm)) (x1 : Int32) (x3 : Int32) (x4 : Int32) (σ : Mm) : Option (Int32 × Mm) := (rc5 x1 x3 (x4 + 1) σ)
set_option maxRecDepth 20000 in
theorem zb_X3_strikes_95 {S : Shp} {rc5 : Int32 → Int32 → Int32 → Mm → Option (Int32 × Mm)} (hrc5 : ∀ {x1 : Int32} {x3 : Int32} {x4 : Int32} {σ : Mm} {r : Int32 × Mm}, rc5 x1 x3 x4 σ = some r → Z m_X3_strikes S (Qi r) 5 [(0, .ref (sL S 0 0 40)), (1, .int (x1)), (2, .ref (sL S 0 0 31)), (3, .int (x3)), (4, .int (x4))] [] σ) {x1 : Int32} {x3 : Int32} {x4 : Int32} {σ : Mm} {r : Int32 × Mm} (h : F_X3_strikes_95 rc5 x1 x3 x4 σ = some r) : Z m_X3_strikes S (Qi r) 95 [(0, .ref (sL S 0 0 40)), (1, .int (x1)), (2, .ref (sL S 0 0 31)), (3, .int (x3)), (4, .int (x4))] [] σ := by
  unfold F_X3_strikes_95 at h
  refine z_iinc (j := 4) (v := x4 + 1) dX3_strikes_95 rfl rfl (by decide) [1, 2, 3, 4, 0] rfl ?_
  refine z_goto (tgt := 5) dX3_strikes_98 (by decide) ?_
  exact hrc5 h
def F_X3_strikes_89 (rc5 : Int32 → Int32 → Int32 → Mm → Option (Int32 × Mm)) (rc23 : Int32 → Int32 → Int32 → Int32 → Mm → Option (Int32 × Mm)) (x1 : Int32) (x3 : Int32) (x4 : Int32) (x5 : Int32) (σ : Mm) : Option (Int32 × Mm) := (rc23 x1 x3 x4 (x5 + 1) σ)
set_option maxRecDepth 20000 in
theorem zb_X3_strikes_89 {S : Shp} {rc5 : Int32 → Int32 → Int32 → Mm → Option (Int32 × Mm)} (hrc5 : ∀ {x1 : Int32} {x3 : Int32} {x4 : Int32} {σ : Mm} {r : Int32 × Mm}, rc5 x1 x3 x4 σ = some r → Z m_X3_strikes S (Qi r) 5 [(0, .ref (sL S 0 0 40)), (1, .int (x1)), (2, .ref (sL S 0 0 31)), (3, .int (x3)), (4, .int (x4))] [] σ) {rc23 : Int32 → Int32 → Int32 → Int32 → Mm → Option (Int32 × Mm)} (hrc23 : ∀ {x1 : Int32} {x3 : Int32} {x4 : Int32} {x5 : Int32} {σ : Mm} {r : Int32 × Mm}, rc23 x1 x3 x4 x5 σ = some r → Z m_X3_strikes S (Qi r) 23 [(0, .ref (sL S 0 0 40)), (1, .int (x1)), (2, .ref (sL S 0 0 31)), (3, .int (x3)), (4, .int (x4)), (5, .int (x5))] [] σ) {x1 : Int32} {x3 : Int32} {x4 : Int32} {x5 : Int32} {σ : Mm} {r : Int32 × Mm} (h : F_X3_strikes_89 rc5 rc23 x1 x3 x4 x5 σ = some r) : Z m_X3_strikes S (Qi r) 89 [(0, .ref (sL S 0 0 40)), (1, .int (x1)), (2, .ref (sL S 0 0 31)), (3, .int (x3)), (4, .int (x4)), (5, .int (x5))] [] σ := by
  unfold F_X3_strikes_89 at h
  refine z_iinc (j := 5) (v := x5 + 1) dX3_strikes_89 rfl rfl (by decide) [1, 2, 3, 4, 5, 0] rfl ?_
  refine z_goto (tgt := 23) dX3_strikes_92 (by decide) ?_
  exact hrc23 h
def F_X3_strikes_71 (rc5 : Int32 → Int32 → Int32 → Mm → Option (Int32 × Mm)) (rc23 : Int32 → Int32 → Int32 → Int32 → Mm → Option (Int32 × Mm)) (x1 : Int32) (x3 : Int32) (x4 : Int32) (x5 : Int32) (s0 : Int32) (σ : Mm) : Option (Int32 × Mm) := (if s0 = ((-1)) then (F_X3_strikes_89 rc5 rc23 x1 x3 x4 x5 σ) else (if inb s0 360 = true then (if (mA σ 0 0 31 s0.toNatClampNeg) = 0 then (F_X3_strikes_89 rc5 rc23 x1 x3 x4 x5 σ) else (F_X3_strikes_89 rc5 rc23 x1 (x3 + 1) x4 x5 σ)) else none))
set_option maxRecDepth 20000 in
theorem zb_X3_strikes_71 {S : Shp} {rc5 : Int32 → Int32 → Int32 → Mm → Option (Int32 × Mm)} (hrc5 : ∀ {x1 : Int32} {x3 : Int32} {x4 : Int32} {σ : Mm} {r : Int32 × Mm}, rc5 x1 x3 x4 σ = some r → Z m_X3_strikes S (Qi r) 5 [(0, .ref (sL S 0 0 40)), (1, .int (x1)), (2, .ref (sL S 0 0 31)), (3, .int (x3)), (4, .int (x4))] [] σ) {rc23 : Int32 → Int32 → Int32 → Int32 → Mm → Option (Int32 × Mm)} (hrc23 : ∀ {x1 : Int32} {x3 : Int32} {x4 : Int32} {x5 : Int32} {σ : Mm} {r : Int32 × Mm}, rc23 x1 x3 x4 x5 σ = some r → Z m_X3_strikes S (Qi r) 23 [(0, .ref (sL S 0 0 40)), (1, .int (x1)), (2, .ref (sL S 0 0 31)), (3, .int (x3)), (4, .int (x4)), (5, .int (x5))] [] σ) {x1 : Int32} {x3 : Int32} {x4 : Int32} {x5 : Int32} {s0 : Int32} {σ : Mm} {r : Int32 × Mm} (h : F_X3_strikes_71 rc5 rc23 x1 x3 x4 x5 s0 σ = some r) : Z m_X3_strikes S (Qi r) 71 [(0, .ref (sL S 0 0 40)), (1, .int (x1)), (2, .ref (sL S 0 0 31)), (3, .int (x3)), (4, .int (x4)), (5, .int (x5))] [.int (s0)] σ := by
  unfold F_X3_strikes_71 at h
  refine z_istore dX3_strikes_71 (by decide) [1, 2, 3, 4, 5, 6, 0] rfl ?_
  refine z_iload dX3_strikes_73 6 rfl ?_
  refine z_iconst (v := (-1)) dX3_strikes_75 (by decide) ?_
  refine z_icmp_eq (tgt := 89) dX3_strikes_76 (by decide) (fun q => ?_) (fun q => ?_)
  · have h := (if_pos q).symm.trans h
    refine Z.lv [0, 1, 2, 3, 4, 5] rfl ?_
    exact zb_X3_strikes_89 hrc5 hrc23 h
  · have h := (if_neg q).symm.trans h
    obtain ⟨g5, h⟩ := gd h
    refine z_aload_n dX3_strikes_79 rfl 2 rfl ?_
    refine z_iload dX3_strikes_80 6 rfl ?_
    refine ia_0_31 (inb_in g5) dX3_strikes_82 ?_
    refine z_if_eq (tgt := 89) dX3_strikes_83 (by decide) (fun q => ?_) (fun q => ?_)
    · have h := (if_pos q).symm.trans h
      refine Z.lv [0, 1, 2, 3, 4, 5] rfl ?_
      exact zb_X3_strikes_89 hrc5 hrc23 h
    · have h := (if_neg q).symm.trans h
      refine z_iinc (j := 3) (v := x3 + 1) dX3_strikes_86 rfl rfl (by decide) [1, 2, 3, 0, 4, 5, 6] rfl ?_
      refine Z.lv [0, 1, 2, 3, 4, 5] rfl ?_
      exact zb_X3_strikes_89 hrc5 hrc23 h
def B_X3_strikes_23 (rc5 : Int32 → Int32 → Int32 → Mm → Option (Int32 × Mm)) (rc23 : Int32 → Int32 → Int32 → Int32 → Mm → Option (Int32 × Mm)) (x1 : Int32) (x3 : Int32) (x4 : Int32) (x5 : Int32) (σ : Mm) : Option (Int32 × Mm) := (if (2 * x1) ≤ x5 then (F_X3_strikes_95 rc5 x1 x3 x4 σ) else (if 14 ≤ x5 then (F_X3_strikes_95 rc5 x1 x3 x4 σ) else (if inb x5 14 = true then (if inb x4 14 = true then (if inb x5 14 = true then (if inb x4 14 = true then (bnd (F_X1_bearing ((mA σ 0 0 41 x5.toNatClampNeg) - (mA σ 0 0 41 x4.toNatClampNeg)) ((mA σ 0 0 42 x5.toNatClampNeg) - (mA σ 0 0 42 x4.toNatClampNeg)) σ) (fun v τ => (F_X3_strikes_71 rc5 rc23 x1 x3 x4 x5 v τ))) else none) else none) else none) else none)))
set_option maxRecDepth 20000 in
theorem zB_X3_strikes_23 {S : Shp} {rc5 : Int32 → Int32 → Int32 → Mm → Option (Int32 × Mm)} (hrc5 : ∀ {x1 : Int32} {x3 : Int32} {x4 : Int32} {σ : Mm} {r : Int32 × Mm}, rc5 x1 x3 x4 σ = some r → Z m_X3_strikes S (Qi r) 5 [(0, .ref (sL S 0 0 40)), (1, .int (x1)), (2, .ref (sL S 0 0 31)), (3, .int (x3)), (4, .int (x4))] [] σ) {rc23 : Int32 → Int32 → Int32 → Int32 → Mm → Option (Int32 × Mm)} (hrc23 : ∀ {x1 : Int32} {x3 : Int32} {x4 : Int32} {x5 : Int32} {σ : Mm} {r : Int32 × Mm}, rc23 x1 x3 x4 x5 σ = some r → Z m_X3_strikes S (Qi r) 23 [(0, .ref (sL S 0 0 40)), (1, .int (x1)), (2, .ref (sL S 0 0 31)), (3, .int (x3)), (4, .int (x4)), (5, .int (x5))] [] σ) {x1 : Int32} {x3 : Int32} {x4 : Int32} {x5 : Int32} {σ : Mm} {r : Int32 × Mm} (h : B_X3_strikes_23 rc5 rc23 x1 x3 x4 x5 σ = some r) : Z m_X3_strikes S (Qi r) 23 [(0, .ref (sL S 0 0 40)), (1, .int (x1)), (2, .ref (sL S 0 0 31)), (3, .int (x3)), (4, .int (x4)), (5, .int (x5))] [] σ := by
  unfold B_X3_strikes_23 at h
  refine z_iload dX3_strikes_23 5 rfl ?_
  refine z_iconst (v := 2) dX3_strikes_25 (by decide) ?_
  refine z_iload_n dX3_strikes_26 rfl 1 rfl ?_
  refine z_imul dX3_strikes_27 ?_
  refine z_icmp_ge (tgt := 95) dX3_strikes_28 (by decide) (fun q => ?_) (fun q => ?_)
  · have h := (if_pos q).symm.trans h
    refine Z.lv [0, 1, 2, 3, 4] rfl ?_
    exact zb_X3_strikes_95 hrc5 h
  · have h := (if_neg q).symm.trans h
    refine z_iload dX3_strikes_31 5 rfl ?_
    refine z_bipush (v := 14) dX3_strikes_33 (by decide) ?_
    refine z_icmp_ge (tgt := 95) dX3_strikes_35 (by decide) (fun q => ?_) (fun q => ?_)
    · have h := (if_pos q).symm.trans h
      refine Z.lv [0, 1, 2, 3, 4] rfl ?_
      exact zb_X3_strikes_95 hrc5 h
    · have h := (if_neg q).symm.trans h
      obtain ⟨g1, h⟩ := gd h
      refine z_aload_n dX3_strikes_38 rfl 0 rfl ?_
      refine gf_3_9 rfl dX3_strikes_39 ?_
      refine z_iload dX3_strikes_42 5 rfl ?_
      obtain ⟨g2, h⟩ := gd h
      refine ia_0_41 (inb_in g1) dX3_strikes_44 ?_
      refine z_aload_n dX3_strikes_45 rfl 0 rfl ?_
      refine gf_3_9 rfl dX3_strikes_46 ?_
      refine z_iload dX3_strikes_49 4 rfl ?_
      obtain ⟨g3, h⟩ := gd h
      refine ia_0_41 (inb_in g2) dX3_strikes_51 ?_
      refine z_isub dX3_strikes_52 ?_
      refine z_aload_n dX3_strikes_53 rfl 0 rfl ?_
      refine gf_3_15 rfl dX3_strikes_54 ?_
      refine z_iload dX3_strikes_57 5 rfl ?_
      obtain ⟨g4, h⟩ := gd h
      refine ia_0_42 (inb_in g3) dX3_strikes_59 ?_
      refine z_aload_n dX3_strikes_60 rfl 0 rfl ?_
      refine gf_3_15 rfl dX3_strikes_61 ?_
      refine z_iload dX3_strikes_64 4 rfl ?_
      refine ia_0_42 (inb_in g4) dX3_strikes_66 ?_
      refine z_isub dX3_strikes_67 ?_
      obtain ⟨v, τ, hc, h⟩ := bnd_e h
      refine z_callS (M' := m_X1_bearing) (As := [.int ((mA σ 0 0 41 x5.toNatClampNeg) - (mA σ 0 0 41 x4.toNatClampNeg)), .int ((mA σ 0 0 42 x5.toNatClampNeg) - (mA σ 0 0 42 x4.toNatClampNeg))]) (rest := []) kl_3_45 oy_X1_bearing ⟨Nat.le_of_ble_eq_true rfl, Nat.le_of_ble_eq_true rfl⟩ rfl (Nat.le_of_ble_eq_true rfl) rfl dX3_strikes_68 (c_X1_bearing hc) (fun v2 τ2 hq => ?_)
      obtain ⟨rfl, rfl⟩ := hq
      change Z _ _ _ _ _ [.int (v)] _
      exact zb_X3_strikes_71 hrc5 hrc23 h
def F_X3_strikes_23 (rc5 : Int32 → Int32 → Int32 → Mm → Option (Int32 × Mm)) : Nat → Int32 → Int32 → Int32 → Int32 → Mm → Option (Int32 × Mm)
  | 0 => fun _ _ _ _ _ => none
  | n + 1 => B_X3_strikes_23 rc5 (F_X3_strikes_23 rc5 n)
theorem zl_X3_strikes_23 {S : Shp} {rc5 : Int32 → Int32 → Int32 → Mm → Option (Int32 × Mm)} (hrc5 : ∀ {x1 : Int32} {x3 : Int32} {x4 : Int32} {σ : Mm} {r : Int32 × Mm}, rc5 x1 x3 x4 σ = some r → Z m_X3_strikes S (Qi r) 5 [(0, .ref (sL S 0 0 40)), (1, .int (x1)), (2, .ref (sL S 0 0 31)), (3, .int (x3)), (4, .int (x4))] [] σ) (n : Nat) {x1 : Int32} {x3 : Int32} {x4 : Int32} {x5 : Int32} {σ : Mm} {r : Int32 × Mm} (h : F_X3_strikes_23 rc5 n x1 x3 x4 x5 σ = some r) : Z m_X3_strikes S (Qi r) 23 [(0, .ref (sL S 0 0 40)), (1, .int (x1)), (2, .ref (sL S 0 0 31)), (3, .int (x3)), (4, .int (x4)), (5, .int (x5))] [] σ := by
  induction n generalizing x1 x3 x4 x5 σ r with
  | zero => cases h
  | succ n ih => exact zB_X3_strikes_23 hrc5 (fun h => ih h) h
def B_X3_strikes_5 (rc5 : Int32 → Int32 → Int32 → Mm → Option (Int32 × Mm)) (x1 : Int32) (x3 : Int32) (x4 : Int32) (σ : Mm) : Option (Int32 × Mm) := (if (2 * x1) ≤ x4 then some (x3, σ) else (if 14 ≤ x4 then some (x3, σ) else (F_X3_strikes_23 rc5 FU x1 x3 x4 0 σ)))
set_option maxRecDepth 20000 in
theorem zB_X3_strikes_5 {S : Shp} {rc5 : Int32 → Int32 → Int32 → Mm → Option (Int32 × Mm)} (hrc5 : ∀ {x1 : Int32} {x3 : Int32} {x4 : Int32} {σ : Mm} {r : Int32 × Mm}, rc5 x1 x3 x4 σ = some r → Z m_X3_strikes S (Qi r) 5 [(0, .ref (sL S 0 0 40)), (1, .int (x1)), (2, .ref (sL S 0 0 31)), (3, .int (x3)), (4, .int (x4))] [] σ) {x1 : Int32} {x3 : Int32} {x4 : Int32} {σ : Mm} {r : Int32 × Mm} (h : B_X3_strikes_5 rc5 x1 x3 x4 σ = some r) : Z m_X3_strikes S (Qi r) 5 [(0, .ref (sL S 0 0 40)), (1, .int (x1)), (2, .ref (sL S 0 0 31)), (3, .int (x3)), (4, .int (x4))] [] σ := by
  unfold B_X3_strikes_5 at h
  refine z_iload dX3_strikes_5 4 rfl ?_
  refine z_iconst (v := 2) dX3_strikes_7 (by decide) ?_
  refine z_iload_n dX3_strikes_8 rfl 1 rfl ?_
  refine z_imul dX3_strikes_9 ?_
  refine z_icmp_ge (tgt := 101) dX3_strikes_10 (by decide) (fun q => ?_) (fun q => ?_)
  · have h := (if_pos q).symm.trans h
    refine z_iload_n dX3_strikes_101 rfl 3 rfl ?_
    cases h
    exact z_ireturn dX3_strikes_102 rfl rfl ⟨rfl, rfl⟩
  · have h := (if_neg q).symm.trans h
    refine z_iload dX3_strikes_13 4 rfl ?_
    refine z_bipush (v := 14) dX3_strikes_15 (by decide) ?_
    refine z_icmp_ge (tgt := 101) dX3_strikes_17 (by decide) (fun q => ?_) (fun q => ?_)
    · have h := (if_pos q).symm.trans h
      refine z_iload_n dX3_strikes_101 rfl 3 rfl ?_
      cases h
      exact z_ireturn dX3_strikes_102 rfl rfl ⟨rfl, rfl⟩
    · have h := (if_neg q).symm.trans h
      refine z_iconst (v := 0) dX3_strikes_20 (by decide) ?_
      refine z_istore dX3_strikes_21 (by decide) [1, 2, 3, 4, 5, 0] rfl ?_
      exact zl_X3_strikes_23 hrc5 FU h
def F_X3_strikes_5 : Nat → Int32 → Int32 → Int32 → Mm → Option (Int32 × Mm)
  | 0 => fun _ _ _ _ => none
  | n + 1 => B_X3_strikes_5 (F_X3_strikes_5 n)
theorem zl_X3_strikes_5 {S : Shp} (n : Nat) {x1 : Int32} {x3 : Int32} {x4 : Int32} {σ : Mm} {r : Int32 × Mm} (h : F_X3_strikes_5 n x1 x3 x4 σ = some r) : Z m_X3_strikes S (Qi r) 5 [(0, .ref (sL S 0 0 40)), (1, .int (x1)), (2, .ref (sL S 0 0 31)), (3, .int (x3)), (4, .int (x4))] [] σ := by
  induction n generalizing x1 x3 x4 σ r with
  | zero => cases h
  | succ n ih => exact zB_X3_strikes_5 (fun h => ih h) h
def F_X3_strikes (x1 : Int32) (σ : Mm) : Option (Int32 × Mm) := (F_X3_strikes_5 FU x1 0 0 σ)
set_option maxRecDepth 20000 in
theorem zb_X3_strikes {S : Shp} {x1 : Int32} {σ : Mm} {r : Int32 × Mm} (h : F_X3_strikes x1 σ = some r) : Z m_X3_strikes S (Qi r) 0 [(0, .ref (sL S 0 0 40)), (1, .int (x1)), (2, .ref (sL S 0 0 31))] [] σ := by
  unfold F_X3_strikes at h
  refine z_iconst (v := 0) dX3_strikes_0 (by decide) ?_
  refine z_istore_n dX3_strikes_1 rfl (by decide) [1, 2, 3, 0] rfl ?_
  refine z_iconst (v := 0) dX3_strikes_2 (by decide) ?_
  refine z_istore dX3_strikes_3 (by decide) [1, 2, 3, 4, 0] rfl ?_
  exact zl_X3_strikes_5 FU h
/-- SkyStones$Maker.strikes(I[I)I -/
theorem c_X3_strikes {S : Shp} {x1 : Int32} {σ : Mm} {r : Int32 × Mm} (h : F_X3_strikes x1 σ = some r) : Ct m_X3_strikes S [.ref (sL S 0 0 40), .int (x1), .ref (sL S 0 0 31)] σ (Qi r) := Ct.of (by decide) (Nat.le_of_ble_eq_true rfl) (zb_X3_strikes h)
def F_X11_move_30 (s0 : Int32) (σ : Mm) : Option (Int32 × Mm) := some (s0, σ)
set_option maxRecDepth 20000 in
theorem zb_X11_move_30 {S : Shp} {s0 : Int32} {σ : Mm} {r : Int32 × Mm} (h : F_X11_move_30 s0 σ = some r) : Z m_X11_move S (Qi r) 30 [] [.int (s0)] σ := by
  unfold F_X11_move_30 at h
  cases h
  exact z_ireturn dX11_move_30 rfl rfl ⟨rfl, rfl⟩
def F_X11_move (x1 : Int32) (x2 : Int32) (x3 : Int32) (σ : Mm) : Option (Int32 × Mm) := (if okP σ = true then (if (f_X11_isThing x1 σ) = 0 then some ((-1), σ) else (if (f_X11_isSpot x2 x3) = 0 then some ((-1), σ) else (bnd (F_X7_note 0 1 x1 x2 x3 0 σ) (fun v τ => (F_X11_move_30 v τ))))) else none)
set_option maxRecDepth 20000 in
theorem zb_X11_move {S : Shp} {x1 : Int32} {x2 : Int32} {x3 : Int32} {σ : Mm} {r : Int32 × Mm} (h : F_X11_move x1 x2 x3 σ = some r) : Z m_X11_move S (Qi r) 0 [(0, .ref (sL S 0 0 0)), (1, .int (x1)), (2, .int (x2)), (3, .int (x3))] [] σ := by
  unfold F_X11_move at h
  obtain ⟨g1, h⟩ := gd h
  refine z_aload_n dX11_move_0 rfl 0 rfl ?_
  refine z_iload_n dX11_move_1 rfl 1 rfl ?_
  have hp := g1
  refine z_callV (M' := m_X11_isThing) (t := 0) (i := 0) (k := 0) (As := [.int (x1)]) (rest := []) kl_11_146 oy_X11_isThing ⟨Nat.le_of_ble_eq_true rfl, Nat.le_of_ble_eq_true rfl⟩ rfl rfl rfl rfl (Nat.le_of_ble_eq_true rfl) rfl dX11_move_2 (c_X11_isThing hp rfl) (fun v τ hq => ?_)
  obtain ⟨rfl, rfl⟩ := hq
  change Z _ _ _ _ _ [.int (f_X11_isThing x1 σ)] _
  refine z_if_eq (tgt := 16) dX11_move_5 (by decide) (fun q => ?_) (fun q => ?_)
  · have h := (if_pos q).symm.trans h
    refine z_iconst (v := (-1)) dX11_move_16 (by decide) ?_
    cases h
    exact z_ireturn dX11_move_17 rfl rfl ⟨rfl, rfl⟩
  · have h := (if_neg q).symm.trans h
    refine z_iload_n dX11_move_8 rfl 2 rfl ?_
    refine z_iload_n dX11_move_9 rfl 3 rfl ?_
    refine z_callS (M' := m_X11_isSpot) (As := [.int (x2), .int (x3)]) (rest := []) kl_11_131 oy_X11_isSpot ⟨Nat.le_of_ble_eq_true rfl, Nat.le_of_ble_eq_true rfl⟩ rfl (Nat.le_of_ble_eq_true rfl) rfl dX11_move_10 (c_X11_isSpot rfl) (fun v τ hq => ?_)
    obtain ⟨rfl, rfl⟩ := hq
    change Z _ _ _ _ _ [.int (f_X11_isSpot x2 x3)] _
    refine z_if_ne (tgt := 18) dX11_move_13 (by decide) (fun q => ?_) (fun q => ?_)
    · have h := (if_neg q).symm.trans h
      refine z_aload_n dX11_move_18 rfl 0 rfl ?_
      refine gf_11_38 rfl dX11_move_19 ?_
      refine z_iconst (v := 1) dX11_move_22 (by decide) ?_
      refine z_iload_n dX11_move_23 rfl 1 rfl ?_
      refine z_iload_n dX11_move_24 rfl 2 rfl ?_
      refine z_iload_n dX11_move_25 rfl 3 rfl ?_
      refine z_iconst (v := 0) dX11_move_26 (by decide) ?_
      obtain ⟨v, τ, hc, h⟩ := bnd_e h
      refine z_callV (M' := m_X7_note) (t := 2) (i := 0) (k := 0) (As := [.int (1), .int (x1), .int (x2), .int (x3), .int (0)]) (rest := []) kl_11_139 oy_X7_note ⟨Nat.le_of_ble_eq_true rfl, Nat.le_of_ble_eq_true rfl⟩ rfl rfl rfl rfl (Nat.le_of_ble_eq_true rfl) rfl dX11_move_27 (c_X7_note rfl hc) (fun v2 τ2 hq => ?_)
      obtain ⟨rfl, rfl⟩ := hq
      change Z _ _ _ _ _ [.int (v)] _
      refine Z.lv [] rfl ?_
      exact zb_X11_move_30 h
    · have h := (if_pos q).symm.trans h
      refine z_iconst (v := (-1)) dX11_move_16 (by decide) ?_
      cases h
      exact z_ireturn dX11_move_17 rfl rfl ⟨rfl, rfl⟩
/-- SkyStones.move(III)I -/
theorem c_X11_move {S : Shp} {x1 : Int32} {x2 : Int32} {x3 : Int32} {σ : Mm} {r : Int32 × Mm} (h : F_X11_move x1 x2 x3 σ = some r) : Ct m_X11_move S [.ref (sL S 0 0 0), .int (x1), .int (x2), .int (x3)] σ (Qi r) := Ct.of (by decide) (Nat.le_of_ble_eq_true rfl) (zb_X11_move h)
def f_X11_place (σ : Mm) : Int32 := mA σ 0 0 12 1
set_option maxRecDepth 20000 in
theorem zb_X11_place {S : Shp} {σ : Mm} {r : Int32} (hp : okP σ = true) (h : f_X11_place σ = r) : Z m_X11_place S (Qi (r, σ)) 0 [(0, .ref (sL S 0 0 0))] [] σ := by
  unfold f_X11_place at h
  refine z_aload_n dX11_place_0 rfl 0 rfl ?_
  refine gf_11_31 rfl dX11_place_1 ?_
  refine gf_11_121 rfl dX11_place_4 ?_
  subst h
  exact z_ireturn dX11_place_7 rfl rfl ⟨rfl, rfl⟩
/-- SkyStones.place()I -/
theorem c_X11_place {S : Shp} {σ : Mm} {r : Int32} (hp : okP σ = true) (h : f_X11_place σ = r) : Ct m_X11_place S [.ref (sL S 0 0 0)] σ (Qi (r, σ)) := Ct.of (by decide) (Nat.le_of_ble_eq_true rfl) (zb_X11_place hp h)
def F_X11_pointing_40 (s0 : Int32) (σ : Mm) : Option (Int32 × Mm) := some (s0, σ)
set_option maxRecDepth 20000 in
theorem zb_X11_pointing_40 {S : Shp} {s0 : Int32} {σ : Mm} {r : Int32 × Mm} (h : F_X11_pointing_40 s0 σ = some r) : Z m_X11_pointing S (Qi r) 40 [] [.int (s0)] σ := by
  unfold F_X11_pointing_40 at h
  cases h
  exact z_ireturn dX11_pointing_40 rfl rfl ⟨rfl, rfl⟩
def F_X11_pointing_37 (s1 : Int32) (s2 : Int32) (σ : Mm) : Option (Int32 × Mm) := (bnd (F_X11_near_w s2 s1 σ) (fun v τ => (F_X11_pointing_40 v τ)))
set_option maxRecDepth 20000 in
theorem zb_X11_pointing_37 {S : Shp} {s1 : Int32} {s2 : Int32} {σ : Mm} {r : Int32 × Mm} (h : F_X11_pointing_37 s1 s2 σ = some r) : Z m_X11_pointing S (Qi r) 37 [] [.ref (sL S 0 0 3), .int (s1), .int (s2), .ref (sL S 0 0 0)] σ := by
  unfold F_X11_pointing_37 at h
  obtain ⟨v, τ, hc, h⟩ := bnd_e h
  refine z_callV (M' := m_X11_near) (t := 0) (i := 0) (k := 0) (As := [.int (s2), .int (s1), .ref (sL S 0 0 3)]) (rest := []) kl_11_306 oy_X11_near ⟨Nat.le_of_ble_eq_true rfl, Nat.le_of_ble_eq_true rfl⟩ rfl rfl rfl rfl (Nat.le_of_ble_eq_true rfl) rfl dX11_pointing_37 (c_X11_near_w hc) (fun v2 τ2 hq => ?_)
  obtain ⟨rfl, rfl⟩ := hq
  change Z _ _ _ _ _ [.int (v)] _
  exact zb_X11_pointing_40 h
def F_X11_pointing_37_1 (s1 : Int32) (s2 : Int32) (σ : Mm) : Option (Int32 × Mm) := (bnd (F_X11_near_l s2 s1 σ) (fun v τ => (F_X11_pointing_40 v τ)))
set_option maxRecDepth 20000 in
theorem zb_X11_pointing_37_1 {S : Shp} {s1 : Int32} {s2 : Int32} {σ : Mm} {r : Int32 × Mm} (h : F_X11_pointing_37_1 s1 s2 σ = some r) : Z m_X11_pointing S (Qi r) 37 [] [.ref (sL S 0 0 4), .int (s1), .int (s2), .ref (sL S 0 0 0)] σ := by
  unfold F_X11_pointing_37_1 at h
  obtain ⟨v, τ, hc, h⟩ := bnd_e h
  refine z_callV (M' := m_X11_near) (t := 0) (i := 0) (k := 0) (As := [.int (s2), .int (s1), .ref (sL S 0 0 4)]) (rest := []) kl_11_306 oy_X11_near ⟨Nat.le_of_ble_eq_true rfl, Nat.le_of_ble_eq_true rfl⟩ rfl rfl rfl rfl (Nat.le_of_ble_eq_true rfl) rfl dX11_pointing_37 (c_X11_near_l hc) (fun v2 τ2 hq => ?_)
  obtain ⟨rfl, rfl⟩ := hq
  change Z _ _ _ _ _ [.int (v)] _
  exact zb_X11_pointing_40 h
def F_X11_pointing (x1 : Int32) (x2 : Int32) (x3 : Int32) (σ : Mm) : Option (Int32 × Mm) := (if (f_X11_isDegree x1) = 0 then some ((-1), σ) else (if x2 < 0 then some ((-1), σ) else (if x2 ≤ 20 then (if x3 = 0 then (F_X11_pointing_37 x2 x1 σ) else (F_X11_pointing_37_1 x2 x1 σ)) else some ((-1), σ))))
set_option maxRecDepth 20000 in
theorem zb_X11_pointing {S : Shp} {x1 : Int32} {x2 : Int32} {x3 : Int32} {σ : Mm} {r : Int32 × Mm} (h : F_X11_pointing x1 x2 x3 σ = some r) : Z m_X11_pointing S (Qi r) 0 [(0, .ref (sL S 0 0 0)), (1, .int (x1)), (2, .int (x2)), (3, .int (x3))] [] σ := by
  unfold F_X11_pointing at h
  refine z_iload_n dX11_pointing_0 rfl 1 rfl ?_
  refine z_callS (M' := m_X11_isDegree) (As := [.int (x1)]) (rest := []) kl_11_180 oy_X11_isDegree ⟨Nat.le_of_ble_eq_true rfl, Nat.le_of_ble_eq_true rfl⟩ rfl (Nat.le_of_ble_eq_true rfl) rfl dX11_pointing_1 (c_X11_isDegree rfl) (fun v τ hq => ?_)
  obtain ⟨rfl, rfl⟩ := hq
  change Z _ _ _ _ _ [.int (f_X11_isDegree x1)] _
  refine z_if_eq (tgt := 17) dX11_pointing_4 (by decide) (fun q => ?_) (fun q => ?_)
  · have h := (if_pos q).symm.trans h
    refine z_iconst (v := (-1)) dX11_pointing_17 (by decide) ?_
    cases h
    exact z_ireturn dX11_pointing_18 rfl rfl ⟨rfl, rfl⟩
  · have h := (if_neg q).symm.trans h
    refine z_iload_n dX11_pointing_7 rfl 2 rfl ?_
    refine z_if_lt (tgt := 17) dX11_pointing_8 (by decide) (fun q => ?_) (fun q => ?_)
    · have h := (if_pos q).symm.trans h
      refine z_iconst (v := (-1)) dX11_pointing_17 (by decide) ?_
      cases h
      exact z_ireturn dX11_pointing_18 rfl rfl ⟨rfl, rfl⟩
    · have h := (if_neg q).symm.trans h
      refine z_iload_n dX11_pointing_11 rfl 2 rfl ?_
      refine z_bipush (v := 20) dX11_pointing_12 (by decide) ?_
      refine z_icmp_le (tgt := 19) dX11_pointing_14 (by decide) (fun q => ?_) (fun q => ?_)
      · have h := (if_pos q).symm.trans h
        refine z_aload_n dX11_pointing_19 rfl 0 rfl ?_
        refine z_iload_n dX11_pointing_20 rfl 1 rfl ?_
        refine z_iload_n dX11_pointing_21 rfl 2 rfl ?_
        refine z_iload_n dX11_pointing_22 rfl 3 rfl ?_
        refine z_if_eq (tgt := 33) dX11_pointing_23 (by decide) (fun q => ?_) (fun q => ?_)
        · have h := (if_pos q).symm.trans h
          refine z_aload_n dX11_pointing_33 rfl 0 rfl ?_
          refine gf_11_89 rfl dX11_pointing_34 ?_
          refine Z.lv [] rfl ?_
          exact zb_X11_pointing_37 h
        · have h := (if_neg q).symm.trans h
          refine z_aload_n dX11_pointing_26 rfl 0 rfl ?_
          refine gf_11_93 rfl dX11_pointing_27 ?_
          refine z_goto (tgt := 37) dX11_pointing_30 (by decide) ?_
          refine Z.lv [] rfl ?_
          exact zb_X11_pointing_37_1 h
      · have h := (if_neg q).symm.trans h
        refine z_iconst (v := (-1)) dX11_pointing_17 (by decide) ?_
        cases h
        exact z_ireturn dX11_pointing_18 rfl rfl ⟨rfl, rfl⟩
/-- SkyStones.pointing(IIZ)I -/
theorem c_X11_pointing {S : Shp} {x1 : Int32} {x2 : Int32} {x3 : Int32} {σ : Mm} {r : Int32 × Mm} (h : F_X11_pointing x1 x2 x3 σ = some r) : Ct m_X11_pointing S [.ref (sL S 0 0 0), .int (x1), .int (x2), .int (x3)] σ (Qi r) := Ct.of (by decide) (Nat.le_of_ble_eq_true rfl) (zb_X11_pointing h)
def F_X5_kindHere (σ : Mm) : Option (Int32 × Mm) := (if 400 < (mA σ 0 0 12 4) then some (0, σ) else (if inb (mA σ 0 0 12 4) 402 = true then some (mA σ 0 0 8 (mA σ 0 0 12 4).toNatClampNeg, σ) else none))
set_option maxRecDepth 20000 in
theorem zb_X5_kindHere {S : Shp} {σ : Mm} {r : Int32 × Mm} (h : F_X5_kindHere σ = some r) : Z m_X5_kindHere S (Qi r) 0 [(0, .ref (sL S 0 0 12))] [] σ := by
  unfold F_X5_kindHere at h
  refine z_aload_n dX5_kindHere_0 rfl 0 rfl ?_
  refine gf_5_18 rfl dX5_kindHere_1 ?_
  refine z_sipush (v := 400) dX5_kindHere_4 (by decide) ?_
  refine z_icmp_gt (tgt := 25) dX5_kindHere_7 (by decide) (fun q => ?_) (fun q => ?_)
  · have h := (if_pos q).symm.trans h
    refine z_iconst (v := 0) dX5_kindHere_25 (by decide) ?_
    cases h
    exact z_ireturn dX5_kindHere_26 rfl rfl ⟨rfl, rfl⟩
  · have h := (if_neg q).symm.trans h
    obtain ⟨g1, h⟩ := gd h
    refine z_aload_n dX5_kindHere_10 rfl 0 rfl ?_
    refine gf_5_34 rfl dX5_kindHere_11 ?_
    refine gf_5_68 rfl dX5_kindHere_14 ?_
    refine z_aload_n dX5_kindHere_17 rfl 0 rfl ?_
    refine gf_5_18 rfl dX5_kindHere_18 ?_
    refine ia_0_8 (inb_in g1) dX5_kindHere_21 ?_
    refine z_goto (tgt := 26) dX5_kindHere_22 (by decide) ?_
    cases h
    exact z_ireturn dX5_kindHere_26 rfl rfl ⟨rfl, rfl⟩
/-- SkyStones$Reader.kindHere()I -/
theorem c_X5_kindHere {S : Shp} {σ : Mm} {r : Int32 × Mm} (h : F_X5_kindHere σ = some r) : Ct m_X5_kindHere S [.ref (sL S 0 0 12)] σ (Qi r) := Ct.of (by decide) (Nat.le_of_ble_eq_true rfl) (zb_X5_kindHere h)
def F_X5_stop_31 (σ : Mm) : Option (Mm) := (if inb (mA σ 0 0 12 4) 402 = true then some (setA σ 0 0 12 (upd (mA σ 0 0 12) 1 (mA σ 0 0 9 (mA σ 0 0 12 4).toNatClampNeg))) else none)
set_option maxRecDepth 20000 in
theorem zb_X5_stop_31 {S : Shp} {σ : Mm} {r : Mm} (h : F_X5_stop_31 σ = some r) : Z m_X5_stop S (Qv r) 31 [] [.ref (sL S 0 0 12), .ref (sL S 0 0 9), .ref (sL S 0 0 12)] σ := by
  unfold F_X5_stop_31 at h
  obtain ⟨g1, h⟩ := gd h
  refine gf_5_18 rfl dX5_stop_31 ?_
  refine ia_0_9 (inb_in g1) dX5_stop_34 ?_
  refine pf_5_15 rfl dX5_stop_35 ?_
  cases h
  exact z_return dX5_stop_38 rfl ⟨rfl, rfl⟩
def F_X5_stop (x1 : Int32) (σ : Mm) : Option (Mm) := (if (mA σ 0 0 12 0) = 0 then (if 400 < (mA σ 0 0 12 4) then some (σ) else (F_X5_stop_31 (setA σ 0 0 12 (upd (mA σ 0 0 12) 0 x1)))) else some (σ))
set_option maxRecDepth 20000 in
theorem zb_X5_stop {S : Shp} {x1 : Int32} {σ : Mm} {r : Mm} (h : F_X5_stop x1 σ = some r) : Z m_X5_stop S (Qv r) 0 [(0, .ref (sL S 0 0 12)), (1, .int (x1))] [] σ := by
  unfold F_X5_stop at h
  refine z_aload_n dX5_stop_0 rfl 0 rfl ?_
  refine gf_5_9 rfl dX5_stop_1 ?_
  refine z_if_ne (tgt := 38) dX5_stop_4 (by decide) (fun q => ?_) (fun q => ?_)
  · have h := (if_neg q).symm.trans h
    cases h
    exact z_return dX5_stop_38 rfl ⟨rfl, rfl⟩
  · have h := (if_pos q).symm.trans h
    refine z_aload_n dX5_stop_7 rfl 0 rfl ?_
    refine gf_5_18 rfl dX5_stop_8 ?_
    refine z_sipush (v := 400) dX5_stop_11 (by decide) ?_
    refine z_icmp_gt (tgt := 38) dX5_stop_14 (by decide) (fun q => ?_) (fun q => ?_)
    · have h := (if_pos q).symm.trans h
      cases h
      exact z_return dX5_stop_38 rfl ⟨rfl, rfl⟩
    · have h := (if_neg q).symm.trans h
      refine z_aload_n dX5_stop_17 rfl 0 rfl ?_
      refine z_iload_n dX5_stop_18 rfl 1 rfl ?_
      refine pf_5_9 rfl dX5_stop_19 ?_
      refine z_aload_n dX5_stop_22 rfl 0 rfl ?_
      refine z_aload_n dX5_stop_23 rfl 0 rfl ?_
      refine gf_5_34 rfl dX5_stop_24 ?_
      refine gf_5_74 rfl dX5_stop_27 ?_
      refine z_aload_n dX5_stop_30 rfl 0 rfl ?_
      refine Z.lv [] rfl ?_
      exact zb_X5_stop_31 h
/-- SkyStones$Reader.stop(I)V -/
theorem c_X5_stop {S : Shp} {x1 : Int32} {σ : Mm} {r : Mm} (h : F_X5_stop x1 σ = some r) : Ct m_X5_stop S [.ref (sL S 0 0 12), .int (x1)] σ (Qv r) := Ct.of (by decide) (Nat.le_of_ble_eq_true rfl) (zb_X5_stop h)
def F_X5_blame_32 (s0 : Int32) (σ : Mm) : Option (Mm) := (if inb s0 402 = true then some (setA σ 0 0 12 (upd (mA σ 0 0 12) 6 (mA σ 0 0 9 s0.toNatClampNeg))) else none)
set_option maxRecDepth 20000 in
theorem zb_X5_blame_32 {S : Shp} {s0 : Int32} {σ : Mm} {r : Mm} (h : F_X5_blame_32 s0 σ = some r) : Z m_X5_blame S (Qv r) 32 [] [.int (s0), .ref (sL S 0 0 9), .ref (sL S 0 0 12)] σ := by
  unfold F_X5_blame_32 at h
  obtain ⟨g1, h⟩ := gd h
  refine ia_0_9 (inb_in g1) dX5_blame_32 ?_
  refine pf_5_24 rfl dX5_blame_33 ?_
  cases h
  exact z_return dX5_blame_36 rfl ⟨rfl, rfl⟩
def F_X5_blame (x1 : Int32) (x2 : Int32) (σ : Mm) : Option (Mm) := (if (mA σ 0 0 12 5) = 0 then (if x2 < 0 then some (σ) else (if 400 < x2 then some (σ) else (F_X5_blame_32 x2 (setA σ 0 0 12 (upd (mA σ 0 0 12) 5 x1))))) else some (σ))
set_option maxRecDepth 20000 in
theorem zb_X5_blame {S : Shp} {x1 : Int32} {x2 : Int32} {σ : Mm} {r : Mm} (h : F_X5_blame x1 x2 σ = some r) : Z m_X5_blame S (Qv r) 0 [(0, .ref (sL S 0 0 12)), (1, .int (x1)), (2, .int (x2))] [] σ := by
  unfold F_X5_blame at h
  refine z_aload_n dX5_blame_0 rfl 0 rfl ?_
  refine gf_5_21 rfl dX5_blame_1 ?_
  refine z_if_ne (tgt := 36) dX5_blame_4 (by decide) (fun q => ?_) (fun q => ?_)
  · have h := (if_neg q).symm.trans h
    cases h
    exact z_return dX5_blame_36 rfl ⟨rfl, rfl⟩
  · have h := (if_pos q).symm.trans h
    refine z_iload_n dX5_blame_7 rfl 2 rfl ?_
    refine z_if_lt (tgt := 36) dX5_blame_8 (by decide) (fun q => ?_) (fun q => ?_)
    · have h := (if_pos q).symm.trans h
      cases h
      exact z_return dX5_blame_36 rfl ⟨rfl, rfl⟩
    · have h := (if_neg q).symm.trans h
      refine z_iload_n dX5_blame_11 rfl 2 rfl ?_
      refine z_sipush (v := 400) dX5_blame_12 (by decide) ?_
      refine z_icmp_gt (tgt := 36) dX5_blame_15 (by decide) (fun q => ?_) (fun q => ?_)
      · have h := (if_pos q).symm.trans h
        cases h
        exact z_return dX5_blame_36 rfl ⟨rfl, rfl⟩
      · have h := (if_neg q).symm.trans h
        refine z_aload_n dX5_blame_18 rfl 0 rfl ?_
        refine z_iload_n dX5_blame_19 rfl 1 rfl ?_
        refine pf_5_21 rfl dX5_blame_20 ?_
        refine z_aload_n dX5_blame_23 rfl 0 rfl ?_
        refine z_aload_n dX5_blame_24 rfl 0 rfl ?_
        refine gf_5_34 rfl dX5_blame_25 ?_
        refine gf_5_74 rfl dX5_blame_28 ?_
        refine z_iload_n dX5_blame_31 rfl 2 rfl ?_
        refine Z.lv [] rfl ?_
        exact zb_X5_blame_32 h
/-- SkyStones$Reader.blame(II)V -/
theorem c_X5_blame {S : Shp} {x1 : Int32} {x2 : Int32} {σ : Mm} {r : Mm} (h : F_X5_blame x1 x2 σ = some r) : Ct m_X5_blame S [.ref (sL S 0 0 12), .int (x1), .int (x2)] σ (Qv r) := Ct.of (by decide) (Nat.le_of_ble_eq_true rfl) (zb_X5_blame h)
def F_X5_hasRoom_10 (σ : Mm) : Option (Int32 × Mm) := (if (mA σ 0 0 12 0) = 0 then some (1, σ) else some (0, σ))
set_option maxRecDepth 20000 in
theorem zb_X5_hasRoom_10 {S : Shp} {σ : Mm} {r : Int32 × Mm} (h : F_X5_hasRoom_10 σ = some r) : Z m_X5_hasRoom S (Qi r) 10 [(0, .ref (sL S 0 0 12))] [] σ := by
  unfold F_X5_hasRoom_10 at h
  refine z_aload_n dX5_hasRoom_10 rfl 0 rfl ?_
  refine gf_5_9 rfl dX5_hasRoom_11 ?_
  refine z_if_ne (tgt := 21) dX5_hasRoom_14 (by decide) (fun q => ?_) (fun q => ?_)
  · have h := (if_neg q).symm.trans h
    refine z_iconst (v := 0) dX5_hasRoom_21 (by decide) ?_
    cases h
    exact z_ireturn dX5_hasRoom_22 rfl rfl ⟨rfl, rfl⟩
  · have h := (if_pos q).symm.trans h
    refine z_iconst (v := 1) dX5_hasRoom_17 (by decide) ?_
    refine z_goto (tgt := 22) dX5_hasRoom_18 (by decide) ?_
    cases h
    exact z_ireturn dX5_hasRoom_22 rfl rfl ⟨rfl, rfl⟩
def F_X5_hasRoom (x1 : Int32) (x2 : Int32) (σ : Mm) : Option (Int32 × Mm) := (if x1 < x2 then (F_X5_hasRoom_10 σ) else (bnv (F_X5_stop 2 σ) (fun τ => (F_X5_hasRoom_10 τ))))
set_option maxRecDepth 20000 in
theorem zb_X5_hasRoom {S : Shp} {x1 : Int32} {x2 : Int32} {σ : Mm} {r : Int32 × Mm} (h : F_X5_hasRoom x1 x2 σ = some r) : Z m_X5_hasRoom S (Qi r) 0 [(0, .ref (sL S 0 0 12)), (1, .int (x1)), (2, .int (x2))] [] σ := by
  unfold F_X5_hasRoom at h
  refine z_iload_n dX5_hasRoom_0 rfl 1 rfl ?_
  refine z_iload_n dX5_hasRoom_1 rfl 2 rfl ?_
  refine z_icmp_lt (tgt := 10) dX5_hasRoom_2 (by decide) (fun q => ?_) (fun q => ?_)
  · have h := (if_pos q).symm.trans h
    refine Z.lv [0] rfl ?_
    exact zb_X5_hasRoom_10 h
  · have h := (if_neg q).symm.trans h
    refine z_aload_n dX5_hasRoom_5 rfl 0 rfl ?_
    refine z_iconst (v := 2) dX5_hasRoom_6 (by decide) ?_
    obtain ⟨τ, hc, h⟩ := bnv_e h
    refine z_callV (M' := m_X5_stop) (t := 0) (i := 0) (k := 12) (As := [.int (2)]) (rest := []) kl_5_65 oy_X5_stop ⟨Nat.le_of_ble_eq_true rfl, Nat.le_of_ble_eq_true rfl⟩ rfl rfl rfl rfl (Nat.le_of_ble_eq_true rfl) rfl dX5_hasRoom_7 (c_X5_stop hc) (fun v2 τ2 hq => ?_)
    obtain ⟨rfl, rfl⟩ := hq
    change Z _ _ _ _ _ [] _
    refine Z.lv [0] rfl ?_
    exact zb_X5_hasRoom_10 h
/-- SkyStones$Reader.hasRoom(II)Z -/
theorem c_X5_hasRoom {S : Shp} {x1 : Int32} {x2 : Int32} {σ : Mm} {r : Int32 × Mm} (h : F_X5_hasRoom x1 x2 σ = some r) : Ct m_X5_hasRoom S [.ref (sL S 0 0 12), .int (x1), .int (x2)] σ (Qi r) := Ct.of (by decide) (Nat.le_of_ble_eq_true rfl) (zb_X5_hasRoom h)
def F_X5_take_91 (σ : Mm) : Option (Int32 × Mm) := (if inb (mA σ 0 0 12 4) 402 = true then some (0, setA σ 0 0 12 (upd (mA σ 0 0 12) 1 (mA σ 0 0 9 (mA σ 0 0 12 4).toNatClampNeg))) else none)
set_option maxRecDepth 20000 in
theorem zb_X5_take_91 {S : Shp} {σ : Mm} {r : Int32 × Mm} (h : F_X5_take_91 σ = some r) : Z m_X5_take S (Qi r) 91 [] [.ref (sL S 0 0 12), .ref (sL S 0 0 9), .ref (sL S 0 0 12)] σ := by
  unfold F_X5_take_91 at h
  obtain ⟨g3, h⟩ := gd h
  refine gf_5_18 rfl dX5_take_91 ?_
  refine ia_0_9 (inb_in g3) dX5_take_94 ?_
  refine pf_5_15 rfl dX5_take_95 ?_
  refine z_iconst (v := 0) dX5_take_98 (by decide) ?_
  cases h
  exact z_ireturn dX5_take_99 rfl rfl ⟨rfl, rfl⟩
def F_X5_take_79 (s0 : Int32) (σ : Mm) : Option (Int32 × Mm) := (F_X5_take_91 (setA σ 0 0 12 (upd (mA σ 0 0 12) 0 s0)))
set_option maxRecDepth 20000 in
theorem zb_X5_take_79 {S : Shp} {s0 : Int32} {σ : Mm} {r : Int32 × Mm} (h : F_X5_take_79 s0 σ = some r) : Z m_X5_take S (Qi r) 79 [(0, .ref (sL S 0 0 12))] [.int (s0), .ref (sL S 0 0 12)] σ := by
  unfold F_X5_take_79 at h
  refine pf_5_9 rfl dX5_take_79 ?_
  refine z_aload_n dX5_take_82 rfl 0 rfl ?_
  refine z_aload_n dX5_take_83 rfl 0 rfl ?_
  refine gf_5_34 rfl dX5_take_84 ?_
  refine gf_5_74 rfl dX5_take_87 ?_
  refine z_aload_n dX5_take_90 rfl 0 rfl ?_
  refine Z.lv [] rfl ?_
  exact zb_X5_take_91 h
def F_X5_take_57 (x1 : Int32) (σ : Mm) : Option (Int32 × Mm) := (if inb (mA σ 0 0 12 4) 402 = true then (if (mA σ 0 0 8 (mA σ 0 0 12 4).toNatClampNeg) = x1 then (F_X5_take_79 2 σ) else (F_X5_take_79 1 σ)) else none)
set_option maxRecDepth 20000 in
theorem zb_X5_take_57 {S : Shp} {x1 : Int32} {σ : Mm} {r : Int32 × Mm} (h : F_X5_take_57 x1 σ = some r) : Z m_X5_take S (Qi r) 57 [(0, .ref (sL S 0 0 12)), (1, .int (x1))] [] σ := by
  unfold F_X5_take_57 at h
  obtain ⟨g2, h⟩ := gd h
  refine z_aload_n dX5_take_57 rfl 0 rfl ?_
  refine z_aload_n dX5_take_58 rfl 0 rfl ?_
  refine gf_5_34 rfl dX5_take_59 ?_
  refine gf_5_68 rfl dX5_take_62 ?_
  refine z_aload_n dX5_take_65 rfl 0 rfl ?_
  refine gf_5_18 rfl dX5_take_66 ?_
  refine ia_0_8 (inb_in g2) dX5_take_69 ?_
  refine z_iload_n dX5_take_70 rfl 1 rfl ?_
  refine z_icmp_ne (tgt := 78) dX5_take_71 (by decide) (fun q => ?_) (fun q => ?_)
  · have h := (if_neg q).symm.trans h
    refine z_iconst (v := 1) dX5_take_78 (by decide) ?_
    refine Z.lv [0] rfl ?_
    exact zb_X5_take_79 h
  · have h := (if_pos q).symm.trans h
    refine z_iconst (v := 2) dX5_take_74 (by decide) ?_
    refine z_goto (tgt := 79) dX5_take_75 (by decide) ?_
    refine Z.lv [0] rfl ?_
    exact zb_X5_take_79 h
def F_X5_take (x1 : Int32) (σ : Mm) : Option (Int32 × Mm) := (if (mA σ 0 0 12 0) = 0 then (if (mA σ 0 0 12 4) ≤ 400 then (if inb (mA σ 0 0 12 4) 402 = true then (if (mA σ 0 0 8 (mA σ 0 0 12 4).toNatClampNeg) = x1 then (if 400 ≤ (mA σ 0 0 12 4) then (F_X5_take_57 x1 σ) else some (1, setA σ 0 0 12 (upd (mA σ 0 0 12) 4 ((mA σ 0 0 12 4) + 1)))) else (F_X5_take_57 x1 σ)) else none) else some (0, σ)) else some (0, σ))
set_option maxRecDepth 20000 in
theorem zb_X5_take {S : Shp} {x1 : Int32} {σ : Mm} {r : Int32 × Mm} (h : F_X5_take x1 σ = some r) : Z m_X5_take S (Qi r) 0 [(0, .ref (sL S 0 0 12)), (1, .int (x1))] [] σ := by
  unfold F_X5_take at h
  refine z_aload_n dX5_take_0 rfl 0 rfl ?_
  refine gf_5_9 rfl dX5_take_1 ?_
  refine z_if_ne (tgt := 17) dX5_take_4 (by decide) (fun q => ?_) (fun q => ?_)
  · have h := (if_neg q).symm.trans h
    refine z_iconst (v := 0) dX5_take_17 (by decide) ?_
    cases h
    exact z_ireturn dX5_take_18 rfl rfl ⟨rfl, rfl⟩
  · have h := (if_pos q).symm.trans h
    refine z_aload_n dX5_take_7 rfl 0 rfl ?_
    refine gf_5_18 rfl dX5_take_8 ?_
    refine z_sipush (v := 400) dX5_take_11 (by decide) ?_
    refine z_icmp_le (tgt := 19) dX5_take_14 (by decide) (fun q => ?_) (fun q => ?_)
    · have h := (if_pos q).symm.trans h
      obtain ⟨g1, h⟩ := gd h
      refine z_aload_n dX5_take_19 rfl 0 rfl ?_
      refine gf_5_34 rfl dX5_take_20 ?_
      refine gf_5_68 rfl dX5_take_23 ?_
      refine z_aload_n dX5_take_26 rfl 0 rfl ?_
      refine gf_5_18 rfl dX5_take_27 ?_
      refine ia_0_8 (inb_in g1) dX5_take_30 ?_
      refine z_iload_n dX5_take_31 rfl 1 rfl ?_
      refine z_icmp_ne (tgt := 57) dX5_take_32 (by decide) (fun q => ?_) (fun q => ?_)
      · have h := (if_neg q).symm.trans h
        exact zb_X5_take_57 h
      · have h := (if_pos q).symm.trans h
        refine z_aload_n dX5_take_35 rfl 0 rfl ?_
        refine gf_5_18 rfl dX5_take_36 ?_
        refine z_sipush (v := 400) dX5_take_39 (by decide) ?_
        refine z_icmp_ge (tgt := 57) dX5_take_42 (by decide) (fun q => ?_) (fun q => ?_)
        · have h := (if_pos q).symm.trans h
          exact zb_X5_take_57 h
        · have h := (if_neg q).symm.trans h
          refine z_aload_n dX5_take_45 rfl 0 rfl ?_
          refine z_dup dX5_take_46 rfl ?_
          refine gf_5_18 rfl dX5_take_47 ?_
          refine z_iconst (v := 1) dX5_take_50 (by decide) ?_
          refine z_iadd dX5_take_51 ?_
          refine pf_5_18 rfl dX5_take_52 ?_
          refine z_iconst (v := 1) dX5_take_55 (by decide) ?_
          cases h
          exact z_ireturn dX5_take_56 rfl rfl ⟨rfl, rfl⟩
    · have h := (if_neg q).symm.trans h
      refine z_iconst (v := 0) dX5_take_17 (by decide) ?_
      cases h
      exact z_ireturn dX5_take_18 rfl rfl ⟨rfl, rfl⟩
/-- SkyStones$Reader.take(I)Z -/
theorem c_X5_take {S : Shp} {x1 : Int32} {σ : Mm} {r : Int32 × Mm} (h : F_X5_take x1 σ = some r) : Ct m_X5_take S [.ref (sL S 0 0 12), .int (x1)] σ (Qi r) := Ct.of (by decide) (Nat.le_of_ble_eq_true rfl) (zb_X5_take h)
def B_X5_thingNamed_2 (rc2 : Int64 → Int32 → Mm → Option (Int32 × Mm)) (x1 : Int64) (x3 : Int32) (σ : Mm) : Option (Int32 × Mm) := (if okP σ = true then (if (mA σ 1 (mP σ 2) 0 1) ≤ x3 then some ((-1), σ) else (if inb x3 14 = true then (if (lg_cmp (mL σ 0 0 13 x3.toNatClampNeg) x1) = 0 then some (x3, σ) else (rc2 x1 (x3 + 1) σ)) else none)) else none)
set_option maxRecDepth 20000 in
theorem zB_X5_thingNamed_2 {S : Shp} {rc2 : Int64 → Int32 → Mm → Option (Int32 × Mm)} (hrc2 : ∀ {x1 : Int64} {x3 : Int32} {σ : Mm} {r : Int32 × Mm}, rc2 x1 x3 σ = some r → Z m_X5_thingNamed S (Qi r) 2 [(0, .ref (sL S 0 0 12)), (1, .long (x1)), (3, .int (x3))] [] σ) {x1 : Int64} {x3 : Int32} {σ : Mm} {r : Int32 × Mm} (h : B_X5_thingNamed_2 rc2 x1 x3 σ = some r) : Z m_X5_thingNamed S (Qi r) 2 [(0, .ref (sL S 0 0 12)), (1, .long (x1)), (3, .int (x3))] [] σ := by
  unfold B_X5_thingNamed_2 at h
  obtain ⟨g1, h⟩ := gd h
  refine z_iload_n dX5_thingNamed_2 rfl 2 rfl ?_
  refine z_aload_n dX5_thingNamed_3 rfl 0 rfl ?_
  have hp := g1
  refine gf_5_38 rfl dX5_thingNamed_4 ?_
  refine gf_5_84 (lv1 (okP_2 hp) rfl) rfl dX5_thingNamed_7 ?_
  refine z_icmp_ge (tgt := 32) dX5_thingNamed_10 (by decide) (fun q => ?_) (fun q => ?_)
  · have h := (if_pos q).symm.trans h
    refine z_iconst (v := (-1)) dX5_thingNamed_32 (by decide) ?_
    cases h
    exact z_ireturn dX5_thingNamed_33 rfl rfl ⟨rfl, rfl⟩
  · have h := (if_neg q).symm.trans h
    obtain ⟨g2, h⟩ := gd h
    refine z_aload_n dX5_thingNamed_13 rfl 0 rfl ?_
    refine gf_5_27 rfl dX5_thingNamed_14 ?_
    refine z_iload_n dX5_thingNamed_17 rfl 2 rfl ?_
    refine ia_0_13 (inb_in g2) dX5_thingNamed_18 ?_
    refine z_lload_n dX5_thingNamed_19 rfl 1 rfl ?_
    refine z_lcmp dX5_thingNamed_20 ?_
    refine z_if_ne (tgt := 26) dX5_thingNamed_21 (by decide) (fun q => ?_) (fun q => ?_)
    · have h := (if_neg q).symm.trans h
      refine z_iinc (j := 2) (v := x3 + 1) dX5_thingNamed_26 rfl rfl (by decide) [1, 2, 0] rfl ?_
      refine z_goto (tgt := 2) dX5_thingNamed_29 (by decide) ?_
      exact hrc2 h
    · have h := (if_pos q).symm.trans h
      refine z_iload_n dX5_thingNamed_24 rfl 2 rfl ?_
      cases h
      exact z_ireturn dX5_thingNamed_25 rfl rfl ⟨rfl, rfl⟩
def F_X5_thingNamed_2 : Nat → Int64 → Int32 → Mm → Option (Int32 × Mm)
  | 0 => fun _ _ _ => none
  | n + 1 => B_X5_thingNamed_2 (F_X5_thingNamed_2 n)
theorem zl_X5_thingNamed_2 {S : Shp} (n : Nat) {x1 : Int64} {x3 : Int32} {σ : Mm} {r : Int32 × Mm} (h : F_X5_thingNamed_2 n x1 x3 σ = some r) : Z m_X5_thingNamed S (Qi r) 2 [(0, .ref (sL S 0 0 12)), (1, .long (x1)), (3, .int (x3))] [] σ := by
  induction n generalizing x1 x3 σ r with
  | zero => cases h
  | succ n ih => exact zB_X5_thingNamed_2 (fun h => ih h) h
def F_X5_thingNamed (x1 : Int64) (σ : Mm) : Option (Int32 × Mm) := (F_X5_thingNamed_2 FU x1 0 σ)
set_option maxRecDepth 20000 in
theorem zb_X5_thingNamed {S : Shp} {x1 : Int64} {σ : Mm} {r : Int32 × Mm} (h : F_X5_thingNamed x1 σ = some r) : Z m_X5_thingNamed S (Qi r) 0 [(0, .ref (sL S 0 0 12)), (1, .long (x1))] [] σ := by
  unfold F_X5_thingNamed at h
  refine z_iconst (v := 0) dX5_thingNamed_0 (by decide) ?_
  refine z_istore_n dX5_thingNamed_1 rfl (by decide) [1, 2, 0] rfl ?_
  exact zl_X5_thingNamed_2 FU h
/-- SkyStones$Reader.thingNamed(J)I -/
theorem c_X5_thingNamed {S : Shp} {x1 : Int64} {σ : Mm} {r : Int32 × Mm} (h : F_X5_thingNamed x1 σ = some r) : Ct m_X5_thingNamed S [.ref (sL S 0 0 12), .long (x1)] σ (Qi r) := Ct.of (by decide) (Nat.le_of_ble_eq_true rfl) (zb_X5_thingNamed h)
def F_X5_tellDoor_150 (σ : Mm) : Option (Mm) := (if okP σ = true then some (setA σ 1 (mP σ 2) 0 (upd (mA σ 1 (mP σ 2) 0) 6 ((mA σ 1 (mP σ 2) 0 6) + 1))) else none)
set_option maxRecDepth 20000 in
theorem zb_X5_tellDoor_150 {S : Shp} {σ : Mm} {r : Mm} (h : F_X5_tellDoor_150 σ = some r) : Z m_X5_tellDoor S (Qv r) 150 [(0, .ref (sL S 0 0 12))] [] σ := by
  unfold F_X5_tellDoor_150 at h
  obtain ⟨g7, h⟩ := gd h
  refine z_aload_n dX5_tellDoor_150 rfl 0 rfl ?_
  have hp := g7
  refine gf_5_38 rfl dX5_tellDoor_151 ?_
  refine z_dup dX5_tellDoor_154 rfl ?_
  refine gf_5_128 (lv1 (okP_2 hp) rfl) rfl dX5_tellDoor_155 ?_
  refine z_iconst (v := 1) dX5_tellDoor_158 (by decide) ?_
  refine z_iadd dX5_tellDoor_159 ?_
  refine pf_5_128 (lv1 (okP_2 hp) rfl) rfl dX5_tellDoor_160 ?_
  cases h
  exact z_return dX5_tellDoor_163 rfl ⟨rfl, rfl⟩
def F_X5_tellDoor_132 (σ : Mm) : Option (Mm) := (F_X5_tellDoor_150 σ)
set_option maxRecDepth 20000 in
theorem zb_X5_tellDoor_132 {S : Shp} {σ : Mm} {r : Mm} (h : F_X5_tellDoor_132 σ = some r) : Z m_X5_tellDoor S (Qv r) 132 [(0, .ref (sL S 0 0 12))] [] σ := by
  unfold F_X5_tellDoor_132 at h
  refine z_goto (tgt := 150) dX5_tellDoor_132 (by decide) ?_
  exact zb_X5_tellDoor_150 h
def F_X5_tellDoor_116 (σ : Mm) : Option (Mm) := (F_X5_tellDoor_150 σ)
set_option maxRecDepth 20000 in
theorem zb_X5_tellDoor_116 {S : Shp} {σ : Mm} {r : Mm} (h : F_X5_tellDoor_116 σ = some r) : Z m_X5_tellDoor S (Qv r) 116 [(0, .ref (sL S 0 0 12))] [] σ := by
  unfold F_X5_tellDoor_116 at h
  refine z_goto (tgt := 150) dX5_tellDoor_116 (by decide) ?_
  exact zb_X5_tellDoor_150 h
def F_X5_tellDoor_100 (σ : Mm) : Option (Mm) := (F_X5_tellDoor_150 σ)
set_option maxRecDepth 20000 in
theorem zb_X5_tellDoor_100 {S : Shp} {σ : Mm} {r : Mm} (h : F_X5_tellDoor_100 σ = some r) : Z m_X5_tellDoor S (Qv r) 100 [(0, .ref (sL S 0 0 12))] [] σ := by
  unfold F_X5_tellDoor_100 at h
  refine z_goto (tgt := 150) dX5_tellDoor_100 (by decide) ?_
  exact zb_X5_tellDoor_150 h
def F_X5_tellDoor_86 (x1 : Int32) (x2 : Int32) (s0 : Int32) (σ : Mm) : Option (Mm) := (if x2 = ((-1)) then (bnv (F_X5_blame 4 (x1 + 1) σ) (fun τ => (F_X5_tellDoor_100 τ))) else (if s0 = ((-1)) then (bnv (F_X5_blame 4 (x1 + 2) σ) (fun τ => (F_X5_tellDoor_116 τ))) else (if x2 = s0 then (bnv (F_X5_blame 5 (x1 + 2) σ) (fun τ => (F_X5_tellDoor_132 τ))) else (if okP σ = true then (if inb x2 14 = true then (if inb x2 14 = true then (F_X5_tellDoor_150 (setA σ 1 (mP σ 2) 5 (upd (mA σ 1 (mP σ 2) 5) x2.toNatClampNeg ((mA σ 1 (mP σ 2) 5 x2.toNatClampNeg) ||| (1 <<< (s0 &&& 31)))))) else none) else none) else none))))
set_option maxRecDepth 20000 in
theorem zb_X5_tellDoor_86 {S : Shp} {x1 : Int32} {x2 : Int32} {s0 : Int32} {σ : Mm} {r : Mm} (h : F_X5_tellDoor_86 x1 x2 s0 σ = some r) : Z m_X5_tellDoor S (Qv r) 86 [(0, .ref (sL S 0 0 12)), (1, .int (x1)), (2, .int (x2))] [.int (s0)] σ := by
  unfold F_X5_tellDoor_86 at h
  refine z_istore_n dX5_tellDoor_86 rfl (by decide) [1, 2, 3, 0] rfl ?_
  refine z_iload_n dX5_tellDoor_87 rfl 2 rfl ?_
  refine z_iconst (v := (-1)) dX5_tellDoor_88 (by decide) ?_
  refine z_icmp_ne (tgt := 103) dX5_tellDoor_89 (by decide) (fun q => ?_) (fun q => ?_)
  · have h := (if_neg q).symm.trans h
    refine z_iload_n dX5_tellDoor_103 rfl 3 rfl ?_
    refine z_iconst (v := (-1)) dX5_tellDoor_104 (by decide) ?_
    refine z_icmp_ne (tgt := 119) dX5_tellDoor_105 (by decide) (fun q => ?_) (fun q => ?_)
    · have h := (if_neg q).symm.trans h
      refine z_iload_n dX5_tellDoor_119 rfl 2 rfl ?_
      refine z_iload_n dX5_tellDoor_120 rfl 3 rfl ?_
      refine z_icmp_ne (tgt := 135) dX5_tellDoor_121 (by decide) (fun q => ?_) (fun q => ?_)
      · have h := (if_neg q).symm.trans h
        obtain ⟨g4, h⟩ := gd h
        refine z_aload_n dX5_tellDoor_135 rfl 0 rfl ?_
        obtain ⟨g5, h⟩ := gd h
        have hp := g4
        refine gf_5_38 rfl dX5_tellDoor_136 ?_
        refine gf_5_131 (lv1 (okP_2 hp) rfl) rfl dX5_tellDoor_139 ?_
        refine z_iload_n dX5_tellDoor_142 rfl 2 rfl ?_
        refine z_dup2_11 dX5_tellDoor_143 rfl rfl ?_
        obtain ⟨g6, h⟩ := gd h
        refine ia_1_5 (lv1 (okP_2 hp) rfl) (inb_in g5) dX5_tellDoor_144 ?_
        refine z_iconst (v := 1) dX5_tellDoor_145 (by decide) ?_
        refine z_iload_n dX5_tellDoor_146 rfl 3 rfl ?_
        refine z_ishl dX5_tellDoor_147 ?_
        refine z_ior dX5_tellDoor_148 ?_
        refine is_1_5 (lv1 (okP_2 hp) rfl) (inb_in g6) dX5_tellDoor_149 ?_
        refine Z.lv [0] rfl ?_
        exact zb_X5_tellDoor_150 h
      · have h := (if_pos q).symm.trans h
        refine z_aload_n dX5_tellDoor_124 rfl 0 rfl ?_
        refine z_iconst (v := 5) dX5_tellDoor_125 (by decide) ?_
        refine z_iload_n dX5_tellDoor_126 rfl 1 rfl ?_
        refine z_iconst (v := 2) dX5_tellDoor_127 (by decide) ?_
        refine z_iadd dX5_tellDoor_128 ?_
        obtain ⟨τ, hc, h⟩ := bnv_e h
        refine z_callV (M' := m_X5_blame) (t := 0) (i := 0) (k := 12) (As := [.int (5), .int (x1 + 2)]) (rest := []) kl_5_80 oy_X5_blame ⟨Nat.le_of_ble_eq_true rfl, Nat.le_of_ble_eq_true rfl⟩ rfl rfl rfl rfl (Nat.le_of_ble_eq_true rfl) rfl dX5_tellDoor_129 (c_X5_blame hc) (fun v2 τ2 hq => ?_)
        obtain ⟨rfl, rfl⟩ := hq
        change Z _ _ _ _ _ [] _
        refine Z.lv [0] rfl ?_
        exact zb_X5_tellDoor_132 h
    · have h := (if_pos q).symm.trans h
      refine z_aload_n dX5_tellDoor_108 rfl 0 rfl ?_
      refine z_iconst (v := 4) dX5_tellDoor_109 (by decide) ?_
      refine z_iload_n dX5_tellDoor_110 rfl 1 rfl ?_
      refine z_iconst (v := 2) dX5_tellDoor_111 (by decide) ?_
      refine z_iadd dX5_tellDoor_112 ?_
      obtain ⟨τ, hc, h⟩ := bnv_e h
      refine z_callV (M' := m_X5_blame) (t := 0) (i := 0) (k := 12) (As := [.int (4), .int (x1 + 2)]) (rest := []) kl_5_80 oy_X5_blame ⟨Nat.le_of_ble_eq_true rfl, Nat.le_of_ble_eq_true rfl⟩ rfl rfl rfl rfl (Nat.le_of_ble_eq_true rfl) rfl dX5_tellDoor_113 (c_X5_blame hc) (fun v2 τ2 hq => ?_)
      obtain ⟨rfl, rfl⟩ := hq
      change Z _ _ _ _ _ [] _
      refine Z.lv [0] rfl ?_
      exact zb_X5_tellDoor_116 h
  · have h := (if_pos q).symm.trans h
    refine z_aload_n dX5_tellDoor_92 rfl 0 rfl ?_
    refine z_iconst (v := 4) dX5_tellDoor_93 (by decide) ?_
    refine z_iload_n dX5_tellDoor_94 rfl 1 rfl ?_
    refine z_iconst (v := 1) dX5_tellDoor_95 (by decide) ?_
    refine z_iadd dX5_tellDoor_96 ?_
    obtain ⟨τ, hc, h⟩ := bnv_e h
    refine z_callV (M' := m_X5_blame) (t := 0) (i := 0) (k := 12) (As := [.int (4), .int (x1 + 1)]) (rest := []) kl_5_80 oy_X5_blame ⟨Nat.le_of_ble_eq_true rfl, Nat.le_of_ble_eq_true rfl⟩ rfl rfl rfl rfl (Nat.le_of_ble_eq_true rfl) rfl dX5_tellDoor_97 (c_X5_blame hc) (fun v2 τ2 hq => ?_)
    obtain ⟨rfl, rfl⟩ := hq
    change Z _ _ _ _ _ [] _
    refine Z.lv [0] rfl ?_
    exact zb_X5_tellDoor_100 h
def F_X5_tellDoor_70 (x1 : Int32) (s0 : Int32) (σ : Mm) : Option (Mm) := (if inb (x1 + 2) 402 = true then (bnd (F_X5_thingNamed (mL σ 0 0 11 (x1 + 2).toNatClampNeg) σ) (fun v τ => (F_X5_tellDoor_86 x1 s0 v τ))) else none)
set_option maxRecDepth 20000 in
theorem zb_X5_tellDoor_70 {S : Shp} {x1 : Int32} {s0 : Int32} {σ : Mm} {r : Mm} (h : F_X5_tellDoor_70 x1 s0 σ = some r) : Z m_X5_tellDoor S (Qv r) 70 [(0, .ref (sL S 0 0 12)), (1, .int (x1))] [.int (s0)] σ := by
  unfold F_X5_tellDoor_70 at h
  obtain ⟨g3, h⟩ := gd h
  refine z_istore_n dX5_tellDoor_70 rfl (by decide) [1, 2, 0] rfl ?_
  refine z_aload_n dX5_tellDoor_71 rfl 0 rfl ?_
  refine z_aload_n dX5_tellDoor_72 rfl 0 rfl ?_
  refine gf_5_34 rfl dX5_tellDoor_73 ?_
  refine gf_5_89 rfl dX5_tellDoor_76 ?_
  refine z_iload_n dX5_tellDoor_79 rfl 1 rfl ?_
  refine z_iconst (v := 2) dX5_tellDoor_80 (by decide) ?_
  refine z_iadd dX5_tellDoor_81 ?_
  refine ia_0_11 (inb_in g3) dX5_tellDoor_82 ?_
  obtain ⟨v, τ, hc, h⟩ := bnd_e h
  refine z_callV (M' := m_X5_thingNamed) (t := 0) (i := 0) (k := 12) (As := [.long (mL σ 0 0 11 (x1 + 2).toNatClampNeg)]) (rest := []) kl_5_92 oy_X5_thingNamed ⟨Nat.le_of_ble_eq_true rfl, Nat.le_of_ble_eq_true rfl⟩ rfl rfl rfl rfl (Nat.le_of_ble_eq_true rfl) rfl dX5_tellDoor_83 (c_X5_thingNamed hc) (fun v2 τ2 hq => ?_)
  obtain ⟨rfl, rfl⟩ := hq
  change Z _ _ _ _ _ [.int (v)] _
  exact zb_X5_tellDoor_86 h
def F_X5_tellDoor_52 (x1 : Int32) (s0 : Int32) (σ : Mm) : Option (Mm) := (if s0 = 0 then some (σ) else (if inb (x1 + 1) 402 = true then (bnd (F_X5_thingNamed (mL σ 0 0 11 (x1 + 1).toNatClampNeg) σ) (fun v τ => (F_X5_tellDoor_70 x1 v τ))) else none))
set_option maxRecDepth 20000 in
theorem zb_X5_tellDoor_52 {S : Shp} {x1 : Int32} {s0 : Int32} {σ : Mm} {r : Mm} (h : F_X5_tellDoor_52 x1 s0 σ = some r) : Z m_X5_tellDoor S (Qv r) 52 [(0, .ref (sL S 0 0 12)), (1, .int (x1))] [.int (s0)] σ := by
  unfold F_X5_tellDoor_52 at h
  refine z_if_eq (tgt := 163) dX5_tellDoor_52 (by decide) (fun q => ?_) (fun q => ?_)
  · have h := (if_pos q).symm.trans h
    cases h
    exact z_return dX5_tellDoor_163 rfl ⟨rfl, rfl⟩
  · have h := (if_neg q).symm.trans h
    obtain ⟨g2, h⟩ := gd h
    refine z_aload_n dX5_tellDoor_55 rfl 0 rfl ?_
    refine z_aload_n dX5_tellDoor_56 rfl 0 rfl ?_
    refine gf_5_34 rfl dX5_tellDoor_57 ?_
    refine gf_5_89 rfl dX5_tellDoor_60 ?_
    refine z_iload_n dX5_tellDoor_63 rfl 1 rfl ?_
    refine z_iconst (v := 1) dX5_tellDoor_64 (by decide) ?_
    refine z_iadd dX5_tellDoor_65 ?_
    refine ia_0_11 (inb_in g2) dX5_tellDoor_66 ?_
    obtain ⟨v, τ, hc, h⟩ := bnd_e h
    refine z_callV (M' := m_X5_thingNamed) (t := 0) (i := 0) (k := 12) (As := [.long (mL σ 0 0 11 (x1 + 1).toNatClampNeg)]) (rest := []) kl_5_92 oy_X5_thingNamed ⟨Nat.le_of_ble_eq_true rfl, Nat.le_of_ble_eq_true rfl⟩ rfl rfl rfl rfl (Nat.le_of_ble_eq_true rfl) rfl dX5_tellDoor_67 (c_X5_thingNamed hc) (fun v2 τ2 hq => ?_)
    obtain ⟨rfl, rfl⟩ := hq
    change Z _ _ _ _ _ [.int (v)] _
    exact zb_X5_tellDoor_70 h
def F_X5_tellDoor_44 (x1 : Int32) (s0 : Int32) (σ : Mm) : Option (Mm) := (if s0 = 0 then some (σ) else (bnd (F_X5_take 4 σ) (fun v τ => (F_X5_tellDoor_52 x1 v τ))))
set_option maxRecDepth 20000 in
theorem zb_X5_tellDoor_44 {S : Shp} {x1 : Int32} {s0 : Int32} {σ : Mm} {r : Mm} (h : F_X5_tellDoor_44 x1 s0 σ = some r) : Z m_X5_tellDoor S (Qv r) 44 [(0, .ref (sL S 0 0 12)), (1, .int (x1))] [.int (s0)] σ := by
  unfold F_X5_tellDoor_44 at h
  refine z_if_eq (tgt := 163) dX5_tellDoor_44 (by decide) (fun q => ?_) (fun q => ?_)
  · have h := (if_pos q).symm.trans h
    cases h
    exact z_return dX5_tellDoor_163 rfl ⟨rfl, rfl⟩
  · have h := (if_neg q).symm.trans h
    refine z_aload_n dX5_tellDoor_47 rfl 0 rfl ?_
    refine z_iconst (v := 4) dX5_tellDoor_48 (by decide) ?_
    obtain ⟨v, τ, hc, h⟩ := bnd_e h
    refine z_callV (M' := m_X5_take) (t := 0) (i := 0) (k := 12) (As := [.int (4)]) (rest := []) kl_5_103 oy_X5_take ⟨Nat.le_of_ble_eq_true rfl, Nat.le_of_ble_eq_true rfl⟩ rfl rfl rfl rfl (Nat.le_of_ble_eq_true rfl) rfl dX5_tellDoor_49 (c_X5_take hc) (fun v2 τ2 hq => ?_)
    obtain ⟨rfl, rfl⟩ := hq
    change Z _ _ _ _ _ [.int (v)] _
    exact zb_X5_tellDoor_52 h
def F_X5_tellDoor_36 (x1 : Int32) (s0 : Int32) (σ : Mm) : Option (Mm) := (if s0 = 0 then some (σ) else (bnd (F_X5_take 2 σ) (fun v τ => (F_X5_tellDoor_44 x1 v τ))))
set_option maxRecDepth 20000 in
theorem zb_X5_tellDoor_36 {S : Shp} {x1 : Int32} {s0 : Int32} {σ : Mm} {r : Mm} (h : F_X5_tellDoor_36 x1 s0 σ = some r) : Z m_X5_tellDoor S (Qv r) 36 [(0, .ref (sL S 0 0 12)), (1, .int (x1))] [.int (s0)] σ := by
  unfold F_X5_tellDoor_36 at h
  refine z_if_eq (tgt := 163) dX5_tellDoor_36 (by decide) (fun q => ?_) (fun q => ?_)
  · have h := (if_pos q).symm.trans h
    cases h
    exact z_return dX5_tellDoor_163 rfl ⟨rfl, rfl⟩
  · have h := (if_neg q).symm.trans h
    refine z_aload_n dX5_tellDoor_39 rfl 0 rfl ?_
    refine z_iconst (v := 2) dX5_tellDoor_40 (by decide) ?_
    obtain ⟨v, τ, hc, h⟩ := bnd_e h
    refine z_callV (M' := m_X5_take) (t := 0) (i := 0) (k := 12) (As := [.int (2)]) (rest := []) kl_5_103 oy_X5_take ⟨Nat.le_of_ble_eq_true rfl, Nat.le_of_ble_eq_true rfl⟩ rfl rfl rfl rfl (Nat.le_of_ble_eq_true rfl) rfl dX5_tellDoor_41 (c_X5_take hc) (fun v2 τ2 hq => ?_)
    obtain ⟨rfl, rfl⟩ := hq
    change Z _ _ _ _ _ [.int (v)] _
    exact zb_X5_tellDoor_44 h
def F_X5_tellDoor_28 (x1 : Int32) (s0 : Int32) (σ : Mm) : Option (Mm) := (if s0 = 0 then some (σ) else (bnd (F_X5_take 2 σ) (fun v τ => (F_X5_tellDoor_36 x1 v τ))))
set_option maxRecDepth 20000 in
theorem zb_X5_tellDoor_28 {S : Shp} {x1 : Int32} {s0 : Int32} {σ : Mm} {r : Mm} (h : F_X5_tellDoor_28 x1 s0 σ = some r) : Z m_X5_tellDoor S (Qv r) 28 [(0, .ref (sL S 0 0 12)), (1, .int (x1))] [.int (s0)] σ := by
  unfold F_X5_tellDoor_28 at h
  refine z_if_eq (tgt := 163) dX5_tellDoor_28 (by decide) (fun q => ?_) (fun q => ?_)
  · have h := (if_pos q).symm.trans h
    cases h
    exact z_return dX5_tellDoor_163 rfl ⟨rfl, rfl⟩
  · have h := (if_neg q).symm.trans h
    refine z_aload_n dX5_tellDoor_31 rfl 0 rfl ?_
    refine z_iconst (v := 2) dX5_tellDoor_32 (by decide) ?_
    obtain ⟨v, τ, hc, h⟩ := bnd_e h
    refine z_callV (M' := m_X5_take) (t := 0) (i := 0) (k := 12) (As := [.int (2)]) (rest := []) kl_5_103 oy_X5_take ⟨Nat.le_of_ble_eq_true rfl, Nat.le_of_ble_eq_true rfl⟩ rfl rfl rfl rfl (Nat.le_of_ble_eq_true rfl) rfl dX5_tellDoor_33 (c_X5_take hc) (fun v2 τ2 hq => ?_)
    obtain ⟨rfl, rfl⟩ := hq
    change Z _ _ _ _ _ [.int (v)] _
    exact zb_X5_tellDoor_36 h
def F_X5_tellDoor_18 (x1 : Int32) (s0 : Int32) (σ : Mm) : Option (Mm) := (if s0 = 0 then some (σ) else (bnd (F_X5_take 18 σ) (fun v τ => (F_X5_tellDoor_28 x1 v τ))))
set_option maxRecDepth 20000 in
theorem zb_X5_tellDoor_18 {S : Shp} {x1 : Int32} {s0 : Int32} {σ : Mm} {r : Mm} (h : F_X5_tellDoor_18 x1 s0 σ = some r) : Z m_X5_tellDoor S (Qv r) 18 [(0, .ref (sL S 0 0 12)), (1, .int (x1))] [.int (s0)] σ := by
  unfold F_X5_tellDoor_18 at h
  refine z_if_ne (tgt := 22) dX5_tellDoor_18 (by decide) (fun q => ?_) (fun q => ?_)
  · have h := (if_neg q).symm.trans h
    refine z_aload_n dX5_tellDoor_22 rfl 0 rfl ?_
    refine z_bipush (v := 18) dX5_tellDoor_23 (by decide) ?_
    obtain ⟨v, τ, hc, h⟩ := bnd_e h
    refine z_callV (M' := m_X5_take) (t := 0) (i := 0) (k := 12) (As := [.int (18)]) (rest := []) kl_5_103 oy_X5_take ⟨Nat.le_of_ble_eq_true rfl, Nat.le_of_ble_eq_true rfl⟩ rfl rfl rfl rfl (Nat.le_of_ble_eq_true rfl) rfl dX5_tellDoor_25 (c_X5_take hc) (fun v2 τ2 hq => ?_)
    obtain ⟨rfl, rfl⟩ := hq
    change Z _ _ _ _ _ [.int (v)] _
    exact zb_X5_tellDoor_28 h
  · have h := (if_pos q).symm.trans h
    cases h
    exact z_return dX5_tellDoor_21 rfl ⟨rfl, rfl⟩
def F_X5_tellDoor (σ : Mm) : Option (Mm) := (if okP σ = true then (bnd (F_X5_hasRoom (mA σ 1 (mP σ 2) 0 6) 8 σ) (fun v τ => (F_X5_tellDoor_18 (mA σ 0 0 12 4) v τ))) else none)
set_option maxRecDepth 20000 in
theorem zb_X5_tellDoor {S : Shp} {σ : Mm} {r : Mm} (h : F_X5_tellDoor σ = some r) : Z m_X5_tellDoor S (Qv r) 0 [(0, .ref (sL S 0 0 12))] [] σ := by
  unfold F_X5_tellDoor at h
  obtain ⟨g1, h⟩ := gd h
  refine z_aload_n dX5_tellDoor_0 rfl 0 rfl ?_
  refine gf_5_18 rfl dX5_tellDoor_1 ?_
  refine z_istore_n dX5_tellDoor_4 rfl (by decide) [1, 0] rfl ?_
  refine z_aload_n dX5_tellDoor_5 rfl 0 rfl ?_
  refine z_aload_n dX5_tellDoor_6 rfl 0 rfl ?_
  have hp := g1
  refine gf_5_38 rfl dX5_tellDoor_7 ?_
  refine gf_5_128 (lv1 (okP_2 hp) rfl) rfl dX5_tellDoor_10 ?_
  refine z_bipush (v := 8) dX5_tellDoor_13 (by decide) ?_
  obtain ⟨v, τ, hc, h⟩ := bnd_e h
  refine z_callV (M' := m_X5_hasRoom) (t := 0) (i := 0) (k := 12) (As := [.int (mA σ 1 (mP σ 2) 0 6), .int (8)]) (rest := []) kl_5_99 oy_X5_hasRoom ⟨Nat.le_of_ble_eq_true rfl, Nat.le_of_ble_eq_true rfl⟩ rfl rfl rfl rfl (Nat.le_of_ble_eq_true rfl) rfl dX5_tellDoor_15 (c_X5_hasRoom hc) (fun v2 τ2 hq => ?_)
  obtain ⟨rfl, rfl⟩ := hq
  change Z _ _ _ _ _ [.int (v)] _
  exact zb_X5_tellDoor_18 h
/-- SkyStones$Reader.tellDoor()V -/
theorem c_X5_tellDoor {S : Shp} {σ : Mm} {r : Mm} (h : F_X5_tellDoor σ = some r) : Ct m_X5_tellDoor S [.ref (sL S 0 0 12)] σ (Qv r) := Ct.of (by decide) (Nat.le_of_ble_eq_true rfl) (zb_X5_tellDoor h)
def F_X5_blameAbove (x1 : Int32) (x2 : Int32) (σ : Mm) : Option (Mm) := (if inb x2 402 = true then (if (mA σ 0 0 10 x2.toNatClampNeg) ≤ x1 then some (σ) else (bnv (F_X5_blame 5 x2 σ) (fun τ => some (τ)))) else none)
set_option maxRecDepth 20000 in
theorem zb_X5_blameAbove {S : Shp} {x1 : Int32} {x2 : Int32} {σ : Mm} {r : Mm} (h : F_X5_blameAbove x1 x2 σ = some r) : Z m_X5_blameAbove S (Qv r) 0 [(0, .ref (sL S 0 0 12)), (1, .int (x1)), (2, .int (x2))] [] σ := by
  unfold F_X5_blameAbove at h
  obtain ⟨g1, h⟩ := gd h
  refine z_aload_n dX5_blameAbove_0 rfl 0 rfl ?_
  refine gf_5_34 rfl dX5_blameAbove_1 ?_
  refine gf_5_77 rfl dX5_blameAbove_4 ?_
  refine z_iload_n dX5_blameAbove_7 rfl 2 rfl ?_
  refine ia_0_10 (inb_in g1) dX5_blameAbove_8 ?_
  refine z_iload_n dX5_blameAbove_9 rfl 1 rfl ?_
  refine z_icmp_le (tgt := 19) dX5_blameAbove_10 (by decide) (fun q => ?_) (fun q => ?_)
  · have h := (if_pos q).symm.trans h
    cases h
    exact z_return dX5_blameAbove_19 rfl ⟨rfl, rfl⟩
  · have h := (if_neg q).symm.trans h
    refine z_aload_n dX5_blameAbove_13 rfl 0 rfl ?_
    refine z_iconst (v := 5) dX5_blameAbove_14 (by decide) ?_
    refine z_iload_n dX5_blameAbove_15 rfl 2 rfl ?_
    obtain ⟨τ, hc, h⟩ := bnv_e h
    refine z_callV (M' := m_X5_blame) (t := 0) (i := 0) (k := 12) (As := [.int (5), .int (x2)]) (rest := []) kl_5_80 oy_X5_blame ⟨Nat.le_of_ble_eq_true rfl, Nat.le_of_ble_eq_true rfl⟩ rfl rfl rfl rfl (Nat.le_of_ble_eq_true rfl) rfl dX5_blameAbove_16 (c_X5_blame hc) (fun v2 τ2 hq => ?_)
    obtain ⟨rfl, rfl⟩ := hq
    change Z _ _ _ _ _ [] _
    cases h
    exact z_return dX5_blameAbove_19 rfl ⟨rfl, rfl⟩
/-- SkyStones$Reader.blameAbove(II)V -/
theorem c_X5_blameAbove {S : Shp} {x1 : Int32} {x2 : Int32} {σ : Mm} {r : Mm} (h : F_X5_blameAbove x1 x2 σ = some r) : Ct m_X5_blameAbove S [.ref (sL S 0 0 12), .int (x1), .int (x2)] σ (Qv r) := Ct.of (by decide) (Nat.le_of_ble_eq_true rfl) (zb_X5_blameAbove h)
def F_X5_tellHill_161 (σ : Mm) : Option (Mm) := (if okP σ = true then some (setA σ 1 (mP σ 2) 0 (upd (mA σ 1 (mP σ 2) 0) 8 ((mA σ 1 (mP σ 2) 0 8) + 1))) else none)
set_option maxRecDepth 20000 in
theorem zb_X5_tellHill_161 {S : Shp} {σ : Mm} {r : Mm} (h : F_X5_tellHill_161 σ = some r) : Z m_X5_tellHill S (Qv r) 161 [] [.ref (sL S 0 0 12)] σ := by
  unfold F_X5_tellHill_161 at h
  obtain ⟨g11, h⟩ := gd h
  have hp := g11
  refine gf_5_38 rfl dX5_tellHill_161 ?_
  refine z_dup dX5_tellHill_164 rfl ?_
  refine gf_5_134 (lv1 (okP_2 hp) rfl) rfl dX5_tellHill_165 ?_
  refine z_iconst (v := 1) dX5_tellHill_168 (by decide) ?_
  refine z_iadd dX5_tellHill_169 ?_
  refine pf_5_134 (lv1 (okP_2 hp) rfl) rfl dX5_tellHill_170 ?_
  cases h
  exact z_return dX5_tellHill_173 rfl ⟨rfl, rfl⟩
def F_X5_tellHill_141 (x1 : Int32) (x2 : Int32) (σ : Mm) : Option (Mm) := (if okP σ = true then (if inb (x1 + 3) 402 = true then (if inb x2 12 = true then (F_X5_tellHill_161 (setA σ 1 (mP σ 2) 8 (upd (mA σ 1 (mP σ 2) 8) x2.toNatClampNeg (mA σ 0 0 10 (x1 + 3).toNatClampNeg)))) else none) else none) else none)
set_option maxRecDepth 20000 in
theorem zb_X5_tellHill_141 {S : Shp} {x1 : Int32} {x2 : Int32} {σ : Mm} {r : Mm} (h : F_X5_tellHill_141 x1 x2 σ = some r) : Z m_X5_tellHill S (Qv r) 141 [(0, .ref (sL S 0 0 12)), (1, .int (x1)), (2, .int (x2))] [.ref (sL S 0 0 12)] σ := by
  unfold F_X5_tellHill_141 at h
  obtain ⟨g8, h⟩ := gd h
  obtain ⟨g9, h⟩ := gd h
  have hp := g8
  refine gf_5_38 rfl dX5_tellHill_141 ?_
  refine gf_5_143 (lv1 (okP_2 hp) rfl) rfl dX5_tellHill_144 ?_
  refine z_iload_n dX5_tellHill_147 rfl 2 rfl ?_
  refine z_aload_n dX5_tellHill_148 rfl 0 rfl ?_
  refine gf_5_34 rfl dX5_tellHill_149 ?_
  refine gf_5_77 rfl dX5_tellHill_152 ?_
  refine z_iload_n dX5_tellHill_155 rfl 1 rfl ?_
  refine z_iconst (v := 3) dX5_tellHill_156 (by decide) ?_
  refine z_iadd dX5_tellHill_157 ?_
  obtain ⟨g10, h⟩ := gd h
  refine ia_0_10 (inb_in g9) dX5_tellHill_158 ?_
  refine is_1_8 (lv1 (okP_2 hp) rfl) (inb_in g10) dX5_tellHill_159 ?_
  refine z_aload_n dX5_tellHill_160 rfl 0 rfl ?_
  refine Z.lv [] rfl ?_
  exact zb_X5_tellHill_161 h
def F_X5_tellHill_121 (x1 : Int32) (x2 : Int32) (σ : Mm) : Option (Mm) := (if okP σ = true then (if inb (x1 + 2) 402 = true then (if inb x2 12 = true then (F_X5_tellHill_141 x1 x2 (setA σ 1 (mP σ 2) 7 (upd (mA σ 1 (mP σ 2) 7) x2.toNatClampNeg (mA σ 0 0 10 (x1 + 2).toNatClampNeg)))) else none) else none) else none)
set_option maxRecDepth 20000 in
theorem zb_X5_tellHill_121 {S : Shp} {x1 : Int32} {x2 : Int32} {σ : Mm} {r : Mm} (h : F_X5_tellHill_121 x1 x2 σ = some r) : Z m_X5_tellHill S (Qv r) 121 [(0, .ref (sL S 0 0 12)), (1, .int (x1)), (2, .int (x2))] [.ref (sL S 0 0 12)] σ := by
  unfold F_X5_tellHill_121 at h
  obtain ⟨g5, h⟩ := gd h
  obtain ⟨g6, h⟩ := gd h
  have hp := g5
  refine gf_5_38 rfl dX5_tellHill_121 ?_
  refine gf_5_140 (lv1 (okP_2 hp) rfl) rfl dX5_tellHill_124 ?_
  refine z_iload_n dX5_tellHill_127 rfl 2 rfl ?_
  refine z_aload_n dX5_tellHill_128 rfl 0 rfl ?_
  refine gf_5_34 rfl dX5_tellHill_129 ?_
  refine gf_5_77 rfl dX5_tellHill_132 ?_
  refine z_iload_n dX5_tellHill_135 rfl 1 rfl ?_
  refine z_iconst (v := 2) dX5_tellHill_136 (by decide) ?_
  refine z_iadd dX5_tellHill_137 ?_
  obtain ⟨g7, h⟩ := gd h
  refine ia_0_10 (inb_in g6) dX5_tellHill_138 ?_
  refine is_1_7 (lv1 (okP_2 hp) rfl) (inb_in g7) dX5_tellHill_139 ?_
  refine z_aload_n dX5_tellHill_140 rfl 0 rfl ?_
  exact zb_X5_tellHill_141 h
def F_X5_tellHill_92 (x1 : Int32) (σ : Mm) : Option (Mm) := (if okP σ = true then (if inb (x1 + 1) 402 = true then (if inb (mA σ 1 (mP σ 2) 0 8) 12 = true then (F_X5_tellHill_121 x1 (mA σ 1 (mP σ 2) 0 8) (setA σ 1 (mP σ 2) 6 (upd (mA σ 1 (mP σ 2) 6) (mA σ 1 (mP σ 2) 0 8).toNatClampNeg (mA σ 0 0 10 (x1 + 1).toNatClampNeg)))) else none) else none) else none)
set_option maxRecDepth 20000 in
theorem zb_X5_tellHill_92 {S : Shp} {x1 : Int32} {σ : Mm} {r : Mm} (h : F_X5_tellHill_92 x1 σ = some r) : Z m_X5_tellHill S (Qv r) 92 [(0, .ref (sL S 0 0 12)), (1, .int (x1))] [] σ := by
  unfold F_X5_tellHill_92 at h
  obtain ⟨g2, h⟩ := gd h
  refine z_aload_n dX5_tellHill_92 rfl 0 rfl ?_
  obtain ⟨g3, h⟩ := gd h
  have hp := g2
  refine gf_5_38 rfl dX5_tellHill_93 ?_
  refine gf_5_134 (lv1 (okP_2 hp) rfl) rfl dX5_tellHill_96 ?_
  refine z_istore_n dX5_tellHill_99 rfl (by decide) [1, 2, 0] rfl ?_
  refine z_aload_n dX5_tellHill_100 rfl 0 rfl ?_
  refine gf_5_38 rfl dX5_tellHill_101 ?_
  refine gf_5_137 (lv1 (okP_2 hp) rfl) rfl dX5_tellHill_104 ?_
  refine z_iload_n dX5_tellHill_107 rfl 2 rfl ?_
  refine z_aload_n dX5_tellHill_108 rfl 0 rfl ?_
  refine gf_5_34 rfl dX5_tellHill_109 ?_
  refine gf_5_77 rfl dX5_tellHill_112 ?_
  refine z_iload_n dX5_tellHill_115 rfl 1 rfl ?_
  refine z_iconst (v := 1) dX5_tellHill_116 (by decide) ?_
  refine z_iadd dX5_tellHill_117 ?_
  obtain ⟨g4, h⟩ := gd h
  refine ia_0_10 (inb_in g3) dX5_tellHill_118 ?_
  refine is_1_6 (lv1 (okP_2 hp) rfl) (inb_in g4) dX5_tellHill_119 ?_
  refine z_aload_n dX5_tellHill_120 rfl 0 rfl ?_
  exact zb_X5_tellHill_121 h
def F_X5_tellHill_83 (x1 : Int32) (σ : Mm) : Option (Mm) := (bnv (F_X5_blameAbove 20 (x1 + 3) σ) (fun τ => (F_X5_tellHill_92 x1 τ)))
set_option maxRecDepth 20000 in
theorem zb_X5_tellHill_83 {S : Shp} {x1 : Int32} {σ : Mm} {r : Mm} (h : F_X5_tellHill_83 x1 σ = some r) : Z m_X5_tellHill S (Qv r) 83 [(0, .ref (sL S 0 0 12)), (1, .int (x1))] [] σ := by
  unfold F_X5_tellHill_83 at h
  refine z_aload_n dX5_tellHill_83 rfl 0 rfl ?_
  refine z_bipush (v := 20) dX5_tellHill_84 (by decide) ?_
  refine z_iload_n dX5_tellHill_86 rfl 1 rfl ?_
  refine z_iconst (v := 3) dX5_tellHill_87 (by decide) ?_
  refine z_iadd dX5_tellHill_88 ?_
  obtain ⟨τ, hc, h⟩ := bnv_e h
  refine z_callV (M' := m_X5_blameAbove) (t := 0) (i := 0) (k := 12) (As := [.int (20), .int (x1 + 3)]) (rest := []) kl_5_110 oy_X5_blameAbove ⟨Nat.le_of_ble_eq_true rfl, Nat.le_of_ble_eq_true rfl⟩ rfl rfl rfl rfl (Nat.le_of_ble_eq_true rfl) rfl dX5_tellHill_89 (c_X5_blameAbove hc) (fun v2 τ2 hq => ?_)
  obtain ⟨rfl, rfl⟩ := hq
  change Z _ _ _ _ _ [] _
  exact zb_X5_tellHill_92 h
def F_X5_tellHill_73 (x1 : Int32) (σ : Mm) : Option (Mm) := (bnv (F_X5_blameAbove 359 (x1 + 2) σ) (fun τ => (F_X5_tellHill_83 x1 τ)))
set_option maxRecDepth 20000 in
theorem zb_X5_tellHill_73 {S : Shp} {x1 : Int32} {σ : Mm} {r : Mm} (h : F_X5_tellHill_73 x1 σ = some r) : Z m_X5_tellHill S (Qv r) 73 [(0, .ref (sL S 0 0 12)), (1, .int (x1))] [] σ := by
  unfold F_X5_tellHill_73 at h
  refine z_aload_n dX5_tellHill_73 rfl 0 rfl ?_
  refine z_sipush (v := 359) dX5_tellHill_74 (by decide) ?_
  refine z_iload_n dX5_tellHill_77 rfl 1 rfl ?_
  refine z_iconst (v := 2) dX5_tellHill_78 (by decide) ?_
  refine z_iadd dX5_tellHill_79 ?_
  obtain ⟨τ, hc, h⟩ := bnv_e h
  refine z_callV (M' := m_X5_blameAbove) (t := 0) (i := 0) (k := 12) (As := [.int (359), .int (x1 + 2)]) (rest := []) kl_5_110 oy_X5_blameAbove ⟨Nat.le_of_ble_eq_true rfl, Nat.le_of_ble_eq_true rfl⟩ rfl rfl rfl rfl (Nat.le_of_ble_eq_true rfl) rfl dX5_tellHill_80 (c_X5_blameAbove hc) (fun v2 τ2 hq => ?_)
  obtain ⟨rfl, rfl⟩ := hq
  change Z _ _ _ _ _ [] _
  exact zb_X5_tellHill_83 h
def F_X5_tellHill_60 (x1 : Int32) (s0 : Int32) (σ : Mm) : Option (Mm) := (if s0 = 0 then some (σ) else (bnv (F_X5_blameAbove 359 (x1 + 1) σ) (fun τ => (F_X5_tellHill_73 x1 τ))))
set_option maxRecDepth 20000 in
theorem zb_X5_tellHill_60 {S : Shp} {x1 : Int32} {s0 : Int32} {σ : Mm} {r : Mm} (h : F_X5_tellHill_60 x1 s0 σ = some r) : Z m_X5_tellHill S (Qv r) 60 [(0, .ref (sL S 0 0 12)), (1, .int (x1))] [.int (s0)] σ := by
  unfold F_X5_tellHill_60 at h
  refine z_if_eq (tgt := 173) dX5_tellHill_60 (by decide) (fun q => ?_) (fun q => ?_)
  · have h := (if_pos q).symm.trans h
    cases h
    exact z_return dX5_tellHill_173 rfl ⟨rfl, rfl⟩
  · have h := (if_neg q).symm.trans h
    refine z_aload_n dX5_tellHill_63 rfl 0 rfl ?_
    refine z_sipush (v := 359) dX5_tellHill_64 (by decide) ?_
    refine z_iload_n dX5_tellHill_67 rfl 1 rfl ?_
    refine z_iconst (v := 1) dX5_tellHill_68 (by decide) ?_
    refine z_iadd dX5_tellHill_69 ?_
    obtain ⟨τ, hc, h⟩ := bnv_e h
    refine z_callV (M' := m_X5_blameAbove) (t := 0) (i := 0) (k := 12) (As := [.int (359), .int (x1 + 1)]) (rest := []) kl_5_110 oy_X5_blameAbove ⟨Nat.le_of_ble_eq_true rfl, Nat.le_of_ble_eq_true rfl⟩ rfl rfl rfl rfl (Nat.le_of_ble_eq_true rfl) rfl dX5_tellHill_70 (c_X5_blameAbove hc) (fun v2 τ2 hq => ?_)
    obtain ⟨rfl, rfl⟩ := hq
    change Z _ _ _ _ _ [] _
    exact zb_X5_tellHill_73 h
def F_X5_tellHill_52 (x1 : Int32) (s0 : Int32) (σ : Mm) : Option (Mm) := (if s0 = 0 then some (σ) else (bnd (F_X5_take 4 σ) (fun v τ => (F_X5_tellHill_60 x1 v τ))))
set_option maxRecDepth 20000 in
theorem zb_X5_tellHill_52 {S : Shp} {x1 : Int32} {s0 : Int32} {σ : Mm} {r : Mm} (h : F_X5_tellHill_52 x1 s0 σ = some r) : Z m_X5_tellHill S (Qv r) 52 [(0, .ref (sL S 0 0 12)), (1, .int (x1))] [.int (s0)] σ := by
  unfold F_X5_tellHill_52 at h
  refine z_if_eq (tgt := 173) dX5_tellHill_52 (by decide) (fun q => ?_) (fun q => ?_)
  · have h := (if_pos q).symm.trans h
    cases h
    exact z_return dX5_tellHill_173 rfl ⟨rfl, rfl⟩
  · have h := (if_neg q).symm.trans h
    refine z_aload_n dX5_tellHill_55 rfl 0 rfl ?_
    refine z_iconst (v := 4) dX5_tellHill_56 (by decide) ?_
    obtain ⟨v, τ, hc, h⟩ := bnd_e h
    refine z_callV (M' := m_X5_take) (t := 0) (i := 0) (k := 12) (As := [.int (4)]) (rest := []) kl_5_103 oy_X5_take ⟨Nat.le_of_ble_eq_true rfl, Nat.le_of_ble_eq_true rfl⟩ rfl rfl rfl rfl (Nat.le_of_ble_eq_true rfl) rfl dX5_tellHill_57 (c_X5_take hc) (fun v2 τ2 hq => ?_)
    obtain ⟨rfl, rfl⟩ := hq
    change Z _ _ _ _ _ [.int (v)] _
    exact zb_X5_tellHill_60 h
def F_X5_tellHill_44 (x1 : Int32) (s0 : Int32) (σ : Mm) : Option (Mm) := (if s0 = 0 then some (σ) else (bnd (F_X5_take 3 σ) (fun v τ => (F_X5_tellHill_52 x1 v τ))))
set_option maxRecDepth 20000 in
theorem zb_X5_tellHill_44 {S : Shp} {x1 : Int32} {s0 : Int32} {σ : Mm} {r : Mm} (h : F_X5_tellHill_44 x1 s0 σ = some r) : Z m_X5_tellHill S (Qv r) 44 [(0, .ref (sL S 0 0 12)), (1, .int (x1))] [.int (s0)] σ := by
  unfold F_X5_tellHill_44 at h
  refine z_if_eq (tgt := 173) dX5_tellHill_44 (by decide) (fun q => ?_) (fun q => ?_)
  · have h := (if_pos q).symm.trans h
    cases h
    exact z_return dX5_tellHill_173 rfl ⟨rfl, rfl⟩
  · have h := (if_neg q).symm.trans h
    refine z_aload_n dX5_tellHill_47 rfl 0 rfl ?_
    refine z_iconst (v := 3) dX5_tellHill_48 (by decide) ?_
    obtain ⟨v, τ, hc, h⟩ := bnd_e h
    refine z_callV (M' := m_X5_take) (t := 0) (i := 0) (k := 12) (As := [.int (3)]) (rest := []) kl_5_103 oy_X5_take ⟨Nat.le_of_ble_eq_true rfl, Nat.le_of_ble_eq_true rfl⟩ rfl rfl rfl rfl (Nat.le_of_ble_eq_true rfl) rfl dX5_tellHill_49 (c_X5_take hc) (fun v2 τ2 hq => ?_)
    obtain ⟨rfl, rfl⟩ := hq
    change Z _ _ _ _ _ [.int (v)] _
    exact zb_X5_tellHill_52 h
def F_X5_tellHill_36 (x1 : Int32) (s0 : Int32) (σ : Mm) : Option (Mm) := (if s0 = 0 then some (σ) else (bnd (F_X5_take 3 σ) (fun v τ => (F_X5_tellHill_44 x1 v τ))))
set_option maxRecDepth 20000 in
theorem zb_X5_tellHill_36 {S : Shp} {x1 : Int32} {s0 : Int32} {σ : Mm} {r : Mm} (h : F_X5_tellHill_36 x1 s0 σ = some r) : Z m_X5_tellHill S (Qv r) 36 [(0, .ref (sL S 0 0 12)), (1, .int (x1))] [.int (s0)] σ := by
  unfold F_X5_tellHill_36 at h
  refine z_if_eq (tgt := 173) dX5_tellHill_36 (by decide) (fun q => ?_) (fun q => ?_)
  · have h := (if_pos q).symm.trans h
    cases h
    exact z_return dX5_tellHill_173 rfl ⟨rfl, rfl⟩
  · have h := (if_neg q).symm.trans h
    refine z_aload_n dX5_tellHill_39 rfl 0 rfl ?_
    refine z_iconst (v := 3) dX5_tellHill_40 (by decide) ?_
    obtain ⟨v, τ, hc, h⟩ := bnd_e h
    refine z_callV (M' := m_X5_take) (t := 0) (i := 0) (k := 12) (As := [.int (3)]) (rest := []) kl_5_103 oy_X5_take ⟨Nat.le_of_ble_eq_true rfl, Nat.le_of_ble_eq_true rfl⟩ rfl rfl rfl rfl (Nat.le_of_ble_eq_true rfl) rfl dX5_tellHill_41 (c_X5_take hc) (fun v2 τ2 hq => ?_)
    obtain ⟨rfl, rfl⟩ := hq
    change Z _ _ _ _ _ [.int (v)] _
    exact zb_X5_tellHill_44 h
def F_X5_tellHill_28 (x1 : Int32) (s0 : Int32) (σ : Mm) : Option (Mm) := (if s0 = 0 then some (σ) else (bnd (F_X5_take 3 σ) (fun v τ => (F_X5_tellHill_36 x1 v τ))))
set_option maxRecDepth 20000 in
theorem zb_X5_tellHill_28 {S : Shp} {x1 : Int32} {s0 : Int32} {σ : Mm} {r : Mm} (h : F_X5_tellHill_28 x1 s0 σ = some r) : Z m_X5_tellHill S (Qv r) 28 [(0, .ref (sL S 0 0 12)), (1, .int (x1))] [.int (s0)] σ := by
  unfold F_X5_tellHill_28 at h
  refine z_if_eq (tgt := 173) dX5_tellHill_28 (by decide) (fun q => ?_) (fun q => ?_)
  · have h := (if_pos q).symm.trans h
    cases h
    exact z_return dX5_tellHill_173 rfl ⟨rfl, rfl⟩
  · have h := (if_neg q).symm.trans h
    refine z_aload_n dX5_tellHill_31 rfl 0 rfl ?_
    refine z_iconst (v := 3) dX5_tellHill_32 (by decide) ?_
    obtain ⟨v, τ, hc, h⟩ := bnd_e h
    refine z_callV (M' := m_X5_take) (t := 0) (i := 0) (k := 12) (As := [.int (3)]) (rest := []) kl_5_103 oy_X5_take ⟨Nat.le_of_ble_eq_true rfl, Nat.le_of_ble_eq_true rfl⟩ rfl rfl rfl rfl (Nat.le_of_ble_eq_true rfl) rfl dX5_tellHill_33 (c_X5_take hc) (fun v2 τ2 hq => ?_)
    obtain ⟨rfl, rfl⟩ := hq
    change Z _ _ _ _ _ [.int (v)] _
    exact zb_X5_tellHill_36 h
def F_X5_tellHill_18 (x1 : Int32) (s0 : Int32) (σ : Mm) : Option (Mm) := (if s0 = 0 then some (σ) else (bnd (F_X5_take 19 σ) (fun v τ => (F_X5_tellHill_28 x1 v τ))))
set_option maxRecDepth 20000 in
theorem zb_X5_tellHill_18 {S : Shp} {x1 : Int32} {s0 : Int32} {σ : Mm} {r : Mm} (h : F_X5_tellHill_18 x1 s0 σ = some r) : Z m_X5_tellHill S (Qv r) 18 [(0, .ref (sL S 0 0 12)), (1, .int (x1))] [.int (s0)] σ := by
  unfold F_X5_tellHill_18 at h
  refine z_if_ne (tgt := 22) dX5_tellHill_18 (by decide) (fun q => ?_) (fun q => ?_)
  · have h := (if_neg q).symm.trans h
    refine z_aload_n dX5_tellHill_22 rfl 0 rfl ?_
    refine z_bipush (v := 19) dX5_tellHill_23 (by decide) ?_
    obtain ⟨v, τ, hc, h⟩ := bnd_e h
    refine z_callV (M' := m_X5_take) (t := 0) (i := 0) (k := 12) (As := [.int (19)]) (rest := []) kl_5_103 oy_X5_take ⟨Nat.le_of_ble_eq_true rfl, Nat.le_of_ble_eq_true rfl⟩ rfl rfl rfl rfl (Nat.le_of_ble_eq_true rfl) rfl dX5_tellHill_25 (c_X5_take hc) (fun v2 τ2 hq => ?_)
    obtain ⟨rfl, rfl⟩ := hq
    change Z _ _ _ _ _ [.int (v)] _
    exact zb_X5_tellHill_28 h
  · have h := (if_pos q).symm.trans h
    cases h
    exact z_return dX5_tellHill_21 rfl ⟨rfl, rfl⟩
def F_X5_tellHill (σ : Mm) : Option (Mm) := (if okP σ = true then (bnd (F_X5_hasRoom (mA σ 1 (mP σ 2) 0 8) 12 σ) (fun v τ => (F_X5_tellHill_18 (mA σ 0 0 12 4) v τ))) else none)
set_option maxRecDepth 20000 in
theorem zb_X5_tellHill {S : Shp} {σ : Mm} {r : Mm} (h : F_X5_tellHill σ = some r) : Z m_X5_tellHill S (Qv r) 0 [(0, .ref (sL S 0 0 12))] [] σ := by
  unfold F_X5_tellHill at h
  obtain ⟨g1, h⟩ := gd h
  refine z_aload_n dX5_tellHill_0 rfl 0 rfl ?_
  refine gf_5_18 rfl dX5_tellHill_1 ?_
  refine z_istore_n dX5_tellHill_4 rfl (by decide) [1, 0] rfl ?_
  refine z_aload_n dX5_tellHill_5 rfl 0 rfl ?_
  refine z_aload_n dX5_tellHill_6 rfl 0 rfl ?_
  have hp := g1
  refine gf_5_38 rfl dX5_tellHill_7 ?_
  refine gf_5_134 (lv1 (okP_2 hp) rfl) rfl dX5_tellHill_10 ?_
  refine z_bipush (v := 12) dX5_tellHill_13 (by decide) ?_
  obtain ⟨v, τ, hc, h⟩ := bnd_e h
  refine z_callV (M' := m_X5_hasRoom) (t := 0) (i := 0) (k := 12) (As := [.int (mA σ 1 (mP σ 2) 0 8), .int (12)]) (rest := []) kl_5_99 oy_X5_hasRoom ⟨Nat.le_of_ble_eq_true rfl, Nat.le_of_ble_eq_true rfl⟩ rfl rfl rfl rfl (Nat.le_of_ble_eq_true rfl) rfl dX5_tellHill_15 (c_X5_hasRoom hc) (fun v2 τ2 hq => ?_)
  obtain ⟨rfl, rfl⟩ := hq
  change Z _ _ _ _ _ [.int (v)] _
  exact zb_X5_tellHill_18 h
/-- SkyStones$Reader.tellHill()V -/
theorem c_X5_tellHill {S : Shp} {σ : Mm} {r : Mm} (h : F_X5_tellHill σ = some r) : Ct m_X5_tellHill S [.ref (sL S 0 0 12)] σ (Qv r) := Ct.of (by decide) (Nat.le_of_ble_eq_true rfl) (zb_X5_tellHill h)
def F_X5_tellNear_39 (x1 : Int32) (σ : Mm) : Option (Mm) := (if okP σ = true then (if inb (x1 + 1) 402 = true then some (setA σ 1 (mP σ 2) 0 (upd (mA σ 1 (mP σ 2) 0) 0 (mA σ 0 0 10 (x1 + 1).toNatClampNeg))) else none) else none)
set_option maxRecDepth 20000 in
theorem zb_X5_tellNear_39 {S : Shp} {x1 : Int32} {σ : Mm} {r : Mm} (h : F_X5_tellNear_39 x1 σ = some r) : Z m_X5_tellNear S (Qv r) 39 [(0, .ref (sL S 0 0 12)), (1, .int (x1))] [] σ := by
  unfold F_X5_tellNear_39 at h
  obtain ⟨g1, h⟩ := gd h
  refine z_aload_n dX5_tellNear_39 rfl 0 rfl ?_
  obtain ⟨g2, h⟩ := gd h
  have hp := g1
  refine gf_5_38 rfl dX5_tellNear_40 ?_
  refine z_aload_n dX5_tellNear_43 rfl 0 rfl ?_
  refine gf_5_34 rfl dX5_tellNear_44 ?_
  refine gf_5_77 rfl dX5_tellNear_47 ?_
  refine z_iload_n dX5_tellNear_50 rfl 1 rfl ?_
  refine z_iconst (v := 1) dX5_tellNear_51 (by decide) ?_
  refine z_iadd dX5_tellNear_52 ?_
  refine ia_0_10 (inb_in g2) dX5_tellNear_53 ?_
  refine pf_5_146 (lv1 (okP_2 hp) rfl) rfl dX5_tellNear_54 ?_
  cases h
  exact z_return dX5_tellNear_57 rfl ⟨rfl, rfl⟩
def F_X5_tellNear_27 (x1 : Int32) (s0 : Int32) (σ : Mm) : Option (Mm) := (if s0 = 0 then some (σ) else (bnv (F_X5_blameAbove 20 (x1 + 1) σ) (fun τ => (F_X5_tellNear_39 x1 τ))))
set_option maxRecDepth 20000 in
theorem zb_X5_tellNear_27 {S : Shp} {x1 : Int32} {s0 : Int32} {σ : Mm} {r : Mm} (h : F_X5_tellNear_27 x1 s0 σ = some r) : Z m_X5_tellNear S (Qv r) 27 [(0, .ref (sL S 0 0 12)), (1, .int (x1))] [.int (s0)] σ := by
  unfold F_X5_tellNear_27 at h
  refine z_if_eq (tgt := 57) dX5_tellNear_27 (by decide) (fun q => ?_) (fun q => ?_)
  · have h := (if_pos q).symm.trans h
    cases h
    exact z_return dX5_tellNear_57 rfl ⟨rfl, rfl⟩
  · have h := (if_neg q).symm.trans h
    refine z_aload_n dX5_tellNear_30 rfl 0 rfl ?_
    refine z_bipush (v := 20) dX5_tellNear_31 (by decide) ?_
    refine z_iload_n dX5_tellNear_33 rfl 1 rfl ?_
    refine z_iconst (v := 1) dX5_tellNear_34 (by decide) ?_
    refine z_iadd dX5_tellNear_35 ?_
    obtain ⟨τ, hc, h⟩ := bnv_e h
    refine z_callV (M' := m_X5_blameAbove) (t := 0) (i := 0) (k := 12) (As := [.int (20), .int (x1 + 1)]) (rest := []) kl_5_110 oy_X5_blameAbove ⟨Nat.le_of_ble_eq_true rfl, Nat.le_of_ble_eq_true rfl⟩ rfl rfl rfl rfl (Nat.le_of_ble_eq_true rfl) rfl dX5_tellNear_36 (c_X5_blameAbove hc) (fun v2 τ2 hq => ?_)
    obtain ⟨rfl, rfl⟩ := hq
    change Z _ _ _ _ _ [] _
    exact zb_X5_tellNear_39 h
def F_X5_tellNear_19 (x1 : Int32) (s0 : Int32) (σ : Mm) : Option (Mm) := (if s0 = 0 then some (σ) else (bnd (F_X5_take 4 σ) (fun v τ => (F_X5_tellNear_27 x1 v τ))))
set_option maxRecDepth 20000 in
theorem zb_X5_tellNear_19 {S : Shp} {x1 : Int32} {s0 : Int32} {σ : Mm} {r : Mm} (h : F_X5_tellNear_19 x1 s0 σ = some r) : Z m_X5_tellNear S (Qv r) 19 [(0, .ref (sL S 0 0 12)), (1, .int (x1))] [.int (s0)] σ := by
  unfold F_X5_tellNear_19 at h
  refine z_if_eq (tgt := 57) dX5_tellNear_19 (by decide) (fun q => ?_) (fun q => ?_)
  · have h := (if_pos q).symm.trans h
    cases h
    exact z_return dX5_tellNear_57 rfl ⟨rfl, rfl⟩
  · have h := (if_neg q).symm.trans h
    refine z_aload_n dX5_tellNear_22 rfl 0 rfl ?_
    refine z_iconst (v := 4) dX5_tellNear_23 (by decide) ?_
    obtain ⟨v, τ, hc, h⟩ := bnd_e h
    refine z_callV (M' := m_X5_take) (t := 0) (i := 0) (k := 12) (As := [.int (4)]) (rest := []) kl_5_103 oy_X5_take ⟨Nat.le_of_ble_eq_true rfl, Nat.le_of_ble_eq_true rfl⟩ rfl rfl rfl rfl (Nat.le_of_ble_eq_true rfl) rfl dX5_tellNear_24 (c_X5_take hc) (fun v2 τ2 hq => ?_)
    obtain ⟨rfl, rfl⟩ := hq
    change Z _ _ _ _ _ [.int (v)] _
    exact zb_X5_tellNear_27 h
def F_X5_tellNear_11 (x1 : Int32) (s0 : Int32) (σ : Mm) : Option (Mm) := (if s0 = 0 then some (σ) else (bnd (F_X5_take 3 σ) (fun v τ => (F_X5_tellNear_19 x1 v τ))))
set_option maxRecDepth 20000 in
theorem zb_X5_tellNear_11 {S : Shp} {x1 : Int32} {s0 : Int32} {σ : Mm} {r : Mm} (h : F_X5_tellNear_11 x1 s0 σ = some r) : Z m_X5_tellNear S (Qv r) 11 [(0, .ref (sL S 0 0 12)), (1, .int (x1))] [.int (s0)] σ := by
  unfold F_X5_tellNear_11 at h
  refine z_if_eq (tgt := 57) dX5_tellNear_11 (by decide) (fun q => ?_) (fun q => ?_)
  · have h := (if_pos q).symm.trans h
    cases h
    exact z_return dX5_tellNear_57 rfl ⟨rfl, rfl⟩
  · have h := (if_neg q).symm.trans h
    refine z_aload_n dX5_tellNear_14 rfl 0 rfl ?_
    refine z_iconst (v := 3) dX5_tellNear_15 (by decide) ?_
    obtain ⟨v, τ, hc, h⟩ := bnd_e h
    refine z_callV (M' := m_X5_take) (t := 0) (i := 0) (k := 12) (As := [.int (3)]) (rest := []) kl_5_103 oy_X5_take ⟨Nat.le_of_ble_eq_true rfl, Nat.le_of_ble_eq_true rfl⟩ rfl rfl rfl rfl (Nat.le_of_ble_eq_true rfl) rfl dX5_tellNear_16 (c_X5_take hc) (fun v2 τ2 hq => ?_)
    obtain ⟨rfl, rfl⟩ := hq
    change Z _ _ _ _ _ [.int (v)] _
    exact zb_X5_tellNear_19 h
def F_X5_tellNear (σ : Mm) : Option (Mm) := (bnd (F_X5_take 22 σ) (fun v τ => (F_X5_tellNear_11 (mA σ 0 0 12 4) v τ)))
set_option maxRecDepth 20000 in
theorem zb_X5_tellNear {S : Shp} {σ : Mm} {r : Mm} (h : F_X5_tellNear σ = some r) : Z m_X5_tellNear S (Qv r) 0 [(0, .ref (sL S 0 0 12))] [] σ := by
  unfold F_X5_tellNear at h
  refine z_aload_n dX5_tellNear_0 rfl 0 rfl ?_
  refine gf_5_18 rfl dX5_tellNear_1 ?_
  refine z_istore_n dX5_tellNear_4 rfl (by decide) [1, 0] rfl ?_
  refine z_aload_n dX5_tellNear_5 rfl 0 rfl ?_
  refine z_bipush (v := 22) dX5_tellNear_6 (by decide) ?_
  obtain ⟨v, τ, hc, h⟩ := bnd_e h
  refine z_callV (M' := m_X5_take) (t := 0) (i := 0) (k := 12) (As := [.int (22)]) (rest := []) kl_5_103 oy_X5_take ⟨Nat.le_of_ble_eq_true rfl, Nat.le_of_ble_eq_true rfl⟩ rfl rfl rfl rfl (Nat.le_of_ble_eq_true rfl) rfl dX5_tellNear_8 (c_X5_take hc) (fun v2 τ2 hq => ?_)
  obtain ⟨rfl, rfl⟩ := hq
  change Z _ _ _ _ _ [.int (v)] _
  exact zb_X5_tellNear_11 h
/-- SkyStones$Reader.tellNear()V -/
theorem c_X5_tellNear {S : Shp} {σ : Mm} {r : Mm} (h : F_X5_tellNear σ = some r) : Ct m_X5_tellNear S [.ref (sL S 0 0 12)] σ (Qv r) := Ct.of (by decide) (Nat.le_of_ble_eq_true rfl) (zb_X5_tellNear h)
def F_X5_blameIfNamed_64 (rc25 : Int32 → Int32 → Int32 → Mm → Option (Mm)) (x1 : Int32) (x3 : Int32) (s0 : Int32) (σ : Mm) : Option (Mm) := (rc25 x1 s0 (x3 + 1) σ)
set_option maxRecDepth 20000 in
theorem zb_X5_blameIfNamed_64 {S : Shp} {rc25 : Int32 → Int32 → Int32 → Mm → Option (Mm)} (hrc25 : ∀ {x1 : Int32} {x2 : Int32} {x3 : Int32} {σ : Mm} {r : Mm}, rc25 x1 x2 x3 σ = some r → Z m_X5_blameIfNamed S (Qv r) 25 [(0, .ref (sL S 0 0 12)), (1, .int (x1)), (2, .int (x2)), (3, .int (x3))] [] σ) {x1 : Int32} {x3 : Int32} {s0 : Int32} {σ : Mm} {r : Mm} (h : F_X5_blameIfNamed_64 rc25 x1 x3 s0 σ = some r) : Z m_X5_blameIfNamed S (Qv r) 64 [(0, .ref (sL S 0 0 12)), (1, .int (x1)), (3, .int (x3))] [.int (s0)] σ := by
  unfold F_X5_blameIfNamed_64 at h
  refine z_istore_n dX5_blameIfNamed_64 rfl (by decide) [1, 2, 0, 3] rfl ?_
  refine z_iinc (j := 3) (v := x3 + 1) dX5_blameIfNamed_65 rfl rfl (by decide) [1, 2, 3, 0] rfl ?_
  refine z_goto (tgt := 25) dX5_blameIfNamed_68 (by decide) ?_
  exact hrc25 h
def F_X5_blameIfNamed_59 (rc25 : Int32 → Int32 → Int32 → Mm → Option (Mm)) (x1 : Int32) (x3 : Int32) (σ : Mm) : Option (Mm) := (F_X5_blameIfNamed_64 rc25 x1 x3 1 σ)
set_option maxRecDepth 20000 in
theorem zb_X5_blameIfNamed_59 {S : Shp} {rc25 : Int32 → Int32 → Int32 → Mm → Option (Mm)} (hrc25 : ∀ {x1 : Int32} {x2 : Int32} {x3 : Int32} {σ : Mm} {r : Mm}, rc25 x1 x2 x3 σ = some r → Z m_X5_blameIfNamed S (Qv r) 25 [(0, .ref (sL S 0 0 12)), (1, .int (x1)), (2, .int (x2)), (3, .int (x3))] [] σ) {x1 : Int32} {x3 : Int32} {σ : Mm} {r : Mm} (h : F_X5_blameIfNamed_59 rc25 x1 x3 σ = some r) : Z m_X5_blameIfNamed S (Qv r) 59 [(0, .ref (sL S 0 0 12)), (1, .int (x1)), (3, .int (x3))] [] σ := by
  unfold F_X5_blameIfNamed_59 at h
  refine z_iconst (v := 1) dX5_blameIfNamed_59 (by decide) ?_
  refine z_goto (tgt := 64) dX5_blameIfNamed_60 (by decide) ?_
  exact zb_X5_blameIfNamed_64 hrc25 h
def B_X5_blameIfNamed_25 (rc25 : Int32 → Int32 → Int32 → Mm → Option (Mm)) (x1 : Int32) (x2 : Int32) (x3 : Int32) (σ : Mm) : Option (Mm) := (if okP σ = true then (if (mA σ 1 (mP σ 2) 0 12) ≤ x3 then (if x2 = 0 then some (σ) else (bnv (F_X5_blame 3 x1 σ) (fun τ => some (τ)))) else (if x2 = 0 then (if inb x3 5 = true then (if inb x1 402 = true then (if (lg_cmp (mL σ 0 0 14 x3.toNatClampNeg) (mL σ 0 0 11 x1.toNatClampNeg)) = 0 then (F_X5_blameIfNamed_59 rc25 x1 x3 σ) else (F_X5_blameIfNamed_64 rc25 x1 x3 0 σ)) else none) else none) else (F_X5_blameIfNamed_59 rc25 x1 x3 σ))) else none)
set_option maxRecDepth 20000 in
theorem zB_X5_blameIfNamed_25 {S : Shp} {rc25 : Int32 → Int32 → Int32 → Mm → Option (Mm)} (hrc25 : ∀ {x1 : Int32} {x2 : Int32} {x3 : Int32} {σ : Mm} {r : Mm}, rc25 x1 x2 x3 σ = some r → Z m_X5_blameIfNamed S (Qv r) 25 [(0, .ref (sL S 0 0 12)), (1, .int (x1)), (2, .int (x2)), (3, .int (x3))] [] σ) {x1 : Int32} {x2 : Int32} {x3 : Int32} {σ : Mm} {r : Mm} (h : B_X5_blameIfNamed_25 rc25 x1 x2 x3 σ = some r) : Z m_X5_blameIfNamed S (Qv r) 25 [(0, .ref (sL S 0 0 12)), (1, .int (x1)), (2, .int (x2)), (3, .int (x3))] [] σ := by
  unfold B_X5_blameIfNamed_25 at h
  obtain ⟨g2, h⟩ := gd h
  refine z_iload_n dX5_blameIfNamed_25 rfl 3 rfl ?_
  refine z_aload_n dX5_blameIfNamed_26 rfl 0 rfl ?_
  have hp := g2
  refine gf_5_38 rfl dX5_blameIfNamed_27 ?_
  refine gf_5_96 (lv1 (okP_2 hp) rfl) rfl dX5_blameIfNamed_30 ?_
  refine z_icmp_ge (tgt := 71) dX5_blameIfNamed_33 (by decide) (fun q => ?_) (fun q => ?_)
  · have h := (if_pos q).symm.trans h
    refine z_iload_n dX5_blameIfNamed_71 rfl 2 rfl ?_
    refine z_if_eq (tgt := 81) dX5_blameIfNamed_72 (by decide) (fun q => ?_) (fun q => ?_)
    · have h := (if_pos q).symm.trans h
      cases h
      exact z_return dX5_blameIfNamed_81 rfl ⟨rfl, rfl⟩
    · have h := (if_neg q).symm.trans h
      refine z_aload_n dX5_blameIfNamed_75 rfl 0 rfl ?_
      refine z_iconst (v := 3) dX5_blameIfNamed_76 (by decide) ?_
      refine z_iload_n dX5_blameIfNamed_77 rfl 1 rfl ?_
      obtain ⟨τ, hc, h⟩ := bnv_e h
      refine z_callV (M' := m_X5_blame) (t := 0) (i := 0) (k := 12) (As := [.int (3), .int (x1)]) (rest := []) kl_5_80 oy_X5_blame ⟨Nat.le_of_ble_eq_true rfl, Nat.le_of_ble_eq_true rfl⟩ rfl rfl rfl rfl (Nat.le_of_ble_eq_true rfl) rfl dX5_blameIfNamed_78 (c_X5_blame hc) (fun v2 τ2 hq => ?_)
      obtain ⟨rfl, rfl⟩ := hq
      change Z _ _ _ _ _ [] _
      cases h
      exact z_return dX5_blameIfNamed_81 rfl ⟨rfl, rfl⟩
  · have h := (if_neg q).symm.trans h
    refine z_iload_n dX5_blameIfNamed_36 rfl 2 rfl ?_
    refine z_if_ne (tgt := 59) dX5_blameIfNamed_37 (by decide) (fun q => ?_) (fun q => ?_)
    · have h := (if_neg q).symm.trans h
      refine Z.lv [0, 1, 3] rfl ?_
      exact zb_X5_blameIfNamed_59 hrc25 h
    · have h := (if_pos q).symm.trans h
      obtain ⟨g3, h⟩ := gd h
      refine z_aload_n dX5_blameIfNamed_40 rfl 0 rfl ?_
      refine gf_5_31 rfl dX5_blameIfNamed_41 ?_
      refine z_iload_n dX5_blameIfNamed_44 rfl 3 rfl ?_
      obtain ⟨g4, h⟩ := gd h
      refine ia_0_14 (inb_in g3) dX5_blameIfNamed_45 ?_
      refine z_aload_n dX5_blameIfNamed_46 rfl 0 rfl ?_
      refine gf_5_34 rfl dX5_blameIfNamed_47 ?_
      refine gf_5_89 rfl dX5_blameIfNamed_50 ?_
      refine z_iload_n dX5_blameIfNamed_53 rfl 1 rfl ?_
      refine ia_0_11 (inb_in g4) dX5_blameIfNamed_54 ?_
      refine z_lcmp dX5_blameIfNamed_55 ?_
      refine z_if_ne (tgt := 63) dX5_blameIfNamed_56 (by decide) (fun q => ?_) (fun q => ?_)
      · have h := (if_neg q).symm.trans h
        refine z_iconst (v := 0) dX5_blameIfNamed_63 (by decide) ?_
        refine Z.lv [0, 1, 3] rfl ?_
        exact zb_X5_blameIfNamed_64 hrc25 h
      · have h := (if_pos q).symm.trans h
        refine Z.lv [0, 1, 3] rfl ?_
        exact zb_X5_blameIfNamed_59 hrc25 h
def F_X5_blameIfNamed_25 : Nat → Int32 → Int32 → Int32 → Mm → Option (Mm)
  | 0 => fun _ _ _ _ => none
  | n + 1 => B_X5_blameIfNamed_25 (F_X5_blameIfNamed_25 n)
theorem zl_X5_blameIfNamed_25 {S : Shp} (n : Nat) {x1 : Int32} {x2 : Int32} {x3 : Int32} {σ : Mm} {r : Mm} (h : F_X5_blameIfNamed_25 n x1 x2 x3 σ = some r) : Z m_X5_blameIfNamed S (Qv r) 25 [(0, .ref (sL S 0 0 12)), (1, .int (x1)), (2, .int (x2)), (3, .int (x3))] [] σ := by
  induction n generalizing x1 x2 x3 σ r with
  | zero => cases h
  | succ n ih => exact zB_X5_blameIfNamed_25 (fun h => ih h) h
def F_X5_blameIfNamed_22 (x1 : Int32) (s0 : Int32) (σ : Mm) : Option (Mm) := (F_X5_blameIfNamed_25 FU x1 s0 0 σ)
set_option maxRecDepth 20000 in
theorem zb_X5_blameIfNamed_22 {S : Shp} {x1 : Int32} {s0 : Int32} {σ : Mm} {r : Mm} (h : F_X5_blameIfNamed_22 x1 s0 σ = some r) : Z m_X5_blameIfNamed S (Qv r) 22 [(0, .ref (sL S 0 0 12)), (1, .int (x1))] [.int (s0)] σ := by
  unfold F_X5_blameIfNamed_22 at h
  refine z_istore_n dX5_blameIfNamed_22 rfl (by decide) [1, 2, 0] rfl ?_
  refine z_iconst (v := 0) dX5_blameIfNamed_23 (by decide) ?_
  refine z_istore_n dX5_blameIfNamed_24 rfl (by decide) [1, 2, 3, 0] rfl ?_
  exact zl_X5_blameIfNamed_25 FU h
def F_X5_blameIfNamed_13 (x1 : Int32) (s0 : Int32) (σ : Mm) : Option (Mm) := (if s0 = ((-1)) then (F_X5_blameIfNamed_22 x1 0 σ) else (F_X5_blameIfNamed_22 x1 1 σ))
set_option maxRecDepth 20000 in
theorem zb_X5_blameIfNamed_13 {S : Shp} {x1 : Int32} {s0 : Int32} {σ : Mm} {r : Mm} (h : F_X5_blameIfNamed_13 x1 s0 σ = some r) : Z m_X5_blameIfNamed S (Qv r) 13 [(0, .ref (sL S 0 0 12)), (1, .int (x1))] [.int (s0)] σ := by
  unfold F_X5_blameIfNamed_13 at h
  refine z_iconst (v := (-1)) dX5_blameIfNamed_13 (by decide) ?_
  refine z_icmp_eq (tgt := 21) dX5_blameIfNamed_14 (by decide) (fun q => ?_) (fun q => ?_)
  · have h := (if_pos q).symm.trans h
    refine z_iconst (v := 0) dX5_blameIfNamed_21 (by decide) ?_
    exact zb_X5_blameIfNamed_22 h
  · have h := (if_neg q).symm.trans h
    refine z_iconst (v := 1) dX5_blameIfNamed_17 (by decide) ?_
    refine z_goto (tgt := 22) dX5_blameIfNamed_18 (by decide) ?_
    exact zb_X5_blameIfNamed_22 h
def F_X5_blameIfNamed (x1 : Int32) (σ : Mm) : Option (Mm) := (if inb x1 402 = true then (bnd (F_X5_thingNamed (mL σ 0 0 11 x1.toNatClampNeg) σ) (fun v τ => (F_X5_blameIfNamed_13 x1 v τ))) else none)
set_option maxRecDepth 20000 in
theorem zb_X5_blameIfNamed {S : Shp} {x1 : Int32} {σ : Mm} {r : Mm} (h : F_X5_blameIfNamed x1 σ = some r) : Z m_X5_blameIfNamed S (Qv r) 0 [(0, .ref (sL S 0 0 12)), (1, .int (x1))] [] σ := by
  unfold F_X5_blameIfNamed at h
  obtain ⟨g1, h⟩ := gd h
  refine z_aload_n dX5_blameIfNamed_0 rfl 0 rfl ?_
  refine z_aload_n dX5_blameIfNamed_1 rfl 0 rfl ?_
  refine gf_5_34 rfl dX5_blameIfNamed_2 ?_
  refine gf_5_89 rfl dX5_blameIfNamed_5 ?_
  refine z_iload_n dX5_blameIfNamed_8 rfl 1 rfl ?_
  refine ia_0_11 (inb_in g1) dX5_blameIfNamed_9 ?_
  obtain ⟨v, τ, hc, h⟩ := bnd_e h
  refine z_callV (M' := m_X5_thingNamed) (t := 0) (i := 0) (k := 12) (As := [.long (mL σ 0 0 11 x1.toNatClampNeg)]) (rest := []) kl_5_92 oy_X5_thingNamed ⟨Nat.le_of_ble_eq_true rfl, Nat.le_of_ble_eq_true rfl⟩ rfl rfl rfl rfl (Nat.le_of_ble_eq_true rfl) rfl dX5_blameIfNamed_10 (c_X5_thingNamed hc) (fun v2 τ2 hq => ?_)
  obtain ⟨rfl, rfl⟩ := hq
  change Z _ _ _ _ _ [.int (v)] _
  exact zb_X5_blameIfNamed_13 h
/-- SkyStones$Reader.blameIfNamed(I)V -/
theorem c_X5_blameIfNamed {S : Shp} {x1 : Int32} {σ : Mm} {r : Mm} (h : F_X5_blameIfNamed x1 σ = some r) : Ct m_X5_blameIfNamed S [.ref (sL S 0 0 12), .int (x1)] σ (Qv r) := Ct.of (by decide) (Nat.le_of_ble_eq_true rfl) (zb_X5_blameIfNamed h)
def F_X9_isTaken_32 (rc2 : Nat → Int32 → Int32 → Int32 → Mm → Option (Int32 × Mm)) (i0 : Nat) (x1 : Int32) (x2 : Int32) (x3 : Int32) (σ : Mm) : Option (Int32 × Mm) := (rc2 i0 x1 x2 (x3 + 1) σ)
set_option maxRecDepth 20000 in
theorem zb_X9_isTaken_32 {S : Shp} {rc2 : Nat → Int32 → Int32 → Int32 → Mm → Option (Int32 × Mm)} (hrc2 : ∀ {i0 : Nat} (hi0 : tlv (sH S) i0 = true) {x1 : Int32} {x2 : Int32} {x3 : Int32} {σ : Mm} {r : Int32 × Mm}, rc2 i0 x1 x2 x3 σ = some r → Z m_X9_isTaken S (Qi r) 2 [(0, .ref (sL S 1 i0 0)), (1, .int (x1)), (2, .int (x2)), (3, .int (x3))] [] σ) {i0 : Nat} (hi0 : tlv (sH S) i0 = true) {x1 : Int32} {x2 : Int32} {x3 : Int32} {σ : Mm} {r : Int32 × Mm} (h : F_X9_isTaken_32 rc2 i0 x1 x2 x3 σ = some r) : Z m_X9_isTaken S (Qi r) 32 [(0, .ref (sL S 1 i0 0)), (1, .int (x1)), (2, .int (x2)), (3, .int (x3))] [] σ := by
  unfold F_X9_isTaken_32 at h
  refine z_iinc (j := 3) (v := x3 + 1) dX9_isTaken_32 rfl rfl (by decide) [1, 2, 3, 0] rfl ?_
  refine z_goto (tgt := 2) dX9_isTaken_35 (by decide) ?_
  exact hrc2 (hi0) h
def B_X9_isTaken_2 (rc2 : Nat → Int32 → Int32 → Int32 → Mm → Option (Int32 × Mm)) (i0 : Nat) (x1 : Int32) (x2 : Int32) (x3 : Int32) (σ : Mm) : Option (Int32 × Mm) := (if (mA σ 1 i0 0 1) ≤ x3 then some (0, σ) else (if inb x3 14 = true then (if (mA σ 1 i0 1 x3.toNatClampNeg) = x1 then (if inb x3 14 = true then (if (mA σ 1 i0 2 x3.toNatClampNeg) = x2 then some (1, σ) else (F_X9_isTaken_32 rc2 i0 x1 x2 x3 σ)) else none) else (F_X9_isTaken_32 rc2 i0 x1 x2 x3 σ)) else none))
set_option maxRecDepth 20000 in
theorem zB_X9_isTaken_2 {S : Shp} {rc2 : Nat → Int32 → Int32 → Int32 → Mm → Option (Int32 × Mm)} (hrc2 : ∀ {i0 : Nat} (hi0 : tlv (sH S) i0 = true) {x1 : Int32} {x2 : Int32} {x3 : Int32} {σ : Mm} {r : Int32 × Mm}, rc2 i0 x1 x2 x3 σ = some r → Z m_X9_isTaken S (Qi r) 2 [(0, .ref (sL S 1 i0 0)), (1, .int (x1)), (2, .int (x2)), (3, .int (x3))] [] σ) {i0 : Nat} (hi0 : tlv (sH S) i0 = true) {x1 : Int32} {x2 : Int32} {x3 : Int32} {σ : Mm} {r : Int32 × Mm} (h : B_X9_isTaken_2 rc2 i0 x1 x2 x3 σ = some r) : Z m_X9_isTaken S (Qi r) 2 [(0, .ref (sL S 1 i0 0)), (1, .int (x1)), (2, .int (x2)), (3, .int (x3))] [] σ := by
  unfold B_X9_isTaken_2 at h
  refine z_iload_n dX9_isTaken_2 rfl 3 rfl ?_
  refine z_aload_n dX9_isTaken_3 rfl 0 rfl ?_
  refine gf_9_15 (lv1 (hi0) rfl) rfl dX9_isTaken_4 ?_
  refine z_icmp_ge (tgt := 38) dX9_isTaken_7 (by decide) (fun q => ?_) (fun q => ?_)
  · have h := (if_pos q).symm.trans h
    refine z_iconst (v := 0) dX9_isTaken_38 (by decide) ?_
    cases h
    exact z_ireturn dX9_isTaken_39 rfl rfl ⟨rfl, rfl⟩
  · have h := (if_neg q).symm.trans h
    obtain ⟨g1, h⟩ := gd h
    refine z_aload_n dX9_isTaken_10 rfl 0 rfl ?_
    refine gf_9_18 (lv1 (hi0) rfl) rfl dX9_isTaken_11 ?_
    refine z_iload_n dX9_isTaken_14 rfl 3 rfl ?_
    refine ia_1_1 (lv1 (hi0) rfl) (inb_in g1) dX9_isTaken_15 ?_
    refine z_iload_n dX9_isTaken_16 rfl 1 rfl ?_
    refine z_icmp_ne (tgt := 32) dX9_isTaken_17 (by decide) (fun q => ?_) (fun q => ?_)
    · have h := (if_neg q).symm.trans h
      exact zb_X9_isTaken_32 hrc2 (hi0) h
    · have h := (if_pos q).symm.trans h
      obtain ⟨g2, h⟩ := gd h
      refine z_aload_n dX9_isTaken_20 rfl 0 rfl ?_
      refine gf_9_22 (lv1 (hi0) rfl) rfl dX9_isTaken_21 ?_
      refine z_iload_n dX9_isTaken_24 rfl 3 rfl ?_
      refine ia_1_2 (lv1 (hi0) rfl) (inb_in g2) dX9_isTaken_25 ?_
      refine z_iload_n dX9_isTaken_26 rfl 2 rfl ?_
      refine z_icmp_ne (tgt := 32) dX9_isTaken_27 (by decide) (fun q => ?_) (fun q => ?_)
      · have h := (if_neg q).symm.trans h
        exact zb_X9_isTaken_32 hrc2 (hi0) h
      · have h := (if_pos q).symm.trans h
        refine z_iconst (v := 1) dX9_isTaken_30 (by decide) ?_
        cases h
        exact z_ireturn dX9_isTaken_31 rfl rfl ⟨rfl, rfl⟩
def F_X9_isTaken_2 : Nat → Nat → Int32 → Int32 → Int32 → Mm → Option (Int32 × Mm)
  | 0 => fun _ _ _ _ _ => none
  | n + 1 => B_X9_isTaken_2 (F_X9_isTaken_2 n)
theorem zl_X9_isTaken_2 {S : Shp} {i0 : Nat} (hi0 : tlv (sH S) i0 = true) (n : Nat) {x1 : Int32} {x2 : Int32} {x3 : Int32} {σ : Mm} {r : Int32 × Mm} (h : F_X9_isTaken_2 n i0 x1 x2 x3 σ = some r) : Z m_X9_isTaken S (Qi r) 2 [(0, .ref (sL S 1 i0 0)), (1, .int (x1)), (2, .int (x2)), (3, .int (x3))] [] σ := by
  induction n generalizing i0 x1 x2 x3 σ r with
  | zero => cases h
  | succ n ih => exact zB_X9_isTaken_2 (fun hi0 h => ih hi0 h) hi0 h
def F_X9_isTaken (i0 : Nat) (x1 : Int32) (x2 : Int32) (σ : Mm) : Option (Int32 × Mm) := (F_X9_isTaken_2 FU i0 x1 x2 0 σ)
set_option maxRecDepth 20000 in
theorem zb_X9_isTaken {S : Shp} {i0 : Nat} (hi0 : tlv (sH S) i0 = true) {x1 : Int32} {x2 : Int32} {σ : Mm} {r : Int32 × Mm} (h : F_X9_isTaken i0 x1 x2 σ = some r) : Z m_X9_isTaken S (Qi r) 0 [(0, .ref (sL S 1 i0 0)), (1, .int (x1)), (2, .int (x2))] [] σ := by
  unfold F_X9_isTaken at h
  refine z_iconst (v := 0) dX9_isTaken_0 (by decide) ?_
  refine z_istore_n dX9_isTaken_1 rfl (by decide) [1, 2, 3, 0] rfl ?_
  exact zl_X9_isTaken_2 (hi0) FU h
/-- SkyStones$Told.isTaken(II)Z -/
theorem c_X9_isTaken {S : Shp} {i0 : Nat} (hi0 : tlv (sH S) i0 = true) {x1 : Int32} {x2 : Int32} {σ : Mm} {r : Int32 × Mm} (h : F_X9_isTaken i0 x1 x2 σ = some r) : Ct m_X9_isTaken S [.ref (sL S 1 i0 0), .int (x1), .int (x2)] σ (Qi r) := Ct.of (by decide) (Nat.le_of_ble_eq_true rfl) (zb_X9_isTaken hi0 h)
def F_X5_tellThing_243 (σ : Mm) : Option (Mm) := (if okP σ = true then some (setA σ 1 (mP σ 2) 0 (upd (mA σ 1 (mP σ 2) 0) 1 ((mA σ 1 (mP σ 2) 0 1) + 1))) else none)
set_option maxRecDepth 20000 in
theorem zb_X5_tellThing_243 {S : Shp} {σ : Mm} {r : Mm} (h : F_X5_tellThing_243 σ = some r) : Z m_X5_tellThing S (Qv r) 243 [] [.ref (sL S 0 0 12)] σ := by
  unfold F_X5_tellThing_243 at h
  obtain ⟨g19, h⟩ := gd h
  have hp := g19
  refine gf_5_38 rfl dX5_tellThing_243 ?_
  refine z_dup dX5_tellThing_246 rfl ?_
  refine gf_5_84 (lv1 (okP_2 hp) rfl) rfl dX5_tellThing_247 ?_
  refine z_iconst (v := 1) dX5_tellThing_250 (by decide) ?_
  refine z_iadd dX5_tellThing_251 ?_
  refine pf_5_84 (lv1 (okP_2 hp) rfl) rfl dX5_tellThing_252 ?_
  cases h
  exact z_return dX5_tellThing_255 rfl ⟨rfl, rfl⟩
def F_X5_tellThing_241 (i0 : Nat) (s0 : Int32) (s1 : Int32) (σ : Mm) : Option (Mm) := (if inb s1 14 = true then (F_X5_tellThing_243 (setA σ 1 i0 4 (upd (mA σ 1 i0 4) s1.toNatClampNeg s0))) else none)
set_option maxRecDepth 20000 in
theorem zb_X5_tellThing_241 {S : Shp} {i0 : Nat} (hi0 : tlv (sH S) i0 = true) {s0 : Int32} {s1 : Int32} {σ : Mm} {r : Mm} (h : F_X5_tellThing_241 i0 s0 s1 σ = some r) : Z m_X5_tellThing S (Qv r) 241 [(0, .ref (sL S 0 0 12))] [.int (s0), .int (s1), .ref (sL S 1 i0 4)] σ := by
  unfold F_X5_tellThing_241 at h
  obtain ⟨g18, h⟩ := gd h
  refine is_1_4 (lv1 (hi0) rfl) (inb_in g18) dX5_tellThing_241 ?_
  refine z_aload_n dX5_tellThing_242 rfl 0 rfl ?_
  refine Z.lv [] rfl ?_
  exact zb_X5_tellThing_243 h
def F_X5_tellThing_223 (x1 : Int32) (x3 : Int32) (σ : Mm) : Option (Mm) := (if okP σ = true then (if x1 = 16 then (F_X5_tellThing_241 (mP σ 2) 1 x3 σ) else (F_X5_tellThing_241 (mP σ 2) 0 x3 σ)) else none)
set_option maxRecDepth 20000 in
theorem zb_X5_tellThing_223 {S : Shp} {x1 : Int32} {x3 : Int32} {σ : Mm} {r : Mm} (h : F_X5_tellThing_223 x1 x3 σ = some r) : Z m_X5_tellThing S (Qv r) 223 [(0, .ref (sL S 0 0 12)), (1, .int (x1)), (3, .int (x3))] [.ref (sL S 0 0 12)] σ := by
  unfold F_X5_tellThing_223 at h
  obtain ⟨g17, h⟩ := gd h
  have hp := g17
  refine gf_5_38 rfl dX5_tellThing_223 ?_
  refine gf_5_125 (lv1 (okP_2 hp) rfl) rfl dX5_tellThing_226 ?_
  refine z_iload_n dX5_tellThing_229 rfl 2 rfl ?_
  refine z_iload_n dX5_tellThing_230 rfl 1 rfl ?_
  refine z_bipush (v := 16) dX5_tellThing_231 (by decide) ?_
  refine z_icmp_ne (tgt := 240) dX5_tellThing_233 (by decide) (fun q => ?_) (fun q => ?_)
  · have h := (if_neg q).symm.trans h
    refine z_iconst (v := 0) dX5_tellThing_240 (by decide) ?_
    refine Z.lv [0] rfl ?_
    exact zb_X5_tellThing_241 (okP_2 hp) h
  · have h := (if_pos q).symm.trans h
    refine z_iconst (v := 1) dX5_tellThing_236 (by decide) ?_
    refine z_goto (tgt := 241) dX5_tellThing_237 (by decide) ?_
    refine Z.lv [0] rfl ?_
    exact zb_X5_tellThing_241 (okP_2 hp) h
def F_X5_tellThing_203 (x1 : Int32) (x2 : Int32) (x3 : Int32) (σ : Mm) : Option (Mm) := (if okP σ = true then (if inb (x2 + 4) 402 = true then (if inb x3 14 = true then (F_X5_tellThing_223 x1 x3 (setA σ 1 (mP σ 2) 3 (upd (mA σ 1 (mP σ 2) 3) x3.toNatClampNeg (mA σ 0 0 10 (x2 + 4).toNatClampNeg)))) else none) else none) else none)
set_option maxRecDepth 20000 in
theorem zb_X5_tellThing_203 {S : Shp} {x1 : Int32} {x2 : Int32} {x3 : Int32} {σ : Mm} {r : Mm} (h : F_X5_tellThing_203 x1 x2 x3 σ = some r) : Z m_X5_tellThing S (Qv r) 203 [(0, .ref (sL S 0 0 12)), (1, .int (x1)), (2, .int (x2)), (3, .int (x3))] [.ref (sL S 0 0 12)] σ := by
  unfold F_X5_tellThing_203 at h
  obtain ⟨g14, h⟩ := gd h
  obtain ⟨g15, h⟩ := gd h
  have hp := g14
  refine gf_5_38 rfl dX5_tellThing_203 ?_
  refine gf_5_122 (lv1 (okP_2 hp) rfl) rfl dX5_tellThing_206 ?_
  refine z_iload_n dX5_tellThing_209 rfl 3 rfl ?_
  refine z_aload_n dX5_tellThing_210 rfl 0 rfl ?_
  refine gf_5_34 rfl dX5_tellThing_211 ?_
  refine gf_5_77 rfl dX5_tellThing_214 ?_
  refine z_iload_n dX5_tellThing_217 rfl 2 rfl ?_
  refine z_iconst (v := 4) dX5_tellThing_218 (by decide) ?_
  refine z_iadd dX5_tellThing_219 ?_
  obtain ⟨g16, h⟩ := gd h
  refine ia_0_10 (inb_in g15) dX5_tellThing_220 ?_
  refine is_1_3 (lv1 (okP_2 hp) rfl) (inb_in g16) dX5_tellThing_221 ?_
  refine z_aload_n dX5_tellThing_222 rfl 0 rfl ?_
  refine Z.lv [0, 1, 3] rfl ?_
  exact zb_X5_tellThing_223 h
def F_X5_tellThing_183 (x1 : Int32) (x2 : Int32) (x3 : Int32) (σ : Mm) : Option (Mm) := (if okP σ = true then (if inb (x2 + 3) 402 = true then (if inb x3 14 = true then (F_X5_tellThing_203 x1 x2 x3 (setA σ 1 (mP σ 2) 2 (upd (mA σ 1 (mP σ 2) 2) x3.toNatClampNeg (mA σ 0 0 10 (x2 + 3).toNatClampNeg)))) else none) else none) else none)
set_option maxRecDepth 20000 in
theorem zb_X5_tellThing_183 {S : Shp} {x1 : Int32} {x2 : Int32} {x3 : Int32} {σ : Mm} {r : Mm} (h : F_X5_tellThing_183 x1 x2 x3 σ = some r) : Z m_X5_tellThing S (Qv r) 183 [(0, .ref (sL S 0 0 12)), (1, .int (x1)), (2, .int (x2)), (3, .int (x3))] [.ref (sL S 0 0 12)] σ := by
  unfold F_X5_tellThing_183 at h
  obtain ⟨g11, h⟩ := gd h
  obtain ⟨g12, h⟩ := gd h
  have hp := g11
  refine gf_5_38 rfl dX5_tellThing_183 ?_
  refine gf_5_119 (lv1 (okP_2 hp) rfl) rfl dX5_tellThing_186 ?_
  refine z_iload_n dX5_tellThing_189 rfl 3 rfl ?_
  refine z_aload_n dX5_tellThing_190 rfl 0 rfl ?_
  refine gf_5_34 rfl dX5_tellThing_191 ?_
  refine gf_5_77 rfl dX5_tellThing_194 ?_
  refine z_iload_n dX5_tellThing_197 rfl 2 rfl ?_
  refine z_iconst (v := 3) dX5_tellThing_198 (by decide) ?_
  refine z_iadd dX5_tellThing_199 ?_
  obtain ⟨g13, h⟩ := gd h
  refine ia_0_10 (inb_in g12) dX5_tellThing_200 ?_
  refine is_1_2 (lv1 (okP_2 hp) rfl) (inb_in g13) dX5_tellThing_201 ?_
  refine z_aload_n dX5_tellThing_202 rfl 0 rfl ?_
  exact zb_X5_tellThing_203 h
def F_X5_tellThing_163 (x1 : Int32) (x2 : Int32) (x3 : Int32) (σ : Mm) : Option (Mm) := (if okP σ = true then (if inb (x2 + 2) 402 = true then (if inb x3 14 = true then (F_X5_tellThing_183 x1 x2 x3 (setA σ 1 (mP σ 2) 1 (upd (mA σ 1 (mP σ 2) 1) x3.toNatClampNeg (mA σ 0 0 10 (x2 + 2).toNatClampNeg)))) else none) else none) else none)
set_option maxRecDepth 20000 in
theorem zb_X5_tellThing_163 {S : Shp} {x1 : Int32} {x2 : Int32} {x3 : Int32} {σ : Mm} {r : Mm} (h : F_X5_tellThing_163 x1 x2 x3 σ = some r) : Z m_X5_tellThing S (Qv r) 163 [(0, .ref (sL S 0 0 12)), (1, .int (x1)), (2, .int (x2)), (3, .int (x3))] [.ref (sL S 0 0 12)] σ := by
  unfold F_X5_tellThing_163 at h
  obtain ⟨g8, h⟩ := gd h
  obtain ⟨g9, h⟩ := gd h
  have hp := g8
  refine gf_5_38 rfl dX5_tellThing_163 ?_
  refine gf_5_116 (lv1 (okP_2 hp) rfl) rfl dX5_tellThing_166 ?_
  refine z_iload_n dX5_tellThing_169 rfl 3 rfl ?_
  refine z_aload_n dX5_tellThing_170 rfl 0 rfl ?_
  refine gf_5_34 rfl dX5_tellThing_171 ?_
  refine gf_5_77 rfl dX5_tellThing_174 ?_
  refine z_iload_n dX5_tellThing_177 rfl 2 rfl ?_
  refine z_iconst (v := 2) dX5_tellThing_178 (by decide) ?_
  refine z_iadd dX5_tellThing_179 ?_
  obtain ⟨g10, h⟩ := gd h
  refine ia_0_10 (inb_in g9) dX5_tellThing_180 ?_
  refine is_1_1 (lv1 (okP_2 hp) rfl) (inb_in g10) dX5_tellThing_181 ?_
  refine z_aload_n dX5_tellThing_182 rfl 0 rfl ?_
  exact zb_X5_tellThing_183 h
def F_X5_tellThing_137 (x1 : Int32) (x2 : Int32) (σ : Mm) : Option (Mm) := (if okP σ = true then (if inb (x2 + 1) 402 = true then (if inb (mA σ 1 (mP σ 2) 0 1) 14 = true then (F_X5_tellThing_163 x1 x2 (mA σ 1 (mP σ 2) 0 1) (setL σ 0 0 13 (vp_updL (mL σ 0 0 13) (mA σ 1 (mP σ 2) 0 1).toNatClampNeg (mL σ 0 0 11 (x2 + 1).toNatClampNeg)))) else none) else none) else none)
set_option maxRecDepth 20000 in
theorem zb_X5_tellThing_137 {S : Shp} {x1 : Int32} {x2 : Int32} {σ : Mm} {r : Mm} (h : F_X5_tellThing_137 x1 x2 σ = some r) : Z m_X5_tellThing S (Qv r) 137 [(0, .ref (sL S 0 0 12)), (1, .int (x1)), (2, .int (x2))] [] σ := by
  unfold F_X5_tellThing_137 at h
  obtain ⟨g5, h⟩ := gd h
  refine z_aload_n dX5_tellThing_137 rfl 0 rfl ?_
  obtain ⟨g6, h⟩ := gd h
  have hp := g5
  refine gf_5_38 rfl dX5_tellThing_138 ?_
  refine gf_5_84 (lv1 (okP_2 hp) rfl) rfl dX5_tellThing_141 ?_
  refine z_istore_n dX5_tellThing_144 rfl (by decide) [1, 2, 3, 0] rfl ?_
  refine z_aload_n dX5_tellThing_145 rfl 0 rfl ?_
  refine gf_5_27 rfl dX5_tellThing_146 ?_
  refine z_iload_n dX5_tellThing_149 rfl 3 rfl ?_
  refine z_aload_n dX5_tellThing_150 rfl 0 rfl ?_
  refine gf_5_34 rfl dX5_tellThing_151 ?_
  refine gf_5_89 rfl dX5_tellThing_154 ?_
  refine z_iload_n dX5_tellThing_157 rfl 2 rfl ?_
  refine z_iconst (v := 1) dX5_tellThing_158 (by decide) ?_
  refine z_iadd dX5_tellThing_159 ?_
  obtain ⟨g7, h⟩ := gd h
  refine ia_0_11 (inb_in g6) dX5_tellThing_160 ?_
  refine is_0_13 (inb_in g7) dX5_tellThing_161 ?_
  refine z_aload_n dX5_tellThing_162 rfl 0 rfl ?_
  exact zb_X5_tellThing_163 h
def F_X5_tellThing_126 (x1 : Int32) (x2 : Int32) (s0 : Int32) (σ : Mm) : Option (Mm) := (if s0 = 0 then (F_X5_tellThing_137 x1 x2 σ) else (bnv (F_X5_blame 3 (x2 + 3) σ) (fun τ => (F_X5_tellThing_137 x1 x2 τ))))
set_option maxRecDepth 20000 in
theorem zb_X5_tellThing_126 {S : Shp} {x1 : Int32} {x2 : Int32} {s0 : Int32} {σ : Mm} {r : Mm} (h : F_X5_tellThing_126 x1 x2 s0 σ = some r) : Z m_X5_tellThing S (Qv r) 126 [(0, .ref (sL S 0 0 12)), (1, .int (x1)), (2, .int (x2))] [.int (s0)] σ := by
  unfold F_X5_tellThing_126 at h
  refine z_if_eq (tgt := 137) dX5_tellThing_126 (by decide) (fun q => ?_) (fun q => ?_)
  · have h := (if_pos q).symm.trans h
    exact zb_X5_tellThing_137 h
  · have h := (if_neg q).symm.trans h
    refine z_aload_n dX5_tellThing_129 rfl 0 rfl ?_
    refine z_iconst (v := 3) dX5_tellThing_130 (by decide) ?_
    refine z_iload_n dX5_tellThing_131 rfl 2 rfl ?_
    refine z_iconst (v := 3) dX5_tellThing_132 (by decide) ?_
    refine z_iadd dX5_tellThing_133 ?_
    obtain ⟨τ, hc, h⟩ := bnv_e h
    refine z_callV (M' := m_X5_blame) (t := 0) (i := 0) (k := 12) (As := [.int (3), .int (x2 + 3)]) (rest := []) kl_5_80 oy_X5_blame ⟨Nat.le_of_ble_eq_true rfl, Nat.le_of_ble_eq_true rfl⟩ rfl rfl rfl rfl (Nat.le_of_ble_eq_true rfl) rfl dX5_tellThing_134 (c_X5_blame hc) (fun v2 τ2 hq => ?_)
    obtain ⟨rfl, rfl⟩ := hq
    change Z _ _ _ _ _ [] _
    exact zb_X5_tellThing_137 h
def F_X5_tellThing_97 (x1 : Int32) (x2 : Int32) (σ : Mm) : Option (Mm) := (if okP σ = true then (if inb (x2 + 2) 402 = true then (if inb (x2 + 3) 402 = true then (bnd (F_X9_isTaken (mP σ 2) (mA σ 0 0 10 (x2 + 2).toNatClampNeg) (mA σ 0 0 10 (x2 + 3).toNatClampNeg) σ) (fun v τ => (F_X5_tellThing_126 x1 x2 v τ))) else none) else none) else none)
set_option maxRecDepth 20000 in
theorem zb_X5_tellThing_97 {S : Shp} {x1 : Int32} {x2 : Int32} {σ : Mm} {r : Mm} (h : F_X5_tellThing_97 x1 x2 σ = some r) : Z m_X5_tellThing S (Qv r) 97 [(0, .ref (sL S 0 0 12)), (1, .int (x1)), (2, .int (x2))] [] σ := by
  unfold F_X5_tellThing_97 at h
  obtain ⟨g2, h⟩ := gd h
  refine z_aload_n dX5_tellThing_97 rfl 0 rfl ?_
  obtain ⟨g3, h⟩ := gd h
  have hp := g2
  refine gf_5_38 rfl dX5_tellThing_98 ?_
  refine z_aload_n dX5_tellThing_101 rfl 0 rfl ?_
  refine gf_5_34 rfl dX5_tellThing_102 ?_
  refine gf_5_77 rfl dX5_tellThing_105 ?_
  refine z_iload_n dX5_tellThing_108 rfl 2 rfl ?_
  refine z_iconst (v := 2) dX5_tellThing_109 (by decide) ?_
  refine z_iadd dX5_tellThing_110 ?_
  obtain ⟨g4, h⟩ := gd h
  refine ia_0_10 (inb_in g3) dX5_tellThing_111 ?_
  refine z_aload_n dX5_tellThing_112 rfl 0 rfl ?_
  refine gf_5_34 rfl dX5_tellThing_113 ?_
  refine gf_5_77 rfl dX5_tellThing_116 ?_
  refine z_iload_n dX5_tellThing_119 rfl 2 rfl ?_
  refine z_iconst (v := 3) dX5_tellThing_120 (by decide) ?_
  refine z_iadd dX5_tellThing_121 ?_
  refine ia_0_10 (inb_in g4) dX5_tellThing_122 ?_
  obtain ⟨v, τ, hc, h⟩ := bnd_e h
  refine z_callV (M' := m_X9_isTaken) (t := 1) (i := (mP σ 2)) (k := 0) (As := [.int (mA σ 0 0 10 (x2 + 2).toNatClampNeg), .int (mA σ 0 0 10 (x2 + 3).toNatClampNeg)]) (rest := []) kl_5_113 oy_X9_isTaken ⟨Nat.le_of_ble_eq_true rfl, Nat.le_of_ble_eq_true rfl⟩ (lv1 (okP_2 hp) rfl) rfl rfl rfl (Nat.le_of_ble_eq_true rfl) rfl dX5_tellThing_123 (c_X9_isTaken (okP_2 hp) hc) (fun v2 τ2 hq => ?_)
  obtain ⟨rfl, rfl⟩ := hq
  change Z _ _ _ _ _ [.int (v)] _
  exact zb_X5_tellThing_126 h
def F_X5_tellThing_87 (x1 : Int32) (x2 : Int32) (σ : Mm) : Option (Mm) := (bnv (F_X5_blameAbove 999 (x2 + 3) σ) (fun τ => (F_X5_tellThing_97 x1 x2 τ)))
set_option maxRecDepth 20000 in
theorem zb_X5_tellThing_87 {S : Shp} {x1 : Int32} {x2 : Int32} {σ : Mm} {r : Mm} (h : F_X5_tellThing_87 x1 x2 σ = some r) : Z m_X5_tellThing S (Qv r) 87 [(0, .ref (sL S 0 0 12)), (1, .int (x1)), (2, .int (x2))] [] σ := by
  unfold F_X5_tellThing_87 at h
  refine z_aload_n dX5_tellThing_87 rfl 0 rfl ?_
  refine z_sipush (v := 999) dX5_tellThing_88 (by decide) ?_
  refine z_iload_n dX5_tellThing_91 rfl 2 rfl ?_
  refine z_iconst (v := 3) dX5_tellThing_92 (by decide) ?_
  refine z_iadd dX5_tellThing_93 ?_
  obtain ⟨τ, hc, h⟩ := bnv_e h
  refine z_callV (M' := m_X5_blameAbove) (t := 0) (i := 0) (k := 12) (As := [.int (999), .int (x2 + 3)]) (rest := []) kl_5_110 oy_X5_blameAbove ⟨Nat.le_of_ble_eq_true rfl, Nat.le_of_ble_eq_true rfl⟩ rfl rfl rfl rfl (Nat.le_of_ble_eq_true rfl) rfl dX5_tellThing_94 (c_X5_blameAbove hc) (fun v2 τ2 hq => ?_)
  obtain ⟨rfl, rfl⟩ := hq
  change Z _ _ _ _ _ [] _
  exact zb_X5_tellThing_97 h
def F_X5_tellThing_77 (x1 : Int32) (x2 : Int32) (σ : Mm) : Option (Mm) := (bnv (F_X5_blameAbove 999 (x2 + 2) σ) (fun τ => (F_X5_tellThing_87 x1 x2 τ)))
set_option maxRecDepth 20000 in
theorem zb_X5_tellThing_77 {S : Shp} {x1 : Int32} {x2 : Int32} {σ : Mm} {r : Mm} (h : F_X5_tellThing_77 x1 x2 σ = some r) : Z m_X5_tellThing S (Qv r) 77 [(0, .ref (sL S 0 0 12)), (1, .int (x1)), (2, .int (x2))] [] σ := by
  unfold F_X5_tellThing_77 at h
  refine z_aload_n dX5_tellThing_77 rfl 0 rfl ?_
  refine z_sipush (v := 999) dX5_tellThing_78 (by decide) ?_
  refine z_iload_n dX5_tellThing_81 rfl 2 rfl ?_
  refine z_iconst (v := 2) dX5_tellThing_82 (by decide) ?_
  refine z_iadd dX5_tellThing_83 ?_
  obtain ⟨τ, hc, h⟩ := bnv_e h
  refine z_callV (M' := m_X5_blameAbove) (t := 0) (i := 0) (k := 12) (As := [.int (999), .int (x2 + 2)]) (rest := []) kl_5_110 oy_X5_blameAbove ⟨Nat.le_of_ble_eq_true rfl, Nat.le_of_ble_eq_true rfl⟩ rfl rfl rfl rfl (Nat.le_of_ble_eq_true rfl) rfl dX5_tellThing_84 (c_X5_blameAbove hc) (fun v2 τ2 hq => ?_)
  obtain ⟨rfl, rfl⟩ := hq
  change Z _ _ _ _ _ [] _
  exact zb_X5_tellThing_87 h
def F_X5_tellThing_67 (x1 : Int32) (x2 : Int32) (s0 : Int32) (σ : Mm) : Option (Mm) := (if s0 = 0 then some (σ) else (bnv (F_X5_blameIfNamed (x2 + 1) σ) (fun τ => (F_X5_tellThing_77 x1 x2 τ))))
set_option maxRecDepth 20000 in
theorem zb_X5_tellThing_67 {S : Shp} {x1 : Int32} {x2 : Int32} {s0 : Int32} {σ : Mm} {r : Mm} (h : F_X5_tellThing_67 x1 x2 s0 σ = some r) : Z m_X5_tellThing S (Qv r) 67 [(0, .ref (sL S 0 0 12)), (1, .int (x1)), (2, .int (x2))] [.int (s0)] σ := by
  unfold F_X5_tellThing_67 at h
  refine z_if_eq (tgt := 255) dX5_tellThing_67 (by decide) (fun q => ?_) (fun q => ?_)
  · have h := (if_pos q).symm.trans h
    cases h
    exact z_return dX5_tellThing_255 rfl ⟨rfl, rfl⟩
  · have h := (if_neg q).symm.trans h
    refine z_aload_n dX5_tellThing_70 rfl 0 rfl ?_
    refine z_iload_n dX5_tellThing_71 rfl 2 rfl ?_
    refine z_iconst (v := 1) dX5_tellThing_72 (by decide) ?_
    refine z_iadd dX5_tellThing_73 ?_
    obtain ⟨τ, hc, h⟩ := bnv_e h
    refine z_callV (M' := m_X5_blameIfNamed) (t := 0) (i := 0) (k := 12) (As := [.int (x2 + 1)]) (rest := []) kl_5_107 oy_X5_blameIfNamed ⟨Nat.le_of_ble_eq_true rfl, Nat.le_of_ble_eq_true rfl⟩ rfl rfl rfl rfl (Nat.le_of_ble_eq_true rfl) rfl dX5_tellThing_74 (c_X5_blameIfNamed hc) (fun v2 τ2 hq => ?_)
    obtain ⟨rfl, rfl⟩ := hq
    change Z _ _ _ _ _ [] _
    exact zb_X5_tellThing_77 h
def F_X5_tellThing_59 (x1 : Int32) (x2 : Int32) (s0 : Int32) (σ : Mm) : Option (Mm) := (if s0 = 0 then some (σ) else (bnd (F_X5_take 4 σ) (fun v τ => (F_X5_tellThing_67 x1 x2 v τ))))
set_option maxRecDepth 20000 in
theorem zb_X5_tellThing_59 {S : Shp} {x1 : Int32} {x2 : Int32} {s0 : Int32} {σ : Mm} {r : Mm} (h : F_X5_tellThing_59 x1 x2 s0 σ = some r) : Z m_X5_tellThing S (Qv r) 59 [(0, .ref (sL S 0 0 12)), (1, .int (x1)), (2, .int (x2))] [.int (s0)] σ := by
  unfold F_X5_tellThing_59 at h
  refine z_if_eq (tgt := 255) dX5_tellThing_59 (by decide) (fun q => ?_) (fun q => ?_)
  · have h := (if_pos q).symm.trans h
    cases h
    exact z_return dX5_tellThing_255 rfl ⟨rfl, rfl⟩
  · have h := (if_neg q).symm.trans h
    refine z_aload_n dX5_tellThing_62 rfl 0 rfl ?_
    refine z_iconst (v := 4) dX5_tellThing_63 (by decide) ?_
    obtain ⟨v, τ, hc, h⟩ := bnd_e h
    refine z_callV (M' := m_X5_take) (t := 0) (i := 0) (k := 12) (As := [.int (4)]) (rest := []) kl_5_103 oy_X5_take ⟨Nat.le_of_ble_eq_true rfl, Nat.le_of_ble_eq_true rfl⟩ rfl rfl rfl rfl (Nat.le_of_ble_eq_true rfl) rfl dX5_tellThing_64 (c_X5_take hc) (fun v2 τ2 hq => ?_)
    obtain ⟨rfl, rfl⟩ := hq
    change Z _ _ _ _ _ [.int (v)] _
    exact zb_X5_tellThing_67 h
def F_X5_tellThing_51 (x1 : Int32) (x2 : Int32) (s0 : Int32) (σ : Mm) : Option (Mm) := (if s0 = 0 then some (σ) else (bnd (F_X5_take 3 σ) (fun v τ => (F_X5_tellThing_59 x1 x2 v τ))))
set_option maxRecDepth 20000 in
theorem zb_X5_tellThing_51 {S : Shp} {x1 : Int32} {x2 : Int32} {s0 : Int32} {σ : Mm} {r : Mm} (h : F_X5_tellThing_51 x1 x2 s0 σ = some r) : Z m_X5_tellThing S (Qv r) 51 [(0, .ref (sL S 0 0 12)), (1, .int (x1)), (2, .int (x2))] [.int (s0)] σ := by
  unfold F_X5_tellThing_51 at h
  refine z_if_eq (tgt := 255) dX5_tellThing_51 (by decide) (fun q => ?_) (fun q => ?_)
  · have h := (if_pos q).symm.trans h
    cases h
    exact z_return dX5_tellThing_255 rfl ⟨rfl, rfl⟩
  · have h := (if_neg q).symm.trans h
    refine z_aload_n dX5_tellThing_54 rfl 0 rfl ?_
    refine z_iconst (v := 3) dX5_tellThing_55 (by decide) ?_
    obtain ⟨v, τ, hc, h⟩ := bnd_e h
    refine z_callV (M' := m_X5_take) (t := 0) (i := 0) (k := 12) (As := [.int (3)]) (rest := []) kl_5_103 oy_X5_take ⟨Nat.le_of_ble_eq_true rfl, Nat.le_of_ble_eq_true rfl⟩ rfl rfl rfl rfl (Nat.le_of_ble_eq_true rfl) rfl dX5_tellThing_56 (c_X5_take hc) (fun v2 τ2 hq => ?_)
    obtain ⟨rfl, rfl⟩ := hq
    change Z _ _ _ _ _ [.int (v)] _
    exact zb_X5_tellThing_59 h
def F_X5_tellThing_43 (x1 : Int32) (x2 : Int32) (s0 : Int32) (σ : Mm) : Option (Mm) := (if s0 = 0 then some (σ) else (bnd (F_X5_take 3 σ) (fun v τ => (F_X5_tellThing_51 x1 x2 v τ))))
set_option maxRecDepth 20000 in
theorem zb_X5_tellThing_43 {S : Shp} {x1 : Int32} {x2 : Int32} {s0 : Int32} {σ : Mm} {r : Mm} (h : F_X5_tellThing_43 x1 x2 s0 σ = some r) : Z m_X5_tellThing S (Qv r) 43 [(0, .ref (sL S 0 0 12)), (1, .int (x1)), (2, .int (x2))] [.int (s0)] σ := by
  unfold F_X5_tellThing_43 at h
  refine z_if_eq (tgt := 255) dX5_tellThing_43 (by decide) (fun q => ?_) (fun q => ?_)
  · have h := (if_pos q).symm.trans h
    cases h
    exact z_return dX5_tellThing_255 rfl ⟨rfl, rfl⟩
  · have h := (if_neg q).symm.trans h
    refine z_aload_n dX5_tellThing_46 rfl 0 rfl ?_
    refine z_iconst (v := 3) dX5_tellThing_47 (by decide) ?_
    obtain ⟨v, τ, hc, h⟩ := bnd_e h
    refine z_callV (M' := m_X5_take) (t := 0) (i := 0) (k := 12) (As := [.int (3)]) (rest := []) kl_5_103 oy_X5_take ⟨Nat.le_of_ble_eq_true rfl, Nat.le_of_ble_eq_true rfl⟩ rfl rfl rfl rfl (Nat.le_of_ble_eq_true rfl) rfl dX5_tellThing_48 (c_X5_take hc) (fun v2 τ2 hq => ?_)
    obtain ⟨rfl, rfl⟩ := hq
    change Z _ _ _ _ _ [.int (v)] _
    exact zb_X5_tellThing_51 h
def F_X5_tellThing_35 (x1 : Int32) (x2 : Int32) (s0 : Int32) (σ : Mm) : Option (Mm) := (if s0 = 0 then some (σ) else (bnd (F_X5_take 3 σ) (fun v τ => (F_X5_tellThing_43 x1 x2 v τ))))
set_option maxRecDepth 20000 in
theorem zb_X5_tellThing_35 {S : Shp} {x1 : Int32} {x2 : Int32} {s0 : Int32} {σ : Mm} {r : Mm} (h : F_X5_tellThing_35 x1 x2 s0 σ = some r) : Z m_X5_tellThing S (Qv r) 35 [(0, .ref (sL S 0 0 12)), (1, .int (x1)), (2, .int (x2))] [.int (s0)] σ := by
  unfold F_X5_tellThing_35 at h
  refine z_if_eq (tgt := 255) dX5_tellThing_35 (by decide) (fun q => ?_) (fun q => ?_)
  · have h := (if_pos q).symm.trans h
    cases h
    exact z_return dX5_tellThing_255 rfl ⟨rfl, rfl⟩
  · have h := (if_neg q).symm.trans h
    refine z_aload_n dX5_tellThing_38 rfl 0 rfl ?_
    refine z_iconst (v := 3) dX5_tellThing_39 (by decide) ?_
    obtain ⟨v, τ, hc, h⟩ := bnd_e h
    refine z_callV (M' := m_X5_take) (t := 0) (i := 0) (k := 12) (As := [.int (3)]) (rest := []) kl_5_103 oy_X5_take ⟨Nat.le_of_ble_eq_true rfl, Nat.le_of_ble_eq_true rfl⟩ rfl rfl rfl rfl (Nat.le_of_ble_eq_true rfl) rfl dX5_tellThing_40 (c_X5_take hc) (fun v2 τ2 hq => ?_)
    obtain ⟨rfl, rfl⟩ := hq
    change Z _ _ _ _ _ [.int (v)] _
    exact zb_X5_tellThing_43 h
def F_X5_tellThing_27 (x1 : Int32) (x2 : Int32) (s0 : Int32) (σ : Mm) : Option (Mm) := (if s0 = 0 then some (σ) else (bnd (F_X5_take 2 σ) (fun v τ => (F_X5_tellThing_35 x1 x2 v τ))))
set_option maxRecDepth 20000 in
theorem zb_X5_tellThing_27 {S : Shp} {x1 : Int32} {x2 : Int32} {s0 : Int32} {σ : Mm} {r : Mm} (h : F_X5_tellThing_27 x1 x2 s0 σ = some r) : Z m_X5_tellThing S (Qv r) 27 [(0, .ref (sL S 0 0 12)), (1, .int (x1)), (2, .int (x2))] [.int (s0)] σ := by
  unfold F_X5_tellThing_27 at h
  refine z_if_eq (tgt := 255) dX5_tellThing_27 (by decide) (fun q => ?_) (fun q => ?_)
  · have h := (if_pos q).symm.trans h
    cases h
    exact z_return dX5_tellThing_255 rfl ⟨rfl, rfl⟩
  · have h := (if_neg q).symm.trans h
    refine z_aload_n dX5_tellThing_30 rfl 0 rfl ?_
    refine z_iconst (v := 2) dX5_tellThing_31 (by decide) ?_
    obtain ⟨v, τ, hc, h⟩ := bnd_e h
    refine z_callV (M' := m_X5_take) (t := 0) (i := 0) (k := 12) (As := [.int (2)]) (rest := []) kl_5_103 oy_X5_take ⟨Nat.le_of_ble_eq_true rfl, Nat.le_of_ble_eq_true rfl⟩ rfl rfl rfl rfl (Nat.le_of_ble_eq_true rfl) rfl dX5_tellThing_32 (c_X5_take hc) (fun v2 τ2 hq => ?_)
    obtain ⟨rfl, rfl⟩ := hq
    change Z _ _ _ _ _ [.int (v)] _
    exact zb_X5_tellThing_35 h
def F_X5_tellThing_18 (x1 : Int32) (x2 : Int32) (s0 : Int32) (σ : Mm) : Option (Mm) := (if s0 = 0 then some (σ) else (bnd (F_X5_take x1 σ) (fun v τ => (F_X5_tellThing_27 x1 x2 v τ))))
set_option maxRecDepth 20000 in
theorem zb_X5_tellThing_18 {S : Shp} {x1 : Int32} {x2 : Int32} {s0 : Int32} {σ : Mm} {r : Mm} (h : F_X5_tellThing_18 x1 x2 s0 σ = some r) : Z m_X5_tellThing S (Qv r) 18 [(0, .ref (sL S 0 0 12)), (1, .int (x1)), (2, .int (x2))] [.int (s0)] σ := by
  unfold F_X5_tellThing_18 at h
  refine z_if_ne (tgt := 22) dX5_tellThing_18 (by decide) (fun q => ?_) (fun q => ?_)
  · have h := (if_neg q).symm.trans h
    refine z_aload_n dX5_tellThing_22 rfl 0 rfl ?_
    refine z_iload_n dX5_tellThing_23 rfl 1 rfl ?_
    obtain ⟨v, τ, hc, h⟩ := bnd_e h
    refine z_callV (M' := m_X5_take) (t := 0) (i := 0) (k := 12) (As := [.int (x1)]) (rest := []) kl_5_103 oy_X5_take ⟨Nat.le_of_ble_eq_true rfl, Nat.le_of_ble_eq_true rfl⟩ rfl rfl rfl rfl (Nat.le_of_ble_eq_true rfl) rfl dX5_tellThing_24 (c_X5_take hc) (fun v2 τ2 hq => ?_)
    obtain ⟨rfl, rfl⟩ := hq
    change Z _ _ _ _ _ [.int (v)] _
    exact zb_X5_tellThing_27 h
  · have h := (if_pos q).symm.trans h
    cases h
    exact z_return dX5_tellThing_21 rfl ⟨rfl, rfl⟩
def F_X5_tellThing (x1 : Int32) (σ : Mm) : Option (Mm) := (if okP σ = true then (bnd (F_X5_hasRoom (mA σ 1 (mP σ 2) 0 1) 14 σ) (fun v τ => (F_X5_tellThing_18 x1 (mA σ 0 0 12 4) v τ))) else none)
set_option maxRecDepth 20000 in
theorem zb_X5_tellThing {S : Shp} {x1 : Int32} {σ : Mm} {r : Mm} (h : F_X5_tellThing x1 σ = some r) : Z m_X5_tellThing S (Qv r) 0 [(0, .ref (sL S 0 0 12)), (1, .int (x1))] [] σ := by
  unfold F_X5_tellThing at h
  obtain ⟨g1, h⟩ := gd h
  refine z_aload_n dX5_tellThing_0 rfl 0 rfl ?_
  refine gf_5_18 rfl dX5_tellThing_1 ?_
  refine z_istore_n dX5_tellThing_4 rfl (by decide) [1, 2, 0] rfl ?_
  refine z_aload_n dX5_tellThing_5 rfl 0 rfl ?_
  refine z_aload_n dX5_tellThing_6 rfl 0 rfl ?_
  have hp := g1
  refine gf_5_38 rfl dX5_tellThing_7 ?_
  refine gf_5_84 (lv1 (okP_2 hp) rfl) rfl dX5_tellThing_10 ?_
  refine z_bipush (v := 14) dX5_tellThing_13 (by decide) ?_
  obtain ⟨v, τ, hc, h⟩ := bnd_e h
  refine z_callV (M' := m_X5_hasRoom) (t := 0) (i := 0) (k := 12) (As := [.int (mA σ 1 (mP σ 2) 0 1), .int (14)]) (rest := []) kl_5_99 oy_X5_hasRoom ⟨Nat.le_of_ble_eq_true rfl, Nat.le_of_ble_eq_true rfl⟩ rfl rfl rfl rfl (Nat.le_of_ble_eq_true rfl) rfl dX5_tellThing_15 (c_X5_hasRoom hc) (fun v2 τ2 hq => ?_)
  obtain ⟨rfl, rfl⟩ := hq
  change Z _ _ _ _ _ [.int (v)] _
  exact zb_X5_tellThing_18 h
/-- SkyStones$Reader.tellThing(I)V -/
theorem c_X5_tellThing {S : Shp} {x1 : Int32} {σ : Mm} {r : Mm} (h : F_X5_tellThing x1 σ = some r) : Ct m_X5_tellThing S [.ref (sL S 0 0 12), .int (x1)] σ (Qv r) := Ct.of (by decide) (Nat.le_of_ble_eq_true rfl) (zb_X5_tellThing h)
