def B_X11_power_5 (rc5 : Int32 → Int32 → Int64 → Int32 → Mm → Option (Int64 × Mm)) (x0 : Int32) (x1 : Int32) (x2 : Int64) (x4 : Int32) (σ : Mm) : Option (Int64 × Mm) := (if x1 ≤ x4 then some (x2, σ) else (rc5 x0 x1 (x2 * (Int32.toInt64 x0)) (x4 + 1) σ))
set_option maxRecDepth 20000 in
theorem zB_X11_power_5 {S : Shp} {rc5 : Int32 → Int32 → Int64 → Int32 → Mm → Option (Int64 × Mm)} (hrc5 : ∀ {x0 : Int32} {x1 : Int32} {x2 : Int64} {x4 : Int32} {σ : Mm} {r : Int64 × Mm}, rc5 x0 x1 x2 x4 σ = some r → Z m_X11_power S (Ql r) 5 [(0, .int (x0)), (1, .int (x1)), (2, .long (x2)), (4, .int (x4))] [] σ) {x0 : Int32} {x1 : Int32} {x2 : Int64} {x4 : Int32} {σ : Mm} {r : Int64 × Mm} (h : B_X11_power_5 rc5 x0 x1 x2 x4 σ = some r) : Z m_X11_power S (Ql r) 5 [(0, .int (x0)), (1, .int (x1)), (2, .long (x2)), (4, .int (x4))] [] σ := by
  unfold B_X11_power_5 at h
  refine z_iload dX11_power_5 3 rfl ?_
  refine z_iload_n dX11_power_7 rfl 1 rfl ?_
  refine z_icmp_ge (tgt := 22) dX11_power_8 (by decide) (fun q => ?_) (fun q => ?_)
  · have h := (if_pos q).symm.trans h
    refine z_lload_n dX11_power_22 rfl 2 rfl ?_
    cases h
    exact z_lreturn dX11_power_23 rfl ⟨rfl, rfl⟩
  · have h := (if_neg q).symm.trans h
    refine z_lload_n dX11_power_11 rfl 2 rfl ?_
    refine z_iload_n dX11_power_12 rfl 0 rfl ?_
    refine z_i2l dX11_power_13 ?_
    refine z_lmul dX11_power_14 ?_
    refine z_lstore_n dX11_power_15 rfl (by decide) [1, 2, 0, 3] rfl ?_
    refine z_iinc (j := 3) (v := x4 + 1) dX11_power_16 rfl rfl (by decide) [1, 2, 3, 0] rfl ?_
    refine z_goto (tgt := 5) dX11_power_19 (by decide) ?_
    exact hrc5 h
def F_X11_power_5 : Nat → Int32 → Int32 → Int64 → Int32 → Mm → Option (Int64 × Mm)
  | 0 => fun _ _ _ _ _ => none
  | n + 1 => B_X11_power_5 (F_X11_power_5 n)
theorem zl_X11_power_5 {S : Shp} (n : Nat) {x0 : Int32} {x1 : Int32} {x2 : Int64} {x4 : Int32} {σ : Mm} {r : Int64 × Mm} (h : F_X11_power_5 n x0 x1 x2 x4 σ = some r) : Z m_X11_power S (Ql r) 5 [(0, .int (x0)), (1, .int (x1)), (2, .long (x2)), (4, .int (x4))] [] σ := by
  induction n generalizing x0 x1 x2 x4 σ r with
  | zero => cases h
  | succ n ih => exact zB_X11_power_5 (fun h => ih h) h
def F_X11_power (x0 : Int32) (x1 : Int32) (σ : Mm) : Option (Int64 × Mm) := (F_X11_power_5 FU x0 x1 1 0 σ)
set_option maxRecDepth 20000 in
theorem zb_X11_power {S : Shp} {x0 : Int32} {x1 : Int32} {σ : Mm} {r : Int64 × Mm} (h : F_X11_power x0 x1 σ = some r) : Z m_X11_power S (Ql r) 0 [(0, .int (x0)), (1, .int (x1))] [] σ := by
  unfold F_X11_power at h
  refine z_lconst (v := 1) dX11_power_0 (by decide) ?_
  refine z_lstore_n dX11_power_1 rfl (by decide) [1, 2, 0] rfl ?_
  refine z_iconst (v := 0) dX11_power_2 (by decide) ?_
  refine z_istore dX11_power_3 (by decide) [1, 2, 3, 0] rfl ?_
  exact zl_X11_power_5 FU h
/-- SkyStones.power(II)J -/
theorem c_X11_power {S : Shp} {x0 : Int32} {x1 : Int32} {σ : Mm} {r : Int64 × Mm} (h : F_X11_power x0 x1 σ = some r) : Ct m_X11_power S [.int (x0), .int (x1)] σ (Ql r) := Ct.of (by decide) (Nat.le_of_ble_eq_true rfl) (zb_X11_power h)
def F_X11_ways_44 (rc9 : Int32 → Int32 → Int32 → Int32 → Int64 → Int64 → Int32 → Mm → Option (Int64 × Mm)) (x0 : Int32) (x1 : Int32) (x2 : Int32) (x3 : Int32) (x4 : Int64) (x6 : Int64) (x8 : Int32) (σ : Mm) : Option (Int64 × Mm) := (if ¬ (Int32.toInt64 (x8 + 1)) = 0 then (rc9 x0 x1 x2 x3 x4 ((x6 * (Int32.toInt64 (x0 - x8))) / (Int32.toInt64 (x8 + 1))) (x8 + 1) σ) else none)
set_option maxRecDepth 20000 in
theorem zb_X11_ways_44 {S : Shp} {rc9 : Int32 → Int32 → Int32 → Int32 → Int64 → Int64 → Int32 → Mm → Option (Int64 × Mm)} (hrc9 : ∀ {x0 : Int32} {x1 : Int32} {x2 : Int32} {x3 : Int32} {x4 : Int64} {x6 : Int64} {x8 : Int32} {σ : Mm} {r : Int64 × Mm}, rc9 x0 x1 x2 x3 x4 x6 x8 σ = some r → Z m_X11_ways S (Ql r) 9 [(0, .int (x0)), (1, .int (x1)), (2, .int (x2)), (3, .int (x3)), (4, .long (x4)), (6, .long (x6)), (8, .int (x8))] [] σ) {x0 : Int32} {x1 : Int32} {x2 : Int32} {x3 : Int32} {x4 : Int64} {x6 : Int64} {x8 : Int32} {σ : Mm} {r : Int64 × Mm} (h : F_X11_ways_44 rc9 x0 x1 x2 x3 x4 x6 x8 σ = some r) : Z m_X11_ways S (Ql r) 44 [(0, .int (x0)), (1, .int (x1)), (2, .int (x2)), (3, .int (x3)), (4, .long (x4)), (6, .long (x6)), (8, .int (x8))] [] σ := by
  unfold F_X11_ways_44 at h
  obtain ⟨g1, h⟩ := gd h
  refine z_lload dX11_ways_44 5 rfl ?_
  refine z_iload_n dX11_ways_46 rfl 0 rfl ?_
  refine z_iload dX11_ways_47 6 rfl ?_
  refine z_isub dX11_ways_49 ?_
  refine z_i2l dX11_ways_50 ?_
  refine z_lmul dX11_ways_51 ?_
  refine z_iload dX11_ways_52 6 rfl ?_
  refine z_iconst (v := 1) dX11_ways_54 (by decide) ?_
  refine z_iadd dX11_ways_55 ?_
  refine z_i2l dX11_ways_56 ?_
  refine z_ldiv dX11_ways_57 g1 ?_
  refine z_lstore dX11_ways_58 (by decide) [1, 2, 3, 4, 5, 0, 6] rfl ?_
  refine z_iinc (j := 6) (v := x8 + 1) dX11_ways_60 rfl rfl (by decide) [1, 2, 3, 4, 5, 6, 0] rfl ?_
  refine z_goto (tgt := 9) dX11_ways_63 (by decide) ?_
  exact hrc9 h
def F_X11_ways_40 (rc9 : Int32 → Int32 → Int32 → Int32 → Int64 → Int64 → Int32 → Mm → Option (Int64 × Mm)) (x0 : Int32) (x1 : Int32) (x2 : Int32) (x3 : Int32) (x6 : Int64) (x8 : Int32) (s0 : Int64) (s1 : Int64) (s2 : Int64) (σ : Mm) : Option (Int64 × Mm) := (F_X11_ways_44 rc9 x0 x1 x2 x3 (s2 + (s1 * s0)) x6 x8 σ)
set_option maxRecDepth 20000 in
theorem zb_X11_ways_40 {S : Shp} {rc9 : Int32 → Int32 → Int32 → Int32 → Int64 → Int64 → Int32 → Mm → Option (Int64 × Mm)} (hrc9 : ∀ {x0 : Int32} {x1 : Int32} {x2 : Int32} {x3 : Int32} {x4 : Int64} {x6 : Int64} {x8 : Int32} {σ : Mm} {r : Int64 × Mm}, rc9 x0 x1 x2 x3 x4 x6 x8 σ = some r → Z m_X11_ways S (Ql r) 9 [(0, .int (x0)), (1, .int (x1)), (2, .int (x2)), (3, .int (x3)), (4, .long (x4)), (6, .long (x6)), (8, .int (x8))] [] σ) {x0 : Int32} {x1 : Int32} {x2 : Int32} {x3 : Int32} {x6 : Int64} {x8 : Int32} {s0 : Int64} {s1 : Int64} {s2 : Int64} {σ : Mm} {r : Int64 × Mm} (h : F_X11_ways_40 rc9 x0 x1 x2 x3 x6 x8 s0 s1 s2 σ = some r) : Z m_X11_ways S (Ql r) 40 [(0, .int (x0)), (1, .int (x1)), (2, .int (x2)), (3, .int (x3)), (6, .long (x6)), (8, .int (x8))] [.long (s0), .long (s1), .long (s2)] σ := by
  unfold F_X11_ways_40 at h
  refine z_lmul dX11_ways_40 ?_
  refine z_ladd dX11_ways_41 ?_
  refine z_lstore dX11_ways_42 (by decide) [1, 2, 3, 4, 0, 5, 6] rfl ?_
  exact zb_X11_ways_44 hrc9 h
def F_X11_ways_31 (rc9 : Int32 → Int32 → Int32 → Int32 → Int64 → Int64 → Int32 → Mm → Option (Int64 × Mm)) (x0 : Int32) (x1 : Int32) (x2 : Int32) (x3 : Int32) (x6 : Int64) (x8 : Int32) (s0 : Int64) (s1 : Int64) (s2 : Int64) (σ : Mm) : Option (Int64 × Mm) := (bnl (F_X11_power x3 (x0 - x8) σ) (fun v τ => (F_X11_ways_40 rc9 x0 x1 x2 x3 x6 x8 v (s1 * s0) s2 τ)))
set_option maxRecDepth 20000 in
theorem zb_X11_ways_31 {S : Shp} {rc9 : Int32 → Int32 → Int32 → Int32 → Int64 → Int64 → Int32 → Mm → Option (Int64 × Mm)} (hrc9 : ∀ {x0 : Int32} {x1 : Int32} {x2 : Int32} {x3 : Int32} {x4 : Int64} {x6 : Int64} {x8 : Int32} {σ : Mm} {r : Int64 × Mm}, rc9 x0 x1 x2 x3 x4 x6 x8 σ = some r → Z m_X11_ways S (Ql r) 9 [(0, .int (x0)), (1, .int (x1)), (2, .int (x2)), (3, .int (x3)), (4, .long (x4)), (6, .long (x6)), (8, .int (x8))] [] σ) {x0 : Int32} {x1 : Int32} {x2 : Int32} {x3 : Int32} {x6 : Int64} {x8 : Int32} {s0 : Int64} {s1 : Int64} {s2 : Int64} {σ : Mm} {r : Int64 × Mm} (h : F_X11_ways_31 rc9 x0 x1 x2 x3 x6 x8 s0 s1 s2 σ = some r) : Z m_X11_ways S (Ql r) 31 [(0, .int (x0)), (1, .int (x1)), (2, .int (x2)), (3, .int (x3)), (6, .long (x6)), (8, .int (x8))] [.long (s0), .long (s1), .long (s2)] σ := by
  unfold F_X11_ways_31 at h
  refine z_lmul dX11_ways_31 ?_
  refine z_iload_n dX11_ways_32 rfl 3 rfl ?_
  refine z_iload_n dX11_ways_33 rfl 0 rfl ?_
  refine z_iload dX11_ways_34 5 rfl ?_
  refine z_isub dX11_ways_36 ?_
  obtain ⟨v, τ, hc, h⟩ := bnl_e h
  refine z_callS (M' := m_X11_power) (As := [.int (x3), .int (x0 - x8)]) (rest := [.long (s1 * s0), .long (s2)]) kl_11_379 oy_X11_power ⟨Nat.le_of_ble_eq_true rfl, Nat.le_of_ble_eq_true rfl⟩ rfl (Nat.le_of_ble_eq_true rfl) rfl dX11_ways_37 (c_X11_power hc) (fun v2 τ2 hq => ?_)
  obtain ⟨rfl, rfl⟩ := hq
  change Z _ _ _ _ _ [.long (v), .long (s1 * s0), .long (s2)] _
  exact zb_X11_ways_40 hrc9 h
def B_X11_ways_9 (rc9 : Int32 → Int32 → Int32 → Int32 → Int64 → Int64 → Int32 → Mm → Option (Int64 × Mm)) (x0 : Int32) (x1 : Int32) (x2 : Int32) (x3 : Int32) (x4 : Int64) (x6 : Int64) (x8 : Int32) (σ : Mm) : Option (Int64 × Mm) := (if x0 < x8 then some (x4, σ) else (if x8 < x1 then (F_X11_ways_44 rc9 x0 x1 x2 x3 x4 x6 x8 σ) else (bnl (F_X11_power x2 x8 σ) (fun v τ => (F_X11_ways_31 rc9 x0 x1 x2 x3 x6 x8 v x6 x4 τ)))))
set_option maxRecDepth 20000 in
theorem zB_X11_ways_9 {S : Shp} {rc9 : Int32 → Int32 → Int32 → Int32 → Int64 → Int64 → Int32 → Mm → Option (Int64 × Mm)} (hrc9 : ∀ {x0 : Int32} {x1 : Int32} {x2 : Int32} {x3 : Int32} {x4 : Int64} {x6 : Int64} {x8 : Int32} {σ : Mm} {r : Int64 × Mm}, rc9 x0 x1 x2 x3 x4 x6 x8 σ = some r → Z m_X11_ways S (Ql r) 9 [(0, .int (x0)), (1, .int (x1)), (2, .int (x2)), (3, .int (x3)), (4, .long (x4)), (6, .long (x6)), (8, .int (x8))] [] σ) {x0 : Int32} {x1 : Int32} {x2 : Int32} {x3 : Int32} {x4 : Int64} {x6 : Int64} {x8 : Int32} {σ : Mm} {r : Int64 × Mm} (h : B_X11_ways_9 rc9 x0 x1 x2 x3 x4 x6 x8 σ = some r) : Z m_X11_ways S (Ql r) 9 [(0, .int (x0)), (1, .int (x1)), (2, .int (x2)), (3, .int (x3)), (4, .long (x4)), (6, .long (x6)), (8, .int (x8))] [] σ := by
  unfold B_X11_ways_9 at h
  refine z_iload dX11_ways_9 6 rfl ?_
  refine z_iload_n dX11_ways_11 rfl 0 rfl ?_
  refine z_icmp_gt (tgt := 66) dX11_ways_12 (by decide) (fun q => ?_) (fun q => ?_)
  · have h := (if_pos q).symm.trans h
    refine z_lload dX11_ways_66 4 rfl ?_
    cases h
    exact z_lreturn dX11_ways_68 rfl ⟨rfl, rfl⟩
  · have h := (if_neg q).symm.trans h
    refine z_iload dX11_ways_15 6 rfl ?_
    refine z_iload_n dX11_ways_17 rfl 1 rfl ?_
    refine z_icmp_lt (tgt := 44) dX11_ways_18 (by decide) (fun q => ?_) (fun q => ?_)
    · have h := (if_pos q).symm.trans h
      exact zb_X11_ways_44 hrc9 h
    · have h := (if_neg q).symm.trans h
      refine z_lload dX11_ways_21 4 rfl ?_
      refine z_lload dX11_ways_23 5 rfl ?_
      refine z_iload_n dX11_ways_25 rfl 2 rfl ?_
      refine z_iload dX11_ways_26 6 rfl ?_
      obtain ⟨v, τ, hc, h⟩ := bnl_e h
      refine z_callS (M' := m_X11_power) (As := [.int (x2), .int (x8)]) (rest := [.long (x6), .long (x4)]) kl_11_379 oy_X11_power ⟨Nat.le_of_ble_eq_true rfl, Nat.le_of_ble_eq_true rfl⟩ rfl (Nat.le_of_ble_eq_true rfl) rfl dX11_ways_28 (c_X11_power hc) (fun v2 τ2 hq => ?_)
      obtain ⟨rfl, rfl⟩ := hq
      change Z _ _ _ _ _ [.long (v), .long (x6), .long (x4)] _
      refine Z.lv [0, 1, 2, 3, 5, 6] rfl ?_
      exact zb_X11_ways_31 hrc9 h
def F_X11_ways_9 : Nat → Int32 → Int32 → Int32 → Int32 → Int64 → Int64 → Int32 → Mm → Option (Int64 × Mm)
  | 0 => fun _ _ _ _ _ _ _ _ => none
  | n + 1 => B_X11_ways_9 (F_X11_ways_9 n)
theorem zl_X11_ways_9 {S : Shp} (n : Nat) {x0 : Int32} {x1 : Int32} {x2 : Int32} {x3 : Int32} {x4 : Int64} {x6 : Int64} {x8 : Int32} {σ : Mm} {r : Int64 × Mm} (h : F_X11_ways_9 n x0 x1 x2 x3 x4 x6 x8 σ = some r) : Z m_X11_ways S (Ql r) 9 [(0, .int (x0)), (1, .int (x1)), (2, .int (x2)), (3, .int (x3)), (4, .long (x4)), (6, .long (x6)), (8, .int (x8))] [] σ := by
  induction n generalizing x0 x1 x2 x3 x4 x6 x8 σ r with
  | zero => cases h
  | succ n ih => exact zB_X11_ways_9 (fun h => ih h) h
def F_X11_ways (x0 : Int32) (x1 : Int32) (x2 : Int32) (x3 : Int32) (σ : Mm) : Option (Int64 × Mm) := (F_X11_ways_9 FU x0 x1 x2 x3 0 1 0 σ)
set_option maxRecDepth 20000 in
theorem zb_X11_ways {S : Shp} {x0 : Int32} {x1 : Int32} {x2 : Int32} {x3 : Int32} {σ : Mm} {r : Int64 × Mm} (h : F_X11_ways x0 x1 x2 x3 σ = some r) : Z m_X11_ways S (Ql r) 0 [(0, .int (x0)), (1, .int (x1)), (2, .int (x2)), (3, .int (x3))] [] σ := by
  unfold F_X11_ways at h
  refine z_lconst (v := 0) dX11_ways_0 (by decide) ?_
  refine z_lstore dX11_ways_1 (by decide) [1, 2, 3, 4, 0] rfl ?_
  refine z_lconst (v := 1) dX11_ways_3 (by decide) ?_
  refine z_lstore dX11_ways_4 (by decide) [1, 2, 3, 4, 5, 0] rfl ?_
  refine z_iconst (v := 0) dX11_ways_6 (by decide) ?_
  refine z_istore dX11_ways_7 (by decide) [1, 2, 3, 4, 5, 6, 0] rfl ?_
  exact zl_X11_ways_9 FU h
/-- SkyStones.ways(IIII)J -/
theorem c_X11_ways {S : Shp} {x0 : Int32} {x1 : Int32} {x2 : Int32} {x3 : Int32} {σ : Mm} {r : Int64 × Mm} (h : F_X11_ways x0 x1 x2 x3 σ = some r) : Ct m_X11_ways S [.int (x0), .int (x1), .int (x2), .int (x3)] σ (Ql r) := Ct.of (by decide) (Nat.le_of_ble_eq_true rfl) (zb_X11_ways h)
def F_X11_chance_50 (s0 : Int64) (σ : Mm) : Option (Int64 × Mm) := some (s0, σ)
set_option maxRecDepth 20000 in
theorem zb_X11_chance_50 {S : Shp} {s0 : Int64} {σ : Mm} {r : Int64 × Mm} (h : F_X11_chance_50 s0 σ = some r) : Z m_X11_chance S (Ql r) 50 [] [.long (s0)] σ := by
  unfold F_X11_chance_50 at h
  cases h
  exact z_lreturn dX11_chance_50 rfl ⟨rfl, rfl⟩
def F_X11_chance_41 (x3 : Int32) (s0 : Int32) (s1 : Int32) (σ : Mm) : Option (Int64 × Mm) := (bnl (F_X11_ways s1 s0 x3 (360 - x3) σ) (fun v τ => (F_X11_chance_50 v τ)))
set_option maxRecDepth 20000 in
theorem zb_X11_chance_41 {S : Shp} {x3 : Int32} {s0 : Int32} {s1 : Int32} {σ : Mm} {r : Int64 × Mm} (h : F_X11_chance_41 x3 s0 s1 σ = some r) : Z m_X11_chance S (Ql r) 41 [(3, .int (x3))] [.int (s0), .int (s1)] σ := by
  unfold F_X11_chance_41 at h
  refine z_iload_n dX11_chance_41 rfl 0 rfl ?_
  refine z_sipush (v := 360) dX11_chance_42 (by decide) ?_
  refine z_iload_n dX11_chance_45 rfl 0 rfl ?_
  refine z_isub dX11_chance_46 ?_
  obtain ⟨v, τ, hc, h⟩ := bnl_e h
  refine z_callS (M' := m_X11_ways) (As := [.int (s1), .int (s0), .int (x3), .int (360 - x3)]) (rest := []) kl_11_311 oy_X11_ways ⟨Nat.le_of_ble_eq_true rfl, Nat.le_of_ble_eq_true rfl⟩ rfl (Nat.le_of_ble_eq_true rfl) rfl dX11_chance_47 (c_X11_ways hc) (fun v2 τ2 hq => ?_)
  obtain ⟨rfl, rfl⟩ := hq
  change Z _ _ _ _ _ [.long (v)] _
  refine Z.lv [] rfl ?_
  exact zb_X11_chance_50 h
def F_X11_chance (x1 : Int32) (x2 : Int32) (σ : Mm) : Option (Int64 × Mm) := (if (f_X11_isDegree x1) = 0 then some ((-1), σ) else (if x2 < 0 then some ((-1), σ) else (if x2 ≤ 20 then (bnd (F_X11_near_w x1 x2 σ) (fun v τ => (F_X11_chance_41 ((2 * x2) + 1) v (mA σ 0 0 0 12) τ))) else some ((-1), σ))))
set_option maxRecDepth 20000 in
theorem zb_X11_chance {S : Shp} {x1 : Int32} {x2 : Int32} {σ : Mm} {r : Int64 × Mm} (h : F_X11_chance x1 x2 σ = some r) : Z m_X11_chance S (Ql r) 0 [(0, .ref (sL S 0 0 0)), (1, .int (x1)), (2, .int (x2))] [] σ := by
  unfold F_X11_chance at h
  refine z_iload_n dX11_chance_0 rfl 1 rfl ?_
  refine z_callS (M' := m_X11_isDegree) (As := [.int (x1)]) (rest := []) kl_11_180 oy_X11_isDegree ⟨Nat.le_of_ble_eq_true rfl, Nat.le_of_ble_eq_true rfl⟩ rfl (Nat.le_of_ble_eq_true rfl) rfl dX11_chance_1 (c_X11_isDegree rfl) (fun v τ hq => ?_)
  obtain ⟨rfl, rfl⟩ := hq
  change Z _ _ _ _ _ [.int (f_X11_isDegree x1)] _
  refine z_if_eq (tgt := 17) dX11_chance_4 (by decide) (fun q => ?_) (fun q => ?_)
  · have h := (if_pos q).symm.trans h
    refine z_ldc2 qw_1025 dX11_chance_17 ?_
    cases h
    exact z_lreturn dX11_chance_20 rfl ⟨rfl, rfl⟩
  · have h := (if_neg q).symm.trans h
    refine z_iload_n dX11_chance_7 rfl 2 rfl ?_
    refine z_if_lt (tgt := 17) dX11_chance_8 (by decide) (fun q => ?_) (fun q => ?_)
    · have h := (if_pos q).symm.trans h
      refine z_ldc2 qw_1025 dX11_chance_17 ?_
      cases h
      exact z_lreturn dX11_chance_20 rfl ⟨rfl, rfl⟩
    · have h := (if_neg q).symm.trans h
      refine z_iload_n dX11_chance_11 rfl 2 rfl ?_
      refine z_bipush (v := 20) dX11_chance_12 (by decide) ?_
      refine z_icmp_le (tgt := 21) dX11_chance_14 (by decide) (fun q => ?_) (fun q => ?_)
      · have h := (if_pos q).symm.trans h
        refine z_iconst (v := 2) dX11_chance_21 (by decide) ?_
        refine z_iload_n dX11_chance_22 rfl 2 rfl ?_
        refine z_imul dX11_chance_23 ?_
        refine z_iconst (v := 1) dX11_chance_24 (by decide) ?_
        refine z_iadd dX11_chance_25 ?_
        refine z_istore_n dX11_chance_26 rfl (by decide) [1, 2, 3, 0] rfl ?_
        refine z_aload_n dX11_chance_27 rfl 0 rfl ?_
        refine gf_11_85 rfl dX11_chance_28 ?_
        refine z_aload_n dX11_chance_31 rfl 0 rfl ?_
        refine z_iload_n dX11_chance_32 rfl 1 rfl ?_
        refine z_iload_n dX11_chance_33 rfl 2 rfl ?_
        refine z_aload_n dX11_chance_34 rfl 0 rfl ?_
        refine gf_11_89 rfl dX11_chance_35 ?_
        obtain ⟨v, τ, hc, h⟩ := bnd_e h
        refine z_callV (M' := m_X11_near) (t := 0) (i := 0) (k := 0) (As := [.int (x1), .int (x2), .ref (sL S 0 0 3)]) (rest := [.int (mA σ 0 0 0 12)]) kl_11_306 oy_X11_near ⟨Nat.le_of_ble_eq_true rfl, Nat.le_of_ble_eq_true rfl⟩ rfl rfl rfl rfl (Nat.le_of_ble_eq_true rfl) rfl dX11_chance_38 (c_X11_near_w hc) (fun v2 τ2 hq => ?_)
        obtain ⟨rfl, rfl⟩ := hq
        change Z _ _ _ _ _ [.int (v), .int (mA σ 0 0 0 12)] _
        refine Z.lv [3] rfl ?_
        exact zb_X11_chance_41 h
      · have h := (if_neg q).symm.trans h
        refine z_ldc2 qw_1025 dX11_chance_17 ?_
        cases h
        exact z_lreturn dX11_chance_20 rfl ⟨rfl, rfl⟩
/-- SkyStones.chance(II)J -/
theorem c_X11_chance {S : Shp} {x1 : Int32} {x2 : Int32} {σ : Mm} {r : Int64 × Mm} (h : F_X11_chance x1 x2 σ = some r) : Ct m_X11_chance S [.ref (sL S 0 0 0), .int (x1), .int (x2)] σ (Ql r) := Ct.of (by decide) (Nat.le_of_ble_eq_true rfl) (zb_X11_chance h)
def F_X11_clear (σ : Mm) : Option (Int32 × Mm) := some (mA σ 0 0 0 12, setA σ 0 0 0 (upd (mA σ 0 0 0) 12 0))
set_option maxRecDepth 20000 in
theorem zb_X11_clear {S : Shp} {σ : Mm} {r : Int32 × Mm} (h : F_X11_clear σ = some r) : Z m_X11_clear S (Qi r) 0 [(0, .ref (sL S 0 0 0))] [] σ := by
  unfold F_X11_clear at h
  refine z_aload_n dX11_clear_0 rfl 0 rfl ?_
  refine gf_11_85 rfl dX11_clear_1 ?_
  refine z_istore_n dX11_clear_4 rfl (by decide) [1, 0] rfl ?_
  refine z_aload_n dX11_clear_5 rfl 0 rfl ?_
  refine z_iconst (v := 0) dX11_clear_6 (by decide) ?_
  refine pf_11_85 rfl dX11_clear_7 ?_
  refine z_iload_n dX11_clear_10 rfl 1 rfl ?_
  cases h
  exact z_ireturn dX11_clear_11 rfl rfl ⟨rfl, rfl⟩
/-- SkyStones.clear()I -/
theorem c_X11_clear {S : Shp} {σ : Mm} {r : Int32 × Mm} (h : F_X11_clear σ = some r) : Ct m_X11_clear S [.ref (sL S 0 0 0)] σ (Qi r) := Ct.of (by decide) (Nat.le_of_ble_eq_true rfl) (zb_X11_clear h)
def f_X11_thingsInAll (σ : Mm) : Int32 := (mA σ 1 (mP σ 0) 0 1) + (mA σ 2 0 0 1)
set_option maxRecDepth 20000 in
theorem zb_X11_thingsInAll {S : Shp} {σ : Mm} {r : Int32} (hp : okP σ = true) (h : f_X11_thingsInAll σ = r) : Z m_X11_thingsInAll S (Qi (r, σ)) 0 [(0, .ref (sL S 0 0 0))] [] σ := by
  unfold f_X11_thingsInAll at h
  refine z_aload_n dX11_thingsInAll_0 rfl 0 rfl ?_
  refine gf_11_19 rfl dX11_thingsInAll_1 ?_
  refine gf_11_359 (lv1 (okP_0 hp) rfl) rfl dX11_thingsInAll_4 ?_
  refine z_aload_n dX11_thingsInAll_7 rfl 0 rfl ?_
  refine gf_11_38 rfl dX11_thingsInAll_8 ?_
  refine gf_11_143 (rfl) rfl dX11_thingsInAll_11 ?_
  refine z_iadd dX11_thingsInAll_14 ?_
  subst h
  exact z_ireturn dX11_thingsInAll_15 rfl rfl ⟨rfl, rfl⟩
/-- SkyStones.thingsInAll()I -/
theorem c_X11_thingsInAll {S : Shp} {σ : Mm} {r : Int32} (hp : okP σ = true) (h : f_X11_thingsInAll σ = r) : Ct m_X11_thingsInAll S [.ref (sL S 0 0 0)] σ (Qi (r, σ)) := Ct.of (by decide) (Nat.le_of_ble_eq_true rfl) (zb_X11_thingsInAll hp h)
def f_X11_counts (x1 : Int32) (x2 : Int32) (x3 : Int32) (x4 : Int32) (x5 : Int32) (σ : Mm) : Int32 := (if x1 < 1 then (-1) else (if 100 < x1 then (-1) else (if x2 < 1 then (-1) else (if 100 < x2 then (-1) else (if x3 < 1 then (-1) else (if x3 ≤ 100 then (if x4 < 1 then (-1) else (if 9999 < x4 then (-1) else (if x5 < 0 then (-1) else (if x5 ≤ 99 then (if (x5 * x2) < (f_J9_abs_0f7a4 ((x1 * x3) - (x4 * x2))) then 0 else 1) else (-1))))) else (-1)))))))
set_option maxRecDepth 20000 in
theorem zb_X11_counts {S : Shp} {x1 : Int32} {x2 : Int32} {x3 : Int32} {x4 : Int32} {x5 : Int32} {σ : Mm} {r : Int32} (hp : okP σ = true) (h : f_X11_counts x1 x2 x3 x4 x5 σ = r) : Z m_X11_counts S (Qi (r, σ)) 0 [(0, .ref (sL S 0 0 0)), (1, .int (x1)), (2, .int (x2)), (3, .int (x3)), (4, .int (x4)), (5, .int (x5))] [] σ := by
  unfold f_X11_counts at h
  refine z_iload_n dX11_counts_0 rfl 1 rfl ?_
  refine z_iconst (v := 1) dX11_counts_1 (by decide) ?_
  refine z_icmp_lt (tgt := 33) dX11_counts_2 (by decide) (fun q => ?_) (fun q => ?_)
  · have h := (if_pos q).symm.trans h
    refine z_iconst (v := (-1)) dX11_counts_33 (by decide) ?_
    subst h
    exact z_ireturn dX11_counts_34 rfl rfl ⟨rfl, rfl⟩
  · have h := (if_neg q).symm.trans h
    refine z_iload_n dX11_counts_5 rfl 1 rfl ?_
    refine z_bipush (v := 100) dX11_counts_6 (by decide) ?_
    refine z_icmp_gt (tgt := 33) dX11_counts_8 (by decide) (fun q => ?_) (fun q => ?_)
    · have h := (if_pos q).symm.trans h
      refine z_iconst (v := (-1)) dX11_counts_33 (by decide) ?_
      subst h
      exact z_ireturn dX11_counts_34 rfl rfl ⟨rfl, rfl⟩
    · have h := (if_neg q).symm.trans h
      refine z_iload_n dX11_counts_11 rfl 2 rfl ?_
      refine z_iconst (v := 1) dX11_counts_12 (by decide) ?_
      refine z_icmp_lt (tgt := 33) dX11_counts_13 (by decide) (fun q => ?_) (fun q => ?_)
      · have h := (if_pos q).symm.trans h
        refine z_iconst (v := (-1)) dX11_counts_33 (by decide) ?_
        subst h
        exact z_ireturn dX11_counts_34 rfl rfl ⟨rfl, rfl⟩
      · have h := (if_neg q).symm.trans h
        refine z_iload_n dX11_counts_16 rfl 2 rfl ?_
        refine z_bipush (v := 100) dX11_counts_17 (by decide) ?_
        refine z_icmp_gt (tgt := 33) dX11_counts_19 (by decide) (fun q => ?_) (fun q => ?_)
        · have h := (if_pos q).symm.trans h
          refine z_iconst (v := (-1)) dX11_counts_33 (by decide) ?_
          subst h
          exact z_ireturn dX11_counts_34 rfl rfl ⟨rfl, rfl⟩
        · have h := (if_neg q).symm.trans h
          refine z_iload_n dX11_counts_22 rfl 3 rfl ?_
          refine z_iconst (v := 1) dX11_counts_23 (by decide) ?_
          refine z_icmp_lt (tgt := 33) dX11_counts_24 (by decide) (fun q => ?_) (fun q => ?_)
          · have h := (if_pos q).symm.trans h
            refine z_iconst (v := (-1)) dX11_counts_33 (by decide) ?_
            subst h
            exact z_ireturn dX11_counts_34 rfl rfl ⟨rfl, rfl⟩
          · have h := (if_neg q).symm.trans h
            refine z_iload_n dX11_counts_27 rfl 3 rfl ?_
            refine z_bipush (v := 100) dX11_counts_28 (by decide) ?_
            refine z_icmp_le (tgt := 35) dX11_counts_30 (by decide) (fun q => ?_) (fun q => ?_)
            · have h := (if_pos q).symm.trans h
              refine z_iload dX11_counts_35 4 rfl ?_
              refine z_iconst (v := 1) dX11_counts_37 (by decide) ?_
              refine z_icmp_lt (tgt := 61) dX11_counts_38 (by decide) (fun q => ?_) (fun q => ?_)
              · have h := (if_pos q).symm.trans h
                refine z_iconst (v := (-1)) dX11_counts_61 (by decide) ?_
                subst h
                exact z_ireturn dX11_counts_62 rfl rfl ⟨rfl, rfl⟩
              · have h := (if_neg q).symm.trans h
                refine z_iload dX11_counts_41 4 rfl ?_
                refine z_sipush (v := 9999) dX11_counts_43 (by decide) ?_
                refine z_icmp_gt (tgt := 61) dX11_counts_46 (by decide) (fun q => ?_) (fun q => ?_)
                · have h := (if_pos q).symm.trans h
                  refine z_iconst (v := (-1)) dX11_counts_61 (by decide) ?_
                  subst h
                  exact z_ireturn dX11_counts_62 rfl rfl ⟨rfl, rfl⟩
                · have h := (if_neg q).symm.trans h
                  refine z_iload dX11_counts_49 5 rfl ?_
                  refine z_if_lt (tgt := 61) dX11_counts_51 (by decide) (fun q => ?_) (fun q => ?_)
                  · have h := (if_pos q).symm.trans h
                    refine z_iconst (v := (-1)) dX11_counts_61 (by decide) ?_
                    subst h
                    exact z_ireturn dX11_counts_62 rfl rfl ⟨rfl, rfl⟩
                  · have h := (if_neg q).symm.trans h
                    refine z_iload dX11_counts_54 5 rfl ?_
                    refine z_bipush (v := 99) dX11_counts_56 (by decide) ?_
                    refine z_icmp_le (tgt := 63) dX11_counts_58 (by decide) (fun q => ?_) (fun q => ?_)
                    · have h := (if_pos q).symm.trans h
                      refine z_iload_n dX11_counts_63 rfl 1 rfl ?_
                      refine z_iload_n dX11_counts_64 rfl 3 rfl ?_
                      refine z_imul dX11_counts_65 ?_
                      refine z_iload dX11_counts_66 4 rfl ?_
                      refine z_iload_n dX11_counts_68 rfl 2 rfl ?_
                      refine z_imul dX11_counts_69 ?_
                      refine z_isub dX11_counts_70 ?_
                      refine z_callS (M' := m_J9_abs_0f7a4) (As := [.int ((x1 * x3) - (x4 * x2))]) (rest := []) kl_11_333 oy_J9_abs_0f7a4 ⟨Nat.le_of_ble_eq_true rfl, Nat.le_of_ble_eq_true rfl⟩ rfl (Nat.le_of_ble_eq_true rfl) rfl dX11_counts_71 (c_J9_abs_0f7a4 rfl) (fun v τ hq => ?_)
                      obtain ⟨rfl, rfl⟩ := hq
                      change Z _ _ _ _ _ [.int (f_J9_abs_0f7a4 ((x1 * x3) - (x4 * x2)))] _
                      refine z_iload dX11_counts_74 5 rfl ?_
                      refine z_iload_n dX11_counts_76 rfl 2 rfl ?_
                      refine z_imul dX11_counts_77 ?_
                      refine z_icmp_gt (tgt := 85) dX11_counts_78 (by decide) (fun q => ?_) (fun q => ?_)
                      · have h := (if_pos q).symm.trans h
                        refine z_iconst (v := 0) dX11_counts_85 (by decide) ?_
                        subst h
                        exact z_ireturn dX11_counts_86 rfl rfl ⟨rfl, rfl⟩
                      · have h := (if_neg q).symm.trans h
                        refine z_iconst (v := 1) dX11_counts_81 (by decide) ?_
                        refine z_goto (tgt := 86) dX11_counts_82 (by decide) ?_
                        subst h
                        exact z_ireturn dX11_counts_86 rfl rfl ⟨rfl, rfl⟩
                    · have h := (if_neg q).symm.trans h
                      refine z_iconst (v := (-1)) dX11_counts_61 (by decide) ?_
                      subst h
                      exact z_ireturn dX11_counts_62 rfl rfl ⟨rfl, rfl⟩
            · have h := (if_neg q).symm.trans h
              refine z_iconst (v := (-1)) dX11_counts_33 (by decide) ?_
              subst h
              exact z_ireturn dX11_counts_34 rfl rfl ⟨rfl, rfl⟩
/-- SkyStones.counts(IIIII)I -/
theorem c_X11_counts {S : Shp} {x1 : Int32} {x2 : Int32} {x3 : Int32} {x4 : Int32} {x5 : Int32} {σ : Mm} {r : Int32} (hp : okP σ = true) (h : f_X11_counts x1 x2 x3 x4 x5 σ = r) : Ct m_X11_counts S [.ref (sL S 0 0 0), .int (x1), .int (x2), .int (x3), .int (x4), .int (x5)] σ (Qi (r, σ)) := Ct.of (by decide) (Nat.le_of_ble_eq_true rfl) (zb_X11_counts hp h)
def f_X11_isAge (x0 : Int32) : Int32 := (if x0 < 0 then 0 else (if 9999 < x0 then 0 else 1))
set_option maxRecDepth 20000 in
theorem zb_X11_isAge {S : Shp} {x0 : Int32} {σ : Mm} {r : Int32} (h : f_X11_isAge x0 = r) : Z m_X11_isAge S (Qi (r, σ)) 0 [(0, .int (x0))] [] σ := by
  unfold f_X11_isAge at h
  refine z_iload_n dX11_isAge_0 rfl 0 rfl ?_
  refine z_if_lt (tgt := 15) dX11_isAge_1 (by decide) (fun q => ?_) (fun q => ?_)
  · have h := (if_pos q).symm.trans h
    refine z_iconst (v := 0) dX11_isAge_15 (by decide) ?_
    subst h
    exact z_ireturn dX11_isAge_16 rfl rfl ⟨rfl, rfl⟩
  · have h := (if_neg q).symm.trans h
    refine z_iload_n dX11_isAge_4 rfl 0 rfl ?_
    refine z_sipush (v := 9999) dX11_isAge_5 (by decide) ?_
    refine z_icmp_gt (tgt := 15) dX11_isAge_8 (by decide) (fun q => ?_) (fun q => ?_)
    · have h := (if_pos q).symm.trans h
      refine z_iconst (v := 0) dX11_isAge_15 (by decide) ?_
      subst h
      exact z_ireturn dX11_isAge_16 rfl rfl ⟨rfl, rfl⟩
    · have h := (if_neg q).symm.trans h
      refine z_iconst (v := 1) dX11_isAge_11 (by decide) ?_
      refine z_goto (tgt := 16) dX11_isAge_12 (by decide) ?_
      subst h
      exact z_ireturn dX11_isAge_16 rfl rfl ⟨rfl, rfl⟩
/-- SkyStones.isAge(I)Z -/
theorem c_X11_isAge {S : Shp} {x0 : Int32} {σ : Mm} {r : Int32} (h : f_X11_isAge x0 = r) : Ct m_X11_isAge S [.int (x0)] σ (Qi (r, σ)) := Ct.of (by decide) (Nat.le_of_ble_eq_true rfl) (zb_X11_isAge h)
def f_X11_isThing (x1 : Int32) (σ : Mm) : Int32 := (if x1 < 0 then 0 else (if (f_X11_thingsInAll σ) ≤ x1 then 0 else (if 14 ≤ x1 then 0 else 1)))
set_option maxRecDepth 20000 in
theorem zb_X11_isThing {S : Shp} {x1 : Int32} {σ : Mm} {r : Int32} (hp : okP σ = true) (h : f_X11_isThing x1 σ = r) : Z m_X11_isThing S (Qi (r, σ)) 0 [(0, .ref (sL S 0 0 0)), (1, .int (x1))] [] σ := by
  unfold f_X11_isThing at h
  refine z_iload_n dX11_isThing_0 rfl 1 rfl ?_
  refine z_if_lt (tgt := 22) dX11_isThing_1 (by decide) (fun q => ?_) (fun q => ?_)
  · have h := (if_pos q).symm.trans h
    refine z_iconst (v := 0) dX11_isThing_22 (by decide) ?_
    subst h
    exact z_ireturn dX11_isThing_23 rfl rfl ⟨rfl, rfl⟩
  · have h := (if_neg q).symm.trans h
    refine z_iload_n dX11_isThing_4 rfl 1 rfl ?_
    refine z_aload_n dX11_isThing_5 rfl 0 rfl ?_
    refine z_callV (M' := m_X11_thingsInAll) (t := 0) (i := 0) (k := 0) (As := []) (rest := [.int (x1)]) kl_11_124 oy_X11_thingsInAll ⟨Nat.le_of_ble_eq_true rfl, Nat.le_of_ble_eq_true rfl⟩ rfl rfl rfl rfl (Nat.le_of_ble_eq_true rfl) rfl dX11_isThing_6 (c_X11_thingsInAll hp rfl) (fun v τ hq => ?_)
    obtain ⟨rfl, rfl⟩ := hq
    change Z _ _ _ _ _ [.int (f_X11_thingsInAll σ), .int (x1)] _
    refine z_icmp_ge (tgt := 22) dX11_isThing_9 (by decide) (fun q => ?_) (fun q => ?_)
    · have h := (if_pos q).symm.trans h
      refine z_iconst (v := 0) dX11_isThing_22 (by decide) ?_
      subst h
      exact z_ireturn dX11_isThing_23 rfl rfl ⟨rfl, rfl⟩
    · have h := (if_neg q).symm.trans h
      refine z_iload_n dX11_isThing_12 rfl 1 rfl ?_
      refine z_bipush (v := 14) dX11_isThing_13 (by decide) ?_
      refine z_icmp_ge (tgt := 22) dX11_isThing_15 (by decide) (fun q => ?_) (fun q => ?_)
      · have h := (if_pos q).symm.trans h
        refine z_iconst (v := 0) dX11_isThing_22 (by decide) ?_
        subst h
        exact z_ireturn dX11_isThing_23 rfl rfl ⟨rfl, rfl⟩
      · have h := (if_neg q).symm.trans h
        refine z_iconst (v := 1) dX11_isThing_18 (by decide) ?_
        refine z_goto (tgt := 23) dX11_isThing_19 (by decide) ?_
        subst h
        exact z_ireturn dX11_isThing_23 rfl rfl ⟨rfl, rfl⟩
/-- SkyStones.isThing(I)Z -/
theorem c_X11_isThing {S : Shp} {x1 : Int32} {σ : Mm} {r : Int32} (hp : okP σ = true) (h : f_X11_isThing x1 σ = r) : Ct m_X11_isThing S [.ref (sL S 0 0 0), .int (x1)] σ (Qi (r, σ)) := Ct.of (by decide) (Nat.le_of_ble_eq_true rfl) (zb_X11_isThing hp h)
def F_X11_date_29 (s0 : Int32) (σ : Mm) : Option (Int32 × Mm) := some (s0, σ)
set_option maxRecDepth 20000 in
theorem zb_X11_date_29 {S : Shp} {s0 : Int32} {σ : Mm} {r : Int32 × Mm} (h : F_X11_date_29 s0 σ = some r) : Z m_X11_date S (Qi r) 29 [] [.int (s0)] σ := by
  unfold F_X11_date_29 at h
  cases h
  exact z_ireturn dX11_date_29 rfl rfl ⟨rfl, rfl⟩
def F_X11_date (x1 : Int32) (x2 : Int32) (σ : Mm) : Option (Int32 × Mm) := (if okP σ = true then (if (f_X11_isThing x1 σ) = 0 then some ((-1), σ) else (if (f_X11_isAge x2) = 0 then some ((-1), σ) else (bnd (F_X7_note 0 3 x1 0 0 x2 σ) (fun v τ => (F_X11_date_29 v τ))))) else none)
set_option maxRecDepth 20000 in
theorem zb_X11_date {S : Shp} {x1 : Int32} {x2 : Int32} {σ : Mm} {r : Int32 × Mm} (h : F_X11_date x1 x2 σ = some r) : Z m_X11_date S (Qi r) 0 [(0, .ref (sL S 0 0 0)), (1, .int (x1)), (2, .int (x2))] [] σ := by
  unfold F_X11_date at h
  obtain ⟨g1, h⟩ := gd h
  refine z_aload_n dX11_date_0 rfl 0 rfl ?_
  refine z_iload_n dX11_date_1 rfl 1 rfl ?_
  have hp := g1
  refine z_callV (M' := m_X11_isThing) (t := 0) (i := 0) (k := 0) (As := [.int (x1)]) (rest := []) kl_11_146 oy_X11_isThing ⟨Nat.le_of_ble_eq_true rfl, Nat.le_of_ble_eq_true rfl⟩ rfl rfl rfl rfl (Nat.le_of_ble_eq_true rfl) rfl dX11_date_2 (c_X11_isThing hp rfl) (fun v τ hq => ?_)
  obtain ⟨rfl, rfl⟩ := hq
  change Z _ _ _ _ _ [.int (f_X11_isThing x1 σ)] _
  refine z_if_eq (tgt := 15) dX11_date_5 (by decide) (fun q => ?_) (fun q => ?_)
  · have h := (if_pos q).symm.trans h
    refine z_iconst (v := (-1)) dX11_date_15 (by decide) ?_
    cases h
    exact z_ireturn dX11_date_16 rfl rfl ⟨rfl, rfl⟩
  · have h := (if_neg q).symm.trans h
    refine z_iload_n dX11_date_8 rfl 2 rfl ?_
    refine z_callS (M' := m_X11_isAge) (As := [.int (x2)]) (rest := []) kl_11_135 oy_X11_isAge ⟨Nat.le_of_ble_eq_true rfl, Nat.le_of_ble_eq_true rfl⟩ rfl (Nat.le_of_ble_eq_true rfl) rfl dX11_date_9 (c_X11_isAge rfl) (fun v τ hq => ?_)
    obtain ⟨rfl, rfl⟩ := hq
    change Z _ _ _ _ _ [.int (f_X11_isAge x2)] _
    refine z_if_ne (tgt := 17) dX11_date_12 (by decide) (fun q => ?_) (fun q => ?_)
    · have h := (if_neg q).symm.trans h
      refine z_aload_n dX11_date_17 rfl 0 rfl ?_
      refine gf_11_38 rfl dX11_date_18 ?_
      refine z_iconst (v := 3) dX11_date_21 (by decide) ?_
      refine z_iload_n dX11_date_22 rfl 1 rfl ?_
      refine z_iconst (v := 0) dX11_date_23 (by decide) ?_
      refine z_iconst (v := 0) dX11_date_24 (by decide) ?_
      refine z_iload_n dX11_date_25 rfl 2 rfl ?_
      obtain ⟨v, τ, hc, h⟩ := bnd_e h
      refine z_callV (M' := m_X7_note) (t := 2) (i := 0) (k := 0) (As := [.int (3), .int (x1), .int (0), .int (0), .int (x2)]) (rest := []) kl_11_139 oy_X7_note ⟨Nat.le_of_ble_eq_true rfl, Nat.le_of_ble_eq_true rfl⟩ rfl rfl rfl rfl (Nat.le_of_ble_eq_true rfl) rfl dX11_date_26 (c_X7_note rfl hc) (fun v2 τ2 hq => ?_)
      obtain ⟨rfl, rfl⟩ := hq
      change Z _ _ _ _ _ [.int (v)] _
      refine Z.lv [] rfl ?_
      exact zb_X11_date_29 h
    · have h := (if_pos q).symm.trans h
      refine z_iconst (v := (-1)) dX11_date_15 (by decide) ?_
      cases h
      exact z_ireturn dX11_date_16 rfl rfl ⟨rfl, rfl⟩
/-- SkyStones.date(II)I -/
theorem c_X11_date {S : Shp} {x1 : Int32} {x2 : Int32} {σ : Mm} {r : Int32 × Mm} (h : F_X11_date x1 x2 σ = some r) : Ct m_X11_date S [.ref (sL S 0 0 0), .int (x1), .int (x2)] σ (Qi r) := Ct.of (by decide) (Nat.le_of_ble_eq_true rfl) (zb_X11_date h)
def F_X11_degree_35 (s0 : Int32) (σ : Mm) : Option (Int32 × Mm) := some (s0, σ)
set_option maxRecDepth 20000 in
theorem zb_X11_degree_35 {S : Shp} {s0 : Int32} {σ : Mm} {r : Int32 × Mm} (h : F_X11_degree_35 s0 σ = some r) : Z m_X11_degree S (Qi r) 35 [] [.int (s0)] σ := by
  unfold F_X11_degree_35 at h
  cases h
  exact z_ireturn dX11_degree_35 rfl rfl ⟨rfl, rfl⟩
def F_X11_degree (x1 : Int32) (x2 : Int32) (σ : Mm) : Option (Int32 × Mm) := (if x1 < ((-9999)) then some ((-1), σ) else (if 9999 < x1 then some ((-1), σ) else (if x2 < ((-9999)) then some ((-1), σ) else (if x2 ≤ 9999 then (bnd (F_X1_bearing x1 x2 σ) (fun v τ => (F_X11_degree_35 v τ))) else some ((-1), σ)))))
set_option maxRecDepth 20000 in
theorem zb_X11_degree {S : Shp} {x1 : Int32} {x2 : Int32} {σ : Mm} {r : Int32 × Mm} (h : F_X11_degree x1 x2 σ = some r) : Z m_X11_degree S (Qi r) 0 [(0, .ref (sL S 0 0 0)), (1, .int (x1)), (2, .int (x2))] [] σ := by
  unfold F_X11_degree at h
  refine z_iload_n dX11_degree_0 rfl 1 rfl ?_
  refine z_sipush (v := (-9999)) dX11_degree_1 (by decide) ?_
  refine z_icmp_lt (tgt := 28) dX11_degree_4 (by decide) (fun q => ?_) (fun q => ?_)
  · have h := (if_pos q).symm.trans h
    refine z_iconst (v := (-1)) dX11_degree_28 (by decide) ?_
    cases h
    exact z_ireturn dX11_degree_29 rfl rfl ⟨rfl, rfl⟩
  · have h := (if_neg q).symm.trans h
    refine z_iload_n dX11_degree_7 rfl 1 rfl ?_
    refine z_sipush (v := 9999) dX11_degree_8 (by decide) ?_
    refine z_icmp_gt (tgt := 28) dX11_degree_11 (by decide) (fun q => ?_) (fun q => ?_)
    · have h := (if_pos q).symm.trans h
      refine z_iconst (v := (-1)) dX11_degree_28 (by decide) ?_
      cases h
      exact z_ireturn dX11_degree_29 rfl rfl ⟨rfl, rfl⟩
    · have h := (if_neg q).symm.trans h
      refine z_iload_n dX11_degree_14 rfl 2 rfl ?_
      refine z_sipush (v := (-9999)) dX11_degree_15 (by decide) ?_
      refine z_icmp_lt (tgt := 28) dX11_degree_18 (by decide) (fun q => ?_) (fun q => ?_)
      · have h := (if_pos q).symm.trans h
        refine z_iconst (v := (-1)) dX11_degree_28 (by decide) ?_
        cases h
        exact z_ireturn dX11_degree_29 rfl rfl ⟨rfl, rfl⟩
      · have h := (if_neg q).symm.trans h
        refine z_iload_n dX11_degree_21 rfl 2 rfl ?_
        refine z_sipush (v := 9999) dX11_degree_22 (by decide) ?_
        refine z_icmp_le (tgt := 30) dX11_degree_25 (by decide) (fun q => ?_) (fun q => ?_)
        · have h := (if_pos q).symm.trans h
          refine z_iload_n dX11_degree_30 rfl 1 rfl ?_
          refine z_iload_n dX11_degree_31 rfl 2 rfl ?_
          obtain ⟨v, τ, hc, h⟩ := bnd_e h
          refine z_callS (M' := m_X1_bearing) (As := [.int (x1), .int (x2)]) (rest := []) kl_11_174 oy_X1_bearing ⟨Nat.le_of_ble_eq_true rfl, Nat.le_of_ble_eq_true rfl⟩ rfl (Nat.le_of_ble_eq_true rfl) rfl dX11_degree_32 (c_X1_bearing hc) (fun v2 τ2 hq => ?_)
          obtain ⟨rfl, rfl⟩ := hq
          change Z _ _ _ _ _ [.int (v)] _
          refine Z.lv [] rfl ?_
          exact zb_X11_degree_35 h
        · have h := (if_neg q).symm.trans h
          refine z_iconst (v := (-1)) dX11_degree_28 (by decide) ?_
          cases h
          exact z_ireturn dX11_degree_29 rfl rfl ⟨rfl, rfl⟩
/-- SkyStones.degree(II)I -/
theorem c_X11_degree {S : Shp} {x1 : Int32} {x2 : Int32} {σ : Mm} {r : Int32 × Mm} (h : F_X11_degree x1 x2 σ = some r) : Ct m_X11_degree S [.ref (sL S 0 0 0), .int (x1), .int (x2)] σ (Qi r) := Ct.of (by decide) (Nat.le_of_ble_eq_true rfl) (zb_X11_degree h)
def F_X8_append_32 (rc3 : Int32 → Int32 → Mm → Option (Mm)) (x1 : Int32) (x2 : Int32) (σ : Mm) : Option (Mm) := (rc3 x1 (x2 + (-8)) (setA σ 0 0 6 (upd (mA σ 0 0 6) 0 ((mA σ 0 0 6 0) + 1))))
set_option maxRecDepth 20000 in
theorem zb_X8_append_32 {S : Shp} {rc3 : Int32 → Int32 → Mm → Option (Mm)} (hrc3 : ∀ {x1 : Int32} {x2 : Int32} {σ : Mm} {r : Mm}, rc3 x1 x2 σ = some r → Z m_X8_append S (Qv r) 3 [(0, .ref (sL S 0 0 6)), (1, .int (x1)), (2, .int (x2))] [] σ) {x1 : Int32} {x2 : Int32} {σ : Mm} {r : Mm} (h : F_X8_append_32 rc3 x1 x2 σ = some r) : Z m_X8_append S (Qv r) 32 [(0, .ref (sL S 0 0 6)), (1, .int (x1)), (2, .int (x2))] [.ref (sL S 0 0 6), .ref (sL S 0 0 6)] σ := by
  unfold F_X8_append_32 at h
  refine gf_8_9 rfl dX8_append_32 ?_
  refine z_iconst (v := 1) dX8_append_35 (by decide) ?_
  refine z_iadd dX8_append_36 ?_
  refine pf_8_9 rfl dX8_append_37 ?_
  refine z_iinc (j := 2) (v := x2 + (-8)) dX8_append_40 rfl rfl (by decide) [1, 2, 0] rfl ?_
  refine z_goto (tgt := 3) dX8_append_43 (by decide) ?_
  exact hrc3 h
def B_X8_append_3 (rc3 : Int32 → Int32 → Mm → Option (Mm)) (x1 : Int32) (x2 : Int32) (σ : Mm) : Option (Mm) := (if x2 < 0 then some (σ) else (if 2000 ≤ (mA σ 0 0 6 0) then some (σ) else (if inb (mA σ 0 0 6 0) 2000 = true then (F_X8_append_32 rc3 x1 x2 (setA σ 0 0 7 (upd (mA σ 0 0 7) (mA σ 0 0 6 0).toNatClampNeg (vp_nar .byte ((Int32.toInt8 (x1 >>> (x2 &&& 31))).toInt32))))) else none)))
set_option maxRecDepth 20000 in
theorem zB_X8_append_3 {S : Shp} {rc3 : Int32 → Int32 → Mm → Option (Mm)} (hrc3 : ∀ {x1 : Int32} {x2 : Int32} {σ : Mm} {r : Mm}, rc3 x1 x2 σ = some r → Z m_X8_append S (Qv r) 3 [(0, .ref (sL S 0 0 6)), (1, .int (x1)), (2, .int (x2))] [] σ) {x1 : Int32} {x2 : Int32} {σ : Mm} {r : Mm} (h : B_X8_append_3 rc3 x1 x2 σ = some r) : Z m_X8_append S (Qv r) 3 [(0, .ref (sL S 0 0 6)), (1, .int (x1)), (2, .int (x2))] [] σ := by
  unfold B_X8_append_3 at h
  refine z_iload_n dX8_append_3 rfl 2 rfl ?_
  refine z_if_lt (tgt := 46) dX8_append_4 (by decide) (fun q => ?_) (fun q => ?_)
  · have h := (if_pos q).symm.trans h
    cases h
    exact z_return dX8_append_46 rfl ⟨rfl, rfl⟩
  · have h := (if_neg q).symm.trans h
    refine z_aload_n dX8_append_7 rfl 0 rfl ?_
    refine gf_8_9 rfl dX8_append_8 ?_
    refine z_sipush (v := 2000) dX8_append_11 (by decide) ?_
    refine z_icmp_ge (tgt := 46) dX8_append_14 (by decide) (fun q => ?_) (fun q => ?_)
    · have h := (if_pos q).symm.trans h
      cases h
      exact z_return dX8_append_46 rfl ⟨rfl, rfl⟩
    · have h := (if_neg q).symm.trans h
      obtain ⟨g1, h⟩ := gd h
      refine z_aload_n dX8_append_17 rfl 0 rfl ?_
      refine gf_8_15 rfl dX8_append_18 ?_
      refine z_aload_n dX8_append_21 rfl 0 rfl ?_
      refine gf_8_9 rfl dX8_append_22 ?_
      refine z_iload_n dX8_append_25 rfl 1 rfl ?_
      refine z_iload_n dX8_append_26 rfl 2 rfl ?_
      refine z_ishr dX8_append_27 ?_
      refine z_i2b dX8_append_28 ?_
      refine is_0_7 (inb_in g1) dX8_append_29 ?_
      refine z_aload_n dX8_append_30 rfl 0 rfl ?_
      refine z_dup dX8_append_31 rfl ?_
      exact zb_X8_append_32 hrc3 h
def F_X8_append_3 : Nat → Int32 → Int32 → Mm → Option (Mm)
  | 0 => fun _ _ _ => none
  | n + 1 => B_X8_append_3 (F_X8_append_3 n)
theorem zl_X8_append_3 {S : Shp} (n : Nat) {x1 : Int32} {x2 : Int32} {σ : Mm} {r : Mm} (h : F_X8_append_3 n x1 x2 σ = some r) : Z m_X8_append S (Qv r) 3 [(0, .ref (sL S 0 0 6)), (1, .int (x1)), (2, .int (x2))] [] σ := by
  induction n generalizing x1 x2 σ r with
  | zero => cases h
  | succ n ih => exact zB_X8_append_3 (fun h => ih h) h
def F_X8_append (x1 : Int32) (σ : Mm) : Option (Mm) := (F_X8_append_3 FU x1 24 σ)
set_option maxRecDepth 20000 in
theorem zb_X8_append {S : Shp} {x1 : Int32} {σ : Mm} {r : Mm} (h : F_X8_append x1 σ = some r) : Z m_X8_append S (Qv r) 0 [(0, .ref (sL S 0 0 6)), (1, .int (x1))] [] σ := by
  unfold F_X8_append at h
  refine z_bipush (v := 24) dX8_append_0 (by decide) ?_
  refine z_istore_n dX8_append_2 rfl (by decide) [1, 2, 0] rfl ?_
  exact zl_X8_append_3 FU h
/-- SkyStones$Tape.append(I)V -/
theorem c_X8_append {S : Shp} {x1 : Int32} {σ : Mm} {r : Mm} (h : F_X8_append x1 σ = some r) : Ct m_X8_append S [.ref (sL S 0 0 6), .int (x1)] σ (Qv r) := Ct.of (by decide) (Nat.le_of_ble_eq_true rfl) (zb_X8_append h)
def F_X11_feed_60 (σ : Mm) : Option (Int32 × Mm) := some (mA σ 0 0 6 0, σ)
set_option maxRecDepth 20000 in
theorem zb_X11_feed_60 {S : Shp} {σ : Mm} {r : Int32 × Mm} (h : F_X11_feed_60 σ = some r) : Z m_X11_feed S (Qi r) 60 [(0, .ref (sL S 0 0 0))] [] σ := by
  unfold F_X11_feed_60 at h
  refine z_aload_n dX11_feed_60 rfl 0 rfl ?_
  refine gf_11_12 rfl dX11_feed_61 ?_
  refine gf_11_100 rfl dX11_feed_64 ?_
  cases h
  exact z_ireturn dX11_feed_67 rfl rfl ⟨rfl, rfl⟩
def F_X11_feed_51 (x5 : Int32) (σ : Mm) : Option (Int32 × Mm) := (bnv (F_X8_append x5 σ) (fun τ => (F_X11_feed_60 τ)))
set_option maxRecDepth 20000 in
theorem zb_X11_feed_51 {S : Shp} {x5 : Int32} {σ : Mm} {r : Int32 × Mm} (h : F_X11_feed_51 x5 σ = some r) : Z m_X11_feed S (Qi r) 51 [(0, .ref (sL S 0 0 0)), (5, .int (x5))] [] σ := by
  unfold F_X11_feed_51 at h
  refine z_aload_n dX11_feed_51 rfl 0 rfl ?_
  refine gf_11_12 rfl dX11_feed_52 ?_
  refine z_iload dX11_feed_55 1 rfl ?_
  obtain ⟨τ, hc, h⟩ := bnv_e h
  refine z_callV (M' := m_X8_append) (t := 0) (i := 0) (k := 6) (As := [.int (x5)]) (rest := []) kl_11_103 oy_X8_append ⟨Nat.le_of_ble_eq_true rfl, Nat.le_of_ble_eq_true rfl⟩ rfl rfl rfl rfl (Nat.le_of_ble_eq_true rfl) rfl dX11_feed_57 (c_X8_append hc) (fun v2 τ2 hq => ?_)
  obtain ⟨rfl, rfl⟩ := hq
  change Z _ _ _ _ _ [] _
  refine Z.lv [0] rfl ?_
  exact zb_X11_feed_60 h
def F_X11_feed_42 (x4 : Int32) (x5 : Int32) (σ : Mm) : Option (Int32 × Mm) := (bnv (F_X8_append x4 σ) (fun τ => (F_X11_feed_51 x5 τ)))
set_option maxRecDepth 20000 in
theorem zb_X11_feed_42 {S : Shp} {x4 : Int32} {x5 : Int32} {σ : Mm} {r : Int32 × Mm} (h : F_X11_feed_42 x4 x5 σ = some r) : Z m_X11_feed S (Qi r) 42 [(0, .ref (sL S 0 0 0)), (4, .int (x4)), (5, .int (x5))] [] σ := by
  unfold F_X11_feed_42 at h
  refine z_aload_n dX11_feed_42 rfl 0 rfl ?_
  refine gf_11_12 rfl dX11_feed_43 ?_
  refine z_iload dX11_feed_46 1 rfl ?_
  obtain ⟨τ, hc, h⟩ := bnv_e h
  refine z_callV (M' := m_X8_append) (t := 0) (i := 0) (k := 6) (As := [.int (x4)]) (rest := []) kl_11_103 oy_X8_append ⟨Nat.le_of_ble_eq_true rfl, Nat.le_of_ble_eq_true rfl⟩ rfl rfl rfl rfl (Nat.le_of_ble_eq_true rfl) rfl dX11_feed_48 (c_X8_append hc) (fun v2 τ2 hq => ?_)
  obtain ⟨rfl, rfl⟩ := hq
  change Z _ _ _ _ _ [] _
  refine Z.lv [0, 2] rfl ?_
  exact zb_X11_feed_51 h
def F_X11_feed_34 (x3 : Int32) (x4 : Int32) (x5 : Int32) (σ : Mm) : Option (Int32 × Mm) := (bnv (F_X8_append x3 σ) (fun τ => (F_X11_feed_42 x4 x5 τ)))
set_option maxRecDepth 20000 in
theorem zb_X11_feed_34 {S : Shp} {x3 : Int32} {x4 : Int32} {x5 : Int32} {σ : Mm} {r : Int32 × Mm} (h : F_X11_feed_34 x3 x4 x5 σ = some r) : Z m_X11_feed S (Qi r) 34 [(0, .ref (sL S 0 0 0)), (3, .int (x3)), (4, .int (x4)), (5, .int (x5))] [] σ := by
  unfold F_X11_feed_34 at h
  refine z_aload_n dX11_feed_34 rfl 0 rfl ?_
  refine gf_11_12 rfl dX11_feed_35 ?_
  refine z_iload_n dX11_feed_38 rfl 1 rfl ?_
  obtain ⟨τ, hc, h⟩ := bnv_e h
  refine z_callV (M' := m_X8_append) (t := 0) (i := 0) (k := 6) (As := [.int (x3)]) (rest := []) kl_11_103 oy_X8_append ⟨Nat.le_of_ble_eq_true rfl, Nat.le_of_ble_eq_true rfl⟩ rfl rfl rfl rfl (Nat.le_of_ble_eq_true rfl) rfl dX11_feed_39 (c_X8_append hc) (fun v2 τ2 hq => ?_)
  obtain ⟨rfl, rfl⟩ := hq
  change Z _ _ _ _ _ [] _
  refine Z.lv [0, 2, 3] rfl ?_
  exact zb_X11_feed_42 h
def F_X11_feed_26 (x2 : Int32) (x3 : Int32) (x4 : Int32) (x5 : Int32) (σ : Mm) : Option (Int32 × Mm) := (bnv (F_X8_append x2 σ) (fun τ => (F_X11_feed_34 x3 x4 x5 τ)))
set_option maxRecDepth 20000 in
theorem zb_X11_feed_26 {S : Shp} {x2 : Int32} {x3 : Int32} {x4 : Int32} {x5 : Int32} {σ : Mm} {r : Int32 × Mm} (h : F_X11_feed_26 x2 x3 x4 x5 σ = some r) : Z m_X11_feed S (Qi r) 26 [(0, .ref (sL S 0 0 0)), (2, .int (x2)), (3, .int (x3)), (4, .int (x4)), (5, .int (x5))] [] σ := by
  unfold F_X11_feed_26 at h
  refine z_aload_n dX11_feed_26 rfl 0 rfl ?_
  refine gf_11_12 rfl dX11_feed_27 ?_
  refine z_iload_n dX11_feed_30 rfl 1 rfl ?_
  obtain ⟨τ, hc, h⟩ := bnv_e h
  refine z_callV (M' := m_X8_append) (t := 0) (i := 0) (k := 6) (As := [.int (x2)]) (rest := []) kl_11_103 oy_X8_append ⟨Nat.le_of_ble_eq_true rfl, Nat.le_of_ble_eq_true rfl⟩ rfl rfl rfl rfl (Nat.le_of_ble_eq_true rfl) rfl dX11_feed_31 (c_X8_append hc) (fun v2 τ2 hq => ?_)
  obtain ⟨rfl, rfl⟩ := hq
  change Z _ _ _ _ _ [] _
  refine Z.lv [0, 2, 3, 4] rfl ?_
  exact zb_X11_feed_34 h
def F_X11_feed (x1 : Int32) (x2 : Int32) (x3 : Int32) (x4 : Int32) (x5 : Int32) (σ : Mm) : Option (Int32 × Mm) := (if ((mA σ 0 0 6 0) + 20) ≤ 2000 then (bnv (F_X8_append x1 σ) (fun τ => (F_X11_feed_26 x2 x3 x4 x5 τ))) else some ((-1), σ))
set_option maxRecDepth 20000 in
theorem zb_X11_feed {S : Shp} {x1 : Int32} {x2 : Int32} {x3 : Int32} {x4 : Int32} {x5 : Int32} {σ : Mm} {r : Int32 × Mm} (h : F_X11_feed x1 x2 x3 x4 x5 σ = some r) : Z m_X11_feed S (Qi r) 0 [(0, .ref (sL S 0 0 0)), (1, .int (x1)), (2, .int (x2)), (3, .int (x3)), (4, .int (x4)), (5, .int (x5))] [] σ := by
  unfold F_X11_feed at h
  refine z_aload_n dX11_feed_0 rfl 0 rfl ?_
  refine gf_11_12 rfl dX11_feed_1 ?_
  refine gf_11_100 rfl dX11_feed_4 ?_
  refine z_bipush (v := 20) dX11_feed_7 (by decide) ?_
  refine z_iadd dX11_feed_9 ?_
  refine z_sipush (v := 2000) dX11_feed_10 (by decide) ?_
  refine z_icmp_le (tgt := 18) dX11_feed_13 (by decide) (fun q => ?_) (fun q => ?_)
  · have h := (if_pos q).symm.trans h
    refine z_aload_n dX11_feed_18 rfl 0 rfl ?_
    refine gf_11_12 rfl dX11_feed_19 ?_
    refine z_iload_n dX11_feed_22 rfl 1 rfl ?_
    obtain ⟨τ, hc, h⟩ := bnv_e h
    refine z_callV (M' := m_X8_append) (t := 0) (i := 0) (k := 6) (As := [.int (x1)]) (rest := []) kl_11_103 oy_X8_append ⟨Nat.le_of_ble_eq_true rfl, Nat.le_of_ble_eq_true rfl⟩ rfl rfl rfl rfl (Nat.le_of_ble_eq_true rfl) rfl dX11_feed_23 (c_X8_append hc) (fun v2 τ2 hq => ?_)
    obtain ⟨rfl, rfl⟩ := hq
    change Z _ _ _ _ _ [] _
    refine Z.lv [0, 2, 3, 4, 5] rfl ?_
    exact zb_X11_feed_26 h
  · have h := (if_neg q).symm.trans h
    refine z_iconst (v := (-1)) dX11_feed_16 (by decide) ?_
    cases h
    exact z_ireturn dX11_feed_17 rfl rfl ⟨rfl, rfl⟩
/-- SkyStones.feed(IIIII)I -/
theorem c_X11_feed {S : Shp} {x1 : Int32} {x2 : Int32} {x3 : Int32} {x4 : Int32} {x5 : Int32} {σ : Mm} {r : Int32 × Mm} (h : F_X11_feed x1 x2 x3 x4 x5 σ = some r) : Ct m_X11_feed S [.ref (sL S 0 0 0), .int (x1), .int (x2), .int (x3), .int (x4), .int (x5)] σ (Qi r) := Ct.of (by decide) (Nat.le_of_ble_eq_true rfl) (zb_X11_feed h)
def f_X11_isSpot (x0 : Int32) (x1 : Int32) : Int32 := (if x0 < 0 then 0 else (if 999 < x0 then 0 else (if x1 < 0 then 0 else (if 999 < x1 then 0 else 1))))
set_option maxRecDepth 20000 in
theorem zb_X11_isSpot {S : Shp} {x0 : Int32} {x1 : Int32} {σ : Mm} {r : Int32} (h : f_X11_isSpot x0 x1 = r) : Z m_X11_isSpot S (Qi (r, σ)) 0 [(0, .int (x0)), (1, .int (x1))] [] σ := by
  unfold f_X11_isSpot at h
  refine z_iload_n dX11_isSpot_0 rfl 0 rfl ?_
  refine z_if_lt (tgt := 26) dX11_isSpot_1 (by decide) (fun q => ?_) (fun q => ?_)
  · have h := (if_pos q).symm.trans h
    refine z_iconst (v := 0) dX11_isSpot_26 (by decide) ?_
    subst h
    exact z_ireturn dX11_isSpot_27 rfl rfl ⟨rfl, rfl⟩
  · have h := (if_neg q).symm.trans h
    refine z_iload_n dX11_isSpot_4 rfl 0 rfl ?_
    refine z_sipush (v := 999) dX11_isSpot_5 (by decide) ?_
    refine z_icmp_gt (tgt := 26) dX11_isSpot_8 (by decide) (fun q => ?_) (fun q => ?_)
    · have h := (if_pos q).symm.trans h
      refine z_iconst (v := 0) dX11_isSpot_26 (by decide) ?_
      subst h
      exact z_ireturn dX11_isSpot_27 rfl rfl ⟨rfl, rfl⟩
    · have h := (if_neg q).symm.trans h
      refine z_iload_n dX11_isSpot_11 rfl 1 rfl ?_
      refine z_if_lt (tgt := 26) dX11_isSpot_12 (by decide) (fun q => ?_) (fun q => ?_)
      · have h := (if_pos q).symm.trans h
        refine z_iconst (v := 0) dX11_isSpot_26 (by decide) ?_
        subst h
        exact z_ireturn dX11_isSpot_27 rfl rfl ⟨rfl, rfl⟩
      · have h := (if_neg q).symm.trans h
        refine z_iload_n dX11_isSpot_15 rfl 1 rfl ?_
        refine z_sipush (v := 999) dX11_isSpot_16 (by decide) ?_
        refine z_icmp_gt (tgt := 26) dX11_isSpot_19 (by decide) (fun q => ?_) (fun q => ?_)
        · have h := (if_pos q).symm.trans h
          refine z_iconst (v := 0) dX11_isSpot_26 (by decide) ?_
          subst h
          exact z_ireturn dX11_isSpot_27 rfl rfl ⟨rfl, rfl⟩
        · have h := (if_neg q).symm.trans h
          refine z_iconst (v := 1) dX11_isSpot_22 (by decide) ?_
          refine z_goto (tgt := 27) dX11_isSpot_23 (by decide) ?_
          subst h
          exact z_ireturn dX11_isSpot_27 rfl rfl ⟨rfl, rfl⟩
/-- SkyStones.isSpot(II)Z -/
theorem c_X11_isSpot {S : Shp} {x0 : Int32} {x1 : Int32} {σ : Mm} {r : Int32} (h : f_X11_isSpot x0 x1 = r) : Ct m_X11_isSpot S [.int (x0), .int (x1)] σ (Qi (r, σ)) := Ct.of (by decide) (Nat.le_of_ble_eq_true rfl) (zb_X11_isSpot h)
def F_X11_found_55 (x4 : Int32) (s0 : Int32) (σ : Mm) : Option (Int32 × Mm) := some (x4, setA σ 2 0 0 (upd (mA σ 2 0 0) 1 ((mA σ 2 0 0 1) + 1)))
set_option maxRecDepth 20000 in
theorem zb_X11_found_55 {S : Shp} {x4 : Int32} {s0 : Int32} {σ : Mm} {r : Int32 × Mm} (h : F_X11_found_55 x4 s0 σ = some r) : Z m_X11_found S (Qi r) 55 [(0, .ref (sL S 0 0 0)), (4, .int (x4))] [.int (s0)] σ := by
  unfold F_X11_found_55 at h
  refine z_pop dX11_found_55 rfl ?_
  refine z_aload_n dX11_found_56 rfl 0 rfl ?_
  refine gf_11_38 rfl dX11_found_57 ?_
  refine z_dup dX11_found_60 rfl ?_
  refine gf_11_143 (rfl) rfl dX11_found_61 ?_
  refine z_iconst (v := 1) dX11_found_64 (by decide) ?_
  refine z_iadd dX11_found_65 ?_
  refine pf_11_143 (rfl) rfl dX11_found_66 ?_
  refine z_iload dX11_found_69 1 rfl ?_
  cases h
  exact z_ireturn dX11_found_71 rfl rfl ⟨rfl, rfl⟩
def F_X11_found (x1 : Int32) (x2 : Int32) (x3 : Int32) (σ : Mm) : Option (Int32 × Mm) := (if okP σ = true then (if 60 ≤ (mA σ 2 0 0 0) then some ((-1), σ) else (if 14 ≤ (f_X11_thingsInAll σ) then some ((-1), σ) else (if (f_X11_isSpot x1 x2) = 0 then some ((-1), σ) else (if (f_X11_isAge x3) = 0 then some ((-1), σ) else (bnd (F_X7_note 0 0 (f_X11_thingsInAll σ) x1 x2 x3 σ) (fun v τ => (F_X11_found_55 (f_X11_thingsInAll σ) v τ))))))) else none)
set_option maxRecDepth 20000 in
theorem zb_X11_found {S : Shp} {x1 : Int32} {x2 : Int32} {x3 : Int32} {σ : Mm} {r : Int32 × Mm} (h : F_X11_found x1 x2 x3 σ = some r) : Z m_X11_found S (Qi r) 0 [(0, .ref (sL S 0 0 0)), (1, .int (x1)), (2, .int (x2)), (3, .int (x3))] [] σ := by
  unfold F_X11_found at h
  obtain ⟨g1, h⟩ := gd h
  refine z_aload_n dX11_found_0 rfl 0 rfl ?_
  have hp := g1
  refine z_callV (M' := m_X11_thingsInAll) (t := 0) (i := 0) (k := 0) (As := []) (rest := []) kl_11_124 oy_X11_thingsInAll ⟨Nat.le_of_ble_eq_true rfl, Nat.le_of_ble_eq_true rfl⟩ rfl rfl rfl rfl (Nat.le_of_ble_eq_true rfl) rfl dX11_found_1 (c_X11_thingsInAll hp rfl) (fun v τ hq => ?_)
  obtain ⟨rfl, rfl⟩ := hq
  change Z _ _ _ _ _ [.int (f_X11_thingsInAll σ)] _
  refine z_istore dX11_found_4 (by decide) [1, 2, 3, 4, 0] rfl ?_
  refine z_aload_n dX11_found_6 rfl 0 rfl ?_
  refine gf_11_38 rfl dX11_found_7 ?_
  refine gf_11_128 (rfl) rfl dX11_found_10 ?_
  refine z_bipush (v := 60) dX11_found_13 (by decide) ?_
  refine z_icmp_ge (tgt := 40) dX11_found_15 (by decide) (fun q => ?_) (fun q => ?_)
  · have h := (if_pos q).symm.trans h
    refine z_iconst (v := (-1)) dX11_found_40 (by decide) ?_
    cases h
    exact z_ireturn dX11_found_41 rfl rfl ⟨rfl, rfl⟩
  · have h := (if_neg q).symm.trans h
    refine z_iload dX11_found_18 4 rfl ?_
    refine z_bipush (v := 14) dX11_found_20 (by decide) ?_
    refine z_icmp_ge (tgt := 40) dX11_found_22 (by decide) (fun q => ?_) (fun q => ?_)
    · have h := (if_pos q).symm.trans h
      refine z_iconst (v := (-1)) dX11_found_40 (by decide) ?_
      cases h
      exact z_ireturn dX11_found_41 rfl rfl ⟨rfl, rfl⟩
    · have h := (if_neg q).symm.trans h
      refine z_iload_n dX11_found_25 rfl 1 rfl ?_
      refine z_iload_n dX11_found_26 rfl 2 rfl ?_
      refine z_callS (M' := m_X11_isSpot) (As := [.int (x1), .int (x2)]) (rest := []) kl_11_131 oy_X11_isSpot ⟨Nat.le_of_ble_eq_true rfl, Nat.le_of_ble_eq_true rfl⟩ rfl (Nat.le_of_ble_eq_true rfl) rfl dX11_found_27 (c_X11_isSpot rfl) (fun v τ hq => ?_)
      obtain ⟨rfl, rfl⟩ := hq
      change Z _ _ _ _ _ [.int (f_X11_isSpot x1 x2)] _
      refine z_if_eq (tgt := 40) dX11_found_30 (by decide) (fun q => ?_) (fun q => ?_)
      · have h := (if_pos q).symm.trans h
        refine z_iconst (v := (-1)) dX11_found_40 (by decide) ?_
        cases h
        exact z_ireturn dX11_found_41 rfl rfl ⟨rfl, rfl⟩
      · have h := (if_neg q).symm.trans h
        refine z_iload_n dX11_found_33 rfl 3 rfl ?_
        refine z_callS (M' := m_X11_isAge) (As := [.int (x3)]) (rest := []) kl_11_135 oy_X11_isAge ⟨Nat.le_of_ble_eq_true rfl, Nat.le_of_ble_eq_true rfl⟩ rfl (Nat.le_of_ble_eq_true rfl) rfl dX11_found_34 (c_X11_isAge rfl) (fun v τ hq => ?_)
        obtain ⟨rfl, rfl⟩ := hq
        change Z _ _ _ _ _ [.int (f_X11_isAge x3)] _
        refine z_if_ne (tgt := 42) dX11_found_37 (by decide) (fun q => ?_) (fun q => ?_)
        · have h := (if_neg q).symm.trans h
          refine z_aload_n dX11_found_42 rfl 0 rfl ?_
          refine gf_11_38 rfl dX11_found_43 ?_
          refine z_iconst (v := 0) dX11_found_46 (by decide) ?_
          refine z_iload dX11_found_47 4 rfl ?_
          refine z_iload_n dX11_found_49 rfl 1 rfl ?_
          refine z_iload_n dX11_found_50 rfl 2 rfl ?_
          refine z_iload_n dX11_found_51 rfl 3 rfl ?_
          obtain ⟨v, τ, hc, h⟩ := bnd_e h
          refine z_callV (M' := m_X7_note) (t := 2) (i := 0) (k := 0) (As := [.int (0), .int (f_X11_thingsInAll σ), .int (x1), .int (x2), .int (x3)]) (rest := []) kl_11_139 oy_X7_note ⟨Nat.le_of_ble_eq_true rfl, Nat.le_of_ble_eq_true rfl⟩ rfl rfl rfl rfl (Nat.le_of_ble_eq_true rfl) rfl dX11_found_52 (c_X7_note rfl hc) (fun v2 τ2 hq => ?_)
          obtain ⟨rfl, rfl⟩ := hq
          change Z _ _ _ _ _ [.int (v)] _
          refine Z.lv [0, 4] rfl ?_
          exact zb_X11_found_55 h
        · have h := (if_pos q).symm.trans h
          refine z_iconst (v := (-1)) dX11_found_40 (by decide) ?_
          cases h
          exact z_ireturn dX11_found_41 rfl rfl ⟨rfl, rfl⟩
/-- SkyStones.found(III)I -/
theorem c_X11_found {S : Shp} {x1 : Int32} {x2 : Int32} {x3 : Int32} {σ : Mm} {r : Int32 × Mm} (h : F_X11_found x1 x2 x3 σ = some r) : Ct m_X11_found S [.ref (sL S 0 0 0), .int (x1), .int (x2), .int (x3)] σ (Qi r) := Ct.of (by decide) (Nat.le_of_ble_eq_true rfl) (zb_X11_found h)
def f_X1_turned (x0 : Int32) (x1 : Int32) : Int32 := (if 360 ≤ (x0 + x1) then (x0 + x1) - 360 else x0 + x1)
set_option maxRecDepth 20000 in
theorem zb_X1_turned {S : Shp} {x0 : Int32} {x1 : Int32} {σ : Mm} {r : Int32} (h : f_X1_turned x0 x1 = r) : Z m_X1_turned S (Qi (r, σ)) 0 [(0, .int (x0)), (1, .int (x1))] [] σ := by
  unfold f_X1_turned at h
  refine z_iload_n dX1_turned_0 rfl 0 rfl ?_
  refine z_iload_n dX1_turned_1 rfl 1 rfl ?_
  refine z_iadd dX1_turned_2 ?_
  refine z_istore_n dX1_turned_3 rfl (by decide) [1, 2, 0] rfl ?_
  refine z_iload_n dX1_turned_4 rfl 2 rfl ?_
  refine z_sipush (v := 360) dX1_turned_5 (by decide) ?_
  refine z_icmp_ge (tgt := 15) dX1_turned_8 (by decide) (fun q => ?_) (fun q => ?_)
  · have h := (if_pos q).symm.trans h
    refine z_iload_n dX1_turned_15 rfl 2 rfl ?_
    refine z_sipush (v := 360) dX1_turned_16 (by decide) ?_
    refine z_isub dX1_turned_19 ?_
    subst h
    exact z_ireturn dX1_turned_20 rfl rfl ⟨rfl, rfl⟩
  · have h := (if_neg q).symm.trans h
    refine z_iload_n dX1_turned_11 rfl 2 rfl ?_
    refine z_goto (tgt := 20) dX1_turned_12 (by decide) ?_
    subst h
    exact z_ireturn dX1_turned_20 rfl rfl ⟨rfl, rfl⟩
/-- SkyStones$Compass.turned(II)I -/
theorem c_X1_turned {S : Shp} {x0 : Int32} {x1 : Int32} {σ : Mm} {r : Int32} (h : f_X1_turned x0 x1 = r) : Ct m_X1_turned S [.int (x0), .int (x1)] σ (Qi (r, σ)) := Ct.of (by decide) (Nat.le_of_ble_eq_true rfl) (zb_X1_turned h)
def F_X11_hitsTurned_44 (rc6 : Int32 → Int32 → Int32 → Int32 → Int32 → Mm → Option (Int32 × Mm)) (x1 : Int32) (x2 : Int32) (x3 : Int32) (x4 : Int32) (x5 : Int32) (σ : Mm) : Option (Int32 × Mm) := (rc6 x1 x2 x3 x4 (x5 + 1) σ)
set_option maxRecDepth 20000 in
theorem zb_X11_hitsTurned_44 {S : Shp} {rc6 : Int32 → Int32 → Int32 → Int32 → Int32 → Mm → Option (Int32 × Mm)} (hrc6 : ∀ {x1 : Int32} {x2 : Int32} {x3 : Int32} {x4 : Int32} {x5 : Int32} {σ : Mm} {r : Int32 × Mm}, rc6 x1 x2 x3 x4 x5 σ = some r → Z m_X11_hitsTurned S (Qi r) 6 [(0, .ref (sL S 0 0 0)), (1, .int (x1)), (2, .int (x2)), (3, .int (x3)), (4, .int (x4)), (5, .int (x5))] [] σ) {x1 : Int32} {x2 : Int32} {x3 : Int32} {x4 : Int32} {x5 : Int32} {σ : Mm} {r : Int32 × Mm} (h : F_X11_hitsTurned_44 rc6 x1 x2 x3 x4 x5 σ = some r) : Z m_X11_hitsTurned S (Qi r) 44 [(0, .ref (sL S 0 0 0)), (1, .int (x1)), (2, .int (x2)), (3, .int (x3)), (4, .int (x4)), (5, .int (x5))] [] σ := by
  unfold F_X11_hitsTurned_44 at h
  refine z_iinc (j := 5) (v := x5 + 1) dX11_hitsTurned_44 rfl rfl (by decide) [1, 2, 3, 4, 5, 0] rfl ?_
  refine z_goto (tgt := 6) dX11_hitsTurned_47 (by decide) ?_
  exact hrc6 h
def F_X11_hitsTurned_38 (rc6 : Int32 → Int32 → Int32 → Int32 → Int32 → Mm → Option (Int32 × Mm)) (x1 : Int32) (x2 : Int32) (x3 : Int32) (x4 : Int32) (x5 : Int32) (s0 : Int32) (σ : Mm) : Option (Int32 × Mm) := (if s0 = 0 then (F_X11_hitsTurned_44 rc6 x1 x2 x3 x4 x5 σ) else (F_X11_hitsTurned_44 rc6 x1 x2 x3 (x4 + 1) x5 σ))
set_option maxRecDepth 20000 in
theorem zb_X11_hitsTurned_38 {S : Shp} {rc6 : Int32 → Int32 → Int32 → Int32 → Int32 → Mm → Option (Int32 × Mm)} (hrc6 : ∀ {x1 : Int32} {x2 : Int32} {x3 : Int32} {x4 : Int32} {x5 : Int32} {σ : Mm} {r : Int32 × Mm}, rc6 x1 x2 x3 x4 x5 σ = some r → Z m_X11_hitsTurned S (Qi r) 6 [(0, .ref (sL S 0 0 0)), (1, .int (x1)), (2, .int (x2)), (3, .int (x3)), (4, .int (x4)), (5, .int (x5))] [] σ) {x1 : Int32} {x2 : Int32} {x3 : Int32} {x4 : Int32} {x5 : Int32} {s0 : Int32} {σ : Mm} {r : Int32 × Mm} (h : F_X11_hitsTurned_38 rc6 x1 x2 x3 x4 x5 s0 σ = some r) : Z m_X11_hitsTurned S (Qi r) 38 [(0, .ref (sL S 0 0 0)), (1, .int (x1)), (2, .int (x2)), (3, .int (x3)), (4, .int (x4)), (5, .int (x5))] [.int (s0)] σ := by
  unfold F_X11_hitsTurned_38 at h
  refine z_if_eq (tgt := 44) dX11_hitsTurned_38 (by decide) (fun q => ?_) (fun q => ?_)
  · have h := (if_pos q).symm.trans h
    exact zb_X11_hitsTurned_44 hrc6 h
  · have h := (if_neg q).symm.trans h
    refine z_iinc (j := 4) (v := x4 + 1) dX11_hitsTurned_41 rfl rfl (by decide) [1, 2, 3, 4, 0, 5] rfl ?_
    exact zb_X11_hitsTurned_44 hrc6 h
def B_X11_hitsTurned_6 (rc6 : Int32 → Int32 → Int32 → Int32 → Int32 → Mm → Option (Int32 × Mm)) (x1 : Int32) (x2 : Int32) (x3 : Int32) (x4 : Int32) (x5 : Int32) (σ : Mm) : Option (Int32 × Mm) := (if (mA σ 0 0 15 8) ≤ x5 then some (x4, σ) else (if inb x5 182 = true then (bnd (F_X11_strikes (f_X1_turned (mA σ 0 0 24 x5.toNatClampNeg) x2) x1 x3 σ) (fun v τ => (F_X11_hitsTurned_38 rc6 x1 x2 x3 x4 x5 v τ))) else none))
set_option maxRecDepth 20000 in
theorem zB_X11_hitsTurned_6 {S : Shp} {rc6 : Int32 → Int32 → Int32 → Int32 → Int32 → Mm → Option (Int32 × Mm)} (hrc6 : ∀ {x1 : Int32} {x2 : Int32} {x3 : Int32} {x4 : Int32} {x5 : Int32} {σ : Mm} {r : Int32 × Mm}, rc6 x1 x2 x3 x4 x5 σ = some r → Z m_X11_hitsTurned S (Qi r) 6 [(0, .ref (sL S 0 0 0)), (1, .int (x1)), (2, .int (x2)), (3, .int (x3)), (4, .int (x4)), (5, .int (x5))] [] σ) {x1 : Int32} {x2 : Int32} {x3 : Int32} {x4 : Int32} {x5 : Int32} {σ : Mm} {r : Int32 × Mm} (h : B_X11_hitsTurned_6 rc6 x1 x2 x3 x4 x5 σ = some r) : Z m_X11_hitsTurned S (Qi r) 6 [(0, .ref (sL S 0 0 0)), (1, .int (x1)), (2, .int (x2)), (3, .int (x3)), (4, .int (x4)), (5, .int (x5))] [] σ := by
  unfold B_X11_hitsTurned_6 at h
  refine z_iload dX11_hitsTurned_6 5 rfl ?_
  refine z_aload_n dX11_hitsTurned_8 rfl 0 rfl ?_
  refine gf_11_53 rfl dX11_hitsTurned_9 ?_
  refine gf_11_210 rfl dX11_hitsTurned_12 ?_
  refine z_icmp_ge (tgt := 50) dX11_hitsTurned_15 (by decide) (fun q => ?_) (fun q => ?_)
  · have h := (if_pos q).symm.trans h
    refine z_iload dX11_hitsTurned_50 4 rfl ?_
    cases h
    exact z_ireturn dX11_hitsTurned_52 rfl rfl ⟨rfl, rfl⟩
  · have h := (if_neg q).symm.trans h
    obtain ⟨g1, h⟩ := gd h
    refine z_aload_n dX11_hitsTurned_18 rfl 0 rfl ?_
    refine z_aload_n dX11_hitsTurned_19 rfl 0 rfl ?_
    refine gf_11_53 rfl dX11_hitsTurned_20 ?_
    refine gf_11_250 rfl dX11_hitsTurned_23 ?_
    refine z_iload dX11_hitsTurned_26 5 rfl ?_
    refine ia_0_24 (inb_in g1) dX11_hitsTurned_28 ?_
    refine z_iload_n dX11_hitsTurned_29 rfl 2 rfl ?_
    refine z_callS (M' := m_X1_turned) (As := [.int (mA σ 0 0 24 x5.toNatClampNeg), .int (x2)]) (rest := [.ref (sL S 0 0 0)]) kl_11_367 oy_X1_turned ⟨Nat.le_of_ble_eq_true rfl, Nat.le_of_ble_eq_true rfl⟩ rfl (Nat.le_of_ble_eq_true rfl) rfl dX11_hitsTurned_30 (c_X1_turned rfl) (fun v τ hq => ?_)
    obtain ⟨rfl, rfl⟩ := hq
    change Z _ _ _ _ _ [.int (f_X1_turned (mA σ 0 0 24 x5.toNatClampNeg) x2), .ref (sL S 0 0 0)] _
    refine z_iload_n dX11_hitsTurned_33 rfl 1 rfl ?_
    refine z_iload_n dX11_hitsTurned_34 rfl 3 rfl ?_
    obtain ⟨v, τ, hc, h⟩ := bnd_e h
    refine z_callV (M' := m_X11_strikes) (t := 0) (i := 0) (k := 0) (As := [.int (f_X1_turned (mA σ 0 0 24 x5.toNatClampNeg) x2), .int (x1), .int (x3)]) (rest := []) kl_11_253 oy_X11_strikes ⟨Nat.le_of_ble_eq_true rfl, Nat.le_of_ble_eq_true rfl⟩ rfl rfl rfl rfl (Nat.le_of_ble_eq_true rfl) rfl dX11_hitsTurned_35 (c_X11_strikes hc) (fun v2 τ2 hq => ?_)
    obtain ⟨rfl, rfl⟩ := hq
    change Z _ _ _ _ _ [.int (v)] _
    exact zb_X11_hitsTurned_38 hrc6 h
def F_X11_hitsTurned_6 : Nat → Int32 → Int32 → Int32 → Int32 → Int32 → Mm → Option (Int32 × Mm)
  | 0 => fun _ _ _ _ _ _ => none
  | n + 1 => B_X11_hitsTurned_6 (F_X11_hitsTurned_6 n)
theorem zl_X11_hitsTurned_6 {S : Shp} (n : Nat) {x1 : Int32} {x2 : Int32} {x3 : Int32} {x4 : Int32} {x5 : Int32} {σ : Mm} {r : Int32 × Mm} (h : F_X11_hitsTurned_6 n x1 x2 x3 x4 x5 σ = some r) : Z m_X11_hitsTurned S (Qi r) 6 [(0, .ref (sL S 0 0 0)), (1, .int (x1)), (2, .int (x2)), (3, .int (x3)), (4, .int (x4)), (5, .int (x5))] [] σ := by
  induction n generalizing x1 x2 x3 x4 x5 σ r with
  | zero => cases h
  | succ n ih => exact zB_X11_hitsTurned_6 (fun h => ih h) h
def F_X11_hitsTurned (x1 : Int32) (x2 : Int32) (x3 : Int32) (σ : Mm) : Option (Int32 × Mm) := (F_X11_hitsTurned_6 FU x1 x2 x3 0 0 σ)
set_option maxRecDepth 20000 in
theorem zb_X11_hitsTurned {S : Shp} {x1 : Int32} {x2 : Int32} {x3 : Int32} {σ : Mm} {r : Int32 × Mm} (h : F_X11_hitsTurned x1 x2 x3 σ = some r) : Z m_X11_hitsTurned S (Qi r) 0 [(0, .ref (sL S 0 0 0)), (1, .int (x1)), (2, .int (x2)), (3, .int (x3))] [] σ := by
  unfold F_X11_hitsTurned at h
  refine z_iconst (v := 0) dX11_hitsTurned_0 (by decide) ?_
  refine z_istore dX11_hitsTurned_1 (by decide) [1, 2, 3, 4, 0] rfl ?_
  refine z_iconst (v := 0) dX11_hitsTurned_3 (by decide) ?_
  refine z_istore dX11_hitsTurned_4 (by decide) [1, 2, 3, 4, 5, 0] rfl ?_
  exact zl_X11_hitsTurned_6 FU h
/-- SkyStones.hitsTurned(IIZ)I -/
theorem c_X11_hitsTurned {S : Shp} {x1 : Int32} {x2 : Int32} {x3 : Int32} {σ : Mm} {r : Int32 × Mm} (h : F_X11_hitsTurned x1 x2 x3 σ = some r) : Ct m_X11_hitsTurned S [.ref (sL S 0 0 0), .int (x1), .int (x2), .int (x3)] σ (Qi r) := Ct.of (by decide) (Nat.le_of_ble_eq_true rfl) (zb_X11_hitsTurned h)
def F_X11_hitsNow_7 (s0 : Int32) (σ : Mm) : Option (Int32 × Mm) := some (s0, σ)
set_option maxRecDepth 20000 in
theorem zb_X11_hitsNow_7 {S : Shp} {s0 : Int32} {σ : Mm} {r : Int32 × Mm} (h : F_X11_hitsNow_7 s0 σ = some r) : Z m_X11_hitsNow S (Qi r) 7 [] [.int (s0)] σ := by
  unfold F_X11_hitsNow_7 at h
  cases h
  exact z_ireturn dX11_hitsNow_7 rfl rfl ⟨rfl, rfl⟩
def F_X11_hitsNow (x1 : Int32) (σ : Mm) : Option (Int32 × Mm) := (bnd (F_X11_hitsTurned x1 0 0 σ) (fun v τ => (F_X11_hitsNow_7 v τ)))
set_option maxRecDepth 20000 in
theorem zb_X11_hitsNow {S : Shp} {x1 : Int32} {σ : Mm} {r : Int32 × Mm} (h : F_X11_hitsNow x1 σ = some r) : Z m_X11_hitsNow S (Qi r) 0 [(0, .ref (sL S 0 0 0)), (1, .int (x1))] [] σ := by
  unfold F_X11_hitsNow at h
  refine z_aload_n dX11_hitsNow_0 rfl 0 rfl ?_
  refine z_iload_n dX11_hitsNow_1 rfl 1 rfl ?_
  refine z_iconst (v := 0) dX11_hitsNow_2 (by decide) ?_
  refine z_iconst (v := 0) dX11_hitsNow_3 (by decide) ?_
  obtain ⟨v, τ, hc, h⟩ := bnd_e h
  refine z_callV (M' := m_X11_hitsTurned) (t := 0) (i := 0) (k := 0) (As := [.int (x1), .int (0), .int (0)]) (rest := []) kl_11_247 oy_X11_hitsTurned ⟨Nat.le_of_ble_eq_true rfl, Nat.le_of_ble_eq_true rfl⟩ rfl rfl rfl rfl (Nat.le_of_ble_eq_true rfl) rfl dX11_hitsNow_4 (c_X11_hitsTurned hc) (fun v2 τ2 hq => ?_)
  obtain ⟨rfl, rfl⟩ := hq
  change Z _ _ _ _ _ [.int (v)] _
  refine Z.lv [] rfl ?_
  exact zb_X11_hitsNow_7 h
/-- SkyStones.hitsNow(I)I -/
theorem c_X11_hitsNow {S : Shp} {x1 : Int32} {σ : Mm} {r : Int32 × Mm} (h : F_X11_hitsNow x1 σ = some r) : Ct m_X11_hitsNow S [.ref (sL S 0 0 0), .int (x1)] σ (Qi r) := Ct.of (by decide) (Nat.le_of_ble_eq_true rfl) (zb_X11_hitsNow h)
def f_X11_isYears (x0 : Int32) (x1 : Int32) (x2 : Int32) : Int32 := (if (f_X11_isYear x0) = 0 then 0 else (if x1 < 1 then 0 else (if 100 < x1 then 0 else (if x2 < 1 then 0 else (if 200 < x2 then 0 else (if (f_X11_isYear (x0 + (x1 * (x2 - 1)))) = 0 then 0 else 1))))))
set_option maxRecDepth 20000 in
theorem zb_X11_isYears {S : Shp} {x0 : Int32} {x1 : Int32} {x2 : Int32} {σ : Mm} {r : Int32} (h : f_X11_isYears x0 x1 x2 = r) : Z m_X11_isYears S (Qi (r, σ)) 0 [(0, .int (x0)), (1, .int (x1)), (2, .int (x2))] [] σ := by
  unfold f_X11_isYears at h
  refine z_iload_n dX11_isYears_0 rfl 0 rfl ?_
  refine z_callS (M' := m_X11_isYear) (As := [.int (x0)]) (rest := []) kl_11_219 oy_X11_isYear ⟨Nat.le_of_ble_eq_true rfl, Nat.le_of_ble_eq_true rfl⟩ rfl (Nat.le_of_ble_eq_true rfl) rfl dX11_isYears_1 (c_X11_isYear rfl) (fun v τ hq => ?_)
  obtain ⟨rfl, rfl⟩ := hq
  change Z _ _ _ _ _ [.int (f_X11_isYear x0)] _
  refine z_if_eq (tgt := 47) dX11_isYears_4 (by decide) (fun q => ?_) (fun q => ?_)
  · have h := (if_pos q).symm.trans h
    refine z_iconst (v := 0) dX11_isYears_47 (by decide) ?_
    subst h
    exact z_ireturn dX11_isYears_48 rfl rfl ⟨rfl, rfl⟩
  · have h := (if_neg q).symm.trans h
    refine z_iload_n dX11_isYears_7 rfl 1 rfl ?_
    refine z_iconst (v := 1) dX11_isYears_8 (by decide) ?_
    refine z_icmp_lt (tgt := 47) dX11_isYears_9 (by decide) (fun q => ?_) (fun q => ?_)
    · have h := (if_pos q).symm.trans h
      refine z_iconst (v := 0) dX11_isYears_47 (by decide) ?_
      subst h
      exact z_ireturn dX11_isYears_48 rfl rfl ⟨rfl, rfl⟩
    · have h := (if_neg q).symm.trans h
      refine z_iload_n dX11_isYears_12 rfl 1 rfl ?_
      refine z_bipush (v := 100) dX11_isYears_13 (by decide) ?_
      refine z_icmp_gt (tgt := 47) dX11_isYears_15 (by decide) (fun q => ?_) (fun q => ?_)
      · have h := (if_pos q).symm.trans h
        refine z_iconst (v := 0) dX11_isYears_47 (by decide) ?_
        subst h
        exact z_ireturn dX11_isYears_48 rfl rfl ⟨rfl, rfl⟩
      · have h := (if_neg q).symm.trans h
        refine z_iload_n dX11_isYears_18 rfl 2 rfl ?_
        refine z_iconst (v := 1) dX11_isYears_19 (by decide) ?_
        refine z_icmp_lt (tgt := 47) dX11_isYears_20 (by decide) (fun q => ?_) (fun q => ?_)
        · have h := (if_pos q).symm.trans h
          refine z_iconst (v := 0) dX11_isYears_47 (by decide) ?_
          subst h
          exact z_ireturn dX11_isYears_48 rfl rfl ⟨rfl, rfl⟩
        · have h := (if_neg q).symm.trans h
          refine z_iload_n dX11_isYears_23 rfl 2 rfl ?_
          refine z_sipush (v := 200) dX11_isYears_24 (by decide) ?_
          refine z_icmp_gt (tgt := 47) dX11_isYears_27 (by decide) (fun q => ?_) (fun q => ?_)
          · have h := (if_pos q).symm.trans h
            refine z_iconst (v := 0) dX11_isYears_47 (by decide) ?_
            subst h
            exact z_ireturn dX11_isYears_48 rfl rfl ⟨rfl, rfl⟩
          · have h := (if_neg q).symm.trans h
            refine z_iload_n dX11_isYears_30 rfl 0 rfl ?_
            refine z_iload_n dX11_isYears_31 rfl 1 rfl ?_
            refine z_iload_n dX11_isYears_32 rfl 2 rfl ?_
            refine z_iconst (v := 1) dX11_isYears_33 (by decide) ?_
            refine z_isub dX11_isYears_34 ?_
            refine z_imul dX11_isYears_35 ?_
            refine z_iadd dX11_isYears_36 ?_
            refine z_callS (M' := m_X11_isYear) (As := [.int (x0 + (x1 * (x2 - 1)))]) (rest := []) kl_11_219 oy_X11_isYear ⟨Nat.le_of_ble_eq_true rfl, Nat.le_of_ble_eq_true rfl⟩ rfl (Nat.le_of_ble_eq_true rfl) rfl dX11_isYears_37 (c_X11_isYear rfl) (fun v τ hq => ?_)
            obtain ⟨rfl, rfl⟩ := hq
            change Z _ _ _ _ _ [.int (f_X11_isYear (x0 + (x1 * (x2 - 1))))] _
            refine z_if_eq (tgt := 47) dX11_isYears_40 (by decide) (fun q => ?_) (fun q => ?_)
            · have h := (if_pos q).symm.trans h
              refine z_iconst (v := 0) dX11_isYears_47 (by decide) ?_
              subst h
              exact z_ireturn dX11_isYears_48 rfl rfl ⟨rfl, rfl⟩
            · have h := (if_neg q).symm.trans h
              refine z_iconst (v := 1) dX11_isYears_43 (by decide) ?_
              refine z_goto (tgt := 48) dX11_isYears_44 (by decide) ?_
              subst h
              exact z_ireturn dX11_isYears_48 rfl rfl ⟨rfl, rfl⟩
/-- SkyStones.isYears(III)Z -/
theorem c_X11_isYears {S : Shp} {x0 : Int32} {x1 : Int32} {x2 : Int32} {σ : Mm} {r : Int32} (h : f_X11_isYears x0 x1 x2 = r) : Ct m_X11_isYears S [.int (x0), .int (x1), .int (x2)] σ (Qi (r, σ)) := Ct.of (by decide) (Nat.le_of_ble_eq_true rfl) (zb_X11_isYears h)
def F_X11_gone_22 (s0 : Int32) (σ : Mm) : Option (Int32 × Mm) := some (s0, σ)
set_option maxRecDepth 20000 in
theorem zb_X11_gone_22 {S : Shp} {s0 : Int32} {σ : Mm} {r : Int32 × Mm} (h : F_X11_gone_22 s0 σ = some r) : Z m_X11_gone S (Qi r) 22 [] [.int (s0)] σ := by
  unfold F_X11_gone_22 at h
  cases h
  exact z_ireturn dX11_gone_22 rfl rfl ⟨rfl, rfl⟩
def F_X11_gone (x1 : Int32) (σ : Mm) : Option (Int32 × Mm) := (if okP σ = true then (if (f_X11_isThing x1 σ) = 0 then some ((-1), σ) else (bnd (F_X7_note 0 2 x1 0 0 0 σ) (fun v τ => (F_X11_gone_22 v τ)))) else none)
set_option maxRecDepth 20000 in
theorem zb_X11_gone {S : Shp} {x1 : Int32} {σ : Mm} {r : Int32 × Mm} (h : F_X11_gone x1 σ = some r) : Z m_X11_gone S (Qi r) 0 [(0, .ref (sL S 0 0 0)), (1, .int (x1))] [] σ := by
  unfold F_X11_gone at h
  obtain ⟨g1, h⟩ := gd h
  refine z_aload_n dX11_gone_0 rfl 0 rfl ?_
  refine z_iload_n dX11_gone_1 rfl 1 rfl ?_
  have hp := g1
  refine z_callV (M' := m_X11_isThing) (t := 0) (i := 0) (k := 0) (As := [.int (x1)]) (rest := []) kl_11_146 oy_X11_isThing ⟨Nat.le_of_ble_eq_true rfl, Nat.le_of_ble_eq_true rfl⟩ rfl rfl rfl rfl (Nat.le_of_ble_eq_true rfl) rfl dX11_gone_2 (c_X11_isThing hp rfl) (fun v τ hq => ?_)
  obtain ⟨rfl, rfl⟩ := hq
  change Z _ _ _ _ _ [.int (f_X11_isThing x1 σ)] _
  refine z_if_ne (tgt := 10) dX11_gone_5 (by decide) (fun q => ?_) (fun q => ?_)
  · have h := (if_neg q).symm.trans h
    refine z_aload_n dX11_gone_10 rfl 0 rfl ?_
    refine gf_11_38 rfl dX11_gone_11 ?_
    refine z_iconst (v := 2) dX11_gone_14 (by decide) ?_
    refine z_iload_n dX11_gone_15 rfl 1 rfl ?_
    refine z_iconst (v := 0) dX11_gone_16 (by decide) ?_
    refine z_iconst (v := 0) dX11_gone_17 (by decide) ?_
    refine z_iconst (v := 0) dX11_gone_18 (by decide) ?_
    obtain ⟨v, τ, hc, h⟩ := bnd_e h
    refine z_callV (M' := m_X7_note) (t := 2) (i := 0) (k := 0) (As := [.int (2), .int (x1), .int (0), .int (0), .int (0)]) (rest := []) kl_11_139 oy_X7_note ⟨Nat.le_of_ble_eq_true rfl, Nat.le_of_ble_eq_true rfl⟩ rfl rfl rfl rfl (Nat.le_of_ble_eq_true rfl) rfl dX11_gone_19 (c_X7_note rfl hc) (fun v2 τ2 hq => ?_)
    obtain ⟨rfl, rfl⟩ := hq
    change Z _ _ _ _ _ [.int (v)] _
    refine Z.lv [] rfl ?_
    exact zb_X11_gone_22 h
  · have h := (if_pos q).symm.trans h
    refine z_iconst (v := (-1)) dX11_gone_8 (by decide) ?_
    cases h
    exact z_ireturn dX11_gone_9 rfl rfl ⟨rfl, rfl⟩
/-- SkyStones.gone(I)I -/
theorem c_X11_gone {S : Shp} {x1 : Int32} {σ : Mm} {r : Int32 × Mm} (h : F_X11_gone x1 σ = some r) : Ct m_X11_gone S [.ref (sL S 0 0 0), .int (x1)] σ (Qi r) := Ct.of (by decide) (Nat.le_of_ble_eq_true rfl) (zb_X11_gone h)
def F_X11_height_15 (s0 : Int32) (σ : Mm) : Option (Int32 × Mm) := some (s0, σ)
set_option maxRecDepth 20000 in
theorem zb_X11_height_15 {S : Shp} {s0 : Int32} {σ : Mm} {r : Int32 × Mm} (h : F_X11_height_15 s0 σ = some r) : Z m_X11_height S (Qi r) 15 [] [.int (s0)] σ := by
  unfold F_X11_height_15 at h
  refine z_goto (tgt := 19) dX11_height_15 (by decide) ?_
  cases h
  exact z_ireturn dX11_height_19 rfl rfl ⟨rfl, rfl⟩
def F_X11_height (x1 : Int32) (σ : Mm) : Option (Int32 × Mm) := (if (f_X11_isDegree x1) = 0 then some ((-1), σ) else (if okP σ = true then (bnd (F_X9_hillOver (mP σ 0) x1 σ) (fun v τ => (F_X11_height_15 v τ))) else none))
set_option maxRecDepth 20000 in
theorem zb_X11_height {S : Shp} {x1 : Int32} {σ : Mm} {r : Int32 × Mm} (h : F_X11_height x1 σ = some r) : Z m_X11_height S (Qi r) 0 [(0, .ref (sL S 0 0 0)), (1, .int (x1))] [] σ := by
  unfold F_X11_height at h
  refine z_iload_n dX11_height_0 rfl 1 rfl ?_
  refine z_callS (M' := m_X11_isDegree) (As := [.int (x1)]) (rest := []) kl_11_180 oy_X11_isDegree ⟨Nat.le_of_ble_eq_true rfl, Nat.le_of_ble_eq_true rfl⟩ rfl (Nat.le_of_ble_eq_true rfl) rfl dX11_height_1 (c_X11_isDegree rfl) (fun v τ hq => ?_)
  obtain ⟨rfl, rfl⟩ := hq
  change Z _ _ _ _ _ [.int (f_X11_isDegree x1)] _
  refine z_if_eq (tgt := 18) dX11_height_4 (by decide) (fun q => ?_) (fun q => ?_)
  · have h := (if_pos q).symm.trans h
    refine z_iconst (v := (-1)) dX11_height_18 (by decide) ?_
    cases h
    exact z_ireturn dX11_height_19 rfl rfl ⟨rfl, rfl⟩
  · have h := (if_neg q).symm.trans h
    obtain ⟨g1, h⟩ := gd h
    refine z_aload_n dX11_height_7 rfl 0 rfl ?_
    have hp := g1
    refine gf_11_19 rfl dX11_height_8 ?_
    refine z_iload_n dX11_height_11 rfl 1 rfl ?_
    obtain ⟨v, τ, hc, h⟩ := bnd_e h
    refine z_callV (M' := m_X9_hillOver) (t := 1) (i := (mP σ 0)) (k := 0) (As := [.int (x1)]) (rest := []) kl_11_213 oy_X9_hillOver ⟨Nat.le_of_ble_eq_true rfl, Nat.le_of_ble_eq_true rfl⟩ (lv1 (okP_0 hp) rfl) rfl rfl rfl (Nat.le_of_ble_eq_true rfl) rfl dX11_height_12 (c_X9_hillOver (okP_0 hp) hc) (fun v2 τ2 hq => ?_)
    obtain ⟨rfl, rfl⟩ := hq
    change Z _ _ _ _ _ [.int (v)] _
    refine Z.lv [] rfl ?_
    exact zb_X11_height_15 h
/-- SkyStones.height(I)I -/
theorem c_X11_height {S : Shp} {x1 : Int32} {σ : Mm} {r : Int32 × Mm} (h : F_X11_height x1 σ = some r) : Ct m_X11_height S [.ref (sL S 0 0 0), .int (x1)] σ (Qi r) := Ct.of (by decide) (Nat.le_of_ble_eq_true rfl) (zb_X11_height h)
def f_X11_isPlace (x1 : Int32) (σ : Mm) : Int32 := (if x1 < 0 then 0 else (if (mA σ 1 (mP σ 0) 0 12) ≤ x1 then 0 else 1))
set_option maxRecDepth 20000 in
theorem zb_X11_isPlace {S : Shp} {x1 : Int32} {σ : Mm} {r : Int32} (hp : okP σ = true) (h : f_X11_isPlace x1 σ = r) : Z m_X11_isPlace S (Qi (r, σ)) 0 [(0, .ref (sL S 0 0 0)), (1, .int (x1))] [] σ := by
  unfold f_X11_isPlace at h
  refine z_iload_n dX11_isPlace_0 rfl 1 rfl ?_
  refine z_if_lt (tgt := 19) dX11_isPlace_1 (by decide) (fun q => ?_) (fun q => ?_)
  · have h := (if_pos q).symm.trans h
    refine z_iconst (v := 0) dX11_isPlace_19 (by decide) ?_
    subst h
    exact z_ireturn dX11_isPlace_20 rfl rfl ⟨rfl, rfl⟩
  · have h := (if_neg q).symm.trans h
    refine z_iload_n dX11_isPlace_4 rfl 1 rfl ?_
    refine z_aload_n dX11_isPlace_5 rfl 0 rfl ?_
    refine gf_11_19 rfl dX11_isPlace_6 ?_
    refine gf_11_341 (lv1 (okP_0 hp) rfl) rfl dX11_isPlace_9 ?_
    refine z_icmp_ge (tgt := 19) dX11_isPlace_12 (by decide) (fun q => ?_) (fun q => ?_)
    · have h := (if_pos q).symm.trans h
      refine z_iconst (v := 0) dX11_isPlace_19 (by decide) ?_
      subst h
      exact z_ireturn dX11_isPlace_20 rfl rfl ⟨rfl, rfl⟩
    · have h := (if_neg q).symm.trans h
      refine z_iconst (v := 1) dX11_isPlace_15 (by decide) ?_
      refine z_goto (tgt := 20) dX11_isPlace_16 (by decide) ?_
      subst h
      exact z_ireturn dX11_isPlace_20 rfl rfl ⟨rfl, rfl⟩
/-- SkyStones.isPlace(I)Z -/
theorem c_X11_isPlace {S : Shp} {x1 : Int32} {σ : Mm} {r : Int32} (hp : okP σ = true) (h : f_X11_isPlace x1 σ = r) : Ct m_X11_isPlace S [.ref (sL S 0 0 0), .int (x1)] σ (Qi (r, σ)) := Ct.of (by decide) (Nat.le_of_ble_eq_true rfl) (zb_X11_isPlace hp h)
def F_X11_hitsOf_81 (rc5 : Int32 → Int32 → Int32 → Int32 → Mm → Option (Int32 × Mm)) (x1 : Int32) (x2 : Int32) (x3 : Int32) (x4 : Int32) (σ : Mm) : Option (Int32 × Mm) := (rc5 x1 x2 x3 (x4 + 1) σ)
set_option maxRecDepth 20000 in
theorem zb_X11_hitsOf_81 {S : Shp} {rc5 : Int32 → Int32 → Int32 → Int32 → Mm → Option (Int32 × Mm)} (hrc5 : ∀ {x1 : Int32} {x2 : Int32} {x3 : Int32} {x4 : Int32} {σ : Mm} {r : Int32 × Mm}, rc5 x1 x2 x3 x4 σ = some r → Z m_X11_hitsOf S (Qi r) 5 [(0, .ref (sL S 0 0 0)), (1, .int (x1)), (2, .int (x2)), (3, .int (x3)), (4, .int (x4))] [] σ) {x1 : Int32} {x2 : Int32} {x3 : Int32} {x4 : Int32} {σ : Mm} {r : Int32 × Mm} (h : F_X11_hitsOf_81 rc5 x1 x2 x3 x4 σ = some r) : Z m_X11_hitsOf S (Qi r) 81 [(0, .ref (sL S 0 0 0)), (1, .int (x1)), (2, .int (x2)), (3, .int (x3)), (4, .int (x4))] [] σ := by
  unfold F_X11_hitsOf_81 at h
  refine z_iinc (j := 4) (v := x4 + 1) dX11_hitsOf_81 rfl rfl (by decide) [1, 2, 3, 4, 0] rfl ?_
  refine z_goto (tgt := 5) dX11_hitsOf_84 (by decide) ?_
  exact hrc5 h
def F_X11_hitsOf_75 (rc5 : Int32 → Int32 → Int32 → Int32 → Mm → Option (Int32 × Mm)) (x1 : Int32) (x2 : Int32) (x3 : Int32) (x4 : Int32) (s0 : Int32) (σ : Mm) : Option (Int32 × Mm) := (if s0 = 0 then (F_X11_hitsOf_81 rc5 x1 x2 x3 x4 σ) else (F_X11_hitsOf_81 rc5 x1 x2 (x3 + 1) x4 σ))
set_option maxRecDepth 20000 in
theorem zb_X11_hitsOf_75 {S : Shp} {rc5 : Int32 → Int32 → Int32 → Int32 → Mm → Option (Int32 × Mm)} (hrc5 : ∀ {x1 : Int32} {x2 : Int32} {x3 : Int32} {x4 : Int32} {σ : Mm} {r : Int32 × Mm}, rc5 x1 x2 x3 x4 σ = some r → Z m_X11_hitsOf S (Qi r) 5 [(0, .ref (sL S 0 0 0)), (1, .int (x1)), (2, .int (x2)), (3, .int (x3)), (4, .int (x4))] [] σ) {x1 : Int32} {x2 : Int32} {x3 : Int32} {x4 : Int32} {s0 : Int32} {σ : Mm} {r : Int32 × Mm} (h : F_X11_hitsOf_75 rc5 x1 x2 x3 x4 s0 σ = some r) : Z m_X11_hitsOf S (Qi r) 75 [(0, .ref (sL S 0 0 0)), (1, .int (x1)), (2, .int (x2)), (3, .int (x3)), (4, .int (x4))] [.int (s0)] σ := by
  unfold F_X11_hitsOf_75 at h
  refine z_if_eq (tgt := 81) dX11_hitsOf_75 (by decide) (fun q => ?_) (fun q => ?_)
  · have h := (if_pos q).symm.trans h
    exact zb_X11_hitsOf_81 hrc5 h
  · have h := (if_neg q).symm.trans h
    refine z_iinc (j := 3) (v := x3 + 1) dX11_hitsOf_78 rfl rfl (by decide) [1, 2, 3, 0, 4] rfl ?_
    exact zb_X11_hitsOf_81 hrc5 h
def F_X11_hitsOf_52 (rc5 : Int32 → Int32 → Int32 → Int32 → Mm → Option (Int32 × Mm)) (x1 : Int32) (x2 : Int32) (x3 : Int32) (x4 : Int32) (s0 : Int32) (σ : Mm) : Option (Int32 × Mm) := (if s0 = 0 then (F_X11_hitsOf_81 rc5 x1 x2 x3 x4 σ) else (if inb x4 182 = true then (bnd (F_X11_strikes (mA σ 0 0 24 x4.toNatClampNeg) x2 0 σ) (fun v τ => (F_X11_hitsOf_75 rc5 x1 x2 x3 x4 v τ))) else none))
set_option maxRecDepth 20000 in
theorem zb_X11_hitsOf_52 {S : Shp} {rc5 : Int32 → Int32 → Int32 → Int32 → Mm → Option (Int32 × Mm)} (hrc5 : ∀ {x1 : Int32} {x2 : Int32} {x3 : Int32} {x4 : Int32} {σ : Mm} {r : Int32 × Mm}, rc5 x1 x2 x3 x4 σ = some r → Z m_X11_hitsOf S (Qi r) 5 [(0, .ref (sL S 0 0 0)), (1, .int (x1)), (2, .int (x2)), (3, .int (x3)), (4, .int (x4))] [] σ) {x1 : Int32} {x2 : Int32} {x3 : Int32} {x4 : Int32} {s0 : Int32} {σ : Mm} {r : Int32 × Mm} (h : F_X11_hitsOf_52 rc5 x1 x2 x3 x4 s0 σ = some r) : Z m_X11_hitsOf S (Qi r) 52 [(0, .ref (sL S 0 0 0)), (1, .int (x1)), (2, .int (x2)), (3, .int (x3)), (4, .int (x4))] [.int (s0)] σ := by
  unfold F_X11_hitsOf_52 at h
  refine z_istore dX11_hitsOf_52 (by decide) [1, 2, 3, 4, 5, 0] rfl ?_
  refine z_iload dX11_hitsOf_54 5 rfl ?_
  refine z_if_eq (tgt := 81) dX11_hitsOf_56 (by decide) (fun q => ?_) (fun q => ?_)
  · have h := (if_pos q).symm.trans h
    refine Z.lv [0, 1, 2, 3, 4] rfl ?_
    exact zb_X11_hitsOf_81 hrc5 h
  · have h := (if_neg q).symm.trans h
    obtain ⟨g2, h⟩ := gd h
    refine z_aload_n dX11_hitsOf_59 rfl 0 rfl ?_
    refine z_aload_n dX11_hitsOf_60 rfl 0 rfl ?_
    refine gf_11_53 rfl dX11_hitsOf_61 ?_
    refine gf_11_250 rfl dX11_hitsOf_64 ?_
    refine z_iload dX11_hitsOf_67 4 rfl ?_
    refine ia_0_24 (inb_in g2) dX11_hitsOf_69 ?_
    refine z_iload_n dX11_hitsOf_70 rfl 2 rfl ?_
    refine z_iconst (v := 0) dX11_hitsOf_71 (by decide) ?_
    obtain ⟨v, τ, hc, h⟩ := bnd_e h
    refine z_callV (M' := m_X11_strikes) (t := 0) (i := 0) (k := 0) (As := [.int (mA σ 0 0 24 x4.toNatClampNeg), .int (x2), .int (0)]) (rest := []) kl_11_253 oy_X11_strikes ⟨Nat.le_of_ble_eq_true rfl, Nat.le_of_ble_eq_true rfl⟩ rfl rfl rfl rfl (Nat.le_of_ble_eq_true rfl) rfl dX11_hitsOf_72 (c_X11_strikes hc) (fun v2 τ2 hq => ?_)
    obtain ⟨rfl, rfl⟩ := hq
    change Z _ _ _ _ _ [.int (v)] _
    refine Z.lv [0, 1, 2, 3, 4] rfl ?_
    exact zb_X11_hitsOf_75 hrc5 h
def F_X11_hitsOf_47 (rc5 : Int32 → Int32 → Int32 → Int32 → Mm → Option (Int32 × Mm)) (x1 : Int32) (x2 : Int32) (x3 : Int32) (x4 : Int32) (σ : Mm) : Option (Int32 × Mm) := (F_X11_hitsOf_52 rc5 x1 x2 x3 x4 1 σ)
set_option maxRecDepth 20000 in
theorem zb_X11_hitsOf_47 {S : Shp} {rc5 : Int32 → Int32 → Int32 → Int32 → Mm → Option (Int32 × Mm)} (hrc5 : ∀ {x1 : Int32} {x2 : Int32} {x3 : Int32} {x4 : Int32} {σ : Mm} {r : Int32 × Mm}, rc5 x1 x2 x3 x4 σ = some r → Z m_X11_hitsOf S (Qi r) 5 [(0, .ref (sL S 0 0 0)), (1, .int (x1)), (2, .int (x2)), (3, .int (x3)), (4, .int (x4))] [] σ) {x1 : Int32} {x2 : Int32} {x3 : Int32} {x4 : Int32} {σ : Mm} {r : Int32 × Mm} (h : F_X11_hitsOf_47 rc5 x1 x2 x3 x4 σ = some r) : Z m_X11_hitsOf S (Qi r) 47 [(0, .ref (sL S 0 0 0)), (1, .int (x1)), (2, .int (x2)), (3, .int (x3)), (4, .int (x4))] [] σ := by
  unfold F_X11_hitsOf_47 at h
  refine z_iconst (v := 1) dX11_hitsOf_47 (by decide) ?_
  refine z_goto (tgt := 52) dX11_hitsOf_48 (by decide) ?_
  exact zb_X11_hitsOf_52 hrc5 h
def B_X11_hitsOf_5 (rc5 : Int32 → Int32 → Int32 → Int32 → Mm → Option (Int32 × Mm)) (x1 : Int32) (x2 : Int32) (x3 : Int32) (x4 : Int32) (σ : Mm) : Option (Int32 × Mm) := (if (mA σ 0 0 15 8) ≤ x4 then some (x3, σ) else (if inb x4 182 = true then (if ((mA σ 0 0 23 x4.toNatClampNeg) / 14) = x1 then (F_X11_hitsOf_47 rc5 x1 x2 x3 x4 σ) else (if ((mA σ 0 0 23 x4.toNatClampNeg) - (mA σ 0 0 23 x4.toNatClampNeg) / 14 * 14) = x1 then (F_X11_hitsOf_47 rc5 x1 x2 x3 x4 σ) else (F_X11_hitsOf_52 rc5 x1 x2 x3 x4 0 σ))) else none))
set_option maxRecDepth 20000 in
theorem zB_X11_hitsOf_5 {S : Shp} {rc5 : Int32 → Int32 → Int32 → Int32 → Mm → Option (Int32 × Mm)} (hrc5 : ∀ {x1 : Int32} {x2 : Int32} {x3 : Int32} {x4 : Int32} {σ : Mm} {r : Int32 × Mm}, rc5 x1 x2 x3 x4 σ = some r → Z m_X11_hitsOf S (Qi r) 5 [(0, .ref (sL S 0 0 0)), (1, .int (x1)), (2, .int (x2)), (3, .int (x3)), (4, .int (x4))] [] σ) {x1 : Int32} {x2 : Int32} {x3 : Int32} {x4 : Int32} {σ : Mm} {r : Int32 × Mm} (h : B_X11_hitsOf_5 rc5 x1 x2 x3 x4 σ = some r) : Z m_X11_hitsOf S (Qi r) 5 [(0, .ref (sL S 0 0 0)), (1, .int (x1)), (2, .int (x2)), (3, .int (x3)), (4, .int (x4))] [] σ := by
  unfold B_X11_hitsOf_5 at h
  refine z_iload dX11_hitsOf_5 4 rfl ?_
  refine z_aload_n dX11_hitsOf_7 rfl 0 rfl ?_
  refine gf_11_53 rfl dX11_hitsOf_8 ?_
  refine gf_11_210 rfl dX11_hitsOf_11 ?_
  refine z_icmp_ge (tgt := 87) dX11_hitsOf_14 (by decide) (fun q => ?_) (fun q => ?_)
  · have h := (if_pos q).symm.trans h
    refine z_iload_n dX11_hitsOf_87 rfl 3 rfl ?_
    cases h
    exact z_ireturn dX11_hitsOf_88 rfl rfl ⟨rfl, rfl⟩
  · have h := (if_neg q).symm.trans h
    obtain ⟨g1, h⟩ := gd h
    refine z_aload_n dX11_hitsOf_17 rfl 0 rfl ?_
    refine gf_11_53 rfl dX11_hitsOf_18 ?_
    refine gf_11_257 rfl dX11_hitsOf_21 ?_
    refine z_iload dX11_hitsOf_24 4 rfl ?_
    refine ia_0_23 (inb_in g1) dX11_hitsOf_26 ?_
    refine z_istore dX11_hitsOf_27 (by decide) [1, 2, 3, 4, 5, 0] rfl ?_
    refine z_iload dX11_hitsOf_29 5 rfl ?_
    refine z_bipush (v := 14) dX11_hitsOf_31 (by decide) ?_
    refine z_idiv dX11_hitsOf_33 (by decide) ?_
    refine z_iload_n dX11_hitsOf_34 rfl 1 rfl ?_
    refine z_icmp_eq (tgt := 47) dX11_hitsOf_35 (by decide) (fun q => ?_) (fun q => ?_)
    · have h := (if_pos q).symm.trans h
      refine Z.lv [0, 1, 2, 3, 4] rfl ?_
      exact zb_X11_hitsOf_47 hrc5 h
    · have h := (if_neg q).symm.trans h
      refine z_iload dX11_hitsOf_38 5 rfl ?_
      refine z_bipush (v := 14) dX11_hitsOf_40 (by decide) ?_
      refine z_irem dX11_hitsOf_42 (by decide) ?_
      refine z_iload_n dX11_hitsOf_43 rfl 1 rfl ?_
      refine z_icmp_ne (tgt := 51) dX11_hitsOf_44 (by decide) (fun q => ?_) (fun q => ?_)
      · have h := (if_neg q).symm.trans h
        refine z_iconst (v := 0) dX11_hitsOf_51 (by decide) ?_
        refine Z.lv [0, 1, 2, 3, 4] rfl ?_
        exact zb_X11_hitsOf_52 hrc5 h
      · have h := (if_pos q).symm.trans h
        refine Z.lv [0, 1, 2, 3, 4] rfl ?_
        exact zb_X11_hitsOf_47 hrc5 h
def F_X11_hitsOf_5 : Nat → Int32 → Int32 → Int32 → Int32 → Mm → Option (Int32 × Mm)
  | 0 => fun _ _ _ _ _ => none
  | n + 1 => B_X11_hitsOf_5 (F_X11_hitsOf_5 n)
theorem zl_X11_hitsOf_5 {S : Shp} (n : Nat) {x1 : Int32} {x2 : Int32} {x3 : Int32} {x4 : Int32} {σ : Mm} {r : Int32 × Mm} (h : F_X11_hitsOf_5 n x1 x2 x3 x4 σ = some r) : Z m_X11_hitsOf S (Qi r) 5 [(0, .ref (sL S 0 0 0)), (1, .int (x1)), (2, .int (x2)), (3, .int (x3)), (4, .int (x4))] [] σ := by
  induction n generalizing x1 x2 x3 x4 σ r with
  | zero => cases h
  | succ n ih => exact zB_X11_hitsOf_5 (fun h => ih h) h
def F_X11_hitsOf (x1 : Int32) (x2 : Int32) (σ : Mm) : Option (Int32 × Mm) := (F_X11_hitsOf_5 FU x1 x2 0 0 σ)
set_option maxRecDepth 20000 in
theorem zb_X11_hitsOf {S : Shp} {x1 : Int32} {x2 : Int32} {σ : Mm} {r : Int32 × Mm} (h : F_X11_hitsOf x1 x2 σ = some r) : Z m_X11_hitsOf S (Qi r) 0 [(0, .ref (sL S 0 0 0)), (1, .int (x1)), (2, .int (x2))] [] σ := by
  unfold F_X11_hitsOf at h
  refine z_iconst (v := 0) dX11_hitsOf_0 (by decide) ?_
  refine z_istore_n dX11_hitsOf_1 rfl (by decide) [1, 2, 3, 0] rfl ?_
  refine z_iconst (v := 0) dX11_hitsOf_2 (by decide) ?_
  refine z_istore dX11_hitsOf_3 (by decide) [1, 2, 3, 4, 0] rfl ?_
  exact zl_X11_hitsOf_5 FU h
/-- SkyStones.hitsOf(II)I -/
theorem c_X11_hitsOf {S : Shp} {x1 : Int32} {x2 : Int32} {σ : Mm} {r : Int32 × Mm} (h : F_X11_hitsOf x1 x2 σ = some r) : Ct m_X11_hitsOf S [.ref (sL S 0 0 0), .int (x1), .int (x2)] σ (Qi r) := Ct.of (by decide) (Nat.le_of_ble_eq_true rfl) (zb_X11_hitsOf h)
def f_X11_isMade (x0 : Int32) (x1 : Int32) : Int32 := (if x0 < 1 then 0 else (if 7 < x0 then 0 else (if x1 < 0 then 0 else (if x0 < x1 then 0 else 1))))
set_option maxRecDepth 20000 in
theorem zb_X11_isMade {S : Shp} {x0 : Int32} {x1 : Int32} {σ : Mm} {r : Int32} (h : f_X11_isMade x0 x1 = r) : Z m_X11_isMade S (Qi (r, σ)) 0 [(0, .int (x0)), (1, .int (x1))] [] σ := by
  unfold f_X11_isMade at h
  refine z_iload_n dX11_isMade_0 rfl 0 rfl ?_
  refine z_iconst (v := 1) dX11_isMade_1 (by decide) ?_
  refine z_icmp_lt (tgt := 24) dX11_isMade_2 (by decide) (fun q => ?_) (fun q => ?_)
  · have h := (if_pos q).symm.trans h
    refine z_iconst (v := 0) dX11_isMade_24 (by decide) ?_
    subst h
    exact z_ireturn dX11_isMade_25 rfl rfl ⟨rfl, rfl⟩
  · have h := (if_neg q).symm.trans h
    refine z_iload_n dX11_isMade_5 rfl 0 rfl ?_
    refine z_bipush (v := 7) dX11_isMade_6 (by decide) ?_
    refine z_icmp_gt (tgt := 24) dX11_isMade_8 (by decide) (fun q => ?_) (fun q => ?_)
    · have h := (if_pos q).symm.trans h
      refine z_iconst (v := 0) dX11_isMade_24 (by decide) ?_
      subst h
      exact z_ireturn dX11_isMade_25 rfl rfl ⟨rfl, rfl⟩
    · have h := (if_neg q).symm.trans h
      refine z_iload_n dX11_isMade_11 rfl 1 rfl ?_
      refine z_if_lt (tgt := 24) dX11_isMade_12 (by decide) (fun q => ?_) (fun q => ?_)
      · have h := (if_pos q).symm.trans h
        refine z_iconst (v := 0) dX11_isMade_24 (by decide) ?_
        subst h
        exact z_ireturn dX11_isMade_25 rfl rfl ⟨rfl, rfl⟩
      · have h := (if_neg q).symm.trans h
        refine z_iload_n dX11_isMade_15 rfl 1 rfl ?_
        refine z_iload_n dX11_isMade_16 rfl 0 rfl ?_
        refine z_icmp_gt (tgt := 24) dX11_isMade_17 (by decide) (fun q => ?_) (fun q => ?_)
        · have h := (if_pos q).symm.trans h
          refine z_iconst (v := 0) dX11_isMade_24 (by decide) ?_
          subst h
          exact z_ireturn dX11_isMade_25 rfl rfl ⟨rfl, rfl⟩
        · have h := (if_neg q).symm.trans h
          refine z_iconst (v := 1) dX11_isMade_20 (by decide) ?_
          refine z_goto (tgt := 25) dX11_isMade_21 (by decide) ?_
          subst h
          exact z_ireturn dX11_isMade_25 rfl rfl ⟨rfl, rfl⟩
/-- SkyStones.isMade(II)Z -/
theorem c_X11_isMade {S : Shp} {x0 : Int32} {x1 : Int32} {σ : Mm} {r : Int32} (h : f_X11_isMade x0 x1 = r) : Ct m_X11_isMade S [.int (x0), .int (x1)] σ (Qi (r, σ)) := Ct.of (by decide) (Nat.le_of_ble_eq_true rfl) (zb_X11_isMade h)
def F_X11_life_68 (rc48 : Int32 → Int32 → Int32 → Int32 → Int32 → Int32 → Mm → Option (Int32 × Mm)) (x1 : Int32) (x2 : Int32) (x3 : Int32) (x4 : Int32) (x5 : Int32) (x6 : Int32) (σ : Mm) : Option (Int32 × Mm) := (rc48 x1 x2 x3 x4 x5 (x6 + 1) σ)
set_option maxRecDepth 20000 in
theorem zb_X11_life_68 {S : Shp} {rc48 : Int32 → Int32 → Int32 → Int32 → Int32 → Int32 → Mm → Option (Int32 × Mm)} (hrc48 : ∀ {x1 : Int32} {x2 : Int32} {x3 : Int32} {x4 : Int32} {x5 : Int32} {x6 : Int32} {σ : Mm} {r : Int32 × Mm}, rc48 x1 x2 x3 x4 x5 x6 σ = some r → Z m_X11_life S (Qi r) 48 [(1, .int (x1)), (2, .int (x2)), (3, .int (x3)), (4, .int (x4)), (5, .int (x5)), (6, .int (x6))] [] σ) {x1 : Int32} {x2 : Int32} {x3 : Int32} {x4 : Int32} {x5 : Int32} {x6 : Int32} {σ : Mm} {r : Int32 × Mm} (h : F_X11_life_68 rc48 x1 x2 x3 x4 x5 x6 σ = some r) : Z m_X11_life S (Qi r) 68 [(1, .int (x1)), (2, .int (x2)), (3, .int (x3)), (4, .int (x4)), (5, .int (x5)), (6, .int (x6))] [] σ := by
  unfold F_X11_life_68 at h
  refine z_iinc (j := 5) (v := x6 + 1) dX11_life_68 rfl rfl (by decide) [1, 2, 3, 4, 5, 0] rfl ?_
  refine z_goto (tgt := 48) dX11_life_71 (by decide) ?_
  exact hrc48 h
def B_X11_life_48 (rc48 : Int32 → Int32 → Int32 → Int32 → Int32 → Int32 → Mm → Option (Int32 × Mm)) (x1 : Int32) (x2 : Int32) (x3 : Int32) (x4 : Int32) (x5 : Int32) (x6 : Int32) (σ : Mm) : Option (Int32 × Mm) := (if (x1 + x2) ≤ x6 then some (x5, σ) else (if ¬ x3 = 0 then (if (x6 - x6 / x3 * x3) = x4 then (F_X11_life_68 rc48 x1 x2 x3 x4 (x5 + 1) x6 σ) else (F_X11_life_68 rc48 x1 x2 x3 x4 x5 x6 σ)) else none))
set_option maxRecDepth 20000 in
theorem zB_X11_life_48 {S : Shp} {rc48 : Int32 → Int32 → Int32 → Int32 → Int32 → Int32 → Mm → Option (Int32 × Mm)} (hrc48 : ∀ {x1 : Int32} {x2 : Int32} {x3 : Int32} {x4 : Int32} {x5 : Int32} {x6 : Int32} {σ : Mm} {r : Int32 × Mm}, rc48 x1 x2 x3 x4 x5 x6 σ = some r → Z m_X11_life S (Qi r) 48 [(1, .int (x1)), (2, .int (x2)), (3, .int (x3)), (4, .int (x4)), (5, .int (x5)), (6, .int (x6))] [] σ) {x1 : Int32} {x2 : Int32} {x3 : Int32} {x4 : Int32} {x5 : Int32} {x6 : Int32} {σ : Mm} {r : Int32 × Mm} (h : B_X11_life_48 rc48 x1 x2 x3 x4 x5 x6 σ = some r) : Z m_X11_life S (Qi r) 48 [(1, .int (x1)), (2, .int (x2)), (3, .int (x3)), (4, .int (x4)), (5, .int (x5)), (6, .int (x6))] [] σ := by
  unfold B_X11_life_48 at h
  refine z_iload dX11_life_48 5 rfl ?_
  refine z_iload_n dX11_life_50 rfl 0 rfl ?_
  refine z_iload_n dX11_life_51 rfl 1 rfl ?_
  refine z_iadd dX11_life_52 ?_
  refine z_icmp_ge (tgt := 74) dX11_life_53 (by decide) (fun q => ?_) (fun q => ?_)
  · have h := (if_pos q).symm.trans h
    refine z_iload dX11_life_74 4 rfl ?_
    cases h
    exact z_ireturn dX11_life_76 rfl rfl ⟨rfl, rfl⟩
  · have h := (if_neg q).symm.trans h
    obtain ⟨g1, h⟩ := gd h
    refine z_iload dX11_life_56 5 rfl ?_
    refine z_iload_n dX11_life_58 rfl 2 rfl ?_
    refine z_irem dX11_life_59 g1 ?_
    refine z_iload dX11_life_60 3 rfl ?_
    refine z_icmp_ne (tgt := 68) dX11_life_62 (by decide) (fun q => ?_) (fun q => ?_)
    · have h := (if_neg q).symm.trans h
      exact zb_X11_life_68 hrc48 h
    · have h := (if_pos q).symm.trans h
      refine z_iinc (j := 4) (v := x5 + 1) dX11_life_65 rfl rfl (by decide) [1, 2, 3, 4, 0, 5] rfl ?_
      exact zb_X11_life_68 hrc48 h
def F_X11_life_48 : Nat → Int32 → Int32 → Int32 → Int32 → Int32 → Int32 → Mm → Option (Int32 × Mm)
  | 0 => fun _ _ _ _ _ _ _ => none
  | n + 1 => B_X11_life_48 (F_X11_life_48 n)
theorem zl_X11_life_48 {S : Shp} (n : Nat) {x1 : Int32} {x2 : Int32} {x3 : Int32} {x4 : Int32} {x5 : Int32} {x6 : Int32} {σ : Mm} {r : Int32 × Mm} (h : F_X11_life_48 n x1 x2 x3 x4 x5 x6 σ = some r) : Z m_X11_life S (Qi r) 48 [(1, .int (x1)), (2, .int (x2)), (3, .int (x3)), (4, .int (x4)), (5, .int (x5)), (6, .int (x6))] [] σ := by
  induction n generalizing x1 x2 x3 x4 x5 x6 σ r with
  | zero => cases h
  | succ n ih => exact zB_X11_life_48 (fun h => ih h) h
def F_X11_life (x1 : Int32) (x2 : Int32) (x3 : Int32) (x4 : Int32) (σ : Mm) : Option (Int32 × Mm) := (if (f_X11_isYear x1) = 0 then some ((-1), σ) else (if x2 < 1 then some ((-1), σ) else (if 90 < x2 then some ((-1), σ) else (if x3 < 2 then some ((-1), σ) else (if 60 < x3 then some ((-1), σ) else (if x4 < 0 then some ((-1), σ) else (if x4 < x3 then (F_X11_life_48 FU x1 x2 x3 x4 0 x1 σ) else some ((-1), σ))))))))
set_option maxRecDepth 20000 in
theorem zb_X11_life {S : Shp} {x1 : Int32} {x2 : Int32} {x3 : Int32} {x4 : Int32} {σ : Mm} {r : Int32 × Mm} (h : F_X11_life x1 x2 x3 x4 σ = some r) : Z m_X11_life S (Qi r) 0 [(0, .ref (sL S 0 0 0)), (1, .int (x1)), (2, .int (x2)), (3, .int (x3)), (4, .int (x4))] [] σ := by
  unfold F_X11_life at h
  refine z_iload_n dX11_life_0 rfl 1 rfl ?_
  refine z_callS (M' := m_X11_isYear) (As := [.int (x1)]) (rest := []) kl_11_219 oy_X11_isYear ⟨Nat.le_of_ble_eq_true rfl, Nat.le_of_ble_eq_true rfl⟩ rfl (Nat.le_of_ble_eq_true rfl) rfl dX11_life_1 (c_X11_isYear rfl) (fun v τ hq => ?_)
  obtain ⟨rfl, rfl⟩ := hq
  change Z _ _ _ _ _ [.int (f_X11_isYear x1)] _
  refine z_if_eq (tgt := 40) dX11_life_4 (by decide) (fun q => ?_) (fun q => ?_)
  · have h := (if_pos q).symm.trans h
    refine z_iconst (v := (-1)) dX11_life_40 (by decide) ?_
    cases h
    exact z_ireturn dX11_life_41 rfl rfl ⟨rfl, rfl⟩
  · have h := (if_neg q).symm.trans h
    refine z_iload_n dX11_life_7 rfl 2 rfl ?_
    refine z_iconst (v := 1) dX11_life_8 (by decide) ?_
    refine z_icmp_lt (tgt := 40) dX11_life_9 (by decide) (fun q => ?_) (fun q => ?_)
    · have h := (if_pos q).symm.trans h
      refine z_iconst (v := (-1)) dX11_life_40 (by decide) ?_
      cases h
      exact z_ireturn dX11_life_41 rfl rfl ⟨rfl, rfl⟩
    · have h := (if_neg q).symm.trans h
      refine z_iload_n dX11_life_12 rfl 2 rfl ?_
      refine z_bipush (v := 90) dX11_life_13 (by decide) ?_
      refine z_icmp_gt (tgt := 40) dX11_life_15 (by decide) (fun q => ?_) (fun q => ?_)
      · have h := (if_pos q).symm.trans h
        refine z_iconst (v := (-1)) dX11_life_40 (by decide) ?_
        cases h
        exact z_ireturn dX11_life_41 rfl rfl ⟨rfl, rfl⟩
      · have h := (if_neg q).symm.trans h
        refine z_iload_n dX11_life_18 rfl 3 rfl ?_
        refine z_iconst (v := 2) dX11_life_19 (by decide) ?_
        refine z_icmp_lt (tgt := 40) dX11_life_20 (by decide) (fun q => ?_) (fun q => ?_)
        · have h := (if_pos q).symm.trans h
          refine z_iconst (v := (-1)) dX11_life_40 (by decide) ?_
          cases h
          exact z_ireturn dX11_life_41 rfl rfl ⟨rfl, rfl⟩
        · have h := (if_neg q).symm.trans h
          refine z_iload_n dX11_life_23 rfl 3 rfl ?_
          refine z_bipush (v := 60) dX11_life_24 (by decide) ?_
          refine z_icmp_gt (tgt := 40) dX11_life_26 (by decide) (fun q => ?_) (fun q => ?_)
          · have h := (if_pos q).symm.trans h
            refine z_iconst (v := (-1)) dX11_life_40 (by decide) ?_
            cases h
            exact z_ireturn dX11_life_41 rfl rfl ⟨rfl, rfl⟩
          · have h := (if_neg q).symm.trans h
            refine z_iload dX11_life_29 4 rfl ?_
            refine z_if_lt (tgt := 40) dX11_life_31 (by decide) (fun q => ?_) (fun q => ?_)
            · have h := (if_pos q).symm.trans h
              refine z_iconst (v := (-1)) dX11_life_40 (by decide) ?_
              cases h
              exact z_ireturn dX11_life_41 rfl rfl ⟨rfl, rfl⟩
            · have h := (if_neg q).symm.trans h
              refine z_iload dX11_life_34 4 rfl ?_
              refine z_iload_n dX11_life_36 rfl 3 rfl ?_
              refine z_icmp_lt (tgt := 42) dX11_life_37 (by decide) (fun q => ?_) (fun q => ?_)
              · have h := (if_pos q).symm.trans h
                refine z_iconst (v := 0) dX11_life_42 (by decide) ?_
                refine z_istore dX11_life_43 (by decide) [1, 2, 3, 4, 5, 0] rfl ?_
                refine z_iload_n dX11_life_45 rfl 1 rfl ?_
                refine z_istore dX11_life_46 (by decide) [1, 2, 3, 4, 5, 6, 0] rfl ?_
                refine Z.lv [1, 2, 3, 4, 5, 6] rfl ?_
                exact zl_X11_life_48 FU h
              · have h := (if_neg q).symm.trans h
                refine z_iconst (v := (-1)) dX11_life_40 (by decide) ?_
                cases h
                exact z_ireturn dX11_life_41 rfl rfl ⟨rfl, rfl⟩
/-- SkyStones.life(IIII)I -/
theorem c_X11_life {S : Shp} {x1 : Int32} {x2 : Int32} {x3 : Int32} {x4 : Int32} {σ : Mm} {r : Int32 × Mm} (h : F_X11_life x1 x2 x3 x4 σ = some r) : Ct m_X11_life S [.ref (sL S 0 0 0), .int (x1), .int (x2), .int (x3), .int (x4)] σ (Qi r) := Ct.of (by decide) (Nat.le_of_ble_eq_true rfl) (zb_X11_life h)
def F_X2_joinedInAll_22 (rc4 : Int32 → Int32 → Mm → Option (Int32 × Mm)) (x1 : Int32) (x2 : Int32) (σ : Mm) : Option (Int32 × Mm) := (rc4 x1 (x2 + 1) σ)
set_option maxRecDepth 20000 in
theorem zb_X2_joinedInAll_22 {S : Shp} {rc4 : Int32 → Int32 → Mm → Option (Int32 × Mm)} (hrc4 : ∀ {x1 : Int32} {x2 : Int32} {σ : Mm} {r : Int32 × Mm}, rc4 x1 x2 σ = some r → Z m_X2_joinedInAll S (Qi r) 4 [(0, .ref (sL S 0 0 15)), (1, .int (x1)), (2, .int (x2))] [] σ) {x1 : Int32} {x2 : Int32} {σ : Mm} {r : Int32 × Mm} (h : F_X2_joinedInAll_22 rc4 x1 x2 σ = some r) : Z m_X2_joinedInAll S (Qi r) 22 [(0, .ref (sL S 0 0 15)), (1, .int (x1)), (2, .int (x2))] [] σ := by
  unfold F_X2_joinedInAll_22 at h
  refine z_iinc (j := 2) (v := x2 + 1) dX2_joinedInAll_22 rfl rfl (by decide) [1, 2, 0] rfl ?_
  refine z_goto (tgt := 4) dX2_joinedInAll_25 (by decide) ?_
  exact hrc4 h
def F_X2_joinedInAll_16 (rc4 : Int32 → Int32 → Mm → Option (Int32 × Mm)) (x1 : Int32) (x2 : Int32) (s0 : Int32) (σ : Mm) : Option (Int32 × Mm) := (if s0 = 0 then (F_X2_joinedInAll_22 rc4 x1 x2 σ) else (F_X2_joinedInAll_22 rc4 (x1 + 1) x2 σ))
set_option maxRecDepth 20000 in
theorem zb_X2_joinedInAll_16 {S : Shp} {rc4 : Int32 → Int32 → Mm → Option (Int32 × Mm)} (hrc4 : ∀ {x1 : Int32} {x2 : Int32} {σ : Mm} {r : Int32 × Mm}, rc4 x1 x2 σ = some r → Z m_X2_joinedInAll S (Qi r) 4 [(0, .ref (sL S 0 0 15)), (1, .int (x1)), (2, .int (x2))] [] σ) {x1 : Int32} {x2 : Int32} {s0 : Int32} {σ : Mm} {r : Int32 × Mm} (h : F_X2_joinedInAll_16 rc4 x1 x2 s0 σ = some r) : Z m_X2_joinedInAll S (Qi r) 16 [(0, .ref (sL S 0 0 15)), (1, .int (x1)), (2, .int (x2))] [.int (s0)] σ := by
  unfold F_X2_joinedInAll_16 at h
  refine z_if_eq (tgt := 22) dX2_joinedInAll_16 (by decide) (fun q => ?_) (fun q => ?_)
  · have h := (if_pos q).symm.trans h
    exact zb_X2_joinedInAll_22 hrc4 h
  · have h := (if_neg q).symm.trans h
    refine z_iinc (j := 1) (v := x1 + 1) dX2_joinedInAll_19 rfl rfl (by decide) [1, 0, 2] rfl ?_
    exact zb_X2_joinedInAll_22 hrc4 h
def B_X2_joinedInAll_4 (rc4 : Int32 → Int32 → Mm → Option (Int32 × Mm)) (x1 : Int32) (x2 : Int32) (σ : Mm) : Option (Int32 × Mm) := (if 196 ≤ x2 then some (x1, σ) else (bnd (F_X2_joins x2 σ) (fun v τ => (F_X2_joinedInAll_16 rc4 x1 x2 v τ))))
set_option maxRecDepth 20000 in
theorem zB_X2_joinedInAll_4 {S : Shp} {rc4 : Int32 → Int32 → Mm → Option (Int32 × Mm)} (hrc4 : ∀ {x1 : Int32} {x2 : Int32} {σ : Mm} {r : Int32 × Mm}, rc4 x1 x2 σ = some r → Z m_X2_joinedInAll S (Qi r) 4 [(0, .ref (sL S 0 0 15)), (1, .int (x1)), (2, .int (x2))] [] σ) {x1 : Int32} {x2 : Int32} {σ : Mm} {r : Int32 × Mm} (h : B_X2_joinedInAll_4 rc4 x1 x2 σ = some r) : Z m_X2_joinedInAll S (Qi r) 4 [(0, .ref (sL S 0 0 15)), (1, .int (x1)), (2, .int (x2))] [] σ := by
  unfold B_X2_joinedInAll_4 at h
  refine z_iload_n dX2_joinedInAll_4 rfl 2 rfl ?_
  refine z_sipush (v := 196) dX2_joinedInAll_5 (by decide) ?_
  refine z_icmp_ge (tgt := 28) dX2_joinedInAll_8 (by decide) (fun q => ?_) (fun q => ?_)
  · have h := (if_pos q).symm.trans h
    refine z_iload_n dX2_joinedInAll_28 rfl 1 rfl ?_
    cases h
    exact z_ireturn dX2_joinedInAll_29 rfl rfl ⟨rfl, rfl⟩
  · have h := (if_neg q).symm.trans h
    refine z_aload_n dX2_joinedInAll_11 rfl 0 rfl ?_
    refine z_iload_n dX2_joinedInAll_12 rfl 2 rfl ?_
    obtain ⟨v, τ, hc, h⟩ := bnd_e h
    refine z_callV (M' := m_X2_joins) (t := 0) (i := 0) (k := 15) (As := [.int (x2)]) (rest := []) kl_2_84 oy_X2_joins ⟨Nat.le_of_ble_eq_true rfl, Nat.le_of_ble_eq_true rfl⟩ rfl rfl rfl rfl (Nat.le_of_ble_eq_true rfl) rfl dX2_joinedInAll_13 (c_X2_joins hc) (fun v2 τ2 hq => ?_)
    obtain ⟨rfl, rfl⟩ := hq
    change Z _ _ _ _ _ [.int (v)] _
    exact zb_X2_joinedInAll_16 hrc4 h
def F_X2_joinedInAll_4 : Nat → Int32 → Int32 → Mm → Option (Int32 × Mm)
  | 0 => fun _ _ _ => none
  | n + 1 => B_X2_joinedInAll_4 (F_X2_joinedInAll_4 n)
theorem zl_X2_joinedInAll_4 {S : Shp} (n : Nat) {x1 : Int32} {x2 : Int32} {σ : Mm} {r : Int32 × Mm} (h : F_X2_joinedInAll_4 n x1 x2 σ = some r) : Z m_X2_joinedInAll S (Qi r) 4 [(0, .ref (sL S 0 0 15)), (1, .int (x1)), (2, .int (x2))] [] σ := by
  induction n generalizing x1 x2 σ r with
  | zero => cases h
  | succ n ih => exact zB_X2_joinedInAll_4 (fun h => ih h) h
def F_X2_joinedInAll (σ : Mm) : Option (Int32 × Mm) := (F_X2_joinedInAll_4 FU 0 0 σ)
set_option maxRecDepth 20000 in
theorem zb_X2_joinedInAll {S : Shp} {σ : Mm} {r : Int32 × Mm} (h : F_X2_joinedInAll σ = some r) : Z m_X2_joinedInAll S (Qi r) 0 [(0, .ref (sL S 0 0 15))] [] σ := by
  unfold F_X2_joinedInAll at h
  refine z_iconst (v := 0) dX2_joinedInAll_0 (by decide) ?_
  refine z_istore_n dX2_joinedInAll_1 rfl (by decide) [1, 0] rfl ?_
  refine z_iconst (v := 0) dX2_joinedInAll_2 (by decide) ?_
  refine z_istore_n dX2_joinedInAll_3 rfl (by decide) [1, 2, 0] rfl ?_
  exact zl_X2_joinedInAll_4 FU h
/-- SkyStones$Ground.joinedInAll()I -/
theorem c_X2_joinedInAll {S : Shp} {σ : Mm} {r : Int32 × Mm} (h : F_X2_joinedInAll σ = some r) : Ct m_X2_joinedInAll S [.ref (sL S 0 0 15)] σ (Qi r) := Ct.of (by decide) (Nat.le_of_ble_eq_true rfl) (zb_X2_joinedInAll h)
def f_X1_eastward (x0 : Int32) : Int32 := (if 45 < x0 then (if 135 < x0 then (if 225 < x0 then (if 315 < x0 then x0 - 360 else (-45)) else 180 - x0) else 45) else x0)
set_option maxRecDepth 20000 in
theorem zb_X1_eastward {S : Shp} {x0 : Int32} {σ : Mm} {r : Int32} (h : f_X1_eastward x0 = r) : Z m_X1_eastward S (Qi (r, σ)) 0 [(0, .int (x0))] [] σ := by
  unfold f_X1_eastward at h
  refine z_iload_n dX1_eastward_0 rfl 0 rfl ?_
  refine z_bipush (v := 45) dX1_eastward_1 (by decide) ?_
  refine z_icmp_gt (tgt := 8) dX1_eastward_3 (by decide) (fun q => ?_) (fun q => ?_)
  · have h := (if_pos q).symm.trans h
    refine z_iload_n dX1_eastward_8 rfl 0 rfl ?_
    refine z_sipush (v := 135) dX1_eastward_9 (by decide) ?_
    refine z_icmp_gt (tgt := 18) dX1_eastward_12 (by decide) (fun q => ?_) (fun q => ?_)
    · have h := (if_pos q).symm.trans h
      refine z_iload_n dX1_eastward_18 rfl 0 rfl ?_
      refine z_sipush (v := 225) dX1_eastward_19 (by decide) ?_
      refine z_icmp_gt (tgt := 31) dX1_eastward_22 (by decide) (fun q => ?_) (fun q => ?_)
      · have h := (if_pos q).symm.trans h
        refine z_iload_n dX1_eastward_31 rfl 0 rfl ?_
        refine z_sipush (v := 315) dX1_eastward_32 (by decide) ?_
        refine z_icmp_gt (tgt := 43) dX1_eastward_35 (by decide) (fun q => ?_) (fun q => ?_)
        · have h := (if_pos q).symm.trans h
          refine z_iload_n dX1_eastward_43 rfl 0 rfl ?_
          refine z_sipush (v := 360) dX1_eastward_44 (by decide) ?_
          refine z_isub dX1_eastward_47 ?_
          subst h
          exact z_ireturn dX1_eastward_48 rfl rfl ⟨rfl, rfl⟩
        · have h := (if_neg q).symm.trans h
          refine z_bipush (v := (-45)) dX1_eastward_38 (by decide) ?_
          refine z_goto (tgt := 48) dX1_eastward_40 (by decide) ?_
          subst h
          exact z_ireturn dX1_eastward_48 rfl rfl ⟨rfl, rfl⟩
      · have h := (if_neg q).symm.trans h
        refine z_sipush (v := 180) dX1_eastward_25 (by decide) ?_
        refine z_iload_n dX1_eastward_28 rfl 0 rfl ?_
        refine z_isub dX1_eastward_29 ?_
        subst h
        exact z_ireturn dX1_eastward_30 rfl rfl ⟨rfl, rfl⟩
    · have h := (if_neg q).symm.trans h
      refine z_bipush (v := 45) dX1_eastward_15 (by decide) ?_
      subst h
      exact z_ireturn dX1_eastward_17 rfl rfl ⟨rfl, rfl⟩
  · have h := (if_neg q).symm.trans h
    refine z_iload_n dX1_eastward_6 rfl 0 rfl ?_
    subst h
    exact z_ireturn dX1_eastward_7 rfl rfl ⟨rfl, rfl⟩
/-- SkyStones$Compass.eastward(I)I -/
theorem c_X1_eastward {S : Shp} {x0 : Int32} {σ : Mm} {r : Int32} (h : f_X1_eastward x0 = r) : Ct m_X1_eastward S [.int (x0)] σ (Qi (r, σ)) := Ct.of (by decide) (Nat.le_of_ble_eq_true rfl) (zb_X1_eastward h)
def f_X1_northward (x0 : Int32) : Int32 := (if 45 < x0 then (if 135 < x0 then (if 225 < x0 then (if 315 < x0 then 45 else x0 - 270) else (-45)) else 90 - x0) else 45)
set_option maxRecDepth 20000 in
theorem zb_X1_northward {S : Shp} {x0 : Int32} {σ : Mm} {r : Int32} (h : f_X1_northward x0 = r) : Z m_X1_northward S (Qi (r, σ)) 0 [(0, .int (x0))] [] σ := by
  unfold f_X1_northward at h
  refine z_iload_n dX1_northward_0 rfl 0 rfl ?_
  refine z_bipush (v := 45) dX1_northward_1 (by decide) ?_
  refine z_icmp_gt (tgt := 9) dX1_northward_3 (by decide) (fun q => ?_) (fun q => ?_)
  · have h := (if_pos q).symm.trans h
    refine z_iload_n dX1_northward_9 rfl 0 rfl ?_
    refine z_sipush (v := 135) dX1_northward_10 (by decide) ?_
    refine z_icmp_gt (tgt := 21) dX1_northward_13 (by decide) (fun q => ?_) (fun q => ?_)
    · have h := (if_pos q).symm.trans h
      refine z_iload_n dX1_northward_21 rfl 0 rfl ?_
      refine z_sipush (v := 225) dX1_northward_22 (by decide) ?_
      refine z_icmp_gt (tgt := 31) dX1_northward_25 (by decide) (fun q => ?_) (fun q => ?_)
      · have h := (if_pos q).symm.trans h
        refine z_iload_n dX1_northward_31 rfl 0 rfl ?_
        refine z_sipush (v := 315) dX1_northward_32 (by decide) ?_
        refine z_icmp_gt (tgt := 46) dX1_northward_35 (by decide) (fun q => ?_) (fun q => ?_)
        · have h := (if_pos q).symm.trans h
          refine z_bipush (v := 45) dX1_northward_46 (by decide) ?_
          subst h
          exact z_ireturn dX1_northward_48 rfl rfl ⟨rfl, rfl⟩
        · have h := (if_neg q).symm.trans h
          refine z_iload_n dX1_northward_38 rfl 0 rfl ?_
          refine z_sipush (v := 270) dX1_northward_39 (by decide) ?_
          refine z_isub dX1_northward_42 ?_
          refine z_goto (tgt := 48) dX1_northward_43 (by decide) ?_
          subst h
          exact z_ireturn dX1_northward_48 rfl rfl ⟨rfl, rfl⟩
      · have h := (if_neg q).symm.trans h
        refine z_bipush (v := (-45)) dX1_northward_28 (by decide) ?_
        subst h
        exact z_ireturn dX1_northward_30 rfl rfl ⟨rfl, rfl⟩
    · have h := (if_neg q).symm.trans h
      refine z_bipush (v := 90) dX1_northward_16 (by decide) ?_
      refine z_iload_n dX1_northward_18 rfl 0 rfl ?_
      refine z_isub dX1_northward_19 ?_
      subst h
      exact z_ireturn dX1_northward_20 rfl rfl ⟨rfl, rfl⟩
  · have h := (if_neg q).symm.trans h
    refine z_bipush (v := 45) dX1_northward_6 (by decide) ?_
    subst h
    exact z_ireturn dX1_northward_8 rfl rfl ⟨rfl, rfl⟩
/-- SkyStones$Compass.northward(I)I -/
theorem c_X1_northward {S : Shp} {x0 : Int32} {σ : Mm} {r : Int32} (h : f_X1_northward x0 = r) : Ct m_X1_northward S [.int (x0)] σ (Qi (r, σ)) := Ct.of (by decide) (Nat.le_of_ble_eq_true rfl) (zb_X1_northward h)
def f_X3_stir (x0 : Int32) (x1 : Int32) : Int32 := (((x0 ^^^ x1) * 1103515245) + 12345) ^^^ (((((x0 ^^^ x1) * 1103515245) + 12345).toUInt32 >>> ((15 : Int32).toUInt32 &&& Int32.toUInt32 31)).toInt32)
set_option maxRecDepth 20000 in
theorem zb_X3_stir {S : Shp} {x0 : Int32} {x1 : Int32} {σ : Mm} {r : Int32} (h : f_X3_stir x0 x1 = r) : Z m_X3_stir S (Qi (r, σ)) 0 [(0, .int (x0)), (1, .int (x1))] [] σ := by
  unfold f_X3_stir at h
  refine z_iload_n dX3_stir_0 rfl 0 rfl ?_
  refine z_iload_n dX3_stir_1 rfl 1 rfl ?_
  refine z_ixor dX3_stir_2 ?_
  refine z_ldc qw_1049 dX3_stir_3 ?_
  refine z_imul dX3_stir_5 ?_
  refine z_sipush (v := 12345) dX3_stir_6 (by decide) ?_
  refine z_iadd dX3_stir_9 ?_
  refine z_istore_n dX3_stir_10 rfl (by decide) [1, 2, 0] rfl ?_
  refine z_iload_n dX3_stir_11 rfl 2 rfl ?_
  refine z_iload_n dX3_stir_12 rfl 2 rfl ?_
  refine z_bipush (v := 15) dX3_stir_13 (by decide) ?_
  refine z_iushr dX3_stir_15 ?_
  refine z_ixor dX3_stir_16 ?_
  subst h
  exact z_ireturn dX3_stir_17 rfl rfl ⟨rfl, rfl⟩
/-- SkyStones$Maker.stir(II)I -/
theorem c_X3_stir {S : Shp} {x0 : Int32} {x1 : Int32} {σ : Mm} {r : Int32} (h : f_X3_stir x0 x1 = r) : Ct m_X3_stir S [.int (x0), .int (x1)] σ (Qi (r, σ)) := Ct.of (by decide) (Nat.le_of_ble_eq_true rfl) (zb_X3_stir h)
def F_X3_lot (x0 : Int32) (x1 : Int32) (x2 : Int32) (σ : Mm) : Option (Int32 × Mm) := (if 1 ≤ x0 then (if ¬ x0 = 0 then some ((((f_X3_stir (f_X3_stir x1 2) x2).toUInt32 >>> ((1 : Int32).toUInt32 &&& Int32.toUInt32 31)).toInt32) - (((f_X3_stir (f_X3_stir x1 2) x2).toUInt32 >>> ((1 : Int32).toUInt32 &&& Int32.toUInt32 31)).toInt32) / x0 * x0, σ) else none) else some (0, σ))
set_option maxRecDepth 20000 in
theorem zb_X3_lot {S : Shp} {x0 : Int32} {x1 : Int32} {x2 : Int32} {σ : Mm} {r : Int32 × Mm} (h : F_X3_lot x0 x1 x2 σ = some r) : Z m_X3_lot S (Qi r) 0 [(0, .int (x0)), (1, .int (x1)), (2, .int (x2))] [] σ := by
  unfold F_X3_lot at h
  refine z_iload_n dX3_lot_0 rfl 0 rfl ?_
  refine z_iconst (v := 1) dX3_lot_1 (by decide) ?_
  refine z_icmp_ge (tgt := 7) dX3_lot_2 (by decide) (fun q => ?_) (fun q => ?_)
  · have h := (if_pos q).symm.trans h
    obtain ⟨g1, h⟩ := gd h
    refine z_iload_n dX3_lot_7 rfl 1 rfl ?_
    refine z_iconst (v := 2) dX3_lot_8 (by decide) ?_
    refine z_callS (M' := m_X3_stir) (As := [.int (x1), .int (2)]) (rest := []) kl_3_40 oy_X3_stir ⟨Nat.le_of_ble_eq_true rfl, Nat.le_of_ble_eq_true rfl⟩ rfl (Nat.le_of_ble_eq_true rfl) rfl dX3_lot_9 (c_X3_stir rfl) (fun v τ hq => ?_)
    obtain ⟨rfl, rfl⟩ := hq
    change Z _ _ _ _ _ [.int (f_X3_stir x1 2)] _
    refine z_iload_n dX3_lot_12 rfl 2 rfl ?_
    refine z_callS (M' := m_X3_stir) (As := [.int (f_X3_stir x1 2), .int (x2)]) (rest := []) kl_3_40 oy_X3_stir ⟨Nat.le_of_ble_eq_true rfl, Nat.le_of_ble_eq_true rfl⟩ rfl (Nat.le_of_ble_eq_true rfl) rfl dX3_lot_13 (c_X3_stir rfl) (fun v τ hq => ?_)
    obtain ⟨rfl, rfl⟩ := hq
    change Z _ _ _ _ _ [.int (f_X3_stir (f_X3_stir x1 2) x2)] _
    refine z_iconst (v := 1) dX3_lot_16 (by decide) ?_
    refine z_iushr dX3_lot_17 ?_
    refine z_iload_n dX3_lot_18 rfl 0 rfl ?_
    refine z_irem dX3_lot_19 g1 ?_
    cases h
    exact z_ireturn dX3_lot_20 rfl rfl ⟨rfl, rfl⟩
  · have h := (if_neg q).symm.trans h
    refine z_iconst (v := 0) dX3_lot_5 (by decide) ?_
    cases h
    exact z_ireturn dX3_lot_6 rfl rfl ⟨rfl, rfl⟩
/-- SkyStones$Maker.lot(III)I -/
theorem c_X3_lot {S : Shp} {x0 : Int32} {x1 : Int32} {x2 : Int32} {σ : Mm} {r : Int32 × Mm} (h : F_X3_lot x0 x1 x2 σ = some r) : Ct m_X3_lot S [.int (x0), .int (x1), .int (x2)] σ (Qi r) := Ct.of (by decide) (Nat.le_of_ble_eq_true rfl) (zb_X3_lot h)
def F_X3_make_189 (rc3 : Int32 → Int32 → Int32 → Int32 → Mm → Option (Mm)) (x1 : Int32) (x2 : Int32) (x3 : Int32) (x5 : Int32) (x6 : Int32) (x7 : Int32) (s0 : Int32) (s2 : Int32) (σ : Mm) : Option (Mm) := (if inb s0 14 = true then (if inb s2 14 = true then (rc3 x1 x2 x3 (x5 + 1) (setA σ 0 0 42 (upd (mA σ 0 0 42) s2.toNatClampNeg ((mA σ 0 0 42 s0.toNatClampNeg) + (x7 * (f_X1_northward x6)))))) else none) else none)
set_option maxRecDepth 20000 in
theorem zb_X3_make_189 {S : Shp} {rc3 : Int32 → Int32 → Int32 → Int32 → Mm → Option (Mm)} (hrc3 : ∀ {x1 : Int32} {x2 : Int32} {x3 : Int32} {x5 : Int32} {σ : Mm} {r : Mm}, rc3 x1 x2 x3 x5 σ = some r → Z m_X3_make S (Qv r) 3 [(0, .ref (sL S 0 0 40)), (1, .int (x1)), (2, .int (x2)), (3, .int (x3)), (4, .ref (sL S 0 0 25)), (5, .int (x5))] [] σ) {x1 : Int32} {x2 : Int32} {x3 : Int32} {x5 : Int32} {x6 : Int32} {x7 : Int32} {s0 : Int32} {s2 : Int32} {σ : Mm} {r : Mm} (h : F_X3_make_189 rc3 x1 x2 x3 x5 x6 x7 s0 s2 σ = some r) : Z m_X3_make S (Qv r) 189 [(0, .ref (sL S 0 0 40)), (1, .int (x1)), (2, .int (x2)), (3, .int (x3)), (4, .ref (sL S 0 0 25)), (5, .int (x5)), (6, .int (x6)), (7, .int (x7))] [.int (s0), .ref (sL S 0 0 42), .int (s2), .ref (sL S 0 0 42)] σ := by
  unfold F_X3_make_189 at h
  obtain ⟨g6, h⟩ := gd h
  obtain ⟨g7, h⟩ := gd h
  refine ia_0_42 (inb_in g6) dX3_make_189 ?_
  refine z_iload dX3_make_190 7 rfl ?_
  refine z_iload dX3_make_192 6 rfl ?_
  refine z_callS (M' := m_X1_northward) (As := [.int (x6)]) (rest := [.int (x7), .int (mA σ 0 0 42 s0.toNatClampNeg), .int (s2), .ref (sL S 0 0 42)]) kl_3_37 oy_X1_northward ⟨Nat.le_of_ble_eq_true rfl, Nat.le_of_ble_eq_true rfl⟩ rfl (Nat.le_of_ble_eq_true rfl) rfl dX3_make_194 (c_X1_northward rfl) (fun v τ hq => ?_)
  obtain ⟨rfl, rfl⟩ := hq
  change Z _ _ _ _ _ [.int (f_X1_northward x6), .int (x7), .int (mA σ 0 0 42 s0.toNatClampNeg), .int (s2), .ref (sL S 0 0 42)] _
  refine z_imul dX3_make_197 ?_
  refine z_iadd dX3_make_198 ?_
  refine is_0_42 (inb_in g7) dX3_make_199 ?_
  refine z_iinc (j := 5) (v := x5 + 1) dX3_make_200 rfl rfl (by decide) [1, 2, 3, 4, 5, 0, 6, 7] rfl ?_
  refine z_goto (tgt := 3) dX3_make_203 (by decide) ?_
  refine Z.lv [0, 1, 2, 3, 4, 5] rfl ?_
  exact hrc3 h
def F_X3_make_160 (rc3 : Int32 → Int32 → Int32 → Int32 → Mm → Option (Mm)) (x1 : Int32) (x2 : Int32) (x3 : Int32) (x5 : Int32) (x6 : Int32) (x7 : Int32) (s0 : Int32) (s2 : Int32) (σ : Mm) : Option (Mm) := (if inb s0 14 = true then (if inb s2 14 = true then (F_X3_make_189 rc3 x1 x2 x3 x5 x6 x7 (2 * x5) ((2 * x5) + 1) (setA σ 0 0 41 (upd (mA σ 0 0 41) s2.toNatClampNeg ((mA σ 0 0 41 s0.toNatClampNeg) + (x7 * (f_X1_eastward x6)))))) else none) else none)
set_option maxRecDepth 20000 in
theorem zb_X3_make_160 {S : Shp} {rc3 : Int32 → Int32 → Int32 → Int32 → Mm → Option (Mm)} (hrc3 : ∀ {x1 : Int32} {x2 : Int32} {x3 : Int32} {x5 : Int32} {σ : Mm} {r : Mm}, rc3 x1 x2 x3 x5 σ = some r → Z m_X3_make S (Qv r) 3 [(0, .ref (sL S 0 0 40)), (1, .int (x1)), (2, .int (x2)), (3, .int (x3)), (4, .ref (sL S 0 0 25)), (5, .int (x5))] [] σ) {x1 : Int32} {x2 : Int32} {x3 : Int32} {x5 : Int32} {x6 : Int32} {x7 : Int32} {s0 : Int32} {s2 : Int32} {σ : Mm} {r : Mm} (h : F_X3_make_160 rc3 x1 x2 x3 x5 x6 x7 s0 s2 σ = some r) : Z m_X3_make S (Qv r) 160 [(0, .ref (sL S 0 0 40)), (1, .int (x1)), (2, .int (x2)), (3, .int (x3)), (4, .ref (sL S 0 0 25)), (5, .int (x5)), (6, .int (x6)), (7, .int (x7))] [.int (s0), .ref (sL S 0 0 41), .int (s2), .ref (sL S 0 0 41)] σ := by
  unfold F_X3_make_160 at h
  obtain ⟨g4, h⟩ := gd h
  obtain ⟨g5, h⟩ := gd h
  refine ia_0_41 (inb_in g4) dX3_make_160 ?_
  refine z_iload dX3_make_161 7 rfl ?_
  refine z_iload dX3_make_163 6 rfl ?_
  refine z_callS (M' := m_X1_eastward) (As := [.int (x6)]) (rest := [.int (x7), .int (mA σ 0 0 41 s0.toNatClampNeg), .int (s2), .ref (sL S 0 0 41)]) kl_3_31 oy_X1_eastward ⟨Nat.le_of_ble_eq_true rfl, Nat.le_of_ble_eq_true rfl⟩ rfl (Nat.le_of_ble_eq_true rfl) rfl dX3_make_165 (c_X1_eastward rfl) (fun v τ hq => ?_)
  obtain ⟨rfl, rfl⟩ := hq
  change Z _ _ _ _ _ [.int (f_X1_eastward x6), .int (x7), .int (mA σ 0 0 41 s0.toNatClampNeg), .int (s2), .ref (sL S 0 0 41)] _
  refine z_imul dX3_make_168 ?_
  refine z_iadd dX3_make_169 ?_
  refine is_0_41 (inb_in g5) dX3_make_170 ?_
  refine z_aload_n dX3_make_171 rfl 0 rfl ?_
  refine gf_3_15 rfl dX3_make_172 ?_
  refine z_iconst (v := 2) dX3_make_175 (by decide) ?_
  refine z_iload dX3_make_176 5 rfl ?_
  refine z_imul dX3_make_178 ?_
  refine z_iconst (v := 1) dX3_make_179 (by decide) ?_
  refine z_iadd dX3_make_180 ?_
  refine z_aload_n dX3_make_181 rfl 0 rfl ?_
  refine gf_3_15 rfl dX3_make_182 ?_
  refine z_iconst (v := 2) dX3_make_185 (by decide) ?_
  refine z_iload dX3_make_186 5 rfl ?_
  refine z_imul dX3_make_188 ?_
  exact zb_X3_make_189 hrc3 h
def F_X3_make_140 (rc3 : Int32 → Int32 → Int32 → Int32 → Mm → Option (Mm)) (x1 : Int32) (x2 : Int32) (x3 : Int32) (x5 : Int32) (x6 : Int32) (x7 : Int32) (s0 : Int32) (s1 : Int32) (s2 : Int32) (σ : Mm) : Option (Mm) := (if inb s2 14 = true then (F_X3_make_160 rc3 x1 x2 x3 x5 x6 x7 (2 * x5) ((2 * x5) + 1) (setA σ 0 0 42 (upd (mA σ 0 0 42) s2.toNatClampNeg (s1 + s0)))) else none)
set_option maxRecDepth 20000 in
theorem zb_X3_make_140 {S : Shp} {rc3 : Int32 → Int32 → Int32 → Int32 → Mm → Option (Mm)} (hrc3 : ∀ {x1 : Int32} {x2 : Int32} {x3 : Int32} {x5 : Int32} {σ : Mm} {r : Mm}, rc3 x1 x2 x3 x5 σ = some r → Z m_X3_make S (Qv r) 3 [(0, .ref (sL S 0 0 40)), (1, .int (x1)), (2, .int (x2)), (3, .int (x3)), (4, .ref (sL S 0 0 25)), (5, .int (x5))] [] σ) {x1 : Int32} {x2 : Int32} {x3 : Int32} {x5 : Int32} {x6 : Int32} {x7 : Int32} {s0 : Int32} {s1 : Int32} {s2 : Int32} {σ : Mm} {r : Mm} (h : F_X3_make_140 rc3 x1 x2 x3 x5 x6 x7 s0 s1 s2 σ = some r) : Z m_X3_make S (Qv r) 140 [(0, .ref (sL S 0 0 40)), (1, .int (x1)), (2, .int (x2)), (3, .int (x3)), (4, .ref (sL S 0 0 25)), (5, .int (x5)), (6, .int (x6)), (7, .int (x7))] [.int (s0), .int (s1), .int (s2), .ref (sL S 0 0 42)] σ := by
  unfold F_X3_make_140 at h
  obtain ⟨g3, h⟩ := gd h
  refine z_iadd dX3_make_140 ?_
  refine is_0_42 (inb_in g3) dX3_make_141 ?_
  refine z_aload_n dX3_make_142 rfl 0 rfl ?_
  refine gf_3_9 rfl dX3_make_143 ?_
  refine z_iconst (v := 2) dX3_make_146 (by decide) ?_
  refine z_iload dX3_make_147 5 rfl ?_
  refine z_imul dX3_make_149 ?_
  refine z_iconst (v := 1) dX3_make_150 (by decide) ?_
  refine z_iadd dX3_make_151 ?_
  refine z_aload_n dX3_make_152 rfl 0 rfl ?_
  refine gf_3_9 rfl dX3_make_153 ?_
  refine z_iconst (v := 2) dX3_make_156 (by decide) ?_
  refine z_iload dX3_make_157 5 rfl ?_
  refine z_imul dX3_make_159 ?_
  exact zb_X3_make_160 hrc3 h
def F_X3_make_137 (rc3 : Int32 → Int32 → Int32 → Int32 → Mm → Option (Mm)) (x1 : Int32) (x2 : Int32) (x3 : Int32) (x5 : Int32) (x6 : Int32) (x7 : Int32) (s0 : Int32) (s1 : Int32) (s2 : Int32) (s3 : Int32) (s4 : Int32) (σ : Mm) : Option (Mm) := (bnd (F_X3_lot s2 s1 s0 σ) (fun v τ => (F_X3_make_140 rc3 x1 x2 x3 x5 x6 x7 v s3 s4 τ)))
set_option maxRecDepth 20000 in
theorem zb_X3_make_137 {S : Shp} {rc3 : Int32 → Int32 → Int32 → Int32 → Mm → Option (Mm)} (hrc3 : ∀ {x1 : Int32} {x2 : Int32} {x3 : Int32} {x5 : Int32} {σ : Mm} {r : Mm}, rc3 x1 x2 x3 x5 σ = some r → Z m_X3_make S (Qv r) 3 [(0, .ref (sL S 0 0 40)), (1, .int (x1)), (2, .int (x2)), (3, .int (x3)), (4, .ref (sL S 0 0 25)), (5, .int (x5))] [] σ) {x1 : Int32} {x2 : Int32} {x3 : Int32} {x5 : Int32} {x6 : Int32} {x7 : Int32} {s0 : Int32} {s1 : Int32} {s2 : Int32} {s3 : Int32} {s4 : Int32} {σ : Mm} {r : Mm} (h : F_X3_make_137 rc3 x1 x2 x3 x5 x6 x7 s0 s1 s2 s3 s4 σ = some r) : Z m_X3_make S (Qv r) 137 [(0, .ref (sL S 0 0 40)), (1, .int (x1)), (2, .int (x2)), (3, .int (x3)), (4, .ref (sL S 0 0 25)), (5, .int (x5)), (6, .int (x6)), (7, .int (x7))] [.int (s0), .int (s1), .int (s2), .int (s3), .int (s4), .ref (sL S 0 0 42)] σ := by
  unfold F_X3_make_137 at h
  obtain ⟨v, τ, hc, h⟩ := bnd_e h
  refine z_callS (M' := m_X3_lot) (As := [.int (s2), .int (s1), .int (s0)]) (rest := [.int (s3), .int (s4), .ref (sL S 0 0 42)]) kl_3_18 oy_X3_lot ⟨Nat.le_of_ble_eq_true rfl, Nat.le_of_ble_eq_true rfl⟩ rfl (Nat.le_of_ble_eq_true rfl) rfl dX3_make_137 (c_X3_lot hc) (fun v2 τ2 hq => ?_)
  obtain ⟨rfl, rfl⟩ := hq
  change Z _ _ _ _ _ [.int (v), .int (s3), .int (s4), .ref (sL S 0 0 42)] _
  exact zb_X3_make_140 hrc3 h
def F_X3_make_113 (rc3 : Int32 → Int32 → Int32 → Int32 → Mm → Option (Mm)) (x1 : Int32) (x2 : Int32) (x3 : Int32) (x5 : Int32) (x6 : Int32) (x7 : Int32) (s0 : Int32) (s1 : Int32) (s2 : Int32) (σ : Mm) : Option (Mm) := (if inb s2 14 = true then (F_X3_make_137 rc3 x1 x2 x3 x5 x6 x7 ((8 * x5) + 1) x1 400 300 (2 * x5) (setA σ 0 0 41 (upd (mA σ 0 0 41) s2.toNatClampNeg (s1 + s0)))) else none)
set_option maxRecDepth 20000 in
theorem zb_X3_make_113 {S : Shp} {rc3 : Int32 → Int32 → Int32 → Int32 → Mm → Option (Mm)} (hrc3 : ∀ {x1 : Int32} {x2 : Int32} {x3 : Int32} {x5 : Int32} {σ : Mm} {r : Mm}, rc3 x1 x2 x3 x5 σ = some r → Z m_X3_make S (Qv r) 3 [(0, .ref (sL S 0 0 40)), (1, .int (x1)), (2, .int (x2)), (3, .int (x3)), (4, .ref (sL S 0 0 25)), (5, .int (x5))] [] σ) {x1 : Int32} {x2 : Int32} {x3 : Int32} {x5 : Int32} {x6 : Int32} {x7 : Int32} {s0 : Int32} {s1 : Int32} {s2 : Int32} {σ : Mm} {r : Mm} (h : F_X3_make_113 rc3 x1 x2 x3 x5 x6 x7 s0 s1 s2 σ = some r) : Z m_X3_make S (Qv r) 113 [(0, .ref (sL S 0 0 40)), (1, .int (x1)), (2, .int (x2)), (3, .int (x3)), (4, .ref (sL S 0 0 25)), (5, .int (x5)), (6, .int (x6)), (7, .int (x7))] [.int (s0), .int (s1), .int (s2), .ref (sL S 0 0 41)] σ := by
  unfold F_X3_make_113 at h
  obtain ⟨g2, h⟩ := gd h
  refine z_iadd dX3_make_113 ?_
  refine is_0_41 (inb_in g2) dX3_make_114 ?_
  refine z_aload_n dX3_make_115 rfl 0 rfl ?_
  refine gf_3_15 rfl dX3_make_116 ?_
  refine z_iconst (v := 2) dX3_make_119 (by decide) ?_
  refine z_iload dX3_make_120 5 rfl ?_
  refine z_imul dX3_make_122 ?_
  refine z_sipush (v := 300) dX3_make_123 (by decide) ?_
  refine z_sipush (v := 400) dX3_make_126 (by decide) ?_
  refine z_iload_n dX3_make_129 rfl 1 rfl ?_
  refine z_bipush (v := 8) dX3_make_130 (by decide) ?_
  refine z_iload dX3_make_132 5 rfl ?_
  refine z_imul dX3_make_134 ?_
  refine z_iconst (v := 1) dX3_make_135 (by decide) ?_
  refine z_iadd dX3_make_136 ?_
  exact zb_X3_make_137 hrc3 h
def F_X3_make_87 (rc3 : Int32 → Int32 → Int32 → Int32 → Mm → Option (Mm)) (x1 : Int32) (x2 : Int32) (x3 : Int32) (x5 : Int32) (x6 : Int32) (s0 : Int32) (s1 : Int32) (σ : Mm) : Option (Mm) := (bnd (F_X3_lot 400 x1 (8 * x5) σ) (fun v τ => (F_X3_make_113 rc3 x1 x2 x3 x5 x6 (s1 + s0) v 300 (2 * x5) τ)))
set_option maxRecDepth 20000 in
theorem zb_X3_make_87 {S : Shp} {rc3 : Int32 → Int32 → Int32 → Int32 → Mm → Option (Mm)} (hrc3 : ∀ {x1 : Int32} {x2 : Int32} {x3 : Int32} {x5 : Int32} {σ : Mm} {r : Mm}, rc3 x1 x2 x3 x5 σ = some r → Z m_X3_make S (Qv r) 3 [(0, .ref (sL S 0 0 40)), (1, .int (x1)), (2, .int (x2)), (3, .int (x3)), (4, .ref (sL S 0 0 25)), (5, .int (x5))] [] σ) {x1 : Int32} {x2 : Int32} {x3 : Int32} {x5 : Int32} {x6 : Int32} {s0 : Int32} {s1 : Int32} {σ : Mm} {r : Mm} (h : F_X3_make_87 rc3 x1 x2 x3 x5 x6 s0 s1 σ = some r) : Z m_X3_make S (Qv r) 87 [(0, .ref (sL S 0 0 40)), (1, .int (x1)), (2, .int (x2)), (3, .int (x3)), (4, .ref (sL S 0 0 25)), (5, .int (x5)), (6, .int (x6))] [.int (s0), .int (s1)] σ := by
  unfold F_X3_make_87 at h
  refine z_iadd dX3_make_87 ?_
  refine z_istore dX3_make_88 (by decide) [1, 2, 3, 4, 5, 6, 7, 0] rfl ?_
  refine z_aload_n dX3_make_90 rfl 0 rfl ?_
  refine gf_3_9 rfl dX3_make_91 ?_
  refine z_iconst (v := 2) dX3_make_94 (by decide) ?_
  refine z_iload dX3_make_95 5 rfl ?_
  refine z_imul dX3_make_97 ?_
  refine z_sipush (v := 300) dX3_make_98 (by decide) ?_
  refine z_sipush (v := 400) dX3_make_101 (by decide) ?_
  refine z_iload_n dX3_make_104 rfl 1 rfl ?_
  refine z_bipush (v := 8) dX3_make_105 (by decide) ?_
  refine z_iload dX3_make_107 5 rfl ?_
  refine z_imul dX3_make_109 ?_
  obtain ⟨v, τ, hc, h⟩ := bnd_e h
  refine z_callS (M' := m_X3_lot) (As := [.int (400), .int (x1), .int (8 * x5)]) (rest := [.int (300), .int (2 * x5), .ref (sL S 0 0 41)]) kl_3_18 oy_X3_lot ⟨Nat.le_of_ble_eq_true rfl, Nat.le_of_ble_eq_true rfl⟩ rfl (Nat.le_of_ble_eq_true rfl) rfl dX3_make_110 (c_X3_lot hc) (fun v2 τ2 hq => ?_)
  obtain ⟨rfl, rfl⟩ := hq
  change Z _ _ _ _ _ [.int (v), .int (300), .int (2 * x5), .ref (sL S 0 0 41)] _
  exact zb_X3_make_113 hrc3 h
def F_X3_make_74 (rc3 : Int32 → Int32 → Int32 → Int32 → Mm → Option (Mm)) (x1 : Int32) (x2 : Int32) (x3 : Int32) (x5 : Int32) (x6 : Int32) (σ : Mm) : Option (Mm) := (bnd (F_X3_lot 3 x1 ((8 * x5) + 2) σ) (fun v τ => (F_X3_make_87 rc3 x1 x2 x3 x5 x6 v 1 τ)))
set_option maxRecDepth 20000 in
theorem zb_X3_make_74 {S : Shp} {rc3 : Int32 → Int32 → Int32 → Int32 → Mm → Option (Mm)} (hrc3 : ∀ {x1 : Int32} {x2 : Int32} {x3 : Int32} {x5 : Int32} {σ : Mm} {r : Mm}, rc3 x1 x2 x3 x5 σ = some r → Z m_X3_make S (Qv r) 3 [(0, .ref (sL S 0 0 40)), (1, .int (x1)), (2, .int (x2)), (3, .int (x3)), (4, .ref (sL S 0 0 25)), (5, .int (x5))] [] σ) {x1 : Int32} {x2 : Int32} {x3 : Int32} {x5 : Int32} {x6 : Int32} {σ : Mm} {r : Mm} (h : F_X3_make_74 rc3 x1 x2 x3 x5 x6 σ = some r) : Z m_X3_make S (Qv r) 74 [(0, .ref (sL S 0 0 40)), (1, .int (x1)), (2, .int (x2)), (3, .int (x3)), (4, .ref (sL S 0 0 25)), (5, .int (x5)), (6, .int (x6))] [] σ := by
  unfold F_X3_make_74 at h
  refine z_iconst (v := 1) dX3_make_74 (by decide) ?_
  refine z_iconst (v := 3) dX3_make_75 (by decide) ?_
  refine z_iload_n dX3_make_76 rfl 1 rfl ?_
  refine z_bipush (v := 8) dX3_make_77 (by decide) ?_
  refine z_iload dX3_make_79 5 rfl ?_
  refine z_imul dX3_make_81 ?_
  refine z_iconst (v := 2) dX3_make_82 (by decide) ?_
  refine z_iadd dX3_make_83 ?_
  obtain ⟨v, τ, hc, h⟩ := bnd_e h
  refine z_callS (M' := m_X3_lot) (As := [.int (3), .int (x1), .int ((8 * x5) + 2)]) (rest := [.int (1)]) kl_3_18 oy_X3_lot ⟨Nat.le_of_ble_eq_true rfl, Nat.le_of_ble_eq_true rfl⟩ rfl (Nat.le_of_ble_eq_true rfl) rfl dX3_make_84 (c_X3_lot hc) (fun v2 τ2 hq => ?_)
  obtain ⟨rfl, rfl⟩ := hq
  change Z _ _ _ _ _ [.int (v), .int (1)] _
  exact zb_X3_make_87 hrc3 h
def F_X3_make_71 (rc3 : Int32 → Int32 → Int32 → Int32 → Mm → Option (Mm)) (x1 : Int32) (x2 : Int32) (x3 : Int32) (x5 : Int32) (s0 : Int32) (σ : Mm) : Option (Mm) := (if inb s0 5 = true then (F_X3_make_74 rc3 x1 x2 x3 x5 (mA σ 0 0 26 s0.toNatClampNeg) σ) else none)
set_option maxRecDepth 20000 in
theorem zb_X3_make_71 {S : Shp} {rc3 : Int32 → Int32 → Int32 → Int32 → Mm → Option (Mm)} (hrc3 : ∀ {x1 : Int32} {x2 : Int32} {x3 : Int32} {x5 : Int32} {σ : Mm} {r : Mm}, rc3 x1 x2 x3 x5 σ = some r → Z m_X3_make S (Qv r) 3 [(0, .ref (sL S 0 0 40)), (1, .int (x1)), (2, .int (x2)), (3, .int (x3)), (4, .ref (sL S 0 0 25)), (5, .int (x5))] [] σ) {x1 : Int32} {x2 : Int32} {x3 : Int32} {x5 : Int32} {s0 : Int32} {σ : Mm} {r : Mm} (h : F_X3_make_71 rc3 x1 x2 x3 x5 s0 σ = some r) : Z m_X3_make S (Qv r) 71 [(0, .ref (sL S 0 0 40)), (1, .int (x1)), (2, .int (x2)), (3, .int (x3)), (4, .ref (sL S 0 0 25)), (5, .int (x5))] [.int (s0), .ref (sL S 0 0 26)] σ := by
  unfold F_X3_make_71 at h
  obtain ⟨g1, h⟩ := gd h
  refine ia_0_26 (inb_in g1) dX3_make_71 ?_
  refine z_istore dX3_make_72 (by decide) [1, 2, 3, 4, 5, 6, 0] rfl ?_
  exact zb_X3_make_74 hrc3 h
def F_X3_make_34 (rc3 : Int32 → Int32 → Int32 → Int32 → Mm → Option (Mm)) (x1 : Int32) (x2 : Int32) (x3 : Int32) (x5 : Int32) (s0 : Int32) (σ : Mm) : Option (Mm) := (if x3 ≤ x5 then (F_X3_make_74 rc3 x1 x2 x3 x5 s0 σ) else (if (mA σ 0 0 25 0) ≤ 0 then (F_X3_make_74 rc3 x1 x2 x3 x5 s0 σ) else (bnd (F_X3_lot (mA σ 0 0 25 0) x1 ((8 * x5) + 4) σ) (fun v τ => (F_X3_make_71 rc3 x1 x2 x3 x5 v τ)))))
set_option maxRecDepth 20000 in
theorem zb_X3_make_34 {S : Shp} {rc3 : Int32 → Int32 → Int32 → Int32 → Mm → Option (Mm)} (hrc3 : ∀ {x1 : Int32} {x2 : Int32} {x3 : Int32} {x5 : Int32} {σ : Mm} {r : Mm}, rc3 x1 x2 x3 x5 σ = some r → Z m_X3_make S (Qv r) 3 [(0, .ref (sL S 0 0 40)), (1, .int (x1)), (2, .int (x2)), (3, .int (x3)), (4, .ref (sL S 0 0 25)), (5, .int (x5))] [] σ) {x1 : Int32} {x2 : Int32} {x3 : Int32} {x5 : Int32} {s0 : Int32} {σ : Mm} {r : Mm} (h : F_X3_make_34 rc3 x1 x2 x3 x5 s0 σ = some r) : Z m_X3_make S (Qv r) 34 [(0, .ref (sL S 0 0 40)), (1, .int (x1)), (2, .int (x2)), (3, .int (x3)), (4, .ref (sL S 0 0 25)), (5, .int (x5))] [.int (s0)] σ := by
  unfold F_X3_make_34 at h
  refine z_istore dX3_make_34 (by decide) [1, 2, 3, 4, 5, 6, 0] rfl ?_
  refine z_iload dX3_make_36 5 rfl ?_
  refine z_iload_n dX3_make_38 rfl 3 rfl ?_
  refine z_icmp_ge (tgt := 74) dX3_make_39 (by decide) (fun q => ?_) (fun q => ?_)
  · have h := (if_pos q).symm.trans h
    exact zb_X3_make_74 hrc3 h
  · have h := (if_neg q).symm.trans h
    refine z_aload dX3_make_42 4 rfl ?_
    refine gf_3_22 rfl dX3_make_44 ?_
    refine z_if_le (tgt := 74) dX3_make_47 (by decide) (fun q => ?_) (fun q => ?_)
    · have h := (if_pos q).symm.trans h
      exact zb_X3_make_74 hrc3 h
    · have h := (if_neg q).symm.trans h
      refine z_aload dX3_make_50 4 rfl ?_
      refine gf_3_28 rfl dX3_make_52 ?_
      refine z_aload dX3_make_55 4 rfl ?_
      refine gf_3_22 rfl dX3_make_57 ?_
      refine z_iload_n dX3_make_60 rfl 1 rfl ?_
      refine z_bipush (v := 8) dX3_make_61 (by decide) ?_
      refine z_iload dX3_make_63 5 rfl ?_
      refine z_imul dX3_make_65 ?_
      refine z_iconst (v := 4) dX3_make_66 (by decide) ?_
      refine z_iadd dX3_make_67 ?_
      obtain ⟨v, τ, hc, h⟩ := bnd_e h
      refine z_callS (M' := m_X3_lot) (As := [.int (mA σ 0 0 25 0), .int (x1), .int ((8 * x5) + 4)]) (rest := [.ref (sL S 0 0 26)]) kl_3_18 oy_X3_lot ⟨Nat.le_of_ble_eq_true rfl, Nat.le_of_ble_eq_true rfl⟩ rfl (Nat.le_of_ble_eq_true rfl) rfl dX3_make_68 (c_X3_lot hc) (fun v2 τ2 hq => ?_)
      obtain ⟨rfl, rfl⟩ := hq
      change Z _ _ _ _ _ [.int (v), .ref (sL S 0 0 26)] _
      refine Z.lv [0, 1, 2, 3, 4, 5] rfl ?_
      exact zb_X3_make_71 hrc3 h
def B_X3_make_3 (rc3 : Int32 → Int32 → Int32 → Int32 → Mm → Option (Mm)) (x1 : Int32) (x2 : Int32) (x3 : Int32) (x5 : Int32) (σ : Mm) : Option (Mm) := (if x2 ≤ x5 then some (σ) else (if 14 ≤ ((2 * x5) + 1) then some (σ) else (bnd (F_X3_lot 360 x1 ((8 * x5) + 3) σ) (fun v τ => (F_X3_make_34 rc3 x1 x2 x3 x5 v τ)))))
set_option maxRecDepth 20000 in
theorem zB_X3_make_3 {S : Shp} {rc3 : Int32 → Int32 → Int32 → Int32 → Mm → Option (Mm)} (hrc3 : ∀ {x1 : Int32} {x2 : Int32} {x3 : Int32} {x5 : Int32} {σ : Mm} {r : Mm}, rc3 x1 x2 x3 x5 σ = some r → Z m_X3_make S (Qv r) 3 [(0, .ref (sL S 0 0 40)), (1, .int (x1)), (2, .int (x2)), (3, .int (x3)), (4, .ref (sL S 0 0 25)), (5, .int (x5))] [] σ) {x1 : Int32} {x2 : Int32} {x3 : Int32} {x5 : Int32} {σ : Mm} {r : Mm} (h : B_X3_make_3 rc3 x1 x2 x3 x5 σ = some r) : Z m_X3_make S (Qv r) 3 [(0, .ref (sL S 0 0 40)), (1, .int (x1)), (2, .int (x2)), (3, .int (x3)), (4, .ref (sL S 0 0 25)), (5, .int (x5))] [] σ := by
  unfold B_X3_make_3 at h
  refine z_iload dX3_make_3 5 rfl ?_
  refine z_iload_n dX3_make_5 rfl 2 rfl ?_
  refine z_icmp_ge (tgt := 206) dX3_make_6 (by decide) (fun q => ?_) (fun q => ?_)
  · have h := (if_pos q).symm.trans h
    cases h
    exact z_return dX3_make_206 rfl ⟨rfl, rfl⟩
  · have h := (if_neg q).symm.trans h
    refine z_iconst (v := 2) dX3_make_9 (by decide) ?_
    refine z_iload dX3_make_10 5 rfl ?_
    refine z_imul dX3_make_12 ?_
    refine z_iconst (v := 1) dX3_make_13 (by decide) ?_
    refine z_iadd dX3_make_14 ?_
    refine z_bipush (v := 14) dX3_make_15 (by decide) ?_
    refine z_icmp_ge (tgt := 206) dX3_make_17 (by decide) (fun q => ?_) (fun q => ?_)
    · have h := (if_pos q).symm.trans h
      cases h
      exact z_return dX3_make_206 rfl ⟨rfl, rfl⟩
    · have h := (if_neg q).symm.trans h
      refine z_sipush (v := 360) dX3_make_20 (by decide) ?_
      refine z_iload_n dX3_make_23 rfl 1 rfl ?_
      refine z_bipush (v := 8) dX3_make_24 (by decide) ?_
      refine z_iload dX3_make_26 5 rfl ?_
      refine z_imul dX3_make_28 ?_
      refine z_iconst (v := 3) dX3_make_29 (by decide) ?_
      refine z_iadd dX3_make_30 ?_
      obtain ⟨v, τ, hc, h⟩ := bnd_e h
      refine z_callS (M' := m_X3_lot) (As := [.int (360), .int (x1), .int ((8 * x5) + 3)]) (rest := []) kl_3_18 oy_X3_lot ⟨Nat.le_of_ble_eq_true rfl, Nat.le_of_ble_eq_true rfl⟩ rfl (Nat.le_of_ble_eq_true rfl) rfl dX3_make_31 (c_X3_lot hc) (fun v2 τ2 hq => ?_)
      obtain ⟨rfl, rfl⟩ := hq
      change Z _ _ _ _ _ [.int (v)] _
      exact zb_X3_make_34 hrc3 h
def F_X3_make_3 : Nat → Int32 → Int32 → Int32 → Int32 → Mm → Option (Mm)
  | 0 => fun _ _ _ _ _ => none
  | n + 1 => B_X3_make_3 (F_X3_make_3 n)
theorem zl_X3_make_3 {S : Shp} (n : Nat) {x1 : Int32} {x2 : Int32} {x3 : Int32} {x5 : Int32} {σ : Mm} {r : Mm} (h : F_X3_make_3 n x1 x2 x3 x5 σ = some r) : Z m_X3_make S (Qv r) 3 [(0, .ref (sL S 0 0 40)), (1, .int (x1)), (2, .int (x2)), (3, .int (x3)), (4, .ref (sL S 0 0 25)), (5, .int (x5))] [] σ := by
  induction n generalizing x1 x2 x3 x5 σ r with
  | zero => cases h
  | succ n ih => exact zB_X3_make_3 (fun h => ih h) h
def F_X3_make (x1 : Int32) (x2 : Int32) (x3 : Int32) (σ : Mm) : Option (Mm) := (F_X3_make_3 FU x1 x2 x3 0 σ)
set_option maxRecDepth 20000 in
theorem zb_X3_make {S : Shp} {x1 : Int32} {x2 : Int32} {x3 : Int32} {σ : Mm} {r : Mm} (h : F_X3_make x1 x2 x3 σ = some r) : Z m_X3_make S (Qv r) 0 [(0, .ref (sL S 0 0 40)), (1, .int (x1)), (2, .int (x2)), (3, .int (x3)), (4, .ref (sL S 0 0 25))] [] σ := by
  unfold F_X3_make at h
  refine z_iconst (v := 0) dX3_make_0 (by decide) ?_
  refine z_istore dX3_make_1 (by decide) [1, 2, 3, 4, 5, 0] rfl ?_
  exact zl_X3_make_3 FU h
/-- SkyStones$Maker.make(IIILSkyStones$Sky;)V -/
theorem c_X3_make {S : Shp} {x1 : Int32} {x2 : Int32} {x3 : Int32} {σ : Mm} {r : Mm} (h : F_X3_make x1 x2 x3 σ = some r) : Ct m_X3_make S [.ref (sL S 0 0 40), .int (x1), .int (x2), .int (x3), .ref (sL S 0 0 25)] σ (Qv r) := Ct.of (by decide) (Nat.le_of_ble_eq_true rfl) (zb_X3_make h)
