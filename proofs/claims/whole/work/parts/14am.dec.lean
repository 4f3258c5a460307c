def F_X12_asMany_39 (rc13 : Int32 → Int32 → Int32 → Int32 → Mm → Option (Int32 × Mm)) (x1 : Int32) (x2 : Int32) (x4 : Int32) (s0 : Int32) (s1 : Int32) (σ : Mm) : Option (Int32 × Mm) := (rc13 x1 x2 (s1 + s0) (x4 + 1) σ)
set_option maxRecDepth 20000 in
theorem zb_X12_asMany_39 {S : Shp} {rc13 : Int32 → Int32 → Int32 → Int32 → Mm → Option (Int32 × Mm)} (hrc13 : ∀ {x1 : Int32} {x2 : Int32} {x3 : Int32} {x4 : Int32} {σ : Mm} {r : Int32 × Mm}, rc13 x1 x2 x3 x4 σ = some r → Z m_X12_asMany S (Qi r) 13 [(0, .ref (sL S 3 0 0)), (1, .int (x1)), (2, .int (x2)), (3, .int (x3)), (4, .int (x4))] [] σ) {x1 : Int32} {x2 : Int32} {x4 : Int32} {s0 : Int32} {s1 : Int32} {σ : Mm} {r : Int32 × Mm} (h : F_X12_asMany_39 rc13 x1 x2 x4 s0 s1 σ = some r) : Z m_X12_asMany S (Qi r) 39 [(0, .ref (sL S 3 0 0)), (1, .int (x1)), (2, .int (x2)), (4, .int (x4))] [.int (s0), .int (s1)] σ := by
  unfold F_X12_asMany_39 at h
  refine z_iadd dX12_asMany_39 ?_
  refine z_istore_n (lv' := [(0, .ref (sL S 3 0 0)), (1, .int (x1)), (2, .int (x2)), (3, .int (s1 + s0)), (4, .int (x4))]) dX12_asMany_40 rfl (by decide) [1, 2, 3, 0, 4] rfl ?_
  refine z_iinc (j := 4) (v := x4 + 1) (lv' := [(0, .ref (sL S 3 0 0)), (1, .int (x1)), (2, .int (x2)), (3, .int (s1 + s0)), (4, .int (x4 + 1))]) dX12_asMany_41 rfl rfl (by decide) [1, 2, 3, 4, 0] rfl ?_
  refine z_goto (tgt := 13) dX12_asMany_44 (by decide) ?_
  exact hrc13 h
def F_X12_asMany_30 (rc13 : Int32 → Int32 → Int32 → Int32 → Mm → Option (Int32 × Mm)) (x1 : Int32) (x2 : Int32) (x4 : Int32) (s0 : Int32) (s1 : Int32) (σ : Mm) : Option (Int32 × Mm) := (if s0 < x2 then (F_X12_asMany_39 rc13 x1 x2 x4 0 s1 σ) else (F_X12_asMany_39 rc13 x1 x2 x4 1 s1 σ))
set_option maxRecDepth 20000 in
theorem zb_X12_asMany_30 {S : Shp} {rc13 : Int32 → Int32 → Int32 → Int32 → Mm → Option (Int32 × Mm)} (hrc13 : ∀ {x1 : Int32} {x2 : Int32} {x3 : Int32} {x4 : Int32} {σ : Mm} {r : Int32 × Mm}, rc13 x1 x2 x3 x4 σ = some r → Z m_X12_asMany S (Qi r) 13 [(0, .ref (sL S 3 0 0)), (1, .int (x1)), (2, .int (x2)), (3, .int (x3)), (4, .int (x4))] [] σ) {x1 : Int32} {x2 : Int32} {x4 : Int32} {s0 : Int32} {s1 : Int32} {σ : Mm} {r : Int32 × Mm} (h : F_X12_asMany_30 rc13 x1 x2 x4 s0 s1 σ = some r) : Z m_X12_asMany S (Qi r) 30 [(0, .ref (sL S 3 0 0)), (1, .int (x1)), (2, .int (x2)), (4, .int (x4))] [.int (s0), .int (s1)] σ := by
  unfold F_X12_asMany_30 at h
  refine z_iload_n dX12_asMany_30 rfl 2 rfl ?_
  refine z_icmp_lt (tgt := 38) dX12_asMany_31 (by decide) (fun q => ?_) (fun q => ?_)
  · have h := (if_pos q).symm.trans h
    refine z_iconst (v := 0) dX12_asMany_38 (by decide) ?_
    exact zb_X12_asMany_39 hrc13 h
  · have h := (if_neg q).symm.trans h
    refine z_iconst (v := 1) dX12_asMany_34 (by decide) ?_
    refine z_goto (tgt := 39) dX12_asMany_35 (by decide) ?_
    exact zb_X12_asMany_39 hrc13 h
def B_X12_asMany_13 (rc13 : Int32 → Int32 → Int32 → Int32 → Mm → Option (Int32 × Mm)) (x1 : Int32) (x2 : Int32) (x3 : Int32) (x4 : Int32) (σ : Mm) : Option (Int32 × Mm) := (if (360 : Int32) ≤ x4 then some (x3, σ) else (bnd (F_X12_hitsOf x1 x4 0 σ) (fun v τ => (F_X12_asMany_30 rc13 x1 x2 x4 v x3 τ))))
set_option maxRecDepth 20000 in
theorem zB_X12_asMany_13 {S : Shp} {rc13 : Int32 → Int32 → Int32 → Int32 → Mm → Option (Int32 × Mm)} (hrc13 : ∀ {x1 : Int32} {x2 : Int32} {x3 : Int32} {x4 : Int32} {σ : Mm} {r : Int32 × Mm}, rc13 x1 x2 x3 x4 σ = some r → Z m_X12_asMany S (Qi r) 13 [(0, .ref (sL S 3 0 0)), (1, .int (x1)), (2, .int (x2)), (3, .int (x3)), (4, .int (x4))] [] σ) {x1 : Int32} {x2 : Int32} {x3 : Int32} {x4 : Int32} {σ : Mm} {r : Int32 × Mm} (h : B_X12_asMany_13 rc13 x1 x2 x3 x4 σ = some r) : Z m_X12_asMany S (Qi r) 13 [(0, .ref (sL S 3 0 0)), (1, .int (x1)), (2, .int (x2)), (3, .int (x3)), (4, .int (x4))] [] σ := by
  unfold B_X12_asMany_13 at h
  refine z_iload dX12_asMany_13 4 rfl ?_
  refine z_sipush (v := 360) dX12_asMany_15 (by decide) ?_
  refine z_icmp_ge (tgt := 47) dX12_asMany_18 (by decide) (fun q => ?_) (fun q => ?_)
  · have h := (if_pos q).symm.trans h
    refine z_iload_n dX12_asMany_47 rfl 3 rfl ?_
    cases h
    exact z_ireturn dX12_asMany_48 rfl rfl ⟨rfl, rfl⟩
  · have h := (if_neg q).symm.trans h
    refine z_iload_n dX12_asMany_21 rfl 3 rfl ?_
    refine z_aload_n dX12_asMany_22 rfl 0 rfl ?_
    refine z_iload_n dX12_asMany_23 rfl 1 rfl ?_
    refine z_iload dX12_asMany_24 4 rfl ?_
    refine z_iconst (v := 0) dX12_asMany_26 (by decide) ?_
    obtain ⟨v, τ, hc, h⟩ := bnd_e h
    refine z_callV (M' := m_X12_hitsOf) (t := 3) (i := 0) (k := 0) (As := [.int (x1), .int (x4), .int (0)]) (rest := [.int (x3)]) kl_12_497 oy_X12_hitsOf ⟨Nat.le_of_ble_eq_true rfl, Nat.le_of_ble_eq_true rfl⟩ rfl rfl rfl rfl (Nat.le_of_ble_eq_true rfl) rfl dX12_asMany_27 (c_X12_hitsOf hc) (fun v2 τ2 hq => ?_)
    obtain ⟨rfl, hτ⟩ := hq
    subst τ2
    change Z _ _ _ _ _ [.int (v), .int (x3)] _
    refine Z.lv [0, 1, 2, 4] rfl ?_
    exact zb_X12_asMany_30 hrc13 h
def F_X12_asMany_13 : Nat → Int32 → Int32 → Int32 → Int32 → Mm → Option (Int32 × Mm)
  | 0 => fun _ _ _ _ _ => none
  | n + 1 => B_X12_asMany_13 (F_X12_asMany_13 n)
theorem zl_X12_asMany_13 {S : Shp} : ∀ (nn : Nat) {x1 : Int32} {x2 : Int32} {x3 : Int32} {x4 : Int32} {σ : Mm} {r : Int32 × Mm}, F_X12_asMany_13 nn x1 x2 x3 x4 σ = some r → Z m_X12_asMany S (Qi r) 13 [(0, .ref (sL S 3 0 0)), (1, .int (x1)), (2, .int (x2)), (3, .int (x3)), (4, .int (x4))] [] σ := by
  intro nn
  induction nn with
  | zero => intro x1 x2 x3 x4 σ r h; cases h
  | succ nn ih => intro x1 x2 x3 x4 σ r h; exact zB_X12_asMany_13 @ih h
def F_X12_asMany_7 (x1 : Int32) (s0 : Int32) (σ : Mm) : Option (Int32 × Mm) := (F_X12_asMany_13 FU x1 s0 0 0 σ)
set_option maxRecDepth 20000 in
theorem zb_X12_asMany_7 {S : Shp} {x1 : Int32} {s0 : Int32} {σ : Mm} {r : Int32 × Mm} (h : F_X12_asMany_7 x1 s0 σ = some r) : Z m_X12_asMany S (Qi r) 7 [(0, .ref (sL S 3 0 0)), (1, .int (x1))] [.int (s0)] σ := by
  unfold F_X12_asMany_7 at h
  refine z_istore_n (lv' := [(0, .ref (sL S 3 0 0)), (1, .int (x1)), (2, .int (s0))]) dX12_asMany_7 rfl (by decide) [1, 2, 0] rfl ?_
  refine z_iconst (v := 0) dX12_asMany_8 (by decide) ?_
  refine z_istore_n (lv' := [(0, .ref (sL S 3 0 0)), (1, .int (x1)), (2, .int (s0)), (3, .int (0))]) dX12_asMany_9 rfl (by decide) [1, 2, 3, 0] rfl ?_
  refine z_iconst (v := 0) dX12_asMany_10 (by decide) ?_
  refine z_istore (lv' := [(0, .ref (sL S 3 0 0)), (1, .int (x1)), (2, .int (s0)), (3, .int (0)), (4, .int (0))]) dX12_asMany_11 (by decide) [1, 2, 3, 4, 0] rfl ?_
  exact zl_X12_asMany_13 FU h
def F_X12_asMany (x1 : Int32) (σ : Mm) : Option (Int32 × Mm) := (bnd (F_X12_hitsOf x1 0 0 σ) (fun v τ => (F_X12_asMany_7 x1 v τ)))
set_option maxRecDepth 20000 in
theorem zb_X12_asMany {S : Shp} {x1 : Int32} {σ : Mm} {r : Int32 × Mm} (h : F_X12_asMany x1 σ = some r) : Z m_X12_asMany S (Qi r) 0 [(0, .ref (sL S 3 0 0)), (1, .int (x1))] [] σ := by
  unfold F_X12_asMany at h
  refine z_aload_n dX12_asMany_0 rfl 0 rfl ?_
  refine z_iload_n dX12_asMany_1 rfl 1 rfl ?_
  refine z_iconst (v := 0) dX12_asMany_2 (by decide) ?_
  refine z_iconst (v := 0) dX12_asMany_3 (by decide) ?_
  obtain ⟨v, τ, hc, h⟩ := bnd_e h
  refine z_callV (M' := m_X12_hitsOf) (t := 3) (i := 0) (k := 0) (As := [.int (x1), .int (0), .int (0)]) (rest := []) kl_12_497 oy_X12_hitsOf ⟨Nat.le_of_ble_eq_true rfl, Nat.le_of_ble_eq_true rfl⟩ rfl rfl rfl rfl (Nat.le_of_ble_eq_true rfl) rfl dX12_asMany_4 (c_X12_hitsOf hc) (fun v2 τ2 hq => ?_)
  obtain ⟨rfl, hτ⟩ := hq
  subst τ2
  change Z _ _ _ _ _ [.int (v)] _
  exact zb_X12_asMany_7 h
/-- SkyStonesModel.asMany(I)I -/
theorem c_X12_asMany {S : Shp} {x1 : Int32} {σ : Mm} {r : Int32 × Mm} (h : F_X12_asMany x1 σ = some r) : Ct m_X12_asMany S [.ref (sL S 3 0 0), .int (x1)] σ (Qi r) := Ct.of (by decide +kernel) (Nat.le_of_ble_eq_true rfl) (zb_X12_asMany h)
def F_X12_await_10 (σ : Mm) : Option (Mm) := some (setA σ 3 0 0 (upd (mA σ 3 0 0) 56 ((mA σ 3 0 0 56) + (1 : Int32))))
set_option maxRecDepth 20000 in
theorem zb_X12_await_10 {S : Shp} {σ : Mm} {r : Mm} (h : F_X12_await_10 σ = some r) : Z m_X12_await S (Qv r) 10 [(0, .ref (sL S 3 0 0))] [] σ := by
  unfold F_X12_await_10 at h
  refine z_aload_n dX12_await_10 rfl 0 rfl ?_
  refine z_dup dX12_await_11 rfl ?_
  refine gf_12_331 rfl dX12_await_12 ?_
  refine z_iconst (v := 1) dX12_await_15 (by decide) ?_
  refine z_iadd dX12_await_16 ?_
  refine pf_12_331 rfl dX12_await_17 ?_
  cases h
  exact z_return dX12_await_20 rfl ⟨rfl, rfl⟩
def F_X12_await (x1 : Int32) (σ : Mm) : Option (Mm) := (if inb (mA σ 3 0 0 56) 500 = true then (F_X12_await_10 (setA σ 3 0 47 (upd (mA σ 3 0 47) (mA σ 3 0 0 56).toNatClampNeg x1))) else none)
set_option maxRecDepth 20000 in
theorem zb_X12_await {S : Shp} {x1 : Int32} {σ : Mm} {r : Mm} (h : F_X12_await x1 σ = some r) : Z m_X12_await S (Qv r) 0 [(0, .ref (sL S 3 0 0)), (1, .int (x1))] [] σ := by
  unfold F_X12_await at h
  obtain ⟨g1, h⟩ := gd h
  refine z_aload_n dX12_await_0 rfl 0 rfl ?_
  refine gf_12_154 rfl dX12_await_1 ?_
  refine z_aload_n dX12_await_4 rfl 0 rfl ?_
  refine gf_12_331 rfl dX12_await_5 ?_
  refine z_iload_n dX12_await_8 rfl 1 rfl ?_
  refine is_3_47 (inb_in g1) dX12_await_9 ?_
  refine Z.lv [0] rfl ?_
  exact zb_X12_await_10 h
/-- SkyStonesModel.await(I)V -/
theorem c_X12_await {S : Shp} {x1 : Int32} {σ : Mm} {r : Mm} (h : F_X12_await x1 σ = some r) : Ct m_X12_await S [.ref (sL S 3 0 0), .int (x1)] σ (Qv r) := Ct.of (by decide +kernel) (Nat.le_of_ble_eq_true rfl) (zb_X12_await h)
def F_X12_back_24 (σ : Mm) : Option (Int32 × Mm) := some (mA σ 3 0 0 0, σ)
set_option maxRecDepth 20000 in
theorem zb_X12_back_24 {S : Shp} {σ : Mm} {r : Int32 × Mm} (h : F_X12_back_24 σ = some r) : Z m_X12_back S (Qi r) 24 [(0, .ref (sL S 3 0 0))] [] σ := by
  unfold F_X12_back_24 at h
  refine z_aload_n dX12_back_24 rfl 0 rfl ?_
  refine gf_12_222 rfl dX12_back_25 ?_
  cases h
  exact z_ireturn dX12_back_28 rfl rfl ⟨rfl, rfl⟩
def F_X12_back (x1 : Int32) (σ : Mm) : Option (Int32 × Mm) := (if x1 < 0 then some ((-1), σ) else (if x1 ≤ (mA σ 3 0 0 0) then (F_X12_back_24 (setA σ 3 0 0 (upd (mA σ 3 0 0) 0 ((mA σ 3 0 0 0) - x1)))) else some ((-1), σ)))
set_option maxRecDepth 20000 in
theorem zb_X12_back {S : Shp} {x1 : Int32} {σ : Mm} {r : Int32 × Mm} (h : F_X12_back x1 σ = some r) : Z m_X12_back S (Qi r) 0 [(0, .ref (sL S 3 0 0)), (1, .int (x1))] [] σ := by
  unfold F_X12_back at h
  refine z_iload_n dX12_back_0 rfl 1 rfl ?_
  refine z_if_lt (tgt := 12) dX12_back_1 (by decide) (fun q => ?_) (fun q => ?_)
  · have h := (if_pos q).symm.trans h
    refine z_iconst (v := (-1)) dX12_back_12 (by decide) ?_
    cases h
    exact z_ireturn dX12_back_13 rfl rfl ⟨rfl, rfl⟩
  · have h := (if_neg q).symm.trans h
    refine z_iload_n dX12_back_4 rfl 1 rfl ?_
    refine z_aload_n dX12_back_5 rfl 0 rfl ?_
    refine gf_12_222 rfl dX12_back_6 ?_
    refine z_icmp_le (tgt := 14) dX12_back_9 (by decide) (fun q => ?_) (fun q => ?_)
    · have h := (if_pos q).symm.trans h
      refine z_aload_n dX12_back_14 rfl 0 rfl ?_
      refine z_aload_n dX12_back_15 rfl 0 rfl ?_
      refine gf_12_222 rfl dX12_back_16 ?_
      refine z_iload_n dX12_back_19 rfl 1 rfl ?_
      refine z_isub dX12_back_20 ?_
      refine pf_12_222 rfl dX12_back_21 ?_
      refine Z.lv [0] rfl ?_
      exact zb_X12_back_24 h
    · have h := (if_neg q).symm.trans h
      refine z_iconst (v := (-1)) dX12_back_12 (by decide) ?_
      cases h
      exact z_ireturn dX12_back_13 rfl rfl ⟨rfl, rfl⟩
/-- SkyStonesModel.back(I)I -/
theorem c_X12_back {S : Shp} {x1 : Int32} {σ : Mm} {r : Int32 × Mm} (h : F_X12_back x1 σ = some r) : Ct m_X12_back S [.ref (sL S 3 0 0), .int (x1)] σ (Qi r) := Ct.of (by decide +kernel) (Nat.le_of_ble_eq_true rfl) (zb_X12_back h)
def F_X12_begin_63 (σ : Mm) : Option (Mm) := some (setA σ 3 0 0 (upd (mA σ 3 0 0) 49 0))
set_option maxRecDepth 20000 in
theorem zb_X12_begin_63 {S : Shp} {σ : Mm} {r : Mm} (h : F_X12_begin_63 σ = some r) : Z m_X12_begin S (Qv r) 63 [(0, .ref (sL S 3 0 0))] [] σ := by
  unfold F_X12_begin_63 at h
  refine z_aload_n dX12_begin_63 rfl 0 rfl ?_
  refine z_iconst (v := 0) dX12_begin_64 (by decide) ?_
  refine pf_12_364 rfl dX12_begin_65 ?_
  cases h
  exact z_return dX12_begin_68 rfl ⟨rfl, rfl⟩
def F_X12_begin_56 (x1 : Int32) (σ : Mm) : Option (Mm) := (if inb x1 5 = true then (F_X12_begin_63 (setA σ 3 0 38 (upd (mA σ 3 0 38) x1.toNatClampNeg 0))) else none)
set_option maxRecDepth 20000 in
theorem zb_X12_begin_56 {S : Shp} {x1 : Int32} {σ : Mm} {r : Mm} (h : F_X12_begin_56 x1 σ = some r) : Z m_X12_begin S (Qv r) 56 [(0, .ref (sL S 3 0 0)), (1, .int (x1))] [] σ := by
  unfold F_X12_begin_56 at h
  obtain ⟨g9, h⟩ := gd h
  refine z_aload_n dX12_begin_56 rfl 0 rfl ?_
  refine gf_12_127 rfl dX12_begin_57 ?_
  refine z_iload_n dX12_begin_60 rfl 1 rfl ?_
  refine z_iconst (v := 0) dX12_begin_61 (by decide) ?_
  refine is_3_38 (inb_in g9) dX12_begin_62 ?_
  refine Z.lv [0] rfl ?_
  exact zb_X12_begin_63 h
def F_X12_begin_49 (x1 : Int32) (σ : Mm) : Option (Mm) := (if inb x1 5 = true then (F_X12_begin_56 x1 (setA σ 3 0 31 (upd (mA σ 3 0 31) x1.toNatClampNeg 0))) else none)
set_option maxRecDepth 20000 in
theorem zb_X12_begin_49 {S : Shp} {x1 : Int32} {σ : Mm} {r : Mm} (h : F_X12_begin_49 x1 σ = some r) : Z m_X12_begin S (Qv r) 49 [(0, .ref (sL S 3 0 0)), (1, .int (x1))] [] σ := by
  unfold F_X12_begin_49 at h
  obtain ⟨g8, h⟩ := gd h
  refine z_aload_n dX12_begin_49 rfl 0 rfl ?_
  refine gf_12_106 rfl dX12_begin_50 ?_
  refine z_iload_n dX12_begin_53 rfl 1 rfl ?_
  refine z_iconst (v := 0) dX12_begin_54 (by decide) ?_
  refine is_3_31 (inb_in g8) dX12_begin_55 ?_
  exact zb_X12_begin_56 h
def F_X12_begin_42 (x1 : Int32) (σ : Mm) : Option (Mm) := (if inb x1 5 = true then (F_X12_begin_49 x1 (setA σ 3 0 28 (upd (mA σ 3 0 28) x1.toNatClampNeg 0))) else none)
set_option maxRecDepth 20000 in
theorem zb_X12_begin_42 {S : Shp} {x1 : Int32} {σ : Mm} {r : Mm} (h : F_X12_begin_42 x1 σ = some r) : Z m_X12_begin S (Qv r) 42 [(0, .ref (sL S 3 0 0)), (1, .int (x1))] [] σ := by
  unfold F_X12_begin_42 at h
  obtain ⟨g7, h⟩ := gd h
  refine z_aload_n dX12_begin_42 rfl 0 rfl ?_
  refine gf_12_97 rfl dX12_begin_43 ?_
  refine z_iload_n dX12_begin_46 rfl 1 rfl ?_
  refine z_iconst (v := 0) dX12_begin_47 (by decide) ?_
  refine is_3_28 (inb_in g7) dX12_begin_48 ?_
  exact zb_X12_begin_49 h
def F_X12_begin_35 (x1 : Int32) (σ : Mm) : Option (Mm) := (if inb x1 5 = true then (F_X12_begin_42 x1 (setA σ 3 0 25 (upd (mA σ 3 0 25) x1.toNatClampNeg 0))) else none)
set_option maxRecDepth 20000 in
theorem zb_X12_begin_35 {S : Shp} {x1 : Int32} {σ : Mm} {r : Mm} (h : F_X12_begin_35 x1 σ = some r) : Z m_X12_begin S (Qv r) 35 [(0, .ref (sL S 3 0 0)), (1, .int (x1))] [] σ := by
  unfold F_X12_begin_35 at h
  obtain ⟨g6, h⟩ := gd h
  refine z_aload_n dX12_begin_35 rfl 0 rfl ?_
  refine gf_12_88 rfl dX12_begin_36 ?_
  refine z_iload_n dX12_begin_39 rfl 1 rfl ?_
  refine z_iconst (v := 0) dX12_begin_40 (by decide) ?_
  refine is_3_25 (inb_in g6) dX12_begin_41 ?_
  exact zb_X12_begin_42 h
def F_X12_begin_28 (x1 : Int32) (σ : Mm) : Option (Mm) := (if inb x1 5 = true then (F_X12_begin_35 x1 (setA σ 3 0 21 (upd (mA σ 3 0 21) x1.toNatClampNeg 0))) else none)
set_option maxRecDepth 20000 in
theorem zb_X12_begin_28 {S : Shp} {x1 : Int32} {σ : Mm} {r : Mm} (h : F_X12_begin_28 x1 σ = some r) : Z m_X12_begin S (Qv r) 28 [(0, .ref (sL S 3 0 0)), (1, .int (x1))] [] σ := by
  unfold F_X12_begin_28 at h
  obtain ⟨g5, h⟩ := gd h
  refine z_aload_n dX12_begin_28 rfl 0 rfl ?_
  refine gf_12_76 rfl dX12_begin_29 ?_
  refine z_iload_n dX12_begin_32 rfl 1 rfl ?_
  refine z_iconst (v := 0) dX12_begin_33 (by decide) ?_
  refine is_3_21 (inb_in g5) dX12_begin_34 ?_
  exact zb_X12_begin_35 h
def F_X12_begin_21 (x1 : Int32) (σ : Mm) : Option (Mm) := (if inb x1 5 = true then (F_X12_begin_28 x1 (setA σ 3 0 17 (upd (mA σ 3 0 17) x1.toNatClampNeg 0))) else none)
set_option maxRecDepth 20000 in
theorem zb_X12_begin_21 {S : Shp} {x1 : Int32} {σ : Mm} {r : Mm} (h : F_X12_begin_21 x1 σ = some r) : Z m_X12_begin S (Qv r) 21 [(0, .ref (sL S 3 0 0)), (1, .int (x1))] [] σ := by
  unfold F_X12_begin_21 at h
  obtain ⟨g4, h⟩ := gd h
  refine z_aload_n dX12_begin_21 rfl 0 rfl ?_
  refine gf_12_64 rfl dX12_begin_22 ?_
  refine z_iload_n dX12_begin_25 rfl 1 rfl ?_
  refine z_iconst (v := 0) dX12_begin_26 (by decide) ?_
  refine is_3_17 (inb_in g4) dX12_begin_27 ?_
  exact zb_X12_begin_28 h
def F_X12_begin_14 (x1 : Int32) (σ : Mm) : Option (Mm) := (if inb x1 5 = true then (F_X12_begin_21 x1 (setA σ 3 0 14 (upd (mA σ 3 0 14) x1.toNatClampNeg 0))) else none)
set_option maxRecDepth 20000 in
theorem zb_X12_begin_14 {S : Shp} {x1 : Int32} {σ : Mm} {r : Mm} (h : F_X12_begin_14 x1 σ = some r) : Z m_X12_begin S (Qv r) 14 [(0, .ref (sL S 3 0 0)), (1, .int (x1))] [] σ := by
  unfold F_X12_begin_14 at h
  obtain ⟨g3, h⟩ := gd h
  refine z_aload_n dX12_begin_14 rfl 0 rfl ?_
  refine gf_12_55 rfl dX12_begin_15 ?_
  refine z_iload_n dX12_begin_18 rfl 1 rfl ?_
  refine z_iconst (v := 0) dX12_begin_19 (by decide) ?_
  refine is_3_14 (inb_in g3) dX12_begin_20 ?_
  exact zb_X12_begin_21 h
def F_X12_begin_7 (x1 : Int32) (σ : Mm) : Option (Mm) := (if inb x1 5 = true then (F_X12_begin_14 x1 (setA σ 3 0 8 (upd (mA σ 3 0 8) x1.toNatClampNeg 0))) else none)
set_option maxRecDepth 20000 in
theorem zb_X12_begin_7 {S : Shp} {x1 : Int32} {σ : Mm} {r : Mm} (h : F_X12_begin_7 x1 σ = some r) : Z m_X12_begin S (Qv r) 7 [(0, .ref (sL S 3 0 0)), (1, .int (x1))] [] σ := by
  unfold F_X12_begin_7 at h
  obtain ⟨g2, h⟩ := gd h
  refine z_aload_n dX12_begin_7 rfl 0 rfl ?_
  refine gf_12_37 rfl dX12_begin_8 ?_
  refine z_iload_n dX12_begin_11 rfl 1 rfl ?_
  refine z_iconst (v := 0) dX12_begin_12 (by decide) ?_
  refine is_3_8 (inb_in g2) dX12_begin_13 ?_
  exact zb_X12_begin_14 h
def F_X12_begin (x1 : Int32) (σ : Mm) : Option (Mm) := (if inb x1 5 = true then (F_X12_begin_7 x1 (setA σ 3 0 7 (upd (mA σ 3 0 7) x1.toNatClampNeg 2))) else none)
set_option maxRecDepth 20000 in
theorem zb_X12_begin {S : Shp} {x1 : Int32} {σ : Mm} {r : Mm} (h : F_X12_begin x1 σ = some r) : Z m_X12_begin S (Qv r) 0 [(0, .ref (sL S 3 0 0)), (1, .int (x1))] [] σ := by
  unfold F_X12_begin at h
  obtain ⟨g1, h⟩ := gd h
  refine z_aload_n dX12_begin_0 rfl 0 rfl ?_
  refine gf_12_34 rfl dX12_begin_1 ?_
  refine z_iload_n dX12_begin_4 rfl 1 rfl ?_
  refine z_iconst (v := 2) dX12_begin_5 (by decide) ?_
  refine is_3_7 (inb_in g1) dX12_begin_6 ?_
  exact zb_X12_begin_7 h
/-- SkyStonesModel.begin(I)V -/
theorem c_X12_begin {S : Shp} {x1 : Int32} {σ : Mm} {r : Mm} (h : F_X12_begin x1 σ = some r) : Ct m_X12_begin S [.ref (sL S 3 0 0), .int (x1)] σ (Qv r) := Ct.of (by decide +kernel) (Nat.le_of_ble_eq_true rfl) (zb_X12_begin h)
def F_X12_byteAt (x1 : Int32) (σ : Mm) : Option (Int32 × Mm) := (if (mA σ 3 0 0 0) ≤ x1 then some (0, σ) else (if inb x1 2000 = true then some (mA σ 3 0 1 x1.toNatClampNeg, σ) else none))
set_option maxRecDepth 20000 in
theorem zb_X12_byteAt {S : Shp} {x1 : Int32} {σ : Mm} {r : Int32 × Mm} (h : F_X12_byteAt x1 σ = some r) : Z m_X12_byteAt S (Qi r) 0 [(0, .ref (sL S 3 0 0)), (1, .int (x1))] [] σ := by
  unfold F_X12_byteAt at h
  refine z_iload_n dX12_byteAt_0 rfl 1 rfl ?_
  refine z_aload_n dX12_byteAt_1 rfl 0 rfl ?_
  refine gf_12_222 rfl dX12_byteAt_2 ?_
  refine z_icmp_ge (tgt := 17) dX12_byteAt_5 (by decide) (fun q => ?_) (fun q => ?_)
  · have h := (if_pos q).symm.trans h
    refine z_iconst (v := 0) dX12_byteAt_17 (by decide) ?_
    cases h
    exact z_ireturn dX12_byteAt_18 rfl rfl ⟨rfl, rfl⟩
  · have h := (if_neg q).symm.trans h
    obtain ⟨g1, h⟩ := gd h
    refine z_aload_n dX12_byteAt_8 rfl 0 rfl ?_
    refine gf_12_7 rfl dX12_byteAt_9 ?_
    refine z_iload_n dX12_byteAt_12 rfl 1 rfl ?_
    refine ia_3_1 (inb_in g1) dX12_byteAt_13 ?_
    refine z_goto (tgt := 18) dX12_byteAt_14 (by decide) ?_
    cases h
    exact z_ireturn dX12_byteAt_18 rfl rfl ⟨rfl, rfl⟩
/-- SkyStonesModel.byteAt(I)I -/
theorem c_X12_byteAt {S : Shp} {x1 : Int32} {σ : Mm} {r : Int32 × Mm} (h : F_X12_byteAt x1 σ = some r) : Ct m_X12_byteAt S [.ref (sL S 3 0 0), .int (x1)] σ (Qi r) := Ct.of (by decide +kernel) (Nat.le_of_ble_eq_true rfl) (zb_X12_byteAt h)
def F_X12_pointed_51 (rc6 : Int32 → Int32 → Int32 → Int32 → Int32 → Mm → Option (Int32 × Mm)) (x1 : Int32) (x2 : Int32) (x3 : Int32) (x5 : Int32) (s0 : Int32) (s1 : Int32) (σ : Mm) : Option (Int32 × Mm) := (rc6 x1 x2 x3 (s1 + s0) (x5 + 1) σ)
set_option maxRecDepth 20000 in
theorem zb_X12_pointed_51 {S : Shp} {rc6 : Int32 → Int32 → Int32 → Int32 → Int32 → Mm → Option (Int32 × Mm)} (hrc6 : ∀ {x1 : Int32} {x2 : Int32} {x3 : Int32} {x4 : Int32} {x5 : Int32} {σ : Mm} {r : Int32 × Mm}, rc6 x1 x2 x3 x4 x5 σ = some r → Z m_X12_pointed S (Qi r) 6 [(0, .ref (sL S 3 0 0)), (1, .int (x1)), (2, .int (x2)), (3, .int (x3)), (4, .int (x4)), (5, .int (x5))] [] σ) {x1 : Int32} {x2 : Int32} {x3 : Int32} {x5 : Int32} {s0 : Int32} {s1 : Int32} {σ : Mm} {r : Int32 × Mm} (h : F_X12_pointed_51 rc6 x1 x2 x3 x5 s0 s1 σ = some r) : Z m_X12_pointed S (Qi r) 51 [(0, .ref (sL S 3 0 0)), (1, .int (x1)), (2, .int (x2)), (3, .int (x3)), (5, .int (x5))] [.int (s0), .int (s1)] σ := by
  unfold F_X12_pointed_51 at h
  refine z_iadd dX12_pointed_51 ?_
  refine z_istore (lv' := [(0, .ref (sL S 3 0 0)), (1, .int (x1)), (2, .int (x2)), (3, .int (x3)), (4, .int (s1 + s0)), (5, .int (x5))]) dX12_pointed_52 (by decide) [1, 2, 3, 4, 0, 5] rfl ?_
  refine z_iinc (j := 5) (v := x5 + 1) (lv' := [(0, .ref (sL S 3 0 0)), (1, .int (x1)), (2, .int (x2)), (3, .int (x3)), (4, .int (s1 + s0)), (5, .int (x5 + 1))]) dX12_pointed_54 rfl rfl (by decide) [1, 2, 3, 4, 5, 0] rfl ?_
  refine z_goto (tgt := 6) dX12_pointed_57 (by decide) ?_
  exact hrc6 h
def F_X12_pointed_38 (rc6 : Int32 → Int32 → Int32 → Int32 → Int32 → Mm → Option (Int32 × Mm)) (x1 : Int32) (x2 : Int32) (x3 : Int32) (x5 : Int32) (s0 : Int32) (s1 : Int32) (σ : Mm) : Option (Int32 × Mm) := (if x2 < (f_X12_apart s0 x1) then (F_X12_pointed_51 rc6 x1 x2 x3 x5 0 s1 σ) else (F_X12_pointed_51 rc6 x1 x2 x3 x5 1 s1 σ))
set_option maxRecDepth 20000 in
theorem zb_X12_pointed_38 {S : Shp} {rc6 : Int32 → Int32 → Int32 → Int32 → Int32 → Mm → Option (Int32 × Mm)} (hrc6 : ∀ {x1 : Int32} {x2 : Int32} {x3 : Int32} {x4 : Int32} {x5 : Int32} {σ : Mm} {r : Int32 × Mm}, rc6 x1 x2 x3 x4 x5 σ = some r → Z m_X12_pointed S (Qi r) 6 [(0, .ref (sL S 3 0 0)), (1, .int (x1)), (2, .int (x2)), (3, .int (x3)), (4, .int (x4)), (5, .int (x5))] [] σ) {x1 : Int32} {x2 : Int32} {x3 : Int32} {x5 : Int32} {s0 : Int32} {s1 : Int32} {σ : Mm} {r : Int32 × Mm} (h : F_X12_pointed_38 rc6 x1 x2 x3 x5 s0 s1 σ = some r) : Z m_X12_pointed S (Qi r) 38 [(0, .ref (sL S 3 0 0)), (1, .int (x1)), (2, .int (x2)), (3, .int (x3)), (5, .int (x5))] [.int (s0), .int (s1)] σ := by
  unfold F_X12_pointed_38 at h
  refine z_iload_n dX12_pointed_38 rfl 1 rfl ?_
  refine z_callS (M' := m_X12_apart) (As := [.int (s0), .int (x1)]) (rest := [.int (s1)]) kl_12_478 oy_X12_apart ⟨Nat.le_of_ble_eq_true rfl, Nat.le_of_ble_eq_true rfl⟩ rfl (Nat.le_of_ble_eq_true rfl) rfl dX12_pointed_39 (c_X12_apart rfl) (fun v τ hq => ?_)
  obtain ⟨rfl, hτ⟩ := hq
  subst τ
  change Z _ _ _ _ _ [.int (f_X12_apart s0 x1), .int (s1)] _
  refine z_iload_n dX12_pointed_42 rfl 2 rfl ?_
  refine z_icmp_gt (tgt := 50) dX12_pointed_43 (by decide) (fun q => ?_) (fun q => ?_)
  · have h := (if_pos q).symm.trans h
    refine z_iconst (v := 0) dX12_pointed_50 (by decide) ?_
    exact zb_X12_pointed_51 hrc6 h
  · have h := (if_neg q).symm.trans h
    refine z_iconst (v := 1) dX12_pointed_46 (by decide) ?_
    refine z_goto (tgt := 51) dX12_pointed_47 (by decide) ?_
    exact zb_X12_pointed_51 hrc6 h
def B_X12_pointed_6 (rc6 : Int32 → Int32 → Int32 → Int32 → Int32 → Mm → Option (Int32 × Mm)) (x1 : Int32) (x2 : Int32) (x3 : Int32) (x4 : Int32) (x5 : Int32) (σ : Mm) : Option (Int32 × Mm) := (if (mA σ 3 0 0 52) ≤ x5 then some (x4, σ) else (if x3 = 0 then (if inb x5 6 = true then (F_X12_pointed_38 rc6 x1 x2 x3 x5 (mA σ 3 0 45 x5.toNatClampNeg) x4 σ) else none) else (if inb x5 6 = true then (F_X12_pointed_38 rc6 x1 x2 x3 x5 (mA σ 3 0 46 x5.toNatClampNeg) x4 σ) else none)))
set_option maxRecDepth 20000 in
theorem zB_X12_pointed_6 {S : Shp} {rc6 : Int32 → Int32 → Int32 → Int32 → Int32 → Mm → Option (Int32 × Mm)} (hrc6 : ∀ {x1 : Int32} {x2 : Int32} {x3 : Int32} {x4 : Int32} {x5 : Int32} {σ : Mm} {r : Int32 × Mm}, rc6 x1 x2 x3 x4 x5 σ = some r → Z m_X12_pointed S (Qi r) 6 [(0, .ref (sL S 3 0 0)), (1, .int (x1)), (2, .int (x2)), (3, .int (x3)), (4, .int (x4)), (5, .int (x5))] [] σ) {x1 : Int32} {x2 : Int32} {x3 : Int32} {x4 : Int32} {x5 : Int32} {σ : Mm} {r : Int32 × Mm} (h : B_X12_pointed_6 rc6 x1 x2 x3 x4 x5 σ = some r) : Z m_X12_pointed S (Qi r) 6 [(0, .ref (sL S 3 0 0)), (1, .int (x1)), (2, .int (x2)), (3, .int (x3)), (4, .int (x4)), (5, .int (x5))] [] σ := by
  unfold B_X12_pointed_6 at h
  refine z_iload dX12_pointed_6 5 rfl ?_
  refine z_aload_n dX12_pointed_8 rfl 0 rfl ?_
  refine gf_12_513 rfl dX12_pointed_9 ?_
  refine z_icmp_ge (tgt := 60) dX12_pointed_12 (by decide) (fun q => ?_) (fun q => ?_)
  · have h := (if_pos q).symm.trans h
    refine z_iload dX12_pointed_60 4 rfl ?_
    cases h
    exact z_ireturn dX12_pointed_62 rfl rfl ⟨rfl, rfl⟩
  · have h := (if_neg q).symm.trans h
    refine z_iload dX12_pointed_15 4 rfl ?_
    refine z_iload_n dX12_pointed_17 rfl 3 rfl ?_
    refine z_if_eq (tgt := 31) dX12_pointed_18 (by decide) (fun q => ?_) (fun q => ?_)
    · have h := (if_pos q).symm.trans h
      obtain ⟨g1, h⟩ := gd h
      refine z_aload_n dX12_pointed_31 rfl 0 rfl ?_
      refine gf_12_148 rfl dX12_pointed_32 ?_
      refine z_iload dX12_pointed_35 5 rfl ?_
      refine ia_3_45 (inb_in g1) dX12_pointed_37 ?_
      refine Z.lv [0, 1, 2, 3, 5] rfl ?_
      exact zb_X12_pointed_38 hrc6 h
    · have h := (if_neg q).symm.trans h
      obtain ⟨g2, h⟩ := gd h
      refine z_aload_n dX12_pointed_21 rfl 0 rfl ?_
      refine gf_12_151 rfl dX12_pointed_22 ?_
      refine z_iload dX12_pointed_25 5 rfl ?_
      refine ia_3_46 (inb_in g2) dX12_pointed_27 ?_
      refine z_goto (tgt := 38) dX12_pointed_28 (by decide) ?_
      refine Z.lv [0, 1, 2, 3, 5] rfl ?_
      exact zb_X12_pointed_38 hrc6 h
def F_X12_pointed_6 : Nat → Int32 → Int32 → Int32 → Int32 → Int32 → Mm → Option (Int32 × Mm)
  | 0 => fun _ _ _ _ _ _ => none
  | n + 1 => B_X12_pointed_6 (F_X12_pointed_6 n)
theorem zl_X12_pointed_6 {S : Shp} : ∀ (nn : Nat) {x1 : Int32} {x2 : Int32} {x3 : Int32} {x4 : Int32} {x5 : Int32} {σ : Mm} {r : Int32 × Mm}, F_X12_pointed_6 nn x1 x2 x3 x4 x5 σ = some r → Z m_X12_pointed S (Qi r) 6 [(0, .ref (sL S 3 0 0)), (1, .int (x1)), (2, .int (x2)), (3, .int (x3)), (4, .int (x4)), (5, .int (x5))] [] σ := by
  intro nn
  induction nn with
  | zero => intro x1 x2 x3 x4 x5 σ r h; cases h
  | succ nn ih => intro x1 x2 x3 x4 x5 σ r h; exact zB_X12_pointed_6 @ih h
def F_X12_pointed (x1 : Int32) (x2 : Int32) (x3 : Int32) (σ : Mm) : Option (Int32 × Mm) := (F_X12_pointed_6 FU x1 x2 x3 0 0 σ)
set_option maxRecDepth 20000 in
theorem zb_X12_pointed {S : Shp} {x1 : Int32} {x2 : Int32} {x3 : Int32} {σ : Mm} {r : Int32 × Mm} (h : F_X12_pointed x1 x2 x3 σ = some r) : Z m_X12_pointed S (Qi r) 0 [(0, .ref (sL S 3 0 0)), (1, .int (x1)), (2, .int (x2)), (3, .int (x3))] [] σ := by
  unfold F_X12_pointed at h
  refine z_iconst (v := 0) dX12_pointed_0 (by decide) ?_
  refine z_istore (lv' := [(0, .ref (sL S 3 0 0)), (1, .int (x1)), (2, .int (x2)), (3, .int (x3)), (4, .int (0))]) dX12_pointed_1 (by decide) [1, 2, 3, 4, 0] rfl ?_
  refine z_iconst (v := 0) dX12_pointed_3 (by decide) ?_
  refine z_istore (lv' := [(0, .ref (sL S 3 0 0)), (1, .int (x1)), (2, .int (x2)), (3, .int (x3)), (4, .int (0)), (5, .int (0))]) dX12_pointed_4 (by decide) [1, 2, 3, 4, 5, 0] rfl ?_
  exact zl_X12_pointed_6 FU h
/-- SkyStonesModel.pointed(IIZ)I -/
theorem c_X12_pointed {S : Shp} {x1 : Int32} {x2 : Int32} {x3 : Int32} {σ : Mm} {r : Int32 × Mm} (h : F_X12_pointed x1 x2 x3 σ = some r) : Ct m_X12_pointed S [.ref (sL S 3 0 0), .int (x1), .int (x2), .int (x3)] σ (Qi r) := Ct.of (by decide +kernel) (Nat.le_of_ble_eq_true rfl) (zb_X12_pointed h)
def F_X12_chosen_25 (rc5 : Int32 → Int32 → Int64 → Int32 → Mm → Option (Int64 × Mm)) (x0 : Int32) (x1 : Int32) (x2 : Int64) (x4 : Int32) (σ : Mm) : Option (Int64 × Mm) := (rc5 x0 x1 x2 (x4 + 1) σ)
set_option maxRecDepth 20000 in
theorem zb_X12_chosen_25 {S : Shp} {rc5 : Int32 → Int32 → Int64 → Int32 → Mm → Option (Int64 × Mm)} (hrc5 : ∀ {x0 : Int32} {x1 : Int32} {x2 : Int64} {x4 : Int32} {σ : Mm} {r : Int64 × Mm}, rc5 x0 x1 x2 x4 σ = some r → Z m_X12_chosen S (Ql r) 5 [(0, .int (x0)), (1, .int (x1)), (2, .long (x2)), (4, .int (x4))] [] σ) {x0 : Int32} {x1 : Int32} {x2 : Int64} {x4 : Int32} {σ : Mm} {r : Int64 × Mm} (h : F_X12_chosen_25 rc5 x0 x1 x2 x4 σ = some r) : Z m_X12_chosen S (Ql r) 25 [(0, .int (x0)), (1, .int (x1)), (2, .long (x2)), (4, .int (x4))] [] σ := by
  unfold F_X12_chosen_25 at h
  refine z_iinc (j := 3) (v := x4 + 1) (lv' := [(0, .int (x0)), (1, .int (x1)), (2, .long (x2)), (4, .int (x4 + 1))]) dX12_chosen_25 rfl rfl (by decide) [1, 2, 3, 0] rfl ?_
  refine z_goto (tgt := 5) dX12_chosen_28 (by decide) ?_
  exact hrc5 h
def B_X12_chosen_5 (rc5 : Int32 → Int32 → Int64 → Int32 → Mm → Option (Int64 × Mm)) (x0 : Int32) (x1 : Int32) (x2 : Int64) (x4 : Int32) (σ : Mm) : Option (Int64 × Mm) := (if x1 < x4 then some (x2, σ) else (if ¬ (Int32.toInt64 x4) = 0 then (F_X12_chosen_25 rc5 x0 x1 ((x2 * (Int32.toInt64 ((x0 - x1) + x4))) / (Int32.toInt64 x4)) x4 σ) else none))
set_option maxRecDepth 20000 in
theorem zB_X12_chosen_5 {S : Shp} {rc5 : Int32 → Int32 → Int64 → Int32 → Mm → Option (Int64 × Mm)} (hrc5 : ∀ {x0 : Int32} {x1 : Int32} {x2 : Int64} {x4 : Int32} {σ : Mm} {r : Int64 × Mm}, rc5 x0 x1 x2 x4 σ = some r → Z m_X12_chosen S (Ql r) 5 [(0, .int (x0)), (1, .int (x1)), (2, .long (x2)), (4, .int (x4))] [] σ) {x0 : Int32} {x1 : Int32} {x2 : Int64} {x4 : Int32} {σ : Mm} {r : Int64 × Mm} (h : B_X12_chosen_5 rc5 x0 x1 x2 x4 σ = some r) : Z m_X12_chosen S (Ql r) 5 [(0, .int (x0)), (1, .int (x1)), (2, .long (x2)), (4, .int (x4))] [] σ := by
  unfold B_X12_chosen_5 at h
  refine z_iload dX12_chosen_5 3 rfl ?_
  refine z_iload_n dX12_chosen_7 rfl 1 rfl ?_
  refine z_icmp_gt (tgt := 31) dX12_chosen_8 (by decide) (fun q => ?_) (fun q => ?_)
  · have h := (if_pos q).symm.trans h
    refine z_lload_n dX12_chosen_31 rfl 2 rfl ?_
    cases h
    exact z_lreturn dX12_chosen_32 rfl ⟨rfl, rfl⟩
  · have h := (if_neg q).symm.trans h
    obtain ⟨g1, h⟩ := gd h
    refine z_lload_n dX12_chosen_11 rfl 2 rfl ?_
    refine z_iload_n dX12_chosen_12 rfl 0 rfl ?_
    refine z_iload_n dX12_chosen_13 rfl 1 rfl ?_
    refine z_isub dX12_chosen_14 ?_
    refine z_iload dX12_chosen_15 3 rfl ?_
    refine z_iadd dX12_chosen_17 ?_
    refine z_i2l dX12_chosen_18 ?_
    refine z_lmul dX12_chosen_19 ?_
    refine z_iload dX12_chosen_20 3 rfl ?_
    refine z_i2l dX12_chosen_22 ?_
    refine z_ldiv dX12_chosen_23 g1 ?_
    refine z_lstore_n (lv' := [(0, .int (x0)), (1, .int (x1)), (2, .long ((x2 * (Int32.toInt64 ((x0 - x1) + x4))) / (Int32.toInt64 x4))), (4, .int (x4))]) dX12_chosen_24 rfl (by decide) [1, 2, 0, 3] rfl ?_
    exact zb_X12_chosen_25 hrc5 h
def F_X12_chosen_5 : Nat → Int32 → Int32 → Int64 → Int32 → Mm → Option (Int64 × Mm)
  | 0 => fun _ _ _ _ _ => none
  | n + 1 => B_X12_chosen_5 (F_X12_chosen_5 n)
theorem zl_X12_chosen_5 {S : Shp} : ∀ (nn : Nat) {x0 : Int32} {x1 : Int32} {x2 : Int64} {x4 : Int32} {σ : Mm} {r : Int64 × Mm}, F_X12_chosen_5 nn x0 x1 x2 x4 σ = some r → Z m_X12_chosen S (Ql r) 5 [(0, .int (x0)), (1, .int (x1)), (2, .long (x2)), (4, .int (x4))] [] σ := by
  intro nn
  induction nn with
  | zero => intro x0 x1 x2 x4 σ r h; cases h
  | succ nn ih => intro x0 x1 x2 x4 σ r h; exact zB_X12_chosen_5 @ih h
def F_X12_chosen (x0 : Int32) (x1 : Int32) (σ : Mm) : Option (Int64 × Mm) := (F_X12_chosen_5 FU x0 x1 1 1 σ)
set_option maxRecDepth 20000 in
theorem zb_X12_chosen {S : Shp} {x0 : Int32} {x1 : Int32} {σ : Mm} {r : Int64 × Mm} (h : F_X12_chosen x0 x1 σ = some r) : Z m_X12_chosen S (Ql r) 0 [(0, .int (x0)), (1, .int (x1))] [] σ := by
  unfold F_X12_chosen at h
  refine z_lconst (v := 1) dX12_chosen_0 (by decide) ?_
  refine z_lstore_n (lv' := [(0, .int (x0)), (1, .int (x1)), (2, .long (1))]) dX12_chosen_1 rfl (by decide) [1, 2, 0] rfl ?_
  refine z_iconst (v := 1) dX12_chosen_2 (by decide) ?_
  refine z_istore (lv' := [(0, .int (x0)), (1, .int (x1)), (2, .long (1)), (4, .int (1))]) dX12_chosen_3 (by decide) [1, 2, 3, 0] rfl ?_
  exact zl_X12_chosen_5 FU h
/-- SkyStonesModel.chosen(II)J -/
theorem c_X12_chosen {S : Shp} {x0 : Int32} {x1 : Int32} {σ : Mm} {r : Int64 × Mm} (h : F_X12_chosen x0 x1 σ = some r) : Ct m_X12_chosen S [.int (x0), .int (x1)] σ (Ql r) := Ct.of (by decide +kernel) (Nat.le_of_ble_eq_true rfl) (zb_X12_chosen h)
def B_X12_power_5 (rc5 : Int32 → Int32 → Int64 → Int32 → Mm → Option (Int64 × Mm)) (x0 : Int32) (x1 : Int32) (x2 : Int64) (x4 : Int32) (σ : Mm) : Option (Int64 × Mm) := (if x1 ≤ x4 then some (x2, σ) else (rc5 x0 x1 (x2 * (Int32.toInt64 x0)) (x4 + 1) σ))
set_option maxRecDepth 20000 in
theorem zB_X12_power_5 {S : Shp} {rc5 : Int32 → Int32 → Int64 → Int32 → Mm → Option (Int64 × Mm)} (hrc5 : ∀ {x0 : Int32} {x1 : Int32} {x2 : Int64} {x4 : Int32} {σ : Mm} {r : Int64 × Mm}, rc5 x0 x1 x2 x4 σ = some r → Z m_X12_power S (Ql r) 5 [(0, .int (x0)), (1, .int (x1)), (2, .long (x2)), (4, .int (x4))] [] σ) {x0 : Int32} {x1 : Int32} {x2 : Int64} {x4 : Int32} {σ : Mm} {r : Int64 × Mm} (h : B_X12_power_5 rc5 x0 x1 x2 x4 σ = some r) : Z m_X12_power S (Ql r) 5 [(0, .int (x0)), (1, .int (x1)), (2, .long (x2)), (4, .int (x4))] [] σ := by
  unfold B_X12_power_5 at h
  refine z_iload dX12_power_5 3 rfl ?_
  refine z_iload_n dX12_power_7 rfl 1 rfl ?_
  refine z_icmp_ge (tgt := 22) dX12_power_8 (by decide) (fun q => ?_) (fun q => ?_)
  · have h := (if_pos q).symm.trans h
    refine z_lload_n dX12_power_22 rfl 2 rfl ?_
    cases h
    exact z_lreturn dX12_power_23 rfl ⟨rfl, rfl⟩
  · have h := (if_neg q).symm.trans h
    refine z_lload_n dX12_power_11 rfl 2 rfl ?_
    refine z_iload_n dX12_power_12 rfl 0 rfl ?_
    refine z_i2l dX12_power_13 ?_
    refine z_lmul dX12_power_14 ?_
    refine z_lstore_n (lv' := [(0, .int (x0)), (1, .int (x1)), (2, .long (x2 * (Int32.toInt64 x0))), (4, .int (x4))]) dX12_power_15 rfl (by decide) [1, 2, 0, 3] rfl ?_
    refine z_iinc (j := 3) (v := x4 + 1) (lv' := [(0, .int (x0)), (1, .int (x1)), (2, .long (x2 * (Int32.toInt64 x0))), (4, .int (x4 + 1))]) dX12_power_16 rfl rfl (by decide) [1, 2, 3, 0] rfl ?_
    refine z_goto (tgt := 5) dX12_power_19 (by decide) ?_
    exact hrc5 h
def F_X12_power_5 : Nat → Int32 → Int32 → Int64 → Int32 → Mm → Option (Int64 × Mm)
  | 0 => fun _ _ _ _ _ => none
  | n + 1 => B_X12_power_5 (F_X12_power_5 n)
theorem zl_X12_power_5 {S : Shp} : ∀ (nn : Nat) {x0 : Int32} {x1 : Int32} {x2 : Int64} {x4 : Int32} {σ : Mm} {r : Int64 × Mm}, F_X12_power_5 nn x0 x1 x2 x4 σ = some r → Z m_X12_power S (Ql r) 5 [(0, .int (x0)), (1, .int (x1)), (2, .long (x2)), (4, .int (x4))] [] σ := by
  intro nn
  induction nn with
  | zero => intro x0 x1 x2 x4 σ r h; cases h
  | succ nn ih => intro x0 x1 x2 x4 σ r h; exact zB_X12_power_5 @ih h
def F_X12_power (x0 : Int32) (x1 : Int32) (σ : Mm) : Option (Int64 × Mm) := (F_X12_power_5 FU x0 x1 1 0 σ)
set_option maxRecDepth 20000 in
theorem zb_X12_power {S : Shp} {x0 : Int32} {x1 : Int32} {σ : Mm} {r : Int64 × Mm} (h : F_X12_power x0 x1 σ = some r) : Z m_X12_power S (Ql r) 0 [(0, .int (x0)), (1, .int (x1))] [] σ := by
  unfold F_X12_power at h
  refine z_lconst (v := 1) dX12_power_0 (by decide) ?_
  refine z_lstore_n (lv' := [(0, .int (x0)), (1, .int (x1)), (2, .long (1))]) dX12_power_1 rfl (by decide) [1, 2, 0] rfl ?_
  refine z_iconst (v := 0) dX12_power_2 (by decide) ?_
  refine z_istore (lv' := [(0, .int (x0)), (1, .int (x1)), (2, .long (1)), (4, .int (0))]) dX12_power_3 (by decide) [1, 2, 3, 0] rfl ?_
  exact zl_X12_power_5 FU h
/-- SkyStonesModel.power(II)J -/
theorem c_X12_power {S : Shp} {x0 : Int32} {x1 : Int32} {σ : Mm} {r : Int64 × Mm} (h : F_X12_power x0 x1 σ = some r) : Ct m_X12_power S [.int (x0), .int (x1)] σ (Ql r) := Ct.of (by decide +kernel) (Nat.le_of_ble_eq_true rfl) (zb_X12_power h)
def F_X12_rows_37 (rc6 : Int32 → Int32 → Int32 → Int64 → Int32 → Mm → Option (Int64 × Mm)) (x0 : Int32) (x2 : Int32) (x3 : Int32) (x6 : Int32) (s0 : Int64) (s1 : Int64) (s2 : Int64) (σ : Mm) : Option (Int64 × Mm) := (rc6 x0 x2 x3 (s2 + (s1 * s0)) (x6 + 1) σ)
set_option maxRecDepth 20000 in
theorem zb_X12_rows_37 {S : Shp} {rc6 : Int32 → Int32 → Int32 → Int64 → Int32 → Mm → Option (Int64 × Mm)} (hrc6 : ∀ {x0 : Int32} {x2 : Int32} {x3 : Int32} {x4 : Int64} {x6 : Int32} {σ : Mm} {r : Int64 × Mm}, rc6 x0 x2 x3 x4 x6 σ = some r → Z m_X12_rows S (Ql r) 6 [(0, .int (x0)), (2, .int (x2)), (3, .int (x3)), (4, .long (x4)), (6, .int (x6))] [] σ) {x0 : Int32} {x2 : Int32} {x3 : Int32} {x6 : Int32} {s0 : Int64} {s1 : Int64} {s2 : Int64} {σ : Mm} {r : Int64 × Mm} (h : F_X12_rows_37 rc6 x0 x2 x3 x6 s0 s1 s2 σ = some r) : Z m_X12_rows S (Ql r) 37 [(0, .int (x0)), (2, .int (x2)), (3, .int (x3)), (6, .int (x6))] [.long (s0), .long (s1), .long (s2)] σ := by
  unfold F_X12_rows_37 at h
  refine z_lmul dX12_rows_37 ?_
  refine z_ladd dX12_rows_38 ?_
  refine z_lstore (lv' := [(0, .int (x0)), (2, .int (x2)), (3, .int (x3)), (4, .long (s2 + (s1 * s0))), (6, .int (x6))]) dX12_rows_39 (by decide) [1, 2, 3, 0, 4] rfl ?_
  refine z_iinc (j := 4) (v := x6 + 1) (lv' := [(0, .int (x0)), (2, .int (x2)), (3, .int (x3)), (4, .long (s2 + (s1 * s0))), (6, .int (x6 + 1))]) dX12_rows_41 rfl rfl (by decide) [1, 2, 3, 4, 0] rfl ?_
  refine z_goto (tgt := 6) dX12_rows_44 (by decide) ?_
  exact hrc6 h
def F_X12_rows_26 (rc6 : Int32 → Int32 → Int32 → Int64 → Int32 → Mm → Option (Int64 × Mm)) (x0 : Int32) (x2 : Int32) (x3 : Int32) (x6 : Int32) (s0 : Int64) (s1 : Int64) (s2 : Int64) (σ : Mm) : Option (Int64 × Mm) := (bnl (F_X12_power (x3 - x2) (x0 - x6) σ) (fun v τ => (F_X12_rows_37 rc6 x0 x2 x3 x6 v (s1 * s0) s2 τ)))
set_option maxRecDepth 20000 in
theorem zb_X12_rows_26 {S : Shp} {rc6 : Int32 → Int32 → Int32 → Int64 → Int32 → Mm → Option (Int64 × Mm)} (hrc6 : ∀ {x0 : Int32} {x2 : Int32} {x3 : Int32} {x4 : Int64} {x6 : Int32} {σ : Mm} {r : Int64 × Mm}, rc6 x0 x2 x3 x4 x6 σ = some r → Z m_X12_rows S (Ql r) 6 [(0, .int (x0)), (2, .int (x2)), (3, .int (x3)), (4, .long (x4)), (6, .int (x6))] [] σ) {x0 : Int32} {x2 : Int32} {x3 : Int32} {x6 : Int32} {s0 : Int64} {s1 : Int64} {s2 : Int64} {σ : Mm} {r : Int64 × Mm} (h : F_X12_rows_26 rc6 x0 x2 x3 x6 s0 s1 s2 σ = some r) : Z m_X12_rows S (Ql r) 26 [(0, .int (x0)), (2, .int (x2)), (3, .int (x3)), (6, .int (x6))] [.long (s0), .long (s1), .long (s2)] σ := by
  unfold F_X12_rows_26 at h
  refine z_lmul dX12_rows_26 ?_
  refine z_iload_n dX12_rows_27 rfl 2 rfl ?_
  refine z_iload_n dX12_rows_28 rfl 1 rfl ?_
  refine z_isub dX12_rows_29 ?_
  refine z_iload_n dX12_rows_30 rfl 0 rfl ?_
  refine z_iload dX12_rows_31 3 rfl ?_
  refine z_isub dX12_rows_33 ?_
  obtain ⟨v, τ, hc, h⟩ := bnl_e h
  refine z_callS (M' := m_X12_power) (As := [.int (x3 - x2), .int (x0 - x6)]) (rest := [.long (s1 * s0), .long (s2)]) kl_12_523 oy_X12_power ⟨Nat.le_of_ble_eq_true rfl, Nat.le_of_ble_eq_true rfl⟩ rfl (Nat.le_of_ble_eq_true rfl) rfl dX12_rows_34 (c_X12_power hc) (fun v2 τ2 hq => ?_)
  obtain ⟨rfl, hτ⟩ := hq
  subst τ2
  change Z _ _ _ _ _ [.long (v), .long (s1 * s0), .long (s2)] _
  exact zb_X12_rows_37 hrc6 h
def F_X12_rows_20 (rc6 : Int32 → Int32 → Int32 → Int64 → Int32 → Mm → Option (Int64 × Mm)) (x0 : Int32) (x2 : Int32) (x3 : Int32) (x6 : Int32) (s0 : Int64) (s1 : Int64) (σ : Mm) : Option (Int64 × Mm) := (bnl (F_X12_power x2 x6 σ) (fun v τ => (F_X12_rows_26 rc6 x0 x2 x3 x6 v s0 s1 τ)))
set_option maxRecDepth 20000 in
theorem zb_X12_rows_20 {S : Shp} {rc6 : Int32 → Int32 → Int32 → Int64 → Int32 → Mm → Option (Int64 × Mm)} (hrc6 : ∀ {x0 : Int32} {x2 : Int32} {x3 : Int32} {x4 : Int64} {x6 : Int32} {σ : Mm} {r : Int64 × Mm}, rc6 x0 x2 x3 x4 x6 σ = some r → Z m_X12_rows S (Ql r) 6 [(0, .int (x0)), (2, .int (x2)), (3, .int (x3)), (4, .long (x4)), (6, .int (x6))] [] σ) {x0 : Int32} {x2 : Int32} {x3 : Int32} {x6 : Int32} {s0 : Int64} {s1 : Int64} {σ : Mm} {r : Int64 × Mm} (h : F_X12_rows_20 rc6 x0 x2 x3 x6 s0 s1 σ = some r) : Z m_X12_rows S (Ql r) 20 [(0, .int (x0)), (2, .int (x2)), (3, .int (x3)), (6, .int (x6))] [.long (s0), .long (s1)] σ := by
  unfold F_X12_rows_20 at h
  refine z_iload_n dX12_rows_20 rfl 1 rfl ?_
  refine z_iload dX12_rows_21 3 rfl ?_
  obtain ⟨v, τ, hc, h⟩ := bnl_e h
  refine z_callS (M' := m_X12_power) (As := [.int (x2), .int (x6)]) (rest := [.long (s0), .long (s1)]) kl_12_523 oy_X12_power ⟨Nat.le_of_ble_eq_true rfl, Nat.le_of_ble_eq_true rfl⟩ rfl (Nat.le_of_ble_eq_true rfl) rfl dX12_rows_23 (c_X12_power hc) (fun v2 τ2 hq => ?_)
  obtain ⟨rfl, hτ⟩ := hq
  subst τ2
  change Z _ _ _ _ _ [.long (v), .long (s0), .long (s1)] _
  exact zb_X12_rows_26 hrc6 h
def B_X12_rows_6 (rc6 : Int32 → Int32 → Int32 → Int64 → Int32 → Mm → Option (Int64 × Mm)) (x0 : Int32) (x2 : Int32) (x3 : Int32) (x4 : Int64) (x6 : Int32) (σ : Mm) : Option (Int64 × Mm) := (if x0 < x6 then some (x4, σ) else (bnl (F_X12_chosen x0 x6 σ) (fun v τ => (F_X12_rows_20 rc6 x0 x2 x3 x6 v x4 τ))))
set_option maxRecDepth 20000 in
theorem zB_X12_rows_6 {S : Shp} {rc6 : Int32 → Int32 → Int32 → Int64 → Int32 → Mm → Option (Int64 × Mm)} (hrc6 : ∀ {x0 : Int32} {x2 : Int32} {x3 : Int32} {x4 : Int64} {x6 : Int32} {σ : Mm} {r : Int64 × Mm}, rc6 x0 x2 x3 x4 x6 σ = some r → Z m_X12_rows S (Ql r) 6 [(0, .int (x0)), (2, .int (x2)), (3, .int (x3)), (4, .long (x4)), (6, .int (x6))] [] σ) {x0 : Int32} {x2 : Int32} {x3 : Int32} {x4 : Int64} {x6 : Int32} {σ : Mm} {r : Int64 × Mm} (h : B_X12_rows_6 rc6 x0 x2 x3 x4 x6 σ = some r) : Z m_X12_rows S (Ql r) 6 [(0, .int (x0)), (2, .int (x2)), (3, .int (x3)), (4, .long (x4)), (6, .int (x6))] [] σ := by
  unfold B_X12_rows_6 at h
  refine z_iload dX12_rows_6 4 rfl ?_
  refine z_iload_n dX12_rows_8 rfl 0 rfl ?_
  refine z_icmp_gt (tgt := 47) dX12_rows_9 (by decide) (fun q => ?_) (fun q => ?_)
  · have h := (if_pos q).symm.trans h
    refine z_lload dX12_rows_47 3 rfl ?_
    cases h
    exact z_lreturn dX12_rows_49 rfl ⟨rfl, rfl⟩
  · have h := (if_neg q).symm.trans h
    refine z_lload dX12_rows_12 3 rfl ?_
    refine z_iload_n dX12_rows_14 rfl 0 rfl ?_
    refine z_iload dX12_rows_15 4 rfl ?_
    obtain ⟨v, τ, hc, h⟩ := bnl_e h
    refine z_callS (M' := m_X12_chosen) (As := [.int (x0), .int (x6)]) (rest := [.long (x4)]) kl_12_519 oy_X12_chosen ⟨Nat.le_of_ble_eq_true rfl, Nat.le_of_ble_eq_true rfl⟩ rfl (Nat.le_of_ble_eq_true rfl) rfl dX12_rows_17 (c_X12_chosen hc) (fun v2 τ2 hq => ?_)
    obtain ⟨rfl, hτ⟩ := hq
    subst τ2
    change Z _ _ _ _ _ [.long (v), .long (x4)] _
    refine Z.lv [0, 1, 2, 4] rfl ?_
    exact zb_X12_rows_20 hrc6 h
def F_X12_rows_6 : Nat → Int32 → Int32 → Int32 → Int64 → Int32 → Mm → Option (Int64 × Mm)
  | 0 => fun _ _ _ _ _ _ => none
  | n + 1 => B_X12_rows_6 (F_X12_rows_6 n)
theorem zl_X12_rows_6 {S : Shp} : ∀ (nn : Nat) {x0 : Int32} {x2 : Int32} {x3 : Int32} {x4 : Int64} {x6 : Int32} {σ : Mm} {r : Int64 × Mm}, F_X12_rows_6 nn x0 x2 x3 x4 x6 σ = some r → Z m_X12_rows S (Ql r) 6 [(0, .int (x0)), (2, .int (x2)), (3, .int (x3)), (4, .long (x4)), (6, .int (x6))] [] σ := by
  intro nn
  induction nn with
  | zero => intro x0 x2 x3 x4 x6 σ r h; cases h
  | succ nn ih => intro x0 x2 x3 x4 x6 σ r h; exact zB_X12_rows_6 @ih h
def F_X12_rows (x0 : Int32) (x1 : Int32) (x2 : Int32) (x3 : Int32) (σ : Mm) : Option (Int64 × Mm) := (F_X12_rows_6 FU x0 x2 x3 0 x1 σ)
set_option maxRecDepth 20000 in
theorem zb_X12_rows {S : Shp} {x0 : Int32} {x1 : Int32} {x2 : Int32} {x3 : Int32} {σ : Mm} {r : Int64 × Mm} (h : F_X12_rows x0 x1 x2 x3 σ = some r) : Z m_X12_rows S (Ql r) 0 [(0, .int (x0)), (1, .int (x1)), (2, .int (x2)), (3, .int (x3))] [] σ := by
  unfold F_X12_rows at h
  refine z_lconst (v := 0) dX12_rows_0 (by decide) ?_
  refine z_lstore (lv' := [(0, .int (x0)), (1, .int (x1)), (2, .int (x2)), (3, .int (x3)), (4, .long (0))]) dX12_rows_1 (by decide) [1, 2, 3, 4, 0] rfl ?_
  refine z_iload_n dX12_rows_3 rfl 1 rfl ?_
  refine z_istore (lv' := [(0, .int (x0)), (1, .int (x1)), (2, .int (x2)), (3, .int (x3)), (4, .long (0)), (6, .int (x1))]) dX12_rows_4 (by decide) [1, 2, 3, 4, 5, 0] rfl ?_
  refine Z.lv [0, 2, 3, 4, 5] rfl ?_
  exact zl_X12_rows_6 FU h
/-- SkyStonesModel.rows(IIII)J -/
theorem c_X12_rows {S : Shp} {x0 : Int32} {x1 : Int32} {x2 : Int32} {x3 : Int32} {σ : Mm} {r : Int64 × Mm} (h : F_X12_rows x0 x1 x2 x3 σ = some r) : Ct m_X12_rows S [.int (x0), .int (x1), .int (x2), .int (x3)] σ (Ql r) := Ct.of (by decide +kernel) (Nat.le_of_ble_eq_true rfl) (zb_X12_rows h)
def F_X12_chance_43 (s0 : Int64) (σ : Mm) : Option (Int64 × Mm) := some (s0, σ)
set_option maxRecDepth 20000 in
theorem zb_X12_chance_43 {S : Shp} {s0 : Int64} {σ : Mm} {r : Int64 × Mm} (h : F_X12_chance_43 s0 σ = some r) : Z m_X12_chance S (Ql r) 43 [] [.long (s0)] σ := by
  unfold F_X12_chance_43 at h
  refine z_goto (tgt := 49) dX12_chance_43 (by decide) ?_
  cases h
  exact z_lreturn dX12_chance_49 rfl ⟨rfl, rfl⟩
def F_X12_chance_32 (x2 : Int32) (s0 : Int32) (s1 : Int32) (σ : Mm) : Option (Int64 × Mm) := (bnl (F_X12_rows s1 s0 (((2 : Int32) * x2) + (1 : Int32)) 360 σ) (fun v τ => (F_X12_chance_43 v τ)))
set_option maxRecDepth 20000 in
theorem zb_X12_chance_32 {S : Shp} {x2 : Int32} {s0 : Int32} {s1 : Int32} {σ : Mm} {r : Int64 × Mm} (h : F_X12_chance_32 x2 s0 s1 σ = some r) : Z m_X12_chance S (Ql r) 32 [(2, .int (x2))] [.int (s0), .int (s1)] σ := by
  unfold F_X12_chance_32 at h
  refine z_iconst (v := 2) dX12_chance_32 (by decide) ?_
  refine z_iload_n dX12_chance_33 rfl 0 rfl ?_
  refine z_imul dX12_chance_34 ?_
  refine z_iconst (v := 1) dX12_chance_35 (by decide) ?_
  refine z_iadd dX12_chance_36 ?_
  refine z_sipush (v := 360) dX12_chance_37 (by decide) ?_
  obtain ⟨v, τ, hc, h⟩ := bnl_e h
  refine z_callS (M' := m_X12_rows) (As := [.int (s1), .int (s0), .int (((2 : Int32) * x2) + (1 : Int32)), .int (360)]) (rest := []) kl_12_526 oy_X12_rows ⟨Nat.le_of_ble_eq_true rfl, Nat.le_of_ble_eq_true rfl⟩ rfl (Nat.le_of_ble_eq_true rfl) rfl dX12_chance_40 (c_X12_rows hc) (fun v2 τ2 hq => ?_)
  obtain ⟨rfl, hτ⟩ := hq
  subst τ2
  change Z _ _ _ _ _ [.long (v)] _
  refine Z.lv [] rfl ?_
  exact zb_X12_chance_43 h
def F_X12_chance (x1 : Int32) (x2 : Int32) (σ : Mm) : Option (Int64 × Mm) := (if (f_X12_isIn x1 0 359) = 0 then some ((-1), σ) else (if (f_X12_isIn x2 0 20) = 0 then some ((-1), σ) else (bnd (F_X12_pointed x1 x2 0 σ) (fun v τ => (F_X12_chance_32 x2 v (mA σ 3 0 0 52) τ)))))
set_option maxRecDepth 20000 in
theorem zb_X12_chance {S : Shp} {x1 : Int32} {x2 : Int32} {σ : Mm} {r : Int64 × Mm} (h : F_X12_chance x1 x2 σ = some r) : Z m_X12_chance S (Ql r) 0 [(0, .ref (sL S 3 0 0)), (1, .int (x1)), (2, .int (x2))] [] σ := by
  unfold F_X12_chance at h
  refine z_iload_n dX12_chance_0 rfl 1 rfl ?_
  refine z_iconst (v := 0) dX12_chance_1 (by decide) ?_
  refine z_sipush (v := 359) dX12_chance_2 (by decide) ?_
  refine z_callS (M' := m_X12_isIn) (As := [.int (x1), .int (0), .int (359)]) (rest := []) kl_12_407 oy_X12_isIn ⟨Nat.le_of_ble_eq_true rfl, Nat.le_of_ble_eq_true rfl⟩ rfl (Nat.le_of_ble_eq_true rfl) rfl dX12_chance_5 (c_X12_isIn rfl) (fun v τ hq => ?_)
  obtain ⟨rfl, hτ⟩ := hq
  subst τ
  change Z _ _ _ _ _ [.int (f_X12_isIn x1 0 359)] _
  refine z_if_eq (tgt := 46) dX12_chance_8 (by decide) (fun q => ?_) (fun q => ?_)
  · have h := (if_pos q).symm.trans h
    refine z_ldc2 qw_1804 dX12_chance_46 ?_
    cases h
    exact z_lreturn dX12_chance_49 rfl ⟨rfl, rfl⟩
  · have h := (if_neg q).symm.trans h
    refine z_iload_n dX12_chance_11 rfl 2 rfl ?_
    refine z_iconst (v := 0) dX12_chance_12 (by decide) ?_
    refine z_bipush (v := 20) dX12_chance_13 (by decide) ?_
    refine z_callS (M' := m_X12_isIn) (As := [.int (x2), .int (0), .int (20)]) (rest := []) kl_12_407 oy_X12_isIn ⟨Nat.le_of_ble_eq_true rfl, Nat.le_of_ble_eq_true rfl⟩ rfl (Nat.le_of_ble_eq_true rfl) rfl dX12_chance_15 (c_X12_isIn rfl) (fun v τ hq => ?_)
    obtain ⟨rfl, hτ⟩ := hq
    subst τ
    change Z _ _ _ _ _ [.int (f_X12_isIn x2 0 20)] _
    refine z_if_eq (tgt := 46) dX12_chance_18 (by decide) (fun q => ?_) (fun q => ?_)
    · have h := (if_pos q).symm.trans h
      refine z_ldc2 qw_1804 dX12_chance_46 ?_
      cases h
      exact z_lreturn dX12_chance_49 rfl ⟨rfl, rfl⟩
    · have h := (if_neg q).symm.trans h
      refine z_aload_n dX12_chance_21 rfl 0 rfl ?_
      refine gf_12_513 rfl dX12_chance_22 ?_
      refine z_aload_n dX12_chance_25 rfl 0 rfl ?_
      refine z_iload_n dX12_chance_26 rfl 1 rfl ?_
      refine z_iload_n dX12_chance_27 rfl 2 rfl ?_
      refine z_iconst (v := 0) dX12_chance_28 (by decide) ?_
      obtain ⟨v, τ, hc, h⟩ := bnd_e h
      refine z_callV (M' := m_X12_pointed) (t := 3) (i := 0) (k := 0) (As := [.int (x1), .int (x2), .int (0)]) (rest := [.int (mA σ 3 0 0 52)]) kl_12_516 oy_X12_pointed ⟨Nat.le_of_ble_eq_true rfl, Nat.le_of_ble_eq_true rfl⟩ rfl rfl rfl rfl (Nat.le_of_ble_eq_true rfl) rfl dX12_chance_29 (c_X12_pointed hc) (fun v2 τ2 hq => ?_)
      obtain ⟨rfl, hτ⟩ := hq
      subst τ2
      change Z _ _ _ _ _ [.int (v), .int (mA σ 3 0 0 52)] _
      refine Z.lv [2] rfl ?_
      exact zb_X12_chance_32 h
/-- SkyStonesModel.chance(II)J -/
theorem c_X12_chance {S : Shp} {x1 : Int32} {x2 : Int32} {σ : Mm} {r : Int64 × Mm} (h : F_X12_chance x1 x2 σ = some r) : Ct m_X12_chance S [.ref (sL S 3 0 0), .int (x1), .int (x2)] σ (Ql r) := Ct.of (by decide +kernel) (Nat.le_of_ble_eq_true rfl) (zb_X12_chance h)
def F_X12_clear_10 (x1 : Int32) (σ : Mm) : Option (Int32 × Mm) := some (x1, σ)
set_option maxRecDepth 20000 in
theorem zb_X12_clear_10 {S : Shp} {x1 : Int32} {σ : Mm} {r : Int32 × Mm} (h : F_X12_clear_10 x1 σ = some r) : Z m_X12_clear S (Qi r) 10 [(1, .int (x1))] [] σ := by
  unfold F_X12_clear_10 at h
  refine z_iload_n dX12_clear_10 rfl 0 rfl ?_
  cases h
  exact z_ireturn dX12_clear_11 rfl rfl ⟨rfl, rfl⟩
def F_X12_clear (σ : Mm) : Option (Int32 × Mm) := (F_X12_clear_10 (mA σ 3 0 0 52) (setA σ 3 0 0 (upd (mA σ 3 0 0) 52 0)))
set_option maxRecDepth 20000 in
theorem zb_X12_clear {S : Shp} {σ : Mm} {r : Int32 × Mm} (h : F_X12_clear σ = some r) : Z m_X12_clear S (Qi r) 0 [(0, .ref (sL S 3 0 0))] [] σ := by
  unfold F_X12_clear at h
  refine z_aload_n dX12_clear_0 rfl 0 rfl ?_
  refine gf_12_513 rfl dX12_clear_1 ?_
  refine z_istore_n (lv' := [(0, .ref (sL S 3 0 0)), (1, .int (mA σ 3 0 0 52))]) dX12_clear_4 rfl (by decide) [1, 0] rfl ?_
  refine z_aload_n dX12_clear_5 rfl 0 rfl ?_
  refine z_iconst (v := 0) dX12_clear_6 (by decide) ?_
  refine pf_12_513 rfl dX12_clear_7 ?_
  refine Z.lv [1] rfl ?_
  exact zb_X12_clear_10 h
/-- SkyStonesModel.clear()I -/
theorem c_X12_clear {S : Shp} {σ : Mm} {r : Int32 × Mm} (h : F_X12_clear σ = some r) : Ct m_X12_clear S [.ref (sL S 3 0 0)] σ (Qi r) := Ct.of (by decide +kernel) (Nat.le_of_ble_eq_true rfl) (zb_X12_clear h)
def F_X12_emit_32 (σ : Mm) : Option (Mm) := (if inb 1 5 = true then (if inb 1 5 = true then some (setA σ 3 0 28 (upd (mA σ 3 0 28) (1 : Int32).toNatClampNeg ((mA σ 3 0 28 (1 : Int32).toNatClampNeg) + (1 : Int32)))) else none) else none)
set_option maxRecDepth 20000 in
theorem zb_X12_emit_32 {S : Shp} {σ : Mm} {r : Mm} (h : F_X12_emit_32 σ = some r) : Z m_X12_emit S (Qv r) 32 [(0, .ref (sL S 3 0 0))] [] σ := by
  unfold F_X12_emit_32 at h
  obtain ⟨g5, h⟩ := gd h
  refine z_aload_n dX12_emit_32 rfl 0 rfl ?_
  refine gf_12_97 rfl dX12_emit_33 ?_
  refine z_iconst (v := 1) dX12_emit_36 (by decide) ?_
  refine z_dup2_11 dX12_emit_37 rfl rfl ?_
  obtain ⟨g6, h⟩ := gd h
  refine ia_3_28 (inb_in g5) dX12_emit_38 ?_
  refine z_iconst (v := 1) dX12_emit_39 (by decide) ?_
  refine z_iadd dX12_emit_40 ?_
  refine is_3_28 (inb_in g6) dX12_emit_41 ?_
  cases h
  exact z_return dX12_emit_42 rfl ⟨rfl, rfl⟩
def F_X12_emit_16 (x2 : Int32) (σ : Mm) : Option (Mm) := (if inb 1 5 = true then (if inb ((500 : Int32) + (mA σ 3 0 28 (1 : Int32).toNatClampNeg)) 2500 = true then (F_X12_emit_32 (setA σ 3 0 30 (upd (mA σ 3 0 30) ((500 : Int32) + (mA σ 3 0 28 (1 : Int32).toNatClampNeg)).toNatClampNeg x2))) else none) else none)
set_option maxRecDepth 20000 in
theorem zb_X12_emit_16 {S : Shp} {x2 : Int32} {σ : Mm} {r : Mm} (h : F_X12_emit_16 x2 σ = some r) : Z m_X12_emit S (Qv r) 16 [(0, .ref (sL S 3 0 0)), (2, .int (x2))] [] σ := by
  unfold F_X12_emit_16 at h
  obtain ⟨g3, h⟩ := gd h
  refine z_aload_n dX12_emit_16 rfl 0 rfl ?_
  refine gf_12_103 rfl dX12_emit_17 ?_
  refine z_sipush (v := 500) dX12_emit_20 (by decide) ?_
  refine z_aload_n dX12_emit_23 rfl 0 rfl ?_
  refine gf_12_97 rfl dX12_emit_24 ?_
  refine z_iconst (v := 1) dX12_emit_27 (by decide) ?_
  obtain ⟨g4, h⟩ := gd h
  refine ia_3_28 (inb_in g3) dX12_emit_28 ?_
  refine z_iadd dX12_emit_29 ?_
  refine z_iload_n dX12_emit_30 rfl 1 rfl ?_
  refine is_3_30 (inb_in g4) dX12_emit_31 ?_
  refine Z.lv [0] rfl ?_
  exact zb_X12_emit_32 h
def F_X12_emit (x1 : Int32) (x2 : Int32) (σ : Mm) : Option (Mm) := (if inb 1 5 = true then (if inb ((500 : Int32) + (mA σ 3 0 28 (1 : Int32).toNatClampNeg)) 2500 = true then (F_X12_emit_16 x2 (setA σ 3 0 29 (upd (mA σ 3 0 29) ((500 : Int32) + (mA σ 3 0 28 (1 : Int32).toNatClampNeg)).toNatClampNeg x1))) else none) else none)
set_option maxRecDepth 20000 in
theorem zb_X12_emit {S : Shp} {x1 : Int32} {x2 : Int32} {σ : Mm} {r : Mm} (h : F_X12_emit x1 x2 σ = some r) : Z m_X12_emit S (Qv r) 0 [(0, .ref (sL S 3 0 0)), (1, .int (x1)), (2, .int (x2))] [] σ := by
  unfold F_X12_emit at h
  obtain ⟨g1, h⟩ := gd h
  refine z_aload_n dX12_emit_0 rfl 0 rfl ?_
  refine gf_12_100 rfl dX12_emit_1 ?_
  refine z_sipush (v := 500) dX12_emit_4 (by decide) ?_
  refine z_aload_n dX12_emit_7 rfl 0 rfl ?_
  refine gf_12_97 rfl dX12_emit_8 ?_
  refine z_iconst (v := 1) dX12_emit_11 (by decide) ?_
  obtain ⟨g2, h⟩ := gd h
  refine ia_3_28 (inb_in g1) dX12_emit_12 ?_
  refine z_iadd dX12_emit_13 ?_
  refine z_iload_n dX12_emit_14 rfl 1 rfl ?_
  refine is_3_29 (inb_in g2) dX12_emit_15 ?_
  refine Z.lv [0, 2] rfl ?_
  exact zb_X12_emit_16 h
/-- SkyStonesModel.emit(II)V -/
theorem c_X12_emit {S : Shp} {x1 : Int32} {x2 : Int32} {σ : Mm} {r : Mm} (h : F_X12_emit x1 x2 σ = some r) : Ct m_X12_emit S [.ref (sL S 3 0 0), .int (x1), .int (x2)] σ (Qv r) := Ct.of (by decide +kernel) (Nat.le_of_ble_eq_true rfl) (zb_X12_emit h)
def F_X12_isSign (x1 : Int32) (σ : Mm) : Option (Int32 × Mm) := (if inb (mA σ 3 0 0 7) 2001 = true then (if (mA σ 3 0 2 (mA σ 3 0 0 7).toNatClampNeg) = (2 : Int32) then (if inb (mA σ 3 0 0 7) 2001 = true then (if (mA σ 3 0 4 (mA σ 3 0 0 7).toNatClampNeg) = x1 then some (1, σ) else some (0, σ)) else none) else some (0, σ)) else none)
set_option maxRecDepth 20000 in
theorem zb_X12_isSign {S : Shp} {x1 : Int32} {σ : Mm} {r : Int32 × Mm} (h : F_X12_isSign x1 σ = some r) : Z m_X12_isSign S (Qi r) 0 [(0, .ref (sL S 3 0 0)), (1, .int (x1))] [] σ := by
  unfold F_X12_isSign at h
  obtain ⟨g1, h⟩ := gd h
  refine z_aload_n dX12_isSign_0 rfl 0 rfl ?_
  refine gf_12_13 rfl dX12_isSign_1 ?_
  refine z_aload_n dX12_isSign_4 rfl 0 rfl ?_
  refine gf_12_305 rfl dX12_isSign_5 ?_
  refine ia_3_2 (inb_in g1) dX12_isSign_8 ?_
  refine z_iconst (v := 2) dX12_isSign_9 (by decide) ?_
  refine z_icmp_ne (tgt := 30) dX12_isSign_10 (by decide) (fun q => ?_) (fun q => ?_)
  · have h := (if_neg q).symm.trans h
    refine z_iconst (v := 0) dX12_isSign_30 (by decide) ?_
    cases h
    exact z_ireturn dX12_isSign_31 rfl rfl ⟨rfl, rfl⟩
  · have h := (if_pos q).symm.trans h
    obtain ⟨g2, h⟩ := gd h
    refine z_aload_n dX12_isSign_13 rfl 0 rfl ?_
    refine gf_12_19 rfl dX12_isSign_14 ?_
    refine z_aload_n dX12_isSign_17 rfl 0 rfl ?_
    refine gf_12_305 rfl dX12_isSign_18 ?_
    refine ia_3_4 (inb_in g2) dX12_isSign_21 ?_
    refine z_iload_n dX12_isSign_22 rfl 1 rfl ?_
    refine z_icmp_ne (tgt := 30) dX12_isSign_23 (by decide) (fun q => ?_) (fun q => ?_)
    · have h := (if_neg q).symm.trans h
      refine z_iconst (v := 0) dX12_isSign_30 (by decide) ?_
      cases h
      exact z_ireturn dX12_isSign_31 rfl rfl ⟨rfl, rfl⟩
    · have h := (if_pos q).symm.trans h
      refine z_iconst (v := 1) dX12_isSign_26 (by decide) ?_
      refine z_goto (tgt := 31) dX12_isSign_27 (by decide) ?_
      cases h
      exact z_ireturn dX12_isSign_31 rfl rfl ⟨rfl, rfl⟩
/-- SkyStonesModel.isSign(I)Z -/
theorem c_X12_isSign {S : Shp} {x1 : Int32} {σ : Mm} {r : Int32 × Mm} (h : F_X12_isSign x1 σ = some r) : Ct m_X12_isSign S [.ref (sL S 3 0 0), .int (x1)] σ (Qi r) := Ct.of (by decide +kernel) (Nat.le_of_ble_eq_true rfl) (zb_X12_isSign h)
def F_X12_wrong_18 (σ : Mm) : Option (Int32 × Mm) := some (0, σ)
set_option maxRecDepth 20000 in
theorem zb_X12_wrong_18 {S : Shp} {σ : Mm} {r : Int32 × Mm} (h : F_X12_wrong_18 σ = some r) : Z m_X12_wrong S (Qi r) 18 [] [] σ := by
  unfold F_X12_wrong_18 at h
  refine z_iconst (v := 0) dX12_wrong_18 (by decide) ?_
  cases h
  exact z_ireturn dX12_wrong_19 rfl rfl ⟨rfl, rfl⟩
def F_X12_wrong_5 (σ : Mm) : Option (Int32 × Mm) := (if inb (mA σ 3 0 0 7) 2001 = true then (F_X12_wrong_18 (setA σ 3 0 0 (upd (mA σ 3 0 0) 9 (mA σ 3 0 3 (mA σ 3 0 0 7).toNatClampNeg)))) else none)
set_option maxRecDepth 20000 in
theorem zb_X12_wrong_5 {S : Shp} {σ : Mm} {r : Int32 × Mm} (h : F_X12_wrong_5 σ = some r) : Z m_X12_wrong S (Qi r) 5 [(0, .ref (sL S 3 0 0))] [] σ := by
  unfold F_X12_wrong_5 at h
  obtain ⟨g1, h⟩ := gd h
  refine z_aload_n dX12_wrong_5 rfl 0 rfl ?_
  refine z_aload_n dX12_wrong_6 rfl 0 rfl ?_
  refine gf_12_16 rfl dX12_wrong_7 ?_
  refine z_aload_n dX12_wrong_10 rfl 0 rfl ?_
  refine gf_12_305 rfl dX12_wrong_11 ?_
  refine ia_3_3 (inb_in g1) dX12_wrong_14 ?_
  refine pf_12_26 rfl dX12_wrong_15 ?_
  refine Z.lv [] rfl ?_
  exact zb_X12_wrong_18 h
def F_X12_wrong (x1 : Int32) (σ : Mm) : Option (Int32 × Mm) := (F_X12_wrong_5 (setA σ 3 0 0 (upd (mA σ 3 0 0) 8 x1)))
set_option maxRecDepth 20000 in
theorem zb_X12_wrong {S : Shp} {x1 : Int32} {σ : Mm} {r : Int32 × Mm} (h : F_X12_wrong x1 σ = some r) : Z m_X12_wrong S (Qi r) 0 [(0, .ref (sL S 3 0 0)), (1, .int (x1))] [] σ := by
  unfold F_X12_wrong at h
  refine z_aload_n dX12_wrong_0 rfl 0 rfl ?_
  refine z_iload_n dX12_wrong_1 rfl 1 rfl ?_
  refine pf_12_302 rfl dX12_wrong_2 ?_
  refine Z.lv [0] rfl ?_
  exact zb_X12_wrong_5 h
/-- SkyStonesModel.wrong(I)Z -/
theorem c_X12_wrong {S : Shp} {x1 : Int32} {σ : Mm} {r : Int32 × Mm} (h : F_X12_wrong x1 σ = some r) : Ct m_X12_wrong S [.ref (sL S 3 0 0), .int (x1)] σ (Qi r) := Ct.of (by decide +kernel) (Nat.le_of_ble_eq_true rfl) (zb_X12_wrong h)
def F_X12_pass_26 (σ : Mm) : Option (Int32 × Mm) := some (1, σ)
set_option maxRecDepth 20000 in
theorem zb_X12_pass_26 {S : Shp} {σ : Mm} {r : Int32 × Mm} (h : F_X12_pass_26 σ = some r) : Z m_X12_pass S (Qi r) 26 [] [] σ := by
  unfold F_X12_pass_26 at h
  refine z_iconst (v := 1) dX12_pass_26 (by decide) ?_
  cases h
  exact z_ireturn dX12_pass_27 rfl rfl ⟨rfl, rfl⟩
def F_X12_pass_15 (s0 : Int32) (σ : Mm) : Option (Int32 × Mm) := (if isB s0 = true then some (s0, σ) else none)
set_option maxRecDepth 20000 in
theorem zb_X12_pass_15 {S : Shp} {s0 : Int32} {σ : Mm} {r : Int32 × Mm} (h : F_X12_pass_15 s0 σ = some r) : Z m_X12_pass S (Qi r) 15 [] [.int (s0)] σ := by
  unfold F_X12_pass_15 at h
  obtain ⟨g1, h⟩ := gd h
  cases h
  exact z_ireturn dX12_pass_15 rfl (isB_n g1) ⟨rfl, rfl⟩
def F_X12_pass (σ : Mm) : Option (Int32 × Mm) := (if (mA σ 3 0 0 7) < (400 : Int32) then (F_X12_pass_26 (setA σ 3 0 0 (upd (mA σ 3 0 0) 7 ((mA σ 3 0 0 7) + (1 : Int32))))) else (bnd (F_X12_wrong 2 σ) (fun v τ => (F_X12_pass_15 v τ))))
set_option maxRecDepth 20000 in
theorem zb_X12_pass {S : Shp} {σ : Mm} {r : Int32 × Mm} (h : F_X12_pass σ = some r) : Z m_X12_pass S (Qi r) 0 [(0, .ref (sL S 3 0 0))] [] σ := by
  unfold F_X12_pass at h
  refine z_aload_n dX12_pass_0 rfl 0 rfl ?_
  refine gf_12_305 rfl dX12_pass_1 ?_
  refine z_sipush (v := 400) dX12_pass_4 (by decide) ?_
  refine z_icmp_lt (tgt := 16) dX12_pass_7 (by decide) (fun q => ?_) (fun q => ?_)
  · have h := (if_pos q).symm.trans h
    refine z_aload_n dX12_pass_16 rfl 0 rfl ?_
    refine z_dup dX12_pass_17 rfl ?_
    refine gf_12_305 rfl dX12_pass_18 ?_
    refine z_iconst (v := 1) dX12_pass_21 (by decide) ?_
    refine z_iadd dX12_pass_22 ?_
    refine pf_12_305 rfl dX12_pass_23 ?_
    refine Z.lv [] rfl ?_
    exact zb_X12_pass_26 h
  · have h := (if_neg q).symm.trans h
    refine z_aload_n dX12_pass_10 rfl 0 rfl ?_
    refine z_iconst (v := 2) dX12_pass_11 (by decide) ?_
    obtain ⟨v, τ, hc, h⟩ := bnd_e h
    refine z_callV (M' := m_X12_wrong) (t := 3) (i := 0) (k := 0) (As := [.int (2)]) (rest := []) kl_12_314 oy_X12_wrong ⟨Nat.le_of_ble_eq_true rfl, Nat.le_of_ble_eq_true rfl⟩ rfl rfl rfl rfl (Nat.le_of_ble_eq_true rfl) rfl dX12_pass_12 (c_X12_wrong hc) (fun v2 τ2 hq => ?_)
    obtain ⟨rfl, hτ⟩ := hq
    subst τ2
    change Z _ _ _ _ _ [.int (v)] _
    refine Z.lv [] rfl ?_
    exact zb_X12_pass_15 h
/-- SkyStonesModel.pass()Z -/
theorem c_X12_pass {S : Shp} {σ : Mm} {r : Int32 × Mm} (h : F_X12_pass σ = some r) : Ct m_X12_pass S [.ref (sL S 3 0 0)] σ (Qi r) := Ct.of (by decide +kernel) (Nat.le_of_ble_eq_true rfl) (zb_X12_pass h)
def f_X12_rank (x0 : Int32) : Int32 := (if x0 ≤ (3 : Int32) then (if x0 ≤ (1 : Int32) then 0 else 1) else 2)
set_option maxRecDepth 20000 in
theorem zb_X12_rank {S : Shp} {x0 : Int32} {σ : Mm} {r : Int32} (h : f_X12_rank x0 = r) : Z m_X12_rank S (Qi (r, σ)) 0 [(0, .int (x0))] [] σ := by
  unfold f_X12_rank at h
  refine z_iload_n dX12_rank_0 rfl 0 rfl ?_
  refine z_iconst (v := 3) dX12_rank_1 (by decide) ?_
  refine z_icmp_le (tgt := 9) dX12_rank_2 (by decide) (fun q => ?_) (fun q => ?_)
  · have h := (if_pos q).symm.trans h
    refine z_iload_n dX12_rank_9 rfl 0 rfl ?_
    refine z_iconst (v := 1) dX12_rank_10 (by decide) ?_
    refine z_icmp_le (tgt := 18) dX12_rank_11 (by decide) (fun q => ?_) (fun q => ?_)
    · have h := (if_pos q).symm.trans h
      refine z_iconst (v := 0) dX12_rank_18 (by decide) ?_
      subst h
      exact z_ireturn dX12_rank_19 rfl rfl ⟨rfl, rfl⟩
    · have h := (if_neg q).symm.trans h
      refine z_iconst (v := 1) dX12_rank_14 (by decide) ?_
      refine z_goto (tgt := 19) dX12_rank_15 (by decide) ?_
      subst h
      exact z_ireturn dX12_rank_19 rfl rfl ⟨rfl, rfl⟩
  · have h := (if_neg q).symm.trans h
    refine z_iconst (v := 2) dX12_rank_5 (by decide) ?_
    refine z_goto (tgt := 19) dX12_rank_6 (by decide) ?_
    subst h
    exact z_ireturn dX12_rank_19 rfl rfl ⟨rfl, rfl⟩
/-- SkyStonesModel.rank(I)I -/
theorem c_X12_rank {S : Shp} {x0 : Int32} {σ : Mm} {r : Int32} (h : f_X12_rank x0 = r) : Ct m_X12_rank S [.int (x0)] σ (Qi (r, σ)) := Ct.of (by decide +kernel) (Nat.le_of_ble_eq_true rfl) (zb_X12_rank h)
def F_X12_reduce_50 (rc0 : Int32 → Int32 → Mm → Option (Mm)) (x1 : Int32) (x2 : Int32) (σ : Mm) : Option (Mm) := (rc0 x1 x2 σ)
set_option maxRecDepth 20000 in
theorem zb_X12_reduce_50 {S : Shp} {rc0 : Int32 → Int32 → Mm → Option (Mm)} (hrc0 : ∀ {x1 : Int32} {x2 : Int32} {σ : Mm} {r : Mm}, rc0 x1 x2 σ = some r → Z m_X12_reduce S (Qv r) 0 [(0, .ref (sL S 3 0 0)), (1, .int (x1)), (2, .int (x2))] [] σ) {x1 : Int32} {x2 : Int32} {σ : Mm} {r : Mm} (h : F_X12_reduce_50 rc0 x1 x2 σ = some r) : Z m_X12_reduce S (Qv r) 50 [(0, .ref (sL S 3 0 0)), (1, .int (x1)), (2, .int (x2))] [] σ := by
  unfold F_X12_reduce_50 at h
  refine z_goto (tgt := 0) dX12_reduce_50 (by decide) ?_
  exact hrc0 h
def F_X12_reduce_36 (rc0 : Int32 → Int32 → Mm → Option (Mm)) (x1 : Int32) (x2 : Int32) (σ : Mm) : Option (Mm) := (if inb (mA σ 3 0 0 56) 500 = true then (bnv (F_X12_emit (mA σ 3 0 47 (mA σ 3 0 0 56).toNatClampNeg) 0 σ) (fun τ => (F_X12_reduce_50 rc0 x1 x2 τ))) else none)
set_option maxRecDepth 20000 in
theorem zb_X12_reduce_36 {S : Shp} {rc0 : Int32 → Int32 → Mm → Option (Mm)} (hrc0 : ∀ {x1 : Int32} {x2 : Int32} {σ : Mm} {r : Mm}, rc0 x1 x2 σ = some r → Z m_X12_reduce S (Qv r) 0 [(0, .ref (sL S 3 0 0)), (1, .int (x1)), (2, .int (x2))] [] σ) {x1 : Int32} {x2 : Int32} {σ : Mm} {r : Mm} (h : F_X12_reduce_36 rc0 x1 x2 σ = some r) : Z m_X12_reduce S (Qv r) 36 [(0, .ref (sL S 3 0 0)), (1, .int (x1)), (2, .int (x2))] [] σ := by
  unfold F_X12_reduce_36 at h
  obtain ⟨g2, h⟩ := gd h
  refine z_aload_n dX12_reduce_36 rfl 0 rfl ?_
  refine z_aload_n dX12_reduce_37 rfl 0 rfl ?_
  refine gf_12_154 rfl dX12_reduce_38 ?_
  refine z_aload_n dX12_reduce_41 rfl 0 rfl ?_
  refine gf_12_331 rfl dX12_reduce_42 ?_
  refine ia_3_47 (inb_in g2) dX12_reduce_45 ?_
  refine z_iconst (v := 0) dX12_reduce_46 (by decide) ?_
  obtain ⟨τ, hc, h⟩ := bnv_e h
  refine z_callV (M' := m_X12_emit) (t := 3) (i := 0) (k := 0) (As := [.int (mA σ 3 0 47 (mA σ 3 0 0 56).toNatClampNeg), .int (0)]) (rest := []) kl_12_337 oy_X12_emit ⟨Nat.le_of_ble_eq_true rfl, Nat.le_of_ble_eq_true rfl⟩ rfl rfl rfl rfl (Nat.le_of_ble_eq_true rfl) rfl dX12_reduce_47 (c_X12_emit hc) (fun v2 τ2 hq => ?_)
  obtain ⟨rfl, hτ⟩ := hq
  subst τ2
  change Z _ _ _ _ _ [] _
  exact zb_X12_reduce_50 hrc0 h
def B_X12_reduce_0L (rc0 : Int32 → Int32 → Mm → Option (Mm)) (x1 : Int32) (x2 : Int32) (σ : Mm) : Option (Mm) := (if (mA σ 3 0 0 56) ≤ x2 then some (σ) else (if inb ((mA σ 3 0 0 56) - (1 : Int32)) 500 = true then (if (f_X12_rank (mA σ 3 0 47 ((mA σ 3 0 0 56) - (1 : Int32)).toNatClampNeg)) < x1 then some (σ) else (F_X12_reduce_36 rc0 x1 x2 (setA σ 3 0 0 (upd (mA σ 3 0 0) 56 ((mA σ 3 0 0 56) - (1 : Int32)))))) else none))
set_option maxRecDepth 20000 in
theorem zB_X12_reduce_0L {S : Shp} {rc0 : Int32 → Int32 → Mm → Option (Mm)} (hrc0 : ∀ {x1 : Int32} {x2 : Int32} {σ : Mm} {r : Mm}, rc0 x1 x2 σ = some r → Z m_X12_reduce S (Qv r) 0 [(0, .ref (sL S 3 0 0)), (1, .int (x1)), (2, .int (x2))] [] σ) {x1 : Int32} {x2 : Int32} {σ : Mm} {r : Mm} (h : B_X12_reduce_0L rc0 x1 x2 σ = some r) : Z m_X12_reduce S (Qv r) 0 [(0, .ref (sL S 3 0 0)), (1, .int (x1)), (2, .int (x2))] [] σ := by
  unfold B_X12_reduce_0L at h
  refine z_aload_n dX12_reduce_0 rfl 0 rfl ?_
  refine gf_12_331 rfl dX12_reduce_1 ?_
  refine z_iload_n dX12_reduce_4 rfl 2 rfl ?_
  refine z_icmp_le (tgt := 53) dX12_reduce_5 (by decide) (fun q => ?_) (fun q => ?_)
  · have h := (if_pos q).symm.trans h
    cases h
    exact z_return dX12_reduce_53 rfl ⟨rfl, rfl⟩
  · have h := (if_neg q).symm.trans h
    obtain ⟨g1, h⟩ := gd h
    refine z_aload_n dX12_reduce_8 rfl 0 rfl ?_
    refine gf_12_154 rfl dX12_reduce_9 ?_
    refine z_aload_n dX12_reduce_12 rfl 0 rfl ?_
    refine gf_12_331 rfl dX12_reduce_13 ?_
    refine z_iconst (v := 1) dX12_reduce_16 (by decide) ?_
    refine z_isub dX12_reduce_17 ?_
    refine ia_3_47 (inb_in g1) dX12_reduce_18 ?_
    refine z_callS (M' := m_X12_rank) (As := [.int (mA σ 3 0 47 ((mA σ 3 0 0 56) - (1 : Int32)).toNatClampNeg)]) (rest := []) kl_12_334 oy_X12_rank ⟨Nat.le_of_ble_eq_true rfl, Nat.le_of_ble_eq_true rfl⟩ rfl (Nat.le_of_ble_eq_true rfl) rfl dX12_reduce_19 (c_X12_rank rfl) (fun v τ hq => ?_)
    obtain ⟨rfl, hτ⟩ := hq
    subst τ
    change Z _ _ _ _ _ [.int (f_X12_rank (mA σ 3 0 47 ((mA σ 3 0 0 56) - (1 : Int32)).toNatClampNeg))] _
    refine z_iload_n dX12_reduce_22 rfl 1 rfl ?_
    refine z_icmp_lt (tgt := 53) dX12_reduce_23 (by decide) (fun q => ?_) (fun q => ?_)
    · have h := (if_pos q).symm.trans h
      cases h
      exact z_return dX12_reduce_53 rfl ⟨rfl, rfl⟩
    · have h := (if_neg q).symm.trans h
      refine z_aload_n dX12_reduce_26 rfl 0 rfl ?_
      refine z_dup dX12_reduce_27 rfl ?_
      refine gf_12_331 rfl dX12_reduce_28 ?_
      refine z_iconst (v := 1) dX12_reduce_31 (by decide) ?_
      refine z_isub dX12_reduce_32 ?_
      refine pf_12_331 rfl dX12_reduce_33 ?_
      exact zb_X12_reduce_36 hrc0 h
def F_X12_reduce_0L : Nat → Int32 → Int32 → Mm → Option (Mm)
  | 0 => fun _ _ _ => none
  | n + 1 => B_X12_reduce_0L (F_X12_reduce_0L n)
theorem zl_X12_reduce_0L {S : Shp} : ∀ (nn : Nat) {x1 : Int32} {x2 : Int32} {σ : Mm} {r : Mm}, F_X12_reduce_0L nn x1 x2 σ = some r → Z m_X12_reduce S (Qv r) 0 [(0, .ref (sL S 3 0 0)), (1, .int (x1)), (2, .int (x2))] [] σ := by
  intro nn
  induction nn with
  | zero => intro x1 x2 σ r h; cases h
  | succ nn ih => intro x1 x2 σ r h; exact zB_X12_reduce_0L @ih h
def F_X12_reduce (x1 : Int32) (x2 : Int32) (σ : Mm) : Option (Mm) := F_X12_reduce_0L FU x1 x2 σ
/-- SkyStonesModel.reduce(II)V -/
theorem c_X12_reduce {S : Shp} {x1 : Int32} {x2 : Int32} {σ : Mm} {r : Mm} (h : F_X12_reduce x1 x2 σ = some r) : Ct m_X12_reduce S [.ref (sL S 3 0 0), .int (x1), .int (x2)] σ (Qv r) := Ct.of (by decide +kernel) (Nat.le_of_ble_eq_true rfl) (zl_X12_reduce_0L FU h)
def f_X12_variableOf (x0 : Int32) : Int32 := (if x0 ≤ (12 : Int32) then (-1) else x0 - (13 : Int32))
set_option maxRecDepth 20000 in
theorem zb_X12_variableOf {S : Shp} {x0 : Int32} {σ : Mm} {r : Int32} (h : f_X12_variableOf x0 = r) : Z m_X12_variableOf S (Qi (r, σ)) 0 [(0, .int (x0))] [] σ := by
  unfold f_X12_variableOf at h
  refine z_iload_n dX12_variableOf_0 rfl 0 rfl ?_
  refine z_bipush (v := 12) dX12_variableOf_1 (by decide) ?_
  refine z_icmp_le (tgt := 13) dX12_variableOf_3 (by decide) (fun q => ?_) (fun q => ?_)
  · have h := (if_pos q).symm.trans h
    refine z_iconst (v := (-1)) dX12_variableOf_13 (by decide) ?_
    subst h
    exact z_ireturn dX12_variableOf_14 rfl rfl ⟨rfl, rfl⟩
  · have h := (if_neg q).symm.trans h
    refine z_iload_n dX12_variableOf_6 rfl 0 rfl ?_
    refine z_bipush (v := 13) dX12_variableOf_7 (by decide) ?_
    refine z_isub dX12_variableOf_9 ?_
    refine z_goto (tgt := 14) dX12_variableOf_10 (by decide) ?_
    subst h
    exact z_ireturn dX12_variableOf_14 rfl rfl ⟨rfl, rfl⟩
/-- SkyStonesModel.variableOf(I)I -/
theorem c_X12_variableOf {S : Shp} {x0 : Int32} {σ : Mm} {r : Int32} (h : f_X12_variableOf x0 = r) : Ct m_X12_variableOf S [.int (x0)] σ (Qi (r, σ)) := Ct.of (by decide +kernel) (Nat.le_of_ble_eq_true rfl) (zb_X12_variableOf h)
def F_X12_expr_345 (σ : Mm) : Option (Int32 × Mm) := some (1, σ)
set_option maxRecDepth 20000 in
theorem zb_X12_expr_345 {S : Shp} {σ : Mm} {r : Int32 × Mm} (h : F_X12_expr_345 σ = some r) : Z m_X12_expr S (Qi r) 345 [] [] σ := by
  unfold F_X12_expr_345 at h
  refine z_iconst (v := 1) dX12_expr_345 (by decide) ?_
  cases h
  exact z_ireturn dX12_expr_346 rfl rfl ⟨rfl, rfl⟩
def F_X12_expr_218 (rc21 : Int32 → Int32 → Int32 → Mm → Option (Int32 × Mm)) (x1 : Int32) (x3 : Int32) (s0 : Int32) (σ : Mm) : Option (Int32 × Mm) := (if s0 = 0 then some (0, σ) else (rc21 x1 1 x3 σ))
set_option maxRecDepth 20000 in
theorem zb_X12_expr_218 {S : Shp} {rc21 : Int32 → Int32 → Int32 → Mm → Option (Int32 × Mm)} (hrc21 : ∀ {x1 : Int32} {x2 : Int32} {x3 : Int32} {σ : Mm} {r : Int32 × Mm}, rc21 x1 x2 x3 σ = some r → Z m_X12_expr S (Qi r) 21 [(0, .ref (sL S 3 0 0)), (1, .int (x1)), (2, .int (x2)), (3, .int (x3))] [] σ) {x1 : Int32} {x3 : Int32} {s0 : Int32} {σ : Mm} {r : Int32 × Mm} (h : F_X12_expr_218 rc21 x1 x3 s0 σ = some r) : Z m_X12_expr S (Qi r) 218 [(0, .ref (sL S 3 0 0)), (1, .int (x1)), (3, .int (x3))] [.int (s0)] σ := by
  unfold F_X12_expr_218 at h
  refine z_if_ne (tgt := 223) dX12_expr_218 (by decide) (fun q => ?_) (fun q => ?_)
  · have h := (if_neg q).symm.trans h
    refine z_iconst (v := 1) dX12_expr_223 (by decide) ?_
    refine z_istore_n (lv' := [(0, .ref (sL S 3 0 0)), (1, .int (x1)), (2, .int (1)), (3, .int (x3))]) dX12_expr_224 rfl (by decide) [1, 2, 0, 3] rfl ?_
    refine z_goto (tgt := 21) dX12_expr_225 (by decide) ?_
    exact hrc21 h
  · have h := (if_pos q).symm.trans h
    refine z_iconst (v := 0) dX12_expr_221 (by decide) ?_
    cases h
    exact z_ireturn dX12_expr_222 rfl rfl ⟨rfl, rfl⟩
def F_X12_expr_214 (rc21 : Int32 → Int32 → Int32 → Mm → Option (Int32 × Mm)) (x1 : Int32) (x3 : Int32) (σ : Mm) : Option (Int32 × Mm) := (bnd (F_X12_pass  σ) (fun v τ => (F_X12_expr_218 rc21 x1 x3 v τ)))
set_option maxRecDepth 20000 in
theorem zb_X12_expr_214 {S : Shp} {rc21 : Int32 → Int32 → Int32 → Mm → Option (Int32 × Mm)} (hrc21 : ∀ {x1 : Int32} {x2 : Int32} {x3 : Int32} {σ : Mm} {r : Int32 × Mm}, rc21 x1 x2 x3 σ = some r → Z m_X12_expr S (Qi r) 21 [(0, .ref (sL S 3 0 0)), (1, .int (x1)), (2, .int (x2)), (3, .int (x3))] [] σ) {x1 : Int32} {x3 : Int32} {σ : Mm} {r : Int32 × Mm} (h : F_X12_expr_214 rc21 x1 x3 σ = some r) : Z m_X12_expr S (Qi r) 214 [(0, .ref (sL S 3 0 0)), (1, .int (x1)), (3, .int (x3))] [] σ := by
  unfold F_X12_expr_214 at h
  refine z_aload_n dX12_expr_214 rfl 0 rfl ?_
  obtain ⟨v, τ, hc, h⟩ := bnd_e h
  refine z_callV (M' := m_X12_pass) (t := 3) (i := 0) (k := 0) (As := []) (rest := []) kl_12_317 oy_X12_pass ⟨Nat.le_of_ble_eq_true rfl, Nat.le_of_ble_eq_true rfl⟩ rfl rfl rfl rfl (Nat.le_of_ble_eq_true rfl) rfl dX12_expr_215 (c_X12_pass hc) (fun v2 τ2 hq => ?_)
  obtain ⟨rfl, hτ⟩ := hq
  subst τ2
  change Z _ _ _ _ _ [.int (v)] _
  exact zb_X12_expr_218 hrc21 h
def F_X12_expr_211 (rc21 : Int32 → Int32 → Int32 → Mm → Option (Int32 × Mm)) (x1 : Int32) (x3 : Int32) (s0 : Int32) (σ : Mm) : Option (Int32 × Mm) := (bnv (F_X12_await s0 σ) (fun τ => (F_X12_expr_214 rc21 x1 x3 τ)))
set_option maxRecDepth 20000 in
theorem zb_X12_expr_211 {S : Shp} {rc21 : Int32 → Int32 → Int32 → Mm → Option (Int32 × Mm)} (hrc21 : ∀ {x1 : Int32} {x2 : Int32} {x3 : Int32} {σ : Mm} {r : Int32 × Mm}, rc21 x1 x2 x3 σ = some r → Z m_X12_expr S (Qi r) 21 [(0, .ref (sL S 3 0 0)), (1, .int (x1)), (2, .int (x2)), (3, .int (x3))] [] σ) {x1 : Int32} {x3 : Int32} {s0 : Int32} {σ : Mm} {r : Int32 × Mm} (h : F_X12_expr_211 rc21 x1 x3 s0 σ = some r) : Z m_X12_expr S (Qi r) 211 [(0, .ref (sL S 3 0 0)), (1, .int (x1)), (3, .int (x3))] [.int (s0), .ref (sL S 3 0 0)] σ := by
  unfold F_X12_expr_211 at h
  obtain ⟨τ, hc, h⟩ := bnv_e h
  refine z_callV (M' := m_X12_await) (t := 3) (i := 0) (k := 0) (As := [.int (s0)]) (rest := []) kl_12_346 oy_X12_await ⟨Nat.le_of_ble_eq_true rfl, Nat.le_of_ble_eq_true rfl⟩ rfl rfl rfl rfl (Nat.le_of_ble_eq_true rfl) rfl dX12_expr_211 (c_X12_await hc) (fun v2 τ2 hq => ?_)
  obtain ⟨rfl, hτ⟩ := hq
  subst τ2
  change Z _ _ _ _ _ [] _
  exact zb_X12_expr_214 hrc21 h
def F_X12_expr_203 (rc21 : Int32 → Int32 → Int32 → Mm → Option (Int32 × Mm)) (x1 : Int32) (x3 : Int32) (s0 : Int32) (σ : Mm) : Option (Int32 × Mm) := (if s0 = 0 then (F_X12_expr_211 rc21 x1 x3 5 σ) else (F_X12_expr_211 rc21 x1 x3 4 σ))
set_option maxRecDepth 20000 in
theorem zb_X12_expr_203 {S : Shp} {rc21 : Int32 → Int32 → Int32 → Mm → Option (Int32 × Mm)} (hrc21 : ∀ {x1 : Int32} {x2 : Int32} {x3 : Int32} {σ : Mm} {r : Int32 × Mm}, rc21 x1 x2 x3 σ = some r → Z m_X12_expr S (Qi r) 21 [(0, .ref (sL S 3 0 0)), (1, .int (x1)), (2, .int (x2)), (3, .int (x3))] [] σ) {x1 : Int32} {x3 : Int32} {s0 : Int32} {σ : Mm} {r : Int32 × Mm} (h : F_X12_expr_203 rc21 x1 x3 s0 σ = some r) : Z m_X12_expr S (Qi r) 203 [(0, .ref (sL S 3 0 0)), (1, .int (x1)), (3, .int (x3))] [.int (s0), .ref (sL S 3 0 0)] σ := by
  unfold F_X12_expr_203 at h
  refine z_if_eq (tgt := 210) dX12_expr_203 (by decide) (fun q => ?_) (fun q => ?_)
  · have h := (if_pos q).symm.trans h
    refine z_iconst (v := 5) dX12_expr_210 (by decide) ?_
    exact zb_X12_expr_211 hrc21 h
  · have h := (if_neg q).symm.trans h
    refine z_iconst (v := 4) dX12_expr_206 (by decide) ?_
    refine z_goto (tgt := 211) dX12_expr_207 (by decide) ?_
    exact zb_X12_expr_211 hrc21 h
def F_X12_expr_196 (rc21 : Int32 → Int32 → Int32 → Mm → Option (Int32 × Mm)) (x1 : Int32) (x3 : Int32) (σ : Mm) : Option (Int32 × Mm) := (bnd (F_X12_isSign 42 σ) (fun v τ => (F_X12_expr_203 rc21 x1 x3 v τ)))
set_option maxRecDepth 20000 in
theorem zb_X12_expr_196 {S : Shp} {rc21 : Int32 → Int32 → Int32 → Mm → Option (Int32 × Mm)} (hrc21 : ∀ {x1 : Int32} {x2 : Int32} {x3 : Int32} {σ : Mm} {r : Int32 × Mm}, rc21 x1 x2 x3 σ = some r → Z m_X12_expr S (Qi r) 21 [(0, .ref (sL S 3 0 0)), (1, .int (x1)), (2, .int (x2)), (3, .int (x3))] [] σ) {x1 : Int32} {x3 : Int32} {σ : Mm} {r : Int32 × Mm} (h : F_X12_expr_196 rc21 x1 x3 σ = some r) : Z m_X12_expr S (Qi r) 196 [(0, .ref (sL S 3 0 0)), (1, .int (x1)), (3, .int (x3))] [] σ := by
  unfold F_X12_expr_196 at h
  refine z_aload_n dX12_expr_196 rfl 0 rfl ?_
  refine z_aload_n dX12_expr_197 rfl 0 rfl ?_
  refine z_bipush (v := 42) dX12_expr_198 (by decide) ?_
  obtain ⟨v, τ, hc, h⟩ := bnd_e h
  refine z_callV (M' := m_X12_isSign) (t := 3) (i := 0) (k := 0) (As := [.int (42)]) (rest := [.ref (sL S 3 0 0)]) kl_12_343 oy_X12_isSign ⟨Nat.le_of_ble_eq_true rfl, Nat.le_of_ble_eq_true rfl⟩ rfl rfl rfl rfl (Nat.le_of_ble_eq_true rfl) rfl dX12_expr_200 (c_X12_isSign hc) (fun v2 τ2 hq => ?_)
  obtain ⟨rfl, hτ⟩ := hq
  subst τ2
  change Z _ _ _ _ _ [.int (v), .ref (sL S 3 0 0)] _
  exact zb_X12_expr_203 hrc21 h
def F_X12_expr_190 (rc21 : Int32 → Int32 → Int32 → Mm → Option (Int32 × Mm)) (x1 : Int32) (x3 : Int32) (σ : Mm) : Option (Int32 × Mm) := (bnv (F_X12_reduce 2 0 σ) (fun τ => (F_X12_expr_196 rc21 x1 x3 τ)))
set_option maxRecDepth 20000 in
theorem zb_X12_expr_190 {S : Shp} {rc21 : Int32 → Int32 → Int32 → Mm → Option (Int32 × Mm)} (hrc21 : ∀ {x1 : Int32} {x2 : Int32} {x3 : Int32} {σ : Mm} {r : Int32 × Mm}, rc21 x1 x2 x3 σ = some r → Z m_X12_expr S (Qi r) 21 [(0, .ref (sL S 3 0 0)), (1, .int (x1)), (2, .int (x2)), (3, .int (x3))] [] σ) {x1 : Int32} {x3 : Int32} {σ : Mm} {r : Int32 × Mm} (h : F_X12_expr_190 rc21 x1 x3 σ = some r) : Z m_X12_expr S (Qi r) 190 [(0, .ref (sL S 3 0 0)), (1, .int (x1)), (3, .int (x3))] [] σ := by
  unfold F_X12_expr_190 at h
  refine z_aload_n dX12_expr_190 rfl 0 rfl ?_
  refine z_iconst (v := 2) dX12_expr_191 (by decide) ?_
  refine z_iconst (v := 0) dX12_expr_192 (by decide) ?_
  obtain ⟨τ, hc, h⟩ := bnv_e h
  refine z_callV (M' := m_X12_reduce) (t := 3) (i := 0) (k := 0) (As := [.int (2), .int (0)]) (rest := []) kl_12_352 oy_X12_reduce ⟨Nat.le_of_ble_eq_true rfl, Nat.le_of_ble_eq_true rfl⟩ rfl rfl rfl rfl (Nat.le_of_ble_eq_true rfl) rfl dX12_expr_193 (c_X12_reduce hc) (fun v2 τ2 hq => ?_)
  obtain ⟨rfl, hτ⟩ := hq
  subst τ2
  change Z _ _ _ _ _ [] _
  exact zb_X12_expr_196 hrc21 h
def F_X12_expr_274 (rc21 : Int32 → Int32 → Int32 → Mm → Option (Int32 × Mm)) (x1 : Int32) (x3 : Int32) (s0 : Int32) (σ : Mm) : Option (Int32 × Mm) := (if s0 = 0 then some (0, σ) else (rc21 x1 1 x3 σ))
set_option maxRecDepth 20000 in
theorem zb_X12_expr_274 {S : Shp} {rc21 : Int32 → Int32 → Int32 → Mm → Option (Int32 × Mm)} (hrc21 : ∀ {x1 : Int32} {x2 : Int32} {x3 : Int32} {σ : Mm} {r : Int32 × Mm}, rc21 x1 x2 x3 σ = some r → Z m_X12_expr S (Qi r) 21 [(0, .ref (sL S 3 0 0)), (1, .int (x1)), (2, .int (x2)), (3, .int (x3))] [] σ) {x1 : Int32} {x3 : Int32} {s0 : Int32} {σ : Mm} {r : Int32 × Mm} (h : F_X12_expr_274 rc21 x1 x3 s0 σ = some r) : Z m_X12_expr S (Qi r) 274 [(0, .ref (sL S 3 0 0)), (1, .int (x1)), (3, .int (x3))] [.int (s0)] σ := by
  unfold F_X12_expr_274 at h
  refine z_if_ne (tgt := 279) dX12_expr_274 (by decide) (fun q => ?_) (fun q => ?_)
  · have h := (if_neg q).symm.trans h
    refine z_iconst (v := 1) dX12_expr_279 (by decide) ?_
    refine z_istore_n (lv' := [(0, .ref (sL S 3 0 0)), (1, .int (x1)), (2, .int (1)), (3, .int (x3))]) dX12_expr_280 rfl (by decide) [1, 2, 0, 3] rfl ?_
    refine z_goto (tgt := 21) dX12_expr_281 (by decide) ?_
    exact hrc21 h
  · have h := (if_pos q).symm.trans h
    refine z_iconst (v := 0) dX12_expr_277 (by decide) ?_
    cases h
    exact z_ireturn dX12_expr_278 rfl rfl ⟨rfl, rfl⟩
def F_X12_expr_270 (rc21 : Int32 → Int32 → Int32 → Mm → Option (Int32 × Mm)) (x1 : Int32) (x3 : Int32) (σ : Mm) : Option (Int32 × Mm) := (bnd (F_X12_pass  σ) (fun v τ => (F_X12_expr_274 rc21 x1 x3 v τ)))
set_option maxRecDepth 20000 in
theorem zb_X12_expr_270 {S : Shp} {rc21 : Int32 → Int32 → Int32 → Mm → Option (Int32 × Mm)} (hrc21 : ∀ {x1 : Int32} {x2 : Int32} {x3 : Int32} {σ : Mm} {r : Int32 × Mm}, rc21 x1 x2 x3 σ = some r → Z m_X12_expr S (Qi r) 21 [(0, .ref (sL S 3 0 0)), (1, .int (x1)), (2, .int (x2)), (3, .int (x3))] [] σ) {x1 : Int32} {x3 : Int32} {σ : Mm} {r : Int32 × Mm} (h : F_X12_expr_270 rc21 x1 x3 σ = some r) : Z m_X12_expr S (Qi r) 270 [(0, .ref (sL S 3 0 0)), (1, .int (x1)), (3, .int (x3))] [] σ := by
  unfold F_X12_expr_270 at h
  refine z_aload_n dX12_expr_270 rfl 0 rfl ?_
  obtain ⟨v, τ, hc, h⟩ := bnd_e h
  refine z_callV (M' := m_X12_pass) (t := 3) (i := 0) (k := 0) (As := []) (rest := []) kl_12_317 oy_X12_pass ⟨Nat.le_of_ble_eq_true rfl, Nat.le_of_ble_eq_true rfl⟩ rfl rfl rfl rfl (Nat.le_of_ble_eq_true rfl) rfl dX12_expr_271 (c_X12_pass hc) (fun v2 τ2 hq => ?_)
  obtain ⟨rfl, hτ⟩ := hq
  subst τ2
  change Z _ _ _ _ _ [.int (v)] _
  exact zb_X12_expr_274 hrc21 h
def F_X12_expr_267 (rc21 : Int32 → Int32 → Int32 → Mm → Option (Int32 × Mm)) (x1 : Int32) (x3 : Int32) (s0 : Int32) (σ : Mm) : Option (Int32 × Mm) := (bnv (F_X12_await s0 σ) (fun τ => (F_X12_expr_270 rc21 x1 x3 τ)))
set_option maxRecDepth 20000 in
theorem zb_X12_expr_267 {S : Shp} {rc21 : Int32 → Int32 → Int32 → Mm → Option (Int32 × Mm)} (hrc21 : ∀ {x1 : Int32} {x2 : Int32} {x3 : Int32} {σ : Mm} {r : Int32 × Mm}, rc21 x1 x2 x3 σ = some r → Z m_X12_expr S (Qi r) 21 [(0, .ref (sL S 3 0 0)), (1, .int (x1)), (2, .int (x2)), (3, .int (x3))] [] σ) {x1 : Int32} {x3 : Int32} {s0 : Int32} {σ : Mm} {r : Int32 × Mm} (h : F_X12_expr_267 rc21 x1 x3 s0 σ = some r) : Z m_X12_expr S (Qi r) 267 [(0, .ref (sL S 3 0 0)), (1, .int (x1)), (3, .int (x3))] [.int (s0), .ref (sL S 3 0 0)] σ := by
  unfold F_X12_expr_267 at h
  obtain ⟨τ, hc, h⟩ := bnv_e h
  refine z_callV (M' := m_X12_await) (t := 3) (i := 0) (k := 0) (As := [.int (s0)]) (rest := []) kl_12_346 oy_X12_await ⟨Nat.le_of_ble_eq_true rfl, Nat.le_of_ble_eq_true rfl⟩ rfl rfl rfl rfl (Nat.le_of_ble_eq_true rfl) rfl dX12_expr_267 (c_X12_await hc) (fun v2 τ2 hq => ?_)
  obtain ⟨rfl, hτ⟩ := hq
  subst τ2
  change Z _ _ _ _ _ [] _
  exact zb_X12_expr_270 hrc21 h
def F_X12_expr_259 (rc21 : Int32 → Int32 → Int32 → Mm → Option (Int32 × Mm)) (x1 : Int32) (x3 : Int32) (s0 : Int32) (σ : Mm) : Option (Int32 × Mm) := (if s0 = 0 then (F_X12_expr_267 rc21 x1 x3 3 σ) else (F_X12_expr_267 rc21 x1 x3 2 σ))
set_option maxRecDepth 20000 in
theorem zb_X12_expr_259 {S : Shp} {rc21 : Int32 → Int32 → Int32 → Mm → Option (Int32 × Mm)} (hrc21 : ∀ {x1 : Int32} {x2 : Int32} {x3 : Int32} {σ : Mm} {r : Int32 × Mm}, rc21 x1 x2 x3 σ = some r → Z m_X12_expr S (Qi r) 21 [(0, .ref (sL S 3 0 0)), (1, .int (x1)), (2, .int (x2)), (3, .int (x3))] [] σ) {x1 : Int32} {x3 : Int32} {s0 : Int32} {σ : Mm} {r : Int32 × Mm} (h : F_X12_expr_259 rc21 x1 x3 s0 σ = some r) : Z m_X12_expr S (Qi r) 259 [(0, .ref (sL S 3 0 0)), (1, .int (x1)), (3, .int (x3))] [.int (s0), .ref (sL S 3 0 0)] σ := by
  unfold F_X12_expr_259 at h
  refine z_if_eq (tgt := 266) dX12_expr_259 (by decide) (fun q => ?_) (fun q => ?_)
  · have h := (if_pos q).symm.trans h
    refine z_iconst (v := 3) dX12_expr_266 (by decide) ?_
    exact zb_X12_expr_267 hrc21 h
  · have h := (if_neg q).symm.trans h
    refine z_iconst (v := 2) dX12_expr_262 (by decide) ?_
    refine z_goto (tgt := 267) dX12_expr_263 (by decide) ?_
    exact zb_X12_expr_267 hrc21 h
def F_X12_expr_252 (rc21 : Int32 → Int32 → Int32 → Mm → Option (Int32 × Mm)) (x1 : Int32) (x3 : Int32) (σ : Mm) : Option (Int32 × Mm) := (bnd (F_X12_isSign 43 σ) (fun v τ => (F_X12_expr_259 rc21 x1 x3 v τ)))
set_option maxRecDepth 20000 in
theorem zb_X12_expr_252 {S : Shp} {rc21 : Int32 → Int32 → Int32 → Mm → Option (Int32 × Mm)} (hrc21 : ∀ {x1 : Int32} {x2 : Int32} {x3 : Int32} {σ : Mm} {r : Int32 × Mm}, rc21 x1 x2 x3 σ = some r → Z m_X12_expr S (Qi r) 21 [(0, .ref (sL S 3 0 0)), (1, .int (x1)), (2, .int (x2)), (3, .int (x3))] [] σ) {x1 : Int32} {x3 : Int32} {σ : Mm} {r : Int32 × Mm} (h : F_X12_expr_252 rc21 x1 x3 σ = some r) : Z m_X12_expr S (Qi r) 252 [(0, .ref (sL S 3 0 0)), (1, .int (x1)), (3, .int (x3))] [] σ := by
  unfold F_X12_expr_252 at h
  refine z_aload_n dX12_expr_252 rfl 0 rfl ?_
  refine z_aload_n dX12_expr_253 rfl 0 rfl ?_
  refine z_bipush (v := 43) dX12_expr_254 (by decide) ?_
  obtain ⟨v, τ, hc, h⟩ := bnd_e h
  refine z_callV (M' := m_X12_isSign) (t := 3) (i := 0) (k := 0) (As := [.int (43)]) (rest := [.ref (sL S 3 0 0)]) kl_12_343 oy_X12_isSign ⟨Nat.le_of_ble_eq_true rfl, Nat.le_of_ble_eq_true rfl⟩ rfl rfl rfl rfl (Nat.le_of_ble_eq_true rfl) rfl dX12_expr_256 (c_X12_isSign hc) (fun v2 τ2 hq => ?_)
  obtain ⟨rfl, hτ⟩ := hq
  subst τ2
  change Z _ _ _ _ _ [.int (v), .ref (sL S 3 0 0)] _
  exact zb_X12_expr_259 hrc21 h
def F_X12_expr_246 (rc21 : Int32 → Int32 → Int32 → Mm → Option (Int32 × Mm)) (x1 : Int32) (x3 : Int32) (σ : Mm) : Option (Int32 × Mm) := (bnv (F_X12_reduce 1 0 σ) (fun τ => (F_X12_expr_252 rc21 x1 x3 τ)))
set_option maxRecDepth 20000 in
theorem zb_X12_expr_246 {S : Shp} {rc21 : Int32 → Int32 → Int32 → Mm → Option (Int32 × Mm)} (hrc21 : ∀ {x1 : Int32} {x2 : Int32} {x3 : Int32} {σ : Mm} {r : Int32 × Mm}, rc21 x1 x2 x3 σ = some r → Z m_X12_expr S (Qi r) 21 [(0, .ref (sL S 3 0 0)), (1, .int (x1)), (2, .int (x2)), (3, .int (x3))] [] σ) {x1 : Int32} {x3 : Int32} {σ : Mm} {r : Int32 × Mm} (h : F_X12_expr_246 rc21 x1 x3 σ = some r) : Z m_X12_expr S (Qi r) 246 [(0, .ref (sL S 3 0 0)), (1, .int (x1)), (3, .int (x3))] [] σ := by
  unfold F_X12_expr_246 at h
  refine z_aload_n dX12_expr_246 rfl 0 rfl ?_
  refine z_iconst (v := 1) dX12_expr_247 (by decide) ?_
  refine z_iconst (v := 0) dX12_expr_248 (by decide) ?_
  obtain ⟨τ, hc, h⟩ := bnv_e h
  refine z_callV (M' := m_X12_reduce) (t := 3) (i := 0) (k := 0) (As := [.int (1), .int (0)]) (rest := []) kl_12_352 oy_X12_reduce ⟨Nat.le_of_ble_eq_true rfl, Nat.le_of_ble_eq_true rfl⟩ rfl rfl rfl rfl (Nat.le_of_ble_eq_true rfl) rfl dX12_expr_249 (c_X12_reduce hc) (fun v2 τ2 hq => ?_)
  obtain ⟨rfl, hτ⟩ := hq
  subst τ2
  change Z _ _ _ _ _ [] _
  exact zb_X12_expr_252 hrc21 h
def F_X12_expr_328 (rc21 : Int32 → Int32 → Int32 → Mm → Option (Int32 × Mm)) (x1 : Int32) (x2 : Int32) (x3 : Int32) (σ : Mm) : Option (Int32 × Mm) := (rc21 (x1 + (-1)) x2 x3 σ)
set_option maxRecDepth 20000 in
theorem zb_X12_expr_328 {S : Shp} {rc21 : Int32 → Int32 → Int32 → Mm → Option (Int32 × Mm)} (hrc21 : ∀ {x1 : Int32} {x2 : Int32} {x3 : Int32} {σ : Mm} {r : Int32 × Mm}, rc21 x1 x2 x3 σ = some r → Z m_X12_expr S (Qi r) 21 [(0, .ref (sL S 3 0 0)), (1, .int (x1)), (2, .int (x2)), (3, .int (x3))] [] σ) {x1 : Int32} {x2 : Int32} {x3 : Int32} {σ : Mm} {r : Int32 × Mm} (h : F_X12_expr_328 rc21 x1 x2 x3 σ = some r) : Z m_X12_expr S (Qi r) 328 [(0, .ref (sL S 3 0 0)), (1, .int (x1)), (2, .int (x2)), (3, .int (x3))] [] σ := by
  unfold F_X12_expr_328 at h
  refine z_iinc (j := 1) (v := x1 + (-1)) (lv' := [(0, .ref (sL S 3 0 0)), (1, .int (x1 + (-1))), (2, .int (x2)), (3, .int (x3))]) dX12_expr_328 rfl rfl (by decide) [1, 0, 2, 3] rfl ?_
  refine z_goto (tgt := 21) dX12_expr_331 (by decide) ?_
  exact hrc21 h
def F_X12_expr_318 (rc21 : Int32 → Int32 → Int32 → Mm → Option (Int32 × Mm)) (x1 : Int32) (x2 : Int32) (x3 : Int32) (σ : Mm) : Option (Int32 × Mm) := (F_X12_expr_328 rc21 x1 x2 x3 (setA σ 3 0 0 (upd (mA σ 3 0 0) 56 ((mA σ 3 0 0 56) - (1 : Int32)))))
set_option maxRecDepth 20000 in
theorem zb_X12_expr_318 {S : Shp} {rc21 : Int32 → Int32 → Int32 → Mm → Option (Int32 × Mm)} (hrc21 : ∀ {x1 : Int32} {x2 : Int32} {x3 : Int32} {σ : Mm} {r : Int32 × Mm}, rc21 x1 x2 x3 σ = some r → Z m_X12_expr S (Qi r) 21 [(0, .ref (sL S 3 0 0)), (1, .int (x1)), (2, .int (x2)), (3, .int (x3))] [] σ) {x1 : Int32} {x2 : Int32} {x3 : Int32} {σ : Mm} {r : Int32 × Mm} (h : F_X12_expr_318 rc21 x1 x2 x3 σ = some r) : Z m_X12_expr S (Qi r) 318 [(0, .ref (sL S 3 0 0)), (1, .int (x1)), (2, .int (x2)), (3, .int (x3))] [] σ := by
  unfold F_X12_expr_318 at h
  refine z_aload_n dX12_expr_318 rfl 0 rfl ?_
  refine z_dup dX12_expr_319 rfl ?_
  refine gf_12_331 rfl dX12_expr_320 ?_
  refine z_iconst (v := 1) dX12_expr_323 (by decide) ?_
  refine z_isub dX12_expr_324 ?_
  refine pf_12_331 rfl dX12_expr_325 ?_
  exact zb_X12_expr_328 hrc21 h
def F_X12_expr_307 (rc21 : Int32 → Int32 → Int32 → Mm → Option (Int32 × Mm)) (x1 : Int32) (x2 : Int32) (x3 : Int32) (s0 : Int32) (σ : Mm) : Option (Int32 × Mm) := (if s0 = 0 then some (0, σ) else (bnv (F_X12_reduce 1 0 σ) (fun τ => (F_X12_expr_318 rc21 x1 x2 x3 τ))))
set_option maxRecDepth 20000 in
theorem zb_X12_expr_307 {S : Shp} {rc21 : Int32 → Int32 → Int32 → Mm → Option (Int32 × Mm)} (hrc21 : ∀ {x1 : Int32} {x2 : Int32} {x3 : Int32} {σ : Mm} {r : Int32 × Mm}, rc21 x1 x2 x3 σ = some r → Z m_X12_expr S (Qi r) 21 [(0, .ref (sL S 3 0 0)), (1, .int (x1)), (2, .int (x2)), (3, .int (x3))] [] σ) {x1 : Int32} {x2 : Int32} {x3 : Int32} {s0 : Int32} {σ : Mm} {r : Int32 × Mm} (h : F_X12_expr_307 rc21 x1 x2 x3 s0 σ = some r) : Z m_X12_expr S (Qi r) 307 [(0, .ref (sL S 3 0 0)), (1, .int (x1)), (2, .int (x2)), (3, .int (x3))] [.int (s0)] σ := by
  unfold F_X12_expr_307 at h
  refine z_if_ne (tgt := 312) dX12_expr_307 (by decide) (fun q => ?_) (fun q => ?_)
  · have h := (if_neg q).symm.trans h
    refine z_aload_n dX12_expr_312 rfl 0 rfl ?_
    refine z_iconst (v := 1) dX12_expr_313 (by decide) ?_
    refine z_iconst (v := 0) dX12_expr_314 (by decide) ?_
    obtain ⟨τ, hc, h⟩ := bnv_e h
    refine z_callV (M' := m_X12_reduce) (t := 3) (i := 0) (k := 0) (As := [.int (1), .int (0)]) (rest := []) kl_12_352 oy_X12_reduce ⟨Nat.le_of_ble_eq_true rfl, Nat.le_of_ble_eq_true rfl⟩ rfl rfl rfl rfl (Nat.le_of_ble_eq_true rfl) rfl dX12_expr_315 (c_X12_reduce hc) (fun v2 τ2 hq => ?_)
    obtain ⟨rfl, hτ⟩ := hq
    subst τ2
    change Z _ _ _ _ _ [] _
    exact zb_X12_expr_318 hrc21 h
  · have h := (if_pos q).symm.trans h
    refine z_iconst (v := 0) dX12_expr_310 (by decide) ?_
    cases h
    exact z_ireturn dX12_expr_311 rfl rfl ⟨rfl, rfl⟩
def F_X12_expr_302 (s0 : Int32) (σ : Mm) : Option (Int32 × Mm) := (if isB s0 = true then some (s0, σ) else none)
set_option maxRecDepth 20000 in
theorem zb_X12_expr_302 {S : Shp} {s0 : Int32} {σ : Mm} {r : Int32 × Mm} (h : F_X12_expr_302 s0 σ = some r) : Z m_X12_expr S (Qi r) 302 [] [.int (s0)] σ := by
  unfold F_X12_expr_302 at h
  obtain ⟨g8, h⟩ := gd h
  cases h
  exact z_ireturn dX12_expr_302 rfl (isB_n g8) ⟨rfl, rfl⟩
def F_X12_expr_294 (rc21 : Int32 → Int32 → Int32 → Mm → Option (Int32 × Mm)) (x1 : Int32) (x2 : Int32) (x3 : Int32) (s0 : Int32) (σ : Mm) : Option (Int32 × Mm) := (if s0 = 0 then (bnd (F_X12_wrong 1 σ) (fun v τ => (F_X12_expr_302 v τ))) else (bnd (F_X12_pass  σ) (fun v τ => (F_X12_expr_307 rc21 x1 x2 x3 v τ))))
set_option maxRecDepth 20000 in
theorem zb_X12_expr_294 {S : Shp} {rc21 : Int32 → Int32 → Int32 → Mm → Option (Int32 × Mm)} (hrc21 : ∀ {x1 : Int32} {x2 : Int32} {x3 : Int32} {σ : Mm} {r : Int32 × Mm}, rc21 x1 x2 x3 σ = some r → Z m_X12_expr S (Qi r) 21 [(0, .ref (sL S 3 0 0)), (1, .int (x1)), (2, .int (x2)), (3, .int (x3))] [] σ) {x1 : Int32} {x2 : Int32} {x3 : Int32} {s0 : Int32} {σ : Mm} {r : Int32 × Mm} (h : F_X12_expr_294 rc21 x1 x2 x3 s0 σ = some r) : Z m_X12_expr S (Qi r) 294 [(0, .ref (sL S 3 0 0)), (1, .int (x1)), (2, .int (x2)), (3, .int (x3))] [.int (s0)] σ := by
  unfold F_X12_expr_294 at h
  refine z_if_ne (tgt := 303) dX12_expr_294 (by decide) (fun q => ?_) (fun q => ?_)
  · have h := (if_neg q).symm.trans h
    refine z_aload_n dX12_expr_303 rfl 0 rfl ?_
    obtain ⟨v, τ, hc, h⟩ := bnd_e h
    refine z_callV (M' := m_X12_pass) (t := 3) (i := 0) (k := 0) (As := []) (rest := []) kl_12_317 oy_X12_pass ⟨Nat.le_of_ble_eq_true rfl, Nat.le_of_ble_eq_true rfl⟩ rfl rfl rfl rfl (Nat.le_of_ble_eq_true rfl) rfl dX12_expr_304 (c_X12_pass hc) (fun v2 τ2 hq => ?_)
    obtain ⟨rfl, hτ⟩ := hq
    subst τ2
    change Z _ _ _ _ _ [.int (v)] _
    exact zb_X12_expr_307 hrc21 h
  · have h := (if_pos q).symm.trans h
    refine z_aload_n dX12_expr_297 rfl 0 rfl ?_
    refine z_iconst (v := 1) dX12_expr_298 (by decide) ?_
    obtain ⟨v, τ, hc, h⟩ := bnd_e h
    refine z_callV (M' := m_X12_wrong) (t := 3) (i := 0) (k := 0) (As := [.int (1)]) (rest := []) kl_12_314 oy_X12_wrong ⟨Nat.le_of_ble_eq_true rfl, Nat.le_of_ble_eq_true rfl⟩ rfl rfl rfl rfl (Nat.le_of_ble_eq_true rfl) rfl dX12_expr_299 (c_X12_wrong hc) (fun v2 τ2 hq => ?_)
    obtain ⟨rfl, hτ⟩ := hq
    subst τ2
    change Z _ _ _ _ _ [.int (v)] _
    refine Z.lv [] rfl ?_
    exact zb_X12_expr_302 h
def F_X12_expr_243 (rc21 : Int32 → Int32 → Int32 → Mm → Option (Int32 × Mm)) (x1 : Int32) (x2 : Int32) (x3 : Int32) (s0 : Int32) (σ : Mm) : Option (Int32 × Mm) := (if s0 = 0 then (if x1 ≤ 0 then (rc21 x1 x2 0 σ) else (bnd (F_X12_isSign 41 σ) (fun v τ => (F_X12_expr_294 rc21 x1 x2 x3 v τ)))) else (F_X12_expr_246 rc21 x1 x3 σ))
set_option maxRecDepth 20000 in
theorem zb_X12_expr_243 {S : Shp} {rc21 : Int32 → Int32 → Int32 → Mm → Option (Int32 × Mm)} (hrc21 : ∀ {x1 : Int32} {x2 : Int32} {x3 : Int32} {σ : Mm} {r : Int32 × Mm}, rc21 x1 x2 x3 σ = some r → Z m_X12_expr S (Qi r) 21 [(0, .ref (sL S 3 0 0)), (1, .int (x1)), (2, .int (x2)), (3, .int (x3))] [] σ) {x1 : Int32} {x2 : Int32} {x3 : Int32} {s0 : Int32} {σ : Mm} {r : Int32 × Mm} (h : F_X12_expr_243 rc21 x1 x2 x3 s0 σ = some r) : Z m_X12_expr S (Qi r) 243 [(0, .ref (sL S 3 0 0)), (1, .int (x1)), (2, .int (x2)), (3, .int (x3))] [.int (s0)] σ := by
  unfold F_X12_expr_243 at h
  refine z_if_eq (tgt := 284) dX12_expr_243 (by decide) (fun q => ?_) (fun q => ?_)
  · have h := (if_pos q).symm.trans h
    refine z_iload_n dX12_expr_284 rfl 1 rfl ?_
    refine z_if_le (tgt := 334) dX12_expr_285 (by decide) (fun q => ?_) (fun q => ?_)
    · have h := (if_pos q).symm.trans h
      refine z_iconst (v := 0) dX12_expr_334 (by decide) ?_
      refine z_istore_n (lv' := [(0, .ref (sL S 3 0 0)), (1, .int (x1)), (2, .int (x2)), (3, .int (0))]) dX12_expr_335 rfl (by decide) [1, 2, 3, 0] rfl ?_
      refine z_goto (tgt := 21) dX12_expr_336 (by decide) ?_
      exact hrc21 h
    · have h := (if_neg q).symm.trans h
      refine z_aload_n dX12_expr_288 rfl 0 rfl ?_
      refine z_bipush (v := 41) dX12_expr_289 (by decide) ?_
      obtain ⟨v, τ, hc, h⟩ := bnd_e h
      refine z_callV (M' := m_X12_isSign) (t := 3) (i := 0) (k := 0) (As := [.int (41)]) (rest := []) kl_12_343 oy_X12_isSign ⟨Nat.le_of_ble_eq_true rfl, Nat.le_of_ble_eq_true rfl⟩ rfl rfl rfl rfl (Nat.le_of_ble_eq_true rfl) rfl dX12_expr_291 (c_X12_isSign hc) (fun v2 τ2 hq => ?_)
      obtain ⟨rfl, hτ⟩ := hq
      subst τ2
      change Z _ _ _ _ _ [.int (v)] _
      exact zb_X12_expr_294 hrc21 h
  · have h := (if_neg q).symm.trans h
    refine Z.lv [0, 1, 3] rfl ?_
    exact zb_X12_expr_246 hrc21 h
def F_X12_expr_234 (rc21 : Int32 → Int32 → Int32 → Mm → Option (Int32 × Mm)) (x1 : Int32) (x2 : Int32) (x3 : Int32) (s0 : Int32) (σ : Mm) : Option (Int32 × Mm) := (if s0 = 0 then (bnd (F_X12_isSign 45 σ) (fun v τ => (F_X12_expr_243 rc21 x1 x2 x3 v τ))) else (F_X12_expr_246 rc21 x1 x3 σ))
set_option maxRecDepth 20000 in
theorem zb_X12_expr_234 {S : Shp} {rc21 : Int32 → Int32 → Int32 → Mm → Option (Int32 × Mm)} (hrc21 : ∀ {x1 : Int32} {x2 : Int32} {x3 : Int32} {σ : Mm} {r : Int32 × Mm}, rc21 x1 x2 x3 σ = some r → Z m_X12_expr S (Qi r) 21 [(0, .ref (sL S 3 0 0)), (1, .int (x1)), (2, .int (x2)), (3, .int (x3))] [] σ) {x1 : Int32} {x2 : Int32} {x3 : Int32} {s0 : Int32} {σ : Mm} {r : Int32 × Mm} (h : F_X12_expr_234 rc21 x1 x2 x3 s0 σ = some r) : Z m_X12_expr S (Qi r) 234 [(0, .ref (sL S 3 0 0)), (1, .int (x1)), (2, .int (x2)), (3, .int (x3))] [.int (s0)] σ := by
  unfold F_X12_expr_234 at h
  refine z_if_ne (tgt := 246) dX12_expr_234 (by decide) (fun q => ?_) (fun q => ?_)
  · have h := (if_neg q).symm.trans h
    refine Z.lv [0, 1, 3] rfl ?_
    exact zb_X12_expr_246 hrc21 h
  · have h := (if_pos q).symm.trans h
    refine z_aload_n dX12_expr_237 rfl 0 rfl ?_
    refine z_bipush (v := 45) dX12_expr_238 (by decide) ?_
    obtain ⟨v, τ, hc, h⟩ := bnd_e h
    refine z_callV (M' := m_X12_isSign) (t := 3) (i := 0) (k := 0) (As := [.int (45)]) (rest := []) kl_12_343 oy_X12_isSign ⟨Nat.le_of_ble_eq_true rfl, Nat.le_of_ble_eq_true rfl⟩ rfl rfl rfl rfl (Nat.le_of_ble_eq_true rfl) rfl dX12_expr_240 (c_X12_isSign hc) (fun v2 τ2 hq => ?_)
    obtain ⟨rfl, hτ⟩ := hq
    subst τ2
    change Z _ _ _ _ _ [.int (v)] _
    exact zb_X12_expr_243 hrc21 h
def F_X12_expr_187 (rc21 : Int32 → Int32 → Int32 → Mm → Option (Int32 × Mm)) (x1 : Int32) (x2 : Int32) (x3 : Int32) (s0 : Int32) (σ : Mm) : Option (Int32 × Mm) := (if s0 = 0 then (bnd (F_X12_isSign 43 σ) (fun v τ => (F_X12_expr_234 rc21 x1 x2 x3 v τ))) else (F_X12_expr_190 rc21 x1 x3 σ))
set_option maxRecDepth 20000 in
theorem zb_X12_expr_187 {S : Shp} {rc21 : Int32 → Int32 → Int32 → Mm → Option (Int32 × Mm)} (hrc21 : ∀ {x1 : Int32} {x2 : Int32} {x3 : Int32} {σ : Mm} {r : Int32 × Mm}, rc21 x1 x2 x3 σ = some r → Z m_X12_expr S (Qi r) 21 [(0, .ref (sL S 3 0 0)), (1, .int (x1)), (2, .int (x2)), (3, .int (x3))] [] σ) {x1 : Int32} {x2 : Int32} {x3 : Int32} {s0 : Int32} {σ : Mm} {r : Int32 × Mm} (h : F_X12_expr_187 rc21 x1 x2 x3 s0 σ = some r) : Z m_X12_expr S (Qi r) 187 [(0, .ref (sL S 3 0 0)), (1, .int (x1)), (2, .int (x2)), (3, .int (x3))] [.int (s0)] σ := by
  unfold F_X12_expr_187 at h
  refine z_if_eq (tgt := 228) dX12_expr_187 (by decide) (fun q => ?_) (fun q => ?_)
  · have h := (if_pos q).symm.trans h
    refine z_aload_n dX12_expr_228 rfl 0 rfl ?_
    refine z_bipush (v := 43) dX12_expr_229 (by decide) ?_
    obtain ⟨v, τ, hc, h⟩ := bnd_e h
    refine z_callV (M' := m_X12_isSign) (t := 3) (i := 0) (k := 0) (As := [.int (43)]) (rest := []) kl_12_343 oy_X12_isSign ⟨Nat.le_of_ble_eq_true rfl, Nat.le_of_ble_eq_true rfl⟩ rfl rfl rfl rfl (Nat.le_of_ble_eq_true rfl) rfl dX12_expr_231 (c_X12_isSign hc) (fun v2 τ2 hq => ?_)
    obtain ⟨rfl, hτ⟩ := hq
    subst τ2
    change Z _ _ _ _ _ [.int (v)] _
    exact zb_X12_expr_234 hrc21 h
  · have h := (if_neg q).symm.trans h
    refine Z.lv [0, 1, 3] rfl ?_
    exact zb_X12_expr_190 hrc21 h
def F_X12_expr_178 (rc21 : Int32 → Int32 → Int32 → Mm → Option (Int32 × Mm)) (x1 : Int32) (x2 : Int32) (x3 : Int32) (s0 : Int32) (σ : Mm) : Option (Int32 × Mm) := (if s0 = 0 then (bnd (F_X12_isSign 47 σ) (fun v τ => (F_X12_expr_187 rc21 x1 x2 x3 v τ))) else (F_X12_expr_190 rc21 x1 x3 σ))
set_option maxRecDepth 20000 in
theorem zb_X12_expr_178 {S : Shp} {rc21 : Int32 → Int32 → Int32 → Mm → Option (Int32 × Mm)} (hrc21 : ∀ {x1 : Int32} {x2 : Int32} {x3 : Int32} {σ : Mm} {r : Int32 × Mm}, rc21 x1 x2 x3 σ = some r → Z m_X12_expr S (Qi r) 21 [(0, .ref (sL S 3 0 0)), (1, .int (x1)), (2, .int (x2)), (3, .int (x3))] [] σ) {x1 : Int32} {x2 : Int32} {x3 : Int32} {s0 : Int32} {σ : Mm} {r : Int32 × Mm} (h : F_X12_expr_178 rc21 x1 x2 x3 s0 σ = some r) : Z m_X12_expr S (Qi r) 178 [(0, .ref (sL S 3 0 0)), (1, .int (x1)), (2, .int (x2)), (3, .int (x3))] [.int (s0)] σ := by
  unfold F_X12_expr_178 at h
  refine z_if_ne (tgt := 190) dX12_expr_178 (by decide) (fun q => ?_) (fun q => ?_)
  · have h := (if_neg q).symm.trans h
    refine Z.lv [0, 1, 3] rfl ?_
    exact zb_X12_expr_190 hrc21 h
  · have h := (if_pos q).symm.trans h
    refine z_aload_n dX12_expr_181 rfl 0 rfl ?_
    refine z_bipush (v := 47) dX12_expr_182 (by decide) ?_
    obtain ⟨v, τ, hc, h⟩ := bnd_e h
    refine z_callV (M' := m_X12_isSign) (t := 3) (i := 0) (k := 0) (As := [.int (47)]) (rest := []) kl_12_343 oy_X12_isSign ⟨Nat.le_of_ble_eq_true rfl, Nat.le_of_ble_eq_true rfl⟩ rfl rfl rfl rfl (Nat.le_of_ble_eq_true rfl) rfl dX12_expr_184 (c_X12_isSign hc) (fun v2 τ2 hq => ?_)
    obtain ⟨rfl, hτ⟩ := hq
    subst τ2
    change Z _ _ _ _ _ [.int (v)] _
    exact zb_X12_expr_187 hrc21 h
def F_X12_expr_162 (rc21 : Int32 → Int32 → Int32 → Mm → Option (Int32 × Mm)) (x1 : Int32) (x3 : Int32) (s0 : Int32) (σ : Mm) : Option (Int32 × Mm) := (if s0 = 0 then some (0, σ) else (rc21 x1 0 x3 σ))
set_option maxRecDepth 20000 in
theorem zb_X12_expr_162 {S : Shp} {rc21 : Int32 → Int32 → Int32 → Mm → Option (Int32 × Mm)} (hrc21 : ∀ {x1 : Int32} {x2 : Int32} {x3 : Int32} {σ : Mm} {r : Int32 × Mm}, rc21 x1 x2 x3 σ = some r → Z m_X12_expr S (Qi r) 21 [(0, .ref (sL S 3 0 0)), (1, .int (x1)), (2, .int (x2)), (3, .int (x3))] [] σ) {x1 : Int32} {x3 : Int32} {s0 : Int32} {σ : Mm} {r : Int32 × Mm} (h : F_X12_expr_162 rc21 x1 x3 s0 σ = some r) : Z m_X12_expr S (Qi r) 162 [(0, .ref (sL S 3 0 0)), (1, .int (x1)), (3, .int (x3))] [.int (s0)] σ := by
  unfold F_X12_expr_162 at h
  refine z_if_ne (tgt := 167) dX12_expr_162 (by decide) (fun q => ?_) (fun q => ?_)
  · have h := (if_neg q).symm.trans h
    refine z_iconst (v := 0) dX12_expr_167 (by decide) ?_
    refine z_istore_n (lv' := [(0, .ref (sL S 3 0 0)), (1, .int (x1)), (2, .int (0)), (3, .int (x3))]) dX12_expr_168 rfl (by decide) [1, 2, 0, 3] rfl ?_
    refine z_goto (tgt := 21) dX12_expr_169 (by decide) ?_
    exact hrc21 h
  · have h := (if_pos q).symm.trans h
    refine z_iconst (v := 0) dX12_expr_165 (by decide) ?_
    cases h
    exact z_ireturn dX12_expr_166 rfl rfl ⟨rfl, rfl⟩
def F_X12_expr_158 (rc21 : Int32 → Int32 → Int32 → Mm → Option (Int32 × Mm)) (x1 : Int32) (x3 : Int32) (σ : Mm) : Option (Int32 × Mm) := (bnd (F_X12_pass  σ) (fun v τ => (F_X12_expr_162 rc21 x1 x3 v τ)))
set_option maxRecDepth 20000 in
theorem zb_X12_expr_158 {S : Shp} {rc21 : Int32 → Int32 → Int32 → Mm → Option (Int32 × Mm)} (hrc21 : ∀ {x1 : Int32} {x2 : Int32} {x3 : Int32} {σ : Mm} {r : Int32 × Mm}, rc21 x1 x2 x3 σ = some r → Z m_X12_expr S (Qi r) 21 [(0, .ref (sL S 3 0 0)), (1, .int (x1)), (2, .int (x2)), (3, .int (x3))] [] σ) {x1 : Int32} {x3 : Int32} {σ : Mm} {r : Int32 × Mm} (h : F_X12_expr_158 rc21 x1 x3 σ = some r) : Z m_X12_expr S (Qi r) 158 [(0, .ref (sL S 3 0 0)), (1, .int (x1)), (3, .int (x3))] [] σ := by
  unfold F_X12_expr_158 at h
  refine z_aload_n dX12_expr_158 rfl 0 rfl ?_
  obtain ⟨v, τ, hc, h⟩ := bnd_e h
  refine z_callV (M' := m_X12_pass) (t := 3) (i := 0) (k := 0) (As := []) (rest := []) kl_12_317 oy_X12_pass ⟨Nat.le_of_ble_eq_true rfl, Nat.le_of_ble_eq_true rfl⟩ rfl rfl rfl rfl (Nat.le_of_ble_eq_true rfl) rfl dX12_expr_159 (c_X12_pass hc) (fun v2 τ2 hq => ?_)
  obtain ⟨rfl, hτ⟩ := hq
  subst τ2
  change Z _ _ _ _ _ [.int (v)] _
  exact zb_X12_expr_162 hrc21 h
def F_X12_expr_155 (rc21 : Int32 → Int32 → Int32 → Mm → Option (Int32 × Mm)) (x1 : Int32) (x3 : Int32) (s0 : Int32) (s1 : Int32) (σ : Mm) : Option (Int32 × Mm) := (bnv (F_X12_emit s1 s0 σ) (fun τ => (F_X12_expr_158 rc21 x1 x3 τ)))
set_option maxRecDepth 20000 in
theorem zb_X12_expr_155 {S : Shp} {rc21 : Int32 → Int32 → Int32 → Mm → Option (Int32 × Mm)} (hrc21 : ∀ {x1 : Int32} {x2 : Int32} {x3 : Int32} {σ : Mm} {r : Int32 × Mm}, rc21 x1 x2 x3 σ = some r → Z m_X12_expr S (Qi r) 21 [(0, .ref (sL S 3 0 0)), (1, .int (x1)), (2, .int (x2)), (3, .int (x3))] [] σ) {x1 : Int32} {x3 : Int32} {s0 : Int32} {s1 : Int32} {σ : Mm} {r : Int32 × Mm} (h : F_X12_expr_155 rc21 x1 x3 s0 s1 σ = some r) : Z m_X12_expr S (Qi r) 155 [(0, .ref (sL S 3 0 0)), (1, .int (x1)), (3, .int (x3))] [.int (s0), .int (s1), .ref (sL S 3 0 0)] σ := by
  unfold F_X12_expr_155 at h
  obtain ⟨τ, hc, h⟩ := bnv_e h
  refine z_callV (M' := m_X12_emit) (t := 3) (i := 0) (k := 0) (As := [.int (s1), .int (s0)]) (rest := []) kl_12_337 oy_X12_emit ⟨Nat.le_of_ble_eq_true rfl, Nat.le_of_ble_eq_true rfl⟩ rfl rfl rfl rfl (Nat.le_of_ble_eq_true rfl) rfl dX12_expr_155 (c_X12_emit hc) (fun v2 τ2 hq => ?_)
  obtain ⟨rfl, hτ⟩ := hq
  subst τ2
  change Z _ _ _ _ _ [] _
  exact zb_X12_expr_158 hrc21 h
def F_X12_expr_136 (rc21 : Int32 → Int32 → Int32 → Mm → Option (Int32 × Mm)) (x1 : Int32) (x3 : Int32) (x4 : Int32) (s0 : Int32) (σ : Mm) : Option (Int32 × Mm) := (if 0 ≤ x4 then (F_X12_expr_155 rc21 x1 x3 x4 s0 σ) else (if inb (mA σ 3 0 0 7) 2001 = true then (F_X12_expr_155 rc21 x1 x3 (mA σ 3 0 4 (mA σ 3 0 0 7).toNatClampNeg) s0 σ) else none))
set_option maxRecDepth 20000 in
theorem zb_X12_expr_136 {S : Shp} {rc21 : Int32 → Int32 → Int32 → Mm → Option (Int32 × Mm)} (hrc21 : ∀ {x1 : Int32} {x2 : Int32} {x3 : Int32} {σ : Mm} {r : Int32 × Mm}, rc21 x1 x2 x3 σ = some r → Z m_X12_expr S (Qi r) 21 [(0, .ref (sL S 3 0 0)), (1, .int (x1)), (2, .int (x2)), (3, .int (x3))] [] σ) {x1 : Int32} {x3 : Int32} {x4 : Int32} {s0 : Int32} {σ : Mm} {r : Int32 × Mm} (h : F_X12_expr_136 rc21 x1 x3 x4 s0 σ = some r) : Z m_X12_expr S (Qi r) 136 [(0, .ref (sL S 3 0 0)), (1, .int (x1)), (3, .int (x3)), (4, .int (x4))] [.int (s0), .ref (sL S 3 0 0)] σ := by
  unfold F_X12_expr_136 at h
  refine z_iload dX12_expr_136 3 rfl ?_
  refine z_if_ge (tgt := 153) dX12_expr_138 (by decide) (fun q => ?_) (fun q => ?_)
  · have h := (if_pos q).symm.trans h
    refine z_iload dX12_expr_153 3 rfl ?_
    refine Z.lv [0, 1, 2] rfl ?_
    exact zb_X12_expr_155 hrc21 h
  · have h := (if_neg q).symm.trans h
    obtain ⟨g7, h⟩ := gd h
    refine z_aload_n dX12_expr_141 rfl 0 rfl ?_
    refine gf_12_19 rfl dX12_expr_142 ?_
    refine z_aload_n dX12_expr_145 rfl 0 rfl ?_
    refine gf_12_305 rfl dX12_expr_146 ?_
    refine ia_3_4 (inb_in g7) dX12_expr_149 ?_
    refine z_goto (tgt := 155) dX12_expr_150 (by decide) ?_
    refine Z.lv [0, 1, 2] rfl ?_
    exact zb_X12_expr_155 hrc21 h
def F_X12_expr_125 (rc21 : Int32 → Int32 → Int32 → Mm → Option (Int32 × Mm)) (x1 : Int32) (x3 : Int32) (x4 : Int32) (σ : Mm) : Option (Int32 × Mm) := (if 0 ≤ x4 then (F_X12_expr_136 rc21 x1 x3 x4 1 σ) else (F_X12_expr_136 rc21 x1 x3 x4 0 σ))
set_option maxRecDepth 20000 in
theorem zb_X12_expr_125 {S : Shp} {rc21 : Int32 → Int32 → Int32 → Mm → Option (Int32 × Mm)} (hrc21 : ∀ {x1 : Int32} {x2 : Int32} {x3 : Int32} {σ : Mm} {r : Int32 × Mm}, rc21 x1 x2 x3 σ = some r → Z m_X12_expr S (Qi r) 21 [(0, .ref (sL S 3 0 0)), (1, .int (x1)), (2, .int (x2)), (3, .int (x3))] [] σ) {x1 : Int32} {x3 : Int32} {x4 : Int32} {σ : Mm} {r : Int32 × Mm} (h : F_X12_expr_125 rc21 x1 x3 x4 σ = some r) : Z m_X12_expr S (Qi r) 125 [(0, .ref (sL S 3 0 0)), (1, .int (x1)), (3, .int (x3)), (4, .int (x4))] [] σ := by
  unfold F_X12_expr_125 at h
  refine z_aload_n dX12_expr_125 rfl 0 rfl ?_
  refine z_iload dX12_expr_126 3 rfl ?_
  refine z_if_ge (tgt := 135) dX12_expr_128 (by decide) (fun q => ?_) (fun q => ?_)
  · have h := (if_pos q).symm.trans h
    refine z_iconst (v := 1) dX12_expr_135 (by decide) ?_
    exact zb_X12_expr_136 hrc21 h
  · have h := (if_neg q).symm.trans h
    refine z_iconst (v := 0) dX12_expr_131 (by decide) ?_
    refine z_goto (tgt := 136) dX12_expr_132 (by decide) ?_
    exact zb_X12_expr_136 hrc21 h
def F_X12_expr_124 (s0 : Int32) (σ : Mm) : Option (Int32 × Mm) := (if isB s0 = true then some (s0, σ) else none)
set_option maxRecDepth 20000 in
theorem zb_X12_expr_124 {S : Shp} {s0 : Int32} {σ : Mm} {r : Int32 × Mm} (h : F_X12_expr_124 s0 σ = some r) : Z m_X12_expr S (Qi r) 124 [] [.int (s0)] σ := by
  unfold F_X12_expr_124 at h
  obtain ⟨g6, h⟩ := gd h
  cases h
  exact z_ireturn dX12_expr_124 rfl (isB_n g6) ⟨rfl, rfl⟩
def F_X12_expr_99 (rc21 : Int32 → Int32 → Int32 → Mm → Option (Int32 × Mm)) (x1 : Int32) (x3 : Int32) (s0 : Int32) (σ : Mm) : Option (Int32 × Mm) := (if inb (mA σ 3 0 0 7) 2001 = true then (if (mA σ 3 0 2 (mA σ 3 0 0 7).toNatClampNeg) = (1 : Int32) then (F_X12_expr_125 rc21 x1 x3 s0 σ) else (if 0 ≤ s0 then (F_X12_expr_125 rc21 x1 x3 s0 σ) else (bnd (F_X12_wrong 1 σ) (fun v τ => (F_X12_expr_124 v τ))))) else none)
set_option maxRecDepth 20000 in
theorem zb_X12_expr_99 {S : Shp} {rc21 : Int32 → Int32 → Int32 → Mm → Option (Int32 × Mm)} (hrc21 : ∀ {x1 : Int32} {x2 : Int32} {x3 : Int32} {σ : Mm} {r : Int32 × Mm}, rc21 x1 x2 x3 σ = some r → Z m_X12_expr S (Qi r) 21 [(0, .ref (sL S 3 0 0)), (1, .int (x1)), (2, .int (x2)), (3, .int (x3))] [] σ) {x1 : Int32} {x3 : Int32} {s0 : Int32} {σ : Mm} {r : Int32 × Mm} (h : F_X12_expr_99 rc21 x1 x3 s0 σ = some r) : Z m_X12_expr S (Qi r) 99 [(0, .ref (sL S 3 0 0)), (1, .int (x1)), (3, .int (x3))] [.int (s0)] σ := by
  unfold F_X12_expr_99 at h
  obtain ⟨g4, h⟩ := gd h
  refine z_istore (lv' := [(0, .ref (sL S 3 0 0)), (1, .int (x1)), (3, .int (x3)), (4, .int (s0))]) dX12_expr_99 (by decide) [1, 2, 3, 0] rfl ?_
  refine z_aload_n dX12_expr_101 rfl 0 rfl ?_
  refine gf_12_13 rfl dX12_expr_102 ?_
  refine z_aload_n dX12_expr_105 rfl 0 rfl ?_
  refine gf_12_305 rfl dX12_expr_106 ?_
  refine ia_3_2 (inb_in g4) dX12_expr_109 ?_
  refine z_iconst (v := 1) dX12_expr_110 (by decide) ?_
  refine z_icmp_eq (tgt := 125) dX12_expr_111 (by decide) (fun q => ?_) (fun q => ?_)
  · have h := (if_pos q).symm.trans h
    exact zb_X12_expr_125 hrc21 h
  · have h := (if_neg q).symm.trans h
    refine z_iload dX12_expr_114 3 rfl ?_
    refine z_if_ge (tgt := 125) dX12_expr_116 (by decide) (fun q => ?_) (fun q => ?_)
    · have h := (if_pos q).symm.trans h
      exact zb_X12_expr_125 hrc21 h
    · have h := (if_neg q).symm.trans h
      refine z_aload_n dX12_expr_119 rfl 0 rfl ?_
      refine z_iconst (v := 1) dX12_expr_120 (by decide) ?_
      obtain ⟨v, τ, hc, h⟩ := bnd_e h
      refine z_callV (M' := m_X12_wrong) (t := 3) (i := 0) (k := 0) (As := [.int (1)]) (rest := []) kl_12_314 oy_X12_wrong ⟨Nat.le_of_ble_eq_true rfl, Nat.le_of_ble_eq_true rfl⟩ rfl rfl rfl rfl (Nat.le_of_ble_eq_true rfl) rfl dX12_expr_121 (c_X12_wrong hc) (fun v2 τ2 hq => ?_)
      obtain ⟨rfl, hτ⟩ := hq
      subst τ2
      change Z _ _ _ _ _ [.int (v)] _
      refine Z.lv [] rfl ?_
      exact zb_X12_expr_124 h
def F_X12_expr_67 (rc21 : Int32 → Int32 → Int32 → Mm → Option (Int32 × Mm)) (x1 : Int32) (x2 : Int32) (x3 : Int32) (σ : Mm) : Option (Int32 × Mm) := (rc21 x1 x2 x3 σ)
set_option maxRecDepth 20000 in
theorem zb_X12_expr_67 {S : Shp} {rc21 : Int32 → Int32 → Int32 → Mm → Option (Int32 × Mm)} (hrc21 : ∀ {x1 : Int32} {x2 : Int32} {x3 : Int32} {σ : Mm} {r : Int32 × Mm}, rc21 x1 x2 x3 σ = some r → Z m_X12_expr S (Qi r) 21 [(0, .ref (sL S 3 0 0)), (1, .int (x1)), (2, .int (x2)), (3, .int (x3))] [] σ) {x1 : Int32} {x2 : Int32} {x3 : Int32} {σ : Mm} {r : Int32 × Mm} (h : F_X12_expr_67 rc21 x1 x2 x3 σ = some r) : Z m_X12_expr S (Qi r) 67 [(0, .ref (sL S 3 0 0)), (1, .int (x1)), (2, .int (x2)), (3, .int (x3))] [] σ := by
  unfold F_X12_expr_67 at h
  refine z_goto (tgt := 21) dX12_expr_67 (by decide) ?_
  exact hrc21 h
def F_X12_expr_54 (rc21 : Int32 → Int32 → Int32 → Mm → Option (Int32 × Mm)) (x1 : Int32) (x2 : Int32) (x3 : Int32) (s0 : Int32) (σ : Mm) : Option (Int32 × Mm) := (if s0 = 0 then some (0, σ) else (bnv (F_X12_await 0 σ) (fun τ => (F_X12_expr_67 rc21 (x1 + 1) x2 x3 τ))))
set_option maxRecDepth 20000 in
theorem zb_X12_expr_54 {S : Shp} {rc21 : Int32 → Int32 → Int32 → Mm → Option (Int32 × Mm)} (hrc21 : ∀ {x1 : Int32} {x2 : Int32} {x3 : Int32} {σ : Mm} {r : Int32 × Mm}, rc21 x1 x2 x3 σ = some r → Z m_X12_expr S (Qi r) 21 [(0, .ref (sL S 3 0 0)), (1, .int (x1)), (2, .int (x2)), (3, .int (x3))] [] σ) {x1 : Int32} {x2 : Int32} {x3 : Int32} {s0 : Int32} {σ : Mm} {r : Int32 × Mm} (h : F_X12_expr_54 rc21 x1 x2 x3 s0 σ = some r) : Z m_X12_expr S (Qi r) 54 [(0, .ref (sL S 3 0 0)), (1, .int (x1)), (2, .int (x2)), (3, .int (x3))] [.int (s0)] σ := by
  unfold F_X12_expr_54 at h
  refine z_if_ne (tgt := 59) dX12_expr_54 (by decide) (fun q => ?_) (fun q => ?_)
  · have h := (if_neg q).symm.trans h
    refine z_iinc (j := 1) (v := x1 + 1) (lv' := [(0, .ref (sL S 3 0 0)), (1, .int (x1 + 1)), (2, .int (x2)), (3, .int (x3))]) dX12_expr_59 rfl rfl (by decide) [1, 0, 2, 3] rfl ?_
    refine z_aload_n dX12_expr_62 rfl 0 rfl ?_
    refine z_iconst (v := 0) dX12_expr_63 (by decide) ?_
    obtain ⟨τ, hc, h⟩ := bnv_e h
    refine z_callV (M' := m_X12_await) (t := 3) (i := 0) (k := 0) (As := [.int (0)]) (rest := []) kl_12_346 oy_X12_await ⟨Nat.le_of_ble_eq_true rfl, Nat.le_of_ble_eq_true rfl⟩ rfl rfl rfl rfl (Nat.le_of_ble_eq_true rfl) rfl dX12_expr_64 (c_X12_await hc) (fun v2 τ2 hq => ?_)
    obtain ⟨rfl, hτ⟩ := hq
    subst τ2
    change Z _ _ _ _ _ [] _
    exact zb_X12_expr_67 hrc21 h
  · have h := (if_pos q).symm.trans h
    refine z_iconst (v := 0) dX12_expr_57 (by decide) ?_
    cases h
    exact z_ireturn dX12_expr_58 rfl rfl ⟨rfl, rfl⟩
def F_X12_expr_49 (s0 : Int32) (σ : Mm) : Option (Int32 × Mm) := (if isB s0 = true then some (s0, σ) else none)
set_option maxRecDepth 20000 in
theorem zb_X12_expr_49 {S : Shp} {s0 : Int32} {σ : Mm} {r : Int32 × Mm} (h : F_X12_expr_49 s0 σ = some r) : Z m_X12_expr S (Qi r) 49 [] [.int (s0)] σ := by
  unfold F_X12_expr_49 at h
  obtain ⟨g5, h⟩ := gd h
  cases h
  exact z_ireturn dX12_expr_49 rfl (isB_n g5) ⟨rfl, rfl⟩
def F_X12_expr_35 (rc21 : Int32 → Int32 → Int32 → Mm → Option (Int32 × Mm)) (x1 : Int32) (x2 : Int32) (x3 : Int32) (s0 : Int32) (σ : Mm) : Option (Int32 × Mm) := (if s0 = 0 then (if inb (mA σ 3 0 0 7) 2001 = true then (if (mA σ 3 0 2 (mA σ 3 0 0 7).toNatClampNeg) = (3 : Int32) then (if inb (mA σ 3 0 0 7) 2001 = true then (F_X12_expr_99 rc21 x1 x3 (f_X12_variableOf (mA σ 3 0 4 (mA σ 3 0 0 7).toNatClampNeg)) σ) else none) else (F_X12_expr_99 rc21 x1 x3 ((-1)) σ)) else none) else (if x1 = (6 : Int32) then (bnd (F_X12_wrong 2 σ) (fun v τ => (F_X12_expr_49 v τ))) else (bnd (F_X12_pass  σ) (fun v τ => (F_X12_expr_54 rc21 x1 x2 x3 v τ)))))
set_option maxRecDepth 20000 in
theorem zb_X12_expr_35 {S : Shp} {rc21 : Int32 → Int32 → Int32 → Mm → Option (Int32 × Mm)} (hrc21 : ∀ {x1 : Int32} {x2 : Int32} {x3 : Int32} {σ : Mm} {r : Int32 × Mm}, rc21 x1 x2 x3 σ = some r → Z m_X12_expr S (Qi r) 21 [(0, .ref (sL S 3 0 0)), (1, .int (x1)), (2, .int (x2)), (3, .int (x3))] [] σ) {x1 : Int32} {x2 : Int32} {x3 : Int32} {s0 : Int32} {σ : Mm} {r : Int32 × Mm} (h : F_X12_expr_35 rc21 x1 x2 x3 s0 σ = some r) : Z m_X12_expr S (Qi r) 35 [(0, .ref (sL S 3 0 0)), (1, .int (x1)), (2, .int (x2)), (3, .int (x3))] [.int (s0)] σ := by
  unfold F_X12_expr_35 at h
  refine z_if_eq (tgt := 70) dX12_expr_35 (by decide) (fun q => ?_) (fun q => ?_)
  · have h := (if_pos q).symm.trans h
    obtain ⟨g2, h⟩ := gd h
    refine z_aload_n dX12_expr_70 rfl 0 rfl ?_
    refine gf_12_13 rfl dX12_expr_71 ?_
    refine z_aload_n dX12_expr_74 rfl 0 rfl ?_
    refine gf_12_305 rfl dX12_expr_75 ?_
    refine ia_3_2 (inb_in g2) dX12_expr_78 ?_
    refine z_iconst (v := 3) dX12_expr_79 (by decide) ?_
    refine z_icmp_ne (tgt := 98) dX12_expr_80 (by decide) (fun q => ?_) (fun q => ?_)
    · have h := (if_neg q).symm.trans h
      refine z_iconst (v := (-1)) dX12_expr_98 (by decide) ?_
      refine Z.lv [0, 1, 3] rfl ?_
      exact zb_X12_expr_99 hrc21 h
    · have h := (if_pos q).symm.trans h
      obtain ⟨g3, h⟩ := gd h
      refine z_aload_n dX12_expr_83 rfl 0 rfl ?_
      refine gf_12_19 rfl dX12_expr_84 ?_
      refine z_aload_n dX12_expr_87 rfl 0 rfl ?_
      refine gf_12_305 rfl dX12_expr_88 ?_
      refine ia_3_4 (inb_in g3) dX12_expr_91 ?_
      refine z_callS (M' := m_X12_variableOf) (As := [.int (mA σ 3 0 4 (mA σ 3 0 0 7).toNatClampNeg)]) (rest := []) kl_12_349 oy_X12_variableOf ⟨Nat.le_of_ble_eq_true rfl, Nat.le_of_ble_eq_true rfl⟩ rfl (Nat.le_of_ble_eq_true rfl) rfl dX12_expr_92 (c_X12_variableOf rfl) (fun v τ hq => ?_)
      obtain ⟨rfl, hτ⟩ := hq
      subst τ
      change Z _ _ _ _ _ [.int (f_X12_variableOf (mA σ 3 0 4 (mA σ 3 0 0 7).toNatClampNeg))] _
      refine z_goto (tgt := 99) dX12_expr_95 (by decide) ?_
      refine Z.lv [0, 1, 3] rfl ?_
      exact zb_X12_expr_99 hrc21 h
  · have h := (if_neg q).symm.trans h
    refine z_iload_n dX12_expr_38 rfl 1 rfl ?_
    refine z_bipush (v := 6) dX12_expr_39 (by decide) ?_
    refine z_icmp_ne (tgt := 50) dX12_expr_41 (by decide) (fun q => ?_) (fun q => ?_)
    · have h := (if_neg q).symm.trans h
      refine z_aload_n dX12_expr_50 rfl 0 rfl ?_
      obtain ⟨v, τ, hc, h⟩ := bnd_e h
      refine z_callV (M' := m_X12_pass) (t := 3) (i := 0) (k := 0) (As := []) (rest := []) kl_12_317 oy_X12_pass ⟨Nat.le_of_ble_eq_true rfl, Nat.le_of_ble_eq_true rfl⟩ rfl rfl rfl rfl (Nat.le_of_ble_eq_true rfl) rfl dX12_expr_51 (c_X12_pass hc) (fun v2 τ2 hq => ?_)
      obtain ⟨rfl, hτ⟩ := hq
      subst τ2
      change Z _ _ _ _ _ [.int (v)] _
      exact zb_X12_expr_54 hrc21 h
    · have h := (if_pos q).symm.trans h
      refine z_aload_n dX12_expr_44 rfl 0 rfl ?_
      refine z_iconst (v := 2) dX12_expr_45 (by decide) ?_
      obtain ⟨v, τ, hc, h⟩ := bnd_e h
      refine z_callV (M' := m_X12_wrong) (t := 3) (i := 0) (k := 0) (As := [.int (2)]) (rest := []) kl_12_314 oy_X12_wrong ⟨Nat.le_of_ble_eq_true rfl, Nat.le_of_ble_eq_true rfl⟩ rfl rfl rfl rfl (Nat.le_of_ble_eq_true rfl) rfl dX12_expr_46 (c_X12_wrong hc) (fun v2 τ2 hq => ?_)
      obtain ⟨rfl, hτ⟩ := hq
      subst τ2
      change Z _ _ _ _ _ [.int (v)] _
      refine Z.lv [] rfl ?_
      exact zb_X12_expr_49 h
def B_X12_expr_21 (rc21 : Int32 → Int32 → Int32 → Mm → Option (Int32 × Mm)) (x1 : Int32) (x2 : Int32) (x3 : Int32) (σ : Mm) : Option (Int32 × Mm) := (if x3 = 0 then (bnv (F_X12_reduce 1 0 σ) (fun τ => (F_X12_expr_345 τ))) else (if x2 = 0 then (bnd (F_X12_isSign 42 σ) (fun v τ => (F_X12_expr_178 rc21 x1 x2 x3 v τ))) else (bnd (F_X12_isSign 40 σ) (fun v τ => (F_X12_expr_35 rc21 x1 x2 x3 v τ)))))
set_option maxRecDepth 20000 in
theorem zB_X12_expr_21 {S : Shp} {rc21 : Int32 → Int32 → Int32 → Mm → Option (Int32 × Mm)} (hrc21 : ∀ {x1 : Int32} {x2 : Int32} {x3 : Int32} {σ : Mm} {r : Int32 × Mm}, rc21 x1 x2 x3 σ = some r → Z m_X12_expr S (Qi r) 21 [(0, .ref (sL S 3 0 0)), (1, .int (x1)), (2, .int (x2)), (3, .int (x3))] [] σ) {x1 : Int32} {x2 : Int32} {x3 : Int32} {σ : Mm} {r : Int32 × Mm} (h : B_X12_expr_21 rc21 x1 x2 x3 σ = some r) : Z m_X12_expr S (Qi r) 21 [(0, .ref (sL S 3 0 0)), (1, .int (x1)), (2, .int (x2)), (3, .int (x3))] [] σ := by
  unfold B_X12_expr_21 at h
  refine z_iload_n dX12_expr_21 rfl 3 rfl ?_
  refine z_if_eq (tgt := 339) dX12_expr_22 (by decide) (fun q => ?_) (fun q => ?_)
  · have h := (if_pos q).symm.trans h
    refine z_aload_n dX12_expr_339 rfl 0 rfl ?_
    refine z_iconst (v := 1) dX12_expr_340 (by decide) ?_
    refine z_iconst (v := 0) dX12_expr_341 (by decide) ?_
    obtain ⟨τ, hc, h⟩ := bnv_e h
    refine z_callV (M' := m_X12_reduce) (t := 3) (i := 0) (k := 0) (As := [.int (1), .int (0)]) (rest := []) kl_12_352 oy_X12_reduce ⟨Nat.le_of_ble_eq_true rfl, Nat.le_of_ble_eq_true rfl⟩ rfl rfl rfl rfl (Nat.le_of_ble_eq_true rfl) rfl dX12_expr_342 (c_X12_reduce hc) (fun v2 τ2 hq => ?_)
    obtain ⟨rfl, hτ⟩ := hq
    subst τ2
    change Z _ _ _ _ _ [] _
    refine Z.lv [] rfl ?_
    exact zb_X12_expr_345 h
  · have h := (if_neg q).symm.trans h
    refine z_iload_n dX12_expr_25 rfl 2 rfl ?_
    refine z_if_eq (tgt := 172) dX12_expr_26 (by decide) (fun q => ?_) (fun q => ?_)
    · have h := (if_pos q).symm.trans h
      refine z_aload_n dX12_expr_172 rfl 0 rfl ?_
      refine z_bipush (v := 42) dX12_expr_173 (by decide) ?_
      obtain ⟨v, τ, hc, h⟩ := bnd_e h
      refine z_callV (M' := m_X12_isSign) (t := 3) (i := 0) (k := 0) (As := [.int (42)]) (rest := []) kl_12_343 oy_X12_isSign ⟨Nat.le_of_ble_eq_true rfl, Nat.le_of_ble_eq_true rfl⟩ rfl rfl rfl rfl (Nat.le_of_ble_eq_true rfl) rfl dX12_expr_175 (c_X12_isSign hc) (fun v2 τ2 hq => ?_)
      obtain ⟨rfl, hτ⟩ := hq
      subst τ2
      change Z _ _ _ _ _ [.int (v)] _
      exact zb_X12_expr_178 hrc21 h
    · have h := (if_neg q).symm.trans h
      refine z_aload_n dX12_expr_29 rfl 0 rfl ?_
      refine z_bipush (v := 40) dX12_expr_30 (by decide) ?_
      obtain ⟨v, τ, hc, h⟩ := bnd_e h
      refine z_callV (M' := m_X12_isSign) (t := 3) (i := 0) (k := 0) (As := [.int (40)]) (rest := []) kl_12_343 oy_X12_isSign ⟨Nat.le_of_ble_eq_true rfl, Nat.le_of_ble_eq_true rfl⟩ rfl rfl rfl rfl (Nat.le_of_ble_eq_true rfl) rfl dX12_expr_32 (c_X12_isSign hc) (fun v2 τ2 hq => ?_)
      obtain ⟨rfl, hτ⟩ := hq
      subst τ2
      change Z _ _ _ _ _ [.int (v)] _
      exact zb_X12_expr_35 hrc21 h
def F_X12_expr_21 : Nat → Int32 → Int32 → Int32 → Mm → Option (Int32 × Mm)
  | 0 => fun _ _ _ _ => none
  | n + 1 => B_X12_expr_21 (F_X12_expr_21 n)
theorem zl_X12_expr_21 {S : Shp} : ∀ (nn : Nat) {x1 : Int32} {x2 : Int32} {x3 : Int32} {σ : Mm} {r : Int32 × Mm}, F_X12_expr_21 nn x1 x2 x3 σ = some r → Z m_X12_expr S (Qi r) 21 [(0, .ref (sL S 3 0 0)), (1, .int (x1)), (2, .int (x2)), (3, .int (x3))] [] σ := by
  intro nn
  induction nn with
  | zero => intro x1 x2 x3 σ r h; cases h
  | succ nn ih => intro x1 x2 x3 σ r h; exact zB_X12_expr_21 @ih h
def F_X12_expr_15 (σ : Mm) : Option (Int32 × Mm) := (F_X12_expr_21 FU 0 1 1 σ)
set_option maxRecDepth 20000 in
theorem zb_X12_expr_15 {S : Shp} {σ : Mm} {r : Int32 × Mm} (h : F_X12_expr_15 σ = some r) : Z m_X12_expr S (Qi r) 15 [(0, .ref (sL S 3 0 0))] [] σ := by
  unfold F_X12_expr_15 at h
  refine z_iconst (v := 0) dX12_expr_15 (by decide) ?_
  refine z_istore_n (lv' := [(0, .ref (sL S 3 0 0)), (1, .int (0))]) dX12_expr_16 rfl (by decide) [1, 0] rfl ?_
  refine z_iconst (v := 1) dX12_expr_17 (by decide) ?_
  refine z_istore_n (lv' := [(0, .ref (sL S 3 0 0)), (1, .int (0)), (2, .int (1))]) dX12_expr_18 rfl (by decide) [1, 2, 0] rfl ?_
  refine z_iconst (v := 1) dX12_expr_19 (by decide) ?_
  refine z_istore_n (lv' := [(0, .ref (sL S 3 0 0)), (1, .int (0)), (2, .int (1)), (3, .int (1))]) dX12_expr_20 rfl (by decide) [1, 2, 3, 0] rfl ?_
  exact zl_X12_expr_21 FU h
def F_X12_expr_10 (σ : Mm) : Option (Int32 × Mm) := (F_X12_expr_15 (setA σ 3 0 0 (upd (mA σ 3 0 0) 56 0)))
set_option maxRecDepth 20000 in
theorem zb_X12_expr_10 {S : Shp} {σ : Mm} {r : Int32 × Mm} (h : F_X12_expr_10 σ = some r) : Z m_X12_expr S (Qi r) 10 [(0, .ref (sL S 3 0 0))] [] σ := by
  unfold F_X12_expr_10 at h
  refine z_aload_n dX12_expr_10 rfl 0 rfl ?_
  refine z_iconst (v := 0) dX12_expr_11 (by decide) ?_
  refine pf_12_331 rfl dX12_expr_12 ?_
  exact zb_X12_expr_15 h
def F_X12_expr (σ : Mm) : Option (Int32 × Mm) := (if inb 1 5 = true then (F_X12_expr_10 (setA σ 3 0 0 (upd (mA σ 3 0 0) 58 (mA σ 3 0 28 (1 : Int32).toNatClampNeg)))) else none)
set_option maxRecDepth 20000 in
theorem zb_X12_expr {S : Shp} {σ : Mm} {r : Int32 × Mm} (h : F_X12_expr σ = some r) : Z m_X12_expr S (Qi r) 0 [(0, .ref (sL S 3 0 0))] [] σ := by
  unfold F_X12_expr at h
  obtain ⟨g1, h⟩ := gd h
  refine z_aload_n dX12_expr_0 rfl 0 rfl ?_
  refine z_aload_n dX12_expr_1 rfl 0 rfl ?_
  refine gf_12_97 rfl dX12_expr_2 ?_
  refine z_iconst (v := 1) dX12_expr_5 (by decide) ?_
  refine ia_3_28 (inb_in g1) dX12_expr_6 ?_
  refine pf_12_340 rfl dX12_expr_7 ?_
  exact zb_X12_expr_10 h
/-- SkyStonesModel.expr()Z -/
theorem c_X12_expr {S : Shp} {σ : Mm} {r : Int32 × Mm} (h : F_X12_expr σ = some r) : Ct m_X12_expr S [.ref (sL S 3 0 0)] σ (Qi r) := Ct.of (by decide +kernel) (Nat.le_of_ble_eq_true rfl) (zb_X12_expr h)
def F_X12_isWord (x1 : Int32) (σ : Mm) : Option (Int32 × Mm) := (if inb (mA σ 3 0 0 7) 2001 = true then (if (mA σ 3 0 2 (mA σ 3 0 0 7).toNatClampNeg) = (3 : Int32) then (if inb (mA σ 3 0 0 7) 2001 = true then (if (mA σ 3 0 4 (mA σ 3 0 0 7).toNatClampNeg) = x1 then some (1, σ) else some (0, σ)) else none) else some (0, σ)) else none)
set_option maxRecDepth 20000 in
theorem zb_X12_isWord {S : Shp} {x1 : Int32} {σ : Mm} {r : Int32 × Mm} (h : F_X12_isWord x1 σ = some r) : Z m_X12_isWord S (Qi r) 0 [(0, .ref (sL S 3 0 0)), (1, .int (x1))] [] σ := by
  unfold F_X12_isWord at h
  obtain ⟨g1, h⟩ := gd h
  refine z_aload_n dX12_isWord_0 rfl 0 rfl ?_
  refine gf_12_13 rfl dX12_isWord_1 ?_
  refine z_aload_n dX12_isWord_4 rfl 0 rfl ?_
  refine gf_12_305 rfl dX12_isWord_5 ?_
  refine ia_3_2 (inb_in g1) dX12_isWord_8 ?_
  refine z_iconst (v := 3) dX12_isWord_9 (by decide) ?_
  refine z_icmp_ne (tgt := 30) dX12_isWord_10 (by decide) (fun q => ?_) (fun q => ?_)
  · have h := (if_neg q).symm.trans h
    refine z_iconst (v := 0) dX12_isWord_30 (by decide) ?_
    cases h
    exact z_ireturn dX12_isWord_31 rfl rfl ⟨rfl, rfl⟩
  · have h := (if_pos q).symm.trans h
    obtain ⟨g2, h⟩ := gd h
    refine z_aload_n dX12_isWord_13 rfl 0 rfl ?_
    refine gf_12_19 rfl dX12_isWord_14 ?_
    refine z_aload_n dX12_isWord_17 rfl 0 rfl ?_
    refine gf_12_305 rfl dX12_isWord_18 ?_
    refine ia_3_4 (inb_in g2) dX12_isWord_21 ?_
    refine z_iload_n dX12_isWord_22 rfl 1 rfl ?_
    refine z_icmp_ne (tgt := 30) dX12_isWord_23 (by decide) (fun q => ?_) (fun q => ?_)
    · have h := (if_neg q).symm.trans h
      refine z_iconst (v := 0) dX12_isWord_30 (by decide) ?_
      cases h
      exact z_ireturn dX12_isWord_31 rfl rfl ⟨rfl, rfl⟩
    · have h := (if_pos q).symm.trans h
      refine z_iconst (v := 1) dX12_isWord_26 (by decide) ?_
      refine z_goto (tgt := 31) dX12_isWord_27 (by decide) ?_
      cases h
      exact z_ireturn dX12_isWord_31 rfl rfl ⟨rfl, rfl⟩
/-- SkyStonesModel.isWord(I)Z -/
theorem c_X12_isWord {S : Shp} {x1 : Int32} {σ : Mm} {r : Int32 × Mm} (h : F_X12_isWord x1 σ = some r) : Ct m_X12_isWord S [.ref (sL S 3 0 0), .int (x1)] σ (Qi r) := Ct.of (by decide +kernel) (Nat.le_of_ble_eq_true rfl) (zb_X12_isWord h)
