def F_J7_fill_53178_lk_14 (rc5 : Int32 → Int32 → Int32 → Mm → Option (Mm)) (x1 : Int32) (x2 : Int32) (x3 : Int32) (σ : Mm) : Option (Mm) := (rc5 x1 (x2 + 1) x3 σ)
set_option maxRecDepth 20000 in
theorem zb_J7_fill_53178_lk_14 {S : Shp} {rc5 : Int32 → Int32 → Int32 → Mm → Option (Mm)} (hrc5 : ∀ {x1 : Int32} {x2 : Int32} {x3 : Int32} {σ : Mm} {r : Mm}, rc5 x1 x2 x3 σ = some r → Z m_J7_fill_53178 S (Qv r) 5 [(0, .ref (sL S 0 0 30)), (1, .int (x1)), (2, .int (x2)), (3, .int (x3))] [] σ) {x1 : Int32} {x2 : Int32} {x3 : Int32} {σ : Mm} {r : Mm} (h : F_J7_fill_53178_lk_14 rc5 x1 x2 x3 σ = some r) : Z m_J7_fill_53178 S (Qv r) 14 [(0, .ref (sL S 0 0 30)), (1, .int (x1)), (2, .int (x2)), (3, .int (x3))] [] σ := by
  unfold F_J7_fill_53178_lk_14 at h
  refine z_iinc (j := 2) (v := x2 + 1) (lv' := [(0, .ref (sL S 0 0 30)), (1, .int (x1)), (2, .int (x2 + 1)), (3, .int (x3))]) dJ7_fill_53178_14 rfl rfl (by decide) [1, 2, 0, 3] rfl ?_
  refine z_goto (tgt := 5) dJ7_fill_53178_17 (by decide) ?_
  exact hrc5 h
def B_J7_fill_53178_lk_5 (rc5 : Int32 → Int32 → Int32 → Mm → Option (Mm)) (x1 : Int32) (x2 : Int32) (x3 : Int32) (σ : Mm) : Option (Mm) := (if x3 ≤ x2 then some (σ) else (if inb x2 360 = true then (F_J7_fill_53178_lk_14 rc5 x1 x2 x3 (setA σ 0 0 30 (upd (mA σ 0 0 30) x2.toNatClampNeg x1))) else none))
set_option maxRecDepth 20000 in
theorem zB_J7_fill_53178_lk_5 {S : Shp} {rc5 : Int32 → Int32 → Int32 → Mm → Option (Mm)} (hrc5 : ∀ {x1 : Int32} {x2 : Int32} {x3 : Int32} {σ : Mm} {r : Mm}, rc5 x1 x2 x3 σ = some r → Z m_J7_fill_53178 S (Qv r) 5 [(0, .ref (sL S 0 0 30)), (1, .int (x1)), (2, .int (x2)), (3, .int (x3))] [] σ) {x1 : Int32} {x2 : Int32} {x3 : Int32} {σ : Mm} {r : Mm} (h : B_J7_fill_53178_lk_5 rc5 x1 x2 x3 σ = some r) : Z m_J7_fill_53178 S (Qv r) 5 [(0, .ref (sL S 0 0 30)), (1, .int (x1)), (2, .int (x2)), (3, .int (x3))] [] σ := by
  unfold B_J7_fill_53178_lk_5 at h
  refine z_iload_n dJ7_fill_53178_5 rfl 2 rfl ?_
  refine z_iload_n dJ7_fill_53178_6 rfl 3 rfl ?_
  refine z_icmp_ge (tgt := 20) dJ7_fill_53178_7 (by decide) (fun q => ?_) (fun q => ?_)
  · have h := (if_pos q).symm.trans h
    cases h
    exact z_return dJ7_fill_53178_20 rfl ⟨rfl, rfl⟩
  · have h := (if_neg q).symm.trans h
    obtain ⟨g1, h⟩ := gd h
    refine z_aload_n dJ7_fill_53178_10 rfl 0 rfl ?_
    refine z_iload_n dJ7_fill_53178_11 rfl 2 rfl ?_
    refine z_iload_n dJ7_fill_53178_12 rfl 1 rfl ?_
    refine is_0_30 (inb_in g1) dJ7_fill_53178_13 ?_
    exact zb_J7_fill_53178_lk_14 hrc5 h
def F_J7_fill_53178_lk_5 : Nat → Int32 → Int32 → Int32 → Mm → Option (Mm)
  | 0 => fun _ _ _ _ => none
  | n + 1 => B_J7_fill_53178_lk_5 (F_J7_fill_53178_lk_5 n)
theorem zl_J7_fill_53178_lk_5 {S : Shp} : ∀ (nn : Nat) {x1 : Int32} {x2 : Int32} {x3 : Int32} {σ : Mm} {r : Mm}, F_J7_fill_53178_lk_5 nn x1 x2 x3 σ = some r → Z m_J7_fill_53178 S (Qv r) 5 [(0, .ref (sL S 0 0 30)), (1, .int (x1)), (2, .int (x2)), (3, .int (x3))] [] σ := by
  intro nn
  induction nn with
  | zero => intro x1 x2 x3 σ r h; cases h
  | succ nn ih => intro x1 x2 x3 σ r h; exact zB_J7_fill_53178_lk_5 @ih h
def F_J7_fill_53178_lk (x1 : Int32) (σ : Mm) : Option (Mm) := (F_J7_fill_53178_lk_5 FU x1 0 360 σ)
set_option maxRecDepth 20000 in
theorem zb_J7_fill_53178_lk {S : Shp} {x1 : Int32} {σ : Mm} {r : Mm} (h : F_J7_fill_53178_lk x1 σ = some r) : Z m_J7_fill_53178 S (Qv r) 0 [(0, .ref (sL S 0 0 30)), (1, .int (x1))] [] σ := by
  unfold F_J7_fill_53178_lk at h
  refine z_iconst (v := 0) dJ7_fill_53178_0 (by decide) ?_
  refine z_istore_n (lv' := [(0, .ref (sL S 0 0 30)), (1, .int (x1)), (2, .int (0))]) dJ7_fill_53178_1 rfl (by decide) [1, 2, 0] rfl ?_
  refine z_aload_n dJ7_fill_53178_2 rfl 0 rfl ?_
  refine z_alen (n0 := 360) (v := 360) rfl (fun _ _ => rfl) (by decide) dJ7_fill_53178_3 ?_
  refine z_istore_n (lv' := [(0, .ref (sL S 0 0 30)), (1, .int (x1)), (2, .int (0)), (3, .int (360))]) dJ7_fill_53178_4 rfl (by decide) [1, 2, 3, 0] rfl ?_
  exact zl_J7_fill_53178_lk_5 FU h
/-- java/util/Arrays.fill([II)V -/
theorem c_J7_fill_53178_lk {S : Shp} {x1 : Int32} {σ : Mm} {r : Mm} (h : F_J7_fill_53178_lk x1 σ = some r) : Ct m_J7_fill_53178 S [.ref (sL S 0 0 30), .int (x1)] σ (Qv r) := Ct.of (by decide +kernel) (Nat.le_of_ble_eq_true rfl) (zb_J7_fill_53178_lk h)
def F_J7_fill_53178_le_14 (rc5 : Int32 → Int32 → Int32 → Mm → Option (Mm)) (x1 : Int32) (x2 : Int32) (x3 : Int32) (σ : Mm) : Option (Mm) := (rc5 x1 (x2 + 1) x3 σ)
set_option maxRecDepth 20000 in
theorem zb_J7_fill_53178_le_14 {S : Shp} {rc5 : Int32 → Int32 → Int32 → Mm → Option (Mm)} (hrc5 : ∀ {x1 : Int32} {x2 : Int32} {x3 : Int32} {σ : Mm} {r : Mm}, rc5 x1 x2 x3 σ = some r → Z m_J7_fill_53178 S (Qv r) 5 [(0, .ref (sL S 0 0 33)), (1, .int (x1)), (2, .int (x2)), (3, .int (x3))] [] σ) {x1 : Int32} {x2 : Int32} {x3 : Int32} {σ : Mm} {r : Mm} (h : F_J7_fill_53178_le_14 rc5 x1 x2 x3 σ = some r) : Z m_J7_fill_53178 S (Qv r) 14 [(0, .ref (sL S 0 0 33)), (1, .int (x1)), (2, .int (x2)), (3, .int (x3))] [] σ := by
  unfold F_J7_fill_53178_le_14 at h
  refine z_iinc (j := 2) (v := x2 + 1) (lv' := [(0, .ref (sL S 0 0 33)), (1, .int (x1)), (2, .int (x2 + 1)), (3, .int (x3))]) dJ7_fill_53178_14 rfl rfl (by decide) [1, 2, 0, 3] rfl ?_
  refine z_goto (tgt := 5) dJ7_fill_53178_17 (by decide) ?_
  exact hrc5 h
def B_J7_fill_53178_le_5 (rc5 : Int32 → Int32 → Int32 → Mm → Option (Mm)) (x1 : Int32) (x2 : Int32) (x3 : Int32) (σ : Mm) : Option (Mm) := (if x3 ≤ x2 then some (σ) else (if inb x2 360 = true then (F_J7_fill_53178_le_14 rc5 x1 x2 x3 (setA σ 0 0 33 (upd (mA σ 0 0 33) x2.toNatClampNeg x1))) else none))
set_option maxRecDepth 20000 in
theorem zB_J7_fill_53178_le_5 {S : Shp} {rc5 : Int32 → Int32 → Int32 → Mm → Option (Mm)} (hrc5 : ∀ {x1 : Int32} {x2 : Int32} {x3 : Int32} {σ : Mm} {r : Mm}, rc5 x1 x2 x3 σ = some r → Z m_J7_fill_53178 S (Qv r) 5 [(0, .ref (sL S 0 0 33)), (1, .int (x1)), (2, .int (x2)), (3, .int (x3))] [] σ) {x1 : Int32} {x2 : Int32} {x3 : Int32} {σ : Mm} {r : Mm} (h : B_J7_fill_53178_le_5 rc5 x1 x2 x3 σ = some r) : Z m_J7_fill_53178 S (Qv r) 5 [(0, .ref (sL S 0 0 33)), (1, .int (x1)), (2, .int (x2)), (3, .int (x3))] [] σ := by
  unfold B_J7_fill_53178_le_5 at h
  refine z_iload_n dJ7_fill_53178_5 rfl 2 rfl ?_
  refine z_iload_n dJ7_fill_53178_6 rfl 3 rfl ?_
  refine z_icmp_ge (tgt := 20) dJ7_fill_53178_7 (by decide) (fun q => ?_) (fun q => ?_)
  · have h := (if_pos q).symm.trans h
    cases h
    exact z_return dJ7_fill_53178_20 rfl ⟨rfl, rfl⟩
  · have h := (if_neg q).symm.trans h
    obtain ⟨g1, h⟩ := gd h
    refine z_aload_n dJ7_fill_53178_10 rfl 0 rfl ?_
    refine z_iload_n dJ7_fill_53178_11 rfl 2 rfl ?_
    refine z_iload_n dJ7_fill_53178_12 rfl 1 rfl ?_
    refine is_0_33 (inb_in g1) dJ7_fill_53178_13 ?_
    exact zb_J7_fill_53178_le_14 hrc5 h
def F_J7_fill_53178_le_5 : Nat → Int32 → Int32 → Int32 → Mm → Option (Mm)
  | 0 => fun _ _ _ _ => none
  | n + 1 => B_J7_fill_53178_le_5 (F_J7_fill_53178_le_5 n)
theorem zl_J7_fill_53178_le_5 {S : Shp} : ∀ (nn : Nat) {x1 : Int32} {x2 : Int32} {x3 : Int32} {σ : Mm} {r : Mm}, F_J7_fill_53178_le_5 nn x1 x2 x3 σ = some r → Z m_J7_fill_53178 S (Qv r) 5 [(0, .ref (sL S 0 0 33)), (1, .int (x1)), (2, .int (x2)), (3, .int (x3))] [] σ := by
  intro nn
  induction nn with
  | zero => intro x1 x2 x3 σ r h; cases h
  | succ nn ih => intro x1 x2 x3 σ r h; exact zB_J7_fill_53178_le_5 @ih h
def F_J7_fill_53178_le (x1 : Int32) (σ : Mm) : Option (Mm) := (F_J7_fill_53178_le_5 FU x1 0 360 σ)
set_option maxRecDepth 20000 in
theorem zb_J7_fill_53178_le {S : Shp} {x1 : Int32} {σ : Mm} {r : Mm} (h : F_J7_fill_53178_le x1 σ = some r) : Z m_J7_fill_53178 S (Qv r) 0 [(0, .ref (sL S 0 0 33)), (1, .int (x1))] [] σ := by
  unfold F_J7_fill_53178_le at h
  refine z_iconst (v := 0) dJ7_fill_53178_0 (by decide) ?_
  refine z_istore_n (lv' := [(0, .ref (sL S 0 0 33)), (1, .int (x1)), (2, .int (0))]) dJ7_fill_53178_1 rfl (by decide) [1, 2, 0] rfl ?_
  refine z_aload_n dJ7_fill_53178_2 rfl 0 rfl ?_
  refine z_alen (n0 := 360) (v := 360) rfl (fun _ _ => rfl) (by decide) dJ7_fill_53178_3 ?_
  refine z_istore_n (lv' := [(0, .ref (sL S 0 0 33)), (1, .int (x1)), (2, .int (0)), (3, .int (360))]) dJ7_fill_53178_4 rfl (by decide) [1, 2, 3, 0] rfl ?_
  exact zl_J7_fill_53178_le_5 FU h
/-- java/util/Arrays.fill([II)V -/
theorem c_J7_fill_53178_le {S : Shp} {x1 : Int32} {σ : Mm} {r : Mm} (h : F_J7_fill_53178_le x1 σ = some r) : Ct m_J7_fill_53178 S [.ref (sL S 0 0 33), .int (x1)] σ (Qv r) := Ct.of (by decide +kernel) (Nat.le_of_ble_eq_true rfl) (zb_J7_fill_53178_le h)
def F_J7_fill_53178_ta_14 (rc5 : Int32 → Int32 → Int32 → Mm → Option (Mm)) (x1 : Int32) (x2 : Int32) (x3 : Int32) (σ : Mm) : Option (Mm) := (rc5 x1 (x2 + 1) x3 σ)
set_option maxRecDepth 20000 in
theorem zb_J7_fill_53178_ta_14 {S : Shp} {rc5 : Int32 → Int32 → Int32 → Mm → Option (Mm)} (hrc5 : ∀ {x1 : Int32} {x2 : Int32} {x3 : Int32} {σ : Mm} {r : Mm}, rc5 x1 x2 x3 σ = some r → Z m_J7_fill_53178 S (Qv r) 5 [(0, .ref (sL S 0 0 34)), (1, .int (x1)), (2, .int (x2)), (3, .int (x3))] [] σ) {x1 : Int32} {x2 : Int32} {x3 : Int32} {σ : Mm} {r : Mm} (h : F_J7_fill_53178_ta_14 rc5 x1 x2 x3 σ = some r) : Z m_J7_fill_53178 S (Qv r) 14 [(0, .ref (sL S 0 0 34)), (1, .int (x1)), (2, .int (x2)), (3, .int (x3))] [] σ := by
  unfold F_J7_fill_53178_ta_14 at h
  refine z_iinc (j := 2) (v := x2 + 1) (lv' := [(0, .ref (sL S 0 0 34)), (1, .int (x1)), (2, .int (x2 + 1)), (3, .int (x3))]) dJ7_fill_53178_14 rfl rfl (by decide) [1, 2, 0, 3] rfl ?_
  refine z_goto (tgt := 5) dJ7_fill_53178_17 (by decide) ?_
  exact hrc5 h
def B_J7_fill_53178_ta_5 (rc5 : Int32 → Int32 → Int32 → Mm → Option (Mm)) (x1 : Int32) (x2 : Int32) (x3 : Int32) (σ : Mm) : Option (Mm) := (if x3 ≤ x2 then some (σ) else (if inb x2 184 = true then (F_J7_fill_53178_ta_14 rc5 x1 x2 x3 (setA σ 0 0 34 (upd (mA σ 0 0 34) x2.toNatClampNeg x1))) else none))
set_option maxRecDepth 20000 in
theorem zB_J7_fill_53178_ta_5 {S : Shp} {rc5 : Int32 → Int32 → Int32 → Mm → Option (Mm)} (hrc5 : ∀ {x1 : Int32} {x2 : Int32} {x3 : Int32} {σ : Mm} {r : Mm}, rc5 x1 x2 x3 σ = some r → Z m_J7_fill_53178 S (Qv r) 5 [(0, .ref (sL S 0 0 34)), (1, .int (x1)), (2, .int (x2)), (3, .int (x3))] [] σ) {x1 : Int32} {x2 : Int32} {x3 : Int32} {σ : Mm} {r : Mm} (h : B_J7_fill_53178_ta_5 rc5 x1 x2 x3 σ = some r) : Z m_J7_fill_53178 S (Qv r) 5 [(0, .ref (sL S 0 0 34)), (1, .int (x1)), (2, .int (x2)), (3, .int (x3))] [] σ := by
  unfold B_J7_fill_53178_ta_5 at h
  refine z_iload_n dJ7_fill_53178_5 rfl 2 rfl ?_
  refine z_iload_n dJ7_fill_53178_6 rfl 3 rfl ?_
  refine z_icmp_ge (tgt := 20) dJ7_fill_53178_7 (by decide) (fun q => ?_) (fun q => ?_)
  · have h := (if_pos q).symm.trans h
    cases h
    exact z_return dJ7_fill_53178_20 rfl ⟨rfl, rfl⟩
  · have h := (if_neg q).symm.trans h
    obtain ⟨g1, h⟩ := gd h
    refine z_aload_n dJ7_fill_53178_10 rfl 0 rfl ?_
    refine z_iload_n dJ7_fill_53178_11 rfl 2 rfl ?_
    refine z_iload_n dJ7_fill_53178_12 rfl 1 rfl ?_
    refine is_0_34 (inb_in g1) dJ7_fill_53178_13 ?_
    exact zb_J7_fill_53178_ta_14 hrc5 h
def F_J7_fill_53178_ta_5 : Nat → Int32 → Int32 → Int32 → Mm → Option (Mm)
  | 0 => fun _ _ _ _ => none
  | n + 1 => B_J7_fill_53178_ta_5 (F_J7_fill_53178_ta_5 n)
theorem zl_J7_fill_53178_ta_5 {S : Shp} : ∀ (nn : Nat) {x1 : Int32} {x2 : Int32} {x3 : Int32} {σ : Mm} {r : Mm}, F_J7_fill_53178_ta_5 nn x1 x2 x3 σ = some r → Z m_J7_fill_53178 S (Qv r) 5 [(0, .ref (sL S 0 0 34)), (1, .int (x1)), (2, .int (x2)), (3, .int (x3))] [] σ := by
  intro nn
  induction nn with
  | zero => intro x1 x2 x3 σ r h; cases h
  | succ nn ih => intro x1 x2 x3 σ r h; exact zB_J7_fill_53178_ta_5 @ih h
def F_J7_fill_53178_ta (x1 : Int32) (σ : Mm) : Option (Mm) := (F_J7_fill_53178_ta_5 FU x1 0 184 σ)
set_option maxRecDepth 20000 in
theorem zb_J7_fill_53178_ta {S : Shp} {x1 : Int32} {σ : Mm} {r : Mm} (h : F_J7_fill_53178_ta x1 σ = some r) : Z m_J7_fill_53178 S (Qv r) 0 [(0, .ref (sL S 0 0 34)), (1, .int (x1))] [] σ := by
  unfold F_J7_fill_53178_ta at h
  refine z_iconst (v := 0) dJ7_fill_53178_0 (by decide) ?_
  refine z_istore_n (lv' := [(0, .ref (sL S 0 0 34)), (1, .int (x1)), (2, .int (0))]) dJ7_fill_53178_1 rfl (by decide) [1, 2, 0] rfl ?_
  refine z_aload_n dJ7_fill_53178_2 rfl 0 rfl ?_
  refine z_alen (n0 := 184) (v := 184) rfl (fun _ _ => rfl) (by decide) dJ7_fill_53178_3 ?_
  refine z_istore_n (lv' := [(0, .ref (sL S 0 0 34)), (1, .int (x1)), (2, .int (0)), (3, .int (184))]) dJ7_fill_53178_4 rfl (by decide) [1, 2, 3, 0] rfl ?_
  exact zl_J7_fill_53178_ta_5 FU h
/-- java/util/Arrays.fill([II)V -/
theorem c_J7_fill_53178_ta {S : Shp} {x1 : Int32} {σ : Mm} {r : Mm} (h : F_J7_fill_53178_ta x1 σ = some r) : Ct m_J7_fill_53178 S [.ref (sL S 0 0 34), .int (x1)] σ (Qv r) := Ct.of (by decide +kernel) (Nat.le_of_ble_eq_true rfl) (zb_J7_fill_53178_ta h)
def F_J7_fill_53178_jo_14 (rc5 : Int32 → Int32 → Int32 → Mm → Option (Mm)) (x1 : Int32) (x2 : Int32) (x3 : Int32) (σ : Mm) : Option (Mm) := (rc5 x1 (x2 + 1) x3 σ)
set_option maxRecDepth 20000 in
theorem zb_J7_fill_53178_jo_14 {S : Shp} {rc5 : Int32 → Int32 → Int32 → Mm → Option (Mm)} (hrc5 : ∀ {x1 : Int32} {x2 : Int32} {x3 : Int32} {σ : Mm} {r : Mm}, rc5 x1 x2 x3 σ = some r → Z m_J7_fill_53178 S (Qv r) 5 [(0, .ref (sL S 0 0 38)), (1, .int (x1)), (2, .int (x2)), (3, .int (x3))] [] σ) {x1 : Int32} {x2 : Int32} {x3 : Int32} {σ : Mm} {r : Mm} (h : F_J7_fill_53178_jo_14 rc5 x1 x2 x3 σ = some r) : Z m_J7_fill_53178 S (Qv r) 14 [(0, .ref (sL S 0 0 38)), (1, .int (x1)), (2, .int (x2)), (3, .int (x3))] [] σ := by
  unfold F_J7_fill_53178_jo_14 at h
  refine z_iinc (j := 2) (v := x2 + 1) (lv' := [(0, .ref (sL S 0 0 38)), (1, .int (x1)), (2, .int (x2 + 1)), (3, .int (x3))]) dJ7_fill_53178_14 rfl rfl (by decide) [1, 2, 0, 3] rfl ?_
  refine z_goto (tgt := 5) dJ7_fill_53178_17 (by decide) ?_
  exact hrc5 h
def B_J7_fill_53178_jo_5 (rc5 : Int32 → Int32 → Int32 → Mm → Option (Mm)) (x1 : Int32) (x2 : Int32) (x3 : Int32) (σ : Mm) : Option (Mm) := (if x3 ≤ x2 then some (σ) else (if inb x2 14 = true then (F_J7_fill_53178_jo_14 rc5 x1 x2 x3 (setA σ 0 0 38 (upd (mA σ 0 0 38) x2.toNatClampNeg x1))) else none))
set_option maxRecDepth 20000 in
theorem zB_J7_fill_53178_jo_5 {S : Shp} {rc5 : Int32 → Int32 → Int32 → Mm → Option (Mm)} (hrc5 : ∀ {x1 : Int32} {x2 : Int32} {x3 : Int32} {σ : Mm} {r : Mm}, rc5 x1 x2 x3 σ = some r → Z m_J7_fill_53178 S (Qv r) 5 [(0, .ref (sL S 0 0 38)), (1, .int (x1)), (2, .int (x2)), (3, .int (x3))] [] σ) {x1 : Int32} {x2 : Int32} {x3 : Int32} {σ : Mm} {r : Mm} (h : B_J7_fill_53178_jo_5 rc5 x1 x2 x3 σ = some r) : Z m_J7_fill_53178 S (Qv r) 5 [(0, .ref (sL S 0 0 38)), (1, .int (x1)), (2, .int (x2)), (3, .int (x3))] [] σ := by
  unfold B_J7_fill_53178_jo_5 at h
  refine z_iload_n dJ7_fill_53178_5 rfl 2 rfl ?_
  refine z_iload_n dJ7_fill_53178_6 rfl 3 rfl ?_
  refine z_icmp_ge (tgt := 20) dJ7_fill_53178_7 (by decide) (fun q => ?_) (fun q => ?_)
  · have h := (if_pos q).symm.trans h
    cases h
    exact z_return dJ7_fill_53178_20 rfl ⟨rfl, rfl⟩
  · have h := (if_neg q).symm.trans h
    obtain ⟨g1, h⟩ := gd h
    refine z_aload_n dJ7_fill_53178_10 rfl 0 rfl ?_
    refine z_iload_n dJ7_fill_53178_11 rfl 2 rfl ?_
    refine z_iload_n dJ7_fill_53178_12 rfl 1 rfl ?_
    refine is_0_38 (inb_in g1) dJ7_fill_53178_13 ?_
    exact zb_J7_fill_53178_jo_14 hrc5 h
def F_J7_fill_53178_jo_5 : Nat → Int32 → Int32 → Int32 → Mm → Option (Mm)
  | 0 => fun _ _ _ _ => none
  | n + 1 => B_J7_fill_53178_jo_5 (F_J7_fill_53178_jo_5 n)
theorem zl_J7_fill_53178_jo_5 {S : Shp} : ∀ (nn : Nat) {x1 : Int32} {x2 : Int32} {x3 : Int32} {σ : Mm} {r : Mm}, F_J7_fill_53178_jo_5 nn x1 x2 x3 σ = some r → Z m_J7_fill_53178 S (Qv r) 5 [(0, .ref (sL S 0 0 38)), (1, .int (x1)), (2, .int (x2)), (3, .int (x3))] [] σ := by
  intro nn
  induction nn with
  | zero => intro x1 x2 x3 σ r h; cases h
  | succ nn ih => intro x1 x2 x3 σ r h; exact zB_J7_fill_53178_jo_5 @ih h
def F_J7_fill_53178_jo (x1 : Int32) (σ : Mm) : Option (Mm) := (F_J7_fill_53178_jo_5 FU x1 0 14 σ)
set_option maxRecDepth 20000 in
theorem zb_J7_fill_53178_jo {S : Shp} {x1 : Int32} {σ : Mm} {r : Mm} (h : F_J7_fill_53178_jo x1 σ = some r) : Z m_J7_fill_53178 S (Qv r) 0 [(0, .ref (sL S 0 0 38)), (1, .int (x1))] [] σ := by
  unfold F_J7_fill_53178_jo at h
  refine z_iconst (v := 0) dJ7_fill_53178_0 (by decide) ?_
  refine z_istore_n (lv' := [(0, .ref (sL S 0 0 38)), (1, .int (x1)), (2, .int (0))]) dJ7_fill_53178_1 rfl (by decide) [1, 2, 0] rfl ?_
  refine z_aload_n dJ7_fill_53178_2 rfl 0 rfl ?_
  refine z_alen (n0 := 14) (v := 14) rfl (fun _ _ => rfl) (by decide) dJ7_fill_53178_3 ?_
  refine z_istore_n (lv' := [(0, .ref (sL S 0 0 38)), (1, .int (x1)), (2, .int (0)), (3, .int (14))]) dJ7_fill_53178_4 rfl (by decide) [1, 2, 3, 0] rfl ?_
  exact zl_J7_fill_53178_jo_5 FU h
/-- java/util/Arrays.fill([II)V -/
theorem c_J7_fill_53178_jo {S : Shp} {x1 : Int32} {σ : Mm} {r : Mm} (h : F_J7_fill_53178_jo x1 σ = some r) : Ct m_J7_fill_53178 S [.ref (sL S 0 0 38), .int (x1)] σ (Qv r) := Ct.of (by decide +kernel) (Nat.le_of_ble_eq_true rfl) (zb_J7_fill_53178_jo h)
def F_J7_fill_53178_df_14 (rc5 : Nat → Int32 → Int32 → Int32 → Mm → Option (Mm)) (i0 : Nat) (x1 : Int32) (x2 : Int32) (x3 : Int32) (σ : Mm) : Option (Mm) := (rc5 i0 x1 (x2 + 1) x3 σ)
set_option maxRecDepth 20000 in
theorem zb_J7_fill_53178_df_14 {S : Shp} {rc5 : Nat → Int32 → Int32 → Int32 → Mm → Option (Mm)} (hrc5 : ∀ {i0 : Nat} (hi0 : tlv (sH S) i0 = true) {x1 : Int32} {x2 : Int32} {x3 : Int32} {σ : Mm} {r : Mm}, rc5 i0 x1 x2 x3 σ = some r → Z m_J7_fill_53178 S (Qv r) 5 [(0, .ref (sL S 1 i0 5)), (1, .int (x1)), (2, .int (x2)), (3, .int (x3))] [] σ) {i0 : Nat} (hi0 : tlv (sH S) i0 = true) {x1 : Int32} {x2 : Int32} {x3 : Int32} {σ : Mm} {r : Mm} (h : F_J7_fill_53178_df_14 rc5 i0 x1 x2 x3 σ = some r) : Z m_J7_fill_53178 S (Qv r) 14 [(0, .ref (sL S 1 i0 5)), (1, .int (x1)), (2, .int (x2)), (3, .int (x3))] [] σ := by
  unfold F_J7_fill_53178_df_14 at h
  refine z_iinc (j := 2) (v := x2 + 1) (lv' := [(0, .ref (sL S 1 i0 5)), (1, .int (x1)), (2, .int (x2 + 1)), (3, .int (x3))]) dJ7_fill_53178_14 rfl rfl (by decide) [1, 2, 0, 3] rfl ?_
  refine z_goto (tgt := 5) dJ7_fill_53178_17 (by decide) ?_
  exact hrc5 (hi0) h
def B_J7_fill_53178_df_5 (rc5 : Nat → Int32 → Int32 → Int32 → Mm → Option (Mm)) (i0 : Nat) (x1 : Int32) (x2 : Int32) (x3 : Int32) (σ : Mm) : Option (Mm) := (if x3 ≤ x2 then some (σ) else (if inb x2 14 = true then (F_J7_fill_53178_df_14 rc5 i0 x1 x2 x3 (setA σ 1 i0 5 (upd (mA σ 1 i0 5) x2.toNatClampNeg x1))) else none))
set_option maxRecDepth 20000 in
theorem zB_J7_fill_53178_df_5 {S : Shp} {rc5 : Nat → Int32 → Int32 → Int32 → Mm → Option (Mm)} (hrc5 : ∀ {i0 : Nat} (hi0 : tlv (sH S) i0 = true) {x1 : Int32} {x2 : Int32} {x3 : Int32} {σ : Mm} {r : Mm}, rc5 i0 x1 x2 x3 σ = some r → Z m_J7_fill_53178 S (Qv r) 5 [(0, .ref (sL S 1 i0 5)), (1, .int (x1)), (2, .int (x2)), (3, .int (x3))] [] σ) {i0 : Nat} (hi0 : tlv (sH S) i0 = true) {x1 : Int32} {x2 : Int32} {x3 : Int32} {σ : Mm} {r : Mm} (h : B_J7_fill_53178_df_5 rc5 i0 x1 x2 x3 σ = some r) : Z m_J7_fill_53178 S (Qv r) 5 [(0, .ref (sL S 1 i0 5)), (1, .int (x1)), (2, .int (x2)), (3, .int (x3))] [] σ := by
  unfold B_J7_fill_53178_df_5 at h
  refine z_iload_n dJ7_fill_53178_5 rfl 2 rfl ?_
  refine z_iload_n dJ7_fill_53178_6 rfl 3 rfl ?_
  refine z_icmp_ge (tgt := 20) dJ7_fill_53178_7 (by decide) (fun q => ?_) (fun q => ?_)
  · have h := (if_pos q).symm.trans h
    cases h
    exact z_return dJ7_fill_53178_20 rfl ⟨rfl, rfl⟩
  · have h := (if_neg q).symm.trans h
    obtain ⟨g1, h⟩ := gd h
    refine z_aload_n dJ7_fill_53178_10 rfl 0 rfl ?_
    refine z_iload_n dJ7_fill_53178_11 rfl 2 rfl ?_
    refine z_iload_n dJ7_fill_53178_12 rfl 1 rfl ?_
    refine is_1_5 (lv1 (hi0) rfl) (inb_in g1) dJ7_fill_53178_13 ?_
    exact zb_J7_fill_53178_df_14 hrc5 (hi0) h
def F_J7_fill_53178_df_5 : Nat → Nat → Int32 → Int32 → Int32 → Mm → Option (Mm)
  | 0 => fun _ _ _ _ _ => none
  | n + 1 => B_J7_fill_53178_df_5 (F_J7_fill_53178_df_5 n)
theorem zl_J7_fill_53178_df_5 {S : Shp} : ∀ (nn : Nat) {i0 : Nat} (hi0 : tlv (sH S) i0 = true) {x1 : Int32} {x2 : Int32} {x3 : Int32} {σ : Mm} {r : Mm}, F_J7_fill_53178_df_5 nn i0 x1 x2 x3 σ = some r → Z m_J7_fill_53178 S (Qv r) 5 [(0, .ref (sL S 1 i0 5)), (1, .int (x1)), (2, .int (x2)), (3, .int (x3))] [] σ := by
  intro nn
  induction nn with
  | zero => intro i0 hi0 x1 x2 x3 σ r h; cases h
  | succ nn ih => intro i0 hi0 x1 x2 x3 σ r h; exact zB_J7_fill_53178_df_5 @ih hi0 h
def F_J7_fill_53178_df (i0 : Nat) (x1 : Int32) (σ : Mm) : Option (Mm) := (F_J7_fill_53178_df_5 FU i0 x1 0 14 σ)
set_option maxRecDepth 20000 in
theorem zb_J7_fill_53178_df {S : Shp} {i0 : Nat} (hi0 : tlv (sH S) i0 = true) {x1 : Int32} {σ : Mm} {r : Mm} (h : F_J7_fill_53178_df i0 x1 σ = some r) : Z m_J7_fill_53178 S (Qv r) 0 [(0, .ref (sL S 1 i0 5)), (1, .int (x1))] [] σ := by
  unfold F_J7_fill_53178_df at h
  refine z_iconst (v := 0) dJ7_fill_53178_0 (by decide) ?_
  refine z_istore_n (lv' := [(0, .ref (sL S 1 i0 5)), (1, .int (x1)), (2, .int (0))]) dJ7_fill_53178_1 rfl (by decide) [1, 2, 0] rfl ?_
  refine z_aload_n dJ7_fill_53178_2 rfl 0 rfl ?_
  refine z_alen (n0 := 14) (v := 14) (lv1 (hi0) rfl) (fun _ _ => rfl) (by decide) dJ7_fill_53178_3 ?_
  refine z_istore_n (lv' := [(0, .ref (sL S 1 i0 5)), (1, .int (x1)), (2, .int (0)), (3, .int (14))]) dJ7_fill_53178_4 rfl (by decide) [1, 2, 3, 0] rfl ?_
  exact zl_J7_fill_53178_df_5 FU (hi0) h
/-- java/util/Arrays.fill([II)V -/
theorem c_J7_fill_53178_df {S : Shp} {i0 : Nat} (hi0 : tlv (sH S) i0 = true) {x1 : Int32} {σ : Mm} {r : Mm} (h : F_J7_fill_53178_df i0 x1 σ = some r) : Ct m_J7_fill_53178 S [.ref (sL S 1 i0 5), .int (x1)] σ (Qv r) := Ct.of (by decide +kernel) (Nat.le_of_ble_eq_true rfl) (zb_J7_fill_53178_df hi0 h)
def f_J9_abs_0f7a4 (x0 : Int32) : Int32 := (if 0 ≤ x0 then x0 else -x0)
set_option maxRecDepth 20000 in
theorem zb_J9_abs_0f7a4 {S : Shp} {x0 : Int32} {σ : Mm} {r : Int32} (h : f_J9_abs_0f7a4 x0 = r) : Z m_J9_abs_0f7a4 S (Qi (r, σ)) 0 [(0, .int (x0))] [] σ := by
  unfold f_J9_abs_0f7a4 at h
  refine z_iload_n dJ9_abs_0f7a4_0 rfl 0 rfl ?_
  refine z_if_ge (tgt := 9) dJ9_abs_0f7a4_1 (by decide) (fun q => ?_) (fun q => ?_)
  · have h := (if_pos q).symm.trans h
    refine z_iload_n dJ9_abs_0f7a4_9 rfl 0 rfl ?_
    subst h
    exact z_ireturn dJ9_abs_0f7a4_10 rfl rfl ⟨rfl, rfl⟩
  · have h := (if_neg q).symm.trans h
    refine z_iload_n dJ9_abs_0f7a4_4 rfl 0 rfl ?_
    refine z_ineg dJ9_abs_0f7a4_5 ?_
    refine z_goto (tgt := 10) dJ9_abs_0f7a4_6 (by decide) ?_
    subst h
    exact z_ireturn dJ9_abs_0f7a4_10 rfl rfl ⟨rfl, rfl⟩
/-- java/lang/Math.abs(I)I -/
theorem c_J9_abs_0f7a4 {S : Shp} {x0 : Int32} {σ : Mm} {r : Int32} (h : f_J9_abs_0f7a4 x0 = r) : Ct m_J9_abs_0f7a4 S [.int (x0)] σ (Qi (r, σ)) := Ct.of (by decide +kernel) (Nat.le_of_ble_eq_true rfl) (zb_J9_abs_0f7a4 h)
def F_J9_floorMod_7cf53 (x0 : Int32) (x1 : Int32) (σ : Mm) : Option (Int32 × Mm) := (if ¬ x1 = 0 then (if 0 ≤ (x0 ^^^ x1) then some (x0 - x0 / x1 * x1, σ) else (if (x0 - x0 / x1 * x1) = 0 then some (x0 - x0 / x1 * x1, σ) else some ((x0 - x0 / x1 * x1) + x1, σ))) else none)
set_option maxRecDepth 20000 in
theorem zb_J9_floorMod_7cf53 {S : Shp} {x0 : Int32} {x1 : Int32} {σ : Mm} {r : Int32 × Mm} (h : F_J9_floorMod_7cf53 x0 x1 σ = some r) : Z m_J9_floorMod_7cf53 S (Qi r) 0 [(0, .int (x0)), (1, .int (x1))] [] σ := by
  unfold F_J9_floorMod_7cf53 at h
  obtain ⟨g1, h⟩ := gd h
  refine z_iload_n dJ9_floorMod_7cf53_0 rfl 0 rfl ?_
  refine z_iload_n dJ9_floorMod_7cf53_1 rfl 1 rfl ?_
  refine z_irem dJ9_floorMod_7cf53_2 g1 ?_
  refine z_istore_n (lv' := [(0, .int (x0)), (1, .int (x1)), (2, .int (x0 - x0 / x1 * x1))]) dJ9_floorMod_7cf53_3 rfl (by decide) [1, 2, 0] rfl ?_
  refine z_iload_n dJ9_floorMod_7cf53_4 rfl 0 rfl ?_
  refine z_iload_n dJ9_floorMod_7cf53_5 rfl 1 rfl ?_
  refine z_ixor dJ9_floorMod_7cf53_6 ?_
  refine z_if_ge (tgt := 18) dJ9_floorMod_7cf53_7 (by decide) (fun q => ?_) (fun q => ?_)
  · have h := (if_pos q).symm.trans h
    refine z_iload_n dJ9_floorMod_7cf53_18 rfl 2 rfl ?_
    cases h
    exact z_ireturn dJ9_floorMod_7cf53_19 rfl rfl ⟨rfl, rfl⟩
  · have h := (if_neg q).symm.trans h
    refine z_iload_n dJ9_floorMod_7cf53_10 rfl 2 rfl ?_
    refine z_if_eq (tgt := 18) dJ9_floorMod_7cf53_11 (by decide) (fun q => ?_) (fun q => ?_)
    · have h := (if_pos q).symm.trans h
      refine z_iload_n dJ9_floorMod_7cf53_18 rfl 2 rfl ?_
      cases h
      exact z_ireturn dJ9_floorMod_7cf53_19 rfl rfl ⟨rfl, rfl⟩
    · have h := (if_neg q).symm.trans h
      refine z_iload_n dJ9_floorMod_7cf53_14 rfl 2 rfl ?_
      refine z_iload_n dJ9_floorMod_7cf53_15 rfl 1 rfl ?_
      refine z_iadd dJ9_floorMod_7cf53_16 ?_
      cases h
      exact z_ireturn dJ9_floorMod_7cf53_17 rfl rfl ⟨rfl, rfl⟩
/-- java/lang/Math.floorMod(II)I -/
theorem c_J9_floorMod_7cf53 {S : Shp} {x0 : Int32} {x1 : Int32} {σ : Mm} {r : Int32 × Mm} (h : F_J9_floorMod_7cf53 x0 x1 σ = some r) : Ct m_J9_floorMod_7cf53 S [.int (x0), .int (x1)] σ (Qi r) := Ct.of (by decide +kernel) (Nat.le_of_ble_eq_true rfl) (zb_J9_floorMod_7cf53 h)
def f_J9_max_7cf53 (x0 : Int32) (x1 : Int32) : Int32 := (if x0 < x1 then x1 else x0)
set_option maxRecDepth 20000 in
theorem zb_J9_max_7cf53 {S : Shp} {x0 : Int32} {x1 : Int32} {σ : Mm} {r : Int32} (h : f_J9_max_7cf53 x0 x1 = r) : Z m_J9_max_7cf53 S (Qi (r, σ)) 0 [(0, .int (x0)), (1, .int (x1))] [] σ := by
  unfold f_J9_max_7cf53 at h
  refine z_iload_n dJ9_max_7cf53_0 rfl 0 rfl ?_
  refine z_iload_n dJ9_max_7cf53_1 rfl 1 rfl ?_
  refine z_icmp_lt (tgt := 9) dJ9_max_7cf53_2 (by decide) (fun q => ?_) (fun q => ?_)
  · have h := (if_pos q).symm.trans h
    refine z_iload_n dJ9_max_7cf53_9 rfl 1 rfl ?_
    subst h
    exact z_ireturn dJ9_max_7cf53_10 rfl rfl ⟨rfl, rfl⟩
  · have h := (if_neg q).symm.trans h
    refine z_iload_n dJ9_max_7cf53_5 rfl 0 rfl ?_
    refine z_goto (tgt := 10) dJ9_max_7cf53_6 (by decide) ?_
    subst h
    exact z_ireturn dJ9_max_7cf53_10 rfl rfl ⟨rfl, rfl⟩
/-- java/lang/Math.max(II)I -/
theorem c_J9_max_7cf53 {S : Shp} {x0 : Int32} {x1 : Int32} {σ : Mm} {r : Int32} (h : f_J9_max_7cf53 x0 x1 = r) : Ct m_J9_max_7cf53 S [.int (x0), .int (x1)] σ (Qi (r, σ)) := Ct.of (by decide +kernel) (Nat.le_of_ble_eq_true rfl) (zb_J9_max_7cf53 h)
def f_J9_min_7cf53 (x0 : Int32) (x1 : Int32) : Int32 := (if x1 < x0 then x1 else x0)
set_option maxRecDepth 20000 in
theorem zb_J9_min_7cf53 {S : Shp} {x0 : Int32} {x1 : Int32} {σ : Mm} {r : Int32} (h : f_J9_min_7cf53 x0 x1 = r) : Z m_J9_min_7cf53 S (Qi (r, σ)) 0 [(0, .int (x0)), (1, .int (x1))] [] σ := by
  unfold f_J9_min_7cf53 at h
  refine z_iload_n dJ9_min_7cf53_0 rfl 0 rfl ?_
  refine z_iload_n dJ9_min_7cf53_1 rfl 1 rfl ?_
  refine z_icmp_gt (tgt := 9) dJ9_min_7cf53_2 (by decide) (fun q => ?_) (fun q => ?_)
  · have h := (if_pos q).symm.trans h
    refine z_iload_n dJ9_min_7cf53_9 rfl 1 rfl ?_
    subst h
    exact z_ireturn dJ9_min_7cf53_10 rfl rfl ⟨rfl, rfl⟩
  · have h := (if_neg q).symm.trans h
    refine z_iload_n dJ9_min_7cf53_5 rfl 0 rfl ?_
    refine z_goto (tgt := 10) dJ9_min_7cf53_6 (by decide) ?_
    subst h
    exact z_ireturn dJ9_min_7cf53_10 rfl rfl ⟨rfl, rfl⟩
/-- java/lang/Math.min(II)I -/
theorem c_J9_min_7cf53 {S : Shp} {x0 : Int32} {x1 : Int32} {σ : Mm} {r : Int32} (h : f_J9_min_7cf53 x0 x1 = r) : Ct m_J9_min_7cf53 S [.int (x0), .int (x1)] σ (Qi (r, σ)) := Ct.of (by decide +kernel) (Nat.le_of_ble_eq_true rfl) (zb_J9_min_7cf53 h)
def F_X0_close (i0 : Nat) (x1 : Int32) (σ : Mm) : Option (Mm) := (if x1 < 0 then some (σ) else (if (11 : Int32) ≤ x1 then some (σ) else (if inb x1 11 = true then some (setA σ 1 i0 14 (upd (mA σ 1 i0 14) x1.toNatClampNeg (mA σ 1 i0 10 0))) else none)))
set_option maxRecDepth 20000 in
theorem zb_X0_close {S : Shp} {i0 : Nat} (hi0 : tlv (sH S) i0 = true) {x1 : Int32} {σ : Mm} {r : Mm} (h : F_X0_close i0 x1 σ = some r) : Z m_X0_close S (Qv r) 0 [(0, .ref (sL S 1 i0 10)), (1, .int (x1))] [] σ := by
  unfold F_X0_close at h
  refine z_iload_n dX0_close_0 rfl 1 rfl ?_
  refine z_if_lt (tgt := 20) dX0_close_1 (by decide) (fun q => ?_) (fun q => ?_)
  · have h := (if_pos q).symm.trans h
    cases h
    exact z_return dX0_close_20 rfl ⟨rfl, rfl⟩
  · have h := (if_neg q).symm.trans h
    refine z_iload_n dX0_close_4 rfl 1 rfl ?_
    refine z_bipush (v := 11) dX0_close_5 (by decide) ?_
    refine z_icmp_ge (tgt := 20) dX0_close_7 (by decide) (fun q => ?_) (fun q => ?_)
    · have h := (if_pos q).symm.trans h
      cases h
      exact z_return dX0_close_20 rfl ⟨rfl, rfl⟩
    · have h := (if_neg q).symm.trans h
      obtain ⟨g1, h⟩ := gd h
      refine z_aload_n dX0_close_10 rfl 0 rfl ?_
      refine gf_0_25 (lv1 (hi0) rfl) rfl dX0_close_11 ?_
      refine z_iload_n dX0_close_14 rfl 1 rfl ?_
      refine z_aload_n dX0_close_15 rfl 0 rfl ?_
      refine gf_0_9 (lv1 (hi0) rfl) rfl dX0_close_16 ?_
      refine is_1_14 (lv1 (hi0) rfl) (inb_in g1) dX0_close_19 ?_
      cases h
      exact z_return dX0_close_20 rfl ⟨rfl, rfl⟩
/-- SkyStones$Code.close(I)V -/
theorem c_X0_close {S : Shp} {i0 : Nat} (hi0 : tlv (sH S) i0 = true) {x1 : Int32} {σ : Mm} {r : Mm} (h : F_X0_close i0 x1 σ = some r) : Ct m_X0_close S [.ref (sL S 1 i0 10), .int (x1)] σ (Qv r) := Ct.of (by decide +kernel) (Nat.le_of_ble_eq_true rfl) (zb_X0_close hi0 h)
def F_X0_compared_120 (x4 : Int32) (σ : Mm) : Option (Int32 × Mm) := (if x4 = 0 then some (0, σ) else some (1, σ))
set_option maxRecDepth 20000 in
theorem zb_X0_compared_120 {S : Shp} {x4 : Int32} {σ : Mm} {r : Int32 × Mm} (h : F_X0_compared_120 x4 σ = some r) : Z m_X0_compared S (Qi r) 120 [(4, .int (x4))] [] σ := by
  unfold F_X0_compared_120 at h
  refine z_iload dX0_compared_120 0 rfl ?_
  refine z_if_eq (tgt := 129) dX0_compared_122 (by decide) (fun q => ?_) (fun q => ?_)
  · have h := (if_pos q).symm.trans h
    refine z_iconst (v := 0) dX0_compared_129 (by decide) ?_
    cases h
    exact z_ireturn dX0_compared_130 rfl rfl ⟨rfl, rfl⟩
  · have h := (if_neg q).symm.trans h
    refine z_iconst (v := 1) dX0_compared_125 (by decide) ?_
    refine z_goto (tgt := 130) dX0_compared_126 (by decide) ?_
    cases h
    exact z_ireturn dX0_compared_130 rfl rfl ⟨rfl, rfl⟩
def F_X0_compared_113 (i0 : Nat) (s0 : Int32) (σ : Mm) : Option (Int32 × Mm) := (F_X0_compared_120 s0 (setA σ 1 i0 10 (upd (mA σ 1 i0 10) 6 0)))
set_option maxRecDepth 20000 in
theorem zb_X0_compared_113 {S : Shp} {i0 : Nat} (hi0 : tlv (sH S) i0 = true) {s0 : Int32} {σ : Mm} {r : Int32 × Mm} (h : F_X0_compared_113 i0 s0 σ = some r) : Z m_X0_compared S (Qi r) 113 [(0, .ref (sL S 1 i0 10))] [.int (s0)] σ := by
  unfold F_X0_compared_113 at h
  refine z_istore (lv' := [(0, .ref (sL S 1 i0 10)), (4, .int (s0))]) dX0_compared_113 (by decide) [1, 0] rfl ?_
  refine z_aload_n dX0_compared_115 rfl 0 rfl ?_
  refine z_iconst (v := 0) dX0_compared_116 (by decide) ?_
  refine pf_0_31 (lv1 (hi0) rfl) rfl dX0_compared_117 rfl rfl ?_
  refine Z.lv [1] rfl ?_
  exact zb_X0_compared_120 h
def F_X0_compared_112 (i0 : Nat) (σ : Mm) : Option (Int32 × Mm) := (F_X0_compared_113 i0 0 σ)
set_option maxRecDepth 20000 in
theorem zb_X0_compared_112 {S : Shp} {i0 : Nat} (hi0 : tlv (sH S) i0 = true) {σ : Mm} {r : Int32 × Mm} (h : F_X0_compared_112 i0 σ = some r) : Z m_X0_compared S (Qi r) 112 [(0, .ref (sL S 1 i0 10))] [] σ := by
  unfold F_X0_compared_112 at h
  refine z_iconst (v := 0) dX0_compared_112 (by decide) ?_
  exact zb_X0_compared_113 (hi0) h
def F_X0_compared_96 (i0 : Nat) (x4 : Int32) (σ : Mm) : Option (Int32 × Mm) := (if x4 = 0 then (F_X0_compared_112 i0 σ) else (if (mA σ 1 i0 10 6) = 0 then (F_X0_compared_113 i0 1 σ) else (F_X0_compared_112 i0 σ)))
set_option maxRecDepth 20000 in
theorem zb_X0_compared_96 {S : Shp} {i0 : Nat} (hi0 : tlv (sH S) i0 = true) {x4 : Int32} {σ : Mm} {r : Int32 × Mm} (h : F_X0_compared_96 i0 x4 σ = some r) : Z m_X0_compared S (Qi r) 96 [(0, .ref (sL S 1 i0 10)), (4, .int (x4))] [] σ := by
  unfold F_X0_compared_96 at h
  refine z_iload dX0_compared_96 1 rfl ?_
  refine z_if_eq (tgt := 112) dX0_compared_98 (by decide) (fun q => ?_) (fun q => ?_)
  · have h := (if_pos q).symm.trans h
    refine Z.lv [0] rfl ?_
    exact zb_X0_compared_112 (hi0) h
  · have h := (if_neg q).symm.trans h
    refine z_aload_n dX0_compared_101 rfl 0 rfl ?_
    refine gf_0_31 (lv1 (hi0) rfl) rfl dX0_compared_102 ?_
    refine z_if_ne (tgt := 112) dX0_compared_105 (by decide) (fun q => ?_) (fun q => ?_)
    · have h := (if_neg q).symm.trans h
      refine Z.lv [0] rfl ?_
      exact zb_X0_compared_112 (hi0) h
    · have h := (if_pos q).symm.trans h
      refine z_iconst (v := 1) dX0_compared_108 (by decide) ?_
      refine z_goto (tgt := 113) dX0_compared_109 (by decide) ?_
      refine Z.lv [0] rfl ?_
      exact zb_X0_compared_113 (hi0) h
def F_X0_compared_46 (i0 : Nat) (s0 : Int32) (σ : Mm) : Option (Int32 × Mm) := (F_X0_compared_96 i0 s0 σ)
set_option maxRecDepth 20000 in
theorem zb_X0_compared_46 {S : Shp} {i0 : Nat} (hi0 : tlv (sH S) i0 = true) {s0 : Int32} {σ : Mm} {r : Int32 × Mm} (h : F_X0_compared_46 i0 s0 σ = some r) : Z m_X0_compared S (Qi r) 46 [(0, .ref (sL S 1 i0 10))] [.int (s0)] σ := by
  unfold F_X0_compared_46 at h
  refine z_istore (lv' := [(0, .ref (sL S 1 i0 10)), (4, .int (s0))]) dX0_compared_46 (by decide) [1, 0] rfl ?_
  refine z_goto (tgt := 96) dX0_compared_48 (by decide) ?_
  exact zb_X0_compared_96 (hi0) h
def F_X0_compared_61 (i0 : Nat) (s0 : Int32) (σ : Mm) : Option (Int32 × Mm) := (F_X0_compared_96 i0 s0 σ)
set_option maxRecDepth 20000 in
theorem zb_X0_compared_61 {S : Shp} {i0 : Nat} (hi0 : tlv (sH S) i0 = true) {s0 : Int32} {σ : Mm} {r : Int32 × Mm} (h : F_X0_compared_61 i0 s0 σ = some r) : Z m_X0_compared S (Qi r) 61 [(0, .ref (sL S 1 i0 10))] [.int (s0)] σ := by
  unfold F_X0_compared_61 at h
  refine z_istore (lv' := [(0, .ref (sL S 1 i0 10)), (4, .int (s0))]) dX0_compared_61 (by decide) [1, 0] rfl ?_
  refine z_goto (tgt := 96) dX0_compared_63 (by decide) ?_
  exact zb_X0_compared_96 (hi0) h
def F_X0_compared_76 (i0 : Nat) (s0 : Int32) (σ : Mm) : Option (Int32 × Mm) := (F_X0_compared_96 i0 s0 σ)
set_option maxRecDepth 20000 in
theorem zb_X0_compared_76 {S : Shp} {i0 : Nat} (hi0 : tlv (sH S) i0 = true) {s0 : Int32} {σ : Mm} {r : Int32 × Mm} (h : F_X0_compared_76 i0 s0 σ = some r) : Z m_X0_compared S (Qi r) 76 [(0, .ref (sL S 1 i0 10))] [.int (s0)] σ := by
  unfold F_X0_compared_76 at h
  refine z_istore (lv' := [(0, .ref (sL S 1 i0 10)), (4, .int (s0))]) dX0_compared_76 (by decide) [1, 0] rfl ?_
  refine z_goto (tgt := 96) dX0_compared_78 (by decide) ?_
  exact zb_X0_compared_96 (hi0) h
def F_X0_compared_91 (i0 : Nat) (s0 : Int32) (σ : Mm) : Option (Int32 × Mm) := (F_X0_compared_96 i0 s0 σ)
set_option maxRecDepth 20000 in
theorem zb_X0_compared_91 {S : Shp} {i0 : Nat} (hi0 : tlv (sH S) i0 = true) {s0 : Int32} {σ : Mm} {r : Int32 × Mm} (h : F_X0_compared_91 i0 s0 σ = some r) : Z m_X0_compared S (Qi r) 91 [(0, .ref (sL S 1 i0 10))] [.int (s0)] σ := by
  unfold F_X0_compared_91 at h
  refine z_istore (lv' := [(0, .ref (sL S 1 i0 10)), (4, .int (s0))]) dX0_compared_91 (by decide) [1, 0] rfl ?_
  refine z_goto (tgt := 96) dX0_compared_93 (by decide) ?_
  exact zb_X0_compared_96 (hi0) h
def F_X0_compared (i0 : Nat) (x1 : Int32) (x2 : Int32) (x3 : Int32) (σ : Mm) : Option (Int32 × Mm) := (if x1 = 10 then (if x2 = x3 then (F_X0_compared_46 i0 1 σ) else (F_X0_compared_46 i0 0 σ)) else (if x1 = 11 then (if x2 = x3 then (F_X0_compared_61 i0 0 σ) else (F_X0_compared_61 i0 1 σ)) else (if x1 = 12 then (if x3 ≤ x2 then (F_X0_compared_76 i0 0 σ) else (F_X0_compared_76 i0 1 σ)) else (if x1 = 13 then (if x3 < x2 then (F_X0_compared_91 i0 0 σ) else (F_X0_compared_91 i0 1 σ)) else (F_X0_compared_96 i0 0 σ)))))
set_option maxRecDepth 20000 in
theorem zb_X0_compared {S : Shp} {i0 : Nat} (hi0 : tlv (sH S) i0 = true) {x1 : Int32} {x2 : Int32} {x3 : Int32} {σ : Mm} {r : Int32 × Mm} (h : F_X0_compared i0 x1 x2 x3 σ = some r) : Z m_X0_compared S (Qi r) 0 [(0, .ref (sL S 1 i0 10)), (1, .int (x1)), (2, .int (x2)), (3, .int (x3))] [] σ := by
  unfold F_X0_compared at h
  refine z_iconst (v := 0) dX0_compared_0 (by decide) ?_
  refine z_istore (lv' := [(0, .ref (sL S 1 i0 10)), (1, .int (x1)), (2, .int (x2)), (3, .int (x3)), (4, .int (0))]) dX0_compared_1 (by decide) [1, 2, 3, 4, 0] rfl ?_
  refine z_iload_n dX0_compared_3 rfl 1 rfl ?_
  by_cases g1 : x1 = 10
  · have h := (if_pos g1).symm.trans h
    refine z_tableIn (tgt := 36) (off := 32) dX0_compared_4 (by rw [g1]; decide) (by rw [g1]; decide) (by rw [g1]; rfl) (by decide) ?_
    refine z_iload_n dX0_compared_36 rfl 2 rfl ?_
    refine z_iload_n dX0_compared_37 rfl 3 rfl ?_
    refine z_icmp_ne (tgt := 45) dX0_compared_38 (by decide) (fun q => ?_) (fun q => ?_)
    · have h := (if_neg q).symm.trans h
      refine z_iconst (v := 0) dX0_compared_45 (by decide) ?_
      refine Z.lv [0] rfl ?_
      exact zb_X0_compared_46 (hi0) h
    · have h := (if_pos q).symm.trans h
      refine z_iconst (v := 1) dX0_compared_41 (by decide) ?_
      refine z_goto (tgt := 46) dX0_compared_42 (by decide) ?_
      refine Z.lv [0] rfl ?_
      exact zb_X0_compared_46 (hi0) h
  · have h := (if_neg g1).symm.trans h
    by_cases g2 : x1 = 11
    · have h := (if_pos g2).symm.trans h
      refine z_tableIn (tgt := 51) (off := 47) dX0_compared_4 (by rw [g2]; decide) (by rw [g2]; decide) (by rw [g2]; rfl) (by decide) ?_
      refine z_iload_n dX0_compared_51 rfl 2 rfl ?_
      refine z_iload_n dX0_compared_52 rfl 3 rfl ?_
      refine z_icmp_eq (tgt := 60) dX0_compared_53 (by decide) (fun q => ?_) (fun q => ?_)
      · have h := (if_pos q).symm.trans h
        refine z_iconst (v := 0) dX0_compared_60 (by decide) ?_
        refine Z.lv [0] rfl ?_
        exact zb_X0_compared_61 (hi0) h
      · have h := (if_neg q).symm.trans h
        refine z_iconst (v := 1) dX0_compared_56 (by decide) ?_
        refine z_goto (tgt := 61) dX0_compared_57 (by decide) ?_
        refine Z.lv [0] rfl ?_
        exact zb_X0_compared_61 (hi0) h
    · have h := (if_neg g2).symm.trans h
      by_cases g3 : x1 = 12
      · have h := (if_pos g3).symm.trans h
        refine z_tableIn (tgt := 66) (off := 62) dX0_compared_4 (by rw [g3]; decide) (by rw [g3]; decide) (by rw [g3]; rfl) (by decide) ?_
        refine z_iload_n dX0_compared_66 rfl 2 rfl ?_
        refine z_iload_n dX0_compared_67 rfl 3 rfl ?_
        refine z_icmp_ge (tgt := 75) dX0_compared_68 (by decide) (fun q => ?_) (fun q => ?_)
        · have h := (if_pos q).symm.trans h
          refine z_iconst (v := 0) dX0_compared_75 (by decide) ?_
          refine Z.lv [0] rfl ?_
          exact zb_X0_compared_76 (hi0) h
        · have h := (if_neg q).symm.trans h
          refine z_iconst (v := 1) dX0_compared_71 (by decide) ?_
          refine z_goto (tgt := 76) dX0_compared_72 (by decide) ?_
          refine Z.lv [0] rfl ?_
          exact zb_X0_compared_76 (hi0) h
      · have h := (if_neg g3).symm.trans h
        by_cases g4 : x1 = 13
        · have h := (if_pos g4).symm.trans h
          refine z_tableIn (tgt := 81) (off := 77) dX0_compared_4 (by rw [g4]; decide) (by rw [g4]; decide) (by rw [g4]; rfl) (by decide) ?_
          refine z_iload_n dX0_compared_81 rfl 2 rfl ?_
          refine z_iload_n dX0_compared_82 rfl 3 rfl ?_
          refine z_icmp_gt (tgt := 90) dX0_compared_83 (by decide) (fun q => ?_) (fun q => ?_)
          · have h := (if_pos q).symm.trans h
            refine z_iconst (v := 0) dX0_compared_90 (by decide) ?_
            refine Z.lv [0] rfl ?_
            exact zb_X0_compared_91 (hi0) h
          · have h := (if_neg q).symm.trans h
            refine z_iconst (v := 1) dX0_compared_86 (by decide) ?_
            refine z_goto (tgt := 91) dX0_compared_87 (by decide) ?_
            refine Z.lv [0] rfl ?_
            exact zb_X0_compared_91 (hi0) h
        · have h := (if_neg g4).symm.trans h
          refine z_tableOut (tgt := 96) dX0_compared_4 (by have eg1 := nei (n := 10) (by decide) g1; have eg2 := nei (n := 11) (by decide) g2; have eg3 := nei (n := 12) (by decide) g3; have eg4 := nei (n := 13) (by decide) g4; omega) (by decide) ?_
          refine Z.lv [0, 4] rfl ?_
          exact zb_X0_compared_96 (hi0) h
/-- SkyStones$Code.compared(III)I -/
theorem c_X0_compared {S : Shp} {i0 : Nat} (hi0 : tlv (sH S) i0 = true) {x1 : Int32} {x2 : Int32} {x3 : Int32} {σ : Mm} {r : Int32 × Mm} (h : F_X0_compared i0 x1 x2 x3 σ = some r) : Ct m_X0_compared S [.ref (sL S 1 i0 10), .int (x1), .int (x2), .int (x3)] σ (Qi r) := Ct.of (by decide +kernel) (Nat.le_of_ble_eq_true rfl) (zb_X0_compared hi0 h)
def F_X0_copy_55 (i0 : Nat) (i1 : Nat) (σ : Mm) : Option (Mm) := some (setA σ 1 i0 14 (va_cpy (mA σ 1 i1 14) (mA σ 1 i0 14) (0 : Int32).toNatClampNeg (0 : Int32).toNatClampNeg (11 : Int32).toNatClampNeg))
set_option maxRecDepth 20000 in
theorem zb_X0_copy_55 {S : Shp} {i0 : Nat} (hi0 : tlv (sH S) i0 = true) {i1 : Nat} (hi1 : tlv (sH S) i1 = true) {σ : Mm} {r : Mm} (h : F_X0_copy_55 i0 i1 σ = some r) : Z m_X0_copy S (Qv r) 55 [(0, .ref (sL S 1 i0 10)), (1, .ref (sL S 1 i1 10))] [] σ := by
  unfold F_X0_copy_55 at h
  refine z_aload_n dX0_copy_55 rfl 1 rfl ?_
  refine gf_0_25 (lv1 (hi1) rfl) rfl dX0_copy_56 ?_
  refine z_iconst (v := 0) dX0_copy_59 (by decide) ?_
  refine z_aload_n dX0_copy_60 rfl 0 rfl ?_
  refine gf_0_25 (lv1 (hi0) rfl) rfl dX0_copy_61 ?_
  refine z_iconst (v := 0) dX0_copy_64 (by decide) ?_
  refine z_bipush (v := 11) dX0_copy_65 (by decide) ?_
  refine z_copyi (n0 := 11) (n1 := 11) kn_0_35 (lv1 (hi1) rfl) (fun _ _ => rfl) (lv1 (hi0) rfl) (fun _ _ => rfl) (by decide) (by decide) (by decide) (by decide) (by decide) (Nat.le_of_ble_eq_true rfl) (Nat.le_of_ble_eq_true rfl) dX0_copy_67 ?_
  cases h
  exact z_return dX0_copy_70 rfl ⟨rfl, rfl⟩
def F_X0_copy_40 (i0 : Nat) (i1 : Nat) (σ : Mm) : Option (Mm) := (F_X0_copy_55 i0 i1 (setA σ 1 i0 13 (va_cpy (mA σ 1 i1 13) (mA σ 1 i0 13) (0 : Int32).toNatClampNeg (0 : Int32).toNatClampNeg (11 : Int32).toNatClampNeg)))
set_option maxRecDepth 20000 in
theorem zb_X0_copy_40 {S : Shp} {i0 : Nat} (hi0 : tlv (sH S) i0 = true) {i1 : Nat} (hi1 : tlv (sH S) i1 = true) {σ : Mm} {r : Mm} (h : F_X0_copy_40 i0 i1 σ = some r) : Z m_X0_copy S (Qv r) 40 [(0, .ref (sL S 1 i0 10)), (1, .ref (sL S 1 i1 10))] [] σ := by
  unfold F_X0_copy_40 at h
  refine z_aload_n dX0_copy_40 rfl 1 rfl ?_
  refine gf_0_22 (lv1 (hi1) rfl) rfl dX0_copy_41 ?_
  refine z_iconst (v := 0) dX0_copy_44 (by decide) ?_
  refine z_aload_n dX0_copy_45 rfl 0 rfl ?_
  refine gf_0_22 (lv1 (hi0) rfl) rfl dX0_copy_46 ?_
  refine z_iconst (v := 0) dX0_copy_49 (by decide) ?_
  refine z_bipush (v := 11) dX0_copy_50 (by decide) ?_
  refine z_copyi (n0 := 11) (n1 := 11) kn_0_35 (lv1 (hi1) rfl) (fun _ _ => rfl) (lv1 (hi0) rfl) (fun _ _ => rfl) (by decide) (by decide) (by decide) (by decide) (by decide) (Nat.le_of_ble_eq_true rfl) (Nat.le_of_ble_eq_true rfl) dX0_copy_52 ?_
  exact zb_X0_copy_55 (hi0) (hi1) h
def F_X0_copy_24 (i0 : Nat) (i1 : Nat) (σ : Mm) : Option (Mm) := (F_X0_copy_40 i0 i1 (setA σ 1 i0 12 (va_cpy (mA σ 1 i1 12) (mA σ 1 i0 12) (0 : Int32).toNatClampNeg (0 : Int32).toNatClampNeg (400 : Int32).toNatClampNeg)))
set_option maxRecDepth 20000 in
theorem zb_X0_copy_24 {S : Shp} {i0 : Nat} (hi0 : tlv (sH S) i0 = true) {i1 : Nat} (hi1 : tlv (sH S) i1 = true) {σ : Mm} {r : Mm} (h : F_X0_copy_24 i0 i1 σ = some r) : Z m_X0_copy S (Qv r) 24 [(0, .ref (sL S 1 i0 10)), (1, .ref (sL S 1 i1 10))] [] σ := by
  unfold F_X0_copy_24 at h
  refine z_aload_n dX0_copy_24 rfl 1 rfl ?_
  refine gf_0_19 (lv1 (hi1) rfl) rfl dX0_copy_25 ?_
  refine z_iconst (v := 0) dX0_copy_28 (by decide) ?_
  refine z_aload_n dX0_copy_29 rfl 0 rfl ?_
  refine gf_0_19 (lv1 (hi0) rfl) rfl dX0_copy_30 ?_
  refine z_iconst (v := 0) dX0_copy_33 (by decide) ?_
  refine z_sipush (v := 400) dX0_copy_34 (by decide) ?_
  refine z_copyi (n0 := 400) (n1 := 400) kn_0_35 (lv1 (hi1) rfl) (fun _ _ => rfl) (lv1 (hi0) rfl) (fun _ _ => rfl) (by decide) (by decide) (by decide) (by decide) (by decide) (Nat.le_of_ble_eq_true rfl) (Nat.le_of_ble_eq_true rfl) dX0_copy_37 ?_
  exact zb_X0_copy_40 (hi0) (hi1) h
def F_X0_copy_8 (i0 : Nat) (i1 : Nat) (σ : Mm) : Option (Mm) := (F_X0_copy_24 i0 i1 (setA σ 1 i0 11 (va_cpy (mA σ 1 i1 11) (mA σ 1 i0 11) (0 : Int32).toNatClampNeg (0 : Int32).toNatClampNeg (400 : Int32).toNatClampNeg)))
set_option maxRecDepth 20000 in
theorem zb_X0_copy_8 {S : Shp} {i0 : Nat} (hi0 : tlv (sH S) i0 = true) {i1 : Nat} (hi1 : tlv (sH S) i1 = true) {σ : Mm} {r : Mm} (h : F_X0_copy_8 i0 i1 σ = some r) : Z m_X0_copy S (Qv r) 8 [(0, .ref (sL S 1 i0 10)), (1, .ref (sL S 1 i1 10))] [] σ := by
  unfold F_X0_copy_8 at h
  refine z_aload_n dX0_copy_8 rfl 1 rfl ?_
  refine gf_0_15 (lv1 (hi1) rfl) rfl dX0_copy_9 ?_
  refine z_iconst (v := 0) dX0_copy_12 (by decide) ?_
  refine z_aload_n dX0_copy_13 rfl 0 rfl ?_
  refine gf_0_15 (lv1 (hi0) rfl) rfl dX0_copy_14 ?_
  refine z_iconst (v := 0) dX0_copy_17 (by decide) ?_
  refine z_sipush (v := 400) dX0_copy_18 (by decide) ?_
  refine z_copyi (n0 := 400) (n1 := 400) kn_0_35 (lv1 (hi1) rfl) (fun _ _ => rfl) (lv1 (hi0) rfl) (fun _ _ => rfl) (by decide) (by decide) (by decide) (by decide) (by decide) (Nat.le_of_ble_eq_true rfl) (Nat.le_of_ble_eq_true rfl) dX0_copy_21 ?_
  exact zb_X0_copy_24 (hi0) (hi1) h
def F_X0_copy (i0 : Nat) (i1 : Nat) (σ : Mm) : Option (Mm) := (F_X0_copy_8 i0 i1 (setA σ 1 i0 10 (upd (mA σ 1 i0 10) 0 (mA σ 1 i1 10 0))))
set_option maxRecDepth 20000 in
theorem zb_X0_copy {S : Shp} {i0 : Nat} (hi0 : tlv (sH S) i0 = true) {i1 : Nat} (hi1 : tlv (sH S) i1 = true) {σ : Mm} {r : Mm} (h : F_X0_copy i0 i1 σ = some r) : Z m_X0_copy S (Qv r) 0 [(0, .ref (sL S 1 i0 10)), (1, .ref (sL S 1 i1 10))] [] σ := by
  unfold F_X0_copy at h
  refine z_aload_n dX0_copy_0 rfl 0 rfl ?_
  refine z_aload_n dX0_copy_1 rfl 1 rfl ?_
  refine gf_0_9 (lv1 (hi1) rfl) rfl dX0_copy_2 ?_
  refine pf_0_9 (lv1 (hi0) rfl) rfl dX0_copy_5 ?_
  exact zb_X0_copy_8 (hi0) (hi1) h
/-- SkyStones$Code.copy(LSkyStones$Code;)V -/
theorem c_X0_copy {S : Shp} {i0 : Nat} (hi0 : tlv (sH S) i0 = true) {i1 : Nat} (hi1 : tlv (sH S) i1 = true) {σ : Mm} {r : Mm} (h : F_X0_copy i0 i1 σ = some r) : Ct m_X0_copy S [.ref (sL S 1 i0 10), .ref (sL S 1 i1 10)] σ (Qv r) := Ct.of (by decide +kernel) (Nat.le_of_ble_eq_true rfl) (zb_X0_copy hi0 hi1 h)
def F_X0_forget (i0 : Nat) (σ : Mm) : Option (Mm) := some (setA σ 1 i0 10 (upd (mA σ 1 i0 10) 0 0))
set_option maxRecDepth 20000 in
theorem zb_X0_forget {S : Shp} {i0 : Nat} (hi0 : tlv (sH S) i0 = true) {σ : Mm} {r : Mm} (h : F_X0_forget i0 σ = some r) : Z m_X0_forget S (Qv r) 0 [(0, .ref (sL S 1 i0 10))] [] σ := by
  unfold F_X0_forget at h
  refine z_aload_n dX0_forget_0 rfl 0 rfl ?_
  refine z_iconst (v := 0) dX0_forget_1 (by decide) ?_
  refine pf_0_9 (lv1 (hi0) rfl) rfl dX0_forget_2 ?_
  cases h
  exact z_return dX0_forget_5 rfl ⟨rfl, rfl⟩
/-- SkyStones$Code.forget()V -/
theorem c_X0_forget {S : Shp} {i0 : Nat} (hi0 : tlv (sH S) i0 = true) {σ : Mm} {r : Mm} (h : F_X0_forget i0 σ = some r) : Ct m_X0_forget S [.ref (sL S 1 i0 10)] σ (Qv r) := Ct.of (by decide +kernel) (Nat.le_of_ble_eq_true rfl) (zb_X0_forget hi0 h)
def F_X0_joined_89 (σ : Mm) : Option (Int32 × Mm) := some (0, σ)
set_option maxRecDepth 20000 in
theorem zb_X0_joined_89 {S : Shp} {σ : Mm} {r : Int32 × Mm} (h : F_X0_joined_89 σ = some r) : Z m_X0_joined S (Qi r) 89 [] [] σ := by
  unfold F_X0_joined_89 at h
  refine z_iconst (v := 0) dX0_joined_89 (by decide) ?_
  cases h
  exact z_ireturn dX0_joined_90 rfl rfl ⟨rfl, rfl⟩
def F_X0_joined_102 (s0 : Int32) (σ : Mm) : Option (Int32 × Mm) := some (s0, σ)
set_option maxRecDepth 20000 in
theorem zb_X0_joined_102 {S : Shp} {s0 : Int32} {σ : Mm} {r : Int32 × Mm} (h : F_X0_joined_102 s0 σ = some r) : Z m_X0_joined S (Qi r) 102 [] [.int (s0)] σ := by
  unfold F_X0_joined_102 at h
  cases h
  exact z_ireturn dX0_joined_102 rfl rfl ⟨rfl, rfl⟩
def F_X0_joined (i0 : Nat) (x1 : Int32) (x2 : Int32) (x3 : Int32) (σ : Mm) : Option (Int32 × Mm) := (if x1 = 6 then some (x2 + x3, σ) else (if x1 = 7 then some (x2 - x3, σ) else (if x1 = 8 then some (x2 * x3, σ) else (if x1 = 9 then (if x3 = 0 then (F_X0_joined_89 (setA σ 1 i0 10 (upd (mA σ 1 i0 10) 6 1))) else (if ¬ x3 = 0 then some (x2 / x3, σ) else none)) else (if x1 = 25 then some (x2 ||| x3, σ) else (if x1 = 26 then some (x2 &&& x3, σ) else (bnd (F_X0_compared i0 x1 x2 x3 σ) (fun v τ => (F_X0_joined_102 v τ)))))))))
set_option maxRecDepth 20000 in
theorem zb_X0_joined {S : Shp} {i0 : Nat} (hi0 : tlv (sH S) i0 = true) {x1 : Int32} {x2 : Int32} {x3 : Int32} {σ : Mm} {r : Int32 × Mm} (h : F_X0_joined i0 x1 x2 x3 σ = some r) : Z m_X0_joined S (Qi r) 0 [(0, .ref (sL S 1 i0 10)), (1, .int (x1)), (2, .int (x2)), (3, .int (x3))] [] σ := by
  unfold F_X0_joined at h
  refine z_iload_n dX0_joined_0 rfl 1 rfl ?_
  by_cases g1 : x1 = 6
  · have h := (if_pos g1).symm.trans h
    refine z_lookup (tgt := 60) (off := 59) dX0_joined_1 (by decide) (by rw [g1]; decide) (by decide) ?_
    refine z_iload_n dX0_joined_60 rfl 2 rfl ?_
    refine z_iload_n dX0_joined_61 rfl 3 rfl ?_
    refine z_iadd dX0_joined_62 ?_
    cases h
    exact z_ireturn dX0_joined_63 rfl rfl ⟨rfl, rfl⟩
  · have h := (if_neg g1).symm.trans h
    by_cases g2 : x1 = 7
    · have h := (if_pos g2).symm.trans h
      refine z_lookup (tgt := 64) (off := 63) dX0_joined_1 (by decide) (by rw [g2]; decide) (by decide) ?_
      refine z_iload_n dX0_joined_64 rfl 2 rfl ?_
      refine z_iload_n dX0_joined_65 rfl 3 rfl ?_
      refine z_isub dX0_joined_66 ?_
      cases h
      exact z_ireturn dX0_joined_67 rfl rfl ⟨rfl, rfl⟩
    · have h := (if_neg g2).symm.trans h
      by_cases g3 : x1 = 8
      · have h := (if_pos g3).symm.trans h
        refine z_lookup (tgt := 68) (off := 67) dX0_joined_1 (by decide) (by rw [g3]; decide) (by decide) ?_
        refine z_iload_n dX0_joined_68 rfl 2 rfl ?_
        refine z_iload_n dX0_joined_69 rfl 3 rfl ?_
        refine z_imul dX0_joined_70 ?_
        cases h
        exact z_ireturn dX0_joined_71 rfl rfl ⟨rfl, rfl⟩
      · have h := (if_neg g3).symm.trans h
        by_cases g4 : x1 = 9
        · have h := (if_pos g4).symm.trans h
          refine z_lookup (tgt := 80) (off := 79) dX0_joined_1 (by decide) (by rw [g4]; decide) (by decide) ?_
          refine z_iload_n dX0_joined_80 rfl 3 rfl ?_
          refine z_if_ne (tgt := 91) dX0_joined_81 (by decide) (fun q => ?_) (fun q => ?_)
          · have h := (if_neg q).symm.trans h
            obtain ⟨g7, h⟩ := gd h
            refine z_iload_n dX0_joined_91 rfl 2 rfl ?_
            refine z_iload_n dX0_joined_92 rfl 3 rfl ?_
            refine z_idiv dX0_joined_93 g7 ?_
            cases h
            exact z_ireturn dX0_joined_94 rfl rfl ⟨rfl, rfl⟩
          · have h := (if_pos q).symm.trans h
            refine z_aload_n dX0_joined_84 rfl 0 rfl ?_
            refine z_iconst (v := 1) dX0_joined_85 (by decide) ?_
            refine pf_0_31 (lv1 (hi0) rfl) rfl dX0_joined_86 rfl rfl ?_
            refine Z.lv [] rfl ?_
            exact zb_X0_joined_89 h
        · have h := (if_neg g4).symm.trans h
          by_cases g5 : x1 = 25
          · have h := (if_pos g5).symm.trans h
            refine z_lookup (tgt := 76) (off := 75) dX0_joined_1 (by decide) (by rw [g5]; decide) (by decide) ?_
            refine z_iload_n dX0_joined_76 rfl 2 rfl ?_
            refine z_iload_n dX0_joined_77 rfl 3 rfl ?_
            refine z_ior dX0_joined_78 ?_
            cases h
            exact z_ireturn dX0_joined_79 rfl rfl ⟨rfl, rfl⟩
          · have h := (if_neg g5).symm.trans h
            by_cases g6 : x1 = 26
            · have h := (if_pos g6).symm.trans h
              refine z_lookup (tgt := 72) (off := 71) dX0_joined_1 (by decide) (by rw [g6]; decide) (by decide) ?_
              refine z_iload_n dX0_joined_72 rfl 2 rfl ?_
              refine z_iload_n dX0_joined_73 rfl 3 rfl ?_
              refine z_iand dX0_joined_74 ?_
              cases h
              exact z_ireturn dX0_joined_75 rfl rfl ⟨rfl, rfl⟩
            · have h := (if_neg g6).symm.trans h
              refine z_lookup (tgt := 95) (off := 94) dX0_joined_1 (by decide) (by have eg1 := nei (n := 6) (by decide) g1; have eg2 := nei (n := 7) (by decide) g2; have eg3 := nei (n := 8) (by decide) g3; have eg4 := nei (n := 9) (by decide) g4; have eg5 := nei (n := 25) (by decide) g5; have eg6 := nei (n := 26) (by decide) g6; simp [Op.lookupswitch.offset, eg1, Ne.symm eg1, eg2, Ne.symm eg2, eg3, Ne.symm eg3, eg4, Ne.symm eg4, eg5, Ne.symm eg5, eg6, Ne.symm eg6]) (by decide) ?_
              refine z_aload_n dX0_joined_95 rfl 0 rfl ?_
              refine z_iload_n dX0_joined_96 rfl 1 rfl ?_
              refine z_iload_n dX0_joined_97 rfl 2 rfl ?_
              refine z_iload_n dX0_joined_98 rfl 3 rfl ?_
              obtain ⟨v, τ, hc, h⟩ := bnd_e h
              refine z_callV (M' := m_X0_compared) (t := 1) (i := i0) (k := 10) (As := [.int (x1), .int (x2), .int (x3)]) (rest := []) kl_0_45 oy_X0_compared ⟨Nat.le_of_ble_eq_true rfl, Nat.le_of_ble_eq_true rfl⟩ (lv1 (hi0) rfl) rfl rfl rfl (Nat.le_of_ble_eq_true rfl) rfl dX0_joined_99 (c_X0_compared (hi0) hc) (fun v2 τ2 hq => ?_)
              obtain ⟨rfl, hτ⟩ := hq
              subst τ2
              change Z _ _ _ _ _ [.int (v)] _
              refine Z.lv [] rfl ?_
              exact zb_X0_joined_102 h
/-- SkyStones$Code.joined(III)I -/
theorem c_X0_joined {S : Shp} {i0 : Nat} (hi0 : tlv (sH S) i0 = true) {x1 : Int32} {x2 : Int32} {x3 : Int32} {σ : Mm} {r : Int32 × Mm} (h : F_X0_joined i0 x1 x2 x3 σ = some r) : Ct m_X0_joined S [.ref (sL S 1 i0 10), .int (x1), .int (x2), .int (x3)] σ (Qi r) := Ct.of (by decide +kernel) (Nat.le_of_ble_eq_true rfl) (zb_X0_joined hi0 h)
def F_X0_open_20 (i0 : Nat) (x1 : Int32) (σ : Mm) : Option (Mm) := (if inb x1 11 = true then some (setA σ 1 i0 14 (upd (mA σ 1 i0 14) x1.toNatClampNeg (mA σ 1 i0 10 0))) else none)
set_option maxRecDepth 20000 in
theorem zb_X0_open_20 {S : Shp} {i0 : Nat} (hi0 : tlv (sH S) i0 = true) {x1 : Int32} {σ : Mm} {r : Mm} (h : F_X0_open_20 i0 x1 σ = some r) : Z m_X0_open S (Qv r) 20 [(0, .ref (sL S 1 i0 10)), (1, .int (x1))] [] σ := by
  unfold F_X0_open_20 at h
  obtain ⟨g2, h⟩ := gd h
  refine z_aload_n dX0_open_20 rfl 0 rfl ?_
  refine gf_0_25 (lv1 (hi0) rfl) rfl dX0_open_21 ?_
  refine z_iload_n dX0_open_24 rfl 1 rfl ?_
  refine z_aload_n dX0_open_25 rfl 0 rfl ?_
  refine gf_0_9 (lv1 (hi0) rfl) rfl dX0_open_26 ?_
  refine is_1_14 (lv1 (hi0) rfl) (inb_in g2) dX0_open_29 ?_
  cases h
  exact z_return dX0_open_30 rfl ⟨rfl, rfl⟩
def F_X0_open (i0 : Nat) (x1 : Int32) (σ : Mm) : Option (Mm) := (if x1 < 0 then some (σ) else (if (11 : Int32) ≤ x1 then some (σ) else (if inb x1 11 = true then (F_X0_open_20 i0 x1 (setA σ 1 i0 13 (upd (mA σ 1 i0 13) x1.toNatClampNeg (mA σ 1 i0 10 0)))) else none)))
set_option maxRecDepth 20000 in
theorem zb_X0_open {S : Shp} {i0 : Nat} (hi0 : tlv (sH S) i0 = true) {x1 : Int32} {σ : Mm} {r : Mm} (h : F_X0_open i0 x1 σ = some r) : Z m_X0_open S (Qv r) 0 [(0, .ref (sL S 1 i0 10)), (1, .int (x1))] [] σ := by
  unfold F_X0_open at h
  refine z_iload_n dX0_open_0 rfl 1 rfl ?_
  refine z_if_lt (tgt := 30) dX0_open_1 (by decide) (fun q => ?_) (fun q => ?_)
  · have h := (if_pos q).symm.trans h
    cases h
    exact z_return dX0_open_30 rfl ⟨rfl, rfl⟩
  · have h := (if_neg q).symm.trans h
    refine z_iload_n dX0_open_4 rfl 1 rfl ?_
    refine z_bipush (v := 11) dX0_open_5 (by decide) ?_
    refine z_icmp_ge (tgt := 30) dX0_open_7 (by decide) (fun q => ?_) (fun q => ?_)
    · have h := (if_pos q).symm.trans h
      cases h
      exact z_return dX0_open_30 rfl ⟨rfl, rfl⟩
    · have h := (if_neg q).symm.trans h
      obtain ⟨g1, h⟩ := gd h
      refine z_aload_n dX0_open_10 rfl 0 rfl ?_
      refine gf_0_22 (lv1 (hi0) rfl) rfl dX0_open_11 ?_
      refine z_iload_n dX0_open_14 rfl 1 rfl ?_
      refine z_aload_n dX0_open_15 rfl 0 rfl ?_
      refine gf_0_9 (lv1 (hi0) rfl) rfl dX0_open_16 ?_
      refine is_1_13 (lv1 (hi0) rfl) (inb_in g1) dX0_open_19 ?_
      exact zb_X0_open_20 (hi0) h
/-- SkyStones$Code.open(I)V -/
theorem c_X0_open {S : Shp} {i0 : Nat} (hi0 : tlv (sH S) i0 = true) {x1 : Int32} {σ : Mm} {r : Mm} (h : F_X0_open i0 x1 σ = some r) : Ct m_X0_open S [.ref (sL S 1 i0 10), .int (x1)] σ (Qv r) := Ct.of (by decide +kernel) (Nat.le_of_ble_eq_true rfl) (zb_X0_open hi0 h)
def F_X0_put_30 (i0 : Nat) (σ : Mm) : Option (Mm) := some (setA σ 1 i0 10 (upd (mA σ 1 i0 10) 0 ((mA σ 1 i0 10 0) + (1 : Int32))))
set_option maxRecDepth 20000 in
theorem zb_X0_put_30 {S : Shp} {i0 : Nat} (hi0 : tlv (sH S) i0 = true) {σ : Mm} {r : Mm} (h : F_X0_put_30 i0 σ = some r) : Z m_X0_put S (Qv r) 30 [(0, .ref (sL S 1 i0 10))] [] σ := by
  unfold F_X0_put_30 at h
  refine z_aload_n dX0_put_30 rfl 0 rfl ?_
  refine z_dup dX0_put_31 rfl ?_
  refine gf_0_9 (lv1 (hi0) rfl) rfl dX0_put_32 ?_
  refine z_iconst (v := 1) dX0_put_35 (by decide) ?_
  refine z_iadd dX0_put_36 ?_
  refine pf_0_9 (lv1 (hi0) rfl) rfl dX0_put_37 ?_
  cases h
  exact z_return dX0_put_40 rfl ⟨rfl, rfl⟩
def F_X0_put_20 (i0 : Nat) (x2 : Int32) (σ : Mm) : Option (Mm) := (if inb (mA σ 1 i0 10 0) 400 = true then (F_X0_put_30 i0 (setA σ 1 i0 12 (upd (mA σ 1 i0 12) (mA σ 1 i0 10 0).toNatClampNeg x2))) else none)
set_option maxRecDepth 20000 in
theorem zb_X0_put_20 {S : Shp} {i0 : Nat} (hi0 : tlv (sH S) i0 = true) {x2 : Int32} {σ : Mm} {r : Mm} (h : F_X0_put_20 i0 x2 σ = some r) : Z m_X0_put S (Qv r) 20 [(0, .ref (sL S 1 i0 10)), (2, .int (x2))] [] σ := by
  unfold F_X0_put_20 at h
  obtain ⟨g2, h⟩ := gd h
  refine z_aload_n dX0_put_20 rfl 0 rfl ?_
  refine gf_0_19 (lv1 (hi0) rfl) rfl dX0_put_21 ?_
  refine z_aload_n dX0_put_24 rfl 0 rfl ?_
  refine gf_0_9 (lv1 (hi0) rfl) rfl dX0_put_25 ?_
  refine z_iload_n dX0_put_28 rfl 1 rfl ?_
  refine is_1_12 (lv1 (hi0) rfl) (inb_in g2) dX0_put_29 ?_
  refine Z.lv [0] rfl ?_
  exact zb_X0_put_30 (hi0) h
def F_X0_put (i0 : Nat) (x1 : Int32) (x2 : Int32) (σ : Mm) : Option (Mm) := (if (400 : Int32) ≤ (mA σ 1 i0 10 0) then some (σ) else (if inb (mA σ 1 i0 10 0) 400 = true then (F_X0_put_20 i0 x2 (setA σ 1 i0 11 (upd (mA σ 1 i0 11) (mA σ 1 i0 10 0).toNatClampNeg x1))) else none))
set_option maxRecDepth 20000 in
theorem zb_X0_put {S : Shp} {i0 : Nat} (hi0 : tlv (sH S) i0 = true) {x1 : Int32} {x2 : Int32} {σ : Mm} {r : Mm} (h : F_X0_put i0 x1 x2 σ = some r) : Z m_X0_put S (Qv r) 0 [(0, .ref (sL S 1 i0 10)), (1, .int (x1)), (2, .int (x2))] [] σ := by
  unfold F_X0_put at h
  refine z_aload_n dX0_put_0 rfl 0 rfl ?_
  refine gf_0_9 (lv1 (hi0) rfl) rfl dX0_put_1 ?_
  refine z_sipush (v := 400) dX0_put_4 (by decide) ?_
  refine z_icmp_ge (tgt := 40) dX0_put_7 (by decide) (fun q => ?_) (fun q => ?_)
  · have h := (if_pos q).symm.trans h
    cases h
    exact z_return dX0_put_40 rfl ⟨rfl, rfl⟩
  · have h := (if_neg q).symm.trans h
    obtain ⟨g1, h⟩ := gd h
    refine z_aload_n dX0_put_10 rfl 0 rfl ?_
    refine gf_0_15 (lv1 (hi0) rfl) rfl dX0_put_11 ?_
    refine z_aload_n dX0_put_14 rfl 0 rfl ?_
    refine gf_0_9 (lv1 (hi0) rfl) rfl dX0_put_15 ?_
    refine z_iload_n dX0_put_18 rfl 1 rfl ?_
    refine is_1_11 (lv1 (hi0) rfl) (inb_in g1) dX0_put_19 ?_
    refine Z.lv [0, 2] rfl ?_
    exact zb_X0_put_20 (hi0) h
/-- SkyStones$Code.put(II)V -/
theorem c_X0_put {S : Shp} {i0 : Nat} (hi0 : tlv (sH S) i0 = true) {x1 : Int32} {x2 : Int32} {σ : Mm} {r : Mm} (h : F_X0_put i0 x1 x2 σ = some r) : Ct m_X0_put S [.ref (sL S 1 i0 10), .int (x1), .int (x2)] σ (Qv r) := Ct.of (by decide +kernel) (Nat.le_of_ble_eq_true rfl) (zb_X0_put hi0 h)
def F_X0_work_g_214 (σ : Mm) : Option (Int32 × Mm) := some (0, σ)
set_option maxRecDepth 20000 in
theorem zb_X0_work_g_214 {S : Shp} {σ : Mm} {r : Int32 × Mm} (h : F_X0_work_g_214 σ = some r) : Z m_X0_work S (Qi r) 214 [] [] σ := by
  unfold F_X0_work_g_214 at h
  refine z_iconst (v := 0) dX0_work_214 (by decide) ?_
  refine z_goto (tgt := 226) dX0_work_215 (by decide) ?_
  cases h
  exact z_ireturn dX0_work_226 rfl rfl ⟨rfl, rfl⟩
def F_X0_work_g_202 (i0 : Nat) (x3 : Int32) (σ : Mm) : Option (Int32 × Mm) := (if (mA σ 1 i0 10 6) = 0 then (if (1 : Int32) ≤ x3 then (if inb (x3 - (1 : Int32)) 24 = true then some (mA σ 1 i0 15 (x3 - (1 : Int32)).toNatClampNeg, σ) else none) else (F_X0_work_g_214 σ)) else (F_X0_work_g_214 σ))
set_option maxRecDepth 20000 in
theorem zb_X0_work_g_202 {S : Shp} {i0 : Nat} (hi0 : tlv (sH S) i0 = true) {x3 : Int32} {σ : Mm} {r : Int32 × Mm} (h : F_X0_work_g_202 i0 x3 σ = some r) : Z m_X0_work S (Qi r) 202 [(0, .ref (sL S 1 i0 10)), (3, .int (x3))] [] σ := by
  unfold F_X0_work_g_202 at h
  refine z_aload_n dX0_work_202 rfl 0 rfl ?_
  refine gf_0_31 (lv1 (hi0) rfl) rfl dX0_work_203 ?_
  refine z_if_ne (tgt := 214) dX0_work_206 (by decide) (fun q => ?_) (fun q => ?_)
  · have h := (if_neg q).symm.trans h
    refine Z.lv [] rfl ?_
    exact zb_X0_work_g_214 h
  · have h := (if_pos q).symm.trans h
    refine z_iload_n dX0_work_209 rfl 1 rfl ?_
    refine z_iconst (v := 1) dX0_work_210 (by decide) ?_
    refine z_icmp_ge (tgt := 218) dX0_work_211 (by decide) (fun q => ?_) (fun q => ?_)
    · have h := (if_pos q).symm.trans h
      obtain ⟨g6, h⟩ := gd h
      refine z_aload_n dX0_work_218 rfl 0 rfl ?_
      refine gf_0_28 (lv1 (hi0) rfl) rfl dX0_work_219 ?_
      refine z_iload_n dX0_work_222 rfl 1 rfl ?_
      refine z_iconst (v := 1) dX0_work_223 (by decide) ?_
      refine z_isub dX0_work_224 ?_
      refine ia_1_15 (lv1 (hi0) rfl) (inb_in g6) dX0_work_225 ?_
      cases h
      exact z_ireturn dX0_work_226 rfl rfl ⟨rfl, rfl⟩
    · have h := (if_neg q).symm.trans h
      refine Z.lv [] rfl ?_
      exact zb_X0_work_g_214 h
def F_X0_work_g_196 (rc27 : Nat → Int32 → Int32 → Int32 → Mm → Option (Int32 × Mm)) (i0 : Nat) (x1 : Int32) (x3 : Int32) (x4 : Int32) (σ : Mm) : Option (Int32 × Mm) := (rc27 i0 x1 x3 (x4 + 1) σ)
set_option maxRecDepth 20000 in
theorem zb_X0_work_g_196 {S : Shp} {rc27 : Nat → Int32 → Int32 → Int32 → Mm → Option (Int32 × Mm)} (hrc27 : ∀ {i0 : Nat} (hi0 : tlv (sH S) i0 = true) {x1 : Int32} {x3 : Int32} {x4 : Int32} {σ : Mm} {r : Int32 × Mm}, rc27 i0 x1 x3 x4 σ = some r → Z m_X0_work S (Qi r) 27 [(0, .ref (sL S 1 i0 10)), (1, .int (x1)), (2, .ref (sL S 0 0 22)), (3, .int (x3)), (4, .int (x4))] [] σ) {i0 : Nat} (hi0 : tlv (sH S) i0 = true) {x1 : Int32} {x3 : Int32} {x4 : Int32} {σ : Mm} {r : Int32 × Mm} (h : F_X0_work_g_196 rc27 i0 x1 x3 x4 σ = some r) : Z m_X0_work S (Qi r) 196 [(0, .ref (sL S 1 i0 10)), (1, .int (x1)), (2, .ref (sL S 0 0 22)), (3, .int (x3)), (4, .int (x4))] [] σ := by
  unfold F_X0_work_g_196 at h
  refine z_iinc (j := 4) (v := x4 + 1) (lv' := [(0, .ref (sL S 1 i0 10)), (1, .int (x1)), (2, .ref (sL S 0 0 22)), (3, .int (x3)), (4, .int (x4 + 1))]) dX0_work_196 rfl rfl (by decide) [1, 2, 3, 4, 0] rfl ?_
  refine z_goto (tgt := 27) dX0_work_199 (by decide) ?_
  exact hrc27 (hi0) h
def F_X0_work_g_195 (rc27 : Nat → Int32 → Int32 → Int32 → Mm → Option (Int32 × Mm)) (i0 : Nat) (x1 : Int32) (x3 : Int32) (x4 : Int32) (s0 : Int32) (s1 : Int32) (σ : Mm) : Option (Int32 × Mm) := (if inb s1 24 = true then (F_X0_work_g_196 rc27 i0 x1 x3 x4 (setA σ 1 i0 15 (upd (mA σ 1 i0 15) s1.toNatClampNeg s0))) else none)
set_option maxRecDepth 20000 in
theorem zb_X0_work_g_195 {S : Shp} {rc27 : Nat → Int32 → Int32 → Int32 → Mm → Option (Int32 × Mm)} (hrc27 : ∀ {i0 : Nat} (hi0 : tlv (sH S) i0 = true) {x1 : Int32} {x3 : Int32} {x4 : Int32} {σ : Mm} {r : Int32 × Mm}, rc27 i0 x1 x3 x4 σ = some r → Z m_X0_work S (Qi r) 27 [(0, .ref (sL S 1 i0 10)), (1, .int (x1)), (2, .ref (sL S 0 0 22)), (3, .int (x3)), (4, .int (x4))] [] σ) {i0 : Nat} (hi0 : tlv (sH S) i0 = true) {x1 : Int32} {x3 : Int32} {x4 : Int32} {s0 : Int32} {s1 : Int32} {σ : Mm} {r : Int32 × Mm} (h : F_X0_work_g_195 rc27 i0 x1 x3 x4 s0 s1 σ = some r) : Z m_X0_work S (Qi r) 195 [(0, .ref (sL S 1 i0 10)), (1, .int (x1)), (2, .ref (sL S 0 0 22)), (3, .int (x3)), (4, .int (x4))] [.int (s0), .int (s1), .ref (sL S 1 i0 15)] σ := by
  unfold F_X0_work_g_195 at h
  obtain ⟨g13, h⟩ := gd h
  refine is_1_15 (lv1 (hi0) rfl) (inb_in g13) dX0_work_195 ?_
  exact zb_X0_work_g_196 hrc27 (hi0) h
def F_X0_work_g_160 (rc27 : Nat → Int32 → Int32 → Int32 → Mm → Option (Int32 × Mm)) (i0 : Nat) (x1 : Int32) (x3 : Int32) (x4 : Int32) (x5 : Int32) (σ : Mm) : Option (Int32 × Mm) := (if x3 ≤ (1 : Int32) then (F_X0_work_g_196 rc27 i0 x1 x3 x4 σ) else (if inb ((x3 + (-1)) - (1 : Int32)) 24 = true then (if inb (x3 + (-1)) 24 = true then (bnd (F_X0_joined i0 x5 (mA σ 1 i0 15 ((x3 + (-1)) - (1 : Int32)).toNatClampNeg) (mA σ 1 i0 15 (x3 + (-1)).toNatClampNeg) σ) (fun v τ => (F_X0_work_g_195 rc27 i0 x1 (x3 + (-1)) x4 v ((x3 + (-1)) - (1 : Int32)) τ))) else none) else none))
set_option maxRecDepth 20000 in
theorem zb_X0_work_g_160 {S : Shp} {rc27 : Nat → Int32 → Int32 → Int32 → Mm → Option (Int32 × Mm)} (hrc27 : ∀ {i0 : Nat} (hi0 : tlv (sH S) i0 = true) {x1 : Int32} {x3 : Int32} {x4 : Int32} {σ : Mm} {r : Int32 × Mm}, rc27 i0 x1 x3 x4 σ = some r → Z m_X0_work S (Qi r) 27 [(0, .ref (sL S 1 i0 10)), (1, .int (x1)), (2, .ref (sL S 0 0 22)), (3, .int (x3)), (4, .int (x4))] [] σ) {i0 : Nat} (hi0 : tlv (sH S) i0 = true) {x1 : Int32} {x3 : Int32} {x4 : Int32} {x5 : Int32} {σ : Mm} {r : Int32 × Mm} (h : F_X0_work_g_160 rc27 i0 x1 x3 x4 x5 σ = some r) : Z m_X0_work S (Qi r) 160 [(0, .ref (sL S 1 i0 10)), (1, .int (x1)), (2, .ref (sL S 0 0 22)), (3, .int (x3)), (4, .int (x4)), (5, .int (x5))] [] σ := by
  unfold F_X0_work_g_160 at h
  refine z_iload_n dX0_work_160 rfl 3 rfl ?_
  refine z_iconst (v := 1) dX0_work_161 (by decide) ?_
  refine z_icmp_le (tgt := 196) dX0_work_162 (by decide) (fun q => ?_) (fun q => ?_)
  · have h := (if_pos q).symm.trans h
    refine Z.lv [0, 1, 2, 3, 4] rfl ?_
    exact zb_X0_work_g_196 hrc27 (hi0) h
  · have h := (if_neg q).symm.trans h
    obtain ⟨g11, h⟩ := gd h
    refine z_iinc (j := 3) (v := x3 + (-1)) (lv' := [(0, .ref (sL S 1 i0 10)), (1, .int (x1)), (2, .ref (sL S 0 0 22)), (3, .int (x3 + (-1))), (4, .int (x4)), (5, .int (x5))]) dX0_work_165 rfl rfl (by decide) [1, 2, 3, 0, 4, 5] rfl ?_
    refine z_aload_n dX0_work_168 rfl 0 rfl ?_
    refine gf_0_28 (lv1 (hi0) rfl) rfl dX0_work_169 ?_
    refine z_iload_n dX0_work_172 rfl 3 rfl ?_
    refine z_iconst (v := 1) dX0_work_173 (by decide) ?_
    refine z_isub dX0_work_174 ?_
    refine z_aload_n dX0_work_175 rfl 0 rfl ?_
    refine z_iload dX0_work_176 5 rfl ?_
    refine z_aload_n dX0_work_178 rfl 0 rfl ?_
    refine gf_0_28 (lv1 (hi0) rfl) rfl dX0_work_179 ?_
    refine z_iload_n dX0_work_182 rfl 3 rfl ?_
    refine z_iconst (v := 1) dX0_work_183 (by decide) ?_
    refine z_isub dX0_work_184 ?_
    obtain ⟨g12, h⟩ := gd h
    refine ia_1_15 (lv1 (hi0) rfl) (inb_in g11) dX0_work_185 ?_
    refine z_aload_n dX0_work_186 rfl 0 rfl ?_
    refine gf_0_28 (lv1 (hi0) rfl) rfl dX0_work_187 ?_
    refine z_iload_n dX0_work_190 rfl 3 rfl ?_
    refine ia_1_15 (lv1 (hi0) rfl) (inb_in g12) dX0_work_191 ?_
    obtain ⟨v, τ, hc, h⟩ := bnd_e h
    refine z_callV (M' := m_X0_joined) (t := 1) (i := i0) (k := 10) (As := [.int (x5), .int (mA σ 1 i0 15 ((x3 + (-1)) - (1 : Int32)).toNatClampNeg), .int (mA σ 1 i0 15 (x3 + (-1)).toNatClampNeg)]) (rest := [.int ((x3 + (-1)) - (1 : Int32)), .ref (sL S 1 i0 15)]) kl_0_41 oy_X0_joined ⟨Nat.le_of_ble_eq_true rfl, Nat.le_of_ble_eq_true rfl⟩ (lv1 (hi0) rfl) rfl rfl rfl (Nat.le_of_ble_eq_true rfl) rfl dX0_work_192 (c_X0_joined (hi0) hc) (fun v2 τ2 hq => ?_)
    obtain ⟨rfl, hτ⟩ := hq
    subst τ2
    change Z _ _ _ _ _ [.int (v), .int ((x3 + (-1)) - (1 : Int32)), .ref (sL S 1 i0 15)] _
    refine Z.lv [0, 1, 2, 3, 4] rfl ?_
    exact zb_X0_work_g_195 hrc27 (hi0) h
def F_X0_work_g_154 (rc27 : Nat → Int32 → Int32 → Int32 → Mm → Option (Int32 × Mm)) (i0 : Nat) (x1 : Int32) (x3 : Int32) (x4 : Int32) (σ : Mm) : Option (Int32 × Mm) := (F_X0_work_g_196 rc27 i0 x1 (x3 + 1) x4 σ)
set_option maxRecDepth 20000 in
theorem zb_X0_work_g_154 {S : Shp} {rc27 : Nat → Int32 → Int32 → Int32 → Mm → Option (Int32 × Mm)} (hrc27 : ∀ {i0 : Nat} (hi0 : tlv (sH S) i0 = true) {x1 : Int32} {x3 : Int32} {x4 : Int32} {σ : Mm} {r : Int32 × Mm}, rc27 i0 x1 x3 x4 σ = some r → Z m_X0_work S (Qi r) 27 [(0, .ref (sL S 1 i0 10)), (1, .int (x1)), (2, .ref (sL S 0 0 22)), (3, .int (x3)), (4, .int (x4))] [] σ) {i0 : Nat} (hi0 : tlv (sH S) i0 = true) {x1 : Int32} {x3 : Int32} {x4 : Int32} {σ : Mm} {r : Int32 × Mm} (h : F_X0_work_g_154 rc27 i0 x1 x3 x4 σ = some r) : Z m_X0_work S (Qi r) 154 [(0, .ref (sL S 1 i0 10)), (1, .int (x1)), (2, .ref (sL S 0 0 22)), (3, .int (x3)), (4, .int (x4))] [] σ := by
  unfold F_X0_work_g_154 at h
  refine z_iinc (j := 3) (v := x3 + 1) (lv' := [(0, .ref (sL S 1 i0 10)), (1, .int (x1)), (2, .ref (sL S 0 0 22)), (3, .int (x3 + 1)), (4, .int (x4))]) dX0_work_154 rfl rfl (by decide) [1, 2, 3, 0, 4] rfl ?_
  refine z_goto (tgt := 196) dX0_work_157 (by decide) ?_
  exact zb_X0_work_g_196 hrc27 (hi0) h
def F_X0_work_g_118 (rc27 : Nat → Int32 → Int32 → Int32 → Mm → Option (Int32 × Mm)) (i0 : Nat) (x1 : Int32) (x3 : Int32) (x4 : Int32) (x5 : Int32) (σ : Mm) : Option (Int32 × Mm) := (if x5 < (28 : Int32) then (F_X0_work_g_160 rc27 i0 x1 x3 x4 x5 σ) else (if (9 : Int32) ≤ (x5 - (28 : Int32)) then (F_X0_work_g_160 rc27 i0 x1 x3 x4 x5 σ) else (if (24 : Int32) ≤ x3 then (F_X0_work_g_160 rc27 i0 x1 x3 x4 x5 σ) else (if inb (x5 - (28 : Int32)) 9 = true then (if inb x3 24 = true then (F_X0_work_g_154 rc27 i0 x1 x3 x4 (setA σ 1 i0 15 (upd (mA σ 1 i0 15) x3.toNatClampNeg (mA σ 0 0 22 (x5 - (28 : Int32)).toNatClampNeg)))) else none) else none))))
set_option maxRecDepth 20000 in
theorem zb_X0_work_g_118 {S : Shp} {rc27 : Nat → Int32 → Int32 → Int32 → Mm → Option (Int32 × Mm)} (hrc27 : ∀ {i0 : Nat} (hi0 : tlv (sH S) i0 = true) {x1 : Int32} {x3 : Int32} {x4 : Int32} {σ : Mm} {r : Int32 × Mm}, rc27 i0 x1 x3 x4 σ = some r → Z m_X0_work S (Qi r) 27 [(0, .ref (sL S 1 i0 10)), (1, .int (x1)), (2, .ref (sL S 0 0 22)), (3, .int (x3)), (4, .int (x4))] [] σ) {i0 : Nat} (hi0 : tlv (sH S) i0 = true) {x1 : Int32} {x3 : Int32} {x4 : Int32} {x5 : Int32} {σ : Mm} {r : Int32 × Mm} (h : F_X0_work_g_118 rc27 i0 x1 x3 x4 x5 σ = some r) : Z m_X0_work S (Qi r) 118 [(0, .ref (sL S 1 i0 10)), (1, .int (x1)), (2, .ref (sL S 0 0 22)), (3, .int (x3)), (4, .int (x4)), (5, .int (x5))] [] σ := by
  unfold F_X0_work_g_118 at h
  refine z_iload dX0_work_118 5 rfl ?_
  refine z_bipush (v := 28) dX0_work_120 (by decide) ?_
  refine z_icmp_lt (tgt := 160) dX0_work_122 (by decide) (fun q => ?_) (fun q => ?_)
  · have h := (if_pos q).symm.trans h
    exact zb_X0_work_g_160 hrc27 (hi0) h
  · have h := (if_neg q).symm.trans h
    refine z_iload dX0_work_125 5 rfl ?_
    refine z_bipush (v := 28) dX0_work_127 (by decide) ?_
    refine z_isub dX0_work_129 ?_
    refine z_aload_n dX0_work_130 rfl 2 rfl ?_
    refine z_alen (n0 := 9) (v := 9) rfl (fun _ _ => rfl) (by decide) dX0_work_131 ?_
    refine z_icmp_ge (tgt := 160) dX0_work_132 (by decide) (fun q => ?_) (fun q => ?_)
    · have h := (if_pos q).symm.trans h
      exact zb_X0_work_g_160 hrc27 (hi0) h
    · have h := (if_neg q).symm.trans h
      refine z_iload_n dX0_work_135 rfl 3 rfl ?_
      refine z_bipush (v := 24) dX0_work_136 (by decide) ?_
      refine z_icmp_ge (tgt := 160) dX0_work_138 (by decide) (fun q => ?_) (fun q => ?_)
      · have h := (if_pos q).symm.trans h
        exact zb_X0_work_g_160 hrc27 (hi0) h
      · have h := (if_neg q).symm.trans h
        obtain ⟨g9, h⟩ := gd h
        refine z_aload_n dX0_work_141 rfl 0 rfl ?_
        refine gf_0_28 (lv1 (hi0) rfl) rfl dX0_work_142 ?_
        refine z_iload_n dX0_work_145 rfl 3 rfl ?_
        refine z_aload_n dX0_work_146 rfl 2 rfl ?_
        refine z_iload dX0_work_147 5 rfl ?_
        refine z_bipush (v := 28) dX0_work_149 (by decide) ?_
        refine z_isub dX0_work_151 ?_
        obtain ⟨g10, h⟩ := gd h
        refine ia_0_22 (inb_in g9) dX0_work_152 ?_
        refine is_1_15 (lv1 (hi0) rfl) (inb_in g10) dX0_work_153 ?_
        refine Z.lv [0, 1, 2, 3, 4] rfl ?_
        exact zb_X0_work_g_154 hrc27 (hi0) h
def F_X0_work_g_112 (rc27 : Nat → Int32 → Int32 → Int32 → Mm → Option (Int32 × Mm)) (i0 : Nat) (x1 : Int32) (x3 : Int32) (x4 : Int32) (σ : Mm) : Option (Int32 × Mm) := (F_X0_work_g_196 rc27 i0 x1 (x3 + 1) x4 σ)
set_option maxRecDepth 20000 in
theorem zb_X0_work_g_112 {S : Shp} {rc27 : Nat → Int32 → Int32 → Int32 → Mm → Option (Int32 × Mm)} (hrc27 : ∀ {i0 : Nat} (hi0 : tlv (sH S) i0 = true) {x1 : Int32} {x3 : Int32} {x4 : Int32} {σ : Mm} {r : Int32 × Mm}, rc27 i0 x1 x3 x4 σ = some r → Z m_X0_work S (Qi r) 27 [(0, .ref (sL S 1 i0 10)), (1, .int (x1)), (2, .ref (sL S 0 0 22)), (3, .int (x3)), (4, .int (x4))] [] σ) {i0 : Nat} (hi0 : tlv (sH S) i0 = true) {x1 : Int32} {x3 : Int32} {x4 : Int32} {σ : Mm} {r : Int32 × Mm} (h : F_X0_work_g_112 rc27 i0 x1 x3 x4 σ = some r) : Z m_X0_work S (Qi r) 112 [(0, .ref (sL S 1 i0 10)), (1, .int (x1)), (2, .ref (sL S 0 0 22)), (3, .int (x3)), (4, .int (x4))] [] σ := by
  unfold F_X0_work_g_112 at h
  refine z_iinc (j := 3) (v := x3 + 1) (lv' := [(0, .ref (sL S 1 i0 10)), (1, .int (x1)), (2, .ref (sL S 0 0 22)), (3, .int (x3 + 1)), (4, .int (x4))]) dX0_work_112 rfl rfl (by decide) [1, 2, 3, 0, 4] rfl ?_
  refine z_goto (tgt := 196) dX0_work_115 (by decide) ?_
  exact zb_X0_work_g_196 hrc27 (hi0) h
def F_X0_work_g_87 (rc27 : Nat → Int32 → Int32 → Int32 → Mm → Option (Int32 × Mm)) (i0 : Nat) (x1 : Int32) (x3 : Int32) (x4 : Int32) (x5 : Int32) (σ : Mm) : Option (Int32 × Mm) := (if x5 = (3 : Int32) then (if (24 : Int32) ≤ x3 then (F_X0_work_g_118 rc27 i0 x1 x3 x4 x5 σ) else (if inb x4 400 = true then (if inb x3 24 = true then (F_X0_work_g_112 rc27 i0 x1 x3 x4 (setA σ 1 i0 15 (upd (mA σ 1 i0 15) x3.toNatClampNeg (mA σ 1 i0 12 x4.toNatClampNeg)))) else none) else none)) else (F_X0_work_g_118 rc27 i0 x1 x3 x4 x5 σ))
set_option maxRecDepth 20000 in
theorem zb_X0_work_g_87 {S : Shp} {rc27 : Nat → Int32 → Int32 → Int32 → Mm → Option (Int32 × Mm)} (hrc27 : ∀ {i0 : Nat} (hi0 : tlv (sH S) i0 = true) {x1 : Int32} {x3 : Int32} {x4 : Int32} {σ : Mm} {r : Int32 × Mm}, rc27 i0 x1 x3 x4 σ = some r → Z m_X0_work S (Qi r) 27 [(0, .ref (sL S 1 i0 10)), (1, .int (x1)), (2, .ref (sL S 0 0 22)), (3, .int (x3)), (4, .int (x4))] [] σ) {i0 : Nat} (hi0 : tlv (sH S) i0 = true) {x1 : Int32} {x3 : Int32} {x4 : Int32} {x5 : Int32} {σ : Mm} {r : Int32 × Mm} (h : F_X0_work_g_87 rc27 i0 x1 x3 x4 x5 σ = some r) : Z m_X0_work S (Qi r) 87 [(0, .ref (sL S 1 i0 10)), (1, .int (x1)), (2, .ref (sL S 0 0 22)), (3, .int (x3)), (4, .int (x4)), (5, .int (x5))] [] σ := by
  unfold F_X0_work_g_87 at h
  refine z_iload dX0_work_87 5 rfl ?_
  refine z_iconst (v := 3) dX0_work_89 (by decide) ?_
  refine z_icmp_ne (tgt := 118) dX0_work_90 (by decide) (fun q => ?_) (fun q => ?_)
  · have h := (if_neg q).symm.trans h
    exact zb_X0_work_g_118 hrc27 (hi0) h
  · have h := (if_pos q).symm.trans h
    refine z_iload_n dX0_work_93 rfl 3 rfl ?_
    refine z_bipush (v := 24) dX0_work_94 (by decide) ?_
    refine z_icmp_ge (tgt := 118) dX0_work_96 (by decide) (fun q => ?_) (fun q => ?_)
    · have h := (if_pos q).symm.trans h
      exact zb_X0_work_g_118 hrc27 (hi0) h
    · have h := (if_neg q).symm.trans h
      obtain ⟨g7, h⟩ := gd h
      refine z_aload_n dX0_work_99 rfl 0 rfl ?_
      refine gf_0_28 (lv1 (hi0) rfl) rfl dX0_work_100 ?_
      refine z_iload_n dX0_work_103 rfl 3 rfl ?_
      refine z_aload_n dX0_work_104 rfl 0 rfl ?_
      refine gf_0_19 (lv1 (hi0) rfl) rfl dX0_work_105 ?_
      refine z_iload dX0_work_108 4 rfl ?_
      obtain ⟨g8, h⟩ := gd h
      refine ia_1_12 (lv1 (hi0) rfl) (inb_in g7) dX0_work_110 ?_
      refine is_1_15 (lv1 (hi0) rfl) (inb_in g8) dX0_work_111 ?_
      refine Z.lv [0, 1, 2, 3, 4] rfl ?_
      exact zb_X0_work_g_112 hrc27 (hi0) h
def B_X0_work_g_27 (rc27 : Nat → Int32 → Int32 → Int32 → Mm → Option (Int32 × Mm)) (i0 : Nat) (x1 : Int32) (x3 : Int32) (x4 : Int32) (σ : Mm) : Option (Int32 × Mm) := (if inb x1 11 = true then (if (mA σ 1 i0 14 x1.toNatClampNeg) ≤ x4 then (F_X0_work_g_202 i0 x3 σ) else (if (400 : Int32) ≤ x4 then (F_X0_work_g_202 i0 x3 σ) else (if inb x4 400 = true then (if (mA σ 1 i0 11 x4.toNatClampNeg) = (27 : Int32) then (if x3 ≤ 0 then (F_X0_work_g_87 rc27 i0 x1 x3 x4 (mA σ 1 i0 11 x4.toNatClampNeg) σ) else (if inb (x3 - (1 : Int32)) 24 = true then (if inb (x3 - (1 : Int32)) 24 = true then (F_X0_work_g_196 rc27 i0 x1 x3 x4 (setA σ 1 i0 15 (upd (mA σ 1 i0 15) (x3 - (1 : Int32)).toNatClampNeg ((1 : Int32) - (mA σ 1 i0 15 (x3 - (1 : Int32)).toNatClampNeg))))) else none) else none)) else (F_X0_work_g_87 rc27 i0 x1 x3 x4 (mA σ 1 i0 11 x4.toNatClampNeg) σ)) else none))) else none)
set_option maxRecDepth 20000 in
theorem zB_X0_work_g_27 {S : Shp} {rc27 : Nat → Int32 → Int32 → Int32 → Mm → Option (Int32 × Mm)} (hrc27 : ∀ {i0 : Nat} (hi0 : tlv (sH S) i0 = true) {x1 : Int32} {x3 : Int32} {x4 : Int32} {σ : Mm} {r : Int32 × Mm}, rc27 i0 x1 x3 x4 σ = some r → Z m_X0_work S (Qi r) 27 [(0, .ref (sL S 1 i0 10)), (1, .int (x1)), (2, .ref (sL S 0 0 22)), (3, .int (x3)), (4, .int (x4))] [] σ) {i0 : Nat} (hi0 : tlv (sH S) i0 = true) {x1 : Int32} {x3 : Int32} {x4 : Int32} {σ : Mm} {r : Int32 × Mm} (h : B_X0_work_g_27 rc27 i0 x1 x3 x4 σ = some r) : Z m_X0_work S (Qi r) 27 [(0, .ref (sL S 1 i0 10)), (1, .int (x1)), (2, .ref (sL S 0 0 22)), (3, .int (x3)), (4, .int (x4))] [] σ := by
  unfold B_X0_work_g_27 at h
  obtain ⟨g2, h⟩ := gd h
  refine z_iload dX0_work_27 4 rfl ?_
  refine z_aload_n dX0_work_29 rfl 0 rfl ?_
  refine gf_0_25 (lv1 (hi0) rfl) rfl dX0_work_30 ?_
  refine z_iload_n dX0_work_33 rfl 1 rfl ?_
  refine ia_1_14 (lv1 (hi0) rfl) (inb_in g2) dX0_work_34 ?_
  refine z_icmp_ge (tgt := 202) dX0_work_35 (by decide) (fun q => ?_) (fun q => ?_)
  · have h := (if_pos q).symm.trans h
    refine Z.lv [0, 3] rfl ?_
    exact zb_X0_work_g_202 (hi0) h
  · have h := (if_neg q).symm.trans h
    refine z_iload dX0_work_38 4 rfl ?_
    refine z_sipush (v := 400) dX0_work_40 (by decide) ?_
    refine z_icmp_ge (tgt := 202) dX0_work_43 (by decide) (fun q => ?_) (fun q => ?_)
    · have h := (if_pos q).symm.trans h
      refine Z.lv [0, 3] rfl ?_
      exact zb_X0_work_g_202 (hi0) h
    · have h := (if_neg q).symm.trans h
      obtain ⟨g3, h⟩ := gd h
      refine z_aload_n dX0_work_46 rfl 0 rfl ?_
      refine gf_0_15 (lv1 (hi0) rfl) rfl dX0_work_47 ?_
      refine z_iload dX0_work_50 4 rfl ?_
      refine ia_1_11 (lv1 (hi0) rfl) (inb_in g3) dX0_work_52 ?_
      refine z_istore (lv' := [(0, .ref (sL S 1 i0 10)), (1, .int (x1)), (2, .ref (sL S 0 0 22)), (3, .int (x3)), (4, .int (x4)), (5, .int (mA σ 1 i0 11 x4.toNatClampNeg))]) dX0_work_53 (by decide) [1, 2, 3, 4, 5, 0] rfl ?_
      refine z_iload dX0_work_55 5 rfl ?_
      refine z_bipush (v := 27) dX0_work_57 (by decide) ?_
      refine z_icmp_ne (tgt := 87) dX0_work_59 (by decide) (fun q => ?_) (fun q => ?_)
      · have h := (if_neg q).symm.trans h
        exact zb_X0_work_g_87 hrc27 (hi0) h
      · have h := (if_pos q).symm.trans h
        refine z_iload_n dX0_work_62 rfl 3 rfl ?_
        refine z_if_le (tgt := 87) dX0_work_63 (by decide) (fun q => ?_) (fun q => ?_)
        · have h := (if_pos q).symm.trans h
          exact zb_X0_work_g_87 hrc27 (hi0) h
        · have h := (if_neg q).symm.trans h
          obtain ⟨g4, h⟩ := gd h
          refine z_aload_n dX0_work_66 rfl 0 rfl ?_
          refine gf_0_28 (lv1 (hi0) rfl) rfl dX0_work_67 ?_
          refine z_iload_n dX0_work_70 rfl 3 rfl ?_
          refine z_iconst (v := 1) dX0_work_71 (by decide) ?_
          refine z_isub dX0_work_72 ?_
          refine z_iconst (v := 1) dX0_work_73 (by decide) ?_
          refine z_aload_n dX0_work_74 rfl 0 rfl ?_
          refine gf_0_28 (lv1 (hi0) rfl) rfl dX0_work_75 ?_
          refine z_iload_n dX0_work_78 rfl 3 rfl ?_
          refine z_iconst (v := 1) dX0_work_79 (by decide) ?_
          refine z_isub dX0_work_80 ?_
          obtain ⟨g5, h⟩ := gd h
          refine ia_1_15 (lv1 (hi0) rfl) (inb_in g4) dX0_work_81 ?_
          refine z_isub dX0_work_82 ?_
          refine is_1_15 (lv1 (hi0) rfl) (inb_in g5) dX0_work_83 ?_
          refine z_goto (tgt := 196) dX0_work_84 (by decide) ?_
          refine Z.lv [0, 1, 2, 3, 4] rfl ?_
          exact zb_X0_work_g_196 hrc27 (hi0) h
def F_X0_work_g_27 : Nat → Nat → Int32 → Int32 → Int32 → Mm → Option (Int32 × Mm)
  | 0 => fun _ _ _ _ _ => none
  | n + 1 => B_X0_work_g_27 (F_X0_work_g_27 n)
theorem zl_X0_work_g_27 {S : Shp} : ∀ (nn : Nat) {i0 : Nat} (hi0 : tlv (sH S) i0 = true) {x1 : Int32} {x3 : Int32} {x4 : Int32} {σ : Mm} {r : Int32 × Mm}, F_X0_work_g_27 nn i0 x1 x3 x4 σ = some r → Z m_X0_work S (Qi r) 27 [(0, .ref (sL S 1 i0 10)), (1, .int (x1)), (2, .ref (sL S 0 0 22)), (3, .int (x3)), (4, .int (x4))] [] σ := by
  intro nn
  induction nn with
  | zero => intro i0 hi0 x1 x3 x4 σ r h; cases h
  | succ nn ih => intro i0 hi0 x1 x3 x4 σ r h; exact zB_X0_work_g_27 @ih hi0 h
def F_X0_work_g_7 (i0 : Nat) (x1 : Int32) (x3 : Int32) (σ : Mm) : Option (Int32 × Mm) := (if x1 < 0 then some (0, σ) else (if x1 < (11 : Int32) then (if inb x1 11 = true then (F_X0_work_g_27 FU i0 x1 x3 (mA σ 1 i0 13 x1.toNatClampNeg) σ) else none) else some (0, σ)))
set_option maxRecDepth 20000 in
theorem zb_X0_work_g_7 {S : Shp} {i0 : Nat} (hi0 : tlv (sH S) i0 = true) {x1 : Int32} {x3 : Int32} {σ : Mm} {r : Int32 × Mm} (h : F_X0_work_g_7 i0 x1 x3 σ = some r) : Z m_X0_work S (Qi r) 7 [(0, .ref (sL S 1 i0 10)), (1, .int (x1)), (2, .ref (sL S 0 0 22)), (3, .int (x3))] [] σ := by
  unfold F_X0_work_g_7 at h
  refine z_iload_n dX0_work_7 rfl 1 rfl ?_
  refine z_if_lt (tgt := 17) dX0_work_8 (by decide) (fun q => ?_) (fun q => ?_)
  · have h := (if_pos q).symm.trans h
    refine z_iconst (v := 0) dX0_work_17 (by decide) ?_
    cases h
    exact z_ireturn dX0_work_18 rfl rfl ⟨rfl, rfl⟩
  · have h := (if_neg q).symm.trans h
    refine z_iload_n dX0_work_11 rfl 1 rfl ?_
    refine z_bipush (v := 11) dX0_work_12 (by decide) ?_
    refine z_icmp_lt (tgt := 19) dX0_work_14 (by decide) (fun q => ?_) (fun q => ?_)
    · have h := (if_pos q).symm.trans h
      obtain ⟨g1, h⟩ := gd h
      refine z_aload_n dX0_work_19 rfl 0 rfl ?_
      refine gf_0_22 (lv1 (hi0) rfl) rfl dX0_work_20 ?_
      refine z_iload_n dX0_work_23 rfl 1 rfl ?_
      refine ia_1_13 (lv1 (hi0) rfl) (inb_in g1) dX0_work_24 ?_
      refine z_istore (lv' := [(0, .ref (sL S 1 i0 10)), (1, .int (x1)), (2, .ref (sL S 0 0 22)), (3, .int (x3)), (4, .int (mA σ 1 i0 13 x1.toNatClampNeg))]) dX0_work_25 (by decide) [1, 2, 3, 4, 0] rfl ?_
      exact zl_X0_work_g_27 FU (hi0) h
    · have h := (if_neg q).symm.trans h
      refine z_iconst (v := 0) dX0_work_17 (by decide) ?_
      cases h
      exact z_ireturn dX0_work_18 rfl rfl ⟨rfl, rfl⟩
def F_X0_work_g (i0 : Nat) (x1 : Int32) (σ : Mm) : Option (Int32 × Mm) := (F_X0_work_g_7 i0 x1 0 (setA σ 1 i0 10 (upd (mA σ 1 i0 10) 6 0)))
set_option maxRecDepth 20000 in
theorem zb_X0_work_g {S : Shp} {i0 : Nat} (hi0 : tlv (sH S) i0 = true) {x1 : Int32} {σ : Mm} {r : Int32 × Mm} (h : F_X0_work_g i0 x1 σ = some r) : Z m_X0_work S (Qi r) 0 [(0, .ref (sL S 1 i0 10)), (1, .int (x1)), (2, .ref (sL S 0 0 22))] [] σ := by
  unfold F_X0_work_g at h
  refine z_iconst (v := 0) dX0_work_0 (by decide) ?_
  refine z_istore_n (lv' := [(0, .ref (sL S 1 i0 10)), (1, .int (x1)), (2, .ref (sL S 0 0 22)), (3, .int (0))]) dX0_work_1 rfl (by decide) [1, 2, 3, 0] rfl ?_
  refine z_aload_n dX0_work_2 rfl 0 rfl ?_
  refine z_iconst (v := 0) dX0_work_3 (by decide) ?_
  refine pf_0_31 (lv1 (hi0) rfl) rfl dX0_work_4 rfl rfl ?_
  exact zb_X0_work_g_7 (hi0) h
/-- SkyStones$Code.work(I[I)I -/
theorem c_X0_work_g {S : Shp} {i0 : Nat} (hi0 : tlv (sH S) i0 = true) {x1 : Int32} {σ : Mm} {r : Int32 × Mm} (h : F_X0_work_g i0 x1 σ = some r) : Ct m_X0_work S [.ref (sL S 1 i0 10), .int (x1), .ref (sL S 0 0 22)] σ (Qi r) := Ct.of (by decide +kernel) (Nat.le_of_ble_eq_true rfl) (zb_X0_work_g hi0 h)
def F_X0_work_s_214 (σ : Mm) : Option (Int32 × Mm) := some (0, σ)
set_option maxRecDepth 20000 in
theorem zb_X0_work_s_214 {S : Shp} {σ : Mm} {r : Int32 × Mm} (h : F_X0_work_s_214 σ = some r) : Z m_X0_work S (Qi r) 214 [] [] σ := by
  unfold F_X0_work_s_214 at h
  refine z_iconst (v := 0) dX0_work_214 (by decide) ?_
  refine z_goto (tgt := 226) dX0_work_215 (by decide) ?_
  cases h
  exact z_ireturn dX0_work_226 rfl rfl ⟨rfl, rfl⟩
def F_X0_work_s_202 (i0 : Nat) (x3 : Int32) (σ : Mm) : Option (Int32 × Mm) := (if (mA σ 1 i0 10 6) = 0 then (if (1 : Int32) ≤ x3 then (if inb (x3 - (1 : Int32)) 24 = true then some (mA σ 1 i0 15 (x3 - (1 : Int32)).toNatClampNeg, σ) else none) else (F_X0_work_s_214 σ)) else (F_X0_work_s_214 σ))
set_option maxRecDepth 20000 in
theorem zb_X0_work_s_202 {S : Shp} {i0 : Nat} (hi0 : tlv (sH S) i0 = true) {x3 : Int32} {σ : Mm} {r : Int32 × Mm} (h : F_X0_work_s_202 i0 x3 σ = some r) : Z m_X0_work S (Qi r) 202 [(0, .ref (sL S 1 i0 10)), (3, .int (x3))] [] σ := by
  unfold F_X0_work_s_202 at h
  refine z_aload_n dX0_work_202 rfl 0 rfl ?_
  refine gf_0_31 (lv1 (hi0) rfl) rfl dX0_work_203 ?_
  refine z_if_ne (tgt := 214) dX0_work_206 (by decide) (fun q => ?_) (fun q => ?_)
  · have h := (if_neg q).symm.trans h
    refine Z.lv [] rfl ?_
    exact zb_X0_work_s_214 h
  · have h := (if_pos q).symm.trans h
    refine z_iload_n dX0_work_209 rfl 1 rfl ?_
    refine z_iconst (v := 1) dX0_work_210 (by decide) ?_
    refine z_icmp_ge (tgt := 218) dX0_work_211 (by decide) (fun q => ?_) (fun q => ?_)
    · have h := (if_pos q).symm.trans h
      obtain ⟨g6, h⟩ := gd h
      refine z_aload_n dX0_work_218 rfl 0 rfl ?_
      refine gf_0_28 (lv1 (hi0) rfl) rfl dX0_work_219 ?_
      refine z_iload_n dX0_work_222 rfl 1 rfl ?_
      refine z_iconst (v := 1) dX0_work_223 (by decide) ?_
      refine z_isub dX0_work_224 ?_
      refine ia_1_15 (lv1 (hi0) rfl) (inb_in g6) dX0_work_225 ?_
      cases h
      exact z_ireturn dX0_work_226 rfl rfl ⟨rfl, rfl⟩
    · have h := (if_neg q).symm.trans h
      refine Z.lv [] rfl ?_
      exact zb_X0_work_s_214 h
def F_X0_work_s_196 (rc27 : Nat → Int32 → Int32 → Int32 → Mm → Option (Int32 × Mm)) (i0 : Nat) (x1 : Int32) (x3 : Int32) (x4 : Int32) (σ : Mm) : Option (Int32 × Mm) := (rc27 i0 x1 x3 (x4 + 1) σ)
set_option maxRecDepth 20000 in
theorem zb_X0_work_s_196 {S : Shp} {rc27 : Nat → Int32 → Int32 → Int32 → Mm → Option (Int32 × Mm)} (hrc27 : ∀ {i0 : Nat} (hi0 : tlv (sH S) i0 = true) {x1 : Int32} {x3 : Int32} {x4 : Int32} {σ : Mm} {r : Int32 × Mm}, rc27 i0 x1 x3 x4 σ = some r → Z m_X0_work S (Qi r) 27 [(0, .ref (sL S 1 i0 10)), (1, .int (x1)), (2, .ref (sL S 0 0 28)), (3, .int (x3)), (4, .int (x4))] [] σ) {i0 : Nat} (hi0 : tlv (sH S) i0 = true) {x1 : Int32} {x3 : Int32} {x4 : Int32} {σ : Mm} {r : Int32 × Mm} (h : F_X0_work_s_196 rc27 i0 x1 x3 x4 σ = some r) : Z m_X0_work S (Qi r) 196 [(0, .ref (sL S 1 i0 10)), (1, .int (x1)), (2, .ref (sL S 0 0 28)), (3, .int (x3)), (4, .int (x4))] [] σ := by
  unfold F_X0_work_s_196 at h
  refine z_iinc (j := 4) (v := x4 + 1) (lv' := [(0, .ref (sL S 1 i0 10)), (1, .int (x1)), (2, .ref (sL S 0 0 28)), (3, .int (x3)), (4, .int (x4 + 1))]) dX0_work_196 rfl rfl (by decide) [1, 2, 3, 4, 0] rfl ?_
  refine z_goto (tgt := 27) dX0_work_199 (by decide) ?_
  exact hrc27 (hi0) h
def F_X0_work_s_195 (rc27 : Nat → Int32 → Int32 → Int32 → Mm → Option (Int32 × Mm)) (i0 : Nat) (x1 : Int32) (x3 : Int32) (x4 : Int32) (s0 : Int32) (s1 : Int32) (σ : Mm) : Option (Int32 × Mm) := (if inb s1 24 = true then (F_X0_work_s_196 rc27 i0 x1 x3 x4 (setA σ 1 i0 15 (upd (mA σ 1 i0 15) s1.toNatClampNeg s0))) else none)
set_option maxRecDepth 20000 in
theorem zb_X0_work_s_195 {S : Shp} {rc27 : Nat → Int32 → Int32 → Int32 → Mm → Option (Int32 × Mm)} (hrc27 : ∀ {i0 : Nat} (hi0 : tlv (sH S) i0 = true) {x1 : Int32} {x3 : Int32} {x4 : Int32} {σ : Mm} {r : Int32 × Mm}, rc27 i0 x1 x3 x4 σ = some r → Z m_X0_work S (Qi r) 27 [(0, .ref (sL S 1 i0 10)), (1, .int (x1)), (2, .ref (sL S 0 0 28)), (3, .int (x3)), (4, .int (x4))] [] σ) {i0 : Nat} (hi0 : tlv (sH S) i0 = true) {x1 : Int32} {x3 : Int32} {x4 : Int32} {s0 : Int32} {s1 : Int32} {σ : Mm} {r : Int32 × Mm} (h : F_X0_work_s_195 rc27 i0 x1 x3 x4 s0 s1 σ = some r) : Z m_X0_work S (Qi r) 195 [(0, .ref (sL S 1 i0 10)), (1, .int (x1)), (2, .ref (sL S 0 0 28)), (3, .int (x3)), (4, .int (x4))] [.int (s0), .int (s1), .ref (sL S 1 i0 15)] σ := by
  unfold F_X0_work_s_195 at h
  obtain ⟨g13, h⟩ := gd h
  refine is_1_15 (lv1 (hi0) rfl) (inb_in g13) dX0_work_195 ?_
  exact zb_X0_work_s_196 hrc27 (hi0) h
def F_X0_work_s_160 (rc27 : Nat → Int32 → Int32 → Int32 → Mm → Option (Int32 × Mm)) (i0 : Nat) (x1 : Int32) (x3 : Int32) (x4 : Int32) (x5 : Int32) (σ : Mm) : Option (Int32 × Mm) := (if x3 ≤ (1 : Int32) then (F_X0_work_s_196 rc27 i0 x1 x3 x4 σ) else (if inb ((x3 + (-1)) - (1 : Int32)) 24 = true then (if inb (x3 + (-1)) 24 = true then (bnd (F_X0_joined i0 x5 (mA σ 1 i0 15 ((x3 + (-1)) - (1 : Int32)).toNatClampNeg) (mA σ 1 i0 15 (x3 + (-1)).toNatClampNeg) σ) (fun v τ => (F_X0_work_s_195 rc27 i0 x1 (x3 + (-1)) x4 v ((x3 + (-1)) - (1 : Int32)) τ))) else none) else none))
set_option maxRecDepth 20000 in
theorem zb_X0_work_s_160 {S : Shp} {rc27 : Nat → Int32 → Int32 → Int32 → Mm → Option (Int32 × Mm)} (hrc27 : ∀ {i0 : Nat} (hi0 : tlv (sH S) i0 = true) {x1 : Int32} {x3 : Int32} {x4 : Int32} {σ : Mm} {r : Int32 × Mm}, rc27 i0 x1 x3 x4 σ = some r → Z m_X0_work S (Qi r) 27 [(0, .ref (sL S 1 i0 10)), (1, .int (x1)), (2, .ref (sL S 0 0 28)), (3, .int (x3)), (4, .int (x4))] [] σ) {i0 : Nat} (hi0 : tlv (sH S) i0 = true) {x1 : Int32} {x3 : Int32} {x4 : Int32} {x5 : Int32} {σ : Mm} {r : Int32 × Mm} (h : F_X0_work_s_160 rc27 i0 x1 x3 x4 x5 σ = some r) : Z m_X0_work S (Qi r) 160 [(0, .ref (sL S 1 i0 10)), (1, .int (x1)), (2, .ref (sL S 0 0 28)), (3, .int (x3)), (4, .int (x4)), (5, .int (x5))] [] σ := by
  unfold F_X0_work_s_160 at h
  refine z_iload_n dX0_work_160 rfl 3 rfl ?_
  refine z_iconst (v := 1) dX0_work_161 (by decide) ?_
  refine z_icmp_le (tgt := 196) dX0_work_162 (by decide) (fun q => ?_) (fun q => ?_)
  · have h := (if_pos q).symm.trans h
    refine Z.lv [0, 1, 2, 3, 4] rfl ?_
    exact zb_X0_work_s_196 hrc27 (hi0) h
  · have h := (if_neg q).symm.trans h
    obtain ⟨g11, h⟩ := gd h
    refine z_iinc (j := 3) (v := x3 + (-1)) (lv' := [(0, .ref (sL S 1 i0 10)), (1, .int (x1)), (2, .ref (sL S 0 0 28)), (3, .int (x3 + (-1))), (4, .int (x4)), (5, .int (x5))]) dX0_work_165 rfl rfl (by decide) [1, 2, 3, 0, 4, 5] rfl ?_
    refine z_aload_n dX0_work_168 rfl 0 rfl ?_
    refine gf_0_28 (lv1 (hi0) rfl) rfl dX0_work_169 ?_
    refine z_iload_n dX0_work_172 rfl 3 rfl ?_
    refine z_iconst (v := 1) dX0_work_173 (by decide) ?_
    refine z_isub dX0_work_174 ?_
    refine z_aload_n dX0_work_175 rfl 0 rfl ?_
    refine z_iload dX0_work_176 5 rfl ?_
    refine z_aload_n dX0_work_178 rfl 0 rfl ?_
    refine gf_0_28 (lv1 (hi0) rfl) rfl dX0_work_179 ?_
    refine z_iload_n dX0_work_182 rfl 3 rfl ?_
    refine z_iconst (v := 1) dX0_work_183 (by decide) ?_
    refine z_isub dX0_work_184 ?_
    obtain ⟨g12, h⟩ := gd h
    refine ia_1_15 (lv1 (hi0) rfl) (inb_in g11) dX0_work_185 ?_
    refine z_aload_n dX0_work_186 rfl 0 rfl ?_
    refine gf_0_28 (lv1 (hi0) rfl) rfl dX0_work_187 ?_
    refine z_iload_n dX0_work_190 rfl 3 rfl ?_
    refine ia_1_15 (lv1 (hi0) rfl) (inb_in g12) dX0_work_191 ?_
    obtain ⟨v, τ, hc, h⟩ := bnd_e h
    refine z_callV (M' := m_X0_joined) (t := 1) (i := i0) (k := 10) (As := [.int (x5), .int (mA σ 1 i0 15 ((x3 + (-1)) - (1 : Int32)).toNatClampNeg), .int (mA σ 1 i0 15 (x3 + (-1)).toNatClampNeg)]) (rest := [.int ((x3 + (-1)) - (1 : Int32)), .ref (sL S 1 i0 15)]) kl_0_41 oy_X0_joined ⟨Nat.le_of_ble_eq_true rfl, Nat.le_of_ble_eq_true rfl⟩ (lv1 (hi0) rfl) rfl rfl rfl (Nat.le_of_ble_eq_true rfl) rfl dX0_work_192 (c_X0_joined (hi0) hc) (fun v2 τ2 hq => ?_)
    obtain ⟨rfl, hτ⟩ := hq
    subst τ2
    change Z _ _ _ _ _ [.int (v), .int ((x3 + (-1)) - (1 : Int32)), .ref (sL S 1 i0 15)] _
    refine Z.lv [0, 1, 2, 3, 4] rfl ?_
    exact zb_X0_work_s_195 hrc27 (hi0) h
def F_X0_work_s_154 (rc27 : Nat → Int32 → Int32 → Int32 → Mm → Option (Int32 × Mm)) (i0 : Nat) (x1 : Int32) (x3 : Int32) (x4 : Int32) (σ : Mm) : Option (Int32 × Mm) := (F_X0_work_s_196 rc27 i0 x1 (x3 + 1) x4 σ)
set_option maxRecDepth 20000 in
theorem zb_X0_work_s_154 {S : Shp} {rc27 : Nat → Int32 → Int32 → Int32 → Mm → Option (Int32 × Mm)} (hrc27 : ∀ {i0 : Nat} (hi0 : tlv (sH S) i0 = true) {x1 : Int32} {x3 : Int32} {x4 : Int32} {σ : Mm} {r : Int32 × Mm}, rc27 i0 x1 x3 x4 σ = some r → Z m_X0_work S (Qi r) 27 [(0, .ref (sL S 1 i0 10)), (1, .int (x1)), (2, .ref (sL S 0 0 28)), (3, .int (x3)), (4, .int (x4))] [] σ) {i0 : Nat} (hi0 : tlv (sH S) i0 = true) {x1 : Int32} {x3 : Int32} {x4 : Int32} {σ : Mm} {r : Int32 × Mm} (h : F_X0_work_s_154 rc27 i0 x1 x3 x4 σ = some r) : Z m_X0_work S (Qi r) 154 [(0, .ref (sL S 1 i0 10)), (1, .int (x1)), (2, .ref (sL S 0 0 28)), (3, .int (x3)), (4, .int (x4))] [] σ := by
  unfold F_X0_work_s_154 at h
  refine z_iinc (j := 3) (v := x3 + 1) (lv' := [(0, .ref (sL S 1 i0 10)), (1, .int (x1)), (2, .ref (sL S 0 0 28)), (3, .int (x3 + 1)), (4, .int (x4))]) dX0_work_154 rfl rfl (by decide) [1, 2, 3, 0, 4] rfl ?_
  refine z_goto (tgt := 196) dX0_work_157 (by decide) ?_
  exact zb_X0_work_s_196 hrc27 (hi0) h
def F_X0_work_s_118 (rc27 : Nat → Int32 → Int32 → Int32 → Mm → Option (Int32 × Mm)) (i0 : Nat) (x1 : Int32) (x3 : Int32) (x4 : Int32) (x5 : Int32) (σ : Mm) : Option (Int32 × Mm) := (if x5 < (28 : Int32) then (F_X0_work_s_160 rc27 i0 x1 x3 x4 x5 σ) else (if (9 : Int32) ≤ (x5 - (28 : Int32)) then (F_X0_work_s_160 rc27 i0 x1 x3 x4 x5 σ) else (if (24 : Int32) ≤ x3 then (F_X0_work_s_160 rc27 i0 x1 x3 x4 x5 σ) else (if inb (x5 - (28 : Int32)) 9 = true then (if inb x3 24 = true then (F_X0_work_s_154 rc27 i0 x1 x3 x4 (setA σ 1 i0 15 (upd (mA σ 1 i0 15) x3.toNatClampNeg (mA σ 0 0 28 (x5 - (28 : Int32)).toNatClampNeg)))) else none) else none))))
set_option maxRecDepth 20000 in
theorem zb_X0_work_s_118 {S : Shp} {rc27 : Nat → Int32 → Int32 → Int32 → Mm → Option (Int32 × Mm)} (hrc27 : ∀ {i0 : Nat} (hi0 : tlv (sH S) i0 = true) {x1 : Int32} {x3 : Int32} {x4 : Int32} {σ : Mm} {r : Int32 × Mm}, rc27 i0 x1 x3 x4 σ = some r → Z m_X0_work S (Qi r) 27 [(0, .ref (sL S 1 i0 10)), (1, .int (x1)), (2, .ref (sL S 0 0 28)), (3, .int (x3)), (4, .int (x4))] [] σ) {i0 : Nat} (hi0 : tlv (sH S) i0 = true) {x1 : Int32} {x3 : Int32} {x4 : Int32} {x5 : Int32} {σ : Mm} {r : Int32 × Mm} (h : F_X0_work_s_118 rc27 i0 x1 x3 x4 x5 σ = some r) : Z m_X0_work S (Qi r) 118 [(0, .ref (sL S 1 i0 10)), (1, .int (x1)), (2, .ref (sL S 0 0 28)), (3, .int (x3)), (4, .int (x4)), (5, .int (x5))] [] σ := by
  unfold F_X0_work_s_118 at h
  refine z_iload dX0_work_118 5 rfl ?_
  refine z_bipush (v := 28) dX0_work_120 (by decide) ?_
  refine z_icmp_lt (tgt := 160) dX0_work_122 (by decide) (fun q => ?_) (fun q => ?_)
  · have h := (if_pos q).symm.trans h
    exact zb_X0_work_s_160 hrc27 (hi0) h
  · have h := (if_neg q).symm.trans h
    refine z_iload dX0_work_125 5 rfl ?_
    refine z_bipush (v := 28) dX0_work_127 (by decide) ?_
    refine z_isub dX0_work_129 ?_
    refine z_aload_n dX0_work_130 rfl 2 rfl ?_
    refine z_alen (n0 := 9) (v := 9) rfl (fun _ _ => rfl) (by decide) dX0_work_131 ?_
    refine z_icmp_ge (tgt := 160) dX0_work_132 (by decide) (fun q => ?_) (fun q => ?_)
    · have h := (if_pos q).symm.trans h
      exact zb_X0_work_s_160 hrc27 (hi0) h
    · have h := (if_neg q).symm.trans h
      refine z_iload_n dX0_work_135 rfl 3 rfl ?_
      refine z_bipush (v := 24) dX0_work_136 (by decide) ?_
      refine z_icmp_ge (tgt := 160) dX0_work_138 (by decide) (fun q => ?_) (fun q => ?_)
      · have h := (if_pos q).symm.trans h
        exact zb_X0_work_s_160 hrc27 (hi0) h
      · have h := (if_neg q).symm.trans h
        obtain ⟨g9, h⟩ := gd h
        refine z_aload_n dX0_work_141 rfl 0 rfl ?_
        refine gf_0_28 (lv1 (hi0) rfl) rfl dX0_work_142 ?_
        refine z_iload_n dX0_work_145 rfl 3 rfl ?_
        refine z_aload_n dX0_work_146 rfl 2 rfl ?_
        refine z_iload dX0_work_147 5 rfl ?_
        refine z_bipush (v := 28) dX0_work_149 (by decide) ?_
        refine z_isub dX0_work_151 ?_
        obtain ⟨g10, h⟩ := gd h
        refine ia_0_28 (inb_in g9) dX0_work_152 ?_
        refine is_1_15 (lv1 (hi0) rfl) (inb_in g10) dX0_work_153 ?_
        refine Z.lv [0, 1, 2, 3, 4] rfl ?_
        exact zb_X0_work_s_154 hrc27 (hi0) h
def F_X0_work_s_112 (rc27 : Nat → Int32 → Int32 → Int32 → Mm → Option (Int32 × Mm)) (i0 : Nat) (x1 : Int32) (x3 : Int32) (x4 : Int32) (σ : Mm) : Option (Int32 × Mm) := (F_X0_work_s_196 rc27 i0 x1 (x3 + 1) x4 σ)
set_option maxRecDepth 20000 in
theorem zb_X0_work_s_112 {S : Shp} {rc27 : Nat → Int32 → Int32 → Int32 → Mm → Option (Int32 × Mm)} (hrc27 : ∀ {i0 : Nat} (hi0 : tlv (sH S) i0 = true) {x1 : Int32} {x3 : Int32} {x4 : Int32} {σ : Mm} {r : Int32 × Mm}, rc27 i0 x1 x3 x4 σ = some r → Z m_X0_work S (Qi r) 27 [(0, .ref (sL S 1 i0 10)), (1, .int (x1)), (2, .ref (sL S 0 0 28)), (3, .int (x3)), (4, .int (x4))] [] σ) {i0 : Nat} (hi0 : tlv (sH S) i0 = true) {x1 : Int32} {x3 : Int32} {x4 : Int32} {σ : Mm} {r : Int32 × Mm} (h : F_X0_work_s_112 rc27 i0 x1 x3 x4 σ = some r) : Z m_X0_work S (Qi r) 112 [(0, .ref (sL S 1 i0 10)), (1, .int (x1)), (2, .ref (sL S 0 0 28)), (3, .int (x3)), (4, .int (x4))] [] σ := by
  unfold F_X0_work_s_112 at h
  refine z_iinc (j := 3) (v := x3 + 1) (lv' := [(0, .ref (sL S 1 i0 10)), (1, .int (x1)), (2, .ref (sL S 0 0 28)), (3, .int (x3 + 1)), (4, .int (x4))]) dX0_work_112 rfl rfl (by decide) [1, 2, 3, 0, 4] rfl ?_
  refine z_goto (tgt := 196) dX0_work_115 (by decide) ?_
  exact zb_X0_work_s_196 hrc27 (hi0) h
def F_X0_work_s_87 (rc27 : Nat → Int32 → Int32 → Int32 → Mm → Option (Int32 × Mm)) (i0 : Nat) (x1 : Int32) (x3 : Int32) (x4 : Int32) (x5 : Int32) (σ : Mm) : Option (Int32 × Mm) := (if x5 = (3 : Int32) then (if (24 : Int32) ≤ x3 then (F_X0_work_s_118 rc27 i0 x1 x3 x4 x5 σ) else (if inb x4 400 = true then (if inb x3 24 = true then (F_X0_work_s_112 rc27 i0 x1 x3 x4 (setA σ 1 i0 15 (upd (mA σ 1 i0 15) x3.toNatClampNeg (mA σ 1 i0 12 x4.toNatClampNeg)))) else none) else none)) else (F_X0_work_s_118 rc27 i0 x1 x3 x4 x5 σ))
set_option maxRecDepth 20000 in
theorem zb_X0_work_s_87 {S : Shp} {rc27 : Nat → Int32 → Int32 → Int32 → Mm → Option (Int32 × Mm)} (hrc27 : ∀ {i0 : Nat} (hi0 : tlv (sH S) i0 = true) {x1 : Int32} {x3 : Int32} {x4 : Int32} {σ : Mm} {r : Int32 × Mm}, rc27 i0 x1 x3 x4 σ = some r → Z m_X0_work S (Qi r) 27 [(0, .ref (sL S 1 i0 10)), (1, .int (x1)), (2, .ref (sL S 0 0 28)), (3, .int (x3)), (4, .int (x4))] [] σ) {i0 : Nat} (hi0 : tlv (sH S) i0 = true) {x1 : Int32} {x3 : Int32} {x4 : Int32} {x5 : Int32} {σ : Mm} {r : Int32 × Mm} (h : F_X0_work_s_87 rc27 i0 x1 x3 x4 x5 σ = some r) : Z m_X0_work S (Qi r) 87 [(0, .ref (sL S 1 i0 10)), (1, .int (x1)), (2, .ref (sL S 0 0 28)), (3, .int (x3)), (4, .int (x4)), (5, .int (x5))] [] σ := by
  unfold F_X0_work_s_87 at h
  refine z_iload dX0_work_87 5 rfl ?_
  refine z_iconst (v := 3) dX0_work_89 (by decide) ?_
  refine z_icmp_ne (tgt := 118) dX0_work_90 (by decide) (fun q => ?_) (fun q => ?_)
  · have h := (if_neg q).symm.trans h
    exact zb_X0_work_s_118 hrc27 (hi0) h
  · have h := (if_pos q).symm.trans h
    refine z_iload_n dX0_work_93 rfl 3 rfl ?_
    refine z_bipush (v := 24) dX0_work_94 (by decide) ?_
    refine z_icmp_ge (tgt := 118) dX0_work_96 (by decide) (fun q => ?_) (fun q => ?_)
    · have h := (if_pos q).symm.trans h
      exact zb_X0_work_s_118 hrc27 (hi0) h
    · have h := (if_neg q).symm.trans h
      obtain ⟨g7, h⟩ := gd h
      refine z_aload_n dX0_work_99 rfl 0 rfl ?_
      refine gf_0_28 (lv1 (hi0) rfl) rfl dX0_work_100 ?_
      refine z_iload_n dX0_work_103 rfl 3 rfl ?_
      refine z_aload_n dX0_work_104 rfl 0 rfl ?_
      refine gf_0_19 (lv1 (hi0) rfl) rfl dX0_work_105 ?_
      refine z_iload dX0_work_108 4 rfl ?_
      obtain ⟨g8, h⟩ := gd h
      refine ia_1_12 (lv1 (hi0) rfl) (inb_in g7) dX0_work_110 ?_
      refine is_1_15 (lv1 (hi0) rfl) (inb_in g8) dX0_work_111 ?_
      refine Z.lv [0, 1, 2, 3, 4] rfl ?_
      exact zb_X0_work_s_112 hrc27 (hi0) h
def B_X0_work_s_27 (rc27 : Nat → Int32 → Int32 → Int32 → Mm → Option (Int32 × Mm)) (i0 : Nat) (x1 : Int32) (x3 : Int32) (x4 : Int32) (σ : Mm) : Option (Int32 × Mm) := (if inb x1 11 = true then (if (mA σ 1 i0 14 x1.toNatClampNeg) ≤ x4 then (F_X0_work_s_202 i0 x3 σ) else (if (400 : Int32) ≤ x4 then (F_X0_work_s_202 i0 x3 σ) else (if inb x4 400 = true then (if (mA σ 1 i0 11 x4.toNatClampNeg) = (27 : Int32) then (if x3 ≤ 0 then (F_X0_work_s_87 rc27 i0 x1 x3 x4 (mA σ 1 i0 11 x4.toNatClampNeg) σ) else (if inb (x3 - (1 : Int32)) 24 = true then (if inb (x3 - (1 : Int32)) 24 = true then (F_X0_work_s_196 rc27 i0 x1 x3 x4 (setA σ 1 i0 15 (upd (mA σ 1 i0 15) (x3 - (1 : Int32)).toNatClampNeg ((1 : Int32) - (mA σ 1 i0 15 (x3 - (1 : Int32)).toNatClampNeg))))) else none) else none)) else (F_X0_work_s_87 rc27 i0 x1 x3 x4 (mA σ 1 i0 11 x4.toNatClampNeg) σ)) else none))) else none)
set_option maxRecDepth 20000 in
theorem zB_X0_work_s_27 {S : Shp} {rc27 : Nat → Int32 → Int32 → Int32 → Mm → Option (Int32 × Mm)} (hrc27 : ∀ {i0 : Nat} (hi0 : tlv (sH S) i0 = true) {x1 : Int32} {x3 : Int32} {x4 : Int32} {σ : Mm} {r : Int32 × Mm}, rc27 i0 x1 x3 x4 σ = some r → Z m_X0_work S (Qi r) 27 [(0, .ref (sL S 1 i0 10)), (1, .int (x1)), (2, .ref (sL S 0 0 28)), (3, .int (x3)), (4, .int (x4))] [] σ) {i0 : Nat} (hi0 : tlv (sH S) i0 = true) {x1 : Int32} {x3 : Int32} {x4 : Int32} {σ : Mm} {r : Int32 × Mm} (h : B_X0_work_s_27 rc27 i0 x1 x3 x4 σ = some r) : Z m_X0_work S (Qi r) 27 [(0, .ref (sL S 1 i0 10)), (1, .int (x1)), (2, .ref (sL S 0 0 28)), (3, .int (x3)), (4, .int (x4))] [] σ := by
  unfold B_X0_work_s_27 at h
  obtain ⟨g2, h⟩ := gd h
  refine z_iload dX0_work_27 4 rfl ?_
  refine z_aload_n dX0_work_29 rfl 0 rfl ?_
  refine gf_0_25 (lv1 (hi0) rfl) rfl dX0_work_30 ?_
  refine z_iload_n dX0_work_33 rfl 1 rfl ?_
  refine ia_1_14 (lv1 (hi0) rfl) (inb_in g2) dX0_work_34 ?_
  refine z_icmp_ge (tgt := 202) dX0_work_35 (by decide) (fun q => ?_) (fun q => ?_)
  · have h := (if_pos q).symm.trans h
    refine Z.lv [0, 3] rfl ?_
    exact zb_X0_work_s_202 (hi0) h
  · have h := (if_neg q).symm.trans h
    refine z_iload dX0_work_38 4 rfl ?_
    refine z_sipush (v := 400) dX0_work_40 (by decide) ?_
    refine z_icmp_ge (tgt := 202) dX0_work_43 (by decide) (fun q => ?_) (fun q => ?_)
    · have h := (if_pos q).symm.trans h
      refine Z.lv [0, 3] rfl ?_
      exact zb_X0_work_s_202 (hi0) h
    · have h := (if_neg q).symm.trans h
      obtain ⟨g3, h⟩ := gd h
      refine z_aload_n dX0_work_46 rfl 0 rfl ?_
      refine gf_0_15 (lv1 (hi0) rfl) rfl dX0_work_47 ?_
      refine z_iload dX0_work_50 4 rfl ?_
      refine ia_1_11 (lv1 (hi0) rfl) (inb_in g3) dX0_work_52 ?_
      refine z_istore (lv' := [(0, .ref (sL S 1 i0 10)), (1, .int (x1)), (2, .ref (sL S 0 0 28)), (3, .int (x3)), (4, .int (x4)), (5, .int (mA σ 1 i0 11 x4.toNatClampNeg))]) dX0_work_53 (by decide) [1, 2, 3, 4, 5, 0] rfl ?_
      refine z_iload dX0_work_55 5 rfl ?_
      refine z_bipush (v := 27) dX0_work_57 (by decide) ?_
      refine z_icmp_ne (tgt := 87) dX0_work_59 (by decide) (fun q => ?_) (fun q => ?_)
      · have h := (if_neg q).symm.trans h
        exact zb_X0_work_s_87 hrc27 (hi0) h
      · have h := (if_pos q).symm.trans h
        refine z_iload_n dX0_work_62 rfl 3 rfl ?_
        refine z_if_le (tgt := 87) dX0_work_63 (by decide) (fun q => ?_) (fun q => ?_)
        · have h := (if_pos q).symm.trans h
          exact zb_X0_work_s_87 hrc27 (hi0) h
        · have h := (if_neg q).symm.trans h
          obtain ⟨g4, h⟩ := gd h
          refine z_aload_n dX0_work_66 rfl 0 rfl ?_
          refine gf_0_28 (lv1 (hi0) rfl) rfl dX0_work_67 ?_
          refine z_iload_n dX0_work_70 rfl 3 rfl ?_
          refine z_iconst (v := 1) dX0_work_71 (by decide) ?_
          refine z_isub dX0_work_72 ?_
          refine z_iconst (v := 1) dX0_work_73 (by decide) ?_
          refine z_aload_n dX0_work_74 rfl 0 rfl ?_
          refine gf_0_28 (lv1 (hi0) rfl) rfl dX0_work_75 ?_
          refine z_iload_n dX0_work_78 rfl 3 rfl ?_
          refine z_iconst (v := 1) dX0_work_79 (by decide) ?_
          refine z_isub dX0_work_80 ?_
          obtain ⟨g5, h⟩ := gd h
          refine ia_1_15 (lv1 (hi0) rfl) (inb_in g4) dX0_work_81 ?_
          refine z_isub dX0_work_82 ?_
          refine is_1_15 (lv1 (hi0) rfl) (inb_in g5) dX0_work_83 ?_
          refine z_goto (tgt := 196) dX0_work_84 (by decide) ?_
          refine Z.lv [0, 1, 2, 3, 4] rfl ?_
          exact zb_X0_work_s_196 hrc27 (hi0) h
def F_X0_work_s_27 : Nat → Nat → Int32 → Int32 → Int32 → Mm → Option (Int32 × Mm)
  | 0 => fun _ _ _ _ _ => none
  | n + 1 => B_X0_work_s_27 (F_X0_work_s_27 n)
theorem zl_X0_work_s_27 {S : Shp} : ∀ (nn : Nat) {i0 : Nat} (hi0 : tlv (sH S) i0 = true) {x1 : Int32} {x3 : Int32} {x4 : Int32} {σ : Mm} {r : Int32 × Mm}, F_X0_work_s_27 nn i0 x1 x3 x4 σ = some r → Z m_X0_work S (Qi r) 27 [(0, .ref (sL S 1 i0 10)), (1, .int (x1)), (2, .ref (sL S 0 0 28)), (3, .int (x3)), (4, .int (x4))] [] σ := by
  intro nn
  induction nn with
  | zero => intro i0 hi0 x1 x3 x4 σ r h; cases h
  | succ nn ih => intro i0 hi0 x1 x3 x4 σ r h; exact zB_X0_work_s_27 @ih hi0 h
def F_X0_work_s_7 (i0 : Nat) (x1 : Int32) (x3 : Int32) (σ : Mm) : Option (Int32 × Mm) := (if x1 < 0 then some (0, σ) else (if x1 < (11 : Int32) then (if inb x1 11 = true then (F_X0_work_s_27 FU i0 x1 x3 (mA σ 1 i0 13 x1.toNatClampNeg) σ) else none) else some (0, σ)))
set_option maxRecDepth 20000 in
theorem zb_X0_work_s_7 {S : Shp} {i0 : Nat} (hi0 : tlv (sH S) i0 = true) {x1 : Int32} {x3 : Int32} {σ : Mm} {r : Int32 × Mm} (h : F_X0_work_s_7 i0 x1 x3 σ = some r) : Z m_X0_work S (Qi r) 7 [(0, .ref (sL S 1 i0 10)), (1, .int (x1)), (2, .ref (sL S 0 0 28)), (3, .int (x3))] [] σ := by
  unfold F_X0_work_s_7 at h
  refine z_iload_n dX0_work_7 rfl 1 rfl ?_
  refine z_if_lt (tgt := 17) dX0_work_8 (by decide) (fun q => ?_) (fun q => ?_)
  · have h := (if_pos q).symm.trans h
    refine z_iconst (v := 0) dX0_work_17 (by decide) ?_
    cases h
    exact z_ireturn dX0_work_18 rfl rfl ⟨rfl, rfl⟩
  · have h := (if_neg q).symm.trans h
    refine z_iload_n dX0_work_11 rfl 1 rfl ?_
    refine z_bipush (v := 11) dX0_work_12 (by decide) ?_
    refine z_icmp_lt (tgt := 19) dX0_work_14 (by decide) (fun q => ?_) (fun q => ?_)
    · have h := (if_pos q).symm.trans h
      obtain ⟨g1, h⟩ := gd h
      refine z_aload_n dX0_work_19 rfl 0 rfl ?_
      refine gf_0_22 (lv1 (hi0) rfl) rfl dX0_work_20 ?_
      refine z_iload_n dX0_work_23 rfl 1 rfl ?_
      refine ia_1_13 (lv1 (hi0) rfl) (inb_in g1) dX0_work_24 ?_
      refine z_istore (lv' := [(0, .ref (sL S 1 i0 10)), (1, .int (x1)), (2, .ref (sL S 0 0 28)), (3, .int (x3)), (4, .int (mA σ 1 i0 13 x1.toNatClampNeg))]) dX0_work_25 (by decide) [1, 2, 3, 4, 0] rfl ?_
      exact zl_X0_work_s_27 FU (hi0) h
    · have h := (if_neg q).symm.trans h
      refine z_iconst (v := 0) dX0_work_17 (by decide) ?_
      cases h
      exact z_ireturn dX0_work_18 rfl rfl ⟨rfl, rfl⟩
def F_X0_work_s (i0 : Nat) (x1 : Int32) (σ : Mm) : Option (Int32 × Mm) := (F_X0_work_s_7 i0 x1 0 (setA σ 1 i0 10 (upd (mA σ 1 i0 10) 6 0)))
set_option maxRecDepth 20000 in
theorem zb_X0_work_s {S : Shp} {i0 : Nat} (hi0 : tlv (sH S) i0 = true) {x1 : Int32} {σ : Mm} {r : Int32 × Mm} (h : F_X0_work_s i0 x1 σ = some r) : Z m_X0_work S (Qi r) 0 [(0, .ref (sL S 1 i0 10)), (1, .int (x1)), (2, .ref (sL S 0 0 28))] [] σ := by
  unfold F_X0_work_s at h
  refine z_iconst (v := 0) dX0_work_0 (by decide) ?_
  refine z_istore_n (lv' := [(0, .ref (sL S 1 i0 10)), (1, .int (x1)), (2, .ref (sL S 0 0 28)), (3, .int (0))]) dX0_work_1 rfl (by decide) [1, 2, 3, 0] rfl ?_
  refine z_aload_n dX0_work_2 rfl 0 rfl ?_
  refine z_iconst (v := 0) dX0_work_3 (by decide) ?_
  refine pf_0_31 (lv1 (hi0) rfl) rfl dX0_work_4 rfl rfl ?_
  exact zb_X0_work_s_7 (hi0) h
/-- SkyStones$Code.work(I[I)I -/
theorem c_X0_work_s {S : Shp} {i0 : Nat} (hi0 : tlv (sH S) i0 = true) {x1 : Int32} {σ : Mm} {r : Int32 × Mm} (h : F_X0_work_s i0 x1 σ = some r) : Ct m_X0_work S [.ref (sL S 1 i0 10), .int (x1), .ref (sL S 0 0 28)] σ (Qi r) := Ct.of (by decide +kernel) (Nat.le_of_ble_eq_true rfl) (zb_X0_work_s hi0 h)
def F_X10_asManyAsUnturned_29 (rc4 : Int32 → Int32 → Mm → Option (Int32 × Mm)) (x1 : Int32) (x2 : Int32) (σ : Mm) : Option (Int32 × Mm) := (rc4 x1 (x2 + 1) σ)
set_option maxRecDepth 20000 in
theorem zb_X10_asManyAsUnturned_29 {S : Shp} {rc4 : Int32 → Int32 → Mm → Option (Int32 × Mm)} (hrc4 : ∀ {x1 : Int32} {x2 : Int32} {σ : Mm} {r : Int32 × Mm}, rc4 x1 x2 σ = some r → Z m_X10_asManyAsUnturned S (Qi r) 4 [(0, .ref (sL S 0 0 29)), (1, .int (x1)), (2, .int (x2))] [] σ) {x1 : Int32} {x2 : Int32} {σ : Mm} {r : Int32 × Mm} (h : F_X10_asManyAsUnturned_29 rc4 x1 x2 σ = some r) : Z m_X10_asManyAsUnturned S (Qi r) 29 [(0, .ref (sL S 0 0 29)), (1, .int (x1)), (2, .int (x2))] [] σ := by
  unfold F_X10_asManyAsUnturned_29 at h
  refine z_iinc (j := 2) (v := x2 + 1) (lv' := [(0, .ref (sL S 0 0 29)), (1, .int (x1)), (2, .int (x2 + 1))]) dX10_asManyAsUnturned_29 rfl rfl (by decide) [1, 2, 0] rfl ?_
  refine z_goto (tgt := 4) dX10_asManyAsUnturned_32 (by decide) ?_
  exact hrc4 h
def B_X10_asManyAsUnturned_4 (rc4 : Int32 → Int32 → Mm → Option (Int32 × Mm)) (x1 : Int32) (x2 : Int32) (σ : Mm) : Option (Int32 × Mm) := (if (360 : Int32) ≤ x2 then some (x1, σ) else (if inb x2 360 = true then (if inb 0 360 = true then (if (mA σ 0 0 32 x2.toNatClampNeg) < (mA σ 0 0 32 (0 : Int32).toNatClampNeg) then (F_X10_asManyAsUnturned_29 rc4 x1 x2 σ) else (F_X10_asManyAsUnturned_29 rc4 (x1 + 1) x2 σ)) else none) else none))
set_option maxRecDepth 20000 in
theorem zB_X10_asManyAsUnturned_4 {S : Shp} {rc4 : Int32 → Int32 → Mm → Option (Int32 × Mm)} (hrc4 : ∀ {x1 : Int32} {x2 : Int32} {σ : Mm} {r : Int32 × Mm}, rc4 x1 x2 σ = some r → Z m_X10_asManyAsUnturned S (Qi r) 4 [(0, .ref (sL S 0 0 29)), (1, .int (x1)), (2, .int (x2))] [] σ) {x1 : Int32} {x2 : Int32} {σ : Mm} {r : Int32 × Mm} (h : B_X10_asManyAsUnturned_4 rc4 x1 x2 σ = some r) : Z m_X10_asManyAsUnturned S (Qi r) 4 [(0, .ref (sL S 0 0 29)), (1, .int (x1)), (2, .int (x2))] [] σ := by
  unfold B_X10_asManyAsUnturned_4 at h
  refine z_iload_n dX10_asManyAsUnturned_4 rfl 2 rfl ?_
  refine z_sipush (v := 360) dX10_asManyAsUnturned_5 (by decide) ?_
  refine z_icmp_ge (tgt := 35) dX10_asManyAsUnturned_8 (by decide) (fun q => ?_) (fun q => ?_)
  · have h := (if_pos q).symm.trans h
    refine z_iload_n dX10_asManyAsUnturned_35 rfl 1 rfl ?_
    cases h
    exact z_ireturn dX10_asManyAsUnturned_36 rfl rfl ⟨rfl, rfl⟩
  · have h := (if_neg q).symm.trans h
    obtain ⟨g1, h⟩ := gd h
    refine z_aload_n dX10_asManyAsUnturned_11 rfl 0 rfl ?_
    refine gf_10_18 rfl dX10_asManyAsUnturned_12 ?_
    refine z_iload_n dX10_asManyAsUnturned_15 rfl 2 rfl ?_
    obtain ⟨g2, h⟩ := gd h
    refine ia_0_32 (inb_in g1) dX10_asManyAsUnturned_16 ?_
    refine z_aload_n dX10_asManyAsUnturned_17 rfl 0 rfl ?_
    refine gf_10_18 rfl dX10_asManyAsUnturned_18 ?_
    refine z_iconst (v := 0) dX10_asManyAsUnturned_21 (by decide) ?_
    refine ia_0_32 (inb_in g2) dX10_asManyAsUnturned_22 ?_
    refine z_icmp_lt (tgt := 29) dX10_asManyAsUnturned_23 (by decide) (fun q => ?_) (fun q => ?_)
    · have h := (if_pos q).symm.trans h
      exact zb_X10_asManyAsUnturned_29 hrc4 h
    · have h := (if_neg q).symm.trans h
      refine z_iinc (j := 1) (v := x1 + 1) (lv' := [(0, .ref (sL S 0 0 29)), (1, .int (x1 + 1)), (2, .int (x2))]) dX10_asManyAsUnturned_26 rfl rfl (by decide) [1, 0, 2] rfl ?_
      exact zb_X10_asManyAsUnturned_29 hrc4 h
def F_X10_asManyAsUnturned_4 : Nat → Int32 → Int32 → Mm → Option (Int32 × Mm)
  | 0 => fun _ _ _ => none
  | n + 1 => B_X10_asManyAsUnturned_4 (F_X10_asManyAsUnturned_4 n)
theorem zl_X10_asManyAsUnturned_4 {S : Shp} : ∀ (nn : Nat) {x1 : Int32} {x2 : Int32} {σ : Mm} {r : Int32 × Mm}, F_X10_asManyAsUnturned_4 nn x1 x2 σ = some r → Z m_X10_asManyAsUnturned S (Qi r) 4 [(0, .ref (sL S 0 0 29)), (1, .int (x1)), (2, .int (x2))] [] σ := by
  intro nn
  induction nn with
  | zero => intro x1 x2 σ r h; cases h
  | succ nn ih => intro x1 x2 σ r h; exact zB_X10_asManyAsUnturned_4 @ih h
def F_X10_asManyAsUnturned (σ : Mm) : Option (Int32 × Mm) := (F_X10_asManyAsUnturned_4 FU 0 0 σ)
set_option maxRecDepth 20000 in
theorem zb_X10_asManyAsUnturned {S : Shp} {σ : Mm} {r : Int32 × Mm} (h : F_X10_asManyAsUnturned σ = some r) : Z m_X10_asManyAsUnturned S (Qi r) 0 [(0, .ref (sL S 0 0 29))] [] σ := by
  unfold F_X10_asManyAsUnturned at h
  refine z_iconst (v := 0) dX10_asManyAsUnturned_0 (by decide) ?_
  refine z_istore_n (lv' := [(0, .ref (sL S 0 0 29)), (1, .int (0))]) dX10_asManyAsUnturned_1 rfl (by decide) [1, 0] rfl ?_
  refine z_iconst (v := 0) dX10_asManyAsUnturned_2 (by decide) ?_
  refine z_istore_n (lv' := [(0, .ref (sL S 0 0 29)), (1, .int (0)), (2, .int (0))]) dX10_asManyAsUnturned_3 rfl (by decide) [1, 2, 0] rfl ?_
  exact zl_X10_asManyAsUnturned_4 FU h
/-- SkyStones$Turns.asManyAsUnturned()I -/
theorem c_X10_asManyAsUnturned {S : Shp} {σ : Mm} {r : Int32 × Mm} (h : F_X10_asManyAsUnturned σ = some r) : Ct m_X10_asManyAsUnturned S [.ref (sL S 0 0 29)] σ (Qi r) := Ct.of (by decide +kernel) (Nat.le_of_ble_eq_true rfl) (zb_X10_asManyAsUnturned h)
def f_X1_apart (x0 : Int32) (x1 : Int32) : Int32 := f_J9_min_7cf53 (f_J9_abs_0f7a4 (x0 - x1)) ((360 : Int32) - (f_J9_abs_0f7a4 (x0 - x1)))
set_option maxRecDepth 20000 in
theorem zb_X1_apart {S : Shp} {x0 : Int32} {x1 : Int32} {σ : Mm} {r : Int32} (h : f_X1_apart x0 x1 = r) : Z m_X1_apart S (Qi (r, σ)) 0 [(0, .int (x0)), (1, .int (x1))] [] σ := by
  unfold f_X1_apart at h
  refine z_iload_n dX1_apart_0 rfl 0 rfl ?_
  refine z_iload_n dX1_apart_1 rfl 1 rfl ?_
  refine z_isub dX1_apart_2 ?_
  refine z_callS (M' := m_J9_abs_0f7a4) (As := [.int (x0 - x1)]) (rest := []) kl_1_9 oy_J9_abs_0f7a4 ⟨Nat.le_of_ble_eq_true rfl, Nat.le_of_ble_eq_true rfl⟩ rfl (Nat.le_of_ble_eq_true rfl) rfl dX1_apart_3 (c_J9_abs_0f7a4 rfl) (fun v τ hq => ?_)
  obtain ⟨rfl, hτ⟩ := hq
  subst τ
  change Z _ _ _ _ _ [.int (f_J9_abs_0f7a4 (x0 - x1))] _
  refine z_istore_n (lv' := [(0, .int (x0)), (1, .int (x1)), (2, .int (f_J9_abs_0f7a4 (x0 - x1)))]) dX1_apart_6 rfl (by decide) [1, 2, 0] rfl ?_
  refine z_iload_n dX1_apart_7 rfl 2 rfl ?_
  refine z_sipush (v := 360) dX1_apart_8 (by decide) ?_
  refine z_iload_n dX1_apart_11 rfl 2 rfl ?_
  refine z_isub dX1_apart_12 ?_
  refine z_callS (M' := m_J9_min_7cf53) (As := [.int (f_J9_abs_0f7a4 (x0 - x1)), .int ((360 : Int32) - (f_J9_abs_0f7a4 (x0 - x1)))]) (rest := []) kl_1_19 oy_J9_min_7cf53 ⟨Nat.le_of_ble_eq_true rfl, Nat.le_of_ble_eq_true rfl⟩ rfl (Nat.le_of_ble_eq_true rfl) rfl dX1_apart_13 (c_J9_min_7cf53 rfl) (fun v τ hq => ?_)
  obtain ⟨rfl, hτ⟩ := hq
  subst τ
  change Z _ _ _ _ _ [.int (f_J9_min_7cf53 (f_J9_abs_0f7a4 (x0 - x1)) ((360 : Int32) - (f_J9_abs_0f7a4 (x0 - x1))))] _
  subst h
  exact z_ireturn dX1_apart_16 rfl rfl ⟨rfl, rfl⟩
/-- SkyStones$Compass.apart(II)I -/
theorem c_X1_apart {S : Shp} {x0 : Int32} {x1 : Int32} {σ : Mm} {r : Int32} (h : f_X1_apart x0 x1 = r) : Ct m_X1_apart S [.int (x0), .int (x1)] σ (Qi (r, σ)) := Ct.of (by decide +kernel) (Nat.le_of_ble_eq_true rfl) (zb_X1_apart h)
def F_X6_struck_67 (rc6 : Int32 → Int32 → Int32 → Int32 → Int32 → Mm → Option (Int32 × Mm)) (x1 : Int32) (x2 : Int32) (x3 : Int32) (x4 : Int32) (x5 : Int32) (σ : Mm) : Option (Int32 × Mm) := (rc6 x1 x2 x3 x4 (x5 + 1) σ)
set_option maxRecDepth 20000 in
theorem zb_X6_struck_67 {S : Shp} {rc6 : Int32 → Int32 → Int32 → Int32 → Int32 → Mm → Option (Int32 × Mm)} (hrc6 : ∀ {x1 : Int32} {x2 : Int32} {x3 : Int32} {x4 : Int32} {x5 : Int32} {σ : Mm} {r : Int32 × Mm}, rc6 x1 x2 x3 x4 x5 σ = some r → Z m_X6_struck S (Qi r) 6 [(0, .ref (sL S 0 0 25)), (1, .int (x1)), (2, .int (x2)), (3, .int (x3)), (4, .int (x4)), (5, .int (x5))] [] σ) {x1 : Int32} {x2 : Int32} {x3 : Int32} {x4 : Int32} {x5 : Int32} {σ : Mm} {r : Int32 × Mm} (h : F_X6_struck_67 rc6 x1 x2 x3 x4 x5 σ = some r) : Z m_X6_struck S (Qi r) 67 [(0, .ref (sL S 0 0 25)), (1, .int (x1)), (2, .int (x2)), (3, .int (x3)), (4, .int (x4)), (5, .int (x5))] [] σ := by
  unfold F_X6_struck_67 at h
  refine z_iinc (j := 5) (v := x5 + 1) (lv' := [(0, .ref (sL S 0 0 25)), (1, .int (x1)), (2, .int (x2)), (3, .int (x3)), (4, .int (x4)), (5, .int (x5 + 1))]) dX6_struck_67 rfl rfl (by decide) [1, 2, 3, 4, 5, 0] rfl ?_
  refine z_goto (tgt := 6) dX6_struck_70 (by decide) ?_
  exact hrc6 h
def F_X6_struck_40 (rc6 : Int32 → Int32 → Int32 → Int32 → Int32 → Mm → Option (Int32 × Mm)) (x1 : Int32) (x2 : Int32) (x3 : Int32) (x4 : Int32) (x5 : Int32) (s0 : Int32) (σ : Mm) : Option (Int32 × Mm) := (if inb x5 5 = true then (if s0 < (f_X1_apart x1 (mA σ 0 0 26 x5.toNatClampNeg)) then (F_X6_struck_67 rc6 x1 x2 x3 x4 x5 σ) else (F_X6_struck_67 rc6 x1 x2 x3 (x4 ||| ((1 : Int32) <<< (x5 &&& 31))) x5 σ)) else none)
set_option maxRecDepth 20000 in
theorem zb_X6_struck_40 {S : Shp} {rc6 : Int32 → Int32 → Int32 → Int32 → Int32 → Mm → Option (Int32 × Mm)} (hrc6 : ∀ {x1 : Int32} {x2 : Int32} {x3 : Int32} {x4 : Int32} {x5 : Int32} {σ : Mm} {r : Int32 × Mm}, rc6 x1 x2 x3 x4 x5 σ = some r → Z m_X6_struck S (Qi r) 6 [(0, .ref (sL S 0 0 25)), (1, .int (x1)), (2, .int (x2)), (3, .int (x3)), (4, .int (x4)), (5, .int (x5))] [] σ) {x1 : Int32} {x2 : Int32} {x3 : Int32} {x4 : Int32} {x5 : Int32} {s0 : Int32} {σ : Mm} {r : Int32 × Mm} (h : F_X6_struck_40 rc6 x1 x2 x3 x4 x5 s0 σ = some r) : Z m_X6_struck S (Qi r) 40 [(0, .ref (sL S 0 0 25)), (1, .int (x1)), (2, .int (x2)), (3, .int (x3)), (4, .int (x4)), (5, .int (x5))] [.int (s0)] σ := by
  unfold F_X6_struck_40 at h
  obtain ⟨g3, h⟩ := gd h
  refine z_istore (lv' := [(0, .ref (sL S 0 0 25)), (1, .int (x1)), (2, .int (x2)), (3, .int (x3)), (4, .int (x4)), (5, .int (x5)), (6, .int (s0))]) dX6_struck_40 (by decide) [1, 2, 3, 4, 5, 6, 0] rfl ?_
  refine z_iload_n dX6_struck_42 rfl 1 rfl ?_
  refine z_aload_n dX6_struck_43 rfl 0 rfl ?_
  refine gf_6_15 rfl dX6_struck_44 ?_
  refine z_iload dX6_struck_47 5 rfl ?_
  refine ia_0_26 (inb_in g3) dX6_struck_49 ?_
  refine z_callS (M' := m_X1_apart) (As := [.int (x1), .int (mA σ 0 0 26 x5.toNatClampNeg)]) (rest := []) kl_6_53 oy_X1_apart ⟨Nat.le_of_ble_eq_true rfl, Nat.le_of_ble_eq_true rfl⟩ rfl (Nat.le_of_ble_eq_true rfl) rfl dX6_struck_50 (c_X1_apart rfl) (fun v τ hq => ?_)
  obtain ⟨rfl, hτ⟩ := hq
  subst τ
  change Z _ _ _ _ _ [.int (f_X1_apart x1 (mA σ 0 0 26 x5.toNatClampNeg))] _
  refine z_iload dX6_struck_53 6 rfl ?_
  refine z_icmp_gt (tgt := 67) dX6_struck_55 (by decide) (fun q => ?_) (fun q => ?_)
  · have h := (if_pos q).symm.trans h
    refine Z.lv [0, 1, 2, 3, 4, 5] rfl ?_
    exact zb_X6_struck_67 hrc6 h
  · have h := (if_neg q).symm.trans h
    refine z_iload dX6_struck_58 4 rfl ?_
    refine z_iconst (v := 1) dX6_struck_60 (by decide) ?_
    refine z_iload dX6_struck_61 5 rfl ?_
    refine z_ishl dX6_struck_63 ?_
    refine z_ior dX6_struck_64 ?_
    refine z_istore (lv' := [(0, .ref (sL S 0 0 25)), (1, .int (x1)), (2, .int (x2)), (3, .int (x3)), (4, .int (x4 ||| ((1 : Int32) <<< (x5 &&& 31)))), (5, .int (x5)), (6, .int (s0))]) dX6_struck_65 (by decide) [1, 2, 3, 4, 0, 5, 6] rfl ?_
    refine Z.lv [0, 1, 2, 3, 4, 5] rfl ?_
    exact zb_X6_struck_67 hrc6 h
def B_X6_struck_6 (rc6 : Int32 → Int32 → Int32 → Int32 → Int32 → Mm → Option (Int32 × Mm)) (x1 : Int32) (x2 : Int32) (x3 : Int32) (x4 : Int32) (x5 : Int32) (σ : Mm) : Option (Int32 × Mm) := (if (mA σ 0 0 25 0) ≤ x5 then some (x4, σ) else (if x3 = 0 then (if inb x5 5 = true then (F_X6_struck_40 rc6 x1 x2 x3 x4 x5 (x2 + (mA σ 0 0 27 x5.toNatClampNeg)) σ) else none) else (if inb x5 5 = true then (F_X6_struck_40 rc6 x1 x2 x3 x4 x5 (x2 - (mA σ 0 0 27 x5.toNatClampNeg)) σ) else none)))
set_option maxRecDepth 20000 in
theorem zB_X6_struck_6 {S : Shp} {rc6 : Int32 → Int32 → Int32 → Int32 → Int32 → Mm → Option (Int32 × Mm)} (hrc6 : ∀ {x1 : Int32} {x2 : Int32} {x3 : Int32} {x4 : Int32} {x5 : Int32} {σ : Mm} {r : Int32 × Mm}, rc6 x1 x2 x3 x4 x5 σ = some r → Z m_X6_struck S (Qi r) 6 [(0, .ref (sL S 0 0 25)), (1, .int (x1)), (2, .int (x2)), (3, .int (x3)), (4, .int (x4)), (5, .int (x5))] [] σ) {x1 : Int32} {x2 : Int32} {x3 : Int32} {x4 : Int32} {x5 : Int32} {σ : Mm} {r : Int32 × Mm} (h : B_X6_struck_6 rc6 x1 x2 x3 x4 x5 σ = some r) : Z m_X6_struck S (Qi r) 6 [(0, .ref (sL S 0 0 25)), (1, .int (x1)), (2, .int (x2)), (3, .int (x3)), (4, .int (x4)), (5, .int (x5))] [] σ := by
  unfold B_X6_struck_6 at h
  refine z_iload dX6_struck_6 5 rfl ?_
  refine z_aload_n dX6_struck_8 rfl 0 rfl ?_
  refine gf_6_9 rfl dX6_struck_9 ?_
  refine z_icmp_ge (tgt := 73) dX6_struck_12 (by decide) (fun q => ?_) (fun q => ?_)
  · have h := (if_pos q).symm.trans h
    refine z_iload dX6_struck_73 4 rfl ?_
    cases h
    exact z_ireturn dX6_struck_75 rfl rfl ⟨rfl, rfl⟩
  · have h := (if_neg q).symm.trans h
    refine z_iload_n dX6_struck_15 rfl 3 rfl ?_
    refine z_if_eq (tgt := 31) dX6_struck_16 (by decide) (fun q => ?_) (fun q => ?_)
    · have h := (if_pos q).symm.trans h
      obtain ⟨g1, h⟩ := gd h
      refine z_iload_n dX6_struck_31 rfl 2 rfl ?_
      refine z_aload_n dX6_struck_32 rfl 0 rfl ?_
      refine gf_6_19 rfl dX6_struck_33 ?_
      refine z_iload dX6_struck_36 5 rfl ?_
      refine ia_0_27 (inb_in g1) dX6_struck_38 ?_
      refine z_iadd dX6_struck_39 ?_
      exact zb_X6_struck_40 hrc6 h
    · have h := (if_neg q).symm.trans h
      obtain ⟨g2, h⟩ := gd h
      refine z_iload_n dX6_struck_19 rfl 2 rfl ?_
      refine z_aload_n dX6_struck_20 rfl 0 rfl ?_
      refine gf_6_19 rfl dX6_struck_21 ?_
      refine z_iload dX6_struck_24 5 rfl ?_
      refine ia_0_27 (inb_in g2) dX6_struck_26 ?_
      refine z_isub dX6_struck_27 ?_
      refine z_goto (tgt := 40) dX6_struck_28 (by decide) ?_
      exact zb_X6_struck_40 hrc6 h
def F_X6_struck_6 : Nat → Int32 → Int32 → Int32 → Int32 → Int32 → Mm → Option (Int32 × Mm)
  | 0 => fun _ _ _ _ _ _ => none
  | n + 1 => B_X6_struck_6 (F_X6_struck_6 n)
theorem zl_X6_struck_6 {S : Shp} : ∀ (nn : Nat) {x1 : Int32} {x2 : Int32} {x3 : Int32} {x4 : Int32} {x5 : Int32} {σ : Mm} {r : Int32 × Mm}, F_X6_struck_6 nn x1 x2 x3 x4 x5 σ = some r → Z m_X6_struck S (Qi r) 6 [(0, .ref (sL S 0 0 25)), (1, .int (x1)), (2, .int (x2)), (3, .int (x3)), (4, .int (x4)), (5, .int (x5))] [] σ := by
  intro nn
  induction nn with
  | zero => intro x1 x2 x3 x4 x5 σ r h; cases h
  | succ nn ih => intro x1 x2 x3 x4 x5 σ r h; exact zB_X6_struck_6 @ih h
def F_X6_struck (x1 : Int32) (x2 : Int32) (x3 : Int32) (σ : Mm) : Option (Int32 × Mm) := (F_X6_struck_6 FU x1 x2 x3 0 0 σ)
set_option maxRecDepth 20000 in
theorem zb_X6_struck {S : Shp} {x1 : Int32} {x2 : Int32} {x3 : Int32} {σ : Mm} {r : Int32 × Mm} (h : F_X6_struck x1 x2 x3 σ = some r) : Z m_X6_struck S (Qi r) 0 [(0, .ref (sL S 0 0 25)), (1, .int (x1)), (2, .int (x2)), (3, .int (x3))] [] σ := by
  unfold F_X6_struck at h
  refine z_iconst (v := 0) dX6_struck_0 (by decide) ?_
  refine z_istore (lv' := [(0, .ref (sL S 0 0 25)), (1, .int (x1)), (2, .int (x2)), (3, .int (x3)), (4, .int (0))]) dX6_struck_1 (by decide) [1, 2, 3, 4, 0] rfl ?_
  refine z_iconst (v := 0) dX6_struck_3 (by decide) ?_
  refine z_istore (lv' := [(0, .ref (sL S 0 0 25)), (1, .int (x1)), (2, .int (x2)), (3, .int (x3)), (4, .int (0)), (5, .int (0))]) dX6_struck_4 (by decide) [1, 2, 3, 4, 5, 0] rfl ?_
  exact zl_X6_struck_6 FU h
/-- SkyStones$Sky.struck(IIZ)I -/
theorem c_X6_struck {S : Shp} {x1 : Int32} {x2 : Int32} {x3 : Int32} {σ : Mm} {r : Int32 × Mm} (h : F_X6_struck x1 x2 x3 σ = some r) : Ct m_X6_struck S [.ref (sL S 0 0 25), .int (x1), .int (x2), .int (x3)] σ (Qi r) := Ct.of (by decide +kernel) (Nat.le_of_ble_eq_true rfl) (zb_X6_struck h)
def F_X10_cover_22 (rc2 : Int32 → Int32 → Mm → Option (Mm)) (x2 : Int32) (x3 : Int32) (σ : Mm) : Option (Mm) := (rc2 x2 (x3 + 1) σ)
set_option maxRecDepth 20000 in
theorem zb_X10_cover_22 {S : Shp} {rc2 : Int32 → Int32 → Mm → Option (Mm)} (hrc2 : ∀ {x2 : Int32} {x3 : Int32} {σ : Mm} {r : Mm}, rc2 x2 x3 σ = some r → Z m_X10_cover S (Qv r) 2 [(0, .ref (sL S 0 0 29)), (1, .ref (sL S 0 0 25)), (2, .int (x2)), (3, .int (x3))] [] σ) {x2 : Int32} {x3 : Int32} {σ : Mm} {r : Mm} (h : F_X10_cover_22 rc2 x2 x3 σ = some r) : Z m_X10_cover S (Qv r) 22 [(0, .ref (sL S 0 0 29)), (1, .ref (sL S 0 0 25)), (2, .int (x2)), (3, .int (x3))] [] σ := by
  unfold F_X10_cover_22 at h
  refine z_iinc (j := 3) (v := x3 + 1) (lv' := [(0, .ref (sL S 0 0 29)), (1, .ref (sL S 0 0 25)), (2, .int (x2)), (3, .int (x3 + 1))]) dX10_cover_22 rfl rfl (by decide) [1, 2, 3, 0] rfl ?_
  refine z_goto (tgt := 2) dX10_cover_25 (by decide) ?_
  exact hrc2 h
def F_X10_cover_21 (rc2 : Int32 → Int32 → Mm → Option (Mm)) (x2 : Int32) (x3 : Int32) (s0 : Int32) (s1 : Int32) (σ : Mm) : Option (Mm) := (if inb s1 360 = true then (F_X10_cover_22 rc2 x2 x3 (setA σ 0 0 31 (upd (mA σ 0 0 31) s1.toNatClampNeg s0))) else none)
set_option maxRecDepth 20000 in
theorem zb_X10_cover_21 {S : Shp} {rc2 : Int32 → Int32 → Mm → Option (Mm)} (hrc2 : ∀ {x2 : Int32} {x3 : Int32} {σ : Mm} {r : Mm}, rc2 x2 x3 σ = some r → Z m_X10_cover S (Qv r) 2 [(0, .ref (sL S 0 0 29)), (1, .ref (sL S 0 0 25)), (2, .int (x2)), (3, .int (x3))] [] σ) {x2 : Int32} {x3 : Int32} {s0 : Int32} {s1 : Int32} {σ : Mm} {r : Mm} (h : F_X10_cover_21 rc2 x2 x3 s0 s1 σ = some r) : Z m_X10_cover S (Qv r) 21 [(0, .ref (sL S 0 0 29)), (1, .ref (sL S 0 0 25)), (2, .int (x2)), (3, .int (x3))] [.int (s0), .int (s1), .ref (sL S 0 0 31)] σ := by
  unfold F_X10_cover_21 at h
  obtain ⟨g1, h⟩ := gd h
  refine is_0_31 (inb_in g1) dX10_cover_21 ?_
  exact zb_X10_cover_22 hrc2 h
def B_X10_cover_2 (rc2 : Int32 → Int32 → Mm → Option (Mm)) (x2 : Int32) (x3 : Int32) (σ : Mm) : Option (Mm) := (if (360 : Int32) ≤ x3 then some (σ) else (bnd (F_X6_struck x3 x2 0 σ) (fun v τ => (F_X10_cover_21 rc2 x2 x3 v x3 τ))))
set_option maxRecDepth 20000 in
theorem zB_X10_cover_2 {S : Shp} {rc2 : Int32 → Int32 → Mm → Option (Mm)} (hrc2 : ∀ {x2 : Int32} {x3 : Int32} {σ : Mm} {r : Mm}, rc2 x2 x3 σ = some r → Z m_X10_cover S (Qv r) 2 [(0, .ref (sL S 0 0 29)), (1, .ref (sL S 0 0 25)), (2, .int (x2)), (3, .int (x3))] [] σ) {x2 : Int32} {x3 : Int32} {σ : Mm} {r : Mm} (h : B_X10_cover_2 rc2 x2 x3 σ = some r) : Z m_X10_cover S (Qv r) 2 [(0, .ref (sL S 0 0 29)), (1, .ref (sL S 0 0 25)), (2, .int (x2)), (3, .int (x3))] [] σ := by
  unfold B_X10_cover_2 at h
  refine z_iload_n dX10_cover_2 rfl 3 rfl ?_
  refine z_sipush (v := 360) dX10_cover_3 (by decide) ?_
  refine z_icmp_ge (tgt := 28) dX10_cover_6 (by decide) (fun q => ?_) (fun q => ?_)
  · have h := (if_pos q).symm.trans h
    cases h
    exact z_return dX10_cover_28 rfl ⟨rfl, rfl⟩
  · have h := (if_neg q).symm.trans h
    refine z_aload_n dX10_cover_9 rfl 0 rfl ?_
    refine gf_10_15 rfl dX10_cover_10 ?_
    refine z_iload_n dX10_cover_13 rfl 3 rfl ?_
    refine z_aload_n dX10_cover_14 rfl 1 rfl ?_
    refine z_iload_n dX10_cover_15 rfl 3 rfl ?_
    refine z_iload_n dX10_cover_16 rfl 2 rfl ?_
    refine z_iconst (v := 0) dX10_cover_17 (by decide) ?_
    obtain ⟨v, τ, hc, h⟩ := bnd_e h
    refine z_callV (M' := m_X6_struck) (t := 0) (i := 0) (k := 25) (As := [.int (x3), .int (x2), .int (0)]) (rest := [.int (x3), .ref (sL S 0 0 31)]) kl_10_51 oy_X6_struck ⟨Nat.le_of_ble_eq_true rfl, Nat.le_of_ble_eq_true rfl⟩ rfl rfl rfl rfl (Nat.le_of_ble_eq_true rfl) rfl dX10_cover_18 (c_X6_struck hc) (fun v2 τ2 hq => ?_)
    obtain ⟨rfl, hτ⟩ := hq
    subst τ2
    change Z _ _ _ _ _ [.int (v), .int (x3), .ref (sL S 0 0 31)] _
    exact zb_X10_cover_21 hrc2 h
def F_X10_cover_2 : Nat → Int32 → Int32 → Mm → Option (Mm)
  | 0 => fun _ _ _ => none
  | n + 1 => B_X10_cover_2 (F_X10_cover_2 n)
theorem zl_X10_cover_2 {S : Shp} : ∀ (nn : Nat) {x2 : Int32} {x3 : Int32} {σ : Mm} {r : Mm}, F_X10_cover_2 nn x2 x3 σ = some r → Z m_X10_cover S (Qv r) 2 [(0, .ref (sL S 0 0 29)), (1, .ref (sL S 0 0 25)), (2, .int (x2)), (3, .int (x3))] [] σ := by
  intro nn
  induction nn with
  | zero => intro x2 x3 σ r h; cases h
  | succ nn ih => intro x2 x3 σ r h; exact zB_X10_cover_2 @ih h
def F_X10_cover (x2 : Int32) (σ : Mm) : Option (Mm) := (F_X10_cover_2 FU x2 0 σ)
set_option maxRecDepth 20000 in
theorem zb_X10_cover {S : Shp} {x2 : Int32} {σ : Mm} {r : Mm} (h : F_X10_cover x2 σ = some r) : Z m_X10_cover S (Qv r) 0 [(0, .ref (sL S 0 0 29)), (1, .ref (sL S 0 0 25)), (2, .int (x2))] [] σ := by
  unfold F_X10_cover at h
  refine z_iconst (v := 0) dX10_cover_0 (by decide) ?_
  refine z_istore_n (lv' := [(0, .ref (sL S 0 0 29)), (1, .ref (sL S 0 0 25)), (2, .int (x2)), (3, .int (0))]) dX10_cover_1 rfl (by decide) [1, 2, 3, 0] rfl ?_
  exact zl_X10_cover_2 FU h
/-- SkyStones$Turns.cover(LSkyStones$Sky;I)V -/
theorem c_X10_cover {S : Shp} {x2 : Int32} {σ : Mm} {r : Mm} (h : F_X10_cover x2 σ = some r) : Ct m_X10_cover S [.ref (sL S 0 0 29), .ref (sL S 0 0 25), .int (x2)] σ (Qv r) := Ct.of (by decide +kernel) (Nat.le_of_ble_eq_true rfl) (zb_X10_cover h)
