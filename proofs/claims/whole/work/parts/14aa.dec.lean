def f_J9_abs_0f7a4 (x0 : Int32) : Int32 := (if 0 ≤ x0 then x0 else -x0)
set_option maxRecDepth 20000 in
theorem zb_J9_abs_0f7a4 {S : Shp} {x0 : Int32} {σ : Mm} {r : Int32} (h : f_J9_abs_0f7a4 x0 = r) : Z m_J9_abs_0f7a4 S (Qi (r, σ)) 0 [(0, .int (x0))] [] σ := by
  unfold f_J9_abs_0f7a4 at h
  refine z_iload_n dJ9_abs_0f7a4_0 rfl 0 rfl ?_
  refine z_if_ge (tgt := 9) dJ9_abs_0f7a4_1 (by decide) (fun q => ?_) (fun q => ?_)
  · have h := (if_pos q).symm.trans h
    refine z_iload_n dJ9_abs_0f7a4_9 rfl 0 rfl ?_
    subst h
    exact z_ireturn dJ9_abs_0f7a4_10 rfl rfl ⟨rfl, rfl⟩
  · have h := (if_neg q).symm.trans h
    refine z_iload_n dJ9_abs_0f7a4_4 rfl 0 rfl ?_
    refine z_ineg dJ9_abs_0f7a4_5 ?_
    refine z_goto (tgt := 10) dJ9_abs_0f7a4_6 (by decide) ?_
    subst h
    exact z_ireturn dJ9_abs_0f7a4_10 rfl rfl ⟨rfl, rfl⟩
/-- java/lang/Math.abs(I)I -/
theorem c_J9_abs_0f7a4 {S : Shp} {x0 : Int32} {σ : Mm} {r : Int32} (h : f_J9_abs_0f7a4 x0 = r) : Ct m_J9_abs_0f7a4 S [.int (x0)] σ (Qi (r, σ)) := Ct.of (by decide) (Nat.le_of_ble_eq_true rfl) (zb_J9_abs_0f7a4 h)
def F_J9_floorMod_7cf53 (x0 : Int32) (x1 : Int32) (σ : Mm) : Option (Int32 × Mm) := (if ¬ x1 = 0 then (if 0 ≤ (x0 ^^^ x1) then some (x0 - x0 / x1 * x1, σ) else (if (x0 - x0 / x1 * x1) = 0 then some (x0 - x0 / x1 * x1, σ) else some ((x0 - x0 / x1 * x1) + x1, σ))) else none)
set_option maxRecDepth 20000 in
theorem zb_J9_floorMod_7cf53 {S : Shp} {x0 : Int32} {x1 : Int32} {σ : Mm} {r : Int32 × Mm} (h : F_J9_floorMod_7cf53 x0 x1 σ = some r) : Z m_J9_floorMod_7cf53 S (Qi r) 0 [(0, .int (x0)), (1, .int (x1))] [] σ := by
  unfold F_J9_floorMod_7cf53 at h
  obtain ⟨g1, h⟩ := gd h
  refine z_iload_n dJ9_floorMod_7cf53_0 rfl 0 rfl ?_
  refine z_iload_n dJ9_floorMod_7cf53_1 rfl 1 rfl ?_
  refine z_irem dJ9_floorMod_7cf53_2 g1 ?_
  refine z_istore_n dJ9_floorMod_7cf53_3 rfl (by decide) [1, 2, 0] rfl ?_
  refine z_iload_n dJ9_floorMod_7cf53_4 rfl 0 rfl ?_
  refine z_iload_n dJ9_floorMod_7cf53_5 rfl 1 rfl ?_
  refine z_ixor dJ9_floorMod_7cf53_6 ?_
  refine z_if_ge (tgt := 18) dJ9_floorMod_7cf53_7 (by decide) (fun q => ?_) (fun q => ?_)
  · have h := (if_pos q).symm.trans h
    refine z_iload_n dJ9_floorMod_7cf53_18 rfl 2 rfl ?_
    cases h
    exact z_ireturn dJ9_floorMod_7cf53_19 rfl rfl ⟨rfl, rfl⟩
  · have h := (if_neg q).symm.trans h
    refine z_iload_n dJ9_floorMod_7cf53_10 rfl 2 rfl ?_
    refine z_if_eq (tgt := 18) dJ9_floorMod_7cf53_11 (by decide) (fun q => ?_) (fun q => ?_)
    · have h := (if_pos q).symm.trans h
      refine z_iload_n dJ9_floorMod_7cf53_18 rfl 2 rfl ?_
      cases h
      exact z_ireturn dJ9_floorMod_7cf53_19 rfl rfl ⟨rfl, rfl⟩
    · have h := (if_neg q).symm.trans h
      refine z_iload_n dJ9_floorMod_7cf53_14 rfl 2 rfl ?_
      refine z_iload_n dJ9_floorMod_7cf53_15 rfl 1 rfl ?_
      refine z_iadd dJ9_floorMod_7cf53_16 ?_
      cases h
      exact z_ireturn dJ9_floorMod_7cf53_17 rfl rfl ⟨rfl, rfl⟩
/-- java/lang/Math.floorMod(II)I -/
theorem c_J9_floorMod_7cf53 {S : Shp} {x0 : Int32} {x1 : Int32} {σ : Mm} {r : Int32 × Mm} (h : F_J9_floorMod_7cf53 x0 x1 σ = some r) : Ct m_J9_floorMod_7cf53 S [.int (x0), .int (x1)] σ (Qi r) := Ct.of (by decide) (Nat.le_of_ble_eq_true rfl) (zb_J9_floorMod_7cf53 h)
def f_J9_max_7cf53 (x0 : Int32) (x1 : Int32) : Int32 := (if x0 < x1 then x1 else x0)
set_option maxRecDepth 20000 in
theorem zb_J9_max_7cf53 {S : Shp} {x0 : Int32} {x1 : Int32} {σ : Mm} {r : Int32} (h : f_J9_max_7cf53 x0 x1 = r) : Z m_J9_max_7cf53 S (Qi (r, σ)) 0 [(0, .int (x0)), (1, .int (x1))] [] σ := by
  unfold f_J9_max_7cf53 at h
  refine z_iload_n dJ9_max_7cf53_0 rfl 0 rfl ?_
  refine z_iload_n dJ9_max_7cf53_1 rfl 1 rfl ?_
  refine z_icmp_lt (tgt := 9) dJ9_max_7cf53_2 (by decide) (fun q => ?_) (fun q => ?_)
  · have h := (if_pos q).symm.trans h
    refine z_iload_n dJ9_max_7cf53_9 rfl 1 rfl ?_
    subst h
    exact z_ireturn dJ9_max_7cf53_10 rfl rfl ⟨rfl, rfl⟩
  · have h := (if_neg q).symm.trans h
    refine z_iload_n dJ9_max_7cf53_5 rfl 0 rfl ?_
    refine z_goto (tgt := 10) dJ9_max_7cf53_6 (by decide) ?_
    subst h
    exact z_ireturn dJ9_max_7cf53_10 rfl rfl ⟨rfl, rfl⟩
/-- java/lang/Math.max(II)I -/
theorem c_J9_max_7cf53 {S : Shp} {x0 : Int32} {x1 : Int32} {σ : Mm} {r : Int32} (h : f_J9_max_7cf53 x0 x1 = r) : Ct m_J9_max_7cf53 S [.int (x0), .int (x1)] σ (Qi (r, σ)) := Ct.of (by decide) (Nat.le_of_ble_eq_true rfl) (zb_J9_max_7cf53 h)
def f_J9_min_7cf53 (x0 : Int32) (x1 : Int32) : Int32 := (if x1 < x0 then x1 else x0)
set_option maxRecDepth 20000 in
theorem zb_J9_min_7cf53 {S : Shp} {x0 : Int32} {x1 : Int32} {σ : Mm} {r : Int32} (h : f_J9_min_7cf53 x0 x1 = r) : Z m_J9_min_7cf53 S (Qi (r, σ)) 0 [(0, .int (x0)), (1, .int (x1))] [] σ := by
  unfold f_J9_min_7cf53 at h
  refine z_iload_n dJ9_min_7cf53_0 rfl 0 rfl ?_
  refine z_iload_n dJ9_min_7cf53_1 rfl 1 rfl ?_
  refine z_icmp_gt (tgt := 9) dJ9_min_7cf53_2 (by decide) (fun q => ?_) (fun q => ?_)
  · have h := (if_pos q).symm.trans h
    refine z_iload_n dJ9_min_7cf53_9 rfl 1 rfl ?_
    subst h
    exact z_ireturn dJ9_min_7cf53_10 rfl rfl ⟨rfl, rfl⟩
  · have h := (if_neg q).symm.trans h
    refine z_iload_n dJ9_min_7cf53_5 rfl 0 rfl ?_
    refine z_goto (tgt := 10) dJ9_min_7cf53_6 (by decide) ?_
    subst h
    exact z_ireturn dJ9_min_7cf53_10 rfl rfl ⟨rfl, rfl⟩
/-- java/lang/Math.min(II)I -/
theorem c_J9_min_7cf53 {S : Shp} {x0 : Int32} {x1 : Int32} {σ : Mm} {r : Int32} (h : f_J9_min_7cf53 x0 x1 = r) : Ct m_J9_min_7cf53 S [.int (x0), .int (x1)] σ (Qi (r, σ)) := Ct.of (by decide) (Nat.le_of_ble_eq_true rfl) (zb_J9_min_7cf53 h)
def F_X0_close (i0 : Nat) (x1 : Int32) (σ : Mm) : Option (Mm) := (if x1 < 0 then some (σ) else (if 11 ≤ x1 then some (σ) else (if inb x1 11 = true then some (setA σ 1 i0 14 (upd (mA σ 1 i0 14) x1.toNatClampNeg (mA σ 1 i0 10 0))) else none)))
set_option maxRecDepth 20000 in
theorem zb_X0_close {S : Shp} {i0 : Nat} (hi0 : tlv (sH S) i0 = true) {x1 : Int32} {σ : Mm} {r : Mm} (h : F_X0_close i0 x1 σ = some r) : Z m_X0_close S (Qv r) 0 [(0, .ref (sL S 1 i0 10)), (1, .int (x1))] [] σ := by
  unfold F_X0_close at h
  refine z_iload_n dX0_close_0 rfl 1 rfl ?_
  refine z_if_lt (tgt := 20) dX0_close_1 (by decide) (fun q => ?_) (fun q => ?_)
  · have h := (if_pos q).symm.trans h
    cases h
    exact z_return dX0_close_20 rfl ⟨rfl, rfl⟩
  · have h := (if_neg q).symm.trans h
    refine z_iload_n dX0_close_4 rfl 1 rfl ?_
    refine z_bipush (v := 11) dX0_close_5 (by decide) ?_
    refine z_icmp_ge (tgt := 20) dX0_close_7 (by decide) (fun q => ?_) (fun q => ?_)
    · have h := (if_pos q).symm.trans h
      cases h
      exact z_return dX0_close_20 rfl ⟨rfl, rfl⟩
    · have h := (if_neg q).symm.trans h
      obtain ⟨g1, h⟩ := gd h
      refine z_aload_n dX0_close_10 rfl 0 rfl ?_
      refine gf_0_25 (lv1 (hi0) rfl) rfl dX0_close_11 ?_
      refine z_iload_n dX0_close_14 rfl 1 rfl ?_
      refine z_aload_n dX0_close_15 rfl 0 rfl ?_
      refine gf_0_9 (lv1 (hi0) rfl) rfl dX0_close_16 ?_
      refine is_1_14 (lv1 (hi0) rfl) (inb_in g1) dX0_close_19 ?_
      cases h
      exact z_return dX0_close_20 rfl ⟨rfl, rfl⟩
/-- SkyStones$Code.close(I)V -/
theorem c_X0_close {S : Shp} {i0 : Nat} (hi0 : tlv (sH S) i0 = true) {x1 : Int32} {σ : Mm} {r : Mm} (h : F_X0_close i0 x1 σ = some r) : Ct m_X0_close S [.ref (sL S 1 i0 10), .int (x1)] σ (Qv r) := Ct.of (by decide) (Nat.le_of_ble_eq_true rfl) (zb_X0_close hi0 h)
def F_X0_compared_113 (i0 : Nat) (s0 : Int32) (σ : Mm) : Option (Int32 × Mm) := (if s0 = 0 then some (0, setA σ 1 i0 10 (upd (mA σ 1 i0 10) 6 0)) else some (1, setA σ 1 i0 10 (upd (mA σ 1 i0 10) 6 0)))
set_option maxRecDepth 20000 in
theorem zb_X0_compared_113 {S : Shp} {i0 : Nat} (hi0 : tlv (sH S) i0 = true) {s0 : Int32} {σ : Mm} {r : Int32 × Mm} (h : F_X0_compared_113 i0 s0 σ = some r) : Z m_X0_compared S (Qi r) 113 [(0, .ref (sL S 1 i0 10))] [.int (s0)] σ := by
  unfold F_X0_compared_113 at h
  refine z_istore dX0_compared_113 (by decide) [1, 0] rfl ?_
  refine z_aload_n dX0_compared_115 rfl 0 rfl ?_
  refine z_iconst (v := 0) dX0_compared_116 (by decide) ?_
  refine pf_0_31 (lv1 (hi0) rfl) rfl dX0_compared_117 rfl rfl ?_
  refine z_iload dX0_compared_120 1 rfl ?_
  refine z_if_eq (tgt := 129) dX0_compared_122 (by decide) (fun q => ?_) (fun q => ?_)
  · have h := (if_pos q).symm.trans h
    refine z_iconst (v := 0) dX0_compared_129 (by decide) ?_
    cases h
    exact z_ireturn dX0_compared_130 rfl rfl ⟨rfl, rfl⟩
  · have h := (if_neg q).symm.trans h
    refine z_iconst (v := 1) dX0_compared_125 (by decide) ?_
    refine z_goto (tgt := 130) dX0_compared_126 (by decide) ?_
    cases h
    exact z_ireturn dX0_compared_130 rfl rfl ⟨rfl, rfl⟩
def F_X0_compared_112 (i0 : Nat) (σ : Mm) : Option (Int32 × Mm) := (F_X0_compared_113 i0 0 σ)
set_option maxRecDepth 20000 in
theorem zb_X0_compared_112 {S : Shp} {i0 : Nat} (hi0 : tlv (sH S) i0 = true) {σ : Mm} {r : Int32 × Mm} (h : F_X0_compared_112 i0 σ = some r) : Z m_X0_compared S (Qi r) 112 [(0, .ref (sL S 1 i0 10))] [] σ := by
  unfold F_X0_compared_112 at h
  refine z_iconst (v := 0) dX0_compared_112 (by decide) ?_
  exact zb_X0_compared_113 (hi0) h
def F_X0_compared_96 (i0 : Nat) (x4 : Int32) (σ : Mm) : Option (Int32 × Mm) := (if x4 = 0 then (F_X0_compared_112 i0 σ) else (if (mA σ 1 i0 10 6) = 0 then (F_X0_compared_113 i0 1 σ) else (F_X0_compared_112 i0 σ)))
set_option maxRecDepth 20000 in
theorem zb_X0_compared_96 {S : Shp} {i0 : Nat} (hi0 : tlv (sH S) i0 = true) {x4 : Int32} {σ : Mm} {r : Int32 × Mm} (h : F_X0_compared_96 i0 x4 σ = some r) : Z m_X0_compared S (Qi r) 96 [(0, .ref (sL S 1 i0 10)), (4, .int (x4))] [] σ := by
  unfold F_X0_compared_96 at h
  refine z_iload dX0_compared_96 1 rfl ?_
  refine z_if_eq (tgt := 112) dX0_compared_98 (by decide) (fun q => ?_) (fun q => ?_)
  · have h := (if_pos q).symm.trans h
    refine Z.lv [0] rfl ?_
    exact zb_X0_compared_112 (hi0) h
  · have h := (if_neg q).symm.trans h
    refine z_aload_n dX0_compared_101 rfl 0 rfl ?_
    refine gf_0_31 (lv1 (hi0) rfl) rfl dX0_compared_102 ?_
    refine z_if_ne (tgt := 112) dX0_compared_105 (by decide) (fun q => ?_) (fun q => ?_)
    · have h := (if_neg q).symm.trans h
      refine Z.lv [0] rfl ?_
      exact zb_X0_compared_112 (hi0) h
    · have h := (if_pos q).symm.trans h
      refine z_iconst (v := 1) dX0_compared_108 (by decide) ?_
      refine z_goto (tgt := 113) dX0_compared_109 (by decide) ?_
      refine Z.lv [0] rfl ?_
      exact zb_X0_compared_113 (hi0) h
def F_X0_compared_46 (i0 : Nat) (s0 : Int32) (σ : Mm) : Option (Int32 × Mm) := (F_X0_compared_96 i0 s0 σ)
set_option maxRecDepth 20000 in
theorem zb_X0_compared_46 {S : Shp} {i0 : Nat} (hi0 : tlv (sH S) i0 = true) {s0 : Int32} {σ : Mm} {r : Int32 × Mm} (h : F_X0_compared_46 i0 s0 σ = some r) : Z m_X0_compared S (Qi r) 46 [(0, .ref (sL S 1 i0 10))] [.int (s0)] σ := by
  unfold F_X0_compared_46 at h
  refine z_istore dX0_compared_46 (by decide) [1, 0] rfl ?_
  refine z_goto (tgt := 96) dX0_compared_48 (by decide) ?_
  exact zb_X0_compared_96 (hi0) h
def F_X0_compared_61 (i0 : Nat) (s0 : Int32) (σ : Mm) : Option (Int32 × Mm) := (F_X0_compared_96 i0 s0 σ)
set_option maxRecDepth 20000 in
theorem zb_X0_compared_61 {S : Shp} {i0 : Nat} (hi0 : tlv (sH S) i0 = true) {s0 : Int32} {σ : Mm} {r : Int32 × Mm} (h : F_X0_compared_61 i0 s0 σ = some r) : Z m_X0_compared S (Qi r) 61 [(0, .ref (sL S 1 i0 10))] [.int (s0)] σ := by
  unfold F_X0_compared_61 at h
  refine z_istore dX0_compared_61 (by decide) [1, 0] rfl ?_
  refine z_goto (tgt := 96) dX0_compared_63 (by decide) ?_
  exact zb_X0_compared_96 (hi0) h
def F_X0_compared_76 (i0 : Nat) (s0 : Int32) (σ : Mm) : Option (Int32 × Mm) := (F_X0_compared_96 i0 s0 σ)
set_option maxRecDepth 20000 in
theorem zb_X0_compared_76 {S : Shp} {i0 : Nat} (hi0 : tlv (sH S) i0 = true) {s0 : Int32} {σ : Mm} {r : Int32 × Mm} (h : F_X0_compared_76 i0 s0 σ = some r) : Z m_X0_compared S (Qi r) 76 [(0, .ref (sL S 1 i0 10))] [.int (s0)] σ := by
  unfold F_X0_compared_76 at h
  refine z_istore dX0_compared_76 (by decide) [1, 0] rfl ?_
  refine z_goto (tgt := 96) dX0_compared_78 (by decide) ?_
  exact zb_X0_compared_96 (hi0) h
def F_X0_compared_91 (i0 : Nat) (s0 : Int32) (σ : Mm) : Option (Int32 × Mm) := (F_X0_compared_96 i0 s0 σ)
set_option maxRecDepth 20000 in
theorem zb_X0_compared_91 {S : Shp} {i0 : Nat} (hi0 : tlv (sH S) i0 = true) {s0 : Int32} {σ : Mm} {r : Int32 × Mm} (h : F_X0_compared_91 i0 s0 σ = some r) : Z m_X0_compared S (Qi r) 91 [(0, .ref (sL S 1 i0 10))] [.int (s0)] σ := by
  unfold F_X0_compared_91 at h
  refine z_istore dX0_compared_91 (by decide) [1, 0] rfl ?_
  refine z_goto (tgt := 96) dX0_compared_93 (by decide) ?_
  exact zb_X0_compared_96 (hi0) h
def F_X0_compared (i0 : Nat) (x1 : Int32) (x2 : Int32) (x3 : Int32) (σ : Mm) : Option (Int32 × Mm) := (if x1 = 10 then (if x2 = x3 then (F_X0_compared_46 i0 1 σ) else (F_X0_compared_46 i0 0 σ)) else (if x1 = 11 then (if x2 = x3 then (F_X0_compared_61 i0 0 σ) else (F_X0_compared_61 i0 1 σ)) else (if x1 = 12 then (if x3 ≤ x2 then (F_X0_compared_76 i0 0 σ) else (F_X0_compared_76 i0 1 σ)) else (if x1 = 13 then (if x3 < x2 then (F_X0_compared_91 i0 0 σ) else (F_X0_compared_91 i0 1 σ)) else (F_X0_compared_96 i0 0 σ)))))
set_option maxRecDepth 20000 in
theorem zb_X0_compared {S : Shp} {i0 : Nat} (hi0 : tlv (sH S) i0 = true) {x1 : Int32} {x2 : Int32} {x3 : Int32} {σ : Mm} {r : Int32 × Mm} (h : F_X0_compared i0 x1 x2 x3 σ = some r) : Z m_X0_compared S (Qi r) 0 [(0, .ref (sL S 1 i0 10)), (1, .int (x1)), (2, .int (x2)), (3, .int (x3))] [] σ := by
  unfold F_X0_compared at h
  refine z_iconst (v := 0) dX0_compared_0 (by decide) ?_
  refine z_istore dX0_compared_1 (by decide) [1, 2, 3, 4, 0] rfl ?_
  refine z_iload_n dX0_compared_3 rfl 1 rfl ?_
  by_cases g1 : x1 = 10
  · have h := (if_pos g1).symm.trans h
    refine z_tableIn (tgt := 36) (off := 32) dX0_compared_4 (by rw [g1]; decide) (by rw [g1]; decide) (by rw [g1]; rfl) (by decide) ?_
    refine z_iload_n dX0_compared_36 rfl 2 rfl ?_
    refine z_iload_n dX0_compared_37 rfl 3 rfl ?_
    refine z_icmp_ne (tgt := 45) dX0_compared_38 (by decide) (fun q => ?_) (fun q => ?_)
    · have h := (if_neg q).symm.trans h
      refine z_iconst (v := 0) dX0_compared_45 (by decide) ?_
      refine Z.lv [0] rfl ?_
      exact zb_X0_compared_46 (hi0) h
    · have h := (if_pos q).symm.trans h
      refine z_iconst (v := 1) dX0_compared_41 (by decide) ?_
      refine z_goto (tgt := 46) dX0_compared_42 (by decide) ?_
      refine Z.lv [0] rfl ?_
      exact zb_X0_compared_46 (hi0) h
  · have h := (if_neg g1).symm.trans h
    by_cases g2 : x1 = 11
    · have h := (if_pos g2).symm.trans h
      refine z_tableIn (tgt := 51) (off := 47) dX0_compared_4 (by rw [g2]; decide) (by rw [g2]; decide) (by rw [g2]; rfl) (by decide) ?_
      refine z_iload_n dX0_compared_51 rfl 2 rfl ?_
      refine z_iload_n dX0_compared_52 rfl 3 rfl ?_
      refine z_icmp_eq (tgt := 60) dX0_compared_53 (by decide) (fun q => ?_) (fun q => ?_)
      · have h := (if_pos q).symm.trans h
        refine z_iconst (v := 0) dX0_compared_60 (by decide) ?_
        refine Z.lv [0] rfl ?_
        exact zb_X0_compared_61 (hi0) h
      · have h := (if_neg q).symm.trans h
        refine z_iconst (v := 1) dX0_compared_56 (by decide) ?_
        refine z_goto (tgt := 61) dX0_compared_57 (by decide) ?_
        refine Z.lv [0] rfl ?_
        exact zb_X0_compared_61 (hi0) h
    · have h := (if_neg g2).symm.trans h
      by_cases g3 : x1 = 12
      · have h := (if_pos g3).symm.trans h
        refine z_tableIn (tgt := 66) (off := 62) dX0_compared_4 (by rw [g3]; decide) (by rw [g3]; decide) (by rw [g3]; rfl) (by decide) ?_
        refine z_iload_n dX0_compared_66 rfl 2 rfl ?_
        refine z_iload_n dX0_compared_67 rfl 3 rfl ?_
        refine z_icmp_ge (tgt := 75) dX0_compared_68 (by decide) (fun q => ?_) (fun q => ?_)
        · have h := (if_pos q).symm.trans h
          refine z_iconst (v := 0) dX0_compared_75 (by decide) ?_
          refine Z.lv [0] rfl ?_
          exact zb_X0_compared_76 (hi0) h
        · have h := (if_neg q).symm.trans h
          refine z_iconst (v := 1) dX0_compared_71 (by decide) ?_
          refine z_goto (tgt := 76) dX0_compared_72 (by decide) ?_
          refine Z.lv [0] rfl ?_
          exact zb_X0_compared_76 (hi0) h
      · have h := (if_neg g3).symm.trans h
        by_cases g4 : x1 = 13
        · have h := (if_pos g4).symm.trans h
          refine z_tableIn (tgt := 81) (off := 77) dX0_compared_4 (by rw [g4]; decide) (by rw [g4]; decide) (by rw [g4]; rfl) (by decide) ?_
          refine z_iload_n dX0_compared_81 rfl 2 rfl ?_
          refine z_iload_n dX0_compared_82 rfl 3 rfl ?_
          refine z_icmp_gt (tgt := 90) dX0_compared_83 (by decide) (fun q => ?_) (fun q => ?_)
          · have h := (if_pos q).symm.trans h
            refine z_iconst (v := 0) dX0_compared_90 (by decide) ?_
            refine Z.lv [0] rfl ?_
            exact zb_X0_compared_91 (hi0) h
          · have h := (if_neg q).symm.trans h
            refine z_iconst (v := 1) dX0_compared_86 (by decide) ?_
            refine z_goto (tgt := 91) dX0_compared_87 (by decide) ?_
            refine Z.lv [0] rfl ?_
            exact zb_X0_compared_91 (hi0) h
        · have h := (if_neg g4).symm.trans h
          refine z_tableOut (tgt := 96) dX0_compared_4 (by have eg1 := nei (n := 10) (by decide) g1; have eg2 := nei (n := 11) (by decide) g2; have eg3 := nei (n := 12) (by decide) g3; have eg4 := nei (n := 13) (by decide) g4; omega) (by decide) ?_
          refine Z.lv [0, 4] rfl ?_
          exact zb_X0_compared_96 (hi0) h
/-- SkyStones$Code.compared(III)I -/
theorem c_X0_compared {S : Shp} {i0 : Nat} (hi0 : tlv (sH S) i0 = true) {x1 : Int32} {x2 : Int32} {x3 : Int32} {σ : Mm} {r : Int32 × Mm} (h : F_X0_compared i0 x1 x2 x3 σ = some r) : Ct m_X0_compared S [.ref (sL S 1 i0 10), .int (x1), .int (x2), .int (x3)] σ (Qi r) := Ct.of (by decide) (Nat.le_of_ble_eq_true rfl) (zb_X0_compared hi0 h)
def F_X0_forget (i0 : Nat) (σ : Mm) : Option (Mm) := some (setA σ 1 i0 10 (upd (mA σ 1 i0 10) 0 0))
set_option maxRecDepth 20000 in
theorem zb_X0_forget {S : Shp} {i0 : Nat} (hi0 : tlv (sH S) i0 = true) {σ : Mm} {r : Mm} (h : F_X0_forget i0 σ = some r) : Z m_X0_forget S (Qv r) 0 [(0, .ref (sL S 1 i0 10))] [] σ := by
  unfold F_X0_forget at h
  refine z_aload_n dX0_forget_0 rfl 0 rfl ?_
  refine z_iconst (v := 0) dX0_forget_1 (by decide) ?_
  refine pf_0_9 (lv1 (hi0) rfl) rfl dX0_forget_2 ?_
  cases h
  exact z_return dX0_forget_5 rfl ⟨rfl, rfl⟩
/-- SkyStones$Code.forget()V -/
theorem c_X0_forget {S : Shp} {i0 : Nat} (hi0 : tlv (sH S) i0 = true) {σ : Mm} {r : Mm} (h : F_X0_forget i0 σ = some r) : Ct m_X0_forget S [.ref (sL S 1 i0 10)] σ (Qv r) := Ct.of (by decide) (Nat.le_of_ble_eq_true rfl) (zb_X0_forget hi0 h)
def F_X0_joined_102 (s0 : Int32) (σ : Mm) : Option (Int32 × Mm) := some (s0, σ)
set_option maxRecDepth 20000 in
theorem zb_X0_joined_102 {S : Shp} {s0 : Int32} {σ : Mm} {r : Int32 × Mm} (h : F_X0_joined_102 s0 σ = some r) : Z m_X0_joined S (Qi r) 102 [] [.int (s0)] σ := by
  unfold F_X0_joined_102 at h
  cases h
  exact z_ireturn dX0_joined_102 rfl rfl ⟨rfl, rfl⟩
def F_X0_joined (i0 : Nat) (x1 : Int32) (x2 : Int32) (x3 : Int32) (σ : Mm) : Option (Int32 × Mm) := (if x1 = 6 then some (x2 + x3, σ) else (if x1 = 7 then some (x2 - x3, σ) else (if x1 = 8 then some (x2 * x3, σ) else (if x1 = 9 then (if x3 = 0 then some (0, setA σ 1 i0 10 (upd (mA σ 1 i0 10) 6 1)) else (if ¬ x3 = 0 then some (x2 / x3, σ) else none)) else (if x1 = 25 then some (x2 ||| x3, σ) else (if x1 = 26 then some (x2 &&& x3, σ) else (bnd (F_X0_compared i0 x1 x2 x3 σ) (fun v τ => (F_X0_joined_102 v τ)))))))))
set_option maxRecDepth 20000 in
theorem zb_X0_joined {S : Shp} {i0 : Nat} (hi0 : tlv (sH S) i0 = true) {x1 : Int32} {x2 : Int32} {x3 : Int32} {σ : Mm} {r : Int32 × Mm} (h : F_X0_joined i0 x1 x2 x3 σ = some r) : Z m_X0_joined S (Qi r) 0 [(0, .ref (sL S 1 i0 10)), (1, .int (x1)), (2, .int (x2)), (3, .int (x3))] [] σ := by
  unfold F_X0_joined at h
  refine z_iload_n dX0_joined_0 rfl 1 rfl ?_
  by_cases g1 : x1 = 6
  · have h := (if_pos g1).symm.trans h
    refine z_lookup (tgt := 60) (off := 59) dX0_joined_1 (by decide) (by rw [g1]; decide) (by decide) ?_
    refine z_iload_n dX0_joined_60 rfl 2 rfl ?_
    refine z_iload_n dX0_joined_61 rfl 3 rfl ?_
    refine z_iadd dX0_joined_62 ?_
    cases h
    exact z_ireturn dX0_joined_63 rfl rfl ⟨rfl, rfl⟩
  · have h := (if_neg g1).symm.trans h
    by_cases g2 : x1 = 7
    · have h := (if_pos g2).symm.trans h
      refine z_lookup (tgt := 64) (off := 63) dX0_joined_1 (by decide) (by rw [g2]; decide) (by decide) ?_
      refine z_iload_n dX0_joined_64 rfl 2 rfl ?_
      refine z_iload_n dX0_joined_65 rfl 3 rfl ?_
      refine z_isub dX0_joined_66 ?_
      cases h
      exact z_ireturn dX0_joined_67 rfl rfl ⟨rfl, rfl⟩
    · have h := (if_neg g2).symm.trans h
      by_cases g3 : x1 = 8
      · have h := (if_pos g3).symm.trans h
        refine z_lookup (tgt := 68) (off := 67) dX0_joined_1 (by decide) (by rw [g3]; decide) (by decide) ?_
        refine z_iload_n dX0_joined_68 rfl 2 rfl ?_
        refine z_iload_n dX0_joined_69 rfl 3 rfl ?_
        refine z_imul dX0_joined_70 ?_
        cases h
        exact z_ireturn dX0_joined_71 rfl rfl ⟨rfl, rfl⟩
      · have h := (if_neg g3).symm.trans h
        by_cases g4 : x1 = 9
        · have h := (if_pos g4).symm.trans h
          refine z_lookup (tgt := 80) (off := 79) dX0_joined_1 (by decide) (by rw [g4]; decide) (by decide) ?_
          refine z_iload_n dX0_joined_80 rfl 3 rfl ?_
          refine z_if_ne (tgt := 91) dX0_joined_81 (by decide) (fun q => ?_) (fun q => ?_)
          · have h := (if_neg q).symm.trans h
            obtain ⟨g7, h⟩ := gd h
            refine z_iload_n dX0_joined_91 rfl 2 rfl ?_
            refine z_iload_n dX0_joined_92 rfl 3 rfl ?_
            refine z_idiv dX0_joined_93 g7 ?_
            cases h
            exact z_ireturn dX0_joined_94 rfl rfl ⟨rfl, rfl⟩
          · have h := (if_pos q).symm.trans h
            refine z_aload_n dX0_joined_84 rfl 0 rfl ?_
            refine z_iconst (v := 1) dX0_joined_85 (by decide) ?_
            refine pf_0_31 (lv1 (hi0) rfl) rfl dX0_joined_86 rfl rfl ?_
            refine z_iconst (v := 0) dX0_joined_89 (by decide) ?_
            cases h
            exact z_ireturn dX0_joined_90 rfl rfl ⟨rfl, rfl⟩
        · have h := (if_neg g4).symm.trans h
          by_cases g5 : x1 = 25
          · have h := (if_pos g5).symm.trans h
            refine z_lookup (tgt := 76) (off := 75) dX0_joined_1 (by decide) (by rw [g5]; decide) (by decide) ?_
            refine z_iload_n dX0_joined_76 rfl 2 rfl ?_
            refine z_iload_n dX0_joined_77 rfl 3 rfl ?_
            refine z_ior dX0_joined_78 ?_
            cases h
            exact z_ireturn dX0_joined_79 rfl rfl ⟨rfl, rfl⟩
          · have h := (if_neg g5).symm.trans h
            by_cases g6 : x1 = 26
            · have h := (if_pos g6).symm.trans h
              refine z_lookup (tgt := 72) (off := 71) dX0_joined_1 (by decide) (by rw [g6]; decide) (by decide) ?_
              refine z_iload_n dX0_joined_72 rfl 2 rfl ?_
              refine z_iload_n dX0_joined_73 rfl 3 rfl ?_
              refine z_iand dX0_joined_74 ?_
              cases h
              exact z_ireturn dX0_joined_75 rfl rfl ⟨rfl, rfl⟩
            · have h := (if_neg g6).symm.trans h
              refine z_lookup (tgt := 95) (off := 94) dX0_joined_1 (by decide) (by have eg1 := nei (n := 6) (by decide) g1; have eg2 := nei (n := 7) (by decide) g2; have eg3 := nei (n := 8) (by decide) g3; have eg4 := nei (n := 9) (by decide) g4; have eg5 := nei (n := 25) (by decide) g5; have eg6 := nei (n := 26) (by decide) g6; simp [Op.lookupswitch.offset, eg1, eg2, eg3, eg4, eg5, eg6]) (by decide) ?_
              refine z_aload_n dX0_joined_95 rfl 0 rfl ?_
              refine z_iload_n dX0_joined_96 rfl 1 rfl ?_
              refine z_iload_n dX0_joined_97 rfl 2 rfl ?_
              refine z_iload_n dX0_joined_98 rfl 3 rfl ?_
              obtain ⟨v, τ, hc, h⟩ := bnd_e h
              refine z_callV (M' := m_X0_compared) (t := 1) (i := i0) (k := 10) (As := [.int (x1), .int (x2), .int (x3)]) (rest := []) kl_0_45 oy_X0_compared ⟨Nat.le_of_ble_eq_true rfl, Nat.le_of_ble_eq_true rfl⟩ (lv1 (hi0) rfl) rfl rfl rfl (Nat.le_of_ble_eq_true rfl) rfl dX0_joined_99 (c_X0_compared (hi0) hc) (fun v2 τ2 hq => ?_)
              obtain ⟨rfl, rfl⟩ := hq
              change Z _ _ _ _ _ [.int (v)] _
              refine Z.lv [] rfl ?_
              exact zb_X0_joined_102 h
/-- SkyStones$Code.joined(III)I -/
theorem c_X0_joined {S : Shp} {i0 : Nat} (hi0 : tlv (sH S) i0 = true) {x1 : Int32} {x2 : Int32} {x3 : Int32} {σ : Mm} {r : Int32 × Mm} (h : F_X0_joined i0 x1 x2 x3 σ = some r) : Ct m_X0_joined S [.ref (sL S 1 i0 10), .int (x1), .int (x2), .int (x3)] σ (Qi r) := Ct.of (by decide) (Nat.le_of_ble_eq_true rfl) (zb_X0_joined hi0 h)
def F_X0_open_26 (i0 : Nat) (s1 : Int32) (σ : Mm) : Option (Mm) := (if inb s1 11 = true then some (setA σ 1 i0 14 (upd (mA σ 1 i0 14) s1.toNatClampNeg (mA σ 1 i0 10 0))) else none)
set_option maxRecDepth 20000 in
theorem zb_X0_open_26 {S : Shp} {i0 : Nat} (hi0 : tlv (sH S) i0 = true) {s1 : Int32} {σ : Mm} {r : Mm} (h : F_X0_open_26 i0 s1 σ = some r) : Z m_X0_open S (Qv r) 26 [] [.ref (sL S 1 i0 10), .int (s1), .ref (sL S 1 i0 14)] σ := by
  unfold F_X0_open_26 at h
  obtain ⟨g2, h⟩ := gd h
  refine gf_0_9 (lv1 (hi0) rfl) rfl dX0_open_26 ?_
  refine is_1_14 (lv1 (hi0) rfl) (inb_in g2) dX0_open_29 ?_
  cases h
  exact z_return dX0_open_30 rfl ⟨rfl, rfl⟩
def F_X0_open (i0 : Nat) (x1 : Int32) (σ : Mm) : Option (Mm) := (if x1 < 0 then some (σ) else (if 11 ≤ x1 then some (σ) else (if inb x1 11 = true then (F_X0_open_26 i0 x1 (setA σ 1 i0 13 (upd (mA σ 1 i0 13) x1.toNatClampNeg (mA σ 1 i0 10 0)))) else none)))
set_option maxRecDepth 20000 in
theorem zb_X0_open {S : Shp} {i0 : Nat} (hi0 : tlv (sH S) i0 = true) {x1 : Int32} {σ : Mm} {r : Mm} (h : F_X0_open i0 x1 σ = some r) : Z m_X0_open S (Qv r) 0 [(0, .ref (sL S 1 i0 10)), (1, .int (x1))] [] σ := by
  unfold F_X0_open at h
  refine z_iload_n dX0_open_0 rfl 1 rfl ?_
  refine z_if_lt (tgt := 30) dX0_open_1 (by decide) (fun q => ?_) (fun q => ?_)
  · have h := (if_pos q).symm.trans h
    cases h
    exact z_return dX0_open_30 rfl ⟨rfl, rfl⟩
  · have h := (if_neg q).symm.trans h
    refine z_iload_n dX0_open_4 rfl 1 rfl ?_
    refine z_bipush (v := 11) dX0_open_5 (by decide) ?_
    refine z_icmp_ge (tgt := 30) dX0_open_7 (by decide) (fun q => ?_) (fun q => ?_)
    · have h := (if_pos q).symm.trans h
      cases h
      exact z_return dX0_open_30 rfl ⟨rfl, rfl⟩
    · have h := (if_neg q).symm.trans h
      obtain ⟨g1, h⟩ := gd h
      refine z_aload_n dX0_open_10 rfl 0 rfl ?_
      refine gf_0_22 (lv1 (hi0) rfl) rfl dX0_open_11 ?_
      refine z_iload_n dX0_open_14 rfl 1 rfl ?_
      refine z_aload_n dX0_open_15 rfl 0 rfl ?_
      refine gf_0_9 (lv1 (hi0) rfl) rfl dX0_open_16 ?_
      refine is_1_13 (lv1 (hi0) rfl) (inb_in g1) dX0_open_19 ?_
      refine z_aload_n dX0_open_20 rfl 0 rfl ?_
      refine gf_0_25 (lv1 (hi0) rfl) rfl dX0_open_21 ?_
      refine z_iload_n dX0_open_24 rfl 1 rfl ?_
      refine z_aload_n dX0_open_25 rfl 0 rfl ?_
      refine Z.lv [] rfl ?_
      exact zb_X0_open_26 (hi0) h
/-- SkyStones$Code.open(I)V -/
theorem c_X0_open {S : Shp} {i0 : Nat} (hi0 : tlv (sH S) i0 = true) {x1 : Int32} {σ : Mm} {r : Mm} (h : F_X0_open i0 x1 σ = some r) : Ct m_X0_open S [.ref (sL S 1 i0 10), .int (x1)] σ (Qv r) := Ct.of (by decide) (Nat.le_of_ble_eq_true rfl) (zb_X0_open hi0 h)
def F_X0_put_32 (i0 : Nat) (σ : Mm) : Option (Mm) := some (setA σ 1 i0 10 (upd (mA σ 1 i0 10) 0 ((mA σ 1 i0 10 0) + 1)))
set_option maxRecDepth 20000 in
theorem zb_X0_put_32 {S : Shp} {i0 : Nat} (hi0 : tlv (sH S) i0 = true) {σ : Mm} {r : Mm} (h : F_X0_put_32 i0 σ = some r) : Z m_X0_put S (Qv r) 32 [] [.ref (sL S 1 i0 10), .ref (sL S 1 i0 10)] σ := by
  unfold F_X0_put_32 at h
  refine gf_0_9 (lv1 (hi0) rfl) rfl dX0_put_32 ?_
  refine z_iconst (v := 1) dX0_put_35 (by decide) ?_
  refine z_iadd dX0_put_36 ?_
  refine pf_0_9 (lv1 (hi0) rfl) rfl dX0_put_37 ?_
  cases h
  exact z_return dX0_put_40 rfl ⟨rfl, rfl⟩
def F_X0_put_25 (i0 : Nat) (x2 : Int32) (σ : Mm) : Option (Mm) := (if inb (mA σ 1 i0 10 0) 400 = true then (F_X0_put_32 i0 (setA σ 1 i0 12 (upd (mA σ 1 i0 12) (mA σ 1 i0 10 0).toNatClampNeg x2))) else none)
set_option maxRecDepth 20000 in
theorem zb_X0_put_25 {S : Shp} {i0 : Nat} (hi0 : tlv (sH S) i0 = true) {x2 : Int32} {σ : Mm} {r : Mm} (h : F_X0_put_25 i0 x2 σ = some r) : Z m_X0_put S (Qv r) 25 [(0, .ref (sL S 1 i0 10)), (2, .int (x2))] [.ref (sL S 1 i0 10), .ref (sL S 1 i0 12)] σ := by
  unfold F_X0_put_25 at h
  obtain ⟨g2, h⟩ := gd h
  refine gf_0_9 (lv1 (hi0) rfl) rfl dX0_put_25 ?_
  refine z_iload_n dX0_put_28 rfl 1 rfl ?_
  refine is_1_12 (lv1 (hi0) rfl) (inb_in g2) dX0_put_29 ?_
  refine z_aload_n dX0_put_30 rfl 0 rfl ?_
  refine z_dup dX0_put_31 rfl ?_
  refine Z.lv [] rfl ?_
  exact zb_X0_put_32 (hi0) h
def F_X0_put (i0 : Nat) (x1 : Int32) (x2 : Int32) (σ : Mm) : Option (Mm) := (if 400 ≤ (mA σ 1 i0 10 0) then some (σ) else (if inb (mA σ 1 i0 10 0) 400 = true then (F_X0_put_25 i0 x2 (setA σ 1 i0 11 (upd (mA σ 1 i0 11) (mA σ 1 i0 10 0).toNatClampNeg x1))) else none))
set_option maxRecDepth 20000 in
theorem zb_X0_put {S : Shp} {i0 : Nat} (hi0 : tlv (sH S) i0 = true) {x1 : Int32} {x2 : Int32} {σ : Mm} {r : Mm} (h : F_X0_put i0 x1 x2 σ = some r) : Z m_X0_put S (Qv r) 0 [(0, .ref (sL S 1 i0 10)), (1, .int (x1)), (2, .int (x2))] [] σ := by
  unfold F_X0_put at h
  refine z_aload_n dX0_put_0 rfl 0 rfl ?_
  refine gf_0_9 (lv1 (hi0) rfl) rfl dX0_put_1 ?_
  refine z_sipush (v := 400) dX0_put_4 (by decide) ?_
  refine z_icmp_ge (tgt := 40) dX0_put_7 (by decide) (fun q => ?_) (fun q => ?_)
  · have h := (if_pos q).symm.trans h
    cases h
    exact z_return dX0_put_40 rfl ⟨rfl, rfl⟩
  · have h := (if_neg q).symm.trans h
    obtain ⟨g1, h⟩ := gd h
    refine z_aload_n dX0_put_10 rfl 0 rfl ?_
    refine gf_0_15 (lv1 (hi0) rfl) rfl dX0_put_11 ?_
    refine z_aload_n dX0_put_14 rfl 0 rfl ?_
    refine gf_0_9 (lv1 (hi0) rfl) rfl dX0_put_15 ?_
    refine z_iload_n dX0_put_18 rfl 1 rfl ?_
    refine is_1_11 (lv1 (hi0) rfl) (inb_in g1) dX0_put_19 ?_
    refine z_aload_n dX0_put_20 rfl 0 rfl ?_
    refine gf_0_19 (lv1 (hi0) rfl) rfl dX0_put_21 ?_
    refine z_aload_n dX0_put_24 rfl 0 rfl ?_
    refine Z.lv [0, 2] rfl ?_
    exact zb_X0_put_25 (hi0) h
/-- SkyStones$Code.put(II)V -/
theorem c_X0_put {S : Shp} {i0 : Nat} (hi0 : tlv (sH S) i0 = true) {x1 : Int32} {x2 : Int32} {σ : Mm} {r : Mm} (h : F_X0_put i0 x1 x2 σ = some r) : Ct m_X0_put S [.ref (sL S 1 i0 10), .int (x1), .int (x2)] σ (Qv r) := Ct.of (by decide) (Nat.le_of_ble_eq_true rfl) (zb_X0_put hi0 h)
def F_X10_asManyAsUnturned_29 (rc4 : Int32 → Int32 → Mm → Option (Int32 × Mm)) (x1 : Int32) (x2 : Int32) (σ : Mm) : Option (Int32 × Mm) := (rc4 x1 (x2 + 1) σ)
set_option maxRecDepth 20000 in
theorem zb_X10_asManyAsUnturned_29 {S : Shp} {rc4 : Int32 → Int32 → Mm → Option (Int32 × Mm)} (hrc4 : ∀ {x1 : Int32} {x2 : Int32} {σ : Mm} {r : Int32 × Mm}, rc4 x1 x2 σ = some r → Z m_X10_asManyAsUnturned S (Qi r) 4 [(0, .ref (sL S 0 0 29)), (1, .int (x1)), (2, .int (x2))] [] σ) {x1 : Int32} {x2 : Int32} {σ : Mm} {r : Int32 × Mm} (h : F_X10_asManyAsUnturned_29 rc4 x1 x2 σ = some r) : Z m_X10_asManyAsUnturned S (Qi r) 29 [(0, .ref (sL S 0 0 29)), (1, .int (x1)), (2, .int (x2))] [] σ := by
  unfold F_X10_asManyAsUnturned_29 at h
  refine z_iinc (j := 2) (v := x2 + 1) dX10_asManyAsUnturned_29 rfl rfl (by decide) [1, 2, 0] rfl ?_
  refine z_goto (tgt := 4) dX10_asManyAsUnturned_32 (by decide) ?_
  exact hrc4 h
def B_X10_asManyAsUnturned_4 (rc4 : Int32 → Int32 → Mm → Option (Int32 × Mm)) (x1 : Int32) (x2 : Int32) (σ : Mm) : Option (Int32 × Mm) := (if 360 ≤ x2 then some (x1, σ) else (if inb x2 360 = true then (if inb 0 360 = true then (if (mA σ 0 0 32 x2.toNatClampNeg) < (mA σ 0 0 32 (0 : Int32).toNatClampNeg) then (F_X10_asManyAsUnturned_29 rc4 x1 x2 σ) else (F_X10_asManyAsUnturned_29 rc4 (x1 + 1) x2 σ)) else none) else none))
set_option maxRecDepth 20000 in
theorem zB_X10_asManyAsUnturned_4 {S : Shp} {rc4 : Int32 → Int32 → Mm → Option (Int32 × Mm)} (hrc4 : ∀ {x1 : Int32} {x2 : Int32} {σ : Mm} {r : Int32 × Mm}, rc4 x1 x2 σ = some r → Z m_X10_asManyAsUnturned S (Qi r) 4 [(0, .ref (sL S 0 0 29)), (1, .int (x1)), (2, .int (x2))] [] σ) {x1 : Int32} {x2 : Int32} {σ : Mm} {r : Int32 × Mm} (h : B_X10_asManyAsUnturned_4 rc4 x1 x2 σ = some r) : Z m_X10_asManyAsUnturned S (Qi r) 4 [(0, .ref (sL S 0 0 29)), (1, .int (x1)), (2, .int (x2))] [] σ := by
  unfold B_X10_asManyAsUnturned_4 at h
  refine z_iload_n dX10_asManyAsUnturned_4 rfl 2 rfl ?_
  refine z_sipush (v := 360) dX10_asManyAsUnturned_5 (by decide) ?_
  refine z_icmp_ge (tgt := 35) dX10_asManyAsUnturned_8 (by decide) (fun q => ?_) (fun q => ?_)
  · have h := (if_pos q).symm.trans h
    refine z_iload_n dX10_asManyAsUnturned_35 rfl 1 rfl ?_
    cases h
    exact z_ireturn dX10_asManyAsUnturned_36 rfl rfl ⟨rfl, rfl⟩
  · have h := (if_neg q).symm.trans h
    obtain ⟨g1, h⟩ := gd h
    refine z_aload_n dX10_asManyAsUnturned_11 rfl 0 rfl ?_
    refine gf_10_18 rfl dX10_asManyAsUnturned_12 ?_
    refine z_iload_n dX10_asManyAsUnturned_15 rfl 2 rfl ?_
    obtain ⟨g2, h⟩ := gd h
    refine ia_0_32 (inb_in g1) dX10_asManyAsUnturned_16 ?_
    refine z_aload_n dX10_asManyAsUnturned_17 rfl 0 rfl ?_
    refine gf_10_18 rfl dX10_asManyAsUnturned_18 ?_
    refine z_iconst (v := 0) dX10_asManyAsUnturned_21 (by decide) ?_
    refine ia_0_32 (inb_in g2) dX10_asManyAsUnturned_22 ?_
    refine z_icmp_lt (tgt := 29) dX10_asManyAsUnturned_23 (by decide) (fun q => ?_) (fun q => ?_)
    · have h := (if_pos q).symm.trans h
      exact zb_X10_asManyAsUnturned_29 hrc4 h
    · have h := (if_neg q).symm.trans h
      refine z_iinc (j := 1) (v := x1 + 1) dX10_asManyAsUnturned_26 rfl rfl (by decide) [1, 0, 2] rfl ?_
      exact zb_X10_asManyAsUnturned_29 hrc4 h
def F_X10_asManyAsUnturned_4 : Nat → Int32 → Int32 → Mm → Option (Int32 × Mm)
  | 0 => fun _ _ _ => none
  | n + 1 => B_X10_asManyAsUnturned_4 (F_X10_asManyAsUnturned_4 n)
theorem zl_X10_asManyAsUnturned_4 {S : Shp} (n : Nat) {x1 : Int32} {x2 : Int32} {σ : Mm} {r : Int32 × Mm} (h : F_X10_asManyAsUnturned_4 n x1 x2 σ = some r) : Z m_X10_asManyAsUnturned S (Qi r) 4 [(0, .ref (sL S 0 0 29)), (1, .int (x1)), (2, .int (x2))] [] σ := by
  induction n generalizing x1 x2 σ r with
  | zero => cases h
  | succ n ih => exact zB_X10_asManyAsUnturned_4 (fun h => ih h) h
def F_X10_asManyAsUnturned (σ : Mm) : Option (Int32 × Mm) := (F_X10_asManyAsUnturned_4 FU 0 0 σ)
set_option maxRecDepth 20000 in
theorem zb_X10_asManyAsUnturned {S : Shp} {σ : Mm} {r : Int32 × Mm} (h : F_X10_asManyAsUnturned σ = some r) : Z m_X10_asManyAsUnturned S (Qi r) 0 [(0, .ref (sL S 0 0 29))] [] σ := by
  unfold F_X10_asManyAsUnturned at h
  refine z_iconst (v := 0) dX10_asManyAsUnturned_0 (by decide) ?_
  refine z_istore_n dX10_asManyAsUnturned_1 rfl (by decide) [1, 0] rfl ?_
  refine z_iconst (v := 0) dX10_asManyAsUnturned_2 (by decide) ?_
  refine z_istore_n dX10_asManyAsUnturned_3 rfl (by decide) [1, 2, 0] rfl ?_
  exact zl_X10_asManyAsUnturned_4 FU h
/-- SkyStones$Turns.asManyAsUnturned()I -/
theorem c_X10_asManyAsUnturned {S : Shp} {σ : Mm} {r : Int32 × Mm} (h : F_X10_asManyAsUnturned σ = some r) : Ct m_X10_asManyAsUnturned S [.ref (sL S 0 0 29)] σ (Qi r) := Ct.of (by decide) (Nat.le_of_ble_eq_true rfl) (zb_X10_asManyAsUnturned h)
def f_X1_apart (x0 : Int32) (x1 : Int32) : Int32 := f_J9_min_7cf53 (f_J9_abs_0f7a4 (x0 - x1)) (360 - (f_J9_abs_0f7a4 (x0 - x1)))
set_option maxRecDepth 20000 in
theorem zb_X1_apart {S : Shp} {x0 : Int32} {x1 : Int32} {σ : Mm} {r : Int32} (h : f_X1_apart x0 x1 = r) : Z m_X1_apart S (Qi (r, σ)) 0 [(0, .int (x0)), (1, .int (x1))] [] σ := by
  unfold f_X1_apart at h
  refine z_iload_n dX1_apart_0 rfl 0 rfl ?_
  refine z_iload_n dX1_apart_1 rfl 1 rfl ?_
  refine z_isub dX1_apart_2 ?_
  refine z_callS (M' := m_J9_abs_0f7a4) (As := [.int (x0 - x1)]) (rest := []) kl_1_9 oy_J9_abs_0f7a4 ⟨Nat.le_of_ble_eq_true rfl, Nat.le_of_ble_eq_true rfl⟩ rfl (Nat.le_of_ble_eq_true rfl) rfl dX1_apart_3 (c_J9_abs_0f7a4 rfl) (fun v τ hq => ?_)
  obtain ⟨rfl, rfl⟩ := hq
  change Z _ _ _ _ _ [.int (f_J9_abs_0f7a4 (x0 - x1))] _
  refine z_istore_n dX1_apart_6 rfl (by decide) [1, 2, 0] rfl ?_
  refine z_iload_n dX1_apart_7 rfl 2 rfl ?_
  refine z_sipush (v := 360) dX1_apart_8 (by decide) ?_
  refine z_iload_n dX1_apart_11 rfl 2 rfl ?_
  refine z_isub dX1_apart_12 ?_
  refine z_callS (M' := m_J9_min_7cf53) (As := [.int (f_J9_abs_0f7a4 (x0 - x1)), .int (360 - (f_J9_abs_0f7a4 (x0 - x1)))]) (rest := []) kl_1_19 oy_J9_min_7cf53 ⟨Nat.le_of_ble_eq_true rfl, Nat.le_of_ble_eq_true rfl⟩ rfl (Nat.le_of_ble_eq_true rfl) rfl dX1_apart_13 (c_J9_min_7cf53 rfl) (fun v τ hq => ?_)
  obtain ⟨rfl, rfl⟩ := hq
  change Z _ _ _ _ _ [.int (f_J9_min_7cf53 (f_J9_abs_0f7a4 (x0 - x1)) (360 - (f_J9_abs_0f7a4 (x0 - x1))))] _
  subst h
  exact z_ireturn dX1_apart_16 rfl rfl ⟨rfl, rfl⟩
/-- SkyStones$Compass.apart(II)I -/
theorem c_X1_apart {S : Shp} {x0 : Int32} {x1 : Int32} {σ : Mm} {r : Int32} (h : f_X1_apart x0 x1 = r) : Ct m_X1_apart S [.int (x0), .int (x1)] σ (Qi (r, σ)) := Ct.of (by decide) (Nat.le_of_ble_eq_true rfl) (zb_X1_apart h)
def F_X6_struck_67 (rc6 : Int32 → Int32 → Int32 → Int32 → Int32 → Mm → Option (Int32 × Mm)) (x1 : Int32) (x2 : Int32) (x3 : Int32) (x4 : Int32) (x5 : Int32) (σ : Mm) : Option (Int32 × Mm) := (rc6 x1 x2 x3 x4 (x5 + 1) σ)
set_option maxRecDepth 20000 in
theorem zb_X6_struck_67 {S : Shp} {rc6 : Int32 → Int32 → Int32 → Int32 → Int32 → Mm → Option (Int32 × Mm)} (hrc6 : ∀ {x1 : Int32} {x2 : Int32} {x3 : Int32} {x4 : Int32} {x5 : Int32} {σ : Mm} {r : Int32 × Mm}, rc6 x1 x2 x3 x4 x5 σ = some r → Z m_X6_struck S (Qi r) 6 [(0, .ref (sL S 0 0 25)), (1, .int (x1)), (2, .int (x2)), (3, .int (x3)), (4, .int (x4)), (5, .int (x5))] [] σ) {x1 : Int32} {x2 : Int32} {x3 : Int32} {x4 : Int32} {x5 : Int32} {σ : Mm} {r : Int32 × Mm} (h : F_X6_struck_67 rc6 x1 x2 x3 x4 x5 σ = some r) : Z m_X6_struck S (Qi r) 67 [(0, .ref (sL S 0 0 25)), (1, .int (x1)), (2, .int (x2)), (3, .int (x3)), (4, .int (x4)), (5, .int (x5))] [] σ := by
  unfold F_X6_struck_67 at h
  refine z_iinc (j := 5) (v := x5 + 1) dX6_struck_67 rfl rfl (by decide) [1, 2, 3, 4, 5, 0] rfl ?_
  refine z_goto (tgt := 6) dX6_struck_70 (by decide) ?_
  exact hrc6 h
def F_X6_struck_40 (rc6 : Int32 → Int32 → Int32 → Int32 → Int32 → Mm → Option (Int32 × Mm)) (x1 : Int32) (x2 : Int32) (x3 : Int32) (x4 : Int32) (x5 : Int32) (s0 : Int32) (σ : Mm) : Option (Int32 × Mm) := (if inb x5 5 = true then (if s0 < (f_X1_apart x1 (mA σ 0 0 26 x5.toNatClampNeg)) then (F_X6_struck_67 rc6 x1 x2 x3 x4 x5 σ) else (F_X6_struck_67 rc6 x1 x2 x3 (x4 ||| (1 <<< (x5 &&& 31))) x5 σ)) else none)
set_option maxRecDepth 20000 in
theorem zb_X6_struck_40 {S : Shp} {rc6 : Int32 → Int32 → Int32 → Int32 → Int32 → Mm → Option (Int32 × Mm)} (hrc6 : ∀ {x1 : Int32} {x2 : Int32} {x3 : Int32} {x4 : Int32} {x5 : Int32} {σ : Mm} {r : Int32 × Mm}, rc6 x1 x2 x3 x4 x5 σ = some r → Z m_X6_struck S (Qi r) 6 [(0, .ref (sL S 0 0 25)), (1, .int (x1)), (2, .int (x2)), (3, .int (x3)), (4, .int (x4)), (5, .int (x5))] [] σ) {x1 : Int32} {x2 : Int32} {x3 : Int32} {x4 : Int32} {x5 : Int32} {s0 : Int32} {σ : Mm} {r : Int32 × Mm} (h : F_X6_struck_40 rc6 x1 x2 x3 x4 x5 s0 σ = some r) : Z m_X6_struck S (Qi r) 40 [(0, .ref (sL S 0 0 25)), (1, .int (x1)), (2, .int (x2)), (3, .int (x3)), (4, .int (x4)), (5, .int (x5))] [.int (s0)] σ := by
  unfold F_X6_struck_40 at h
  obtain ⟨g3, h⟩ := gd h
  refine z_istore dX6_struck_40 (by decide) [1, 2, 3, 4, 5, 6, 0] rfl ?_
  refine z_iload_n dX6_struck_42 rfl 1 rfl ?_
  refine z_aload_n dX6_struck_43 rfl 0 rfl ?_
  refine gf_6_15 rfl dX6_struck_44 ?_
  refine z_iload dX6_struck_47 5 rfl ?_
  refine ia_0_26 (inb_in g3) dX6_struck_49 ?_
  refine z_callS (M' := m_X1_apart) (As := [.int (x1), .int (mA σ 0 0 26 x5.toNatClampNeg)]) (rest := []) kl_6_53 oy_X1_apart ⟨Nat.le_of_ble_eq_true rfl, Nat.le_of_ble_eq_true rfl⟩ rfl (Nat.le_of_ble_eq_true rfl) rfl dX6_struck_50 (c_X1_apart rfl) (fun v τ hq => ?_)
  obtain ⟨rfl, rfl⟩ := hq
  change Z _ _ _ _ _ [.int (f_X1_apart x1 (mA σ 0 0 26 x5.toNatClampNeg))] _
  refine z_iload dX6_struck_53 6 rfl ?_
  refine z_icmp_gt (tgt := 67) dX6_struck_55 (by decide) (fun q => ?_) (fun q => ?_)
  · have h := (if_pos q).symm.trans h
    refine Z.lv [0, 1, 2, 3, 4, 5] rfl ?_
    exact zb_X6_struck_67 hrc6 h
  · have h := (if_neg q).symm.trans h
    refine z_iload dX6_struck_58 4 rfl ?_
    refine z_iconst (v := 1) dX6_struck_60 (by decide) ?_
    refine z_iload dX6_struck_61 5 rfl ?_
    refine z_ishl dX6_struck_63 ?_
    refine z_ior dX6_struck_64 ?_
    refine z_istore dX6_struck_65 (by decide) [1, 2, 3, 4, 0, 5, 6] rfl ?_
    refine Z.lv [0, 1, 2, 3, 4, 5] rfl ?_
    exact zb_X6_struck_67 hrc6 h
def B_X6_struck_6 (rc6 : Int32 → Int32 → Int32 → Int32 → Int32 → Mm → Option (Int32 × Mm)) (x1 : Int32) (x2 : Int32) (x3 : Int32) (x4 : Int32) (x5 : Int32) (σ : Mm) : Option (Int32 × Mm) := (if (mA σ 0 0 25 0) ≤ x5 then some (x4, σ) else (if x3 = 0 then (if inb x5 5 = true then (F_X6_struck_40 rc6 x1 x2 x3 x4 x5 (x2 + (mA σ 0 0 27 x5.toNatClampNeg)) σ) else none) else (if inb x5 5 = true then (F_X6_struck_40 rc6 x1 x2 x3 x4 x5 (x2 - (mA σ 0 0 27 x5.toNatClampNeg)) σ) else none)))
set_option maxRecDepth 20000 in
theorem zB_X6_struck_6 {S : Shp} {rc6 : Int32 → Int32 → Int32 → Int32 → Int32 → Mm → Option (Int32 × Mm)} (hrc6 : ∀ {x1 : Int32} {x2 : Int32} {x3 : Int32} {x4 : Int32} {x5 : Int32} {σ : Mm} {r : Int32 × Mm}, rc6 x1 x2 x3 x4 x5 σ = some r → Z m_X6_struck S (Qi r) 6 [(0, .ref (sL S 0 0 25)), (1, .int (x1)), (2, .int (x2)), (3, .int (x3)), (4, .int (x4)), (5, .int (x5))] [] σ) {x1 : Int32} {x2 : Int32} {x3 : Int32} {x4 : Int32} {x5 : Int32} {σ : Mm} {r : Int32 × Mm} (h : B_X6_struck_6 rc6 x1 x2 x3 x4 x5 σ = some r) : Z m_X6_struck S (Qi r) 6 [(0, .ref (sL S 0 0 25)), (1, .int (x1)), (2, .int (x2)), (3, .int (x3)), (4, .int (x4)), (5, .int (x5))] [] σ := by
  unfold B_X6_struck_6 at h
  refine z_iload dX6_struck_6 5 rfl ?_
  refine z_aload_n dX6_struck_8 rfl 0 rfl ?_
  refine gf_6_9 rfl dX6_struck_9 ?_
  refine z_icmp_ge (tgt := 73) dX6_struck_12 (by decide) (fun q => ?_) (fun q => ?_)
  · have h := (if_pos q).symm.trans h
    refine z_iload dX6_struck_73 4 rfl ?_
    cases h
    exact z_ireturn dX6_struck_75 rfl rfl ⟨rfl, rfl⟩
  · have h := (if_neg q).symm.trans h
    refine z_iload_n dX6_struck_15 rfl 3 rfl ?_
    refine z_if_eq (tgt := 31) dX6_struck_16 (by decide) (fun q => ?_) (fun q => ?_)
    · have h := (if_pos q).symm.trans h
      obtain ⟨g1, h⟩ := gd h
      refine z_iload_n dX6_struck_31 rfl 2 rfl ?_
      refine z_aload_n dX6_struck_32 rfl 0 rfl ?_
      refine gf_6_19 rfl dX6_struck_33 ?_
      refine z_iload dX6_struck_36 5 rfl ?_
      refine ia_0_27 (inb_in g1) dX6_struck_38 ?_
      refine z_iadd dX6_struck_39 ?_
      exact zb_X6_struck_40 hrc6 h
    · have h := (if_neg q).symm.trans h
      obtain ⟨g2, h⟩ := gd h
      refine z_iload_n dX6_struck_19 rfl 2 rfl ?_
      refine z_aload_n dX6_struck_20 rfl 0 rfl ?_
      refine gf_6_19 rfl dX6_struck_21 ?_
      refine z_iload dX6_struck_24 5 rfl ?_
      refine ia_0_27 (inb_in g2) dX6_struck_26 ?_
      refine z_isub dX6_struck_27 ?_
      refine z_goto (tgt := 40) dX6_struck_28 (by decide) ?_
      exact zb_X6_struck_40 hrc6 h
def F_X6_struck_6 : Nat → Int32 → Int32 → Int32 → Int32 → Int32 → Mm → Option (Int32 × Mm)
  | 0 => fun _ _ _ _ _ _ => none
  | n + 1 => B_X6_struck_6 (F_X6_struck_6 n)
theorem zl_X6_struck_6 {S : Shp} (n : Nat) {x1 : Int32} {x2 : Int32} {x3 : Int32} {x4 : Int32} {x5 : Int32} {σ : Mm} {r : Int32 × Mm} (h : F_X6_struck_6 n x1 x2 x3 x4 x5 σ = some r) : Z m_X6_struck S (Qi r) 6 [(0, .ref (sL S 0 0 25)), (1, .int (x1)), (2, .int (x2)), (3, .int (x3)), (4, .int (x4)), (5, .int (x5))] [] σ := by
  induction n generalizing x1 x2 x3 x4 x5 σ r with
  | zero => cases h
  | succ n ih => exact zB_X6_struck_6 (fun h => ih h) h
def F_X6_struck (x1 : Int32) (x2 : Int32) (x3 : Int32) (σ : Mm) : Option (Int32 × Mm) := (F_X6_struck_6 FU x1 x2 x3 0 0 σ)
set_option maxRecDepth 20000 in
theorem zb_X6_struck {S : Shp} {x1 : Int32} {x2 : Int32} {x3 : Int32} {σ : Mm} {r : Int32 × Mm} (h : F_X6_struck x1 x2 x3 σ = some r) : Z m_X6_struck S (Qi r) 0 [(0, .ref (sL S 0 0 25)), (1, .int (x1)), (2, .int (x2)), (3, .int (x3))] [] σ := by
  unfold F_X6_struck at h
  refine z_iconst (v := 0) dX6_struck_0 (by decide) ?_
  refine z_istore dX6_struck_1 (by decide) [1, 2, 3, 4, 0] rfl ?_
  refine z_iconst (v := 0) dX6_struck_3 (by decide) ?_
  refine z_istore dX6_struck_4 (by decide) [1, 2, 3, 4, 5, 0] rfl ?_
  exact zl_X6_struck_6 FU h
/-- SkyStones$Sky.struck(IIZ)I -/
theorem c_X6_struck {S : Shp} {x1 : Int32} {x2 : Int32} {x3 : Int32} {σ : Mm} {r : Int32 × Mm} (h : F_X6_struck x1 x2 x3 σ = some r) : Ct m_X6_struck S [.ref (sL S 0 0 25), .int (x1), .int (x2), .int (x3)] σ (Qi r) := Ct.of (by decide) (Nat.le_of_ble_eq_true rfl) (zb_X6_struck h)
def F_X10_cover_21 (rc2 : Int32 → Int32 → Mm → Option (Mm)) (x2 : Int32) (x3 : Int32) (s0 : Int32) (s1 : Int32) (σ : Mm) : Option (Mm) := (if inb s1 360 = true then (rc2 x2 (x3 + 1) (setA σ 0 0 31 (upd (mA σ 0 0 31) s1.toNatClampNeg s0))) else none)
set_option maxRecDepth 20000 in
theorem zb_X10_cover_21 {S : Shp} {rc2 : Int32 → Int32 → Mm → Option (Mm)} (hrc2 : ∀ {x2 : Int32} {x3 : Int32} {σ : Mm} {r : Mm}, rc2 x2 x3 σ = some r → Z m_X10_cover S (Qv r) 2 [(0, .ref (sL S 0 0 29)), (1, .ref (sL S 0 0 25)), (2, .int (x2)), (3, .int (x3))] [] σ) {x2 : Int32} {x3 : Int32} {s0 : Int32} {s1 : Int32} {σ : Mm} {r : Mm} (h : F_X10_cover_21 rc2 x2 x3 s0 s1 σ = some r) : Z m_X10_cover S (Qv r) 21 [(0, .ref (sL S 0 0 29)), (1, .ref (sL S 0 0 25)), (2, .int (x2)), (3, .int (x3))] [.int (s0), .int (s1), .ref (sL S 0 0 31)] σ := by
  unfold F_X10_cover_21 at h
  obtain ⟨g1, h⟩ := gd h
  refine is_0_31 (inb_in g1) dX10_cover_21 ?_
  refine z_iinc (j := 3) (v := x3 + 1) dX10_cover_22 rfl rfl (by decide) [1, 2, 3, 0] rfl ?_
  refine z_goto (tgt := 2) dX10_cover_25 (by decide) ?_
  exact hrc2 h
def B_X10_cover_2 (rc2 : Int32 → Int32 → Mm → Option (Mm)) (x2 : Int32) (x3 : Int32) (σ : Mm) : Option (Mm) := (if 360 ≤ x3 then some (σ) else (bnd (F_X6_struck x3 x2 0 σ) (fun v τ => (F_X10_cover_21 rc2 x2 x3 v x3 τ))))
set_option maxRecDepth 20000 in
theorem zB_X10_cover_2 {S : Shp} {rc2 : Int32 → Int32 → Mm → Option (Mm)} (hrc2 : ∀ {x2 : Int32} {x3 : Int32} {σ : Mm} {r : Mm}, rc2 x2 x3 σ = some r → Z m_X10_cover S (Qv r) 2 [(0, .ref (sL S 0 0 29)), (1, .ref (sL S 0 0 25)), (2, .int (x2)), (3, .int (x3))] [] σ) {x2 : Int32} {x3 : Int32} {σ : Mm} {r : Mm} (h : B_X10_cover_2 rc2 x2 x3 σ = some r) : Z m_X10_cover S (Qv r) 2 [(0, .ref (sL S 0 0 29)), (1, .ref (sL S 0 0 25)), (2, .int (x2)), (3, .int (x3))] [] σ := by
  unfold B_X10_cover_2 at h
  refine z_iload_n dX10_cover_2 rfl 3 rfl ?_
  refine z_sipush (v := 360) dX10_cover_3 (by decide) ?_
  refine z_icmp_ge (tgt := 28) dX10_cover_6 (by decide) (fun q => ?_) (fun q => ?_)
  · have h := (if_pos q).symm.trans h
    cases h
    exact z_return dX10_cover_28 rfl ⟨rfl, rfl⟩
  · have h := (if_neg q).symm.trans h
    refine z_aload_n dX10_cover_9 rfl 0 rfl ?_
    refine gf_10_15 rfl dX10_cover_10 ?_
    refine z_iload_n dX10_cover_13 rfl 3 rfl ?_
    refine z_aload_n dX10_cover_14 rfl 1 rfl ?_
    refine z_iload_n dX10_cover_15 rfl 3 rfl ?_
    refine z_iload_n dX10_cover_16 rfl 2 rfl ?_
    refine z_iconst (v := 0) dX10_cover_17 (by decide) ?_
    obtain ⟨v, τ, hc, h⟩ := bnd_e h
    refine z_callV (M' := m_X6_struck) (t := 0) (i := 0) (k := 25) (As := [.int (x3), .int (x2), .int (0)]) (rest := [.int (x3), .ref (sL S 0 0 31)]) kl_10_51 oy_X6_struck ⟨Nat.le_of_ble_eq_true rfl, Nat.le_of_ble_eq_true rfl⟩ rfl rfl rfl rfl (Nat.le_of_ble_eq_true rfl) rfl dX10_cover_18 (c_X6_struck hc) (fun v2 τ2 hq => ?_)
    obtain ⟨rfl, rfl⟩ := hq
    change Z _ _ _ _ _ [.int (v), .int (x3), .ref (sL S 0 0 31)] _
    exact zb_X10_cover_21 hrc2 h
def F_X10_cover_2 : Nat → Int32 → Int32 → Mm → Option (Mm)
  | 0 => fun _ _ _ => none
  | n + 1 => B_X10_cover_2 (F_X10_cover_2 n)
theorem zl_X10_cover_2 {S : Shp} (n : Nat) {x2 : Int32} {x3 : Int32} {σ : Mm} {r : Mm} (h : F_X10_cover_2 n x2 x3 σ = some r) : Z m_X10_cover S (Qv r) 2 [(0, .ref (sL S 0 0 29)), (1, .ref (sL S 0 0 25)), (2, .int (x2)), (3, .int (x3))] [] σ := by
  induction n generalizing x2 x3 σ r with
  | zero => cases h
  | succ n ih => exact zB_X10_cover_2 (fun h => ih h) h
def F_X10_cover (x2 : Int32) (σ : Mm) : Option (Mm) := (F_X10_cover_2 FU x2 0 σ)
set_option maxRecDepth 20000 in
theorem zb_X10_cover {S : Shp} {x2 : Int32} {σ : Mm} {r : Mm} (h : F_X10_cover x2 σ = some r) : Z m_X10_cover S (Qv r) 0 [(0, .ref (sL S 0 0 29)), (1, .ref (sL S 0 0 25)), (2, .int (x2))] [] σ := by
  unfold F_X10_cover at h
  refine z_iconst (v := 0) dX10_cover_0 (by decide) ?_
  refine z_istore_n dX10_cover_1 rfl (by decide) [1, 2, 3, 0] rfl ?_
  exact zl_X10_cover_2 FU h
/-- SkyStones$Turns.cover(LSkyStones$Sky;I)V -/
theorem c_X10_cover {S : Shp} {x2 : Int32} {σ : Mm} {r : Mm} (h : F_X10_cover x2 σ = some r) : Ct m_X10_cover S [.ref (sL S 0 0 29), .ref (sL S 0 0 25), .int (x2)] σ (Qv r) := Ct.of (by decide) (Nat.le_of_ble_eq_true rfl) (zb_X10_cover h)
def F_X10_findEdges_130 (rc27 : Int32 → Int32 → Int32 → Int32 → Mm → Option (Int32 × Mm)) (x1 : Int32) (x2 : Int32) (x4 : Int32) (x5 : Int32) (σ : Mm) : Option (Int32 × Mm) := (rc27 x1 x2 x5 (x4 + 1) σ)
set_option maxRecDepth 20000 in
theorem zb_X10_findEdges_130 {S : Shp} {rc27 : Int32 → Int32 → Int32 → Int32 → Mm → Option (Int32 × Mm)} (hrc27 : ∀ {x1 : Int32} {x2 : Int32} {x3 : Int32} {x4 : Int32} {σ : Mm} {r : Int32 × Mm}, rc27 x1 x2 x3 x4 σ = some r → Z m_X10_findEdges S (Qi r) 27 [(0, .ref (sL S 0 0 29)), (1, .int (x1)), (2, .int (x2)), (3, .int (x3)), (4, .int (x4))] [] σ) {x1 : Int32} {x2 : Int32} {x4 : Int32} {x5 : Int32} {σ : Mm} {r : Int32 × Mm} (h : F_X10_findEdges_130 rc27 x1 x2 x4 x5 σ = some r) : Z m_X10_findEdges S (Qi r) 130 [(0, .ref (sL S 0 0 29)), (1, .int (x1)), (2, .int (x2)), (4, .int (x4)), (5, .int (x5))] [] σ := by
  unfold F_X10_findEdges_130 at h
  refine z_iload dX10_findEdges_130 4 rfl ?_
  refine z_istore_n dX10_findEdges_132 rfl (by decide) [1, 2, 3, 0, 4, 5] rfl ?_
  refine z_iinc (j := 4) (v := x4 + 1) dX10_findEdges_133 rfl rfl (by decide) [1, 2, 3, 4, 0, 5] rfl ?_
  refine z_goto (tgt := 27) dX10_findEdges_136 (by decide) ?_
  refine Z.lv [0, 1, 2, 3, 4] rfl ?_
  exact hrc27 h
def F_X10_findEdges_122 (rc27 : Int32 → Int32 → Int32 → Int32 → Mm → Option (Int32 × Mm)) (x1 : Int32) (x2 : Int32) (x4 : Int32) (x5 : Int32) (σ : Mm) : Option (Int32 × Mm) := (F_X10_findEdges_130 rc27 x1 x2 x4 x5 (setA σ 0 0 29 (upd (mA σ 0 0 29) 5 ((mA σ 0 0 29 5) + 1))))
set_option maxRecDepth 20000 in
theorem zb_X10_findEdges_122 {S : Shp} {rc27 : Int32 → Int32 → Int32 → Int32 → Mm → Option (Int32 × Mm)} (hrc27 : ∀ {x1 : Int32} {x2 : Int32} {x3 : Int32} {x4 : Int32} {σ : Mm} {r : Int32 × Mm}, rc27 x1 x2 x3 x4 σ = some r → Z m_X10_findEdges S (Qi r) 27 [(0, .ref (sL S 0 0 29)), (1, .int (x1)), (2, .int (x2)), (3, .int (x3)), (4, .int (x4))] [] σ) {x1 : Int32} {x2 : Int32} {x4 : Int32} {x5 : Int32} {σ : Mm} {r : Int32 × Mm} (h : F_X10_findEdges_122 rc27 x1 x2 x4 x5 σ = some r) : Z m_X10_findEdges S (Qi r) 122 [(0, .ref (sL S 0 0 29)), (1, .int (x1)), (2, .int (x2)), (4, .int (x4)), (5, .int (x5))] [.ref (sL S 0 0 29), .ref (sL S 0 0 29)] σ := by
  unfold F_X10_findEdges_122 at h
  refine gf_10_27 rfl dX10_findEdges_122 ?_
  refine z_iconst (v := 1) dX10_findEdges_125 (by decide) ?_
  refine z_iadd dX10_findEdges_126 ?_
  refine pf_10_27 rfl dX10_findEdges_127 ?_
  exact zb_X10_findEdges_130 hrc27 h
def F_X10_findEdges_119 (rc27 : Int32 → Int32 → Int32 → Int32 → Mm → Option (Int32 × Mm)) (x1 : Int32) (x2 : Int32) (x4 : Int32) (x5 : Int32) (s0 : Int32) (s1 : Int32) (σ : Mm) : Option (Int32 × Mm) := (if inb s1 360 = true then (F_X10_findEdges_122 rc27 x1 x2 x4 x5 (setA σ 0 0 36 (upd (mA σ 0 0 36) s1.toNatClampNeg s0))) else none)
set_option maxRecDepth 20000 in
theorem zb_X10_findEdges_119 {S : Shp} {rc27 : Int32 → Int32 → Int32 → Int32 → Mm → Option (Int32 × Mm)} (hrc27 : ∀ {x1 : Int32} {x2 : Int32} {x3 : Int32} {x4 : Int32} {σ : Mm} {r : Int32 × Mm}, rc27 x1 x2 x3 x4 σ = some r → Z m_X10_findEdges S (Qi r) 27 [(0, .ref (sL S 0 0 29)), (1, .int (x1)), (2, .int (x2)), (3, .int (x3)), (4, .int (x4))] [] σ) {x1 : Int32} {x2 : Int32} {x4 : Int32} {x5 : Int32} {s0 : Int32} {s1 : Int32} {σ : Mm} {r : Int32 × Mm} (h : F_X10_findEdges_119 rc27 x1 x2 x4 x5 s0 s1 σ = some r) : Z m_X10_findEdges S (Qi r) 119 [(0, .ref (sL S 0 0 29)), (1, .int (x1)), (2, .int (x2)), (4, .int (x4)), (5, .int (x5))] [.int (s0), .int (s1), .ref (sL S 0 0 36)] σ := by
  unfold F_X10_findEdges_119 at h
  obtain ⟨g5, h⟩ := gd h
  refine is_0_36 (inb_in g5) dX10_findEdges_119 ?_
  refine z_aload_n dX10_findEdges_120 rfl 0 rfl ?_
  refine z_dup dX10_findEdges_121 rfl ?_
  exact zb_X10_findEdges_122 hrc27 h
def F_X10_findEdges_106 (rc27 : Int32 → Int32 → Int32 → Int32 → Mm → Option (Int32 × Mm)) (x1 : Int32) (x2 : Int32) (x4 : Int32) (x5 : Int32) (σ : Mm) : Option (Int32 × Mm) := (if x5 = 0 then (F_X10_findEdges_119 rc27 x1 x2 x4 x5 ((-1)) (mA σ 0 0 29 5) σ) else (F_X10_findEdges_119 rc27 x1 x2 x4 x5 1 (mA σ 0 0 29 5) σ))
set_option maxRecDepth 20000 in
theorem zb_X10_findEdges_106 {S : Shp} {rc27 : Int32 → Int32 → Int32 → Int32 → Mm → Option (Int32 × Mm)} (hrc27 : ∀ {x1 : Int32} {x2 : Int32} {x3 : Int32} {x4 : Int32} {σ : Mm} {r : Int32 × Mm}, rc27 x1 x2 x3 x4 σ = some r → Z m_X10_findEdges S (Qi r) 27 [(0, .ref (sL S 0 0 29)), (1, .int (x1)), (2, .int (x2)), (3, .int (x3)), (4, .int (x4))] [] σ) {x1 : Int32} {x2 : Int32} {x4 : Int32} {x5 : Int32} {σ : Mm} {r : Int32 × Mm} (h : F_X10_findEdges_106 rc27 x1 x2 x4 x5 σ = some r) : Z m_X10_findEdges S (Qi r) 106 [(0, .ref (sL S 0 0 29)), (1, .int (x1)), (2, .int (x2)), (4, .int (x4)), (5, .int (x5))] [.ref (sL S 0 0 29), .ref (sL S 0 0 36)] σ := by
  unfold F_X10_findEdges_106 at h
  refine gf_10_27 rfl dX10_findEdges_106 ?_
  refine z_iload dX10_findEdges_109 4 rfl ?_
  refine z_if_eq (tgt := 118) dX10_findEdges_111 (by decide) (fun q => ?_) (fun q => ?_)
  · have h := (if_pos q).symm.trans h
    refine z_iconst (v := (-1)) dX10_findEdges_118 (by decide) ?_
    exact zb_X10_findEdges_119 hrc27 h
  · have h := (if_neg q).symm.trans h
    refine z_iconst (v := 1) dX10_findEdges_114 (by decide) ?_
    refine z_goto (tgt := 119) dX10_findEdges_115 (by decide) ?_
    exact zb_X10_findEdges_119 hrc27 h
def F_X10_findEdges_84 (rc27 : Int32 → Int32 → Int32 → Int32 → Mm → Option (Int32 × Mm)) (x1 : Int32) (x2 : Int32) (x3 : Int32) (x4 : Int32) (x5 : Int32) (σ : Mm) : Option (Int32 × Mm) := (if x3 = x5 then (F_X10_findEdges_130 rc27 x1 x2 x4 x5 σ) else (if inb (mA σ 0 0 29 5) 360 = true then (F_X10_findEdges_106 rc27 x1 x2 x4 x5 (setA σ 0 0 35 (upd (mA σ 0 0 35) (mA σ 0 0 29 5).toNatClampNeg x4))) else none))
set_option maxRecDepth 20000 in
theorem zb_X10_findEdges_84 {S : Shp} {rc27 : Int32 → Int32 → Int32 → Int32 → Mm → Option (Int32 × Mm)} (hrc27 : ∀ {x1 : Int32} {x2 : Int32} {x3 : Int32} {x4 : Int32} {σ : Mm} {r : Int32 × Mm}, rc27 x1 x2 x3 x4 σ = some r → Z m_X10_findEdges S (Qi r) 27 [(0, .ref (sL S 0 0 29)), (1, .int (x1)), (2, .int (x2)), (3, .int (x3)), (4, .int (x4))] [] σ) {x1 : Int32} {x2 : Int32} {x3 : Int32} {x4 : Int32} {x5 : Int32} {σ : Mm} {r : Int32 × Mm} (h : F_X10_findEdges_84 rc27 x1 x2 x3 x4 x5 σ = some r) : Z m_X10_findEdges S (Qi r) 84 [(0, .ref (sL S 0 0 29)), (1, .int (x1)), (2, .int (x2)), (3, .int (x3)), (4, .int (x4)), (5, .int (x5))] [] σ := by
  unfold F_X10_findEdges_84 at h
  refine z_iload_n dX10_findEdges_84 rfl 3 rfl ?_
  refine z_iload dX10_findEdges_85 5 rfl ?_
  refine z_icmp_eq (tgt := 130) dX10_findEdges_87 (by decide) (fun q => ?_) (fun q => ?_)
  · have h := (if_pos q).symm.trans h
    refine Z.lv [0, 1, 2, 4, 5] rfl ?_
    exact zb_X10_findEdges_130 hrc27 h
  · have h := (if_neg q).symm.trans h
    obtain ⟨g4, h⟩ := gd h
    refine z_aload_n dX10_findEdges_90 rfl 0 rfl ?_
    refine gf_10_31 rfl dX10_findEdges_91 ?_
    refine z_aload_n dX10_findEdges_94 rfl 0 rfl ?_
    refine gf_10_27 rfl dX10_findEdges_95 ?_
    refine z_iload dX10_findEdges_98 4 rfl ?_
    refine is_0_35 (inb_in g4) dX10_findEdges_100 ?_
    refine z_aload_n dX10_findEdges_101 rfl 0 rfl ?_
    refine gf_10_34 rfl dX10_findEdges_102 ?_
    refine z_aload_n dX10_findEdges_105 rfl 0 rfl ?_
    refine Z.lv [0, 1, 2, 4, 5] rfl ?_
    exact zb_X10_findEdges_106 hrc27 h
def F_X10_findEdges_68 (rc27 : Int32 → Int32 → Int32 → Int32 → Mm → Option (Int32 × Mm)) (x1 : Int32) (x2 : Int32) (x3 : Int32) (x4 : Int32) (s0 : Int32) (σ : Mm) : Option (Int32 × Mm) := (if x3 = 0 then (F_X10_findEdges_84 rc27 x1 x2 x3 x4 s0 σ) else (if inb x4 360 = true then (F_X10_findEdges_84 rc27 x1 (x2 + (mA σ 0 0 30 x4.toNatClampNeg)) x3 x4 s0 σ) else none))
set_option maxRecDepth 20000 in
theorem zb_X10_findEdges_68 {S : Shp} {rc27 : Int32 → Int32 → Int32 → Int32 → Mm → Option (Int32 × Mm)} (hrc27 : ∀ {x1 : Int32} {x2 : Int32} {x3 : Int32} {x4 : Int32} {σ : Mm} {r : Int32 × Mm}, rc27 x1 x2 x3 x4 σ = some r → Z m_X10_findEdges S (Qi r) 27 [(0, .ref (sL S 0 0 29)), (1, .int (x1)), (2, .int (x2)), (3, .int (x3)), (4, .int (x4))] [] σ) {x1 : Int32} {x2 : Int32} {x3 : Int32} {x4 : Int32} {s0 : Int32} {σ : Mm} {r : Int32 × Mm} (h : F_X10_findEdges_68 rc27 x1 x2 x3 x4 s0 σ = some r) : Z m_X10_findEdges S (Qi r) 68 [(0, .ref (sL S 0 0 29)), (1, .int (x1)), (2, .int (x2)), (3, .int (x3)), (4, .int (x4))] [.int (s0)] σ := by
  unfold F_X10_findEdges_68 at h
  refine z_istore dX10_findEdges_68 (by decide) [1, 2, 3, 4, 5, 0] rfl ?_
  refine z_iload_n dX10_findEdges_70 rfl 3 rfl ?_
  refine z_if_eq (tgt := 84) dX10_findEdges_71 (by decide) (fun q => ?_) (fun q => ?_)
  · have h := (if_pos q).symm.trans h
    exact zb_X10_findEdges_84 hrc27 h
  · have h := (if_neg q).symm.trans h
    obtain ⟨g3, h⟩ := gd h
    refine z_iload_n dX10_findEdges_74 rfl 2 rfl ?_
    refine z_aload_n dX10_findEdges_75 rfl 0 rfl ?_
    refine gf_10_9 rfl dX10_findEdges_76 ?_
    refine z_iload dX10_findEdges_79 4 rfl ?_
    refine ia_0_30 (inb_in g3) dX10_findEdges_81 ?_
    refine z_iadd dX10_findEdges_82 ?_
    refine z_istore_n dX10_findEdges_83 rfl (by decide) [1, 2, 0, 3, 4, 5] rfl ?_
    exact zb_X10_findEdges_84 hrc27 h
def F_X10_findEdges_57 (rc27 : Int32 → Int32 → Int32 → Int32 → Mm → Option (Int32 × Mm)) (x1 : Int32) (x2 : Int32) (x3 : Int32) (x4 : Int32) (s0 : Int32) (σ : Mm) : Option (Int32 × Mm) := (if inb s0 360 = true then (if ((mA σ 0 0 31 s0.toNatClampNeg) &&& x1) = 0 then (F_X10_findEdges_68 rc27 x1 x2 x3 x4 0 σ) else (F_X10_findEdges_68 rc27 x1 x2 x3 x4 1 σ)) else none)
set_option maxRecDepth 20000 in
theorem zb_X10_findEdges_57 {S : Shp} {rc27 : Int32 → Int32 → Int32 → Int32 → Mm → Option (Int32 × Mm)} (hrc27 : ∀ {x1 : Int32} {x2 : Int32} {x3 : Int32} {x4 : Int32} {σ : Mm} {r : Int32 × Mm}, rc27 x1 x2 x3 x4 σ = some r → Z m_X10_findEdges S (Qi r) 27 [(0, .ref (sL S 0 0 29)), (1, .int (x1)), (2, .int (x2)), (3, .int (x3)), (4, .int (x4))] [] σ) {x1 : Int32} {x2 : Int32} {x3 : Int32} {x4 : Int32} {s0 : Int32} {σ : Mm} {r : Int32 × Mm} (h : F_X10_findEdges_57 rc27 x1 x2 x3 x4 s0 σ = some r) : Z m_X10_findEdges S (Qi r) 57 [(0, .ref (sL S 0 0 29)), (1, .int (x1)), (2, .int (x2)), (3, .int (x3)), (4, .int (x4))] [.int (s0), .ref (sL S 0 0 31)] σ := by
  unfold F_X10_findEdges_57 at h
  obtain ⟨g2, h⟩ := gd h
  refine ia_0_31 (inb_in g2) dX10_findEdges_57 ?_
  refine z_iload_n dX10_findEdges_58 rfl 1 rfl ?_
  refine z_iand dX10_findEdges_59 ?_
  refine z_if_eq (tgt := 67) dX10_findEdges_60 (by decide) (fun q => ?_) (fun q => ?_)
  · have h := (if_pos q).symm.trans h
    refine z_iconst (v := 0) dX10_findEdges_67 (by decide) ?_
    exact zb_X10_findEdges_68 hrc27 h
  · have h := (if_neg q).symm.trans h
    refine z_iconst (v := 1) dX10_findEdges_63 (by decide) ?_
    refine z_goto (tgt := 68) dX10_findEdges_64 (by decide) ?_
    exact zb_X10_findEdges_68 hrc27 h
def B_X10_findEdges_27 (rc27 : Int32 → Int32 → Int32 → Int32 → Mm → Option (Int32 × Mm)) (x1 : Int32) (x2 : Int32) (x3 : Int32) (x4 : Int32) (σ : Mm) : Option (Int32 × Mm) := (if 360 ≤ x4 then some (x2, σ) else (if 360 ≤ (x4 + 1) then (F_X10_findEdges_57 rc27 x1 x2 x3 x4 0 σ) else (F_X10_findEdges_57 rc27 x1 x2 x3 x4 (x4 + 1) σ)))
set_option maxRecDepth 20000 in
theorem zB_X10_findEdges_27 {S : Shp} {rc27 : Int32 → Int32 → Int32 → Int32 → Mm → Option (Int32 × Mm)} (hrc27 : ∀ {x1 : Int32} {x2 : Int32} {x3 : Int32} {x4 : Int32} {σ : Mm} {r : Int32 × Mm}, rc27 x1 x2 x3 x4 σ = some r → Z m_X10_findEdges S (Qi r) 27 [(0, .ref (sL S 0 0 29)), (1, .int (x1)), (2, .int (x2)), (3, .int (x3)), (4, .int (x4))] [] σ) {x1 : Int32} {x2 : Int32} {x3 : Int32} {x4 : Int32} {σ : Mm} {r : Int32 × Mm} (h : B_X10_findEdges_27 rc27 x1 x2 x3 x4 σ = some r) : Z m_X10_findEdges S (Qi r) 27 [(0, .ref (sL S 0 0 29)), (1, .int (x1)), (2, .int (x2)), (3, .int (x3)), (4, .int (x4))] [] σ := by
  unfold B_X10_findEdges_27 at h
  refine z_iload dX10_findEdges_27 4 rfl ?_
  refine z_sipush (v := 360) dX10_findEdges_29 (by decide) ?_
  refine z_icmp_ge (tgt := 139) dX10_findEdges_32 (by decide) (fun q => ?_) (fun q => ?_)
  · have h := (if_pos q).symm.trans h
    refine z_iload_n dX10_findEdges_139 rfl 2 rfl ?_
    cases h
    exact z_ireturn dX10_findEdges_140 rfl rfl ⟨rfl, rfl⟩
  · have h := (if_neg q).symm.trans h
    refine z_aload_n dX10_findEdges_35 rfl 0 rfl ?_
    refine gf_10_15 rfl dX10_findEdges_36 ?_
    refine z_iload dX10_findEdges_39 4 rfl ?_
    refine z_iconst (v := 1) dX10_findEdges_41 (by decide) ?_
    refine z_iadd dX10_findEdges_42 ?_
    refine z_sipush (v := 360) dX10_findEdges_43 (by decide) ?_
    refine z_icmp_ge (tgt := 56) dX10_findEdges_46 (by decide) (fun q => ?_) (fun q => ?_)
    · have h := (if_pos q).symm.trans h
      refine z_iconst (v := 0) dX10_findEdges_56 (by decide) ?_
      exact zb_X10_findEdges_57 hrc27 h
    · have h := (if_neg q).symm.trans h
      refine z_iload dX10_findEdges_49 4 rfl ?_
      refine z_iconst (v := 1) dX10_findEdges_51 (by decide) ?_
      refine z_iadd dX10_findEdges_52 ?_
      refine z_goto (tgt := 57) dX10_findEdges_53 (by decide) ?_
      exact zb_X10_findEdges_57 hrc27 h
def F_X10_findEdges_27 : Nat → Int32 → Int32 → Int32 → Int32 → Mm → Option (Int32 × Mm)
  | 0 => fun _ _ _ _ _ => none
  | n + 1 => B_X10_findEdges_27 (F_X10_findEdges_27 n)
theorem zl_X10_findEdges_27 {S : Shp} (n : Nat) {x1 : Int32} {x2 : Int32} {x3 : Int32} {x4 : Int32} {σ : Mm} {r : Int32 × Mm} (h : F_X10_findEdges_27 n x1 x2 x3 x4 σ = some r) : Z m_X10_findEdges S (Qi r) 27 [(0, .ref (sL S 0 0 29)), (1, .int (x1)), (2, .int (x2)), (3, .int (x3)), (4, .int (x4))] [] σ := by
  induction n generalizing x1 x2 x3 x4 σ r with
  | zero => cases h
  | succ n ih => exact zB_X10_findEdges_27 (fun h => ih h) h
def F_X10_findEdges_23 (x1 : Int32) (x2 : Int32) (s0 : Int32) (σ : Mm) : Option (Int32 × Mm) := (F_X10_findEdges_27 FU x1 x2 s0 0 σ)
set_option maxRecDepth 20000 in
theorem zb_X10_findEdges_23 {S : Shp} {x1 : Int32} {x2 : Int32} {s0 : Int32} {σ : Mm} {r : Int32 × Mm} (h : F_X10_findEdges_23 x1 x2 s0 σ = some r) : Z m_X10_findEdges S (Qi r) 23 [(0, .ref (sL S 0 0 29)), (1, .int (x1)), (2, .int (x2))] [.int (s0)] σ := by
  unfold F_X10_findEdges_23 at h
  refine z_istore_n dX10_findEdges_23 rfl (by decide) [1, 2, 3, 0] rfl ?_
  refine z_iconst (v := 0) dX10_findEdges_24 (by decide) ?_
  refine z_istore dX10_findEdges_25 (by decide) [1, 2, 3, 4, 0] rfl ?_
  exact zl_X10_findEdges_27 FU h
def F_X10_findEdges_12 (x1 : Int32) (x2 : Int32) (s0 : Int32) (σ : Mm) : Option (Int32 × Mm) := (if inb s0 360 = true then (if ((mA σ 0 0 31 s0.toNatClampNeg) &&& x1) = 0 then (F_X10_findEdges_23 x1 x2 0 σ) else (F_X10_findEdges_23 x1 x2 1 σ)) else none)
set_option maxRecDepth 20000 in
theorem zb_X10_findEdges_12 {S : Shp} {x1 : Int32} {x2 : Int32} {s0 : Int32} {σ : Mm} {r : Int32 × Mm} (h : F_X10_findEdges_12 x1 x2 s0 σ = some r) : Z m_X10_findEdges S (Qi r) 12 [(0, .ref (sL S 0 0 29)), (1, .int (x1)), (2, .int (x2))] [.int (s0), .ref (sL S 0 0 31)] σ := by
  unfold F_X10_findEdges_12 at h
  obtain ⟨g1, h⟩ := gd h
  refine ia_0_31 (inb_in g1) dX10_findEdges_12 ?_
  refine z_iload_n dX10_findEdges_13 rfl 1 rfl ?_
  refine z_iand dX10_findEdges_14 ?_
  refine z_if_eq (tgt := 22) dX10_findEdges_15 (by decide) (fun q => ?_) (fun q => ?_)
  · have h := (if_pos q).symm.trans h
    refine z_iconst (v := 0) dX10_findEdges_22 (by decide) ?_
    exact zb_X10_findEdges_23 h
  · have h := (if_neg q).symm.trans h
    refine z_iconst (v := 1) dX10_findEdges_18 (by decide) ?_
    refine z_goto (tgt := 23) dX10_findEdges_19 (by decide) ?_
    exact zb_X10_findEdges_23 h
def F_X10_findEdges (x1 : Int32) (σ : Mm) : Option (Int32 × Mm) := (F_X10_findEdges_12 x1 0 0 (setA σ 0 0 29 (upd (mA σ 0 0 29) 5 0)))
set_option maxRecDepth 20000 in
theorem zb_X10_findEdges {S : Shp} {x1 : Int32} {σ : Mm} {r : Int32 × Mm} (h : F_X10_findEdges x1 σ = some r) : Z m_X10_findEdges S (Qi r) 0 [(0, .ref (sL S 0 0 29)), (1, .int (x1))] [] σ := by
  unfold F_X10_findEdges at h
  refine z_iconst (v := 0) dX10_findEdges_0 (by decide) ?_
  refine z_istore_n dX10_findEdges_1 rfl (by decide) [1, 2, 0] rfl ?_
  refine z_aload_n dX10_findEdges_2 rfl 0 rfl ?_
  refine z_iconst (v := 0) dX10_findEdges_3 (by decide) ?_
  refine pf_10_27 rfl dX10_findEdges_4 ?_
  refine z_aload_n dX10_findEdges_7 rfl 0 rfl ?_
  refine gf_10_15 rfl dX10_findEdges_8 ?_
  refine z_iconst (v := 0) dX10_findEdges_11 (by decide) ?_
  exact zb_X10_findEdges_12 h
/-- SkyStones$Turns.findEdges(I)I -/
theorem c_X10_findEdges {S : Shp} {x1 : Int32} {σ : Mm} {r : Int32 × Mm} (h : F_X10_findEdges x1 σ = some r) : Ct m_X10_findEdges S [.ref (sL S 0 0 29), .int (x1)] σ (Qi r) := Ct.of (by decide) (Nat.le_of_ble_eq_true rfl) (zb_X10_findEdges h)
def F_X10_spin_73 (rc8 : Int32 → Int32 → Mm → Option (Mm)) (rc25 : Int32 → Int32 → Int32 → Mm → Option (Mm)) (x3 : Int32) (x4 : Int32) (s0 : Int32) (s2 : Int32) (s3 : Int32) (σ : Mm) : Option (Mm) := (if inb s0 360 = true then (rc25 (s3 + (s2 * (mA σ 0 0 30 s0.toNatClampNeg))) x3 (x4 + 1) σ) else none)
set_option maxRecDepth 20000 in
theorem zb_X10_spin_73 {S : Shp} {rc8 : Int32 → Int32 → Mm → Option (Mm)} (hrc8 : ∀ {x2 : Int32} {x3 : Int32} {σ : Mm} {r : Mm}, rc8 x2 x3 σ = some r → Z m_X10_spin S (Qv r) 8 [(0, .ref (sL S 0 0 29)), (2, .int (x2)), (3, .int (x3))] [] σ) {rc25 : Int32 → Int32 → Int32 → Mm → Option (Mm)} (hrc25 : ∀ {x2 : Int32} {x3 : Int32} {x4 : Int32} {σ : Mm} {r : Mm}, rc25 x2 x3 x4 σ = some r → Z m_X10_spin S (Qv r) 25 [(0, .ref (sL S 0 0 29)), (2, .int (x2)), (3, .int (x3)), (4, .int (x4))] [] σ) {x3 : Int32} {x4 : Int32} {s0 : Int32} {s2 : Int32} {s3 : Int32} {σ : Mm} {r : Mm} (h : F_X10_spin_73 rc8 rc25 x3 x4 s0 s2 s3 σ = some r) : Z m_X10_spin S (Qv r) 73 [(0, .ref (sL S 0 0 29)), (3, .int (x3)), (4, .int (x4))] [.int (s0), .ref (sL S 0 0 30), .int (s2), .int (s3)] σ := by
  unfold F_X10_spin_73 at h
  obtain ⟨g4, h⟩ := gd h
  refine ia_0_30 (inb_in g4) dX10_spin_73 ?_
  refine z_imul dX10_spin_74 ?_
  refine z_iadd dX10_spin_75 ?_
  refine z_istore_n dX10_spin_76 rfl (by decide) [1, 0, 2, 3] rfl ?_
  refine z_iinc (j := 3) (v := x4 + 1) dX10_spin_77 rfl rfl (by decide) [1, 2, 3, 0] rfl ?_
  refine z_goto (tgt := 25) dX10_spin_80 (by decide) ?_
  exact hrc25 h
def B_X10_spin_25 (rc8 : Int32 → Int32 → Mm → Option (Mm)) (rc25 : Int32 → Int32 → Int32 → Mm → Option (Mm)) (x2 : Int32) (x3 : Int32) (x4 : Int32) (σ : Mm) : Option (Mm) := (if (mA σ 0 0 29 5) ≤ x4 then (rc8 x2 (x3 + 1) σ) else (if inb x4 360 = true then (if inb x4 360 = true then (if 0 ≤ ((mA σ 0 0 35 x4.toNatClampNeg) - x3) then (F_X10_spin_73 rc8 rc25 x3 x4 ((mA σ 0 0 35 x4.toNatClampNeg) - x3) (mA σ 0 0 36 x4.toNatClampNeg) x2 σ) else (F_X10_spin_73 rc8 rc25 x3 x4 (((mA σ 0 0 35 x4.toNatClampNeg) - x3) + 360) (mA σ 0 0 36 x4.toNatClampNeg) x2 σ)) else none) else none))
set_option maxRecDepth 20000 in
theorem zB_X10_spin_25 {S : Shp} {rc8 : Int32 → Int32 → Mm → Option (Mm)} (hrc8 : ∀ {x2 : Int32} {x3 : Int32} {σ : Mm} {r : Mm}, rc8 x2 x3 σ = some r → Z m_X10_spin S (Qv r) 8 [(0, .ref (sL S 0 0 29)), (2, .int (x2)), (3, .int (x3))] [] σ) {rc25 : Int32 → Int32 → Int32 → Mm → Option (Mm)} (hrc25 : ∀ {x2 : Int32} {x3 : Int32} {x4 : Int32} {σ : Mm} {r : Mm}, rc25 x2 x3 x4 σ = some r → Z m_X10_spin S (Qv r) 25 [(0, .ref (sL S 0 0 29)), (2, .int (x2)), (3, .int (x3)), (4, .int (x4))] [] σ) {x2 : Int32} {x3 : Int32} {x4 : Int32} {σ : Mm} {r : Mm} (h : B_X10_spin_25 rc8 rc25 x2 x3 x4 σ = some r) : Z m_X10_spin S (Qv r) 25 [(0, .ref (sL S 0 0 29)), (2, .int (x2)), (3, .int (x3)), (4, .int (x4))] [] σ := by
  unfold B_X10_spin_25 at h
  refine z_iload dX10_spin_25 3 rfl ?_
  refine z_aload_n dX10_spin_27 rfl 0 rfl ?_
  refine gf_10_27 rfl dX10_spin_28 ?_
  refine z_icmp_ge (tgt := 83) dX10_spin_31 (by decide) (fun q => ?_) (fun q => ?_)
  · have h := (if_pos q).symm.trans h
    refine z_iinc (j := 2) (v := x3 + 1) dX10_spin_83 rfl rfl (by decide) [1, 2, 0, 3] rfl ?_
    refine z_goto (tgt := 8) dX10_spin_86 (by decide) ?_
    refine Z.lv [0, 1, 2] rfl ?_
    exact hrc8 h
  · have h := (if_neg q).symm.trans h
    obtain ⟨g2, h⟩ := gd h
    refine z_aload_n dX10_spin_34 rfl 0 rfl ?_
    refine gf_10_31 rfl dX10_spin_35 ?_
    refine z_iload dX10_spin_38 3 rfl ?_
    obtain ⟨g3, h⟩ := gd h
    refine ia_0_35 (inb_in g2) dX10_spin_40 ?_
    refine z_iload_n dX10_spin_41 rfl 2 rfl ?_
    refine z_isub dX10_spin_42 ?_
    refine z_istore dX10_spin_43 (by decide) [1, 2, 3, 4, 0] rfl ?_
    refine z_iload_n dX10_spin_45 rfl 1 rfl ?_
    refine z_aload_n dX10_spin_46 rfl 0 rfl ?_
    refine gf_10_34 rfl dX10_spin_47 ?_
    refine z_iload dX10_spin_50 3 rfl ?_
    refine ia_0_36 (inb_in g3) dX10_spin_52 ?_
    refine z_aload_n dX10_spin_53 rfl 0 rfl ?_
    refine gf_10_9 rfl dX10_spin_54 ?_
    refine z_iload dX10_spin_57 4 rfl ?_
    refine z_if_ge (tgt := 71) dX10_spin_59 (by decide) (fun q => ?_) (fun q => ?_)
    · have h := (if_pos q).symm.trans h
      refine z_iload dX10_spin_71 4 rfl ?_
      refine Z.lv [0, 2, 3] rfl ?_
      exact zb_X10_spin_73 hrc8 hrc25 h
    · have h := (if_neg q).symm.trans h
      refine z_iload dX10_spin_62 4 rfl ?_
      refine z_sipush (v := 360) dX10_spin_64 (by decide) ?_
      refine z_iadd dX10_spin_67 ?_
      refine z_goto (tgt := 73) dX10_spin_68 (by decide) ?_
      refine Z.lv [0, 2, 3] rfl ?_
      exact zb_X10_spin_73 hrc8 hrc25 h
def F_X10_spin_25 (rc8 : Int32 → Int32 → Mm → Option (Mm)) : Nat → Int32 → Int32 → Int32 → Mm → Option (Mm)
  | 0 => fun _ _ _ _ => none
  | n + 1 => B_X10_spin_25 rc8 (F_X10_spin_25 rc8 n)
theorem zl_X10_spin_25 {S : Shp} {rc8 : Int32 → Int32 → Mm → Option (Mm)} (hrc8 : ∀ {x2 : Int32} {x3 : Int32} {σ : Mm} {r : Mm}, rc8 x2 x3 σ = some r → Z m_X10_spin S (Qv r) 8 [(0, .ref (sL S 0 0 29)), (2, .int (x2)), (3, .int (x3))] [] σ) (n : Nat) {x2 : Int32} {x3 : Int32} {x4 : Int32} {σ : Mm} {r : Mm} (h : F_X10_spin_25 rc8 n x2 x3 x4 σ = some r) : Z m_X10_spin S (Qv r) 25 [(0, .ref (sL S 0 0 29)), (2, .int (x2)), (3, .int (x3)), (4, .int (x4))] [] σ := by
  induction n generalizing x2 x3 x4 σ r with
  | zero => cases h
  | succ n ih => exact zB_X10_spin_25 hrc8 (fun h => ih h) h
def B_X10_spin_8 (rc8 : Int32 → Int32 → Mm → Option (Mm)) (x2 : Int32) (x3 : Int32) (σ : Mm) : Option (Mm) := (if 360 ≤ x3 then some (σ) else (if inb x3 360 = true then (F_X10_spin_25 rc8 FU x2 x3 0 (setA σ 0 0 32 (upd (mA σ 0 0 32) x3.toNatClampNeg x2))) else none))
set_option maxRecDepth 20000 in
theorem zB_X10_spin_8 {S : Shp} {rc8 : Int32 → Int32 → Mm → Option (Mm)} (hrc8 : ∀ {x2 : Int32} {x3 : Int32} {σ : Mm} {r : Mm}, rc8 x2 x3 σ = some r → Z m_X10_spin S (Qv r) 8 [(0, .ref (sL S 0 0 29)), (2, .int (x2)), (3, .int (x3))] [] σ) {x2 : Int32} {x3 : Int32} {σ : Mm} {r : Mm} (h : B_X10_spin_8 rc8 x2 x3 σ = some r) : Z m_X10_spin S (Qv r) 8 [(0, .ref (sL S 0 0 29)), (2, .int (x2)), (3, .int (x3))] [] σ := by
  unfold B_X10_spin_8 at h
  refine z_iload_n dX10_spin_8 rfl 2 rfl ?_
  refine z_sipush (v := 360) dX10_spin_9 (by decide) ?_
  refine z_icmp_ge (tgt := 89) dX10_spin_12 (by decide) (fun q => ?_) (fun q => ?_)
  · have h := (if_pos q).symm.trans h
    cases h
    exact z_return dX10_spin_89 rfl ⟨rfl, rfl⟩
  · have h := (if_neg q).symm.trans h
    obtain ⟨g1, h⟩ := gd h
    refine z_aload_n dX10_spin_15 rfl 0 rfl ?_
    refine gf_10_18 rfl dX10_spin_16 ?_
    refine z_iload_n dX10_spin_19 rfl 2 rfl ?_
    refine z_iload_n dX10_spin_20 rfl 1 rfl ?_
    refine is_0_32 (inb_in g1) dX10_spin_21 ?_
    refine z_iconst (v := 0) dX10_spin_22 (by decide) ?_
    refine z_istore dX10_spin_23 (by decide) [1, 2, 3, 0] rfl ?_
    exact zl_X10_spin_25 hrc8 FU h
def F_X10_spin_8 : Nat → Int32 → Int32 → Mm → Option (Mm)
  | 0 => fun _ _ _ => none
  | n + 1 => B_X10_spin_8 (F_X10_spin_8 n)
theorem zl_X10_spin_8 {S : Shp} (n : Nat) {x2 : Int32} {x3 : Int32} {σ : Mm} {r : Mm} (h : F_X10_spin_8 n x2 x3 σ = some r) : Z m_X10_spin S (Qv r) 8 [(0, .ref (sL S 0 0 29)), (2, .int (x2)), (3, .int (x3))] [] σ := by
  induction n generalizing x2 x3 σ r with
  | zero => cases h
  | succ n ih => exact zB_X10_spin_8 (fun h => ih h) h
def F_X10_spin_5 (s0 : Int32) (σ : Mm) : Option (Mm) := (F_X10_spin_8 FU s0 0 σ)
set_option maxRecDepth 20000 in
theorem zb_X10_spin_5 {S : Shp} {s0 : Int32} {σ : Mm} {r : Mm} (h : F_X10_spin_5 s0 σ = some r) : Z m_X10_spin S (Qv r) 5 [(0, .ref (sL S 0 0 29))] [.int (s0)] σ := by
  unfold F_X10_spin_5 at h
  refine z_istore_n dX10_spin_5 rfl (by decide) [1, 0] rfl ?_
  refine z_iconst (v := 0) dX10_spin_6 (by decide) ?_
  refine z_istore_n dX10_spin_7 rfl (by decide) [1, 2, 0] rfl ?_
  exact zl_X10_spin_8 FU h
def F_X10_spin (x1 : Int32) (σ : Mm) : Option (Mm) := (bnd (F_X10_findEdges x1 σ) (fun v τ => (F_X10_spin_5 v τ)))
set_option maxRecDepth 20000 in
theorem zb_X10_spin {S : Shp} {x1 : Int32} {σ : Mm} {r : Mm} (h : F_X10_spin x1 σ = some r) : Z m_X10_spin S (Qv r) 0 [(0, .ref (sL S 0 0 29)), (1, .int (x1))] [] σ := by
  unfold F_X10_spin at h
  refine z_aload_n dX10_spin_0 rfl 0 rfl ?_
  refine z_iload_n dX10_spin_1 rfl 1 rfl ?_
  obtain ⟨v, τ, hc, h⟩ := bnd_e h
  refine z_callV (M' := m_X10_findEdges) (t := 0) (i := 0) (k := 29) (As := [.int (x1)]) (rest := []) kl_10_56 oy_X10_findEdges ⟨Nat.le_of_ble_eq_true rfl, Nat.le_of_ble_eq_true rfl⟩ rfl rfl rfl rfl (Nat.le_of_ble_eq_true rfl) rfl dX10_spin_2 (c_X10_findEdges hc) (fun v2 τ2 hq => ?_)
  obtain ⟨rfl, rfl⟩ := hq
  change Z _ _ _ _ _ [.int (v)] _
  refine Z.lv [0] rfl ?_
  exact zb_X10_spin_5 h
/-- SkyStones$Turns.spin(I)V -/
theorem c_X10_spin {S : Shp} {x1 : Int32} {σ : Mm} {r : Mm} (h : F_X10_spin x1 σ = some r) : Ct m_X10_spin S [.ref (sL S 0 0 29), .int (x1)] σ (Qv r) := Ct.of (by decide) (Nat.le_of_ble_eq_true rfl) (zb_X10_spin h)
def B_X10_sum_4 (rc4 : Int32 → Int32 → Mm → Option (Int32 × Mm)) (x1 : Int32) (x2 : Int32) (σ : Mm) : Option (Int32 × Mm) := (if 360 ≤ x2 then some (x1, σ) else (if inb x2 360 = true then (rc4 (x1 + (mA σ 0 0 32 x2.toNatClampNeg)) (x2 + 1) σ) else none))
set_option maxRecDepth 20000 in
theorem zB_X10_sum_4 {S : Shp} {rc4 : Int32 → Int32 → Mm → Option (Int32 × Mm)} (hrc4 : ∀ {x1 : Int32} {x2 : Int32} {σ : Mm} {r : Int32 × Mm}, rc4 x1 x2 σ = some r → Z m_X10_sum S (Qi r) 4 [(0, .ref (sL S 0 0 29)), (1, .int (x1)), (2, .int (x2))] [] σ) {x1 : Int32} {x2 : Int32} {σ : Mm} {r : Int32 × Mm} (h : B_X10_sum_4 rc4 x1 x2 σ = some r) : Z m_X10_sum S (Qi r) 4 [(0, .ref (sL S 0 0 29)), (1, .int (x1)), (2, .int (x2))] [] σ := by
  unfold B_X10_sum_4 at h
  refine z_iload_n dX10_sum_4 rfl 2 rfl ?_
  refine z_sipush (v := 360) dX10_sum_5 (by decide) ?_
  refine z_icmp_ge (tgt := 26) dX10_sum_8 (by decide) (fun q => ?_) (fun q => ?_)
  · have h := (if_pos q).symm.trans h
    refine z_iload_n dX10_sum_26 rfl 1 rfl ?_
    cases h
    exact z_ireturn dX10_sum_27 rfl rfl ⟨rfl, rfl⟩
  · have h := (if_neg q).symm.trans h
    obtain ⟨g1, h⟩ := gd h
    refine z_iload_n dX10_sum_11 rfl 1 rfl ?_
    refine z_aload_n dX10_sum_12 rfl 0 rfl ?_
    refine gf_10_18 rfl dX10_sum_13 ?_
    refine z_iload_n dX10_sum_16 rfl 2 rfl ?_
    refine ia_0_32 (inb_in g1) dX10_sum_17 ?_
    refine z_iadd dX10_sum_18 ?_
    refine z_istore_n dX10_sum_19 rfl (by decide) [1, 0, 2] rfl ?_
    refine z_iinc (j := 2) (v := x2 + 1) dX10_sum_20 rfl rfl (by decide) [1, 2, 0] rfl ?_
    refine z_goto (tgt := 4) dX10_sum_23 (by decide) ?_
    exact hrc4 h
def F_X10_sum_4 : Nat → Int32 → Int32 → Mm → Option (Int32 × Mm)
  | 0 => fun _ _ _ => none
  | n + 1 => B_X10_sum_4 (F_X10_sum_4 n)
theorem zl_X10_sum_4 {S : Shp} (n : Nat) {x1 : Int32} {x2 : Int32} {σ : Mm} {r : Int32 × Mm} (h : F_X10_sum_4 n x1 x2 σ = some r) : Z m_X10_sum S (Qi r) 4 [(0, .ref (sL S 0 0 29)), (1, .int (x1)), (2, .int (x2))] [] σ := by
  induction n generalizing x1 x2 σ r with
  | zero => cases h
  | succ n ih => exact zB_X10_sum_4 (fun h => ih h) h
def F_X10_sum (σ : Mm) : Option (Int32 × Mm) := (F_X10_sum_4 FU 0 0 σ)
set_option maxRecDepth 20000 in
theorem zb_X10_sum {S : Shp} {σ : Mm} {r : Int32 × Mm} (h : F_X10_sum σ = some r) : Z m_X10_sum S (Qi r) 0 [(0, .ref (sL S 0 0 29))] [] σ := by
  unfold F_X10_sum at h
  refine z_iconst (v := 0) dX10_sum_0 (by decide) ?_
  refine z_istore_n dX10_sum_1 rfl (by decide) [1, 0] rfl ?_
  refine z_iconst (v := 0) dX10_sum_2 (by decide) ?_
  refine z_istore_n dX10_sum_3 rfl (by decide) [1, 2, 0] rfl ?_
  exact zl_X10_sum_4 FU h
/-- SkyStones$Turns.sum()I -/
theorem c_X10_sum {S : Shp} {σ : Mm} {r : Int32 × Mm} (h : F_X10_sum σ = some r) : Ct m_X10_sum S [.ref (sL S 0 0 29)] σ (Qi r) := Ct.of (by decide) (Nat.le_of_ble_eq_true rfl) (zb_X10_sum h)
def f_X11_isKnown (x1 : Int32) (σ : Mm) : Int32 := (if x1 < 0 then 0 else (if (mA σ 2 0 0 0) < x1 then 0 else 1))
set_option maxRecDepth 20000 in
theorem zb_X11_isKnown {S : Shp} {x1 : Int32} {σ : Mm} {r : Int32} (hp : okP σ = true) (h : f_X11_isKnown x1 σ = r) : Z m_X11_isKnown S (Qi (r, σ)) 0 [(0, .ref (sL S 0 0 0)), (1, .int (x1))] [] σ := by
  unfold f_X11_isKnown at h
  refine z_iload_n dX11_isKnown_0 rfl 1 rfl ?_
  refine z_if_lt (tgt := 19) dX11_isKnown_1 (by decide) (fun q => ?_) (fun q => ?_)
  · have h := (if_pos q).symm.trans h
    refine z_iconst (v := 0) dX11_isKnown_19 (by decide) ?_
    subst h
    exact z_ireturn dX11_isKnown_20 rfl rfl ⟨rfl, rfl⟩
  · have h := (if_neg q).symm.trans h
    refine z_iload_n dX11_isKnown_4 rfl 1 rfl ?_
    refine z_aload_n dX11_isKnown_5 rfl 0 rfl ?_
    refine gf_11_38 rfl dX11_isKnown_6 ?_
    refine gf_11_128 (rfl) rfl dX11_isKnown_9 ?_
    refine z_icmp_gt (tgt := 19) dX11_isKnown_12 (by decide) (fun q => ?_) (fun q => ?_)
    · have h := (if_pos q).symm.trans h
      refine z_iconst (v := 0) dX11_isKnown_19 (by decide) ?_
      subst h
      exact z_ireturn dX11_isKnown_20 rfl rfl ⟨rfl, rfl⟩
    · have h := (if_neg q).symm.trans h
      refine z_iconst (v := 1) dX11_isKnown_15 (by decide) ?_
      refine z_goto (tgt := 20) dX11_isKnown_16 (by decide) ?_
      subst h
      exact z_ireturn dX11_isKnown_20 rfl rfl ⟨rfl, rfl⟩
/-- SkyStones.isKnown(I)Z -/
theorem c_X11_isKnown {S : Shp} {x1 : Int32} {σ : Mm} {r : Int32} (hp : okP σ = true) (h : f_X11_isKnown x1 σ = r) : Ct m_X11_isKnown S [.ref (sL S 0 0 0), .int (x1)] σ (Qi (r, σ)) := Ct.of (by decide) (Nat.le_of_ble_eq_true rfl) (zb_X11_isKnown hp h)
def f_X11_isYear (x0 : Int32) : Int32 := (if x0 < 0 then 0 else (if 5000 < x0 then 0 else 1))
set_option maxRecDepth 20000 in
theorem zb_X11_isYear {S : Shp} {x0 : Int32} {σ : Mm} {r : Int32} (h : f_X11_isYear x0 = r) : Z m_X11_isYear S (Qi (r, σ)) 0 [(0, .int (x0))] [] σ := by
  unfold f_X11_isYear at h
  refine z_iload_n dX11_isYear_0 rfl 0 rfl ?_
  refine z_if_lt (tgt := 15) dX11_isYear_1 (by decide) (fun q => ?_) (fun q => ?_)
  · have h := (if_pos q).symm.trans h
    refine z_iconst (v := 0) dX11_isYear_15 (by decide) ?_
    subst h
    exact z_ireturn dX11_isYear_16 rfl rfl ⟨rfl, rfl⟩
  · have h := (if_neg q).symm.trans h
    refine z_iload_n dX11_isYear_4 rfl 0 rfl ?_
    refine z_sipush (v := 5000) dX11_isYear_5 (by decide) ?_
    refine z_icmp_gt (tgt := 15) dX11_isYear_8 (by decide) (fun q => ?_) (fun q => ?_)
    · have h := (if_pos q).symm.trans h
      refine z_iconst (v := 0) dX11_isYear_15 (by decide) ?_
      subst h
      exact z_ireturn dX11_isYear_16 rfl rfl ⟨rfl, rfl⟩
    · have h := (if_neg q).symm.trans h
      refine z_iconst (v := 1) dX11_isYear_11 (by decide) ?_
      refine z_goto (tgt := 16) dX11_isYear_12 (by decide) ?_
      subst h
      exact z_ireturn dX11_isYear_16 rfl rfl ⟨rfl, rfl⟩
/-- SkyStones.isYear(I)Z -/
theorem c_X11_isYear {S : Shp} {x0 : Int32} {σ : Mm} {r : Int32} (h : f_X11_isYear x0 = r) : Ct m_X11_isYear S [.int (x0)] σ (Qi (r, σ)) := Ct.of (by decide) (Nat.le_of_ble_eq_true rfl) (zb_X11_isYear h)
def f_X11_isAsked (x1 : Int32) (x2 : Int32) (x3 : Int32) (σ : Mm) : Int32 := (if x1 < 0 then 0 else (if (1 <<< ((mA σ 1 (mP σ 0) 0 12) &&& 31)) ≤ x1 then 0 else (if (f_X11_isYear x2) = 0 then 0 else (if (f_X11_isKnown x3 σ) = 0 then 0 else 1))))
set_option maxRecDepth 20000 in
theorem zb_X11_isAsked {S : Shp} {x1 : Int32} {x2 : Int32} {x3 : Int32} {σ : Mm} {r : Int32} (hp : okP σ = true) (h : f_X11_isAsked x1 x2 x3 σ = r) : Z m_X11_isAsked S (Qi (r, σ)) 0 [(0, .ref (sL S 0 0 0)), (1, .int (x1)), (2, .int (x2)), (3, .int (x3))] [] σ := by
  unfold f_X11_isAsked at h
  refine z_iload_n dX11_isAsked_0 rfl 1 rfl ?_
  refine z_if_lt (tgt := 36) dX11_isAsked_1 (by decide) (fun q => ?_) (fun q => ?_)
  · have h := (if_pos q).symm.trans h
    refine z_iconst (v := 0) dX11_isAsked_36 (by decide) ?_
    subst h
    exact z_ireturn dX11_isAsked_37 rfl rfl ⟨rfl, rfl⟩
  · have h := (if_neg q).symm.trans h
    refine z_iload_n dX11_isAsked_4 rfl 1 rfl ?_
    refine z_iconst (v := 1) dX11_isAsked_5 (by decide) ?_
    refine z_aload_n dX11_isAsked_6 rfl 0 rfl ?_
    refine gf_11_19 rfl dX11_isAsked_7 ?_
    refine gf_11_341 (lv1 (okP_0 hp) rfl) rfl dX11_isAsked_10 ?_
    refine z_ishl dX11_isAsked_13 ?_
    refine z_icmp_ge (tgt := 36) dX11_isAsked_14 (by decide) (fun q => ?_) (fun q => ?_)
    · have h := (if_pos q).symm.trans h
      refine z_iconst (v := 0) dX11_isAsked_36 (by decide) ?_
      subst h
      exact z_ireturn dX11_isAsked_37 rfl rfl ⟨rfl, rfl⟩
    · have h := (if_neg q).symm.trans h
      refine z_iload_n dX11_isAsked_17 rfl 2 rfl ?_
      refine z_callS (M' := m_X11_isYear) (As := [.int (x2)]) (rest := []) kl_11_219 oy_X11_isYear ⟨Nat.le_of_ble_eq_true rfl, Nat.le_of_ble_eq_true rfl⟩ rfl (Nat.le_of_ble_eq_true rfl) rfl dX11_isAsked_18 (c_X11_isYear rfl) (fun v τ hq => ?_)
      obtain ⟨rfl, rfl⟩ := hq
      change Z _ _ _ _ _ [.int (f_X11_isYear x2)] _
      refine z_if_eq (tgt := 36) dX11_isAsked_21 (by decide) (fun q => ?_) (fun q => ?_)
      · have h := (if_pos q).symm.trans h
        refine z_iconst (v := 0) dX11_isAsked_36 (by decide) ?_
        subst h
        exact z_ireturn dX11_isAsked_37 rfl rfl ⟨rfl, rfl⟩
      · have h := (if_neg q).symm.trans h
        refine z_aload_n dX11_isAsked_24 rfl 0 rfl ?_
        refine z_iload_n dX11_isAsked_25 rfl 3 rfl ?_
        refine z_callV (M' := m_X11_isKnown) (t := 0) (i := 0) (k := 0) (As := [.int (x3)]) (rest := []) kl_11_152 oy_X11_isKnown ⟨Nat.le_of_ble_eq_true rfl, Nat.le_of_ble_eq_true rfl⟩ rfl rfl rfl rfl (Nat.le_of_ble_eq_true rfl) rfl dX11_isAsked_26 (c_X11_isKnown hp rfl) (fun v τ hq => ?_)
        obtain ⟨rfl, rfl⟩ := hq
        change Z _ _ _ _ _ [.int (f_X11_isKnown x3 σ)] _
        refine z_if_eq (tgt := 36) dX11_isAsked_29 (by decide) (fun q => ?_) (fun q => ?_)
        · have h := (if_pos q).symm.trans h
          refine z_iconst (v := 0) dX11_isAsked_36 (by decide) ?_
          subst h
          exact z_ireturn dX11_isAsked_37 rfl rfl ⟨rfl, rfl⟩
        · have h := (if_neg q).symm.trans h
          refine z_iconst (v := 1) dX11_isAsked_32 (by decide) ?_
          refine z_goto (tgt := 37) dX11_isAsked_33 (by decide) ?_
          subst h
          exact z_ireturn dX11_isAsked_37 rfl rfl ⟨rfl, rfl⟩
/-- SkyStones.isAsked(III)Z -/
theorem c_X11_isAsked {S : Shp} {x1 : Int32} {x2 : Int32} {x3 : Int32} {σ : Mm} {r : Int32} (hp : okP σ = true) (h : f_X11_isAsked x1 x2 x3 σ = r) : Ct m_X11_isAsked S [.ref (sL S 0 0 0), .int (x1), .int (x2), .int (x3)] σ (Qi (r, σ)) := Ct.of (by decide) (Nat.le_of_ble_eq_true rfl) (zb_X11_isAsked hp h)
def F_X1_bearing_61 (x0 : Int32) (x1 : Int32) (x2 : Int32) (x3 : Int32) (x5 : Int32) (σ : Mm) : Option (Int32 × Mm) := (if x0 ≤ 0 then (if 0 ≤ x1 then (if x2 < x3 then some ((360 - x5) - (360 - x5) / 360 * 360, σ) else some (270 + x5, σ)) else (if x3 < x2 then some (270 - x5, σ) else some (180 + x5, σ))) else (if x2 < x3 then some (180 - x5, σ) else some (90 + x5, σ)))
set_option maxRecDepth 20000 in
theorem zb_X1_bearing_61 {S : Shp} {x0 : Int32} {x1 : Int32} {x2 : Int32} {x3 : Int32} {x5 : Int32} {σ : Mm} {r : Int32 × Mm} (h : F_X1_bearing_61 x0 x1 x2 x3 x5 σ = some r) : Z m_X1_bearing S (Qi r) 61 [(0, .int (x0)), (1, .int (x1)), (2, .int (x2)), (3, .int (x3)), (5, .int (x5))] [] σ := by
  unfold F_X1_bearing_61 at h
  refine z_iload_n dX1_bearing_61 rfl 0 rfl ?_
  refine z_if_le (tgt := 85) dX1_bearing_62 (by decide) (fun q => ?_) (fun q => ?_)
  · have h := (if_pos q).symm.trans h
    refine z_iload_n dX1_bearing_85 rfl 1 rfl ?_
    refine z_if_ge (tgt := 110) dX1_bearing_86 (by decide) (fun q => ?_) (fun q => ?_)
    · have h := (if_pos q).symm.trans h
      refine z_iload_n dX1_bearing_110 rfl 3 rfl ?_
      refine z_iload_n dX1_bearing_111 rfl 2 rfl ?_
      refine z_icmp_gt (tgt := 124) dX1_bearing_112 (by decide) (fun q => ?_) (fun q => ?_)
      · have h := (if_pos q).symm.trans h
        refine z_sipush (v := 360) dX1_bearing_124 (by decide) ?_
        refine z_iload dX1_bearing_127 4 rfl ?_
        refine z_isub dX1_bearing_129 ?_
        refine z_sipush (v := 360) dX1_bearing_130 (by decide) ?_
        refine z_irem dX1_bearing_133 (by decide) ?_
        cases h
        exact z_ireturn dX1_bearing_134 rfl rfl ⟨rfl, rfl⟩
      · have h := (if_neg q).symm.trans h
        refine z_sipush (v := 270) dX1_bearing_115 (by decide) ?_
        refine z_iload dX1_bearing_118 4 rfl ?_
        refine z_iadd dX1_bearing_120 ?_
        refine z_goto (tgt := 134) dX1_bearing_121 (by decide) ?_
        cases h
        exact z_ireturn dX1_bearing_134 rfl rfl ⟨rfl, rfl⟩
    · have h := (if_neg q).symm.trans h
      refine z_iload_n dX1_bearing_89 rfl 2 rfl ?_
      refine z_iload_n dX1_bearing_90 rfl 3 rfl ?_
      refine z_icmp_gt (tgt := 103) dX1_bearing_91 (by decide) (fun q => ?_) (fun q => ?_)
      · have h := (if_pos q).symm.trans h
        refine z_sipush (v := 270) dX1_bearing_103 (by decide) ?_
        refine z_iload dX1_bearing_106 4 rfl ?_
        refine z_isub dX1_bearing_108 ?_
        cases h
        exact z_ireturn dX1_bearing_109 rfl rfl ⟨rfl, rfl⟩
      · have h := (if_neg q).symm.trans h
        refine z_sipush (v := 180) dX1_bearing_94 (by decide) ?_
        refine z_iload dX1_bearing_97 4 rfl ?_
        refine z_iadd dX1_bearing_99 ?_
        refine z_goto (tgt := 109) dX1_bearing_100 (by decide) ?_
        cases h
        exact z_ireturn dX1_bearing_109 rfl rfl ⟨rfl, rfl⟩
  · have h := (if_neg q).symm.trans h
    refine z_iload_n dX1_bearing_65 rfl 3 rfl ?_
    refine z_iload_n dX1_bearing_66 rfl 2 rfl ?_
    refine z_icmp_gt (tgt := 78) dX1_bearing_67 (by decide) (fun q => ?_) (fun q => ?_)
    · have h := (if_pos q).symm.trans h
      refine z_sipush (v := 180) dX1_bearing_78 (by decide) ?_
      refine z_iload dX1_bearing_81 4 rfl ?_
      refine z_isub dX1_bearing_83 ?_
      cases h
      exact z_ireturn dX1_bearing_84 rfl rfl ⟨rfl, rfl⟩
    · have h := (if_neg q).symm.trans h
      refine z_bipush (v := 90) dX1_bearing_70 (by decide) ?_
      refine z_iload dX1_bearing_72 4 rfl ?_
      refine z_iadd dX1_bearing_74 ?_
      refine z_goto (tgt := 84) dX1_bearing_75 (by decide) ?_
      cases h
      exact z_ireturn dX1_bearing_84 rfl rfl ⟨rfl, rfl⟩
def F_X1_bearing (x0 : Int32) (x1 : Int32) (σ : Mm) : Option (Int32 × Mm) := (if (f_J9_max_7cf53 (f_J9_abs_0f7a4 x0) (f_J9_abs_0f7a4 x1)) = 0 then some ((-1), σ) else (if ¬ (f_J9_max_7cf53 (f_J9_abs_0f7a4 x0) (f_J9_abs_0f7a4 x1)) = 0 then (if x0 < 0 then (F_X1_bearing_61 x0 x1 (f_J9_abs_0f7a4 x0) (f_J9_abs_0f7a4 x1) ((45 * (f_J9_min_7cf53 (f_J9_abs_0f7a4 x0) (f_J9_abs_0f7a4 x1))) / (f_J9_max_7cf53 (f_J9_abs_0f7a4 x0) (f_J9_abs_0f7a4 x1))) σ) else (if x1 ≤ 0 then (F_X1_bearing_61 x0 x1 (f_J9_abs_0f7a4 x0) (f_J9_abs_0f7a4 x1) ((45 * (f_J9_min_7cf53 (f_J9_abs_0f7a4 x0) (f_J9_abs_0f7a4 x1))) / (f_J9_max_7cf53 (f_J9_abs_0f7a4 x0) (f_J9_abs_0f7a4 x1))) σ) else (if (f_J9_abs_0f7a4 x1) < (f_J9_abs_0f7a4 x0) then some (90 - ((45 * (f_J9_min_7cf53 (f_J9_abs_0f7a4 x0) (f_J9_abs_0f7a4 x1))) / (f_J9_max_7cf53 (f_J9_abs_0f7a4 x0) (f_J9_abs_0f7a4 x1))), σ) else some ((45 * (f_J9_min_7cf53 (f_J9_abs_0f7a4 x0) (f_J9_abs_0f7a4 x1))) / (f_J9_max_7cf53 (f_J9_abs_0f7a4 x0) (f_J9_abs_0f7a4 x1)), σ)))) else none))
set_option maxRecDepth 20000 in
theorem zb_X1_bearing {S : Shp} {x0 : Int32} {x1 : Int32} {σ : Mm} {r : Int32 × Mm} (h : F_X1_bearing x0 x1 σ = some r) : Z m_X1_bearing S (Qi r) 0 [(0, .int (x0)), (1, .int (x1))] [] σ := by
  unfold F_X1_bearing at h
  refine z_iload_n dX1_bearing_0 rfl 0 rfl ?_
  refine z_callS (M' := m_J9_abs_0f7a4) (As := [.int (x0)]) (rest := []) kl_1_9 oy_J9_abs_0f7a4 ⟨Nat.le_of_ble_eq_true rfl, Nat.le_of_ble_eq_true rfl⟩ rfl (Nat.le_of_ble_eq_true rfl) rfl dX1_bearing_1 (c_J9_abs_0f7a4 rfl) (fun v τ hq => ?_)
  obtain ⟨rfl, rfl⟩ := hq
  change Z _ _ _ _ _ [.int (f_J9_abs_0f7a4 x0)] _
  refine z_istore_n dX1_bearing_4 rfl (by decide) [1, 2, 0] rfl ?_
  refine z_iload_n dX1_bearing_5 rfl 1 rfl ?_
  refine z_callS (M' := m_J9_abs_0f7a4) (As := [.int (x1)]) (rest := []) kl_1_9 oy_J9_abs_0f7a4 ⟨Nat.le_of_ble_eq_true rfl, Nat.le_of_ble_eq_true rfl⟩ rfl (Nat.le_of_ble_eq_true rfl) rfl dX1_bearing_6 (c_J9_abs_0f7a4 rfl) (fun v τ hq => ?_)
  obtain ⟨rfl, rfl⟩ := hq
  change Z _ _ _ _ _ [.int (f_J9_abs_0f7a4 x1)] _
  refine z_istore_n dX1_bearing_9 rfl (by decide) [1, 2, 3, 0] rfl ?_
  refine z_iload_n dX1_bearing_10 rfl 2 rfl ?_
  refine z_iload_n dX1_bearing_11 rfl 3 rfl ?_
  refine z_callS (M' := m_J9_max_7cf53) (As := [.int (f_J9_abs_0f7a4 x0), .int (f_J9_abs_0f7a4 x1)]) (rest := []) kl_1_15 oy_J9_max_7cf53 ⟨Nat.le_of_ble_eq_true rfl, Nat.le_of_ble_eq_true rfl⟩ rfl (Nat.le_of_ble_eq_true rfl) rfl dX1_bearing_12 (c_J9_max_7cf53 rfl) (fun v τ hq => ?_)
  obtain ⟨rfl, rfl⟩ := hq
  change Z _ _ _ _ _ [.int (f_J9_max_7cf53 (f_J9_abs_0f7a4 x0) (f_J9_abs_0f7a4 x1))] _
  refine z_istore dX1_bearing_15 (by decide) [1, 2, 3, 4, 0] rfl ?_
  refine z_iload dX1_bearing_17 4 rfl ?_
  refine z_if_ne (tgt := 24) dX1_bearing_19 (by decide) (fun q => ?_) (fun q => ?_)
  · have h := (if_neg q).symm.trans h
    obtain ⟨g1, h⟩ := gd h
    refine z_bipush (v := 45) dX1_bearing_24 (by decide) ?_
    refine z_iload_n dX1_bearing_26 rfl 2 rfl ?_
    refine z_iload_n dX1_bearing_27 rfl 3 rfl ?_
    refine z_callS (M' := m_J9_min_7cf53) (As := [.int (f_J9_abs_0f7a4 x0), .int (f_J9_abs_0f7a4 x1)]) (rest := [.int (45)]) kl_1_19 oy_J9_min_7cf53 ⟨Nat.le_of_ble_eq_true rfl, Nat.le_of_ble_eq_true rfl⟩ rfl (Nat.le_of_ble_eq_true rfl) rfl dX1_bearing_28 (c_J9_min_7cf53 rfl) (fun v τ hq => ?_)
    obtain ⟨rfl, rfl⟩ := hq
    change Z _ _ _ _ _ [.int (f_J9_min_7cf53 (f_J9_abs_0f7a4 x0) (f_J9_abs_0f7a4 x1)), .int (45)] _
    refine z_imul dX1_bearing_31 ?_
    refine z_iload dX1_bearing_32 4 rfl ?_
    refine z_idiv dX1_bearing_34 g1 ?_
    refine z_istore dX1_bearing_35 (by decide) [1, 2, 3, 4, 5, 0] rfl ?_
    refine z_iload_n dX1_bearing_37 rfl 0 rfl ?_
    refine z_if_lt (tgt := 61) dX1_bearing_38 (by decide) (fun q => ?_) (fun q => ?_)
    · have h := (if_pos q).symm.trans h
      refine Z.lv [0, 1, 2, 3, 5] rfl ?_
      exact zb_X1_bearing_61 h
    · have h := (if_neg q).symm.trans h
      refine z_iload_n dX1_bearing_41 rfl 1 rfl ?_
      refine z_if_le (tgt := 61) dX1_bearing_42 (by decide) (fun q => ?_) (fun q => ?_)
      · have h := (if_pos q).symm.trans h
        refine Z.lv [0, 1, 2, 3, 5] rfl ?_
        exact zb_X1_bearing_61 h
      · have h := (if_neg q).symm.trans h
        refine z_iload_n dX1_bearing_45 rfl 2 rfl ?_
        refine z_iload_n dX1_bearing_46 rfl 3 rfl ?_
        refine z_icmp_gt (tgt := 55) dX1_bearing_47 (by decide) (fun q => ?_) (fun q => ?_)
        · have h := (if_pos q).symm.trans h
          refine z_bipush (v := 90) dX1_bearing_55 (by decide) ?_
          refine z_iload dX1_bearing_57 5 rfl ?_
          refine z_isub dX1_bearing_59 ?_
          cases h
          exact z_ireturn dX1_bearing_60 rfl rfl ⟨rfl, rfl⟩
        · have h := (if_neg q).symm.trans h
          refine z_iload dX1_bearing_50 5 rfl ?_
          refine z_goto (tgt := 60) dX1_bearing_52 (by decide) ?_
          cases h
          exact z_ireturn dX1_bearing_60 rfl rfl ⟨rfl, rfl⟩
  · have h := (if_pos q).symm.trans h
    refine z_iconst (v := (-1)) dX1_bearing_22 (by decide) ?_
    cases h
    exact z_ireturn dX1_bearing_23 rfl rfl ⟨rfl, rfl⟩
/-- SkyStones$Compass.bearing(II)I -/
theorem c_X1_bearing {S : Shp} {x0 : Int32} {x1 : Int32} {σ : Mm} {r : Int32 × Mm} (h : F_X1_bearing x0 x1 σ = some r) : Ct m_X1_bearing S [.int (x0), .int (x1)] σ (Qi r) := Ct.of (by decide) (Nat.le_of_ble_eq_true rfl) (zb_X1_bearing h)
def F_X2_bearingOf_39 (s0 : Int32) (σ : Mm) : Option (Int32 × Mm) := some (s0, σ)
set_option maxRecDepth 20000 in
theorem zb_X2_bearingOf_39 {S : Shp} {s0 : Int32} {σ : Mm} {r : Int32 × Mm} (h : F_X2_bearingOf_39 s0 σ = some r) : Z m_X2_bearingOf S (Qi r) 39 [] [.int (s0)] σ := by
  unfold F_X2_bearingOf_39 at h
  cases h
  exact z_ireturn dX2_bearingOf_39 rfl rfl ⟨rfl, rfl⟩
def F_X2_bearingOf (x1 : Int32) (σ : Mm) : Option (Int32 × Mm) := (if inb (x1 - x1 / 14 * 14) 14 = true then (if inb (x1 / 14) 14 = true then (if inb (x1 - x1 / 14 * 14) 14 = true then (if inb (x1 / 14) 14 = true then (bnd (F_X1_bearing ((mA σ 0 0 16 (x1 - x1 / 14 * 14).toNatClampNeg) - (mA σ 0 0 16 (x1 / 14).toNatClampNeg)) ((mA σ 0 0 17 (x1 - x1 / 14 * 14).toNatClampNeg) - (mA σ 0 0 17 (x1 / 14).toNatClampNeg)) σ) (fun v τ => (F_X2_bearingOf_39 v τ))) else none) else none) else none) else none)
set_option maxRecDepth 20000 in
theorem zb_X2_bearingOf {S : Shp} {x1 : Int32} {σ : Mm} {r : Int32 × Mm} (h : F_X2_bearingOf x1 σ = some r) : Z m_X2_bearingOf S (Qi r) 0 [(0, .ref (sL S 0 0 15)), (1, .int (x1))] [] σ := by
  unfold F_X2_bearingOf at h
  obtain ⟨g1, h⟩ := gd h
  refine z_iload_n dX2_bearingOf_0 rfl 1 rfl ?_
  refine z_bipush (v := 14) dX2_bearingOf_1 (by decide) ?_
  refine z_idiv dX2_bearingOf_3 (by decide) ?_
  refine z_istore_n dX2_bearingOf_4 rfl (by decide) [1, 2, 0] rfl ?_
  refine z_iload_n dX2_bearingOf_5 rfl 1 rfl ?_
  refine z_bipush (v := 14) dX2_bearingOf_6 (by decide) ?_
  refine z_irem dX2_bearingOf_8 (by decide) ?_
  refine z_istore_n dX2_bearingOf_9 rfl (by decide) [1, 2, 3, 0] rfl ?_
  refine z_aload_n dX2_bearingOf_10 rfl 0 rfl ?_
  refine gf_2_15 rfl dX2_bearingOf_11 ?_
  refine z_iload_n dX2_bearingOf_14 rfl 3 rfl ?_
  obtain ⟨g2, h⟩ := gd h
  refine ia_0_16 (inb_in g1) dX2_bearingOf_15 ?_
  refine z_aload_n dX2_bearingOf_16 rfl 0 rfl ?_
  refine gf_2_15 rfl dX2_bearingOf_17 ?_
  refine z_iload_n dX2_bearingOf_20 rfl 2 rfl ?_
  obtain ⟨g3, h⟩ := gd h
  refine ia_0_16 (inb_in g2) dX2_bearingOf_21 ?_
  refine z_isub dX2_bearingOf_22 ?_
  refine z_aload_n dX2_bearingOf_23 rfl 0 rfl ?_
  refine gf_2_19 rfl dX2_bearingOf_24 ?_
  refine z_iload_n dX2_bearingOf_27 rfl 3 rfl ?_
  obtain ⟨g4, h⟩ := gd h
  refine ia_0_17 (inb_in g3) dX2_bearingOf_28 ?_
  refine z_aload_n dX2_bearingOf_29 rfl 0 rfl ?_
  refine gf_2_19 rfl dX2_bearingOf_30 ?_
  refine z_iload_n dX2_bearingOf_33 rfl 2 rfl ?_
  refine ia_0_17 (inb_in g4) dX2_bearingOf_34 ?_
  refine z_isub dX2_bearingOf_35 ?_
  obtain ⟨v, τ, hc, h⟩ := bnd_e h
  refine z_callS (M' := m_X1_bearing) (As := [.int ((mA σ 0 0 16 (x1 - x1 / 14 * 14).toNatClampNeg) - (mA σ 0 0 16 (x1 / 14).toNatClampNeg)), .int ((mA σ 0 0 17 (x1 - x1 / 14 * 14).toNatClampNeg) - (mA σ 0 0 17 (x1 / 14).toNatClampNeg))]) (rest := []) kl_2_78 oy_X1_bearing ⟨Nat.le_of_ble_eq_true rfl, Nat.le_of_ble_eq_true rfl⟩ rfl (Nat.le_of_ble_eq_true rfl) rfl dX2_bearingOf_36 (c_X1_bearing hc) (fun v2 τ2 hq => ?_)
  obtain ⟨rfl, rfl⟩ := hq
  change Z _ _ _ _ _ [.int (v)] _
  refine Z.lv [] rfl ?_
  exact zb_X2_bearingOf_39 h
/-- SkyStones$Ground.bearingOf(I)I -/
theorem c_X2_bearingOf {S : Shp} {x1 : Int32} {σ : Mm} {r : Int32 × Mm} (h : F_X2_bearingOf x1 σ = some r) : Ct m_X2_bearingOf S [.ref (sL S 0 0 15), .int (x1)] σ (Qi r) := Ct.of (by decide) (Nat.le_of_ble_eq_true rfl) (zb_X2_bearingOf h)
def F_X2_describe_190 (s0 : Int32) (s1 : Int32) (σ : Mm) : Option (Mm) := (if inb s1 9 = true then some (setA σ 0 0 22 (upd (mA σ 0 0 22) s1.toNatClampNeg s0)) else none)
set_option maxRecDepth 20000 in
theorem zb_X2_describe_190 {S : Shp} {s0 : Int32} {s1 : Int32} {σ : Mm} {r : Mm} (h : F_X2_describe_190 s0 s1 σ = some r) : Z m_X2_describe S (Qv r) 190 [] [.int (s0), .int (s1), .ref (sL S 0 0 22)] σ := by
  unfold F_X2_describe_190 at h
  obtain ⟨g21, h⟩ := gd h
  refine is_0_22 (inb_in g21) dX2_describe_190 ?_
  cases h
  exact z_return dX2_describe_191 rfl ⟨rfl, rfl⟩
def F_X2_describe_187 (s0 : Int32) (s1 : Int32) (s2 : Int32) (σ : Mm) : Option (Mm) := (bnd (F_X1_bearing s1 s0 σ) (fun v τ => (F_X2_describe_190 v s2 τ)))
set_option maxRecDepth 20000 in
theorem zb_X2_describe_187 {S : Shp} {s0 : Int32} {s1 : Int32} {s2 : Int32} {σ : Mm} {r : Mm} (h : F_X2_describe_187 s0 s1 s2 σ = some r) : Z m_X2_describe S (Qv r) 187 [] [.int (s0), .int (s1), .int (s2), .ref (sL S 0 0 22)] σ := by
  unfold F_X2_describe_187 at h
  obtain ⟨v, τ, hc, h⟩ := bnd_e h
  refine z_callS (M' := m_X1_bearing) (As := [.int (s1), .int (s0)]) (rest := [.int (s2), .ref (sL S 0 0 22)]) kl_2_78 oy_X1_bearing ⟨Nat.le_of_ble_eq_true rfl, Nat.le_of_ble_eq_true rfl⟩ rfl (Nat.le_of_ble_eq_true rfl) rfl dX2_describe_187 (c_X1_bearing hc) (fun v2 τ2 hq => ?_)
  obtain ⟨rfl, rfl⟩ := hq
  change Z _ _ _ _ _ [.int (v), .int (s2), .ref (sL S 0 0 22)] _
  exact zb_X2_describe_190 h
def F_X2_describe_165 (x4 : Int32) (x5 : Int32) (x6 : Int32) (s0 : Int32) (s2 : Int32) (σ : Mm) : Option (Mm) := (if inb s0 14 = true then (if inb x4 14 = true then (if inb s2 9 = true then (F_X2_describe_187 x6 x5 8 (setA σ 0 0 22 (upd (mA σ 0 0 22) s2.toNatClampNeg (f_J9_min_7cf53 (mA σ 0 0 18 s0.toNatClampNeg) (mA σ 0 0 18 x4.toNatClampNeg))))) else none) else none) else none)
set_option maxRecDepth 20000 in
theorem zb_X2_describe_165 {S : Shp} {x4 : Int32} {x5 : Int32} {x6 : Int32} {s0 : Int32} {s2 : Int32} {σ : Mm} {r : Mm} (h : F_X2_describe_165 x4 x5 x6 s0 s2 σ = some r) : Z m_X2_describe S (Qv r) 165 [(0, .ref (sL S 0 0 15)), (4, .int (x4)), (5, .int (x5)), (6, .int (x6))] [.int (s0), .ref (sL S 0 0 18), .int (s2), .ref (sL S 0 0 22)] σ := by
  unfold F_X2_describe_165 at h
  obtain ⟨g18, h⟩ := gd h
  obtain ⟨g19, h⟩ := gd h
  refine ia_0_18 (inb_in g18) dX2_describe_165 ?_
  refine z_aload_n dX2_describe_166 rfl 0 rfl ?_
  refine gf_2_22 rfl dX2_describe_167 ?_
  refine z_iload dX2_describe_170 1 rfl ?_
  obtain ⟨g20, h⟩ := gd h
  refine ia_0_18 (inb_in g19) dX2_describe_172 ?_
  refine z_callS (M' := m_J9_min_7cf53) (As := [.int (mA σ 0 0 18 s0.toNatClampNeg), .int (mA σ 0 0 18 x4.toNatClampNeg)]) (rest := [.int (s2), .ref (sL S 0 0 22)]) kl_2_100 oy_J9_min_7cf53 ⟨Nat.le_of_ble_eq_true rfl, Nat.le_of_ble_eq_true rfl⟩ rfl (Nat.le_of_ble_eq_true rfl) rfl dX2_describe_173 (c_J9_min_7cf53 rfl) (fun v τ hq => ?_)
  obtain ⟨rfl, rfl⟩ := hq
  change Z _ _ _ _ _ [.int (f_J9_min_7cf53 (mA σ 0 0 18 s0.toNatClampNeg) (mA σ 0 0 18 x4.toNatClampNeg)), .int (s2), .ref (sL S 0 0 22)] _
  refine is_0_22 (inb_in g20) dX2_describe_176 ?_
  refine z_aload_n dX2_describe_177 rfl 0 rfl ?_
  refine gf_2_35 rfl dX2_describe_178 ?_
  refine z_bipush (v := 8) dX2_describe_181 (by decide) ?_
  refine z_iload dX2_describe_183 2 rfl ?_
  refine z_iload dX2_describe_185 3 rfl ?_
  refine Z.lv [] rfl ?_
  exact zb_X2_describe_187 h
def F_X2_describe_148 (i0 : Nat) (x3 : Int32) (x4 : Int32) (x5 : Int32) (x6 : Int32) (s0 : Int32) (s2 : Int32) (σ : Mm) : Option (Mm) := (if inb s0 14 = true then (if inb s2 9 = true then (F_X2_describe_165 x4 x5 x6 x3 7 (setA σ 0 0 22 (upd (mA σ 0 0 22) s2.toNatClampNeg (((mA σ 1 i0 5 s0.toNatClampNeg) >>> (x3 &&& 31)) &&& 1)))) else none) else none)
set_option maxRecDepth 20000 in
theorem zb_X2_describe_148 {S : Shp} {i0 : Nat} (hi0 : tlv (sH S) i0 = true) {x3 : Int32} {x4 : Int32} {x5 : Int32} {x6 : Int32} {s0 : Int32} {s2 : Int32} {σ : Mm} {r : Mm} (h : F_X2_describe_148 i0 x3 x4 x5 x6 s0 s2 σ = some r) : Z m_X2_describe S (Qv r) 148 [(0, .ref (sL S 0 0 15)), (3, .int (x3)), (4, .int (x4)), (5, .int (x5)), (6, .int (x6))] [.int (s0), .ref (sL S 1 i0 5), .int (s2), .ref (sL S 0 0 22)] σ := by
  unfold F_X2_describe_148 at h
  obtain ⟨g16, h⟩ := gd h
  obtain ⟨g17, h⟩ := gd h
  refine ia_1_5 (lv1 (hi0) rfl) (inb_in g16) dX2_describe_148 ?_
  refine z_iload_n dX2_describe_149 rfl 1 rfl ?_
  refine z_ishr dX2_describe_150 ?_
  refine z_iconst (v := 1) dX2_describe_151 (by decide) ?_
  refine z_iand dX2_describe_152 ?_
  refine is_0_22 (inb_in g17) dX2_describe_153 ?_
  refine z_aload_n dX2_describe_154 rfl 0 rfl ?_
  refine gf_2_35 rfl dX2_describe_155 ?_
  refine z_bipush (v := 7) dX2_describe_158 (by decide) ?_
  refine z_aload_n dX2_describe_160 rfl 0 rfl ?_
  refine gf_2_22 rfl dX2_describe_161 ?_
  refine z_iload_n dX2_describe_164 rfl 1 rfl ?_
  refine Z.lv [0, 2, 3, 4] rfl ?_
  exact zb_X2_describe_165 h
def F_X2_describe_129 (i0 : Nat) (x3 : Int32) (x4 : Int32) (x5 : Int32) (x6 : Int32) (s0 : Int32) (s2 : Int32) (σ : Mm) : Option (Mm) := (if inb s0 14 = true then (if inb s2 9 = true then (F_X2_describe_148 i0 x3 x4 x5 x6 x4 6 (setA σ 0 0 22 (upd (mA σ 0 0 22) s2.toNatClampNeg (((mA σ 1 i0 5 s0.toNatClampNeg) >>> (x4 &&& 31)) &&& 1)))) else none) else none)
set_option maxRecDepth 20000 in
theorem zb_X2_describe_129 {S : Shp} {i0 : Nat} (hi0 : tlv (sH S) i0 = true) {x3 : Int32} {x4 : Int32} {x5 : Int32} {x6 : Int32} {s0 : Int32} {s2 : Int32} {σ : Mm} {r : Mm} (h : F_X2_describe_129 i0 x3 x4 x5 x6 s0 s2 σ = some r) : Z m_X2_describe S (Qv r) 129 [(0, .ref (sL S 0 0 15)), (1, .ref (sL S 1 i0 0)), (3, .int (x3)), (4, .int (x4)), (5, .int (x5)), (6, .int (x6))] [.int (s0), .ref (sL S 1 i0 5), .int (s2), .ref (sL S 0 0 22)] σ := by
  unfold F_X2_describe_129 at h
  obtain ⟨g14, h⟩ := gd h
  obtain ⟨g15, h⟩ := gd h
  refine ia_1_5 (lv1 (hi0) rfl) (inb_in g14) dX2_describe_129 ?_
  refine z_iload dX2_describe_130 3 rfl ?_
  refine z_ishr dX2_describe_132 ?_
  refine z_iconst (v := 1) dX2_describe_133 (by decide) ?_
  refine z_iand dX2_describe_134 ?_
  refine is_0_22 (inb_in g15) dX2_describe_135 ?_
  refine z_aload_n dX2_describe_136 rfl 0 rfl ?_
  refine gf_2_35 rfl dX2_describe_137 ?_
  refine z_bipush (v := 6) dX2_describe_140 (by decide) ?_
  refine z_aload_n dX2_describe_142 rfl 1 rfl ?_
  refine gf_2_97 (lv1 (hi0) rfl) rfl dX2_describe_143 ?_
  refine z_iload dX2_describe_146 3 rfl ?_
  refine Z.lv [0, 2, 3, 4, 5] rfl ?_
  exact zb_X2_describe_148 (hi0) h
def F_X2_describe_109 (i0 : Nat) (x3 : Int32) (x4 : Int32) (x5 : Int32) (x6 : Int32) (s0 : Int32) (s2 : Int32) (σ : Mm) : Option (Mm) := (if inb s0 14 = true then (if inb x4 14 = true then (if inb s2 9 = true then (F_X2_describe_129 i0 x3 x4 x5 x6 x3 5 (setA σ 0 0 22 (upd (mA σ 0 0 22) s2.toNatClampNeg ((mA σ 0 0 19 s0.toNatClampNeg) + (mA σ 0 0 19 x4.toNatClampNeg))))) else none) else none) else none)
set_option maxRecDepth 20000 in
theorem zb_X2_describe_109 {S : Shp} {i0 : Nat} (hi0 : tlv (sH S) i0 = true) {x3 : Int32} {x4 : Int32} {x5 : Int32} {x6 : Int32} {s0 : Int32} {s2 : Int32} {σ : Mm} {r : Mm} (h : F_X2_describe_109 i0 x3 x4 x5 x6 s0 s2 σ = some r) : Z m_X2_describe S (Qv r) 109 [(0, .ref (sL S 0 0 15)), (1, .ref (sL S 1 i0 0)), (3, .int (x3)), (4, .int (x4)), (5, .int (x5)), (6, .int (x6))] [.int (s0), .ref (sL S 0 0 19), .int (s2), .ref (sL S 0 0 22)] σ := by
  unfold F_X2_describe_109 at h
  obtain ⟨g11, h⟩ := gd h
  obtain ⟨g12, h⟩ := gd h
  refine ia_0_19 (inb_in g11) dX2_describe_109 ?_
  refine z_aload_n dX2_describe_110 rfl 0 rfl ?_
  refine gf_2_25 rfl dX2_describe_111 ?_
  refine z_iload dX2_describe_114 3 rfl ?_
  obtain ⟨g13, h⟩ := gd h
  refine ia_0_19 (inb_in g12) dX2_describe_116 ?_
  refine z_iadd dX2_describe_117 ?_
  refine is_0_22 (inb_in g13) dX2_describe_118 ?_
  refine z_aload_n dX2_describe_119 rfl 0 rfl ?_
  refine gf_2_35 rfl dX2_describe_120 ?_
  refine z_iconst (v := 5) dX2_describe_123 (by decide) ?_
  refine z_aload_n dX2_describe_124 rfl 1 rfl ?_
  refine gf_2_97 (lv1 (hi0) rfl) rfl dX2_describe_125 ?_
  refine z_iload_n dX2_describe_128 rfl 2 rfl ?_
  exact zb_X2_describe_129 (hi0) h
def F_X2_describe_87 (i0 : Nat) (x3 : Int32) (x4 : Int32) (x5 : Int32) (x6 : Int32) (s0 : Int32) (s1 : Int32) (σ : Mm) : Option (Mm) := (if inb s1 9 = true then (F_X2_describe_109 i0 x3 x4 x5 x6 x3 4 (setA σ 0 0 22 (upd (mA σ 0 0 22) s1.toNatClampNeg (f_J9_max_7cf53 (f_J9_abs_0f7a4 s0) (f_J9_abs_0f7a4 x6))))) else none)
set_option maxRecDepth 20000 in
theorem zb_X2_describe_87 {S : Shp} {i0 : Nat} (hi0 : tlv (sH S) i0 = true) {x3 : Int32} {x4 : Int32} {x5 : Int32} {x6 : Int32} {s0 : Int32} {s1 : Int32} {σ : Mm} {r : Mm} (h : F_X2_describe_87 i0 x3 x4 x5 x6 s0 s1 σ = some r) : Z m_X2_describe S (Qv r) 87 [(0, .ref (sL S 0 0 15)), (1, .ref (sL S 1 i0 0)), (3, .int (x3)), (4, .int (x4)), (5, .int (x5)), (6, .int (x6))] [.int (s0), .int (s1), .ref (sL S 0 0 22)] σ := by
  unfold F_X2_describe_87 at h
  obtain ⟨g10, h⟩ := gd h
  refine z_callS (M' := m_J9_abs_0f7a4) (As := [.int (s0)]) (rest := [.int (s1), .ref (sL S 0 0 22)]) kl_2_88 oy_J9_abs_0f7a4 ⟨Nat.le_of_ble_eq_true rfl, Nat.le_of_ble_eq_true rfl⟩ rfl (Nat.le_of_ble_eq_true rfl) rfl dX2_describe_87 (c_J9_abs_0f7a4 rfl) (fun v τ hq => ?_)
  obtain ⟨rfl, rfl⟩ := hq
  change Z _ _ _ _ _ [.int (f_J9_abs_0f7a4 s0), .int (s1), .ref (sL S 0 0 22)] _
  refine z_iload dX2_describe_90 5 rfl ?_
  refine z_callS (M' := m_J9_abs_0f7a4) (As := [.int (x6)]) (rest := [.int (f_J9_abs_0f7a4 s0), .int (s1), .ref (sL S 0 0 22)]) kl_2_88 oy_J9_abs_0f7a4 ⟨Nat.le_of_ble_eq_true rfl, Nat.le_of_ble_eq_true rfl⟩ rfl (Nat.le_of_ble_eq_true rfl) rfl dX2_describe_92 (c_J9_abs_0f7a4 rfl) (fun v τ hq => ?_)
  obtain ⟨rfl, rfl⟩ := hq
  change Z _ _ _ _ _ [.int (f_J9_abs_0f7a4 x6), .int (f_J9_abs_0f7a4 s0), .int (s1), .ref (sL S 0 0 22)] _
  refine z_callS (M' := m_J9_max_7cf53) (As := [.int (f_J9_abs_0f7a4 s0), .int (f_J9_abs_0f7a4 x6)]) (rest := [.int (s1), .ref (sL S 0 0 22)]) kl_2_94 oy_J9_max_7cf53 ⟨Nat.le_of_ble_eq_true rfl, Nat.le_of_ble_eq_true rfl⟩ rfl (Nat.le_of_ble_eq_true rfl) rfl dX2_describe_95 (c_J9_max_7cf53 rfl) (fun v τ hq => ?_)
  obtain ⟨rfl, rfl⟩ := hq
  change Z _ _ _ _ _ [.int (f_J9_max_7cf53 (f_J9_abs_0f7a4 s0) (f_J9_abs_0f7a4 x6)), .int (s1), .ref (sL S 0 0 22)] _
  refine is_0_22 (inb_in g10) dX2_describe_98 ?_
  refine z_aload_n dX2_describe_99 rfl 0 rfl ?_
  refine gf_2_35 rfl dX2_describe_100 ?_
  refine z_iconst (v := 4) dX2_describe_103 (by decide) ?_
  refine z_aload_n dX2_describe_104 rfl 0 rfl ?_
  refine gf_2_25 rfl dX2_describe_105 ?_
  refine z_iload_n dX2_describe_108 rfl 2 rfl ?_
  exact zb_X2_describe_109 (hi0) h
def F_X2_describe_68 (i0 : Nat) (x3 : Int32) (x4 : Int32) (x5 : Int32) (x6 : Int32) (s0 : Int32) (s2 : Int32) (σ : Mm) : Option (Mm) := (if inb s0 14 = true then (if inb x3 14 = true then (if inb s2 9 = true then (F_X2_describe_87 i0 x3 x4 x5 x6 x5 3 (setA σ 0 0 22 (upd (mA σ 0 0 22) s2.toNatClampNeg (f_J9_abs_0f7a4 ((mA σ 0 0 18 s0.toNatClampNeg) - (mA σ 0 0 18 x3.toNatClampNeg)))))) else none) else none) else none)
set_option maxRecDepth 20000 in
theorem zb_X2_describe_68 {S : Shp} {i0 : Nat} (hi0 : tlv (sH S) i0 = true) {x3 : Int32} {x4 : Int32} {x5 : Int32} {x6 : Int32} {s0 : Int32} {s2 : Int32} {σ : Mm} {r : Mm} (h : F_X2_describe_68 i0 x3 x4 x5 x6 s0 s2 σ = some r) : Z m_X2_describe S (Qv r) 68 [(0, .ref (sL S 0 0 15)), (1, .ref (sL S 1 i0 0)), (3, .int (x3)), (4, .int (x4)), (5, .int (x5)), (6, .int (x6))] [.int (s0), .ref (sL S 0 0 18), .int (s2), .ref (sL S 0 0 22)] σ := by
  unfold F_X2_describe_68 at h
  obtain ⟨g7, h⟩ := gd h
  obtain ⟨g8, h⟩ := gd h
  refine ia_0_18 (inb_in g7) dX2_describe_68 ?_
  refine z_aload_n dX2_describe_69 rfl 0 rfl ?_
  refine gf_2_22 rfl dX2_describe_70 ?_
  refine z_iload_n dX2_describe_73 rfl 2 rfl ?_
  obtain ⟨g9, h⟩ := gd h
  refine ia_0_18 (inb_in g8) dX2_describe_74 ?_
  refine z_isub dX2_describe_75 ?_
  refine z_callS (M' := m_J9_abs_0f7a4) (As := [.int ((mA σ 0 0 18 s0.toNatClampNeg) - (mA σ 0 0 18 x3.toNatClampNeg))]) (rest := [.int (s2), .ref (sL S 0 0 22)]) kl_2_88 oy_J9_abs_0f7a4 ⟨Nat.le_of_ble_eq_true rfl, Nat.le_of_ble_eq_true rfl⟩ rfl (Nat.le_of_ble_eq_true rfl) rfl dX2_describe_76 (c_J9_abs_0f7a4 rfl) (fun v τ hq => ?_)
  obtain ⟨rfl, rfl⟩ := hq
  change Z _ _ _ _ _ [.int (f_J9_abs_0f7a4 ((mA σ 0 0 18 s0.toNatClampNeg) - (mA σ 0 0 18 x3.toNatClampNeg))), .int (s2), .ref (sL S 0 0 22)] _
  refine is_0_22 (inb_in g9) dX2_describe_79 ?_
  refine z_aload_n dX2_describe_80 rfl 0 rfl ?_
  refine gf_2_35 rfl dX2_describe_81 ?_
  refine z_iconst (v := 3) dX2_describe_84 (by decide) ?_
  refine z_iload dX2_describe_85 4 rfl ?_
  exact zb_X2_describe_87 (hi0) h
def F_X2_describe_56 (i0 : Nat) (x3 : Int32) (x4 : Int32) (x5 : Int32) (x6 : Int32) (s0 : Int32) (s1 : Int32) (σ : Mm) : Option (Mm) := (if inb s1 9 = true then (F_X2_describe_68 i0 x3 x4 x5 x6 x4 2 (setA σ 0 0 22 (upd (mA σ 0 0 22) s1.toNatClampNeg s0))) else none)
set_option maxRecDepth 20000 in
theorem zb_X2_describe_56 {S : Shp} {i0 : Nat} (hi0 : tlv (sH S) i0 = true) {x3 : Int32} {x4 : Int32} {x5 : Int32} {x6 : Int32} {s0 : Int32} {s1 : Int32} {σ : Mm} {r : Mm} (h : F_X2_describe_56 i0 x3 x4 x5 x6 s0 s1 σ = some r) : Z m_X2_describe S (Qv r) 56 [(0, .ref (sL S 0 0 15)), (1, .ref (sL S 1 i0 0)), (3, .int (x3)), (4, .int (x4)), (5, .int (x5)), (6, .int (x6))] [.int (s0), .int (s1), .ref (sL S 0 0 22)] σ := by
  unfold F_X2_describe_56 at h
  obtain ⟨g6, h⟩ := gd h
  refine is_0_22 (inb_in g6) dX2_describe_56 ?_
  refine z_aload_n dX2_describe_57 rfl 0 rfl ?_
  refine gf_2_35 rfl dX2_describe_58 ?_
  refine z_iconst (v := 2) dX2_describe_61 (by decide) ?_
  refine z_aload_n dX2_describe_62 rfl 0 rfl ?_
  refine gf_2_22 rfl dX2_describe_63 ?_
  refine z_iload dX2_describe_66 3 rfl ?_
  exact zb_X2_describe_68 (hi0) h
def F_X2_describe (i0 : Nat) (x2 : Int32) (σ : Mm) : Option (Mm) := (if inb (x2 - x2 / 14 * 14) 14 = true then (if inb (x2 / 14) 14 = true then (if inb (x2 - x2 / 14 * 14) 14 = true then (if inb (x2 / 14) 14 = true then (if inb 0 9 = true then (F_X2_describe_56 i0 (x2 / 14) (x2 - x2 / 14 * 14) ((mA σ 0 0 16 (x2 - x2 / 14 * 14).toNatClampNeg) - (mA σ 0 0 16 (x2 / 14).toNatClampNeg)) ((mA σ 0 0 17 (x2 - x2 / 14 * 14).toNatClampNeg) - (mA σ 0 0 17 (x2 / 14).toNatClampNeg)) 0 1 (setA σ 0 0 22 (upd (mA σ 0 0 22) (0 : Int32).toNatClampNeg 0))) else none) else none) else none) else none) else none)
set_option maxRecDepth 20000 in
theorem zb_X2_describe {S : Shp} {i0 : Nat} (hi0 : tlv (sH S) i0 = true) {x2 : Int32} {σ : Mm} {r : Mm} (h : F_X2_describe i0 x2 σ = some r) : Z m_X2_describe S (Qv r) 0 [(0, .ref (sL S 0 0 15)), (1, .ref (sL S 1 i0 0)), (2, .int (x2))] [] σ := by
  unfold F_X2_describe at h
  obtain ⟨g1, h⟩ := gd h
  refine z_iload_n dX2_describe_0 rfl 2 rfl ?_
  refine z_bipush (v := 14) dX2_describe_1 (by decide) ?_
  refine z_idiv dX2_describe_3 (by decide) ?_
  refine z_istore_n dX2_describe_4 rfl (by decide) [1, 2, 3, 0] rfl ?_
  refine z_iload_n dX2_describe_5 rfl 2 rfl ?_
  refine z_bipush (v := 14) dX2_describe_6 (by decide) ?_
  refine z_irem dX2_describe_8 (by decide) ?_
  refine z_istore dX2_describe_9 (by decide) [1, 2, 3, 4, 0] rfl ?_
  refine z_aload_n dX2_describe_11 rfl 0 rfl ?_
  refine gf_2_15 rfl dX2_describe_12 ?_
  refine z_iload dX2_describe_15 4 rfl ?_
  obtain ⟨g2, h⟩ := gd h
  refine ia_0_16 (inb_in g1) dX2_describe_17 ?_
  refine z_aload_n dX2_describe_18 rfl 0 rfl ?_
  refine gf_2_15 rfl dX2_describe_19 ?_
  refine z_iload_n dX2_describe_22 rfl 3 rfl ?_
  obtain ⟨g3, h⟩ := gd h
  refine ia_0_16 (inb_in g2) dX2_describe_23 ?_
  refine z_isub dX2_describe_24 ?_
  refine z_istore dX2_describe_25 (by decide) [1, 2, 3, 4, 5, 0] rfl ?_
  refine z_aload_n dX2_describe_27 rfl 0 rfl ?_
  refine gf_2_19 rfl dX2_describe_28 ?_
  refine z_iload dX2_describe_31 4 rfl ?_
  obtain ⟨g4, h⟩ := gd h
  refine ia_0_17 (inb_in g3) dX2_describe_33 ?_
  refine z_aload_n dX2_describe_34 rfl 0 rfl ?_
  refine gf_2_19 rfl dX2_describe_35 ?_
  refine z_iload_n dX2_describe_38 rfl 3 rfl ?_
  obtain ⟨g5, h⟩ := gd h
  refine ia_0_17 (inb_in g4) dX2_describe_39 ?_
  refine z_isub dX2_describe_40 ?_
  refine z_istore dX2_describe_41 (by decide) [1, 2, 3, 4, 5, 6, 0] rfl ?_
  refine z_aload_n dX2_describe_43 rfl 0 rfl ?_
  refine gf_2_35 rfl dX2_describe_44 ?_
  refine z_iconst (v := 0) dX2_describe_47 (by decide) ?_
  refine z_iconst (v := 0) dX2_describe_48 (by decide) ?_
  refine is_0_22 (inb_in g5) dX2_describe_49 ?_
  refine z_aload_n dX2_describe_50 rfl 0 rfl ?_
  refine gf_2_35 rfl dX2_describe_51 ?_
  refine z_iconst (v := 1) dX2_describe_54 (by decide) ?_
  refine z_iconst (v := 0) dX2_describe_55 (by decide) ?_
  refine Z.lv [0, 1, 3, 4, 5, 6] rfl ?_
  exact zb_X2_describe_56 (hi0) h
/-- SkyStones$Ground.describe(LSkyStones$Told;I)V -/
theorem c_X2_describe {S : Shp} {i0 : Nat} (hi0 : tlv (sH S) i0 = true) {x2 : Int32} {σ : Mm} {r : Mm} (h : F_X2_describe i0 x2 σ = some r) : Ct m_X2_describe S [.ref (sL S 0 0 15), .ref (sL S 1 i1 0), .int (x2)] σ (Qv r) := Ct.of (by decide) (Nat.le_of_ble_eq_true rfl) (zb_X2_describe hi0 h)
def F_X2_joins_89 (σ : Mm) : Option (Int32 × Mm) := some (1, σ)
set_option maxRecDepth 20000 in
theorem zb_X2_joins_89 {S : Shp} {σ : Mm} {r : Int32 × Mm} (h : F_X2_joins_89 σ = some r) : Z m_X2_joins S (Qi r) 89 [] [] σ := by
  unfold F_X2_joins_89 at h
  refine z_iconst (v := 1) dX2_joins_89 (by decide) ?_
  refine z_goto (tgt := 94) dX2_joins_90 (by decide) ?_
  cases h
  exact z_ireturn dX2_joins_94 rfl rfl ⟨rfl, rfl⟩
def F_X2_joins (x1 : Int32) (σ : Mm) : Option (Int32 × Mm) := (if x1 < 0 then some (0, σ) else (if x1 < 196 then (if (mA σ 0 0 15 0) ≤ (x1 / 14) then some (0, σ) else (if (mA σ 0 0 15 0) ≤ (x1 - x1 / 14 * 14) then some (0, σ) else (if inb (x1 / 14) 14 = true then (if (mA σ 0 0 20 (x1 / 14).toNatClampNeg) = 0 then (if inb (x1 - x1 / 14 * 14) 14 = true then (if (mA σ 0 0 20 (x1 - x1 / 14 * 14).toNatClampNeg) = 0 then (if inb (x1 / 14) 14 = true then (if inb (x1 - x1 / 14 * 14) 14 = true then (if (mA σ 0 0 16 (x1 / 14).toNatClampNeg) = (mA σ 0 0 16 (x1 - x1 / 14 * 14).toNatClampNeg) then (if inb (x1 / 14) 14 = true then (if inb (x1 - x1 / 14 * 14) 14 = true then (if (mA σ 0 0 17 (x1 / 14).toNatClampNeg) = (mA σ 0 0 17 (x1 - x1 / 14 * 14).toNatClampNeg) then some (0, σ) else (F_X2_joins_89 σ)) else none) else none) else (F_X2_joins_89 σ)) else none) else none) else some (0, σ)) else none) else some (0, σ)) else none))) else some (0, σ)))
set_option maxRecDepth 20000 in
theorem zb_X2_joins {S : Shp} {x1 : Int32} {σ : Mm} {r : Int32 × Mm} (h : F_X2_joins x1 σ = some r) : Z m_X2_joins S (Qi r) 0 [(0, .ref (sL S 0 0 15)), (1, .int (x1))] [] σ := by
  unfold F_X2_joins at h
  refine z_iload_n dX2_joins_0 rfl 1 rfl ?_
  refine z_if_lt (tgt := 11) dX2_joins_1 (by decide) (fun q => ?_) (fun q => ?_)
  · have h := (if_pos q).symm.trans h
    refine z_iconst (v := 0) dX2_joins_11 (by decide) ?_
    cases h
    exact z_ireturn dX2_joins_12 rfl rfl ⟨rfl, rfl⟩
  · have h := (if_neg q).symm.trans h
    refine z_iload_n dX2_joins_4 rfl 1 rfl ?_
    refine z_sipush (v := 196) dX2_joins_5 (by decide) ?_
    refine z_icmp_lt (tgt := 13) dX2_joins_8 (by decide) (fun q => ?_) (fun q => ?_)
    · have h := (if_pos q).symm.trans h
      refine z_iload_n dX2_joins_13 rfl 1 rfl ?_
      refine z_bipush (v := 14) dX2_joins_14 (by decide) ?_
      refine z_idiv dX2_joins_16 (by decide) ?_
      refine z_istore_n dX2_joins_17 rfl (by decide) [1, 2, 0] rfl ?_
      refine z_iload_n dX2_joins_18 rfl 1 rfl ?_
      refine z_bipush (v := 14) dX2_joins_19 (by decide) ?_
      refine z_irem dX2_joins_21 (by decide) ?_
      refine z_istore_n dX2_joins_22 rfl (by decide) [1, 2, 3, 0] rfl ?_
      refine z_iload_n dX2_joins_23 rfl 2 rfl ?_
      refine z_aload_n dX2_joins_24 rfl 0 rfl ?_
      refine gf_2_9 rfl dX2_joins_25 ?_
      refine z_icmp_ge (tgt := 57) dX2_joins_28 (by decide) (fun q => ?_) (fun q => ?_)
      · have h := (if_pos q).symm.trans h
        refine z_iconst (v := 0) dX2_joins_57 (by decide) ?_
        cases h
        exact z_ireturn dX2_joins_58 rfl rfl ⟨rfl, rfl⟩
      · have h := (if_neg q).symm.trans h
        refine z_iload_n dX2_joins_31 rfl 3 rfl ?_
        refine z_aload_n dX2_joins_32 rfl 0 rfl ?_
        refine gf_2_9 rfl dX2_joins_33 ?_
        refine z_icmp_ge (tgt := 57) dX2_joins_36 (by decide) (fun q => ?_) (fun q => ?_)
        · have h := (if_pos q).symm.trans h
          refine z_iconst (v := 0) dX2_joins_57 (by decide) ?_
          cases h
          exact z_ireturn dX2_joins_58 rfl rfl ⟨rfl, rfl⟩
        · have h := (if_neg q).symm.trans h
          obtain ⟨g1, h⟩ := gd h
          refine z_aload_n dX2_joins_39 rfl 0 rfl ?_
          refine gf_2_28 rfl dX2_joins_40 ?_
          refine z_iload_n dX2_joins_43 rfl 2 rfl ?_
          refine ia_0_20 (inb_in g1) dX2_joins_44 ?_
          refine z_if_ne (tgt := 57) dX2_joins_45 (by decide) (fun q => ?_) (fun q => ?_)
          · have h := (if_neg q).symm.trans h
            refine z_iconst (v := 0) dX2_joins_57 (by decide) ?_
            cases h
            exact z_ireturn dX2_joins_58 rfl rfl ⟨rfl, rfl⟩
          · have h := (if_pos q).symm.trans h
            obtain ⟨g2, h⟩ := gd h
            refine z_aload_n dX2_joins_48 rfl 0 rfl ?_
            refine gf_2_28 rfl dX2_joins_49 ?_
            refine z_iload_n dX2_joins_52 rfl 3 rfl ?_
            refine ia_0_20 (inb_in g2) dX2_joins_53 ?_
            refine z_if_eq (tgt := 59) dX2_joins_54 (by decide) (fun q => ?_) (fun q => ?_)
            · have h := (if_pos q).symm.trans h
              obtain ⟨g3, h⟩ := gd h
              refine z_aload_n dX2_joins_59 rfl 0 rfl ?_
              refine gf_2_15 rfl dX2_joins_60 ?_
              refine z_iload_n dX2_joins_63 rfl 2 rfl ?_
              obtain ⟨g4, h⟩ := gd h
              refine ia_0_16 (inb_in g3) dX2_joins_64 ?_
              refine z_aload_n dX2_joins_65 rfl 0 rfl ?_
              refine gf_2_15 rfl dX2_joins_66 ?_
              refine z_iload_n dX2_joins_69 rfl 3 rfl ?_
              refine ia_0_16 (inb_in g4) dX2_joins_70 ?_
              refine z_icmp_ne (tgt := 89) dX2_joins_71 (by decide) (fun q => ?_) (fun q => ?_)
              · have h := (if_neg q).symm.trans h
                refine Z.lv [] rfl ?_
                exact zb_X2_joins_89 h
              · have h := (if_pos q).symm.trans h
                obtain ⟨g5, h⟩ := gd h
                refine z_aload_n dX2_joins_74 rfl 0 rfl ?_
                refine gf_2_19 rfl dX2_joins_75 ?_
                refine z_iload_n dX2_joins_78 rfl 2 rfl ?_
                obtain ⟨g6, h⟩ := gd h
                refine ia_0_17 (inb_in g5) dX2_joins_79 ?_
                refine z_aload_n dX2_joins_80 rfl 0 rfl ?_
                refine gf_2_19 rfl dX2_joins_81 ?_
                refine z_iload_n dX2_joins_84 rfl 3 rfl ?_
                refine ia_0_17 (inb_in g6) dX2_joins_85 ?_
                refine z_icmp_eq (tgt := 93) dX2_joins_86 (by decide) (fun q => ?_) (fun q => ?_)
                · have h := (if_pos q).symm.trans h
                  refine z_iconst (v := 0) dX2_joins_93 (by decide) ?_
                  cases h
                  exact z_ireturn dX2_joins_94 rfl rfl ⟨rfl, rfl⟩
                · have h := (if_neg q).symm.trans h
                  refine Z.lv [] rfl ?_
                  exact zb_X2_joins_89 h
            · have h := (if_neg q).symm.trans h
              refine z_iconst (v := 0) dX2_joins_57 (by decide) ?_
              cases h
              exact z_ireturn dX2_joins_58 rfl rfl ⟨rfl, rfl⟩
    · have h := (if_neg q).symm.trans h
      refine z_iconst (v := 0) dX2_joins_11 (by decide) ?_
      cases h
      exact z_ireturn dX2_joins_12 rfl rfl ⟨rfl, rfl⟩
/-- SkyStones$Ground.joins(I)Z -/
theorem c_X2_joins {S : Shp} {x1 : Int32} {σ : Mm} {r : Int32 × Mm} (h : F_X2_joins x1 σ = some r) : Ct m_X2_joins S [.ref (sL S 0 0 15), .int (x1)] σ (Qi r) := Ct.of (by decide) (Nat.le_of_ble_eq_true rfl) (zb_X2_joins h)
