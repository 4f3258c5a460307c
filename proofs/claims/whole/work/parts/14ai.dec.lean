def F_X7_forget_5 (i0 : Nat) (σ : Mm) : Option (Mm) := some (setA σ 2 i0 0 (upd (mA σ 2 i0 0) 1 0))
set_option maxRecDepth 20000 in
theorem zb_X7_forget_5 {S : Shp} {i0 : Nat} (hi0 : slv (sH S) i0 = true) {σ : Mm} {r : Mm} (h : F_X7_forget_5 i0 σ = some r) : Z m_X7_forget S (Qv r) 5 [(0, .ref (sL S 2 i0 0))] [] σ := by
  unfold F_X7_forget_5 at h
  refine z_aload_n dX7_forget_5 rfl 0 rfl ?_
  refine z_iconst (v := 0) dX7_forget_6 (by decide) ?_
  refine pf_7_15 (lv2 (hi0) rfl) rfl dX7_forget_7 ?_
  cases h
  exact z_return dX7_forget_10 rfl ⟨rfl, rfl⟩
def F_X7_forget (i0 : Nat) (σ : Mm) : Option (Mm) := (F_X7_forget_5 i0 (setA σ 2 i0 0 (upd (mA σ 2 i0 0) 0 0)))
set_option maxRecDepth 20000 in
theorem zb_X7_forget {S : Shp} {i0 : Nat} (hi0 : slv (sH S) i0 = true) {σ : Mm} {r : Mm} (h : F_X7_forget i0 σ = some r) : Z m_X7_forget S (Qv r) 0 [(0, .ref (sL S 2 i0 0))] [] σ := by
  unfold F_X7_forget at h
  refine z_aload_n dX7_forget_0 rfl 0 rfl ?_
  refine z_iconst (v := 0) dX7_forget_1 (by decide) ?_
  refine pf_7_9 (lv2 (hi0) rfl) rfl dX7_forget_2 ?_
  exact zb_X7_forget_5 (hi0) h
/-- SkyStones$Survey.forget()V -/
theorem c_X7_forget {S : Shp} {i0 : Nat} (hi0 : slv (sH S) i0 = true) {σ : Mm} {r : Mm} (h : F_X7_forget i0 σ = some r) : Ct m_X7_forget S [.ref (sL S 2 i0 0)] σ (Qv r) := Ct.of (by decide +kernel) (Nat.le_of_ble_eq_true rfl) (zb_X7_forget hi0 h)
def F_X8_sign (x1 : Int32) (σ : Mm) : Option (Int32 × Mm) := (if x1 < 0 then some (0, σ) else (if (mA σ 0 0 6 0) ≤ x1 then some (0, σ) else (if inb x1 2000 = true then some ((mA σ 0 0 7 x1.toNatClampNeg) &&& (255 : Int32), σ) else none)))
set_option maxRecDepth 20000 in
theorem zb_X8_sign {S : Shp} {x1 : Int32} {σ : Mm} {r : Int32 × Mm} (h : F_X8_sign x1 σ = some r) : Z m_X8_sign S (Qi r) 0 [(0, .ref (sL S 0 0 6)), (1, .int (x1))] [] σ := by
  unfold F_X8_sign at h
  refine z_iload_n dX8_sign_0 rfl 1 rfl ?_
  refine z_if_lt (tgt := 25) dX8_sign_1 (by decide) (fun q => ?_) (fun q => ?_)
  · have h := (if_pos q).symm.trans h
    refine z_iconst (v := 0) dX8_sign_25 (by decide) ?_
    cases h
    exact z_ireturn dX8_sign_26 rfl rfl ⟨rfl, rfl⟩
  · have h := (if_neg q).symm.trans h
    refine z_iload_n dX8_sign_4 rfl 1 rfl ?_
    refine z_aload_n dX8_sign_5 rfl 0 rfl ?_
    refine gf_8_9 rfl dX8_sign_6 ?_
    refine z_icmp_ge (tgt := 25) dX8_sign_9 (by decide) (fun q => ?_) (fun q => ?_)
    · have h := (if_pos q).symm.trans h
      refine z_iconst (v := 0) dX8_sign_25 (by decide) ?_
      cases h
      exact z_ireturn dX8_sign_26 rfl rfl ⟨rfl, rfl⟩
    · have h := (if_neg q).symm.trans h
      obtain ⟨g1, h⟩ := gd h
      refine z_aload_n dX8_sign_12 rfl 0 rfl ?_
      refine gf_8_15 rfl dX8_sign_13 ?_
      refine z_iload_n dX8_sign_16 rfl 1 rfl ?_
      refine ia_0_7 (inb_in g1) dX8_sign_17 ?_
      refine z_sipush (v := 255) dX8_sign_18 (by decide) ?_
      refine z_iand dX8_sign_21 ?_
      refine z_goto (tgt := 26) dX8_sign_22 (by decide) ?_
      cases h
      exact z_ireturn dX8_sign_26 rfl rfl ⟨rfl, rfl⟩
/-- SkyStones$Tape.sign(I)I -/
theorem c_X8_sign {S : Shp} {x1 : Int32} {σ : Mm} {r : Int32 × Mm} (h : F_X8_sign x1 σ = some r) : Ct m_X8_sign S [.ref (sL S 0 0 6), .int (x1)] σ (Qi r) := Ct.of (by decide +kernel) (Nat.le_of_ble_eq_true rfl) (zb_X8_sign h)
def F_X8_behindBlanks_42 (rc2 : Int32 → Mm → Option (Int32 × Mm)) (x2 : Int32) (σ : Mm) : Option (Int32 × Mm) := (rc2 (x2 + 1) σ)
set_option maxRecDepth 20000 in
theorem zb_X8_behindBlanks_42 {S : Shp} {rc2 : Int32 → Mm → Option (Int32 × Mm)} (hrc2 : ∀ {x2 : Int32} {σ : Mm} {r : Int32 × Mm}, rc2 x2 σ = some r → Z m_X8_behindBlanks S (Qi r) 2 [(0, .ref (sL S 0 0 6)), (2, .int (x2))] [] σ) {x2 : Int32} {σ : Mm} {r : Int32 × Mm} (h : F_X8_behindBlanks_42 rc2 x2 σ = some r) : Z m_X8_behindBlanks S (Qi r) 42 [(0, .ref (sL S 0 0 6)), (2, .int (x2))] [] σ := by
  unfold F_X8_behindBlanks_42 at h
  refine z_iinc (j := 1) (v := x2 + 1) (lv' := [(0, .ref (sL S 0 0 6)), (2, .int (x2 + 1))]) dX8_behindBlanks_42 rfl rfl (by decide) [1, 0] rfl ?_
  refine z_goto (tgt := 2) dX8_behindBlanks_45 (by decide) ?_
  exact hrc2 h
def F_X8_behindBlanks_15 (rc2 : Int32 → Mm → Option (Int32 × Mm)) (x2 : Int32) (s0 : Int32) (σ : Mm) : Option (Int32 × Mm) := (if s0 = (9 : Int32) then (F_X8_behindBlanks_42 rc2 x2 σ) else (if s0 = (10 : Int32) then (F_X8_behindBlanks_42 rc2 x2 σ) else (if s0 = (13 : Int32) then (F_X8_behindBlanks_42 rc2 x2 σ) else (if s0 = (32 : Int32) then (F_X8_behindBlanks_42 rc2 x2 σ) else some (x2, σ)))))
set_option maxRecDepth 20000 in
theorem zb_X8_behindBlanks_15 {S : Shp} {rc2 : Int32 → Mm → Option (Int32 × Mm)} (hrc2 : ∀ {x2 : Int32} {σ : Mm} {r : Int32 × Mm}, rc2 x2 σ = some r → Z m_X8_behindBlanks S (Qi r) 2 [(0, .ref (sL S 0 0 6)), (2, .int (x2))] [] σ) {x2 : Int32} {s0 : Int32} {σ : Mm} {r : Int32 × Mm} (h : F_X8_behindBlanks_15 rc2 x2 s0 σ = some r) : Z m_X8_behindBlanks S (Qi r) 15 [(0, .ref (sL S 0 0 6)), (2, .int (x2))] [.int (s0)] σ := by
  unfold F_X8_behindBlanks_15 at h
  refine z_istore_n (lv' := [(0, .ref (sL S 0 0 6)), (2, .int (x2)), (3, .int (s0))]) dX8_behindBlanks_15 rfl (by decide) [1, 2, 0] rfl ?_
  refine z_iload_n dX8_behindBlanks_16 rfl 2 rfl ?_
  refine z_bipush (v := 9) dX8_behindBlanks_17 (by decide) ?_
  refine z_icmp_eq (tgt := 42) dX8_behindBlanks_19 (by decide) (fun q => ?_) (fun q => ?_)
  · have h := (if_pos q).symm.trans h
    refine Z.lv [0, 1] rfl ?_
    exact zb_X8_behindBlanks_42 hrc2 h
  · have h := (if_neg q).symm.trans h
    refine z_iload_n dX8_behindBlanks_22 rfl 2 rfl ?_
    refine z_bipush (v := 10) dX8_behindBlanks_23 (by decide) ?_
    refine z_icmp_eq (tgt := 42) dX8_behindBlanks_25 (by decide) (fun q => ?_) (fun q => ?_)
    · have h := (if_pos q).symm.trans h
      refine Z.lv [0, 1] rfl ?_
      exact zb_X8_behindBlanks_42 hrc2 h
    · have h := (if_neg q).symm.trans h
      refine z_iload_n dX8_behindBlanks_28 rfl 2 rfl ?_
      refine z_bipush (v := 13) dX8_behindBlanks_29 (by decide) ?_
      refine z_icmp_eq (tgt := 42) dX8_behindBlanks_31 (by decide) (fun q => ?_) (fun q => ?_)
      · have h := (if_pos q).symm.trans h
        refine Z.lv [0, 1] rfl ?_
        exact zb_X8_behindBlanks_42 hrc2 h
      · have h := (if_neg q).symm.trans h
        refine z_iload_n dX8_behindBlanks_34 rfl 2 rfl ?_
        refine z_bipush (v := 32) dX8_behindBlanks_35 (by decide) ?_
        refine z_icmp_eq (tgt := 42) dX8_behindBlanks_37 (by decide) (fun q => ?_) (fun q => ?_)
        · have h := (if_pos q).symm.trans h
          refine Z.lv [0, 1] rfl ?_
          exact zb_X8_behindBlanks_42 hrc2 h
        · have h := (if_neg q).symm.trans h
          refine z_iload_n dX8_behindBlanks_40 rfl 1 rfl ?_
          cases h
          exact z_ireturn dX8_behindBlanks_41 rfl rfl ⟨rfl, rfl⟩
def B_X8_behindBlanks_2 (rc2 : Int32 → Mm → Option (Int32 × Mm)) (x2 : Int32) (σ : Mm) : Option (Int32 × Mm) := (if (mA σ 0 0 6 0) ≤ x2 then some (mA σ 0 0 6 0, σ) else (bnd (F_X8_sign x2 σ) (fun v τ => (F_X8_behindBlanks_15 rc2 x2 v τ))))
set_option maxRecDepth 20000 in
theorem zB_X8_behindBlanks_2 {S : Shp} {rc2 : Int32 → Mm → Option (Int32 × Mm)} (hrc2 : ∀ {x2 : Int32} {σ : Mm} {r : Int32 × Mm}, rc2 x2 σ = some r → Z m_X8_behindBlanks S (Qi r) 2 [(0, .ref (sL S 0 0 6)), (2, .int (x2))] [] σ) {x2 : Int32} {σ : Mm} {r : Int32 × Mm} (h : B_X8_behindBlanks_2 rc2 x2 σ = some r) : Z m_X8_behindBlanks S (Qi r) 2 [(0, .ref (sL S 0 0 6)), (2, .int (x2))] [] σ := by
  unfold B_X8_behindBlanks_2 at h
  refine z_iload_n dX8_behindBlanks_2 rfl 1 rfl ?_
  refine z_aload_n dX8_behindBlanks_3 rfl 0 rfl ?_
  refine gf_8_9 rfl dX8_behindBlanks_4 ?_
  refine z_icmp_ge (tgt := 48) dX8_behindBlanks_7 (by decide) (fun q => ?_) (fun q => ?_)
  · have h := (if_pos q).symm.trans h
    refine z_aload_n dX8_behindBlanks_48 rfl 0 rfl ?_
    refine gf_8_9 rfl dX8_behindBlanks_49 ?_
    cases h
    exact z_ireturn dX8_behindBlanks_52 rfl rfl ⟨rfl, rfl⟩
  · have h := (if_neg q).symm.trans h
    refine z_aload_n dX8_behindBlanks_10 rfl 0 rfl ?_
    refine z_iload_n dX8_behindBlanks_11 rfl 1 rfl ?_
    obtain ⟨v, τ, hc, h⟩ := bnd_e h
    refine z_callV (M' := m_X8_sign) (t := 0) (i := 0) (k := 6) (As := [.int (x2)]) (rest := []) kl_8_43 oy_X8_sign ⟨Nat.le_of_ble_eq_true rfl, Nat.le_of_ble_eq_true rfl⟩ rfl rfl rfl rfl (Nat.le_of_ble_eq_true rfl) rfl dX8_behindBlanks_12 (c_X8_sign hc) (fun v2 τ2 hq => ?_)
    obtain ⟨rfl, hτ⟩ := hq
    subst τ2
    change Z _ _ _ _ _ [.int (v)] _
    exact zb_X8_behindBlanks_15 hrc2 h
def F_X8_behindBlanks_2 : Nat → Int32 → Mm → Option (Int32 × Mm)
  | 0 => fun _ _ => none
  | n + 1 => B_X8_behindBlanks_2 (F_X8_behindBlanks_2 n)
theorem zl_X8_behindBlanks_2 {S : Shp} : ∀ (nn : Nat) {x2 : Int32} {σ : Mm} {r : Int32 × Mm}, F_X8_behindBlanks_2 nn x2 σ = some r → Z m_X8_behindBlanks S (Qi r) 2 [(0, .ref (sL S 0 0 6)), (2, .int (x2))] [] σ := by
  intro nn
  induction nn with
  | zero => intro x2 σ r h; cases h
  | succ nn ih => intro x2 σ r h; exact zB_X8_behindBlanks_2 @ih h
def F_X8_behindBlanks (x1 : Int32) (σ : Mm) : Option (Int32 × Mm) := (F_X8_behindBlanks_2 FU x1 σ)
set_option maxRecDepth 20000 in
theorem zb_X8_behindBlanks {S : Shp} {x1 : Int32} {σ : Mm} {r : Int32 × Mm} (h : F_X8_behindBlanks x1 σ = some r) : Z m_X8_behindBlanks S (Qi r) 0 [(0, .ref (sL S 0 0 6)), (1, .int (x1))] [] σ := by
  unfold F_X8_behindBlanks at h
  refine z_iload_n dX8_behindBlanks_0 rfl 1 rfl ?_
  refine z_istore_n (lv' := [(0, .ref (sL S 0 0 6)), (1, .int (x1)), (2, .int (x1))]) dX8_behindBlanks_1 rfl (by decide) [1, 2, 0] rfl ?_
  refine Z.lv [0, 2] rfl ?_
  exact zl_X8_behindBlanks_2 FU h
/-- SkyStones$Tape.behindBlanks(I)I -/
theorem c_X8_behindBlanks {S : Shp} {x1 : Int32} {σ : Mm} {r : Int32 × Mm} (h : F_X8_behindBlanks x1 σ = some r) : Ct m_X8_behindBlanks S [.ref (sL S 0 0 6), .int (x1)] σ (Qi r) := Ct.of (by decide +kernel) (Nat.le_of_ble_eq_true rfl) (zb_X8_behindBlanks h)
def f_X8_isDigit (x0 : Int32) : Int32 := (if x0 < (48 : Int32) then 0 else (if (57 : Int32) < x0 then 0 else 1))
set_option maxRecDepth 20000 in
theorem zb_X8_isDigit {S : Shp} {x0 : Int32} {σ : Mm} {r : Int32} (h : f_X8_isDigit x0 = r) : Z m_X8_isDigit S (Qi (r, σ)) 0 [(0, .int (x0))] [] σ := by
  unfold f_X8_isDigit at h
  refine z_iload_n dX8_isDigit_0 rfl 0 rfl ?_
  refine z_bipush (v := 48) dX8_isDigit_1 (by decide) ?_
  refine z_icmp_lt (tgt := 16) dX8_isDigit_3 (by decide) (fun q => ?_) (fun q => ?_)
  · have h := (if_pos q).symm.trans h
    refine z_iconst (v := 0) dX8_isDigit_16 (by decide) ?_
    subst h
    exact z_ireturn dX8_isDigit_17 rfl rfl ⟨rfl, rfl⟩
  · have h := (if_neg q).symm.trans h
    refine z_iload_n dX8_isDigit_6 rfl 0 rfl ?_
    refine z_bipush (v := 57) dX8_isDigit_7 (by decide) ?_
    refine z_icmp_gt (tgt := 16) dX8_isDigit_9 (by decide) (fun q => ?_) (fun q => ?_)
    · have h := (if_pos q).symm.trans h
      refine z_iconst (v := 0) dX8_isDigit_16 (by decide) ?_
      subst h
      exact z_ireturn dX8_isDigit_17 rfl rfl ⟨rfl, rfl⟩
    · have h := (if_neg q).symm.trans h
      refine z_iconst (v := 1) dX8_isDigit_12 (by decide) ?_
      refine z_goto (tgt := 17) dX8_isDigit_13 (by decide) ?_
      subst h
      exact z_ireturn dX8_isDigit_17 rfl rfl ⟨rfl, rfl⟩
/-- SkyStones$Tape.isDigit(I)Z -/
theorem c_X8_isDigit {S : Shp} {x0 : Int32} {σ : Mm} {r : Int32} (h : f_X8_isDigit x0 = r) : Ct m_X8_isDigit S [.int (x0)] σ (Qi (r, σ)) := Ct.of (by decide +kernel) (Nat.le_of_ble_eq_true rfl) (zb_X8_isDigit h)
def F_X8_cutNumber_81 (x3 : Int32) (σ : Mm) : Option (Int32 × Mm) := some (x3, σ)
set_option maxRecDepth 20000 in
theorem zb_X8_cutNumber_81 {S : Shp} {x3 : Int32} {σ : Mm} {r : Int32 × Mm} (h : F_X8_cutNumber_81 x3 σ = some r) : Z m_X8_cutNumber S (Qi r) 81 [(3, .int (x3))] [] σ := by
  unfold F_X8_cutNumber_81 at h
  refine z_iload_n dX8_cutNumber_81 rfl 0 rfl ?_
  cases h
  exact z_ireturn dX8_cutNumber_82 rfl rfl ⟨rfl, rfl⟩
def F_X8_cutNumber_71 (x2 : Int32) (x3 : Int32) (σ : Mm) : Option (Int32 × Mm) := (if inb (mA σ 0 0 6 2) 402 = true then (F_X8_cutNumber_81 x3 (setA σ 0 0 10 (upd (mA σ 0 0 10) (mA σ 0 0 6 2).toNatClampNeg x2))) else none)
set_option maxRecDepth 20000 in
theorem zb_X8_cutNumber_71 {S : Shp} {x2 : Int32} {x3 : Int32} {σ : Mm} {r : Int32 × Mm} (h : F_X8_cutNumber_71 x2 x3 σ = some r) : Z m_X8_cutNumber S (Qi r) 71 [(0, .ref (sL S 0 0 6)), (2, .int (x2)), (3, .int (x3))] [] σ := by
  unfold F_X8_cutNumber_71 at h
  obtain ⟨g2, h⟩ := gd h
  refine z_aload_n dX8_cutNumber_71 rfl 0 rfl ?_
  refine gf_8_29 rfl dX8_cutNumber_72 ?_
  refine z_aload_n dX8_cutNumber_75 rfl 0 rfl ?_
  refine gf_8_19 rfl dX8_cutNumber_76 ?_
  refine z_iload_n dX8_cutNumber_79 rfl 1 rfl ?_
  refine is_0_10 (inb_in g2) dX8_cutNumber_80 ?_
  refine Z.lv [2] rfl ?_
  exact zb_X8_cutNumber_81 h
def F_X8_cutNumber_70 (x2 : Int32) (x3 : Int32) (s0 : Int32) (s1 : Int32) (σ : Mm) : Option (Int32 × Mm) := (if inb s1 402 = true then (F_X8_cutNumber_71 x2 x3 (setA σ 0 0 8 (upd (mA σ 0 0 8) s1.toNatClampNeg s0))) else none)
set_option maxRecDepth 20000 in
theorem zb_X8_cutNumber_70 {S : Shp} {x2 : Int32} {x3 : Int32} {s0 : Int32} {s1 : Int32} {σ : Mm} {r : Int32 × Mm} (h : F_X8_cutNumber_70 x2 x3 s0 s1 σ = some r) : Z m_X8_cutNumber S (Qi r) 70 [(0, .ref (sL S 0 0 6)), (2, .int (x2)), (3, .int (x3))] [.int (s0), .int (s1), .ref (sL S 0 0 8)] σ := by
  unfold F_X8_cutNumber_70 at h
  obtain ⟨g1, h⟩ := gd h
  refine is_0_8 (inb_in g1) dX8_cutNumber_70 ?_
  exact zb_X8_cutNumber_71 h
def F_X8_cutNumber_50 (x1 : Int32) (x2 : Int32) (x3 : Int32) (σ : Mm) : Option (Int32 × Mm) := (if (4 : Int32) < (x3 - x1) then (F_X8_cutNumber_70 x2 x3 1 (mA σ 0 0 6 2) σ) else (F_X8_cutNumber_70 x2 x3 3 (mA σ 0 0 6 2) σ))
set_option maxRecDepth 20000 in
theorem zb_X8_cutNumber_50 {S : Shp} {x1 : Int32} {x2 : Int32} {x3 : Int32} {σ : Mm} {r : Int32 × Mm} (h : F_X8_cutNumber_50 x1 x2 x3 σ = some r) : Z m_X8_cutNumber S (Qi r) 50 [(0, .ref (sL S 0 0 6)), (1, .int (x1)), (2, .int (x2)), (3, .int (x3))] [] σ := by
  unfold F_X8_cutNumber_50 at h
  refine z_aload_n dX8_cutNumber_50 rfl 0 rfl ?_
  refine gf_8_22 rfl dX8_cutNumber_51 ?_
  refine z_aload_n dX8_cutNumber_54 rfl 0 rfl ?_
  refine gf_8_19 rfl dX8_cutNumber_55 ?_
  refine z_iload_n dX8_cutNumber_58 rfl 3 rfl ?_
  refine z_iload_n dX8_cutNumber_59 rfl 1 rfl ?_
  refine z_isub dX8_cutNumber_60 ?_
  refine z_iconst (v := 4) dX8_cutNumber_61 (by decide) ?_
  refine z_icmp_gt (tgt := 69) dX8_cutNumber_62 (by decide) (fun q => ?_) (fun q => ?_)
  · have h := (if_pos q).symm.trans h
    refine z_iconst (v := 1) dX8_cutNumber_69 (by decide) ?_
    refine Z.lv [0, 2, 3] rfl ?_
    exact zb_X8_cutNumber_70 h
  · have h := (if_neg q).symm.trans h
    refine z_iconst (v := 3) dX8_cutNumber_65 (by decide) ?_
    refine z_goto (tgt := 70) dX8_cutNumber_66 (by decide) ?_
    refine Z.lv [0, 2, 3] rfl ?_
    exact zb_X8_cutNumber_70 h
def F_X8_cutNumber_44 (rc4 : Int32 → Int32 → Int32 → Mm → Option (Int32 × Mm)) (x1 : Int32) (x2 : Int32) (x3 : Int32) (σ : Mm) : Option (Int32 × Mm) := (rc4 x1 x2 (x3 + 1) σ)
set_option maxRecDepth 20000 in
theorem zb_X8_cutNumber_44 {S : Shp} {rc4 : Int32 → Int32 → Int32 → Mm → Option (Int32 × Mm)} (hrc4 : ∀ {x1 : Int32} {x2 : Int32} {x3 : Int32} {σ : Mm} {r : Int32 × Mm}, rc4 x1 x2 x3 σ = some r → Z m_X8_cutNumber S (Qi r) 4 [(0, .ref (sL S 0 0 6)), (1, .int (x1)), (2, .int (x2)), (3, .int (x3))] [] σ) {x1 : Int32} {x2 : Int32} {x3 : Int32} {σ : Mm} {r : Int32 × Mm} (h : F_X8_cutNumber_44 rc4 x1 x2 x3 σ = some r) : Z m_X8_cutNumber S (Qi r) 44 [(0, .ref (sL S 0 0 6)), (1, .int (x1)), (2, .int (x2)), (3, .int (x3))] [] σ := by
  unfold F_X8_cutNumber_44 at h
  refine z_iinc (j := 3) (v := x3 + 1) (lv' := [(0, .ref (sL S 0 0 6)), (1, .int (x1)), (2, .int (x2)), (3, .int (x3 + 1))]) dX8_cutNumber_44 rfl rfl (by decide) [1, 2, 3, 0] rfl ?_
  refine z_goto (tgt := 4) dX8_cutNumber_47 (by decide) ?_
  exact hrc4 h
def F_X8_cutNumber_39 (rc4 : Int32 → Int32 → Int32 → Mm → Option (Int32 × Mm)) (x1 : Int32) (x3 : Int32) (s0 : Int32) (s1 : Int32) (σ : Mm) : Option (Int32 × Mm) := (F_X8_cutNumber_44 rc4 x1 ((s1 + s0) - (48 : Int32)) x3 σ)
set_option maxRecDepth 20000 in
theorem zb_X8_cutNumber_39 {S : Shp} {rc4 : Int32 → Int32 → Int32 → Mm → Option (Int32 × Mm)} (hrc4 : ∀ {x1 : Int32} {x2 : Int32} {x3 : Int32} {σ : Mm} {r : Int32 × Mm}, rc4 x1 x2 x3 σ = some r → Z m_X8_cutNumber S (Qi r) 4 [(0, .ref (sL S 0 0 6)), (1, .int (x1)), (2, .int (x2)), (3, .int (x3))] [] σ) {x1 : Int32} {x3 : Int32} {s0 : Int32} {s1 : Int32} {σ : Mm} {r : Int32 × Mm} (h : F_X8_cutNumber_39 rc4 x1 x3 s0 s1 σ = some r) : Z m_X8_cutNumber S (Qi r) 39 [(0, .ref (sL S 0 0 6)), (1, .int (x1)), (3, .int (x3))] [.int (s0), .int (s1)] σ := by
  unfold F_X8_cutNumber_39 at h
  refine z_iadd dX8_cutNumber_39 ?_
  refine z_bipush (v := 48) dX8_cutNumber_40 (by decide) ?_
  refine z_isub dX8_cutNumber_42 ?_
  refine z_istore_n (lv' := [(0, .ref (sL S 0 0 6)), (1, .int (x1)), (2, .int ((s1 + s0) - (48 : Int32))), (3, .int (x3))]) dX8_cutNumber_43 rfl (by decide) [1, 2, 0, 3] rfl ?_
  exact zb_X8_cutNumber_44 hrc4 h
def F_X8_cutNumber_17 (rc4 : Int32 → Int32 → Int32 → Mm → Option (Int32 × Mm)) (x1 : Int32) (x2 : Int32) (x3 : Int32) (s0 : Int32) (σ : Mm) : Option (Int32 × Mm) := (if (f_X8_isDigit s0) = 0 then (F_X8_cutNumber_50 x1 x2 x3 σ) else (if (4 : Int32) ≤ (x3 - x1) then (F_X8_cutNumber_44 rc4 x1 x2 x3 σ) else (bnd (F_X8_sign x3 σ) (fun v τ => (F_X8_cutNumber_39 rc4 x1 x3 v ((10 : Int32) * x2) τ)))))
set_option maxRecDepth 20000 in
theorem zb_X8_cutNumber_17 {S : Shp} {rc4 : Int32 → Int32 → Int32 → Mm → Option (Int32 × Mm)} (hrc4 : ∀ {x1 : Int32} {x2 : Int32} {x3 : Int32} {σ : Mm} {r : Int32 × Mm}, rc4 x1 x2 x3 σ = some r → Z m_X8_cutNumber S (Qi r) 4 [(0, .ref (sL S 0 0 6)), (1, .int (x1)), (2, .int (x2)), (3, .int (x3))] [] σ) {x1 : Int32} {x2 : Int32} {x3 : Int32} {s0 : Int32} {σ : Mm} {r : Int32 × Mm} (h : F_X8_cutNumber_17 rc4 x1 x2 x3 s0 σ = some r) : Z m_X8_cutNumber S (Qi r) 17 [(0, .ref (sL S 0 0 6)), (1, .int (x1)), (2, .int (x2)), (3, .int (x3))] [.int (s0)] σ := by
  unfold F_X8_cutNumber_17 at h
  refine z_callS (M' := m_X8_isDigit) (As := [.int (s0)]) (rest := []) kl_8_53 oy_X8_isDigit ⟨Nat.le_of_ble_eq_true rfl, Nat.le_of_ble_eq_true rfl⟩ rfl (Nat.le_of_ble_eq_true rfl) rfl dX8_cutNumber_17 (c_X8_isDigit rfl) (fun v τ hq => ?_)
  obtain ⟨rfl, hτ⟩ := hq
  subst τ
  change Z _ _ _ _ _ [.int (f_X8_isDigit s0)] _
  refine z_if_eq (tgt := 50) dX8_cutNumber_20 (by decide) (fun q => ?_) (fun q => ?_)
  · have h := (if_pos q).symm.trans h
    exact zb_X8_cutNumber_50 h
  · have h := (if_neg q).symm.trans h
    refine z_iload_n dX8_cutNumber_23 rfl 3 rfl ?_
    refine z_iload_n dX8_cutNumber_24 rfl 1 rfl ?_
    refine z_isub dX8_cutNumber_25 ?_
    refine z_iconst (v := 4) dX8_cutNumber_26 (by decide) ?_
    refine z_icmp_ge (tgt := 44) dX8_cutNumber_27 (by decide) (fun q => ?_) (fun q => ?_)
    · have h := (if_pos q).symm.trans h
      exact zb_X8_cutNumber_44 hrc4 h
    · have h := (if_neg q).symm.trans h
      refine z_bipush (v := 10) dX8_cutNumber_30 (by decide) ?_
      refine z_iload_n dX8_cutNumber_32 rfl 2 rfl ?_
      refine z_imul dX8_cutNumber_33 ?_
      refine z_aload_n dX8_cutNumber_34 rfl 0 rfl ?_
      refine z_iload_n dX8_cutNumber_35 rfl 3 rfl ?_
      obtain ⟨v, τ, hc, h⟩ := bnd_e h
      refine z_callV (M' := m_X8_sign) (t := 0) (i := 0) (k := 6) (As := [.int (x3)]) (rest := [.int ((10 : Int32) * x2)]) kl_8_43 oy_X8_sign ⟨Nat.le_of_ble_eq_true rfl, Nat.le_of_ble_eq_true rfl⟩ rfl rfl rfl rfl (Nat.le_of_ble_eq_true rfl) rfl dX8_cutNumber_36 (c_X8_sign hc) (fun v2 τ2 hq => ?_)
      obtain ⟨rfl, hτ⟩ := hq
      subst τ2
      change Z _ _ _ _ _ [.int (v), .int ((10 : Int32) * x2)] _
      refine Z.lv [0, 1, 3] rfl ?_
      exact zb_X8_cutNumber_39 hrc4 h
def B_X8_cutNumber_4 (rc4 : Int32 → Int32 → Int32 → Mm → Option (Int32 × Mm)) (x1 : Int32) (x2 : Int32) (x3 : Int32) (σ : Mm) : Option (Int32 × Mm) := (if (mA σ 0 0 6 0) ≤ x3 then (F_X8_cutNumber_50 x1 x2 x3 σ) else (bnd (F_X8_sign x3 σ) (fun v τ => (F_X8_cutNumber_17 rc4 x1 x2 x3 v τ))))
set_option maxRecDepth 20000 in
theorem zB_X8_cutNumber_4 {S : Shp} {rc4 : Int32 → Int32 → Int32 → Mm → Option (Int32 × Mm)} (hrc4 : ∀ {x1 : Int32} {x2 : Int32} {x3 : Int32} {σ : Mm} {r : Int32 × Mm}, rc4 x1 x2 x3 σ = some r → Z m_X8_cutNumber S (Qi r) 4 [(0, .ref (sL S 0 0 6)), (1, .int (x1)), (2, .int (x2)), (3, .int (x3))] [] σ) {x1 : Int32} {x2 : Int32} {x3 : Int32} {σ : Mm} {r : Int32 × Mm} (h : B_X8_cutNumber_4 rc4 x1 x2 x3 σ = some r) : Z m_X8_cutNumber S (Qi r) 4 [(0, .ref (sL S 0 0 6)), (1, .int (x1)), (2, .int (x2)), (3, .int (x3))] [] σ := by
  unfold B_X8_cutNumber_4 at h
  refine z_iload_n dX8_cutNumber_4 rfl 3 rfl ?_
  refine z_aload_n dX8_cutNumber_5 rfl 0 rfl ?_
  refine gf_8_9 rfl dX8_cutNumber_6 ?_
  refine z_icmp_ge (tgt := 50) dX8_cutNumber_9 (by decide) (fun q => ?_) (fun q => ?_)
  · have h := (if_pos q).symm.trans h
    exact zb_X8_cutNumber_50 h
  · have h := (if_neg q).symm.trans h
    refine z_aload_n dX8_cutNumber_12 rfl 0 rfl ?_
    refine z_iload_n dX8_cutNumber_13 rfl 3 rfl ?_
    obtain ⟨v, τ, hc, h⟩ := bnd_e h
    refine z_callV (M' := m_X8_sign) (t := 0) (i := 0) (k := 6) (As := [.int (x3)]) (rest := []) kl_8_43 oy_X8_sign ⟨Nat.le_of_ble_eq_true rfl, Nat.le_of_ble_eq_true rfl⟩ rfl rfl rfl rfl (Nat.le_of_ble_eq_true rfl) rfl dX8_cutNumber_14 (c_X8_sign hc) (fun v2 τ2 hq => ?_)
    obtain ⟨rfl, hτ⟩ := hq
    subst τ2
    change Z _ _ _ _ _ [.int (v)] _
    exact zb_X8_cutNumber_17 hrc4 h
def F_X8_cutNumber_4 : Nat → Int32 → Int32 → Int32 → Mm → Option (Int32 × Mm)
  | 0 => fun _ _ _ _ => none
  | n + 1 => B_X8_cutNumber_4 (F_X8_cutNumber_4 n)
theorem zl_X8_cutNumber_4 {S : Shp} : ∀ (nn : Nat) {x1 : Int32} {x2 : Int32} {x3 : Int32} {σ : Mm} {r : Int32 × Mm}, F_X8_cutNumber_4 nn x1 x2 x3 σ = some r → Z m_X8_cutNumber S (Qi r) 4 [(0, .ref (sL S 0 0 6)), (1, .int (x1)), (2, .int (x2)), (3, .int (x3))] [] σ := by
  intro nn
  induction nn with
  | zero => intro x1 x2 x3 σ r h; cases h
  | succ nn ih => intro x1 x2 x3 σ r h; exact zB_X8_cutNumber_4 @ih h
def F_X8_cutNumber (x1 : Int32) (σ : Mm) : Option (Int32 × Mm) := (F_X8_cutNumber_4 FU x1 0 x1 σ)
set_option maxRecDepth 20000 in
theorem zb_X8_cutNumber {S : Shp} {x1 : Int32} {σ : Mm} {r : Int32 × Mm} (h : F_X8_cutNumber x1 σ = some r) : Z m_X8_cutNumber S (Qi r) 0 [(0, .ref (sL S 0 0 6)), (1, .int (x1))] [] σ := by
  unfold F_X8_cutNumber at h
  refine z_iconst (v := 0) dX8_cutNumber_0 (by decide) ?_
  refine z_istore_n (lv' := [(0, .ref (sL S 0 0 6)), (1, .int (x1)), (2, .int (0))]) dX8_cutNumber_1 rfl (by decide) [1, 2, 0] rfl ?_
  refine z_iload_n dX8_cutNumber_2 rfl 1 rfl ?_
  refine z_istore_n (lv' := [(0, .ref (sL S 0 0 6)), (1, .int (x1)), (2, .int (0)), (3, .int (x1))]) dX8_cutNumber_3 rfl (by decide) [1, 2, 3, 0] rfl ?_
  exact zl_X8_cutNumber_4 FU h
/-- SkyStones$Tape.cutNumber(I)I -/
theorem c_X8_cutNumber {S : Shp} {x1 : Int32} {σ : Mm} {r : Int32 × Mm} (h : F_X8_cutNumber x1 σ = some r) : Ct m_X8_cutNumber S [.ref (sL S 0 0 6), .int (x1)] σ (Qi r) := Ct.of (by decide +kernel) (Nat.le_of_ble_eq_true rfl) (zb_X8_cutNumber h)
def f_X8_isLetter (x0 : Int32) : Int32 := (if x0 < (97 : Int32) then 0 else (if (122 : Int32) < x0 then 0 else 1))
set_option maxRecDepth 20000 in
theorem zb_X8_isLetter {S : Shp} {x0 : Int32} {σ : Mm} {r : Int32} (h : f_X8_isLetter x0 = r) : Z m_X8_isLetter S (Qi (r, σ)) 0 [(0, .int (x0))] [] σ := by
  unfold f_X8_isLetter at h
  refine z_iload_n dX8_isLetter_0 rfl 0 rfl ?_
  refine z_bipush (v := 97) dX8_isLetter_1 (by decide) ?_
  refine z_icmp_lt (tgt := 16) dX8_isLetter_3 (by decide) (fun q => ?_) (fun q => ?_)
  · have h := (if_pos q).symm.trans h
    refine z_iconst (v := 0) dX8_isLetter_16 (by decide) ?_
    subst h
    exact z_ireturn dX8_isLetter_17 rfl rfl ⟨rfl, rfl⟩
  · have h := (if_neg q).symm.trans h
    refine z_iload_n dX8_isLetter_6 rfl 0 rfl ?_
    refine z_bipush (v := 122) dX8_isLetter_7 (by decide) ?_
    refine z_icmp_gt (tgt := 16) dX8_isLetter_9 (by decide) (fun q => ?_) (fun q => ?_)
    · have h := (if_pos q).symm.trans h
      refine z_iconst (v := 0) dX8_isLetter_16 (by decide) ?_
      subst h
      exact z_ireturn dX8_isLetter_17 rfl rfl ⟨rfl, rfl⟩
    · have h := (if_neg q).symm.trans h
      refine z_iconst (v := 1) dX8_isLetter_12 (by decide) ?_
      refine z_goto (tgt := 17) dX8_isLetter_13 (by decide) ?_
      subst h
      exact z_ireturn dX8_isLetter_17 rfl rfl ⟨rfl, rfl⟩
/-- SkyStones$Tape.isLetter(I)Z -/
theorem c_X8_isLetter {S : Shp} {x0 : Int32} {σ : Mm} {r : Int32} (h : f_X8_isLetter x0 = r) : Ct m_X8_isLetter S [.int (x0)] σ (Qi (r, σ)) := Ct.of (by decide +kernel) (Nat.le_of_ble_eq_true rfl) (zb_X8_isLetter h)
def F_X8_isWord_29 (rc3 : Int32 → Int32 → Int32 → Int32 → Mm → Option (Int32 × Mm)) (x1 : Int32) (x2 : Int32) (x3 : Int32) (x4 : Int32) (s0 : Int32) (σ : Mm) : Option (Int32 × Mm) := (if (126 : Int32) ≤ ((x1 * (6 : Int32)) + x4) then some (0, σ) else (if inb ((x1 * (6 : Int32)) + x4) 126 = true then (if (wch ((x1 * (6 : Int32)) + x4)) = s0 then (rc3 x1 x2 x3 (x4 + 1) σ) else some (0, σ)) else none))
set_option maxRecDepth 20000 in
theorem zb_X8_isWord_29 {S : Shp} {rc3 : Int32 → Int32 → Int32 → Int32 → Mm → Option (Int32 × Mm)} (hrc3 : ∀ {x1 : Int32} {x2 : Int32} {x3 : Int32} {x4 : Int32} {σ : Mm} {r : Int32 × Mm}, rc3 x1 x2 x3 x4 σ = some r → Z m_X8_isWord S (Qi r) 3 [(0, .ref (sL S 0 0 6)), (1, .int (x1)), (2, .int (x2)), (3, .int (x3)), (4, .int (x4))] [] σ) {x1 : Int32} {x2 : Int32} {x3 : Int32} {x4 : Int32} {s0 : Int32} {σ : Mm} {r : Int32 × Mm} (h : F_X8_isWord_29 rc3 x1 x2 x3 x4 s0 σ = some r) : Z m_X8_isWord S (Qi r) 29 [(0, .ref (sL S 0 0 6)), (1, .int (x1)), (2, .int (x2)), (3, .int (x3)), (4, .int (x4))] [.int (s0)] σ := by
  unfold F_X8_isWord_29 at h
  refine z_istore (lv' := [(0, .ref (sL S 0 0 6)), (1, .int (x1)), (2, .int (x2)), (3, .int (x3)), (4, .int (x4)), (5, .int (s0))]) dX8_isWord_29 (by decide) [1, 2, 3, 4, 5, 0] rfl ?_
  refine z_iload_n dX8_isWord_31 rfl 1 rfl ?_
  refine z_bipush (v := 6) dX8_isWord_32 (by decide) ?_
  refine z_imul dX8_isWord_34 ?_
  refine z_iload dX8_isWord_35 4 rfl ?_
  refine z_iadd dX8_isWord_37 ?_
  refine z_istore (lv' := [(0, .ref (sL S 0 0 6)), (1, .int (x1)), (2, .int (x2)), (3, .int (x3)), (4, .int (x4)), (5, .int (s0)), (6, .int ((x1 * (6 : Int32)) + x4))]) dX8_isWord_38 (by decide) [1, 2, 3, 4, 5, 6, 0] rfl ?_
  refine z_iload dX8_isWord_40 6 rfl ?_
  refine z_ldcS rfl dX8_isWord_42 ?_
  refine z_callVS (M' := m_J0_length_8abf5) (As := []) (rest := [.int ((x1 * (6 : Int32)) + x4)]) kl_8_77 oy_J0_length_8abf5 ⟨Nat.le_of_ble_eq_true rfl, Nat.le_of_ble_eq_true rfl⟩ rfl rfl (Nat.le_of_ble_eq_true rfl) rfl dX8_isWord_44 (c_len) (fun v τ hq => ?_)
  obtain ⟨rfl, hτ⟩ := hq
  subst τ
  change Z _ _ _ _ _ [.int (126), .int ((x1 * (6 : Int32)) + x4)] _
  refine z_icmp_ge (tgt := 62) dX8_isWord_47 (by decide) (fun q => ?_) (fun q => ?_)
  · have h := (if_pos q).symm.trans h
    refine z_iconst (v := 0) dX8_isWord_62 (by decide) ?_
    cases h
    exact z_ireturn dX8_isWord_63 rfl rfl ⟨rfl, rfl⟩
  · have h := (if_neg q).symm.trans h
    obtain ⟨g2, h⟩ := gd h
    refine z_ldcS rfl dX8_isWord_50 ?_
    refine z_iload dX8_isWord_52 6 rfl ?_
    refine z_callVS (M' := m_J0_charAt_5068e) (As := [.int ((x1 * (6 : Int32)) + x4)]) (rest := []) kl_8_83 oy_J0_charAt_5068e ⟨Nat.le_of_ble_eq_true rfl, Nat.le_of_ble_eq_true rfl⟩ rfl rfl (Nat.le_of_ble_eq_true rfl) rfl dX8_isWord_54 (c_char g2) (fun v τ hq => ?_)
    obtain ⟨rfl, hτ⟩ := hq
    subst τ
    change Z _ _ _ _ _ [.int (wch ((x1 * (6 : Int32)) + x4))] _
    refine z_iload dX8_isWord_57 5 rfl ?_
    refine z_icmp_eq (tgt := 64) dX8_isWord_59 (by decide) (fun q => ?_) (fun q => ?_)
    · have h := (if_pos q).symm.trans h
      refine z_iinc (j := 4) (v := x4 + 1) (lv' := [(0, .ref (sL S 0 0 6)), (1, .int (x1)), (2, .int (x2)), (3, .int (x3)), (4, .int (x4 + 1)), (5, .int (s0)), (6, .int ((x1 * (6 : Int32)) + x4))]) dX8_isWord_64 rfl rfl (by decide) [1, 2, 3, 4, 0, 5, 6] rfl ?_
      refine z_goto (tgt := 3) dX8_isWord_67 (by decide) ?_
      refine Z.lv [0, 1, 2, 3, 4] rfl ?_
      exact hrc3 h
    · have h := (if_neg q).symm.trans h
      refine z_iconst (v := 0) dX8_isWord_62 (by decide) ?_
      cases h
      exact z_ireturn dX8_isWord_63 rfl rfl ⟨rfl, rfl⟩
def F_X8_isWord_24 (rc3 : Int32 → Int32 → Int32 → Int32 → Mm → Option (Int32 × Mm)) (x1 : Int32) (x2 : Int32) (x3 : Int32) (x4 : Int32) (s0 : Int32) (σ : Mm) : Option (Int32 × Mm) := (F_X8_isWord_29 rc3 x1 x2 x3 x4 s0 σ)
set_option maxRecDepth 20000 in
theorem zb_X8_isWord_24 {S : Shp} {rc3 : Int32 → Int32 → Int32 → Int32 → Mm → Option (Int32 × Mm)} (hrc3 : ∀ {x1 : Int32} {x2 : Int32} {x3 : Int32} {x4 : Int32} {σ : Mm} {r : Int32 × Mm}, rc3 x1 x2 x3 x4 σ = some r → Z m_X8_isWord S (Qi r) 3 [(0, .ref (sL S 0 0 6)), (1, .int (x1)), (2, .int (x2)), (3, .int (x3)), (4, .int (x4))] [] σ) {x1 : Int32} {x2 : Int32} {x3 : Int32} {x4 : Int32} {s0 : Int32} {σ : Mm} {r : Int32 × Mm} (h : F_X8_isWord_24 rc3 x1 x2 x3 x4 s0 σ = some r) : Z m_X8_isWord S (Qi r) 24 [(0, .ref (sL S 0 0 6)), (1, .int (x1)), (2, .int (x2)), (3, .int (x3)), (4, .int (x4))] [.int (s0)] σ := by
  unfold F_X8_isWord_24 at h
  refine z_goto (tgt := 29) dX8_isWord_24 (by decide) ?_
  exact zb_X8_isWord_29 hrc3 h
def B_X8_isWord_3 (rc3 : Int32 → Int32 → Int32 → Int32 → Mm → Option (Int32 × Mm)) (x1 : Int32) (x2 : Int32) (x3 : Int32) (x4 : Int32) (σ : Mm) : Option (Int32 × Mm) := (if (6 : Int32) ≤ x4 then some (1, σ) else (if x3 ≤ x4 then (F_X8_isWord_29 rc3 x1 x2 x3 x4 32 σ) else (bnd (F_X8_sign (x2 + x4) σ) (fun v τ => (F_X8_isWord_24 rc3 x1 x2 x3 x4 v τ)))))
set_option maxRecDepth 20000 in
theorem zB_X8_isWord_3 {S : Shp} {rc3 : Int32 → Int32 → Int32 → Int32 → Mm → Option (Int32 × Mm)} (hrc3 : ∀ {x1 : Int32} {x2 : Int32} {x3 : Int32} {x4 : Int32} {σ : Mm} {r : Int32 × Mm}, rc3 x1 x2 x3 x4 σ = some r → Z m_X8_isWord S (Qi r) 3 [(0, .ref (sL S 0 0 6)), (1, .int (x1)), (2, .int (x2)), (3, .int (x3)), (4, .int (x4))] [] σ) {x1 : Int32} {x2 : Int32} {x3 : Int32} {x4 : Int32} {σ : Mm} {r : Int32 × Mm} (h : B_X8_isWord_3 rc3 x1 x2 x3 x4 σ = some r) : Z m_X8_isWord S (Qi r) 3 [(0, .ref (sL S 0 0 6)), (1, .int (x1)), (2, .int (x2)), (3, .int (x3)), (4, .int (x4))] [] σ := by
  unfold B_X8_isWord_3 at h
  refine z_iload dX8_isWord_3 4 rfl ?_
  refine z_bipush (v := 6) dX8_isWord_5 (by decide) ?_
  refine z_icmp_ge (tgt := 70) dX8_isWord_7 (by decide) (fun q => ?_) (fun q => ?_)
  · have h := (if_pos q).symm.trans h
    refine z_iconst (v := 1) dX8_isWord_70 (by decide) ?_
    cases h
    exact z_ireturn dX8_isWord_71 rfl rfl ⟨rfl, rfl⟩
  · have h := (if_neg q).symm.trans h
    refine z_iload dX8_isWord_10 4 rfl ?_
    refine z_iload_n dX8_isWord_12 rfl 3 rfl ?_
    refine z_icmp_ge (tgt := 27) dX8_isWord_13 (by decide) (fun q => ?_) (fun q => ?_)
    · have h := (if_pos q).symm.trans h
      refine z_bipush (v := 32) dX8_isWord_27 (by decide) ?_
      exact zb_X8_isWord_29 hrc3 h
    · have h := (if_neg q).symm.trans h
      refine z_aload_n dX8_isWord_16 rfl 0 rfl ?_
      refine z_iload_n dX8_isWord_17 rfl 2 rfl ?_
      refine z_iload dX8_isWord_18 4 rfl ?_
      refine z_iadd dX8_isWord_20 ?_
      obtain ⟨v, τ, hc, h⟩ := bnd_e h
      refine z_callV (M' := m_X8_sign) (t := 0) (i := 0) (k := 6) (As := [.int (x2 + x4)]) (rest := []) kl_8_43 oy_X8_sign ⟨Nat.le_of_ble_eq_true rfl, Nat.le_of_ble_eq_true rfl⟩ rfl rfl rfl rfl (Nat.le_of_ble_eq_true rfl) rfl dX8_isWord_21 (c_X8_sign hc) (fun v2 τ2 hq => ?_)
      obtain ⟨rfl, hτ⟩ := hq
      subst τ2
      change Z _ _ _ _ _ [.int (v)] _
      exact zb_X8_isWord_24 hrc3 h
def F_X8_isWord_3 : Nat → Int32 → Int32 → Int32 → Int32 → Mm → Option (Int32 × Mm)
  | 0 => fun _ _ _ _ _ => none
  | n + 1 => B_X8_isWord_3 (F_X8_isWord_3 n)
theorem zl_X8_isWord_3 {S : Shp} : ∀ (nn : Nat) {x1 : Int32} {x2 : Int32} {x3 : Int32} {x4 : Int32} {σ : Mm} {r : Int32 × Mm}, F_X8_isWord_3 nn x1 x2 x3 x4 σ = some r → Z m_X8_isWord S (Qi r) 3 [(0, .ref (sL S 0 0 6)), (1, .int (x1)), (2, .int (x2)), (3, .int (x3)), (4, .int (x4))] [] σ := by
  intro nn
  induction nn with
  | zero => intro x1 x2 x3 x4 σ r h; cases h
  | succ nn ih => intro x1 x2 x3 x4 σ r h; exact zB_X8_isWord_3 @ih h
def F_X8_isWord (x1 : Int32) (x2 : Int32) (x3 : Int32) (σ : Mm) : Option (Int32 × Mm) := (F_X8_isWord_3 FU x1 x2 x3 0 σ)
set_option maxRecDepth 20000 in
theorem zb_X8_isWord {S : Shp} {x1 : Int32} {x2 : Int32} {x3 : Int32} {σ : Mm} {r : Int32 × Mm} (h : F_X8_isWord x1 x2 x3 σ = some r) : Z m_X8_isWord S (Qi r) 0 [(0, .ref (sL S 0 0 6)), (1, .int (x1)), (2, .int (x2)), (3, .int (x3))] [] σ := by
  unfold F_X8_isWord at h
  refine z_iconst (v := 0) dX8_isWord_0 (by decide) ?_
  refine z_istore (lv' := [(0, .ref (sL S 0 0 6)), (1, .int (x1)), (2, .int (x2)), (3, .int (x3)), (4, .int (0))]) dX8_isWord_1 (by decide) [1, 2, 3, 4, 0] rfl ?_
  exact zl_X8_isWord_3 FU h
/-- SkyStones$Tape.isWord(III)Z -/
theorem c_X8_isWord {S : Shp} {x1 : Int32} {x2 : Int32} {x3 : Int32} {σ : Mm} {r : Int32 × Mm} (h : F_X8_isWord x1 x2 x3 σ = some r) : Ct m_X8_isWord S [.ref (sL S 0 0 6), .int (x1), .int (x2), .int (x3)] σ (Qi r) := Ct.of (by decide +kernel) (Nat.le_of_ble_eq_true rfl) (zb_X8_isWord h)
def F_X8_wordKind_21 (rc2 : Int32 → Int32 → Int32 → Mm → Option (Int32 × Mm)) (x1 : Int32) (x2 : Int32) (x3 : Int32) (s0 : Int32) (σ : Mm) : Option (Int32 × Mm) := (if s0 = 0 then (rc2 x1 x2 (x3 + 1) σ) else some ((16 : Int32) + x3, σ))
set_option maxRecDepth 20000 in
theorem zb_X8_wordKind_21 {S : Shp} {rc2 : Int32 → Int32 → Int32 → Mm → Option (Int32 × Mm)} (hrc2 : ∀ {x1 : Int32} {x2 : Int32} {x3 : Int32} {σ : Mm} {r : Int32 × Mm}, rc2 x1 x2 x3 σ = some r → Z m_X8_wordKind S (Qi r) 2 [(0, .ref (sL S 0 0 6)), (1, .int (x1)), (2, .int (x2)), (3, .int (x3))] [] σ) {x1 : Int32} {x2 : Int32} {x3 : Int32} {s0 : Int32} {σ : Mm} {r : Int32 × Mm} (h : F_X8_wordKind_21 rc2 x1 x2 x3 s0 σ = some r) : Z m_X8_wordKind S (Qi r) 21 [(0, .ref (sL S 0 0 6)), (1, .int (x1)), (2, .int (x2)), (3, .int (x3))] [.int (s0)] σ := by
  unfold F_X8_wordKind_21 at h
  refine z_if_eq (tgt := 29) dX8_wordKind_21 (by decide) (fun q => ?_) (fun q => ?_)
  · have h := (if_pos q).symm.trans h
    refine z_iinc (j := 3) (v := x3 + 1) (lv' := [(0, .ref (sL S 0 0 6)), (1, .int (x1)), (2, .int (x2)), (3, .int (x3 + 1))]) dX8_wordKind_29 rfl rfl (by decide) [1, 2, 3, 0] rfl ?_
    refine z_goto (tgt := 2) dX8_wordKind_32 (by decide) ?_
    exact hrc2 h
  · have h := (if_neg q).symm.trans h
    refine z_bipush (v := 16) dX8_wordKind_24 (by decide) ?_
    refine z_iload_n dX8_wordKind_26 rfl 3 rfl ?_
    refine z_iadd dX8_wordKind_27 ?_
    cases h
    exact z_ireturn dX8_wordKind_28 rfl rfl ⟨rfl, rfl⟩
def B_X8_wordKind_2 (rc2 : Int32 → Int32 → Int32 → Mm → Option (Int32 × Mm)) (x1 : Int32) (x2 : Int32) (x3 : Int32) (σ : Mm) : Option (Int32 × Mm) := (if (21 : Int32) ≤ x3 then some (2, σ) else (if (6 : Int32) < x2 then some (2, σ) else (bnd (F_X8_isWord x3 x1 x2 σ) (fun v τ => (F_X8_wordKind_21 rc2 x1 x2 x3 v τ)))))
set_option maxRecDepth 20000 in
theorem zB_X8_wordKind_2 {S : Shp} {rc2 : Int32 → Int32 → Int32 → Mm → Option (Int32 × Mm)} (hrc2 : ∀ {x1 : Int32} {x2 : Int32} {x3 : Int32} {σ : Mm} {r : Int32 × Mm}, rc2 x1 x2 x3 σ = some r → Z m_X8_wordKind S (Qi r) 2 [(0, .ref (sL S 0 0 6)), (1, .int (x1)), (2, .int (x2)), (3, .int (x3))] [] σ) {x1 : Int32} {x2 : Int32} {x3 : Int32} {σ : Mm} {r : Int32 × Mm} (h : B_X8_wordKind_2 rc2 x1 x2 x3 σ = some r) : Z m_X8_wordKind S (Qi r) 2 [(0, .ref (sL S 0 0 6)), (1, .int (x1)), (2, .int (x2)), (3, .int (x3))] [] σ := by
  unfold B_X8_wordKind_2 at h
  refine z_iload_n dX8_wordKind_2 rfl 3 rfl ?_
  refine z_bipush (v := 21) dX8_wordKind_3 (by decide) ?_
  refine z_icmp_ge (tgt := 35) dX8_wordKind_5 (by decide) (fun q => ?_) (fun q => ?_)
  · have h := (if_pos q).symm.trans h
    refine z_iconst (v := 2) dX8_wordKind_35 (by decide) ?_
    cases h
    exact z_ireturn dX8_wordKind_36 rfl rfl ⟨rfl, rfl⟩
  · have h := (if_neg q).symm.trans h
    refine z_iload_n dX8_wordKind_8 rfl 2 rfl ?_
    refine z_bipush (v := 6) dX8_wordKind_9 (by decide) ?_
    refine z_icmp_gt (tgt := 35) dX8_wordKind_11 (by decide) (fun q => ?_) (fun q => ?_)
    · have h := (if_pos q).symm.trans h
      refine z_iconst (v := 2) dX8_wordKind_35 (by decide) ?_
      cases h
      exact z_ireturn dX8_wordKind_36 rfl rfl ⟨rfl, rfl⟩
    · have h := (if_neg q).symm.trans h
      refine z_aload_n dX8_wordKind_14 rfl 0 rfl ?_
      refine z_iload_n dX8_wordKind_15 rfl 3 rfl ?_
      refine z_iload_n dX8_wordKind_16 rfl 1 rfl ?_
      refine z_iload_n dX8_wordKind_17 rfl 2 rfl ?_
      obtain ⟨v, τ, hc, h⟩ := bnd_e h
      refine z_callV (M' := m_X8_isWord) (t := 0) (i := 0) (k := 6) (As := [.int (x3), .int (x1), .int (x2)]) (rest := []) kl_8_71 oy_X8_isWord ⟨Nat.le_of_ble_eq_true rfl, Nat.le_of_ble_eq_true rfl⟩ rfl rfl rfl rfl (Nat.le_of_ble_eq_true rfl) rfl dX8_wordKind_18 (c_X8_isWord hc) (fun v2 τ2 hq => ?_)
      obtain ⟨rfl, hτ⟩ := hq
      subst τ2
      change Z _ _ _ _ _ [.int (v)] _
      exact zb_X8_wordKind_21 hrc2 h
def F_X8_wordKind_2 : Nat → Int32 → Int32 → Int32 → Mm → Option (Int32 × Mm)
  | 0 => fun _ _ _ _ => none
  | n + 1 => B_X8_wordKind_2 (F_X8_wordKind_2 n)
theorem zl_X8_wordKind_2 {S : Shp} : ∀ (nn : Nat) {x1 : Int32} {x2 : Int32} {x3 : Int32} {σ : Mm} {r : Int32 × Mm}, F_X8_wordKind_2 nn x1 x2 x3 σ = some r → Z m_X8_wordKind S (Qi r) 2 [(0, .ref (sL S 0 0 6)), (1, .int (x1)), (2, .int (x2)), (3, .int (x3))] [] σ := by
  intro nn
  induction nn with
  | zero => intro x1 x2 x3 σ r h; cases h
  | succ nn ih => intro x1 x2 x3 σ r h; exact zB_X8_wordKind_2 @ih h
def F_X8_wordKind (x1 : Int32) (x2 : Int32) (σ : Mm) : Option (Int32 × Mm) := (F_X8_wordKind_2 FU x1 x2 0 σ)
set_option maxRecDepth 20000 in
theorem zb_X8_wordKind {S : Shp} {x1 : Int32} {x2 : Int32} {σ : Mm} {r : Int32 × Mm} (h : F_X8_wordKind x1 x2 σ = some r) : Z m_X8_wordKind S (Qi r) 0 [(0, .ref (sL S 0 0 6)), (1, .int (x1)), (2, .int (x2))] [] σ := by
  unfold F_X8_wordKind at h
  refine z_iconst (v := 0) dX8_wordKind_0 (by decide) ?_
  refine z_istore_n (lv' := [(0, .ref (sL S 0 0 6)), (1, .int (x1)), (2, .int (x2)), (3, .int (0))]) dX8_wordKind_1 rfl (by decide) [1, 2, 3, 0] rfl ?_
  exact zl_X8_wordKind_2 FU h
/-- SkyStones$Tape.wordKind(II)I -/
theorem c_X8_wordKind {S : Shp} {x1 : Int32} {x2 : Int32} {σ : Mm} {r : Int32 × Mm} (h : F_X8_wordKind x1 x2 σ = some r) : Ct m_X8_wordKind S [.ref (sL S 0 0 6), .int (x1), .int (x2)] σ (Qi r) := Ct.of (by decide +kernel) (Nat.le_of_ble_eq_true rfl) (zb_X8_wordKind h)
def F_X8_cutWord_102 (x4 : Int32) (σ : Mm) : Option (Int32 × Mm) := some (x4, σ)
set_option maxRecDepth 20000 in
theorem zb_X8_cutWord_102 {S : Shp} {x4 : Int32} {σ : Mm} {r : Int32 × Mm} (h : F_X8_cutWord_102 x4 σ = some r) : Z m_X8_cutWord S (Qi r) 102 [(4, .int (x4))] [] σ := by
  unfold F_X8_cutWord_102 at h
  refine z_iload dX8_cutWord_102 0 rfl ?_
  cases h
  exact z_ireturn dX8_cutWord_104 rfl rfl ⟨rfl, rfl⟩
def F_X8_cutWord_92 (x2 : Int64) (x4 : Int32) (σ : Mm) : Option (Int32 × Mm) := (if inb (mA σ 0 0 6 2) 402 = true then (F_X8_cutWord_102 x4 (setL σ 0 0 11 (vp_updL (mL σ 0 0 11) (mA σ 0 0 6 2).toNatClampNeg x2))) else none)
set_option maxRecDepth 20000 in
theorem zb_X8_cutWord_92 {S : Shp} {x2 : Int64} {x4 : Int32} {σ : Mm} {r : Int32 × Mm} (h : F_X8_cutWord_92 x2 x4 σ = some r) : Z m_X8_cutWord S (Qi r) 92 [(0, .ref (sL S 0 0 6)), (2, .long (x2)), (4, .int (x4))] [] σ := by
  unfold F_X8_cutWord_92 at h
  obtain ⟨g2, h⟩ := gd h
  refine z_aload_n dX8_cutWord_92 rfl 0 rfl ?_
  refine gf_8_32 rfl dX8_cutWord_93 ?_
  refine z_aload_n dX8_cutWord_96 rfl 0 rfl ?_
  refine gf_8_19 rfl dX8_cutWord_97 ?_
  refine z_lload_n dX8_cutWord_100 rfl 1 rfl ?_
  refine is_0_11 (inb_in g2) dX8_cutWord_101 ?_
  refine Z.lv [2] rfl ?_
  exact zb_X8_cutWord_102 h
def F_X8_cutWord_91 (x2 : Int64) (x4 : Int32) (s0 : Int32) (s1 : Int32) (σ : Mm) : Option (Int32 × Mm) := (if inb s1 402 = true then (F_X8_cutWord_92 x2 x4 (setA σ 0 0 8 (upd (mA σ 0 0 8) s1.toNatClampNeg s0))) else none)
set_option maxRecDepth 20000 in
theorem zb_X8_cutWord_91 {S : Shp} {x2 : Int64} {x4 : Int32} {s0 : Int32} {s1 : Int32} {σ : Mm} {r : Int32 × Mm} (h : F_X8_cutWord_91 x2 x4 s0 s1 σ = some r) : Z m_X8_cutWord S (Qi r) 91 [(0, .ref (sL S 0 0 6)), (2, .long (x2)), (4, .int (x4))] [.int (s0), .int (s1), .ref (sL S 0 0 8)] σ := by
  unfold F_X8_cutWord_91 at h
  obtain ⟨g1, h⟩ := gd h
  refine is_0_8 (inb_in g1) dX8_cutWord_91 ?_
  exact zb_X8_cutWord_92 h
def F_X8_cutWord_87 (x2 : Int64) (x4 : Int32) (s0 : Int32) (s1 : Int32) (σ : Mm) : Option (Int32 × Mm) := (F_X8_cutWord_91 x2 x4 s0 s1 σ)
set_option maxRecDepth 20000 in
theorem zb_X8_cutWord_87 {S : Shp} {x2 : Int64} {x4 : Int32} {s0 : Int32} {s1 : Int32} {σ : Mm} {r : Int32 × Mm} (h : F_X8_cutWord_87 x2 x4 s0 s1 σ = some r) : Z m_X8_cutWord S (Qi r) 87 [(0, .ref (sL S 0 0 6)), (2, .long (x2)), (4, .int (x4))] [.int (s0), .int (s1), .ref (sL S 0 0 8)] σ := by
  unfold F_X8_cutWord_87 at h
  refine z_goto (tgt := 91) dX8_cutWord_87 (by decide) ?_
  exact zb_X8_cutWord_91 h
def F_X8_cutWord_61 (x1 : Int32) (x2 : Int64) (x4 : Int32) (σ : Mm) : Option (Int32 × Mm) := (if (8 : Int32) < (x4 - x1) then (F_X8_cutWord_91 x2 x4 1 (mA σ 0 0 6 2) σ) else (bnd (F_X8_wordKind x1 (x4 - x1) σ) (fun v τ => (F_X8_cutWord_87 x2 x4 v (mA σ 0 0 6 2) τ))))
set_option maxRecDepth 20000 in
theorem zb_X8_cutWord_61 {S : Shp} {x1 : Int32} {x2 : Int64} {x4 : Int32} {σ : Mm} {r : Int32 × Mm} (h : F_X8_cutWord_61 x1 x2 x4 σ = some r) : Z m_X8_cutWord S (Qi r) 61 [(0, .ref (sL S 0 0 6)), (1, .int (x1)), (2, .long (x2)), (4, .int (x4))] [] σ := by
  unfold F_X8_cutWord_61 at h
  refine z_aload_n dX8_cutWord_61 rfl 0 rfl ?_
  refine gf_8_22 rfl dX8_cutWord_62 ?_
  refine z_aload_n dX8_cutWord_65 rfl 0 rfl ?_
  refine gf_8_19 rfl dX8_cutWord_66 ?_
  refine z_iload dX8_cutWord_69 3 rfl ?_
  refine z_iload_n dX8_cutWord_71 rfl 1 rfl ?_
  refine z_isub dX8_cutWord_72 ?_
  refine z_bipush (v := 8) dX8_cutWord_73 (by decide) ?_
  refine z_icmp_gt (tgt := 90) dX8_cutWord_75 (by decide) (fun q => ?_) (fun q => ?_)
  · have h := (if_pos q).symm.trans h
    refine z_iconst (v := 1) dX8_cutWord_90 (by decide) ?_
    refine Z.lv [0, 2, 3] rfl ?_
    exact zb_X8_cutWord_91 h
  · have h := (if_neg q).symm.trans h
    refine z_aload_n dX8_cutWord_78 rfl 0 rfl ?_
    refine z_iload_n dX8_cutWord_79 rfl 1 rfl ?_
    refine z_iload dX8_cutWord_80 3 rfl ?_
    refine z_iload_n dX8_cutWord_82 rfl 1 rfl ?_
    refine z_isub dX8_cutWord_83 ?_
    obtain ⟨v, τ, hc, h⟩ := bnd_e h
    refine z_callV (M' := m_X8_wordKind) (t := 0) (i := 0) (k := 6) (As := [.int (x1), .int (x4 - x1)]) (rest := [.int (mA σ 0 0 6 2), .ref (sL S 0 0 8)]) kl_8_67 oy_X8_wordKind ⟨Nat.le_of_ble_eq_true rfl, Nat.le_of_ble_eq_true rfl⟩ rfl rfl rfl rfl (Nat.le_of_ble_eq_true rfl) rfl dX8_cutWord_84 (c_X8_wordKind hc) (fun v2 τ2 hq => ?_)
    obtain ⟨rfl, hτ⟩ := hq
    subst τ2
    change Z _ _ _ _ _ [.int (v), .int (mA σ 0 0 6 2), .ref (sL S 0 0 8)] _
    refine Z.lv [0, 2, 3] rfl ?_
    exact zb_X8_cutWord_87 h
def F_X8_cutWord_55 (rc5 : Int32 → Int64 → Int32 → Mm → Option (Int32 × Mm)) (x1 : Int32) (x2 : Int64) (x4 : Int32) (σ : Mm) : Option (Int32 × Mm) := (rc5 x1 x2 (x4 + 1) σ)
set_option maxRecDepth 20000 in
theorem zb_X8_cutWord_55 {S : Shp} {rc5 : Int32 → Int64 → Int32 → Mm → Option (Int32 × Mm)} (hrc5 : ∀ {x1 : Int32} {x2 : Int64} {x4 : Int32} {σ : Mm} {r : Int32 × Mm}, rc5 x1 x2 x4 σ = some r → Z m_X8_cutWord S (Qi r) 5 [(0, .ref (sL S 0 0 6)), (1, .int (x1)), (2, .long (x2)), (4, .int (x4))] [] σ) {x1 : Int32} {x2 : Int64} {x4 : Int32} {σ : Mm} {r : Int32 × Mm} (h : F_X8_cutWord_55 rc5 x1 x2 x4 σ = some r) : Z m_X8_cutWord S (Qi r) 55 [(0, .ref (sL S 0 0 6)), (1, .int (x1)), (2, .long (x2)), (4, .int (x4))] [] σ := by
  unfold F_X8_cutWord_55 at h
  refine z_iinc (j := 3) (v := x4 + 1) (lv' := [(0, .ref (sL S 0 0 6)), (1, .int (x1)), (2, .long (x2)), (4, .int (x4 + 1))]) dX8_cutWord_55 rfl rfl (by decide) [1, 2, 3, 0] rfl ?_
  refine z_goto (tgt := 5) dX8_cutWord_58 (by decide) ?_
  exact hrc5 h
def F_X8_cutWord_46 (rc5 : Int32 → Int64 → Int32 → Mm → Option (Int32 × Mm)) (x1 : Int32) (x4 : Int32) (s0 : Int32) (s1 : Int64) (σ : Mm) : Option (Int32 × Mm) := (F_X8_cutWord_55 rc5 x1 (((s1 + (Int32.toInt64 s0)) - (97 : Int64)) + (1 : Int64)) x4 σ)
set_option maxRecDepth 20000 in
theorem zb_X8_cutWord_46 {S : Shp} {rc5 : Int32 → Int64 → Int32 → Mm → Option (Int32 × Mm)} (hrc5 : ∀ {x1 : Int32} {x2 : Int64} {x4 : Int32} {σ : Mm} {r : Int32 × Mm}, rc5 x1 x2 x4 σ = some r → Z m_X8_cutWord S (Qi r) 5 [(0, .ref (sL S 0 0 6)), (1, .int (x1)), (2, .long (x2)), (4, .int (x4))] [] σ) {x1 : Int32} {x4 : Int32} {s0 : Int32} {s1 : Int64} {σ : Mm} {r : Int32 × Mm} (h : F_X8_cutWord_46 rc5 x1 x4 s0 s1 σ = some r) : Z m_X8_cutWord S (Qi r) 46 [(0, .ref (sL S 0 0 6)), (1, .int (x1)), (4, .int (x4))] [.int (s0), .long (s1)] σ := by
  unfold F_X8_cutWord_46 at h
  refine z_i2l dX8_cutWord_46 ?_
  refine z_ladd dX8_cutWord_47 ?_
  refine z_ldc2 qw_481 dX8_cutWord_48 ?_
  refine z_lsub dX8_cutWord_51 ?_
  refine z_lconst (v := 1) dX8_cutWord_52 (by decide) ?_
  refine z_ladd dX8_cutWord_53 ?_
  refine z_lstore_n (lv' := [(0, .ref (sL S 0 0 6)), (1, .int (x1)), (2, .long (((s1 + (Int32.toInt64 s0)) - (97 : Int64)) + (1 : Int64))), (4, .int (x4))]) dX8_cutWord_54 rfl (by decide) [1, 2, 0, 3] rfl ?_
  exact zb_X8_cutWord_55 hrc5 h
def F_X8_cutWord_20 (rc5 : Int32 → Int64 → Int32 → Mm → Option (Int32 × Mm)) (x1 : Int32) (x2 : Int64) (x4 : Int32) (s0 : Int32) (σ : Mm) : Option (Int32 × Mm) := (if (f_X8_isLetter s0) = 0 then (F_X8_cutWord_61 x1 x2 x4 σ) else (if (8 : Int32) ≤ (x4 - x1) then (F_X8_cutWord_55 rc5 x1 x2 x4 σ) else (bnd (F_X8_sign x4 σ) (fun v τ => (F_X8_cutWord_46 rc5 x1 x4 v ((32 : Int64) * x2) τ)))))
set_option maxRecDepth 20000 in
theorem zb_X8_cutWord_20 {S : Shp} {rc5 : Int32 → Int64 → Int32 → Mm → Option (Int32 × Mm)} (hrc5 : ∀ {x1 : Int32} {x2 : Int64} {x4 : Int32} {σ : Mm} {r : Int32 × Mm}, rc5 x1 x2 x4 σ = some r → Z m_X8_cutWord S (Qi r) 5 [(0, .ref (sL S 0 0 6)), (1, .int (x1)), (2, .long (x2)), (4, .int (x4))] [] σ) {x1 : Int32} {x2 : Int64} {x4 : Int32} {s0 : Int32} {σ : Mm} {r : Int32 × Mm} (h : F_X8_cutWord_20 rc5 x1 x2 x4 s0 σ = some r) : Z m_X8_cutWord S (Qi r) 20 [(0, .ref (sL S 0 0 6)), (1, .int (x1)), (2, .long (x2)), (4, .int (x4))] [.int (s0)] σ := by
  unfold F_X8_cutWord_20 at h
  refine z_callS (M' := m_X8_isLetter) (As := [.int (s0)]) (rest := []) kl_8_46 oy_X8_isLetter ⟨Nat.le_of_ble_eq_true rfl, Nat.le_of_ble_eq_true rfl⟩ rfl (Nat.le_of_ble_eq_true rfl) rfl dX8_cutWord_20 (c_X8_isLetter rfl) (fun v τ hq => ?_)
  obtain ⟨rfl, hτ⟩ := hq
  subst τ
  change Z _ _ _ _ _ [.int (f_X8_isLetter s0)] _
  refine z_if_eq (tgt := 61) dX8_cutWord_23 (by decide) (fun q => ?_) (fun q => ?_)
  · have h := (if_pos q).symm.trans h
    exact zb_X8_cutWord_61 h
  · have h := (if_neg q).symm.trans h
    refine z_iload dX8_cutWord_26 3 rfl ?_
    refine z_iload_n dX8_cutWord_28 rfl 1 rfl ?_
    refine z_isub dX8_cutWord_29 ?_
    refine z_bipush (v := 8) dX8_cutWord_30 (by decide) ?_
    refine z_icmp_ge (tgt := 55) dX8_cutWord_32 (by decide) (fun q => ?_) (fun q => ?_)
    · have h := (if_pos q).symm.trans h
      exact zb_X8_cutWord_55 hrc5 h
    · have h := (if_neg q).symm.trans h
      refine z_ldc2 qw_480 dX8_cutWord_35 ?_
      refine z_lload_n dX8_cutWord_38 rfl 2 rfl ?_
      refine z_lmul dX8_cutWord_39 ?_
      refine z_aload_n dX8_cutWord_40 rfl 0 rfl ?_
      refine z_iload dX8_cutWord_41 3 rfl ?_
      obtain ⟨v, τ, hc, h⟩ := bnd_e h
      refine z_callV (M' := m_X8_sign) (t := 0) (i := 0) (k := 6) (As := [.int (x4)]) (rest := [.long ((32 : Int64) * x2)]) kl_8_43 oy_X8_sign ⟨Nat.le_of_ble_eq_true rfl, Nat.le_of_ble_eq_true rfl⟩ rfl rfl rfl rfl (Nat.le_of_ble_eq_true rfl) rfl dX8_cutWord_43 (c_X8_sign hc) (fun v2 τ2 hq => ?_)
      obtain ⟨rfl, hτ⟩ := hq
      subst τ2
      change Z _ _ _ _ _ [.int (v), .long ((32 : Int64) * x2)] _
      refine Z.lv [0, 1, 3] rfl ?_
      exact zb_X8_cutWord_46 hrc5 h
def B_X8_cutWord_5 (rc5 : Int32 → Int64 → Int32 → Mm → Option (Int32 × Mm)) (x1 : Int32) (x2 : Int64) (x4 : Int32) (σ : Mm) : Option (Int32 × Mm) := (if (mA σ 0 0 6 0) ≤ x4 then (F_X8_cutWord_61 x1 x2 x4 σ) else (bnd (F_X8_sign x4 σ) (fun v τ => (F_X8_cutWord_20 rc5 x1 x2 x4 v τ))))
set_option maxRecDepth 20000 in
theorem zB_X8_cutWord_5 {S : Shp} {rc5 : Int32 → Int64 → Int32 → Mm → Option (Int32 × Mm)} (hrc5 : ∀ {x1 : Int32} {x2 : Int64} {x4 : Int32} {σ : Mm} {r : Int32 × Mm}, rc5 x1 x2 x4 σ = some r → Z m_X8_cutWord S (Qi r) 5 [(0, .ref (sL S 0 0 6)), (1, .int (x1)), (2, .long (x2)), (4, .int (x4))] [] σ) {x1 : Int32} {x2 : Int64} {x4 : Int32} {σ : Mm} {r : Int32 × Mm} (h : B_X8_cutWord_5 rc5 x1 x2 x4 σ = some r) : Z m_X8_cutWord S (Qi r) 5 [(0, .ref (sL S 0 0 6)), (1, .int (x1)), (2, .long (x2)), (4, .int (x4))] [] σ := by
  unfold B_X8_cutWord_5 at h
  refine z_iload dX8_cutWord_5 3 rfl ?_
  refine z_aload_n dX8_cutWord_7 rfl 0 rfl ?_
  refine gf_8_9 rfl dX8_cutWord_8 ?_
  refine z_icmp_ge (tgt := 61) dX8_cutWord_11 (by decide) (fun q => ?_) (fun q => ?_)
  · have h := (if_pos q).symm.trans h
    exact zb_X8_cutWord_61 h
  · have h := (if_neg q).symm.trans h
    refine z_aload_n dX8_cutWord_14 rfl 0 rfl ?_
    refine z_iload dX8_cutWord_15 3 rfl ?_
    obtain ⟨v, τ, hc, h⟩ := bnd_e h
    refine z_callV (M' := m_X8_sign) (t := 0) (i := 0) (k := 6) (As := [.int (x4)]) (rest := []) kl_8_43 oy_X8_sign ⟨Nat.le_of_ble_eq_true rfl, Nat.le_of_ble_eq_true rfl⟩ rfl rfl rfl rfl (Nat.le_of_ble_eq_true rfl) rfl dX8_cutWord_17 (c_X8_sign hc) (fun v2 τ2 hq => ?_)
    obtain ⟨rfl, hτ⟩ := hq
    subst τ2
    change Z _ _ _ _ _ [.int (v)] _
    exact zb_X8_cutWord_20 hrc5 h
def F_X8_cutWord_5 : Nat → Int32 → Int64 → Int32 → Mm → Option (Int32 × Mm)
  | 0 => fun _ _ _ _ => none
  | n + 1 => B_X8_cutWord_5 (F_X8_cutWord_5 n)
theorem zl_X8_cutWord_5 {S : Shp} : ∀ (nn : Nat) {x1 : Int32} {x2 : Int64} {x4 : Int32} {σ : Mm} {r : Int32 × Mm}, F_X8_cutWord_5 nn x1 x2 x4 σ = some r → Z m_X8_cutWord S (Qi r) 5 [(0, .ref (sL S 0 0 6)), (1, .int (x1)), (2, .long (x2)), (4, .int (x4))] [] σ := by
  intro nn
  induction nn with
  | zero => intro x1 x2 x4 σ r h; cases h
  | succ nn ih => intro x1 x2 x4 σ r h; exact zB_X8_cutWord_5 @ih h
def F_X8_cutWord (x1 : Int32) (σ : Mm) : Option (Int32 × Mm) := (F_X8_cutWord_5 FU x1 0 x1 σ)
set_option maxRecDepth 20000 in
theorem zb_X8_cutWord {S : Shp} {x1 : Int32} {σ : Mm} {r : Int32 × Mm} (h : F_X8_cutWord x1 σ = some r) : Z m_X8_cutWord S (Qi r) 0 [(0, .ref (sL S 0 0 6)), (1, .int (x1))] [] σ := by
  unfold F_X8_cutWord at h
  refine z_lconst (v := 0) dX8_cutWord_0 (by decide) ?_
  refine z_lstore_n (lv' := [(0, .ref (sL S 0 0 6)), (1, .int (x1)), (2, .long (0))]) dX8_cutWord_1 rfl (by decide) [1, 2, 0] rfl ?_
  refine z_iload_n dX8_cutWord_2 rfl 1 rfl ?_
  refine z_istore (lv' := [(0, .ref (sL S 0 0 6)), (1, .int (x1)), (2, .long (0)), (4, .int (x1))]) dX8_cutWord_3 (by decide) [1, 2, 3, 0] rfl ?_
  exact zl_X8_cutWord_5 FU h
/-- SkyStones$Tape.cutWord(I)I -/
theorem c_X8_cutWord {S : Shp} {x1 : Int32} {σ : Mm} {r : Int32 × Mm} (h : F_X8_cutWord x1 σ = some r) : Ct m_X8_cutWord S [.ref (sL S 0 0 6), .int (x1)] σ (Qi r) := Ct.of (by decide +kernel) (Nat.le_of_ble_eq_true rfl) (zb_X8_cutWord h)
def f_X8_signKind (x0 : Int32) (x1 : Int32) : Int32 := (if x0 = 33 then (if x1 = 0 then 1 else 11) else (if x0 = 34 then 1 else (if x0 = 35 then 1 else (if x0 = 36 then 1 else (if x0 = 37 then 1 else (if x0 = 38 then 1 else (if x0 = 39 then 1 else (if x0 = 40 then 14 else (if x0 = 41 then 15 else (if x0 = 42 then 8 else (if x0 = 43 then 6 else (if x0 = 44 then 1 else (if x0 = 45 then 7 else (if x0 = 46 then 1 else (if x0 = 47 then 9 else (if x0 = 48 then 1 else (if x0 = 49 then 1 else (if x0 = 50 then 1 else (if x0 = 51 then 1 else (if x0 = 52 then 1 else (if x0 = 53 then 1 else (if x0 = 54 then 1 else (if x0 = 55 then 1 else (if x0 = 56 then 1 else (if x0 = 57 then 1 else (if x0 = 58 then 1 else (if x0 = 59 then 4 else (if x0 = 60 then (if x1 = 0 then 12 else 13) else (if x0 = 61 then (if x1 = 0 then 5 else 10) else 1)))))))))))))))))))))))))))))
set_option maxRecDepth 20000 in
theorem zb_X8_signKind {S : Shp} {x0 : Int32} {x1 : Int32} {σ : Mm} {r : Int32} (h : f_X8_signKind x0 x1 = r) : Z m_X8_signKind S (Qi (r, σ)) 0 [(0, .int (x0)), (1, .int (x1))] [] σ := by
  unfold f_X8_signKind at h
  refine z_iload_n dX8_signKind_0 rfl 0 rfl ?_
  by_cases g1 : x0 = 33
  · have h := (if_pos g1).symm.trans h
    refine z_tableIn (tgt := 157) (off := 156) dX8_signKind_1 (by rw [g1]; decide) (by rw [g1]; decide) (by rw [g1]; rfl) (by decide) ?_
    refine z_iload_n dX8_signKind_157 rfl 1 rfl ?_
    refine z_if_eq (tgt := 166) dX8_signKind_158 (by decide) (fun q => ?_) (fun q => ?_)
    · have h := (if_pos q).symm.trans h
      refine z_iconst (v := 1) dX8_signKind_166 (by decide) ?_
      subst h
      exact z_ireturn dX8_signKind_167 rfl rfl ⟨rfl, rfl⟩
    · have h := (if_neg q).symm.trans h
      refine z_bipush (v := 11) dX8_signKind_161 (by decide) ?_
      refine z_goto (tgt := 167) dX8_signKind_163 (by decide) ?_
      subst h
      exact z_ireturn dX8_signKind_167 rfl rfl ⟨rfl, rfl⟩
  · have h := (if_neg g1).symm.trans h
    by_cases g2 : x0 = 34
    · have h := (if_pos g2).symm.trans h
      refine z_tableIn (tgt := 186) (off := 185) dX8_signKind_1 (by rw [g2]; decide) (by rw [g2]; decide) (by rw [g2]; rfl) (by decide) ?_
      refine z_iconst (v := 1) dX8_signKind_186 (by decide) ?_
      subst h
      exact z_ireturn dX8_signKind_187 rfl rfl ⟨rfl, rfl⟩
    · have h := (if_neg g2).symm.trans h
      by_cases g3 : x0 = 35
      · have h := (if_pos g3).symm.trans h
        refine z_tableIn (tgt := 186) (off := 185) dX8_signKind_1 (by rw [g3]; decide) (by rw [g3]; decide) (by rw [g3]; rfl) (by decide) ?_
        refine z_iconst (v := 1) dX8_signKind_186 (by decide) ?_
        subst h
        exact z_ireturn dX8_signKind_187 rfl rfl ⟨rfl, rfl⟩
      · have h := (if_neg g3).symm.trans h
        by_cases g4 : x0 = 36
        · have h := (if_pos g4).symm.trans h
          refine z_tableIn (tgt := 186) (off := 185) dX8_signKind_1 (by rw [g4]; decide) (by rw [g4]; decide) (by rw [g4]; rfl) (by decide) ?_
          refine z_iconst (v := 1) dX8_signKind_186 (by decide) ?_
          subst h
          exact z_ireturn dX8_signKind_187 rfl rfl ⟨rfl, rfl⟩
        · have h := (if_neg g4).symm.trans h
          by_cases g5 : x0 = 37
          · have h := (if_pos g5).symm.trans h
            refine z_tableIn (tgt := 186) (off := 185) dX8_signKind_1 (by rw [g5]; decide) (by rw [g5]; decide) (by rw [g5]; rfl) (by decide) ?_
            refine z_iconst (v := 1) dX8_signKind_186 (by decide) ?_
            subst h
            exact z_ireturn dX8_signKind_187 rfl rfl ⟨rfl, rfl⟩
          · have h := (if_neg g5).symm.trans h
            by_cases g6 : x0 = 38
            · have h := (if_pos g6).symm.trans h
              refine z_tableIn (tgt := 186) (off := 185) dX8_signKind_1 (by rw [g6]; decide) (by rw [g6]; decide) (by rw [g6]; rfl) (by decide) ?_
              refine z_iconst (v := 1) dX8_signKind_186 (by decide) ?_
              subst h
              exact z_ireturn dX8_signKind_187 rfl rfl ⟨rfl, rfl⟩
            · have h := (if_neg g6).symm.trans h
              by_cases g7 : x0 = 39
              · have h := (if_pos g7).symm.trans h
                refine z_tableIn (tgt := 186) (off := 185) dX8_signKind_1 (by rw [g7]; decide) (by rw [g7]; decide) (by rw [g7]; rfl) (by decide) ?_
                refine z_iconst (v := 1) dX8_signKind_186 (by decide) ?_
                subst h
                exact z_ireturn dX8_signKind_187 rfl rfl ⟨rfl, rfl⟩
              · have h := (if_neg g7).symm.trans h
                by_cases g8 : x0 = 40
                · have h := (if_pos g8).symm.trans h
                  refine z_tableIn (tgt := 180) (off := 179) dX8_signKind_1 (by rw [g8]; decide) (by rw [g8]; decide) (by rw [g8]; rfl) (by decide) ?_
                  refine z_bipush (v := 14) dX8_signKind_180 (by decide) ?_
                  subst h
                  exact z_ireturn dX8_signKind_182 rfl rfl ⟨rfl, rfl⟩
                · have h := (if_neg g8).symm.trans h
                  by_cases g9 : x0 = 41
                  · have h := (if_pos g9).symm.trans h
                    refine z_tableIn (tgt := 183) (off := 182) dX8_signKind_1 (by rw [g9]; decide) (by rw [g9]; decide) (by rw [g9]; rfl) (by decide) ?_
                    refine z_bipush (v := 15) dX8_signKind_183 (by decide) ?_
                    subst h
                    exact z_ireturn dX8_signKind_185 rfl rfl ⟨rfl, rfl⟩
                  · have h := (if_neg g9).symm.trans h
                    by_cases g10 : x0 = 42
                    · have h := (if_pos g10).symm.trans h
                      refine z_tableIn (tgt := 151) (off := 150) dX8_signKind_1 (by rw [g10]; decide) (by rw [g10]; decide) (by rw [g10]; rfl) (by decide) ?_
                      refine z_bipush (v := 8) dX8_signKind_151 (by decide) ?_
                      subst h
                      exact z_ireturn dX8_signKind_153 rfl rfl ⟨rfl, rfl⟩
                    · have h := (if_neg g10).symm.trans h
                      by_cases g11 : x0 = 43
                      · have h := (if_pos g11).symm.trans h
                        refine z_tableIn (tgt := 145) (off := 144) dX8_signKind_1 (by rw [g11]; decide) (by rw [g11]; decide) (by rw [g11]; rfl) (by decide) ?_
                        refine z_bipush (v := 6) dX8_signKind_145 (by decide) ?_
                        subst h
                        exact z_ireturn dX8_signKind_147 rfl rfl ⟨rfl, rfl⟩
                      · have h := (if_neg g11).symm.trans h
                        by_cases g12 : x0 = 44
                        · have h := (if_pos g12).symm.trans h
                          refine z_tableIn (tgt := 186) (off := 185) dX8_signKind_1 (by rw [g12]; decide) (by rw [g12]; decide) (by rw [g12]; rfl) (by decide) ?_
                          refine z_iconst (v := 1) dX8_signKind_186 (by decide) ?_
                          subst h
                          exact z_ireturn dX8_signKind_187 rfl rfl ⟨rfl, rfl⟩
                        · have h := (if_neg g12).symm.trans h
                          by_cases g13 : x0 = 45
                          · have h := (if_pos g13).symm.trans h
                            refine z_tableIn (tgt := 148) (off := 147) dX8_signKind_1 (by rw [g13]; decide) (by rw [g13]; decide) (by rw [g13]; rfl) (by decide) ?_
                            refine z_bipush (v := 7) dX8_signKind_148 (by decide) ?_
                            subst h
                            exact z_ireturn dX8_signKind_150 rfl rfl ⟨rfl, rfl⟩
                          · have h := (if_neg g13).symm.trans h
                            by_cases g14 : x0 = 46
                            · have h := (if_pos g14).symm.trans h
                              refine z_tableIn (tgt := 186) (off := 185) dX8_signKind_1 (by rw [g14]; decide) (by rw [g14]; decide) (by rw [g14]; rfl) (by decide) ?_
                              refine z_iconst (v := 1) dX8_signKind_186 (by decide) ?_
                              subst h
                              exact z_ireturn dX8_signKind_187 rfl rfl ⟨rfl, rfl⟩
                            · have h := (if_neg g14).symm.trans h
                              by_cases g15 : x0 = 47
                              · have h := (if_pos g15).symm.trans h
                                refine z_tableIn (tgt := 154) (off := 153) dX8_signKind_1 (by rw [g15]; decide) (by rw [g15]; decide) (by rw [g15]; rfl) (by decide) ?_
                                refine z_bipush (v := 9) dX8_signKind_154 (by decide) ?_
                                subst h
                                exact z_ireturn dX8_signKind_156 rfl rfl ⟨rfl, rfl⟩
                              · have h := (if_neg g15).symm.trans h
                                by_cases g16 : x0 = 48
                                · have h := (if_pos g16).symm.trans h
                                  refine z_tableIn (tgt := 186) (off := 185) dX8_signKind_1 (by rw [g16]; decide) (by rw [g16]; decide) (by rw [g16]; rfl) (by decide) ?_
                                  refine z_iconst (v := 1) dX8_signKind_186 (by decide) ?_
                                  subst h
                                  exact z_ireturn dX8_signKind_187 rfl rfl ⟨rfl, rfl⟩
                                · have h := (if_neg g16).symm.trans h
                                  by_cases g17 : x0 = 49
                                  · have h := (if_pos g17).symm.trans h
                                    refine z_tableIn (tgt := 186) (off := 185) dX8_signKind_1 (by rw [g17]; decide) (by rw [g17]; decide) (by rw [g17]; rfl) (by decide) ?_
                                    refine z_iconst (v := 1) dX8_signKind_186 (by decide) ?_
                                    subst h
                                    exact z_ireturn dX8_signKind_187 rfl rfl ⟨rfl, rfl⟩
                                  · have h := (if_neg g17).symm.trans h
                                    by_cases g18 : x0 = 50
                                    · have h := (if_pos g18).symm.trans h
                                      refine z_tableIn (tgt := 186) (off := 185) dX8_signKind_1 (by rw [g18]; decide) (by rw [g18]; decide) (by rw [g18]; rfl) (by decide) ?_
                                      refine z_iconst (v := 1) dX8_signKind_186 (by decide) ?_
                                      subst h
                                      exact z_ireturn dX8_signKind_187 rfl rfl ⟨rfl, rfl⟩
                                    · have h := (if_neg g18).symm.trans h
                                      by_cases g19 : x0 = 51
                                      · have h := (if_pos g19).symm.trans h
                                        refine z_tableIn (tgt := 186) (off := 185) dX8_signKind_1 (by rw [g19]; decide) (by rw [g19]; decide) (by rw [g19]; rfl) (by decide) ?_
                                        refine z_iconst (v := 1) dX8_signKind_186 (by decide) ?_
                                        subst h
                                        exact z_ireturn dX8_signKind_187 rfl rfl ⟨rfl, rfl⟩
                                      · have h := (if_neg g19).symm.trans h
                                        by_cases g20 : x0 = 52
                                        · have h := (if_pos g20).symm.trans h
                                          refine z_tableIn (tgt := 186) (off := 185) dX8_signKind_1 (by rw [g20]; decide) (by rw [g20]; decide) (by rw [g20]; rfl) (by decide) ?_
                                          refine z_iconst (v := 1) dX8_signKind_186 (by decide) ?_
                                          subst h
                                          exact z_ireturn dX8_signKind_187 rfl rfl ⟨rfl, rfl⟩
                                        · have h := (if_neg g20).symm.trans h
                                          by_cases g21 : x0 = 53
                                          · have h := (if_pos g21).symm.trans h
                                            refine z_tableIn (tgt := 186) (off := 185) dX8_signKind_1 (by rw [g21]; decide) (by rw [g21]; decide) (by rw [g21]; rfl) (by decide) ?_
                                            refine z_iconst (v := 1) dX8_signKind_186 (by decide) ?_
                                            subst h
                                            exact z_ireturn dX8_signKind_187 rfl rfl ⟨rfl, rfl⟩
                                          · have h := (if_neg g21).symm.trans h
                                            by_cases g22 : x0 = 54
                                            · have h := (if_pos g22).symm.trans h
                                              refine z_tableIn (tgt := 186) (off := 185) dX8_signKind_1 (by rw [g22]; decide) (by rw [g22]; decide) (by rw [g22]; rfl) (by decide) ?_
                                              refine z_iconst (v := 1) dX8_signKind_186 (by decide) ?_
                                              subst h
                                              exact z_ireturn dX8_signKind_187 rfl rfl ⟨rfl, rfl⟩
                                            · have h := (if_neg g22).symm.trans h
                                              by_cases g23 : x0 = 55
                                              · have h := (if_pos g23).symm.trans h
                                                refine z_tableIn (tgt := 186) (off := 185) dX8_signKind_1 (by rw [g23]; decide) (by rw [g23]; decide) (by rw [g23]; rfl) (by decide) ?_
                                                refine z_iconst (v := 1) dX8_signKind_186 (by decide) ?_
                                                subst h
                                                exact z_ireturn dX8_signKind_187 rfl rfl ⟨rfl, rfl⟩
                                              · have h := (if_neg g23).symm.trans h
                                                by_cases g24 : x0 = 56
                                                · have h := (if_pos g24).symm.trans h
                                                  refine z_tableIn (tgt := 186) (off := 185) dX8_signKind_1 (by rw [g24]; decide) (by rw [g24]; decide) (by rw [g24]; rfl) (by decide) ?_
                                                  refine z_iconst (v := 1) dX8_signKind_186 (by decide) ?_
                                                  subst h
                                                  exact z_ireturn dX8_signKind_187 rfl rfl ⟨rfl, rfl⟩
                                                · have h := (if_neg g24).symm.trans h
                                                  by_cases g25 : x0 = 57
                                                  · have h := (if_pos g25).symm.trans h
                                                    refine z_tableIn (tgt := 186) (off := 185) dX8_signKind_1 (by rw [g25]; decide) (by rw [g25]; decide) (by rw [g25]; rfl) (by decide) ?_
                                                    refine z_iconst (v := 1) dX8_signKind_186 (by decide) ?_
                                                    subst h
                                                    exact z_ireturn dX8_signKind_187 rfl rfl ⟨rfl, rfl⟩
                                                  · have h := (if_neg g25).symm.trans h
                                                    by_cases g26 : x0 = 58
                                                    · have h := (if_pos g26).symm.trans h
                                                      refine z_tableIn (tgt := 186) (off := 185) dX8_signKind_1 (by rw [g26]; decide) (by rw [g26]; decide) (by rw [g26]; rfl) (by decide) ?_
                                                      refine z_iconst (v := 1) dX8_signKind_186 (by decide) ?_
                                                      subst h
                                                      exact z_ireturn dX8_signKind_187 rfl rfl ⟨rfl, rfl⟩
                                                    · have h := (if_neg g26).symm.trans h
                                                      by_cases g27 : x0 = 59
                                                      · have h := (if_pos g27).symm.trans h
                                                        refine z_tableIn (tgt := 132) (off := 131) dX8_signKind_1 (by rw [g27]; decide) (by rw [g27]; decide) (by rw [g27]; rfl) (by decide) ?_
                                                        refine z_iconst (v := 4) dX8_signKind_132 (by decide) ?_
                                                        subst h
                                                        exact z_ireturn dX8_signKind_133 rfl rfl ⟨rfl, rfl⟩
                                                      · have h := (if_neg g27).symm.trans h
                                                        by_cases g28 : x0 = 60
                                                        · have h := (if_pos g28).symm.trans h
                                                          refine z_tableIn (tgt := 168) (off := 167) dX8_signKind_1 (by rw [g28]; decide) (by rw [g28]; decide) (by rw [g28]; rfl) (by decide) ?_
                                                          refine z_iload_n dX8_signKind_168 rfl 1 rfl ?_
                                                          refine z_if_eq (tgt := 177) dX8_signKind_169 (by decide) (fun q => ?_) (fun q => ?_)
                                                          · have h := (if_pos q).symm.trans h
                                                            refine z_bipush (v := 12) dX8_signKind_177 (by decide) ?_
                                                            subst h
                                                            exact z_ireturn dX8_signKind_179 rfl rfl ⟨rfl, rfl⟩
                                                          · have h := (if_neg q).symm.trans h
                                                            refine z_bipush (v := 13) dX8_signKind_172 (by decide) ?_
                                                            refine z_goto (tgt := 179) dX8_signKind_174 (by decide) ?_
                                                            subst h
                                                            exact z_ireturn dX8_signKind_179 rfl rfl ⟨rfl, rfl⟩
                                                        · have h := (if_neg g28).symm.trans h
                                                          by_cases g29 : x0 = 61
                                                          · have h := (if_pos g29).symm.trans h
                                                            refine z_tableIn (tgt := 134) (off := 133) dX8_signKind_1 (by rw [g29]; decide) (by rw [g29]; decide) (by rw [g29]; rfl) (by decide) ?_
                                                            refine z_iload_n dX8_signKind_134 rfl 1 rfl ?_
                                                            refine z_if_eq (tgt := 143) dX8_signKind_135 (by decide) (fun q => ?_) (fun q => ?_)
                                                            · have h := (if_pos q).symm.trans h
                                                              refine z_iconst (v := 5) dX8_signKind_143 (by decide) ?_
                                                              subst h
                                                              exact z_ireturn dX8_signKind_144 rfl rfl ⟨rfl, rfl⟩
                                                            · have h := (if_neg q).symm.trans h
                                                              refine z_bipush (v := 10) dX8_signKind_138 (by decide) ?_
                                                              refine z_goto (tgt := 144) dX8_signKind_140 (by decide) ?_
                                                              subst h
                                                              exact z_ireturn dX8_signKind_144 rfl rfl ⟨rfl, rfl⟩
                                                          · have h := (if_neg g29).symm.trans h
                                                            refine z_tableOut (tgt := 186) dX8_signKind_1 (by have eg1 := nei (n := 33) (by decide) g1; have eg2 := nei (n := 34) (by decide) g2; have eg3 := nei (n := 35) (by decide) g3; have eg4 := nei (n := 36) (by decide) g4; have eg5 := nei (n := 37) (by decide) g5; have eg6 := nei (n := 38) (by decide) g6; have eg7 := nei (n := 39) (by decide) g7; have eg8 := nei (n := 40) (by decide) g8; have eg9 := nei (n := 41) (by decide) g9; have eg10 := nei (n := 42) (by decide) g10; have eg11 := nei (n := 43) (by decide) g11; have eg12 := nei (n := 44) (by decide) g12; have eg13 := nei (n := 45) (by decide) g13; have eg14 := nei (n := 46) (by decide) g14; have eg15 := nei (n := 47) (by decide) g15; have eg16 := nei (n := 48) (by decide) g16; have eg17 := nei (n := 49) (by decide) g17; have eg18 := nei (n := 50) (by decide) g18; have eg19 := nei (n := 51) (by decide) g19; have eg20 := nei (n := 52) (by decide) g20; have eg21 := nei (n := 53) (by decide) g21; have eg22 := nei (n := 54) (by decide) g22; have eg23 := nei (n := 55) (by decide) g23; have eg24 := nei (n := 56) (by decide) g24; have eg25 := nei (n := 57) (by decide) g25; have eg26 := nei (n := 58) (by decide) g26; have eg27 := nei (n := 59) (by decide) g27; have eg28 := nei (n := 60) (by decide) g28; have eg29 := nei (n := 61) (by decide) g29; omega) (by decide) ?_
                                                            refine z_iconst (v := 1) dX8_signKind_186 (by decide) ?_
                                                            subst h
                                                            exact z_ireturn dX8_signKind_187 rfl rfl ⟨rfl, rfl⟩
/-- SkyStones$Tape.signKind(IZ)I -/
theorem c_X8_signKind {S : Shp} {x0 : Int32} {x1 : Int32} {σ : Mm} {r : Int32} (h : f_X8_signKind x0 x1 = r) : Ct m_X8_signKind S [.int (x0), .int (x1)] σ (Qi (r, σ)) := Ct.of (by decide +kernel) (Nat.le_of_ble_eq_true rfl) (zb_X8_signKind h)
def F_X8_cutOne_115 (x1 : Int32) (s0 : Int32) (σ : Mm) : Option (Int32 × Mm) := (if s0 = 0 then some (x1 + (1 : Int32), σ) else some (x1 + (2 : Int32), σ))
set_option maxRecDepth 20000 in
theorem zb_X8_cutOne_115 {S : Shp} {x1 : Int32} {s0 : Int32} {σ : Mm} {r : Int32 × Mm} (h : F_X8_cutOne_115 x1 s0 σ = some r) : Z m_X8_cutOne S (Qi r) 115 [(1, .int (x1))] [.int (s0)] σ := by
  unfold F_X8_cutOne_115 at h
  refine z_istore_n (lv' := [(1, .int (x1)), (2, .int (s0))]) dX8_cutOne_115 rfl (by decide) [1, 0] rfl ?_
  refine z_iload_n dX8_cutOne_116 rfl 1 rfl ?_
  refine z_if_eq (tgt := 126) dX8_cutOne_117 (by decide) (fun q => ?_) (fun q => ?_)
  · have h := (if_pos q).symm.trans h
    refine z_iload_n dX8_cutOne_126 rfl 0 rfl ?_
    refine z_iconst (v := 1) dX8_cutOne_127 (by decide) ?_
    refine z_iadd dX8_cutOne_128 ?_
    cases h
    exact z_ireturn dX8_cutOne_129 rfl rfl ⟨rfl, rfl⟩
  · have h := (if_neg q).symm.trans h
    refine z_iload_n dX8_cutOne_120 rfl 0 rfl ?_
    refine z_iconst (v := 2) dX8_cutOne_121 (by decide) ?_
    refine z_iadd dX8_cutOne_122 ?_
    refine z_goto (tgt := 129) dX8_cutOne_123 (by decide) ?_
    cases h
    exact z_ireturn dX8_cutOne_129 rfl rfl ⟨rfl, rfl⟩
def F_X8_cutOne_110 (x1 : Int32) (σ : Mm) : Option (Int32 × Mm) := (F_X8_cutOne_115 x1 1 σ)
set_option maxRecDepth 20000 in
theorem zb_X8_cutOne_110 {S : Shp} {x1 : Int32} {σ : Mm} {r : Int32 × Mm} (h : F_X8_cutOne_110 x1 σ = some r) : Z m_X8_cutOne S (Qi r) 110 [(1, .int (x1))] [] σ := by
  unfold F_X8_cutOne_110 at h
  refine z_iconst (v := 1) dX8_cutOne_110 (by decide) ?_
  refine z_goto (tgt := 115) dX8_cutOne_111 (by decide) ?_
  exact zb_X8_cutOne_115 h
def F_X8_cutOne_68 (x1 : Int32) (σ : Mm) : Option (Int32 × Mm) := (if inb (mA σ 0 0 6 2) 402 = true then (if (mA σ 0 0 8 (mA σ 0 0 6 2).toNatClampNeg) = (10 : Int32) then (F_X8_cutOne_110 x1 σ) else (if inb (mA σ 0 0 6 2) 402 = true then (if (mA σ 0 0 8 (mA σ 0 0 6 2).toNatClampNeg) = (11 : Int32) then (F_X8_cutOne_110 x1 σ) else (if inb (mA σ 0 0 6 2) 402 = true then (if (mA σ 0 0 8 (mA σ 0 0 6 2).toNatClampNeg) = (13 : Int32) then (F_X8_cutOne_110 x1 σ) else (F_X8_cutOne_115 x1 0 σ)) else none)) else none)) else none)
set_option maxRecDepth 20000 in
theorem zb_X8_cutOne_68 {S : Shp} {x1 : Int32} {σ : Mm} {r : Int32 × Mm} (h : F_X8_cutOne_68 x1 σ = some r) : Z m_X8_cutOne S (Qi r) 68 [(0, .ref (sL S 0 0 6)), (1, .int (x1))] [] σ := by
  unfold F_X8_cutOne_68 at h
  obtain ⟨g2, h⟩ := gd h
  refine z_aload_n dX8_cutOne_68 rfl 0 rfl ?_
  refine gf_8_22 rfl dX8_cutOne_69 ?_
  refine z_aload_n dX8_cutOne_72 rfl 0 rfl ?_
  refine gf_8_19 rfl dX8_cutOne_73 ?_
  refine ia_0_8 (inb_in g2) dX8_cutOne_76 ?_
  refine z_bipush (v := 10) dX8_cutOne_77 (by decide) ?_
  refine z_icmp_eq (tgt := 110) dX8_cutOne_79 (by decide) (fun q => ?_) (fun q => ?_)
  · have h := (if_pos q).symm.trans h
    refine Z.lv [1] rfl ?_
    exact zb_X8_cutOne_110 h
  · have h := (if_neg q).symm.trans h
    obtain ⟨g3, h⟩ := gd h
    refine z_aload_n dX8_cutOne_82 rfl 0 rfl ?_
    refine gf_8_22 rfl dX8_cutOne_83 ?_
    refine z_aload_n dX8_cutOne_86 rfl 0 rfl ?_
    refine gf_8_19 rfl dX8_cutOne_87 ?_
    refine ia_0_8 (inb_in g3) dX8_cutOne_90 ?_
    refine z_bipush (v := 11) dX8_cutOne_91 (by decide) ?_
    refine z_icmp_eq (tgt := 110) dX8_cutOne_93 (by decide) (fun q => ?_) (fun q => ?_)
    · have h := (if_pos q).symm.trans h
      refine Z.lv [1] rfl ?_
      exact zb_X8_cutOne_110 h
    · have h := (if_neg q).symm.trans h
      obtain ⟨g4, h⟩ := gd h
      refine z_aload_n dX8_cutOne_96 rfl 0 rfl ?_
      refine gf_8_22 rfl dX8_cutOne_97 ?_
      refine z_aload_n dX8_cutOne_100 rfl 0 rfl ?_
      refine gf_8_19 rfl dX8_cutOne_101 ?_
      refine ia_0_8 (inb_in g4) dX8_cutOne_104 ?_
      refine z_bipush (v := 13) dX8_cutOne_105 (by decide) ?_
      refine z_icmp_ne (tgt := 114) dX8_cutOne_107 (by decide) (fun q => ?_) (fun q => ?_)
      · have h := (if_neg q).symm.trans h
        refine z_iconst (v := 0) dX8_cutOne_114 (by decide) ?_
        refine Z.lv [1] rfl ?_
        exact zb_X8_cutOne_115 h
      · have h := (if_pos q).symm.trans h
        refine Z.lv [1] rfl ?_
        exact zb_X8_cutOne_110 h
def F_X8_cutOne_64 (x1 : Int32) (s0 : Int32) (s1 : Int32) (s2 : Int32) (σ : Mm) : Option (Int32 × Mm) := (if inb s2 402 = true then (F_X8_cutOne_68 x1 (setA σ 0 0 8 (upd (mA σ 0 0 8) s2.toNatClampNeg (f_X8_signKind s1 s0)))) else none)
set_option maxRecDepth 20000 in
theorem zb_X8_cutOne_64 {S : Shp} {x1 : Int32} {s0 : Int32} {s1 : Int32} {s2 : Int32} {σ : Mm} {r : Int32 × Mm} (h : F_X8_cutOne_64 x1 s0 s1 s2 σ = some r) : Z m_X8_cutOne S (Qi r) 64 [(0, .ref (sL S 0 0 6)), (1, .int (x1))] [.int (s0), .int (s1), .int (s2), .ref (sL S 0 0 8)] σ := by
  unfold F_X8_cutOne_64 at h
  obtain ⟨g1, h⟩ := gd h
  refine z_callS (M' := m_X8_signKind) (As := [.int (s1), .int (s0)]) (rest := [.int (s2), .ref (sL S 0 0 8)]) kl_8_59 oy_X8_signKind ⟨Nat.le_of_ble_eq_true rfl, Nat.le_of_ble_eq_true rfl⟩ rfl (Nat.le_of_ble_eq_true rfl) rfl dX8_cutOne_64 (c_X8_signKind rfl) (fun v τ hq => ?_)
  obtain ⟨rfl, hτ⟩ := hq
  subst τ
  change Z _ _ _ _ _ [.int (f_X8_signKind s1 s0), .int (s2), .ref (sL S 0 0 8)] _
  refine is_0_8 (inb_in g1) dX8_cutOne_67 ?_
  exact zb_X8_cutOne_68 h
def F_X8_cutOne_54 (x1 : Int32) (s0 : Int32) (s1 : Int32) (s2 : Int32) (σ : Mm) : Option (Int32 × Mm) := (if s0 = (61 : Int32) then (F_X8_cutOne_64 x1 1 s1 s2 σ) else (F_X8_cutOne_64 x1 0 s1 s2 σ))
set_option maxRecDepth 20000 in
theorem zb_X8_cutOne_54 {S : Shp} {x1 : Int32} {s0 : Int32} {s1 : Int32} {s2 : Int32} {σ : Mm} {r : Int32 × Mm} (h : F_X8_cutOne_54 x1 s0 s1 s2 σ = some r) : Z m_X8_cutOne S (Qi r) 54 [(0, .ref (sL S 0 0 6)), (1, .int (x1))] [.int (s0), .int (s1), .int (s2), .ref (sL S 0 0 8)] σ := by
  unfold F_X8_cutOne_54 at h
  refine z_bipush (v := 61) dX8_cutOne_54 (by decide) ?_
  refine z_icmp_ne (tgt := 63) dX8_cutOne_56 (by decide) (fun q => ?_) (fun q => ?_)
  · have h := (if_neg q).symm.trans h
    refine z_iconst (v := 0) dX8_cutOne_63 (by decide) ?_
    exact zb_X8_cutOne_64 h
  · have h := (if_pos q).symm.trans h
    refine z_iconst (v := 1) dX8_cutOne_59 (by decide) ?_
    refine z_goto (tgt := 64) dX8_cutOne_60 (by decide) ?_
    exact zb_X8_cutOne_64 h
def F_X8_cutOne_47 (x1 : Int32) (s0 : Int32) (s1 : Int32) (σ : Mm) : Option (Int32 × Mm) := (bnd (F_X8_sign (x1 + (1 : Int32)) σ) (fun v τ => (F_X8_cutOne_54 x1 v s0 s1 τ)))
set_option maxRecDepth 20000 in
theorem zb_X8_cutOne_47 {S : Shp} {x1 : Int32} {s0 : Int32} {s1 : Int32} {σ : Mm} {r : Int32 × Mm} (h : F_X8_cutOne_47 x1 s0 s1 σ = some r) : Z m_X8_cutOne S (Qi r) 47 [(0, .ref (sL S 0 0 6)), (1, .int (x1))] [.int (s0), .int (s1), .ref (sL S 0 0 8)] σ := by
  unfold F_X8_cutOne_47 at h
  refine z_aload_n dX8_cutOne_47 rfl 0 rfl ?_
  refine z_iload_n dX8_cutOne_48 rfl 1 rfl ?_
  refine z_iconst (v := 1) dX8_cutOne_49 (by decide) ?_
  refine z_iadd dX8_cutOne_50 ?_
  obtain ⟨v, τ, hc, h⟩ := bnd_e h
  refine z_callV (M' := m_X8_sign) (t := 0) (i := 0) (k := 6) (As := [.int (x1 + (1 : Int32))]) (rest := [.int (s0), .int (s1), .ref (sL S 0 0 8)]) kl_8_43 oy_X8_sign ⟨Nat.le_of_ble_eq_true rfl, Nat.le_of_ble_eq_true rfl⟩ rfl rfl rfl rfl (Nat.le_of_ble_eq_true rfl) rfl dX8_cutOne_51 (c_X8_sign hc) (fun v2 τ2 hq => ?_)
  obtain ⟨rfl, hτ⟩ := hq
  subst τ2
  change Z _ _ _ _ _ [.int (v), .int (s0), .int (s1), .ref (sL S 0 0 8)] _
  exact zb_X8_cutOne_54 h
def F_X8_cutOne_33 (s0 : Int32) (σ : Mm) : Option (Int32 × Mm) := some (s0, σ)
set_option maxRecDepth 20000 in
theorem zb_X8_cutOne_33 {S : Shp} {s0 : Int32} {σ : Mm} {r : Int32 × Mm} (h : F_X8_cutOne_33 s0 σ = some r) : Z m_X8_cutOne S (Qi r) 33 [] [.int (s0)] σ := by
  unfold F_X8_cutOne_33 at h
  cases h
  exact z_ireturn dX8_cutOne_33 rfl rfl ⟨rfl, rfl⟩
def F_X8_cutOne_22 (x1 : Int32) (s0 : Int32) (σ : Mm) : Option (Int32 × Mm) := (if (f_X8_isDigit s0) = 0 then (bnd (F_X8_sign x1 σ) (fun v τ => (F_X8_cutOne_47 x1 v (mA σ 0 0 6 2) τ))) else (bnd (F_X8_cutNumber x1 σ) (fun v τ => (F_X8_cutOne_33 v τ))))
set_option maxRecDepth 20000 in
theorem zb_X8_cutOne_22 {S : Shp} {x1 : Int32} {s0 : Int32} {σ : Mm} {r : Int32 × Mm} (h : F_X8_cutOne_22 x1 s0 σ = some r) : Z m_X8_cutOne S (Qi r) 22 [(0, .ref (sL S 0 0 6)), (1, .int (x1))] [.int (s0)] σ := by
  unfold F_X8_cutOne_22 at h
  refine z_callS (M' := m_X8_isDigit) (As := [.int (s0)]) (rest := []) kl_8_53 oy_X8_isDigit ⟨Nat.le_of_ble_eq_true rfl, Nat.le_of_ble_eq_true rfl⟩ rfl (Nat.le_of_ble_eq_true rfl) rfl dX8_cutOne_22 (c_X8_isDigit rfl) (fun v τ hq => ?_)
  obtain ⟨rfl, hτ⟩ := hq
  subst τ
  change Z _ _ _ _ _ [.int (f_X8_isDigit s0)] _
  refine z_if_eq (tgt := 34) dX8_cutOne_25 (by decide) (fun q => ?_) (fun q => ?_)
  · have h := (if_pos q).symm.trans h
    refine z_aload_n dX8_cutOne_34 rfl 0 rfl ?_
    refine gf_8_22 rfl dX8_cutOne_35 ?_
    refine z_aload_n dX8_cutOne_38 rfl 0 rfl ?_
    refine gf_8_19 rfl dX8_cutOne_39 ?_
    refine z_aload_n dX8_cutOne_42 rfl 0 rfl ?_
    refine z_iload_n dX8_cutOne_43 rfl 1 rfl ?_
    obtain ⟨v, τ, hc, h⟩ := bnd_e h
    refine z_callV (M' := m_X8_sign) (t := 0) (i := 0) (k := 6) (As := [.int (x1)]) (rest := [.int (mA σ 0 0 6 2), .ref (sL S 0 0 8)]) kl_8_43 oy_X8_sign ⟨Nat.le_of_ble_eq_true rfl, Nat.le_of_ble_eq_true rfl⟩ rfl rfl rfl rfl (Nat.le_of_ble_eq_true rfl) rfl dX8_cutOne_44 (c_X8_sign hc) (fun v2 τ2 hq => ?_)
    obtain ⟨rfl, hτ⟩ := hq
    subst τ2
    change Z _ _ _ _ _ [.int (v), .int (mA σ 0 0 6 2), .ref (sL S 0 0 8)] _
    exact zb_X8_cutOne_47 h
  · have h := (if_neg q).symm.trans h
    refine z_aload_n dX8_cutOne_28 rfl 0 rfl ?_
    refine z_iload_n dX8_cutOne_29 rfl 1 rfl ?_
    obtain ⟨v, τ, hc, h⟩ := bnd_e h
    refine z_callV (M' := m_X8_cutNumber) (t := 0) (i := 0) (k := 6) (As := [.int (x1)]) (rest := []) kl_8_56 oy_X8_cutNumber ⟨Nat.le_of_ble_eq_true rfl, Nat.le_of_ble_eq_true rfl⟩ rfl rfl rfl rfl (Nat.le_of_ble_eq_true rfl) rfl dX8_cutOne_30 (c_X8_cutNumber hc) (fun v2 τ2 hq => ?_)
    obtain ⟨rfl, hτ⟩ := hq
    subst τ2
    change Z _ _ _ _ _ [.int (v)] _
    refine Z.lv [] rfl ?_
    exact zb_X8_cutOne_33 h
def F_X8_cutOne_16 (s0 : Int32) (σ : Mm) : Option (Int32 × Mm) := some (s0, σ)
set_option maxRecDepth 20000 in
theorem zb_X8_cutOne_16 {S : Shp} {s0 : Int32} {σ : Mm} {r : Int32 × Mm} (h : F_X8_cutOne_16 s0 σ = some r) : Z m_X8_cutOne S (Qi r) 16 [] [.int (s0)] σ := by
  unfold F_X8_cutOne_16 at h
  cases h
  exact z_ireturn dX8_cutOne_16 rfl rfl ⟨rfl, rfl⟩
def F_X8_cutOne_5 (x1 : Int32) (s0 : Int32) (σ : Mm) : Option (Int32 × Mm) := (if (f_X8_isLetter s0) = 0 then (bnd (F_X8_sign x1 σ) (fun v τ => (F_X8_cutOne_22 x1 v τ))) else (bnd (F_X8_cutWord x1 σ) (fun v τ => (F_X8_cutOne_16 v τ))))
set_option maxRecDepth 20000 in
theorem zb_X8_cutOne_5 {S : Shp} {x1 : Int32} {s0 : Int32} {σ : Mm} {r : Int32 × Mm} (h : F_X8_cutOne_5 x1 s0 σ = some r) : Z m_X8_cutOne S (Qi r) 5 [(0, .ref (sL S 0 0 6)), (1, .int (x1))] [.int (s0)] σ := by
  unfold F_X8_cutOne_5 at h
  refine z_callS (M' := m_X8_isLetter) (As := [.int (s0)]) (rest := []) kl_8_46 oy_X8_isLetter ⟨Nat.le_of_ble_eq_true rfl, Nat.le_of_ble_eq_true rfl⟩ rfl (Nat.le_of_ble_eq_true rfl) rfl dX8_cutOne_5 (c_X8_isLetter rfl) (fun v τ hq => ?_)
  obtain ⟨rfl, hτ⟩ := hq
  subst τ
  change Z _ _ _ _ _ [.int (f_X8_isLetter s0)] _
  refine z_if_eq (tgt := 17) dX8_cutOne_8 (by decide) (fun q => ?_) (fun q => ?_)
  · have h := (if_pos q).symm.trans h
    refine z_aload_n dX8_cutOne_17 rfl 0 rfl ?_
    refine z_iload_n dX8_cutOne_18 rfl 1 rfl ?_
    obtain ⟨v, τ, hc, h⟩ := bnd_e h
    refine z_callV (M' := m_X8_sign) (t := 0) (i := 0) (k := 6) (As := [.int (x1)]) (rest := []) kl_8_43 oy_X8_sign ⟨Nat.le_of_ble_eq_true rfl, Nat.le_of_ble_eq_true rfl⟩ rfl rfl rfl rfl (Nat.le_of_ble_eq_true rfl) rfl dX8_cutOne_19 (c_X8_sign hc) (fun v2 τ2 hq => ?_)
    obtain ⟨rfl, hτ⟩ := hq
    subst τ2
    change Z _ _ _ _ _ [.int (v)] _
    exact zb_X8_cutOne_22 h
  · have h := (if_neg q).symm.trans h
    refine z_aload_n dX8_cutOne_11 rfl 0 rfl ?_
    refine z_iload_n dX8_cutOne_12 rfl 1 rfl ?_
    obtain ⟨v, τ, hc, h⟩ := bnd_e h
    refine z_callV (M' := m_X8_cutWord) (t := 0) (i := 0) (k := 6) (As := [.int (x1)]) (rest := []) kl_8_50 oy_X8_cutWord ⟨Nat.le_of_ble_eq_true rfl, Nat.le_of_ble_eq_true rfl⟩ rfl rfl rfl rfl (Nat.le_of_ble_eq_true rfl) rfl dX8_cutOne_13 (c_X8_cutWord hc) (fun v2 τ2 hq => ?_)
    obtain ⟨rfl, hτ⟩ := hq
    subst τ2
    change Z _ _ _ _ _ [.int (v)] _
    refine Z.lv [] rfl ?_
    exact zb_X8_cutOne_16 h
def F_X8_cutOne (x1 : Int32) (σ : Mm) : Option (Int32 × Mm) := (bnd (F_X8_sign x1 σ) (fun v τ => (F_X8_cutOne_5 x1 v τ)))
set_option maxRecDepth 20000 in
theorem zb_X8_cutOne {S : Shp} {x1 : Int32} {σ : Mm} {r : Int32 × Mm} (h : F_X8_cutOne x1 σ = some r) : Z m_X8_cutOne S (Qi r) 0 [(0, .ref (sL S 0 0 6)), (1, .int (x1))] [] σ := by
  unfold F_X8_cutOne at h
  refine z_aload_n dX8_cutOne_0 rfl 0 rfl ?_
  refine z_iload_n dX8_cutOne_1 rfl 1 rfl ?_
  obtain ⟨v, τ, hc, h⟩ := bnd_e h
  refine z_callV (M' := m_X8_sign) (t := 0) (i := 0) (k := 6) (As := [.int (x1)]) (rest := []) kl_8_43 oy_X8_sign ⟨Nat.le_of_ble_eq_true rfl, Nat.le_of_ble_eq_true rfl⟩ rfl rfl rfl rfl (Nat.le_of_ble_eq_true rfl) rfl dX8_cutOne_2 (c_X8_sign hc) (fun v2 τ2 hq => ?_)
  obtain ⟨rfl, hτ⟩ := hq
  subst τ2
  change Z _ _ _ _ _ [.int (v)] _
  exact zb_X8_cutOne_5 h
/-- SkyStones$Tape.cutOne(I)I -/
theorem c_X8_cutOne {S : Shp} {x1 : Int32} {σ : Mm} {r : Int32 × Mm} (h : F_X8_cutOne x1 σ = some r) : Ct m_X8_cutOne S [.ref (sL S 0 0 6), .int (x1)] σ (Qi r) := Ct.of (by decide +kernel) (Nat.le_of_ble_eq_true rfl) (zb_X8_cutOne h)
def F_X8_cut_75 (σ : Mm) : Option (Mm) := (if inb (mA σ 0 0 6 2) 402 = true then some (setA σ 0 0 9 (upd (mA σ 0 0 9) (mA σ 0 0 6 2).toNatClampNeg (mA σ 0 0 6 0))) else none)
set_option maxRecDepth 20000 in
theorem zb_X8_cut_75 {S : Shp} {σ : Mm} {r : Mm} (h : F_X8_cut_75 σ = some r) : Z m_X8_cut S (Qv r) 75 [(0, .ref (sL S 0 0 6))] [] σ := by
  unfold F_X8_cut_75 at h
  obtain ⟨g3, h⟩ := gd h
  refine z_aload_n dX8_cut_75 rfl 0 rfl ?_
  refine gf_8_26 rfl dX8_cut_76 ?_
  refine z_aload_n dX8_cut_79 rfl 0 rfl ?_
  refine gf_8_19 rfl dX8_cut_80 ?_
  refine z_aload_n dX8_cut_83 rfl 0 rfl ?_
  refine gf_8_9 rfl dX8_cut_84 ?_
  refine is_0_9 (inb_in g3) dX8_cut_87 ?_
  cases h
  exact z_return dX8_cut_88 rfl ⟨rfl, rfl⟩
def F_X8_cut_65 (σ : Mm) : Option (Mm) := (if inb (mA σ 0 0 6 2) 402 = true then (F_X8_cut_75 (setA σ 0 0 8 (upd (mA σ 0 0 8) (mA σ 0 0 6 2).toNatClampNeg 0))) else none)
set_option maxRecDepth 20000 in
theorem zb_X8_cut_65 {S : Shp} {σ : Mm} {r : Mm} (h : F_X8_cut_65 σ = some r) : Z m_X8_cut S (Qv r) 65 [(0, .ref (sL S 0 0 6))] [] σ := by
  unfold F_X8_cut_65 at h
  obtain ⟨g1, h⟩ := gd h
  refine z_aload_n dX8_cut_65 rfl 0 rfl ?_
  refine gf_8_22 rfl dX8_cut_66 ?_
  refine z_aload_n dX8_cut_69 rfl 0 rfl ?_
  refine gf_8_19 rfl dX8_cut_70 ?_
  refine z_iconst (v := 0) dX8_cut_73 (by decide) ?_
  refine is_0_8 (inb_in g1) dX8_cut_74 ?_
  exact zb_X8_cut_75 h
def F_X8_cut_59 (rc9 : Int32 → Int32 → Mm → Option (Mm)) (x1 : Int32) (x2 : Int32) (σ : Mm) : Option (Mm) := (rc9 x1 (x2 + 1) σ)
set_option maxRecDepth 20000 in
theorem zb_X8_cut_59 {S : Shp} {rc9 : Int32 → Int32 → Mm → Option (Mm)} (hrc9 : ∀ {x1 : Int32} {x2 : Int32} {σ : Mm} {r : Mm}, rc9 x1 x2 σ = some r → Z m_X8_cut S (Qv r) 9 [(0, .ref (sL S 0 0 6)), (1, .int (x1)), (2, .int (x2))] [] σ) {x1 : Int32} {x2 : Int32} {σ : Mm} {r : Mm} (h : F_X8_cut_59 rc9 x1 x2 σ = some r) : Z m_X8_cut S (Qv r) 59 [(0, .ref (sL S 0 0 6)), (1, .int (x1)), (2, .int (x2))] [] σ := by
  unfold F_X8_cut_59 at h
  refine z_iinc (j := 2) (v := x2 + 1) (lv' := [(0, .ref (sL S 0 0 6)), (1, .int (x1)), (2, .int (x2 + 1))]) dX8_cut_59 rfl rfl (by decide) [1, 2, 0] rfl ?_
  refine z_goto (tgt := 9) dX8_cut_62 (by decide) ?_
  exact hrc9 h
def F_X8_cut_48 (rc9 : Int32 → Int32 → Mm → Option (Mm)) (x2 : Int32) (s0 : Int32) (σ : Mm) : Option (Mm) := (F_X8_cut_59 rc9 s0 x2 (setA σ 0 0 6 (upd (mA σ 0 0 6) 2 ((mA σ 0 0 6 2) + (1 : Int32)))))
set_option maxRecDepth 20000 in
theorem zb_X8_cut_48 {S : Shp} {rc9 : Int32 → Int32 → Mm → Option (Mm)} (hrc9 : ∀ {x1 : Int32} {x2 : Int32} {σ : Mm} {r : Mm}, rc9 x1 x2 σ = some r → Z m_X8_cut S (Qv r) 9 [(0, .ref (sL S 0 0 6)), (1, .int (x1)), (2, .int (x2))] [] σ) {x2 : Int32} {s0 : Int32} {σ : Mm} {r : Mm} (h : F_X8_cut_48 rc9 x2 s0 σ = some r) : Z m_X8_cut S (Qv r) 48 [(0, .ref (sL S 0 0 6)), (2, .int (x2))] [.int (s0)] σ := by
  unfold F_X8_cut_48 at h
  refine z_istore_n (lv' := [(0, .ref (sL S 0 0 6)), (1, .int (s0)), (2, .int (x2))]) dX8_cut_48 rfl (by decide) [1, 0, 2] rfl ?_
  refine z_aload_n dX8_cut_49 rfl 0 rfl ?_
  refine z_dup dX8_cut_50 rfl ?_
  refine gf_8_19 rfl dX8_cut_51 ?_
  refine z_iconst (v := 1) dX8_cut_54 (by decide) ?_
  refine z_iadd dX8_cut_55 ?_
  refine pf_8_19 rfl dX8_cut_56 ?_
  exact zb_X8_cut_59 hrc9 h
def F_X8_cut_43 (rc9 : Int32 → Int32 → Mm → Option (Mm)) (x1 : Int32) (x2 : Int32) (σ : Mm) : Option (Mm) := (bnd (F_X8_cutOne x1 σ) (fun v τ => (F_X8_cut_48 rc9 x2 v τ)))
set_option maxRecDepth 20000 in
theorem zb_X8_cut_43 {S : Shp} {rc9 : Int32 → Int32 → Mm → Option (Mm)} (hrc9 : ∀ {x1 : Int32} {x2 : Int32} {σ : Mm} {r : Mm}, rc9 x1 x2 σ = some r → Z m_X8_cut S (Qv r) 9 [(0, .ref (sL S 0 0 6)), (1, .int (x1)), (2, .int (x2))] [] σ) {x1 : Int32} {x2 : Int32} {σ : Mm} {r : Mm} (h : F_X8_cut_43 rc9 x1 x2 σ = some r) : Z m_X8_cut S (Qv r) 43 [(0, .ref (sL S 0 0 6)), (1, .int (x1)), (2, .int (x2))] [] σ := by
  unfold F_X8_cut_43 at h
  refine z_aload_n dX8_cut_43 rfl 0 rfl ?_
  refine z_iload_n dX8_cut_44 rfl 1 rfl ?_
  obtain ⟨v, τ, hc, h⟩ := bnd_e h
  refine z_callV (M' := m_X8_cutOne) (t := 0) (i := 0) (k := 6) (As := [.int (x1)]) (rest := []) kl_8_40 oy_X8_cutOne ⟨Nat.le_of_ble_eq_true rfl, Nat.le_of_ble_eq_true rfl⟩ rfl rfl rfl rfl (Nat.le_of_ble_eq_true rfl) rfl dX8_cut_45 (c_X8_cutOne hc) (fun v2 τ2 hq => ?_)
  obtain ⟨rfl, hτ⟩ := hq
  subst τ2
  change Z _ _ _ _ _ [.int (v)] _
  refine Z.lv [0, 2] rfl ?_
  exact zb_X8_cut_48 hrc9 h
def F_X8_cut_21 (rc9 : Int32 → Int32 → Mm → Option (Mm)) (x2 : Int32) (s0 : Int32) (σ : Mm) : Option (Mm) := (if s0 < (mA σ 0 0 6 0) then (if inb (mA σ 0 0 6 2) 402 = true then (F_X8_cut_43 rc9 s0 x2 (setA σ 0 0 9 (upd (mA σ 0 0 9) (mA σ 0 0 6 2).toNatClampNeg s0))) else none) else (F_X8_cut_65 σ))
set_option maxRecDepth 20000 in
theorem zb_X8_cut_21 {S : Shp} {rc9 : Int32 → Int32 → Mm → Option (Mm)} (hrc9 : ∀ {x1 : Int32} {x2 : Int32} {σ : Mm} {r : Mm}, rc9 x1 x2 σ = some r → Z m_X8_cut S (Qv r) 9 [(0, .ref (sL S 0 0 6)), (1, .int (x1)), (2, .int (x2))] [] σ) {x2 : Int32} {s0 : Int32} {σ : Mm} {r : Mm} (h : F_X8_cut_21 rc9 x2 s0 σ = some r) : Z m_X8_cut S (Qv r) 21 [(0, .ref (sL S 0 0 6)), (2, .int (x2))] [.int (s0)] σ := by
  unfold F_X8_cut_21 at h
  refine z_istore_n (lv' := [(0, .ref (sL S 0 0 6)), (1, .int (s0)), (2, .int (x2))]) dX8_cut_21 rfl (by decide) [1, 0, 2] rfl ?_
  refine z_iload_n dX8_cut_22 rfl 1 rfl ?_
  refine z_aload_n dX8_cut_23 rfl 0 rfl ?_
  refine gf_8_9 rfl dX8_cut_24 ?_
  refine z_icmp_lt (tgt := 33) dX8_cut_27 (by decide) (fun q => ?_) (fun q => ?_)
  · have h := (if_pos q).symm.trans h
    obtain ⟨g2, h⟩ := gd h
    refine z_aload_n dX8_cut_33 rfl 0 rfl ?_
    refine gf_8_26 rfl dX8_cut_34 ?_
    refine z_aload_n dX8_cut_37 rfl 0 rfl ?_
    refine gf_8_19 rfl dX8_cut_38 ?_
    refine z_iload_n dX8_cut_41 rfl 1 rfl ?_
    refine is_0_9 (inb_in g2) dX8_cut_42 ?_
    exact zb_X8_cut_43 hrc9 h
  · have h := (if_neg q).symm.trans h
    refine z_goto (tgt := 65) dX8_cut_30 (by decide) ?_
    refine Z.lv [0] rfl ?_
    exact zb_X8_cut_65 h
def B_X8_cut_9 (rc9 : Int32 → Int32 → Mm → Option (Mm)) (x1 : Int32) (x2 : Int32) (σ : Mm) : Option (Mm) := (if (400 : Int32) < x2 then (F_X8_cut_65 σ) else (bnd (F_X8_behindBlanks x1 σ) (fun v τ => (F_X8_cut_21 rc9 x2 v τ))))
set_option maxRecDepth 20000 in
theorem zB_X8_cut_9 {S : Shp} {rc9 : Int32 → Int32 → Mm → Option (Mm)} (hrc9 : ∀ {x1 : Int32} {x2 : Int32} {σ : Mm} {r : Mm}, rc9 x1 x2 σ = some r → Z m_X8_cut S (Qv r) 9 [(0, .ref (sL S 0 0 6)), (1, .int (x1)), (2, .int (x2))] [] σ) {x1 : Int32} {x2 : Int32} {σ : Mm} {r : Mm} (h : B_X8_cut_9 rc9 x1 x2 σ = some r) : Z m_X8_cut S (Qv r) 9 [(0, .ref (sL S 0 0 6)), (1, .int (x1)), (2, .int (x2))] [] σ := by
  unfold B_X8_cut_9 at h
  refine z_iload_n dX8_cut_9 rfl 2 rfl ?_
  refine z_sipush (v := 400) dX8_cut_10 (by decide) ?_
  refine z_icmp_gt (tgt := 65) dX8_cut_13 (by decide) (fun q => ?_) (fun q => ?_)
  · have h := (if_pos q).symm.trans h
    refine Z.lv [0] rfl ?_
    exact zb_X8_cut_65 h
  · have h := (if_neg q).symm.trans h
    refine z_aload_n dX8_cut_16 rfl 0 rfl ?_
    refine z_iload_n dX8_cut_17 rfl 1 rfl ?_
    obtain ⟨v, τ, hc, h⟩ := bnd_e h
    refine z_callV (M' := m_X8_behindBlanks) (t := 0) (i := 0) (k := 6) (As := [.int (x1)]) (rest := []) kl_8_36 oy_X8_behindBlanks ⟨Nat.le_of_ble_eq_true rfl, Nat.le_of_ble_eq_true rfl⟩ rfl rfl rfl rfl (Nat.le_of_ble_eq_true rfl) rfl dX8_cut_18 (c_X8_behindBlanks hc) (fun v2 τ2 hq => ?_)
    obtain ⟨rfl, hτ⟩ := hq
    subst τ2
    change Z _ _ _ _ _ [.int (v)] _
    refine Z.lv [0, 2] rfl ?_
    exact zb_X8_cut_21 hrc9 h
def F_X8_cut_9 : Nat → Int32 → Int32 → Mm → Option (Mm)
  | 0 => fun _ _ _ => none
  | n + 1 => B_X8_cut_9 (F_X8_cut_9 n)
theorem zl_X8_cut_9 {S : Shp} : ∀ (nn : Nat) {x1 : Int32} {x2 : Int32} {σ : Mm} {r : Mm}, F_X8_cut_9 nn x1 x2 σ = some r → Z m_X8_cut S (Qv r) 9 [(0, .ref (sL S 0 0 6)), (1, .int (x1)), (2, .int (x2))] [] σ := by
  intro nn
  induction nn with
  | zero => intro x1 x2 σ r h; cases h
  | succ nn ih => intro x1 x2 σ r h; exact zB_X8_cut_9 @ih h
def F_X8_cut_5 (σ : Mm) : Option (Mm) := (F_X8_cut_9 FU 0 0 σ)
set_option maxRecDepth 20000 in
theorem zb_X8_cut_5 {S : Shp} {σ : Mm} {r : Mm} (h : F_X8_cut_5 σ = some r) : Z m_X8_cut S (Qv r) 5 [(0, .ref (sL S 0 0 6))] [] σ := by
  unfold F_X8_cut_5 at h
  refine z_iconst (v := 0) dX8_cut_5 (by decide) ?_
  refine z_istore_n (lv' := [(0, .ref (sL S 0 0 6)), (1, .int (0))]) dX8_cut_6 rfl (by decide) [1, 0] rfl ?_
  refine z_iconst (v := 0) dX8_cut_7 (by decide) ?_
  refine z_istore_n (lv' := [(0, .ref (sL S 0 0 6)), (1, .int (0)), (2, .int (0))]) dX8_cut_8 rfl (by decide) [1, 2, 0] rfl ?_
  exact zl_X8_cut_9 FU h
def F_X8_cut (σ : Mm) : Option (Mm) := (F_X8_cut_5 (setA σ 0 0 6 (upd (mA σ 0 0 6) 2 0)))
set_option maxRecDepth 20000 in
theorem zb_X8_cut {S : Shp} {σ : Mm} {r : Mm} (h : F_X8_cut σ = some r) : Z m_X8_cut S (Qv r) 0 [(0, .ref (sL S 0 0 6))] [] σ := by
  unfold F_X8_cut at h
  refine z_aload_n dX8_cut_0 rfl 0 rfl ?_
  refine z_iconst (v := 0) dX8_cut_1 (by decide) ?_
  refine pf_8_19 rfl dX8_cut_2 ?_
  exact zb_X8_cut_5 h
/-- SkyStones$Tape.cut()V -/
theorem c_X8_cut {S : Shp} {σ : Mm} {r : Mm} (h : F_X8_cut σ = some r) : Ct m_X8_cut S [.ref (sL S 0 0 6)] σ (Qv r) := Ct.of (by decide +kernel) (Nat.le_of_ble_eq_true rfl) (zb_X8_cut h)
def F_X9_forget_38 (i0 : Nat) (σ : Mm) : Option (Mm) := (bnv (F_X0_forget i0 σ) (fun τ => some (τ)))
set_option maxRecDepth 20000 in
theorem zb_X9_forget_38 {S : Shp} {i0 : Nat} (hi0 : tlv (sH S) i0 = true) {σ : Mm} {r : Mm} (h : F_X9_forget_38 i0 σ = some r) : Z m_X9_forget S (Qv r) 38 [(0, .ref (sL S 1 i0 0))] [] σ := by
  unfold F_X9_forget_38 at h
  refine z_aload_n dX9_forget_38 rfl 0 rfl ?_
  refine gf_9_61 (lv1 (hi0) rfl) rfl dX9_forget_39 ?_
  obtain ⟨τ, hc, h⟩ := bnv_e h
  refine z_callV (M' := m_X0_forget) (t := 1) (i := i0) (k := 10) (As := []) (rest := []) kl_9_71 oy_X0_forget ⟨Nat.le_of_ble_eq_true rfl, Nat.le_of_ble_eq_true rfl⟩ (lv1 (hi0) rfl) rfl rfl rfl (Nat.le_of_ble_eq_true rfl) rfl dX9_forget_42 (c_X0_forget (hi0) hc) (fun v2 τ2 hq => ?_)
  obtain ⟨rfl, hτ⟩ := hq
  subst τ2
  change Z _ _ _ _ _ [] _
  cases h
  exact z_return dX9_forget_45 rfl ⟨rfl, rfl⟩
def F_X9_forget_30 (i0 : Nat) (σ : Mm) : Option (Mm) := (bnv (F_J7_fill_53178_df i0 0 σ) (fun τ => (F_X9_forget_38 i0 τ)))
set_option maxRecDepth 20000 in
theorem zb_X9_forget_30 {S : Shp} {i0 : Nat} (hi0 : tlv (sH S) i0 = true) {σ : Mm} {r : Mm} (h : F_X9_forget_30 i0 σ = some r) : Z m_X9_forget S (Qv r) 30 [(0, .ref (sL S 1 i0 0))] [] σ := by
  unfold F_X9_forget_30 at h
  refine z_aload_n dX9_forget_30 rfl 0 rfl ?_
  refine gf_9_34 (lv1 (hi0) rfl) rfl dX9_forget_31 ?_
  refine z_iconst (v := 0) dX9_forget_34 (by decide) ?_
  obtain ⟨τ, hc, h⟩ := bnv_e h
  refine z_callS (M' := m_J7_fill_53178) (As := [.ref (sL S 1 i0 5), .int (0)]) (rest := []) kl_9_65 oy_J7_fill_53178 ⟨Nat.le_of_ble_eq_true rfl, Nat.le_of_ble_eq_true rfl⟩ rfl (Nat.le_of_ble_eq_true rfl) rfl dX9_forget_35 (c_J7_fill_53178_df (hi0) hc) (fun v2 τ2 hq => ?_)
  obtain ⟨rfl, hτ⟩ := hq
  subst τ2
  change Z _ _ _ _ _ [] _
  exact zb_X9_forget_38 (hi0) h
def F_X9_forget_25 (i0 : Nat) (σ : Mm) : Option (Mm) := (F_X9_forget_30 i0 (setA σ 1 i0 0 (upd (mA σ 1 i0 0) 14 0)))
set_option maxRecDepth 20000 in
theorem zb_X9_forget_25 {S : Shp} {i0 : Nat} (hi0 : tlv (sH S) i0 = true) {σ : Mm} {r : Mm} (h : F_X9_forget_25 i0 σ = some r) : Z m_X9_forget S (Qv r) 25 [(0, .ref (sL S 1 i0 0))] [] σ := by
  unfold F_X9_forget_25 at h
  refine z_aload_n dX9_forget_25 rfl 0 rfl ?_
  refine z_iconst (v := 0) dX9_forget_26 (by decide) ?_
  refine pf_9_55 (lv1 (hi0) rfl) rfl dX9_forget_27 ?_
  exact zb_X9_forget_30 (hi0) h
def F_X9_forget_20 (i0 : Nat) (σ : Mm) : Option (Mm) := (F_X9_forget_25 i0 (setA σ 1 i0 0 (upd (mA σ 1 i0 0) 12 0)))
set_option maxRecDepth 20000 in
theorem zb_X9_forget_20 {S : Shp} {i0 : Nat} (hi0 : tlv (sH S) i0 = true) {σ : Mm} {r : Mm} (h : F_X9_forget_20 i0 σ = some r) : Z m_X9_forget S (Qv r) 20 [(0, .ref (sL S 1 i0 0))] [] σ := by
  unfold F_X9_forget_20 at h
  refine z_aload_n dX9_forget_20 rfl 0 rfl ?_
  refine z_iconst (v := 0) dX9_forget_21 (by decide) ?_
  refine pf_9_49 (lv1 (hi0) rfl) rfl dX9_forget_22 ?_
  exact zb_X9_forget_25 (hi0) h
def F_X9_forget_15 (i0 : Nat) (σ : Mm) : Option (Mm) := (F_X9_forget_20 i0 (setA σ 1 i0 0 (upd (mA σ 1 i0 0) 8 0)))
set_option maxRecDepth 20000 in
theorem zb_X9_forget_15 {S : Shp} {i0 : Nat} (hi0 : tlv (sH S) i0 = true) {σ : Mm} {r : Mm} (h : F_X9_forget_15 i0 σ = some r) : Z m_X9_forget S (Qv r) 15 [(0, .ref (sL S 1 i0 0))] [] σ := by
  unfold F_X9_forget_15 at h
  refine z_aload_n dX9_forget_15 rfl 0 rfl ?_
  refine z_iconst (v := 0) dX9_forget_16 (by decide) ?_
  refine pf_9_37 (lv1 (hi0) rfl) rfl dX9_forget_17 ?_
  exact zb_X9_forget_20 (hi0) h
def F_X9_forget_10 (i0 : Nat) (σ : Mm) : Option (Mm) := (F_X9_forget_15 i0 (setA σ 1 i0 0 (upd (mA σ 1 i0 0) 6 0)))
set_option maxRecDepth 20000 in
theorem zb_X9_forget_10 {S : Shp} {i0 : Nat} (hi0 : tlv (sH S) i0 = true) {σ : Mm} {r : Mm} (h : F_X9_forget_10 i0 σ = some r) : Z m_X9_forget S (Qv r) 10 [(0, .ref (sL S 1 i0 0))] [] σ := by
  unfold F_X9_forget_10 at h
  refine z_aload_n dX9_forget_10 rfl 0 rfl ?_
  refine z_iconst (v := 0) dX9_forget_11 (by decide) ?_
  refine pf_9_31 (lv1 (hi0) rfl) rfl dX9_forget_12 ?_
  exact zb_X9_forget_15 (hi0) h
def F_X9_forget_5 (i0 : Nat) (σ : Mm) : Option (Mm) := (F_X9_forget_10 i0 (setA σ 1 i0 0 (upd (mA σ 1 i0 0) 1 0)))
set_option maxRecDepth 20000 in
theorem zb_X9_forget_5 {S : Shp} {i0 : Nat} (hi0 : tlv (sH S) i0 = true) {σ : Mm} {r : Mm} (h : F_X9_forget_5 i0 σ = some r) : Z m_X9_forget S (Qv r) 5 [(0, .ref (sL S 1 i0 0))] [] σ := by
  unfold F_X9_forget_5 at h
  refine z_aload_n dX9_forget_5 rfl 0 rfl ?_
  refine z_iconst (v := 0) dX9_forget_6 (by decide) ?_
  refine pf_9_15 (lv1 (hi0) rfl) rfl dX9_forget_7 ?_
  exact zb_X9_forget_10 (hi0) h
def F_X9_forget (i0 : Nat) (σ : Mm) : Option (Mm) := (F_X9_forget_5 i0 (setA σ 1 i0 0 (upd (mA σ 1 i0 0) 0 2)))
set_option maxRecDepth 20000 in
theorem zb_X9_forget {S : Shp} {i0 : Nat} (hi0 : tlv (sH S) i0 = true) {σ : Mm} {r : Mm} (h : F_X9_forget i0 σ = some r) : Z m_X9_forget S (Qv r) 0 [(0, .ref (sL S 1 i0 0))] [] σ := by
  unfold F_X9_forget at h
  refine z_aload_n dX9_forget_0 rfl 0 rfl ?_
  refine z_iconst (v := 2) dX9_forget_1 (by decide) ?_
  refine pf_9_9 (lv1 (hi0) rfl) rfl dX9_forget_2 ?_
  exact zb_X9_forget_5 (hi0) h
/-- SkyStones$Told.forget()V -/
theorem c_X9_forget {S : Shp} {i0 : Nat} (hi0 : tlv (sH S) i0 = true) {σ : Mm} {r : Mm} (h : F_X9_forget i0 σ = some r) : Ct m_X9_forget S [.ref (sL S 1 i0 0)] σ (Qv r) := Ct.of (by decide +kernel) (Nat.le_of_ble_eq_true rfl) (zb_X9_forget hi0 h)
def F_X11_read_68 (σ : Mm) : Option (Int32 × Mm) := some (mA σ 0 0 12 0, σ)
set_option maxRecDepth 20000 in
theorem zb_X11_read_68 {S : Shp} {σ : Mm} {r : Int32 × Mm} (h : F_X11_read_68 σ = some r) : Z m_X11_read S (Qi r) 68 [(0, .ref (sL S 0 0 0))] [] σ := by
  unfold F_X11_read_68 at h
  refine z_aload_n dX11_read_68 rfl 0 rfl ?_
  refine gf_11_31 rfl dX11_read_69 ?_
  refine gf_11_117 rfl dX11_read_72 ?_
  cases h
  exact z_ireturn dX11_read_75 rfl rfl ⟨rfl, rfl⟩
def F_X11_read_61 (σ : Mm) : Option (Int32 × Mm) := (bnv (F_X7_forget 0 σ) (fun τ => (F_X11_read_68 τ)))
set_option maxRecDepth 20000 in
theorem zb_X11_read_61 {S : Shp} {σ : Mm} {r : Int32 × Mm} (h : F_X11_read_61 σ = some r) : Z m_X11_read S (Qi r) 61 [(0, .ref (sL S 0 0 0))] [] σ := by
  unfold F_X11_read_61 at h
  refine z_aload_n dX11_read_61 rfl 0 rfl ?_
  refine gf_11_38 rfl dX11_read_62 ?_
  obtain ⟨τ, hc, h⟩ := bnv_e h
  refine z_callV (M' := m_X7_forget) (t := 2) (i := 0) (k := 0) (As := []) (rest := []) kl_11_120 oy_X7_forget ⟨Nat.le_of_ble_eq_true rfl, Nat.le_of_ble_eq_true rfl⟩ rfl rfl rfl rfl (Nat.le_of_ble_eq_true rfl) rfl dX11_read_65 (c_X7_forget rfl hc) (fun v2 τ2 hq => ?_)
  obtain ⟨rfl, hτ⟩ := hq
  subst τ2
  change Z _ _ _ _ _ [] _
  exact zb_X11_read_68 h
def F_X11_read_56 (i0 : Nat) (σ : Mm) : Option (Int32 × Mm) := (F_X11_read_61 (setP σ 1 i0))
set_option maxRecDepth 20000 in
theorem zb_X11_read_56 {S : Shp} {i0 : Nat} (hi0 : tlv (sH S) i0 = true) {σ : Mm} {r : Int32 × Mm} (h : F_X11_read_56 i0 σ = some r) : Z m_X11_read S (Qi r) 56 [(0, .ref (sL S 0 0 0)), (1, .ref (sL S 1 i0 0))] [] σ := by
  unfold F_X11_read_56 at h
  refine z_aload_n dX11_read_56 rfl 0 rfl ?_
  refine z_aload_n dX11_read_57 rfl 1 rfl ?_
  refine z_putP1 (j := i0) qw_394 dX11_read_58 ?_
  refine Z.lv [0] rfl ?_
  exact zb_X11_read_61 h
def F_X11_read_33 (σ : Mm) : Option (Int32 × Mm) := (if (mA σ 0 0 12 0) = 0 then (if okP σ = true then (F_X11_read_56 (mP σ 0) (setP σ 0 (mP σ 1))) else none) else (F_X11_read_68 σ))
set_option maxRecDepth 20000 in
theorem zb_X11_read_33 {S : Shp} {σ : Mm} {r : Int32 × Mm} (h : F_X11_read_33 σ = some r) : Z m_X11_read S (Qi r) 33 [(0, .ref (sL S 0 0 0))] [] σ := by
  unfold F_X11_read_33 at h
  refine z_aload_n dX11_read_33 rfl 0 rfl ?_
  refine gf_11_31 rfl dX11_read_34 ?_
  refine gf_11_117 rfl dX11_read_37 ?_
  refine z_if_ne (tgt := 68) dX11_read_40 (by decide) (fun q => ?_) (fun q => ?_)
  · have h := (if_neg q).symm.trans h
    exact zb_X11_read_68 h
  · have h := (if_pos q).symm.trans h
    obtain ⟨g3, h⟩ := gd h
    refine z_aload_n dX11_read_43 rfl 0 rfl ?_
    have hp := g3
    refine gf_11_19 rfl dX11_read_44 ?_
    refine z_astore_n (lv' := [(0, .ref (sL S 0 0 0)), (1, .ref (sL S 1 (mP σ 0) 0))]) dX11_read_47 rfl (by decide) [1, 0] rfl ?_
    refine z_aload_n dX11_read_48 rfl 0 rfl ?_
    refine z_aload_n dX11_read_49 rfl 0 rfl ?_
    refine gf_11_23 rfl dX11_read_50 ?_
    refine z_putP0 (j := mP σ 1) qw_393 dX11_read_53 ?_
    exact zb_X11_read_56 (okP_0 hp) h
def F_X11_read_22 (σ : Mm) : Option (Int32 × Mm) := (if okP σ = true then (bnv (F_X5_tellAll (mP σ 1) σ) (fun τ => (F_X11_read_33 τ))) else none)
set_option maxRecDepth 20000 in
theorem zb_X11_read_22 {S : Shp} {σ : Mm} {r : Int32 × Mm} (h : F_X11_read_22 σ = some r) : Z m_X11_read S (Qi r) 22 [(0, .ref (sL S 0 0 0))] [] σ := by
  unfold F_X11_read_22 at h
  obtain ⟨g2, h⟩ := gd h
  refine z_aload_n dX11_read_22 rfl 0 rfl ?_
  refine gf_11_31 rfl dX11_read_23 ?_
  refine z_aload_n dX11_read_26 rfl 0 rfl ?_
  have hp := g2
  refine gf_11_23 rfl dX11_read_27 ?_
  obtain ⟨τ, hc, h⟩ := bnv_e h
  refine z_callV (M' := m_X5_tellAll) (t := 0) (i := 0) (k := 12) (As := [.ref (sL S 1 (mP σ 1) 0)]) (rest := []) kl_11_113 oy_X5_tellAll ⟨Nat.le_of_ble_eq_true rfl, Nat.le_of_ble_eq_true rfl⟩ rfl rfl rfl rfl (Nat.le_of_ble_eq_true rfl) rfl dX11_read_30 (c_X5_tellAll (okP_1 hp) hc) (fun v2 τ2 hq => ?_)
  obtain ⟨rfl, hτ⟩ := hq
  subst τ2
  change Z _ _ _ _ _ [] _
  exact zb_X11_read_33 h
def F_X11_read_15 (σ : Mm) : Option (Int32 × Mm) := (if okP σ = true then (bnv (F_X9_forget (mP σ 1) σ) (fun τ => (F_X11_read_22 τ))) else none)
set_option maxRecDepth 20000 in
theorem zb_X11_read_15 {S : Shp} {σ : Mm} {r : Int32 × Mm} (h : F_X11_read_15 σ = some r) : Z m_X11_read S (Qi r) 15 [(0, .ref (sL S 0 0 0))] [] σ := by
  unfold F_X11_read_15 at h
  obtain ⟨g1, h⟩ := gd h
  refine z_aload_n dX11_read_15 rfl 0 rfl ?_
  have hp := g1
  refine gf_11_23 rfl dX11_read_16 ?_
  obtain ⟨τ, hc, h⟩ := bnv_e h
  refine z_callV (M' := m_X9_forget) (t := 1) (i := (mP σ 1)) (k := 0) (As := []) (rest := []) kl_11_110 oy_X9_forget ⟨Nat.le_of_ble_eq_true rfl, Nat.le_of_ble_eq_true rfl⟩ (lv1 (okP_1 hp) rfl) rfl rfl rfl (Nat.le_of_ble_eq_true rfl) rfl dX11_read_19 (c_X9_forget (okP_1 hp) hc) (fun v2 τ2 hq => ?_)
  obtain ⟨rfl, hτ⟩ := hq
  subst τ2
  change Z _ _ _ _ _ [] _
  exact zb_X11_read_22 h
def F_X11_read_7 (σ : Mm) : Option (Int32 × Mm) := (F_X11_read_15 (setA σ 0 0 6 (upd (mA σ 0 0 6) 0 0)))
set_option maxRecDepth 20000 in
theorem zb_X11_read_7 {S : Shp} {σ : Mm} {r : Int32 × Mm} (h : F_X11_read_7 σ = some r) : Z m_X11_read S (Qi r) 7 [(0, .ref (sL S 0 0 0))] [] σ := by
  unfold F_X11_read_7 at h
  refine z_aload_n dX11_read_7 rfl 0 rfl ?_
  refine gf_11_12 rfl dX11_read_8 ?_
  refine z_iconst (v := 0) dX11_read_11 (by decide) ?_
  refine pf_11_100 rfl dX11_read_12 ?_
  exact zb_X11_read_15 h
def F_X11_read (σ : Mm) : Option (Int32 × Mm) := (bnv (F_X8_cut  σ) (fun τ => (F_X11_read_7 τ)))
set_option maxRecDepth 20000 in
theorem zb_X11_read {S : Shp} {σ : Mm} {r : Int32 × Mm} (h : F_X11_read σ = some r) : Z m_X11_read S (Qi r) 0 [(0, .ref (sL S 0 0 0))] [] σ := by
  unfold F_X11_read at h
  refine z_aload_n dX11_read_0 rfl 0 rfl ?_
  refine gf_11_12 rfl dX11_read_1 ?_
  obtain ⟨τ, hc, h⟩ := bnv_e h
  refine z_callV (M' := m_X8_cut) (t := 0) (i := 0) (k := 6) (As := []) (rest := []) kl_11_107 oy_X8_cut ⟨Nat.le_of_ble_eq_true rfl, Nat.le_of_ble_eq_true rfl⟩ rfl rfl rfl rfl (Nat.le_of_ble_eq_true rfl) rfl dX11_read_4 (c_X8_cut hc) (fun v2 τ2 hq => ?_)
  obtain ⟨rfl, hτ⟩ := hq
  subst τ2
  change Z _ _ _ _ _ [] _
  exact zb_X11_read_7 h
/-- SkyStones.read()I -/
theorem c_X11_read {S : Shp} {σ : Mm} {r : Int32 × Mm} (h : F_X11_read σ = some r) : Ct m_X11_read S [.ref (sL S 0 0 0)] σ (Qi r) := Ct.of (by decide +kernel) (Nat.le_of_ble_eq_true rfl) (zb_X11_read h)
def F_X11_rise_30 (s0 : Int32) (σ : Mm) : Option (Int32 × Mm) := some (s0, σ)
set_option maxRecDepth 20000 in
theorem zb_X11_rise_30 {S : Shp} {s0 : Int32} {σ : Mm} {r : Int32 × Mm} (h : F_X11_rise_30 s0 σ = some r) : Z m_X11_rise S (Qi r) 30 [] [.int (s0)] σ := by
  unfold F_X11_rise_30 at h
  cases h
  exact z_ireturn dX11_rise_30 rfl rfl ⟨rfl, rfl⟩
def F_X11_rise (x1 : Int32) (x2 : Int32) (σ : Mm) : Option (Int32 × Mm) := (if okP σ = true then (if (f_X11_isPlace x1 σ) = 0 then some ((-1), σ) else (if (f_X11_isYear x2) = 0 then some ((-1), σ) else (bnd (F_X6_rising (mP σ 0) x1 x2 σ) (fun v τ => (F_X11_rise_30 v τ))))) else none)
set_option maxRecDepth 20000 in
theorem zb_X11_rise {S : Shp} {x1 : Int32} {x2 : Int32} {σ : Mm} {r : Int32 × Mm} (h : F_X11_rise x1 x2 σ = some r) : Z m_X11_rise S (Qi r) 0 [(0, .ref (sL S 0 0 0)), (1, .int (x1)), (2, .int (x2))] [] σ := by
  unfold F_X11_rise at h
  obtain ⟨g1, h⟩ := gd h
  refine z_aload_n dX11_rise_0 rfl 0 rfl ?_
  refine z_iload_n dX11_rise_1 rfl 1 rfl ?_
  have hp := g1
  refine z_callV (M' := m_X11_isPlace) (t := 0) (i := 0) (k := 0) (As := [.int (x1)]) (rest := []) kl_11_216 oy_X11_isPlace ⟨Nat.le_of_ble_eq_true rfl, Nat.le_of_ble_eq_true rfl⟩ rfl rfl rfl rfl (Nat.le_of_ble_eq_true rfl) rfl dX11_rise_2 (c_X11_isPlace hp rfl) (fun v τ hq => ?_)
  obtain ⟨rfl, hτ⟩ := hq
  subst τ
  change Z _ _ _ _ _ [.int (f_X11_isPlace x1 σ)] _
  refine z_if_eq (tgt := 15) dX11_rise_5 (by decide) (fun q => ?_) (fun q => ?_)
  · have h := (if_pos q).symm.trans h
    refine z_iconst (v := (-1)) dX11_rise_15 (by decide) ?_
    cases h
    exact z_ireturn dX11_rise_16 rfl rfl ⟨rfl, rfl⟩
  · have h := (if_neg q).symm.trans h
    refine z_iload_n dX11_rise_8 rfl 2 rfl ?_
    refine z_callS (M' := m_X11_isYear) (As := [.int (x2)]) (rest := []) kl_11_219 oy_X11_isYear ⟨Nat.le_of_ble_eq_true rfl, Nat.le_of_ble_eq_true rfl⟩ rfl (Nat.le_of_ble_eq_true rfl) rfl dX11_rise_9 (c_X11_isYear rfl) (fun v τ hq => ?_)
    obtain ⟨rfl, hτ⟩ := hq
    subst τ
    change Z _ _ _ _ _ [.int (f_X11_isYear x2)] _
    refine z_if_ne (tgt := 17) dX11_rise_12 (by decide) (fun q => ?_) (fun q => ?_)
    · have h := (if_neg q).symm.trans h
      refine z_aload_n dX11_rise_17 rfl 0 rfl ?_
      refine gf_11_60 rfl dX11_rise_18 ?_
      refine z_aload_n dX11_rise_21 rfl 0 rfl ?_
      refine gf_11_19 rfl dX11_rise_22 ?_
      refine z_iload_n dX11_rise_25 rfl 1 rfl ?_
      refine z_iload_n dX11_rise_26 rfl 2 rfl ?_
      obtain ⟨v, τ, hc, h⟩ := bnd_e h
      refine z_callV (M' := m_X6_rising) (t := 0) (i := 0) (k := 25) (As := [.ref (sL S 1 (mP σ 0) 0), .int (x1), .int (x2)]) (rest := []) kl_11_222 oy_X6_rising ⟨Nat.le_of_ble_eq_true rfl, Nat.le_of_ble_eq_true rfl⟩ rfl rfl rfl rfl (Nat.le_of_ble_eq_true rfl) rfl dX11_rise_27 (c_X6_rising (okP_0 hp) hc) (fun v2 τ2 hq => ?_)
      obtain ⟨rfl, hτ⟩ := hq
      subst τ2
      change Z _ _ _ _ _ [.int (v)] _
      refine Z.lv [] rfl ?_
      exact zb_X11_rise_30 h
    · have h := (if_pos q).symm.trans h
      refine z_iconst (v := (-1)) dX11_rise_15 (by decide) ?_
      cases h
      exact z_ireturn dX11_rise_16 rfl rfl ⟨rfl, rfl⟩
/-- SkyStones.rise(II)I -/
theorem c_X11_rise {S : Shp} {x1 : Int32} {x2 : Int32} {σ : Mm} {r : Int32 × Mm} (h : F_X11_rise x1 x2 σ = some r) : Ct m_X11_rise S [.ref (sL S 0 0 0), .int (x1), .int (x2)] σ (Qi r) := Ct.of (by decide +kernel) (Nat.le_of_ble_eq_true rfl) (zb_X11_rise h)
def F_X11_say_195 (s0 : Int32) (σ : Mm) : Option (Int32 × Mm) := (if s0 = 0 then some (5, σ) else some (6, σ))
set_option maxRecDepth 20000 in
theorem zb_X11_say_195 {S : Shp} {s0 : Int32} {σ : Mm} {r : Int32 × Mm} (h : F_X11_say_195 s0 σ = some r) : Z m_X11_say S (Qi r) 195 [] [.int (s0)] σ := by
  unfold F_X11_say_195 at h
  refine z_if_eq (tgt := 203) dX11_say_195 (by decide) (fun q => ?_) (fun q => ?_)
  · have h := (if_pos q).symm.trans h
    refine z_iconst (v := 5) dX11_say_203 (by decide) ?_
    cases h
    exact z_ireturn dX11_say_204 rfl rfl ⟨rfl, rfl⟩
  · have h := (if_neg q).symm.trans h
    refine z_bipush (v := 6) dX11_say_198 (by decide) ?_
    refine z_goto (tgt := 204) dX11_say_200 (by decide) ?_
    cases h
    exact z_ireturn dX11_say_204 rfl rfl ⟨rfl, rfl⟩
def F_X11_say_186 (x4 : Int32) (x5 : Int32) (σ : Mm) : Option (Int32 × Mm) := (bnd (F_X11_strikes x5 x4 1 σ) (fun v τ => (F_X11_say_195 v τ)))
set_option maxRecDepth 20000 in
theorem zb_X11_say_186 {S : Shp} {x4 : Int32} {x5 : Int32} {σ : Mm} {r : Int32 × Mm} (h : F_X11_say_186 x4 x5 σ = some r) : Z m_X11_say S (Qi r) 186 [(0, .ref (sL S 0 0 0)), (4, .int (x4)), (5, .int (x5))] [] σ := by
  unfold F_X11_say_186 at h
  refine z_aload_n dX11_say_186 rfl 0 rfl ?_
  refine z_iload dX11_say_187 2 rfl ?_
  refine z_iload dX11_say_189 1 rfl ?_
  refine z_iconst (v := 1) dX11_say_191 (by decide) ?_
  obtain ⟨v, τ, hc, h⟩ := bnd_e h
  refine z_callV (M' := m_X11_strikes) (t := 0) (i := 0) (k := 0) (As := [.int (x5), .int (x4), .int (1)]) (rest := []) kl_11_253 oy_X11_strikes ⟨Nat.le_of_ble_eq_true rfl, Nat.le_of_ble_eq_true rfl⟩ rfl rfl rfl rfl (Nat.le_of_ble_eq_true rfl) rfl dX11_say_192 (c_X11_strikes hc) (fun v2 τ2 hq => ?_)
  obtain ⟨rfl, hτ⟩ := hq
  subst τ2
  change Z _ _ _ _ _ [.int (v)] _
  refine Z.lv [] rfl ?_
  exact zb_X11_say_195 h
def F_X11_say_159 (x4 : Int32) (x5 : Int32) (σ : Mm) : Option (Int32 × Mm) := (if inb 5 9 = true then (if (mA σ 0 0 22 (5 : Int32).toNatClampNeg) = 0 then (if inb 6 9 = true then (if (mA σ 0 0 22 (6 : Int32).toNatClampNeg) = 0 then some (4, σ) else (F_X11_say_186 x4 x5 σ)) else none) else (F_X11_say_186 x4 x5 σ)) else none)
set_option maxRecDepth 20000 in
theorem zb_X11_say_159 {S : Shp} {x4 : Int32} {x5 : Int32} {σ : Mm} {r : Int32 × Mm} (h : F_X11_say_159 x4 x5 σ = some r) : Z m_X11_say S (Qi r) 159 [(0, .ref (sL S 0 0 0)), (4, .int (x4)), (5, .int (x5))] [] σ := by
  unfold F_X11_say_159 at h
  obtain ⟨g6, h⟩ := gd h
  refine z_aload_n dX11_say_159 rfl 0 rfl ?_
  refine gf_11_53 rfl dX11_say_160 ?_
  refine gf_11_201 rfl dX11_say_163 ?_
  refine z_iconst (v := 5) dX11_say_166 (by decide) ?_
  refine ia_0_22 (inb_in g6) dX11_say_167 ?_
  refine z_if_ne (tgt := 186) dX11_say_168 (by decide) (fun q => ?_) (fun q => ?_)
  · have h := (if_neg q).symm.trans h
    exact zb_X11_say_186 h
  · have h := (if_pos q).symm.trans h
    obtain ⟨g7, h⟩ := gd h
    refine z_aload_n dX11_say_171 rfl 0 rfl ?_
    refine gf_11_53 rfl dX11_say_172 ?_
    refine gf_11_201 rfl dX11_say_175 ?_
    refine z_bipush (v := 6) dX11_say_178 (by decide) ?_
    refine ia_0_22 (inb_in g7) dX11_say_180 ?_
    refine z_if_ne (tgt := 186) dX11_say_181 (by decide) (fun q => ?_) (fun q => ?_)
    · have h := (if_neg q).symm.trans h
      exact zb_X11_say_186 h
    · have h := (if_pos q).symm.trans h
      refine z_iconst (v := 4) dX11_say_184 (by decide) ?_
      cases h
      exact z_ireturn dX11_say_185 rfl rfl ⟨rfl, rfl⟩
def F_X11_say_140 (x1 : Int32) (x4 : Int32) (x5 : Int32) (s0 : Int32) (σ : Mm) : Option (Int32 × Mm) := (if s0 ≤ (18 : Int32) then (if okP σ = true then (bnv (F_X2_describe (mP σ 0) x1 σ) (fun τ => (F_X11_say_159 x4 x5 τ))) else none) else some (3, σ))
set_option maxRecDepth 20000 in
theorem zb_X11_say_140 {S : Shp} {x1 : Int32} {x4 : Int32} {x5 : Int32} {s0 : Int32} {σ : Mm} {r : Int32 × Mm} (h : F_X11_say_140 x1 x4 x5 s0 σ = some r) : Z m_X11_say S (Qi r) 140 [(0, .ref (sL S 0 0 0)), (1, .int (x1)), (4, .int (x4)), (5, .int (x5))] [.int (s0)] σ := by
  unfold F_X11_say_140 at h
  refine z_bipush (v := 18) dX11_say_140 (by decide) ?_
  refine z_icmp_le (tgt := 147) dX11_say_142 (by decide) (fun q => ?_) (fun q => ?_)
  · have h := (if_pos q).symm.trans h
    obtain ⟨g5, h⟩ := gd h
    refine z_aload_n dX11_say_147 rfl 0 rfl ?_
    refine gf_11_53 rfl dX11_say_148 ?_
    refine z_aload_n dX11_say_151 rfl 0 rfl ?_
    have hp := g5
    refine gf_11_19 rfl dX11_say_152 ?_
    refine z_iload_n dX11_say_155 rfl 1 rfl ?_
    obtain ⟨τ, hc, h⟩ := bnv_e h
    refine z_callV (M' := m_X2_describe) (t := 0) (i := 0) (k := 15) (As := [.ref (sL S 1 (mP σ 0) 0), .int (x1)]) (rest := []) kl_11_197 oy_X2_describe ⟨Nat.le_of_ble_eq_true rfl, Nat.le_of_ble_eq_true rfl⟩ rfl rfl rfl rfl (Nat.le_of_ble_eq_true rfl) rfl dX11_say_156 (c_X2_describe (okP_0 hp) hc) (fun v2 τ2 hq => ?_)
    obtain ⟨rfl, hτ⟩ := hq
    subst τ2
    change Z _ _ _ _ _ [] _
    refine Z.lv [0, 2, 3] rfl ?_
    exact zb_X11_say_159 h
  · have h := (if_neg q).symm.trans h
    refine z_iconst (v := 3) dX11_say_145 (by decide) ?_
    cases h
    exact z_ireturn dX11_say_146 rfl rfl ⟨rfl, rfl⟩
def F_X11_say_133 (x1 : Int32) (x4 : Int32) (x5 : Int32) (σ : Mm) : Option (Int32 × Mm) := (bnd (F_X10_asManyAsUnturned  σ) (fun v τ => (F_X11_say_140 x1 x4 x5 v τ)))
set_option maxRecDepth 20000 in
theorem zb_X11_say_133 {S : Shp} {x1 : Int32} {x4 : Int32} {x5 : Int32} {σ : Mm} {r : Int32 × Mm} (h : F_X11_say_133 x1 x4 x5 σ = some r) : Z m_X11_say S (Qi r) 133 [(0, .ref (sL S 0 0 0)), (1, .int (x1)), (4, .int (x4)), (5, .int (x5))] [] σ := by
  unfold F_X11_say_133 at h
  refine z_aload_n dX11_say_133 rfl 0 rfl ?_
  refine gf_11_67 rfl dX11_say_134 ?_
  obtain ⟨v, τ, hc, h⟩ := bnd_e h
  refine z_callV (M' := m_X10_asManyAsUnturned) (t := 0) (i := 0) (k := 29) (As := []) (rest := []) kl_11_264 oy_X10_asManyAsUnturned ⟨Nat.le_of_ble_eq_true rfl, Nat.le_of_ble_eq_true rfl⟩ rfl rfl rfl rfl (Nat.le_of_ble_eq_true rfl) rfl dX11_say_137 (c_X10_asManyAsUnturned hc) (fun v2 τ2 hq => ?_)
  obtain ⟨rfl, hτ⟩ := hq
  subst τ2
  change Z _ _ _ _ _ [.int (v)] _
  exact zb_X11_say_140 h
def F_X11_say_119 (x1 : Int32) (x2 : Int32) (x3 : Int32) (x4 : Int32) (x5 : Int32) (s0 : Int32) (σ : Mm) : Option (Int32 × Mm) := (if s0 = 0 then some (2, σ) else (bnv (F_X11_turnAll x4 x2 x3 ((-1)) σ) (fun τ => (F_X11_say_133 x1 x4 x5 τ))))
set_option maxRecDepth 20000 in
theorem zb_X11_say_119 {S : Shp} {x1 : Int32} {x2 : Int32} {x3 : Int32} {x4 : Int32} {x5 : Int32} {s0 : Int32} {σ : Mm} {r : Int32 × Mm} (h : F_X11_say_119 x1 x2 x3 x4 x5 s0 σ = some r) : Z m_X11_say S (Qi r) 119 [(0, .ref (sL S 0 0 0)), (1, .int (x1)), (2, .int (x2)), (3, .int (x3)), (4, .int (x4)), (5, .int (x5))] [.int (s0)] σ := by
  unfold F_X11_say_119 at h
  refine z_if_ne (tgt := 124) dX11_say_119 (by decide) (fun q => ?_) (fun q => ?_)
  · have h := (if_neg q).symm.trans h
    refine z_aload_n dX11_say_124 rfl 0 rfl ?_
    refine z_iload dX11_say_125 4 rfl ?_
    refine z_iload_n dX11_say_127 rfl 2 rfl ?_
    refine z_iload_n dX11_say_128 rfl 3 rfl ?_
    refine z_iconst (v := (-1)) dX11_say_129 (by decide) ?_
    obtain ⟨τ, hc, h⟩ := bnv_e h
    refine z_callV (M' := m_X11_turnAll) (t := 0) (i := 0) (k := 0) (As := [.int (x4), .int (x2), .int (x3), .int ((-1))]) (rest := []) kl_11_260 oy_X11_turnAll ⟨Nat.le_of_ble_eq_true rfl, Nat.le_of_ble_eq_true rfl⟩ rfl rfl rfl rfl (Nat.le_of_ble_eq_true rfl) rfl dX11_say_130 (c_X11_turnAll hc) (fun v2 τ2 hq => ?_)
    obtain ⟨rfl, hτ⟩ := hq
    subst τ2
    change Z _ _ _ _ _ [] _
    refine Z.lv [0, 1, 4, 5] rfl ?_
    exact zb_X11_say_133 h
  · have h := (if_pos q).symm.trans h
    refine z_iconst (v := 2) dX11_say_122 (by decide) ?_
    cases h
    exact z_ireturn dX11_say_123 rfl rfl ⟨rfl, rfl⟩
def F_X11_say_110 (x1 : Int32) (x2 : Int32) (x3 : Int32) (x4 : Int32) (x5 : Int32) (σ : Mm) : Option (Int32 × Mm) := (bnd (F_X11_strikes x5 x4 0 σ) (fun v τ => (F_X11_say_119 x1 x2 x3 x4 x5 v τ)))
set_option maxRecDepth 20000 in
theorem zb_X11_say_110 {S : Shp} {x1 : Int32} {x2 : Int32} {x3 : Int32} {x4 : Int32} {x5 : Int32} {σ : Mm} {r : Int32 × Mm} (h : F_X11_say_110 x1 x2 x3 x4 x5 σ = some r) : Z m_X11_say S (Qi r) 110 [(0, .ref (sL S 0 0 0)), (1, .int (x1)), (2, .int (x2)), (3, .int (x3)), (4, .int (x4)), (5, .int (x5))] [] σ := by
  unfold F_X11_say_110 at h
  refine z_aload_n dX11_say_110 rfl 0 rfl ?_
  refine z_iload dX11_say_111 5 rfl ?_
  refine z_iload dX11_say_113 4 rfl ?_
  refine z_iconst (v := 0) dX11_say_115 (by decide) ?_
  obtain ⟨v, τ, hc, h⟩ := bnd_e h
  refine z_callV (M' := m_X11_strikes) (t := 0) (i := 0) (k := 0) (As := [.int (x5), .int (x4), .int (0)]) (rest := []) kl_11_253 oy_X11_strikes ⟨Nat.le_of_ble_eq_true rfl, Nat.le_of_ble_eq_true rfl⟩ rfl rfl rfl rfl (Nat.le_of_ble_eq_true rfl) rfl dX11_say_116 (c_X11_strikes hc) (fun v2 τ2 hq => ?_)
  obtain ⟨rfl, hτ⟩ := hq
  subst τ2
  change Z _ _ _ _ _ [.int (v)] _
  exact zb_X11_say_119 h
def F_X11_say_96 (x1 : Int32) (x2 : Int32) (x3 : Int32) (x4 : Int32) (s0 : Int32) (σ : Mm) : Option (Int32 × Mm) := (if okP σ = true then (bnv (F_X6_watch (mP σ 0) x2 σ) (fun τ => (F_X11_say_110 x1 x2 x3 x4 s0 τ))) else none)
set_option maxRecDepth 20000 in
theorem zb_X11_say_96 {S : Shp} {x1 : Int32} {x2 : Int32} {x3 : Int32} {x4 : Int32} {s0 : Int32} {σ : Mm} {r : Int32 × Mm} (h : F_X11_say_96 x1 x2 x3 x4 s0 σ = some r) : Z m_X11_say S (Qi r) 96 [(0, .ref (sL S 0 0 0)), (1, .int (x1)), (2, .int (x2)), (3, .int (x3)), (4, .int (x4))] [.int (s0)] σ := by
  unfold F_X11_say_96 at h
  obtain ⟨g4, h⟩ := gd h
  refine z_istore (lv' := [(0, .ref (sL S 0 0 0)), (1, .int (x1)), (2, .int (x2)), (3, .int (x3)), (4, .int (x4)), (5, .int (s0))]) dX11_say_96 (by decide) [1, 2, 3, 4, 5, 0] rfl ?_
  refine z_aload_n dX11_say_98 rfl 0 rfl ?_
  refine gf_11_60 rfl dX11_say_99 ?_
  refine z_aload_n dX11_say_102 rfl 0 rfl ?_
  have hp := g4
  refine gf_11_19 rfl dX11_say_103 ?_
  refine z_iload_n dX11_say_106 rfl 2 rfl ?_
  obtain ⟨τ, hc, h⟩ := bnv_e h
  refine z_callV (M' := m_X6_watch) (t := 0) (i := 0) (k := 25) (As := [.ref (sL S 1 (mP σ 0) 0), .int (x2)]) (rest := []) kl_11_226 oy_X6_watch ⟨Nat.le_of_ble_eq_true rfl, Nat.le_of_ble_eq_true rfl⟩ rfl rfl rfl rfl (Nat.le_of_ble_eq_true rfl) rfl dX11_say_107 (c_X6_watch (okP_0 hp) hc) (fun v2 τ2 hq => ?_)
  obtain ⟨rfl, hτ⟩ := hq
  subst τ2
  change Z _ _ _ _ _ [] _
  exact zb_X11_say_110 h
def F_X11_say_88 (x1 : Int32) (x2 : Int32) (x3 : Int32) (x4 : Int32) (σ : Mm) : Option (Int32 × Mm) := (bnd (F_X2_bearingOf x1 σ) (fun v τ => (F_X11_say_96 x1 x2 x3 x4 v τ)))
set_option maxRecDepth 20000 in
theorem zb_X11_say_88 {S : Shp} {x1 : Int32} {x2 : Int32} {x3 : Int32} {x4 : Int32} {σ : Mm} {r : Int32 × Mm} (h : F_X11_say_88 x1 x2 x3 x4 σ = some r) : Z m_X11_say S (Qi r) 88 [(0, .ref (sL S 0 0 0)), (1, .int (x1)), (2, .int (x2)), (3, .int (x3)), (4, .int (x4))] [] σ := by
  unfold F_X11_say_88 at h
  refine z_aload_n dX11_say_88 rfl 0 rfl ?_
  refine gf_11_53 rfl dX11_say_89 ?_
  refine z_iload_n dX11_say_92 rfl 1 rfl ?_
  obtain ⟨v, τ, hc, h⟩ := bnd_e h
  refine z_callV (M' := m_X2_bearingOf) (t := 0) (i := 0) (k := 15) (As := [.int (x1)]) (rest := []) kl_11_229 oy_X2_bearingOf ⟨Nat.le_of_ble_eq_true rfl, Nat.le_of_ble_eq_true rfl⟩ rfl rfl rfl rfl (Nat.le_of_ble_eq_true rfl) rfl dX11_say_93 (c_X2_bearingOf hc) (fun v2 τ2 hq => ?_)
  obtain ⟨rfl, hτ⟩ := hq
  subst τ2
  change Z _ _ _ _ _ [.int (v)] _
  exact zb_X11_say_96 h
def F_X11_say_70 (x1 : Int32) (x2 : Int32) (x3 : Int32) (s0 : Int32) (σ : Mm) : Option (Int32 × Mm) := (if s0 = 0 then some (1, σ) else (if okP σ = true then (F_X11_say_88 x1 x2 x3 (((1 : Int32) <<< ((mA σ 1 (mP σ 0) 0 12) &&& 31)) - (1 : Int32)) σ) else none))
set_option maxRecDepth 20000 in
theorem zb_X11_say_70 {S : Shp} {x1 : Int32} {x2 : Int32} {x3 : Int32} {s0 : Int32} {σ : Mm} {r : Int32 × Mm} (h : F_X11_say_70 x1 x2 x3 s0 σ = some r) : Z m_X11_say S (Qi r) 70 [(0, .ref (sL S 0 0 0)), (1, .int (x1)), (2, .int (x2)), (3, .int (x3))] [.int (s0)] σ := by
  unfold F_X11_say_70 at h
  refine z_if_ne (tgt := 75) dX11_say_70 (by decide) (fun q => ?_) (fun q => ?_)
  · have h := (if_neg q).symm.trans h
    obtain ⟨g3, h⟩ := gd h
    refine z_iconst (v := 1) dX11_say_75 (by decide) ?_
    refine z_aload_n dX11_say_76 rfl 0 rfl ?_
    have hp := g3
    refine gf_11_19 rfl dX11_say_77 ?_
    refine gf_11_341 (lv1 (okP_0 hp) rfl) rfl dX11_say_80 ?_
    refine z_ishl dX11_say_83 ?_
    refine z_iconst (v := 1) dX11_say_84 (by decide) ?_
    refine z_isub dX11_say_85 ?_
    refine z_istore (lv' := [(0, .ref (sL S 0 0 0)), (1, .int (x1)), (2, .int (x2)), (3, .int (x3)), (4, .int (((1 : Int32) <<< ((mA σ 1 (mP σ 0) 0 12) &&& 31)) - (1 : Int32)))]) dX11_say_86 (by decide) [1, 2, 3, 4, 0] rfl ?_
    exact zb_X11_say_88 h
  · have h := (if_pos q).symm.trans h
    refine z_iconst (v := 1) dX11_say_73 (by decide) ?_
    cases h
    exact z_ireturn dX11_say_74 rfl rfl ⟨rfl, rfl⟩
def F_X11_say_52 (x1 : Int32) (x2 : Int32) (x3 : Int32) (s0 : Int32) (σ : Mm) : Option (Int32 × Mm) := (if s0 = 0 then some (0, σ) else (if okP σ = true then (bnd (F_X2_holds (mP σ 0) x1 ((-1)) σ) (fun v τ => (F_X11_say_70 x1 x2 x3 v τ))) else none))
set_option maxRecDepth 20000 in
theorem zb_X11_say_52 {S : Shp} {x1 : Int32} {x2 : Int32} {x3 : Int32} {s0 : Int32} {σ : Mm} {r : Int32 × Mm} (h : F_X11_say_52 x1 x2 x3 s0 σ = some r) : Z m_X11_say S (Qi r) 52 [(0, .ref (sL S 0 0 0)), (1, .int (x1)), (2, .int (x2)), (3, .int (x3))] [.int (s0)] σ := by
  unfold F_X11_say_52 at h
  refine z_if_ne (tgt := 57) dX11_say_52 (by decide) (fun q => ?_) (fun q => ?_)
  · have h := (if_neg q).symm.trans h
    obtain ⟨g2, h⟩ := gd h
    refine z_aload_n dX11_say_57 rfl 0 rfl ?_
    refine gf_11_53 rfl dX11_say_58 ?_
    refine z_aload_n dX11_say_61 rfl 0 rfl ?_
    have hp := g2
    refine gf_11_19 rfl dX11_say_62 ?_
    refine z_iload_n dX11_say_65 rfl 1 rfl ?_
    refine z_iconst (v := (-1)) dX11_say_66 (by decide) ?_
    obtain ⟨v, τ, hc, h⟩ := bnd_e h
    refine z_callV (M' := m_X2_holds) (t := 0) (i := 0) (k := 15) (As := [.ref (sL S 1 (mP σ 0) 0), .int (x1), .int ((-1))]) (rest := []) kl_11_193 oy_X2_holds ⟨Nat.le_of_ble_eq_true rfl, Nat.le_of_ble_eq_true rfl⟩ rfl rfl rfl rfl (Nat.le_of_ble_eq_true rfl) rfl dX11_say_67 (c_X2_holds (okP_0 hp) hc) (fun v2 τ2 hq => ?_)
    obtain ⟨rfl, hτ⟩ := hq
    subst τ2
    change Z _ _ _ _ _ [.int (v)] _
    exact zb_X11_say_70 h
  · have h := (if_pos q).symm.trans h
    refine z_iconst (v := 0) dX11_say_55 (by decide) ?_
    cases h
    exact z_ireturn dX11_say_56 rfl rfl ⟨rfl, rfl⟩
def F_X11_say_44 (x1 : Int32) (x2 : Int32) (x3 : Int32) (σ : Mm) : Option (Int32 × Mm) := (bnd (F_X2_joins x1 σ) (fun v τ => (F_X11_say_52 x1 x2 x3 v τ)))
set_option maxRecDepth 20000 in
theorem zb_X11_say_44 {S : Shp} {x1 : Int32} {x2 : Int32} {x3 : Int32} {σ : Mm} {r : Int32 × Mm} (h : F_X11_say_44 x1 x2 x3 σ = some r) : Z m_X11_say S (Qi r) 44 [(0, .ref (sL S 0 0 0)), (1, .int (x1)), (2, .int (x2)), (3, .int (x3))] [] σ := by
  unfold F_X11_say_44 at h
  refine z_aload_n dX11_say_44 rfl 0 rfl ?_
  refine gf_11_53 rfl dX11_say_45 ?_
  refine z_iload_n dX11_say_48 rfl 1 rfl ?_
  obtain ⟨v, τ, hc, h⟩ := bnd_e h
  refine z_callV (M' := m_X2_joins) (t := 0) (i := 0) (k := 15) (As := [.int (x1)]) (rest := []) kl_11_190 oy_X2_joins ⟨Nat.le_of_ble_eq_true rfl, Nat.le_of_ble_eq_true rfl⟩ rfl rfl rfl rfl (Nat.le_of_ble_eq_true rfl) rfl dX11_say_49 (c_X2_joins hc) (fun v2 τ2 hq => ?_)
  obtain ⟨rfl, hτ⟩ := hq
  subst τ2
  change Z _ _ _ _ _ [.int (v)] _
  exact zb_X11_say_52 h
def F_X11_say (x1 : Int32) (x2 : Int32) (x3 : Int32) (σ : Mm) : Option (Int32 × Mm) := (if x1 < 0 then some ((-1), σ) else (if (196 : Int32) ≤ x1 then some ((-1), σ) else (if (f_X11_isYear x2) = 0 then some ((-1), σ) else (if okP σ = true then (if (f_X11_isKnown x3 σ) = 0 then some ((-1), σ) else (bnv (F_X2_know (mP σ 0) 0 x3 σ) (fun τ => (F_X11_say_44 x1 x2 x3 τ)))) else none))))
set_option maxRecDepth 20000 in
theorem zb_X11_say {S : Shp} {x1 : Int32} {x2 : Int32} {x3 : Int32} {σ : Mm} {r : Int32 × Mm} (h : F_X11_say x1 x2 x3 σ = some r) : Z m_X11_say S (Qi r) 0 [(0, .ref (sL S 0 0 0)), (1, .int (x1)), (2, .int (x2)), (3, .int (x3))] [] σ := by
  unfold F_X11_say at h
  refine z_iload_n dX11_say_0 rfl 1 rfl ?_
  refine z_if_lt (tgt := 26) dX11_say_1 (by decide) (fun q => ?_) (fun q => ?_)
  · have h := (if_pos q).symm.trans h
    refine z_iconst (v := (-1)) dX11_say_26 (by decide) ?_
    cases h
    exact z_ireturn dX11_say_27 rfl rfl ⟨rfl, rfl⟩
  · have h := (if_neg q).symm.trans h
    refine z_iload_n dX11_say_4 rfl 1 rfl ?_
    refine z_sipush (v := 196) dX11_say_5 (by decide) ?_
    refine z_icmp_ge (tgt := 26) dX11_say_8 (by decide) (fun q => ?_) (fun q => ?_)
    · have h := (if_pos q).symm.trans h
      refine z_iconst (v := (-1)) dX11_say_26 (by decide) ?_
      cases h
      exact z_ireturn dX11_say_27 rfl rfl ⟨rfl, rfl⟩
    · have h := (if_neg q).symm.trans h
      refine z_iload_n dX11_say_11 rfl 2 rfl ?_
      refine z_callS (M' := m_X11_isYear) (As := [.int (x2)]) (rest := []) kl_11_219 oy_X11_isYear ⟨Nat.le_of_ble_eq_true rfl, Nat.le_of_ble_eq_true rfl⟩ rfl (Nat.le_of_ble_eq_true rfl) rfl dX11_say_12 (c_X11_isYear rfl) (fun v τ hq => ?_)
      obtain ⟨rfl, hτ⟩ := hq
      subst τ
      change Z _ _ _ _ _ [.int (f_X11_isYear x2)] _
      refine z_if_eq (tgt := 26) dX11_say_15 (by decide) (fun q => ?_) (fun q => ?_)
      · have h := (if_pos q).symm.trans h
        refine z_iconst (v := (-1)) dX11_say_26 (by decide) ?_
        cases h
        exact z_ireturn dX11_say_27 rfl rfl ⟨rfl, rfl⟩
      · have h := (if_neg q).symm.trans h
        obtain ⟨g1, h⟩ := gd h
        refine z_aload_n dX11_say_18 rfl 0 rfl ?_
        refine z_iload_n dX11_say_19 rfl 3 rfl ?_
        have hp := g1
        refine z_callV (M' := m_X11_isKnown) (t := 0) (i := 0) (k := 0) (As := [.int (x3)]) (rest := []) kl_11_152 oy_X11_isKnown ⟨Nat.le_of_ble_eq_true rfl, Nat.le_of_ble_eq_true rfl⟩ rfl rfl rfl rfl (Nat.le_of_ble_eq_true rfl) rfl dX11_say_20 (c_X11_isKnown hp rfl) (fun v τ hq => ?_)
        obtain ⟨rfl, hτ⟩ := hq
        subst τ
        change Z _ _ _ _ _ [.int (f_X11_isKnown x3 σ)] _
        refine z_if_ne (tgt := 28) dX11_say_23 (by decide) (fun q => ?_) (fun q => ?_)
        · have h := (if_neg q).symm.trans h
          refine z_aload_n dX11_say_28 rfl 0 rfl ?_
          refine gf_11_53 rfl dX11_say_29 ?_
          refine z_aload_n dX11_say_32 rfl 0 rfl ?_
          refine gf_11_19 rfl dX11_say_33 ?_
          refine z_aload_n dX11_say_36 rfl 0 rfl ?_
          refine gf_11_38 rfl dX11_say_37 ?_
          refine z_iload_n dX11_say_40 rfl 3 rfl ?_
          obtain ⟨τ, hc, h⟩ := bnv_e h
          refine z_callV (M' := m_X2_know) (t := 0) (i := 0) (k := 15) (As := [.ref (sL S 1 (mP σ 0) 0), .ref (sL S 2 0 0), .int (x3)]) (rest := []) kl_11_155 oy_X2_know ⟨Nat.le_of_ble_eq_true rfl, Nat.le_of_ble_eq_true rfl⟩ rfl rfl rfl rfl (Nat.le_of_ble_eq_true rfl) rfl dX11_say_41 (c_X2_know (okP_0 hp) rfl hc) (fun v2 τ2 hq => ?_)
          obtain ⟨rfl, hτ⟩ := hq
          subst τ2
          change Z _ _ _ _ _ [] _
          exact zb_X11_say_44 h
        · have h := (if_pos q).symm.trans h
          refine z_iconst (v := (-1)) dX11_say_26 (by decide) ?_
          cases h
          exact z_ireturn dX11_say_27 rfl rfl ⟨rfl, rfl⟩
/-- SkyStones.say(III)I -/
theorem c_X11_say {S : Shp} {x1 : Int32} {x2 : Int32} {x3 : Int32} {σ : Mm} {r : Int32 × Mm} (h : F_X11_say x1 x2 x3 σ = some r) : Ct m_X11_say S [.ref (sL S 0 0 0), .int (x1), .int (x2), .int (x3)] σ (Qi r) := Ct.of (by decide +kernel) (Nat.le_of_ble_eq_true rfl) (zb_X11_say h)
