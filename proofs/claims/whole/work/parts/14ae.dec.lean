def F_X7_forget_7 (i0 : Nat) (s0 : Int32) (σ : Mm) : Option (Mm) := some (setA σ 2 i0 0 (upd (mA σ 2 i0 0) 1 s0))
set_option maxRecDepth 20000 in
theorem zb_X7_forget_7 {S : Shp} {i0 : Nat} (hi0 : slv (sH S) i0 = true) {s0 : Int32} {σ : Mm} {r : Mm} (h : F_X7_forget_7 i0 s0 σ = some r) : Z m_X7_forget S (Qv r) 7 [] [.int (s0), .ref (sL S 2 i0 0)] σ := by
  unfold F_X7_forget_7 at h
  refine pf_7_15 (lv2 (hi0) rfl) rfl dX7_forget_7 ?_
  cases h
  exact z_return dX7_forget_10 rfl ⟨rfl, rfl⟩
def F_X7_forget (i0 : Nat) (σ : Mm) : Option (Mm) := (F_X7_forget_7 i0 0 (setA σ 2 i0 0 (upd (mA σ 2 i0 0) 0 0)))
set_option maxRecDepth 20000 in
theorem zb_X7_forget {S : Shp} {i0 : Nat} (hi0 : slv (sH S) i0 = true) {σ : Mm} {r : Mm} (h : F_X7_forget i0 σ = some r) : Z m_X7_forget S (Qv r) 0 [(0, .ref (sL S 2 i0 0))] [] σ := by
  unfold F_X7_forget at h
  refine z_aload_n dX7_forget_0 rfl 0 rfl ?_
  refine z_iconst (v := 0) dX7_forget_1 (by decide) ?_
  refine pf_7_9 (lv2 (hi0) rfl) rfl dX7_forget_2 ?_
  refine z_aload_n dX7_forget_5 rfl 0 rfl ?_
  refine z_iconst (v := 0) dX7_forget_6 (by decide) ?_
  refine Z.lv [] rfl ?_
  exact zb_X7_forget_7 (hi0) h
/-- SkyStones$Survey.forget()V -/
theorem c_X7_forget {S : Shp} {i0 : Nat} (hi0 : slv (sH S) i0 = true) {σ : Mm} {r : Mm} (h : F_X7_forget i0 σ = some r) : Ct m_X7_forget S [.ref (sL S 2 i0 0)] σ (Qv r) := Ct.of (by decide) (Nat.le_of_ble_eq_true rfl) (zb_X7_forget hi0 h)
def F_X8_sign (x1 : Int32) (σ : Mm) : Option (Int32 × Mm) := (if x1 < 0 then some (0, σ) else (if (mA σ 0 0 6 0) ≤ x1 then some (0, σ) else (if inb x1 2000 = true then some ((mA σ 0 0 7 x1.toNatClampNeg) &&& 255, σ) else none)))
set_option maxRecDepth 20000 in
theorem zb_X8_sign {S : Shp} {x1 : Int32} {σ : Mm} {r : Int32 × Mm} (h : F_X8_sign x1 σ = some r) : Z m_X8_sign S (Qi r) 0 [(0, .ref (sL S 0 0 6)), (1, .int (x1))] [] σ := by
  unfold F_X8_sign at h
  refine z_iload_n dX8_sign_0 rfl 1 rfl ?_
  refine z_if_lt (tgt := 25) dX8_sign_1 (by decide) (fun q => ?_) (fun q => ?_)
  · have h := (if_pos q).symm.trans h
    refine z_iconst (v := 0) dX8_sign_25 (by decide) ?_
    cases h
    exact z_ireturn dX8_sign_26 rfl rfl ⟨rfl, rfl⟩
  · have h := (if_neg q).symm.trans h
    refine z_iload_n dX8_sign_4 rfl 1 rfl ?_
    refine z_aload_n dX8_sign_5 rfl 0 rfl ?_
    refine gf_8_9 rfl dX8_sign_6 ?_
    refine z_icmp_ge (tgt := 25) dX8_sign_9 (by decide) (fun q => ?_) (fun q => ?_)
    · have h := (if_pos q).symm.trans h
      refine z_iconst (v := 0) dX8_sign_25 (by decide) ?_
      cases h
      exact z_ireturn dX8_sign_26 rfl rfl ⟨rfl, rfl⟩
    · have h := (if_neg q).symm.trans h
      obtain ⟨g1, h⟩ := gd h
      refine z_aload_n dX8_sign_12 rfl 0 rfl ?_
      refine gf_8_15 rfl dX8_sign_13 ?_
      refine z_iload_n dX8_sign_16 rfl 1 rfl ?_
      refine ia_0_7 (inb_in g1) dX8_sign_17 ?_
      refine z_sipush (v := 255) dX8_sign_18 (by decide) ?_
      refine z_iand dX8_sign_21 ?_
      refine z_goto (tgt := 26) dX8_sign_22 (by decide) ?_
      cases h
      exact z_ireturn dX8_sign_26 rfl rfl ⟨rfl, rfl⟩
/-- SkyStones$Tape.sign(I)I -/
theorem c_X8_sign {S : Shp} {x1 : Int32} {σ : Mm} {r : Int32 × Mm} (h : F_X8_sign x1 σ = some r) : Ct m_X8_sign S [.ref (sL S 0 0 6), .int (x1)] σ (Qi r) := Ct.of (by decide) (Nat.le_of_ble_eq_true rfl) (zb_X8_sign h)
def F_X8_behindBlanks_42 (rc2 : Int32 → Mm → Option (Int32 × Mm)) (x2 : Int32) (σ : Mm) : Option (Int32 × Mm) := (rc2 (x2 + 1) σ)
set_option maxRecDepth 20000 in
theorem zb_X8_behindBlanks_42 {S : Shp} {rc2 : Int32 → Mm → Option (Int32 × Mm)} (hrc2 : ∀ {x2 : Int32} {σ : Mm} {r : Int32 × Mm}, rc2 x2 σ = some r → Z m_X8_behindBlanks S (Qi r) 2 [(0, .ref (sL S 0 0 6)), (2, .int (x2))] [] σ) {x2 : Int32} {σ : Mm} {r : Int32 × Mm} (h : F_X8_behindBlanks_42 rc2 x2 σ = some r) : Z m_X8_behindBlanks S (Qi r) 42 [(0, .ref (sL S 0 0 6)), (2, .int (x2))] [] σ := by
  unfold F_X8_behindBlanks_42 at h
  refine z_iinc (j := 1) (v := x2 + 1) dX8_behindBlanks_42 rfl rfl (by decide) [1, 0] rfl ?_
  refine z_goto (tgt := 2) dX8_behindBlanks_45 (by decide) ?_
  exact hrc2 h
def F_X8_behindBlanks_15 (rc2 : Int32 → Mm → Option (Int32 × Mm)) (x2 : Int32) (s0 : Int32) (σ : Mm) : Option (Int32 × Mm) := (if s0 = 9 then (F_X8_behindBlanks_42 rc2 x2 σ) else (if s0 = 10 then (F_X8_behindBlanks_42 rc2 x2 σ) else (if s0 = 13 then (F_X8_behindBlanks_42 rc2 x2 σ) else (if s0 = 32 then (F_X8_behindBlanks_42 rc2 x2 σ) else some (x2, σ)))))
set_option maxRecDepth 20000 in
theorem zb_X8_behindBlanks_15 {S : Shp} {rc2 : Int32 → Mm → Option (Int32 × Mm)} (hrc2 : ∀ {x2 : Int32} {σ : Mm} {r : Int32 × Mm}, rc2 x2 σ = some r → Z m_X8_behindBlanks S (Qi r) 2 [(0, .ref (sL S 0 0 6)), (2, .int (x2))] [] σ) {x2 : Int32} {s0 : Int32} {σ : Mm} {r : Int32 × Mm} (h : F_X8_behindBlanks_15 rc2 x2 s0 σ = some r) : Z m_X8_behindBlanks S (Qi r) 15 [(0, .ref (sL S 0 0 6)), (2, .int (x2))] [.int (s0)] σ := by
  unfold F_X8_behindBlanks_15 at h
  refine z_istore_n dX8_behindBlanks_15 rfl (by decide) [1, 2, 0] rfl ?_
  refine z_iload_n dX8_behindBlanks_16 rfl 2 rfl ?_
  refine z_bipush (v := 9) dX8_behindBlanks_17 (by decide) ?_
  refine z_icmp_eq (tgt := 42) dX8_behindBlanks_19 (by decide) (fun q => ?_) (fun q => ?_)
  · have h := (if_pos q).symm.trans h
    refine Z.lv [0, 1] rfl ?_
    exact zb_X8_behindBlanks_42 hrc2 h
  · have h := (if_neg q).symm.trans h
    refine z_iload_n dX8_behindBlanks_22 rfl 2 rfl ?_
    refine z_bipush (v := 10) dX8_behindBlanks_23 (by decide) ?_
    refine z_icmp_eq (tgt := 42) dX8_behindBlanks_25 (by decide) (fun q => ?_) (fun q => ?_)
    · have h := (if_pos q).symm.trans h
      refine Z.lv [0, 1] rfl ?_
      exact zb_X8_behindBlanks_42 hrc2 h
    · have h := (if_neg q).symm.trans h
      refine z_iload_n dX8_behindBlanks_28 rfl 2 rfl ?_
      refine z_bipush (v := 13) dX8_behindBlanks_29 (by decide) ?_
      refine z_icmp_eq (tgt := 42) dX8_behindBlanks_31 (by decide) (fun q => ?_) (fun q => ?_)
      · have h := (if_pos q).symm.trans h
        refine Z.lv [0, 1] rfl ?_
        exact zb_X8_behindBlanks_42 hrc2 h
      · have h := (if_neg q).symm.trans h
        refine z_iload_n dX8_behindBlanks_34 rfl 2 rfl ?_
        refine z_bipush (v := 32) dX8_behindBlanks_35 (by decide) ?_
        refine z_icmp_eq (tgt := 42) dX8_behindBlanks_37 (by decide) (fun q => ?_) (fun q => ?_)
        · have h := (if_pos q).symm.trans h
          refine Z.lv [0, 1] rfl ?_
          exact zb_X8_behindBlanks_42 hrc2 h
        · have h := (if_neg q).symm.trans h
          refine z_iload_n dX8_behindBlanks_40 rfl 1 rfl ?_
          cases h
          exact z_ireturn dX8_behindBlanks_41 rfl rfl ⟨rfl, rfl⟩
def B_X8_behindBlanks_2 (rc2 : Int32 → Mm → Option (Int32 × Mm)) (x2 : Int32) (σ : Mm) : Option (Int32 × Mm) := (if (mA σ 0 0 6 0) ≤ x2 then some (mA σ 0 0 6 0, σ) else (bnd (F_X8_sign x2 σ) (fun v τ => (F_X8_behindBlanks_15 rc2 x2 v τ))))
set_option maxRecDepth 20000 in
theorem zB_X8_behindBlanks_2 {S : Shp} {rc2 : Int32 → Mm → Option (Int32 × Mm)} (hrc2 : ∀ {x2 : Int32} {σ : Mm} {r : Int32 × Mm}, rc2 x2 σ = some r → Z m_X8_behindBlanks S (Qi r) 2 [(0, .ref (sL S 0 0 6)), (2, .int (x2))] [] σ) {x2 : Int32} {σ : Mm} {r : Int32 × Mm} (h : B_X8_behindBlanks_2 rc2 x2 σ = some r) : Z m_X8_behindBlanks S (Qi r) 2 [(0, .ref (sL S 0 0 6)), (2, .int (x2))] [] σ := by
  unfold B_X8_behindBlanks_2 at h
  refine z_iload_n dX8_behindBlanks_2 rfl 1 rfl ?_
  refine z_aload_n dX8_behindBlanks_3 rfl 0 rfl ?_
  refine gf_8_9 rfl dX8_behindBlanks_4 ?_
  refine z_icmp_ge (tgt := 48) dX8_behindBlanks_7 (by decide) (fun q => ?_) (fun q => ?_)
  · have h := (if_pos q).symm.trans h
    refine z_aload_n dX8_behindBlanks_48 rfl 0 rfl ?_
    refine gf_8_9 rfl dX8_behindBlanks_49 ?_
    cases h
    exact z_ireturn dX8_behindBlanks_52 rfl rfl ⟨rfl, rfl⟩
  · have h := (if_neg q).symm.trans h
    refine z_aload_n dX8_behindBlanks_10 rfl 0 rfl ?_
    refine z_iload_n dX8_behindBlanks_11 rfl 1 rfl ?_
    obtain ⟨v, τ, hc, h⟩ := bnd_e h
    refine z_callV (M' := m_X8_sign) (t := 0) (i := 0) (k := 6) (As := [.int (x2)]) (rest := []) kl_8_43 oy_X8_sign ⟨Nat.le_of_ble_eq_true rfl, Nat.le_of_ble_eq_true rfl⟩ rfl rfl rfl rfl (Nat.le_of_ble_eq_true rfl) rfl dX8_behindBlanks_12 (c_X8_sign hc) (fun v2 τ2 hq => ?_)
    obtain ⟨rfl, rfl⟩ := hq
    change Z _ _ _ _ _ [.int (v)] _
    exact zb_X8_behindBlanks_15 hrc2 h
def F_X8_behindBlanks_2 : Nat → Int32 → Mm → Option (Int32 × Mm)
  | 0 => fun _ _ => none
  | n + 1 => B_X8_behindBlanks_2 (F_X8_behindBlanks_2 n)
theorem zl_X8_behindBlanks_2 {S : Shp} (n : Nat) {x2 : Int32} {σ : Mm} {r : Int32 × Mm} (h : F_X8_behindBlanks_2 n x2 σ = some r) : Z m_X8_behindBlanks S (Qi r) 2 [(0, .ref (sL S 0 0 6)), (2, .int (x2))] [] σ := by
  induction n generalizing x2 σ r with
  | zero => cases h
  | succ n ih => exact zB_X8_behindBlanks_2 (fun h => ih h) h
def F_X8_behindBlanks (x1 : Int32) (σ : Mm) : Option (Int32 × Mm) := (F_X8_behindBlanks_2 FU x1 σ)
set_option maxRecDepth 20000 in
theorem zb_X8_behindBlanks {S : Shp} {x1 : Int32} {σ : Mm} {r : Int32 × Mm} (h : F_X8_behindBlanks x1 σ = some r) : Z m_X8_behindBlanks S (Qi r) 0 [(0, .ref (sL S 0 0 6)), (1, .int (x1))] [] σ := by
  unfold F_X8_behindBlanks at h
  refine z_iload_n dX8_behindBlanks_0 rfl 1 rfl ?_
  refine z_istore_n dX8_behindBlanks_1 rfl (by decide) [1, 2, 0] rfl ?_
  refine Z.lv [0, 2] rfl ?_
  exact zl_X8_behindBlanks_2 FU h
/-- SkyStones$Tape.behindBlanks(I)I -/
theorem c_X8_behindBlanks {S : Shp} {x1 : Int32} {σ : Mm} {r : Int32 × Mm} (h : F_X8_behindBlanks x1 σ = some r) : Ct m_X8_behindBlanks S [.ref (sL S 0 0 6), .int (x1)] σ (Qi r) := Ct.of (by decide) (Nat.le_of_ble_eq_true rfl) (zb_X8_behindBlanks h)
def f_X8_isDigit (x0 : Int32) : Int32 := (if x0 < 48 then 0 else (if 57 < x0 then 0 else 1))
set_option maxRecDepth 20000 in
theorem zb_X8_isDigit {S : Shp} {x0 : Int32} {σ : Mm} {r : Int32} (h : f_X8_isDigit x0 = r) : Z m_X8_isDigit S (Qi (r, σ)) 0 [(0, .int (x0))] [] σ := by
  unfold f_X8_isDigit at h
  refine z_iload_n dX8_isDigit_0 rfl 0 rfl ?_
  refine z_bipush (v := 48) dX8_isDigit_1 (by decide) ?_
  refine z_icmp_lt (tgt := 16) dX8_isDigit_3 (by decide) (fun q => ?_) (fun q => ?_)
  · have h := (if_pos q).symm.trans h
    refine z_iconst (v := 0) dX8_isDigit_16 (by decide) ?_
    subst h
    exact z_ireturn dX8_isDigit_17 rfl rfl ⟨rfl, rfl⟩
  · have h := (if_neg q).symm.trans h
    refine z_iload_n dX8_isDigit_6 rfl 0 rfl ?_
    refine z_bipush (v := 57) dX8_isDigit_7 (by decide) ?_
    refine z_icmp_gt (tgt := 16) dX8_isDigit_9 (by decide) (fun q => ?_) (fun q => ?_)
    · have h := (if_pos q).symm.trans h
      refine z_iconst (v := 0) dX8_isDigit_16 (by decide) ?_
      subst h
      exact z_ireturn dX8_isDigit_17 rfl rfl ⟨rfl, rfl⟩
    · have h := (if_neg q).symm.trans h
      refine z_iconst (v := 1) dX8_isDigit_12 (by decide) ?_
      refine z_goto (tgt := 17) dX8_isDigit_13 (by decide) ?_
      subst h
      exact z_ireturn dX8_isDigit_17 rfl rfl ⟨rfl, rfl⟩
/-- SkyStones$Tape.isDigit(I)Z -/
theorem c_X8_isDigit {S : Shp} {x0 : Int32} {σ : Mm} {r : Int32} (h : f_X8_isDigit x0 = r) : Ct m_X8_isDigit S [.int (x0)] σ (Qi (r, σ)) := Ct.of (by decide) (Nat.le_of_ble_eq_true rfl) (zb_X8_isDigit h)
def F_X8_cutNumber_76 (x2 : Int32) (x3 : Int32) (σ : Mm) : Option (Int32 × Mm) := (if inb (mA σ 0 0 6 2) 402 = true then some (x3, setA σ 0 0 10 (upd (mA σ 0 0 10) (mA σ 0 0 6 2).toNatClampNeg x2)) else none)
set_option maxRecDepth 20000 in
theorem zb_X8_cutNumber_76 {S : Shp} {x2 : Int32} {x3 : Int32} {σ : Mm} {r : Int32 × Mm} (h : F_X8_cutNumber_76 x2 x3 σ = some r) : Z m_X8_cutNumber S (Qi r) 76 [(2, .int (x2)), (3, .int (x3))] [.ref (sL S 0 0 6), .ref (sL S 0 0 10)] σ := by
  unfold F_X8_cutNumber_76 at h
  obtain ⟨g2, h⟩ := gd h
  refine gf_8_19 rfl dX8_cutNumber_76 ?_
  refine z_iload_n dX8_cutNumber_79 rfl 0 rfl ?_
  refine is_0_10 (inb_in g2) dX8_cutNumber_80 ?_
  refine z_iload_n dX8_cutNumber_81 rfl 1 rfl ?_
  cases h
  exact z_ireturn dX8_cutNumber_82 rfl rfl ⟨rfl, rfl⟩
def F_X8_cutNumber_70 (x2 : Int32) (x3 : Int32) (s0 : Int32) (s1 : Int32) (σ : Mm) : Option (Int32 × Mm) := (if inb s1 402 = true then (F_X8_cutNumber_76 x2 x3 (setA σ 0 0 8 (upd (mA σ 0 0 8) s1.toNatClampNeg s0))) else none)
set_option maxRecDepth 20000 in
theorem zb_X8_cutNumber_70 {S : Shp} {x2 : Int32} {x3 : Int32} {s0 : Int32} {s1 : Int32} {σ : Mm} {r : Int32 × Mm} (h : F_X8_cutNumber_70 x2 x3 s0 s1 σ = some r) : Z m_X8_cutNumber S (Qi r) 70 [(0, .ref (sL S 0 0 6)), (2, .int (x2)), (3, .int (x3))] [.int (s0), .int (s1), .ref (sL S 0 0 8)] σ := by
  unfold F_X8_cutNumber_70 at h
  obtain ⟨g1, h⟩ := gd h
  refine is_0_8 (inb_in g1) dX8_cutNumber_70 ?_
  refine z_aload_n dX8_cutNumber_71 rfl 0 rfl ?_
  refine gf_8_29 rfl dX8_cutNumber_72 ?_
  refine z_aload_n dX8_cutNumber_75 rfl 0 rfl ?_
  refine Z.lv [1, 2] rfl ?_
  exact zb_X8_cutNumber_76 h
def F_X8_cutNumber_50 (x1 : Int32) (x2 : Int32) (x3 : Int32) (σ : Mm) : Option (Int32 × Mm) := (if 4 < (x3 - x1) then (F_X8_cutNumber_70 x2 x3 1 (mA σ 0 0 6 2) σ) else (F_X8_cutNumber_70 x2 x3 3 (mA σ 0 0 6 2) σ))
set_option maxRecDepth 20000 in
theorem zb_X8_cutNumber_50 {S : Shp} {x1 : Int32} {x2 : Int32} {x3 : Int32} {σ : Mm} {r : Int32 × Mm} (h : F_X8_cutNumber_50 x1 x2 x3 σ = some r) : Z m_X8_cutNumber S (Qi r) 50 [(0, .ref (sL S 0 0 6)), (1, .int (x1)), (2, .int (x2)), (3, .int (x3))] [] σ := by
  unfold F_X8_cutNumber_50 at h
  refine z_aload_n dX8_cutNumber_50 rfl 0 rfl ?_
  refine gf_8_22 rfl dX8_cutNumber_51 ?_
  refine z_aload_n dX8_cutNumber_54 rfl 0 rfl ?_
  refine gf_8_19 rfl dX8_cutNumber_55 ?_
  refine z_iload_n dX8_cutNumber_58 rfl 3 rfl ?_
  refine z_iload_n dX8_cutNumber_59 rfl 1 rfl ?_
  refine z_isub dX8_cutNumber_60 ?_
  refine z_iconst (v := 4) dX8_cutNumber_61 (by decide) ?_
  refine z_icmp_gt (tgt := 69) dX8_cutNumber_62 (by decide) (fun q => ?_) (fun q => ?_)
  · have h := (if_pos q).symm.trans h
    refine z_iconst (v := 1) dX8_cutNumber_69 (by decide) ?_
    refine Z.lv [0, 2, 3] rfl ?_
    exact zb_X8_cutNumber_70 h
  · have h := (if_neg q).symm.trans h
    refine z_iconst (v := 3) dX8_cutNumber_65 (by decide) ?_
    refine z_goto (tgt := 70) dX8_cutNumber_66 (by decide) ?_
    refine Z.lv [0, 2, 3] rfl ?_
    exact zb_X8_cutNumber_70 h
def F_X8_cutNumber_44 (rc4 : Int32 → Int32 → Int32 → Mm → Option (Int32 × Mm)) (x1 : Int32) (x2 : Int32) (x3 : Int32) (σ : Mm) : Option (Int32 × Mm) := (rc4 x1 x2 (x3 + 1) σ)
set_option maxRecDepth 20000 in
theorem zb_X8_cutNumber_44 {S : Shp} {rc4 : Int32 → Int32 → Int32 → Mm → Option (Int32 × Mm)} (hrc4 : ∀ {x1 : Int32} {x2 : Int32} {x3 : Int32} {σ : Mm} {r : Int32 × Mm}, rc4 x1 x2 x3 σ = some r → Z m_X8_cutNumber S (Qi r) 4 [(0, .ref (sL S 0 0 6)), (1, .int (x1)), (2, .int (x2)), (3, .int (x3))] [] σ) {x1 : Int32} {x2 : Int32} {x3 : Int32} {σ : Mm} {r : Int32 × Mm} (h : F_X8_cutNumber_44 rc4 x1 x2 x3 σ = some r) : Z m_X8_cutNumber S (Qi r) 44 [(0, .ref (sL S 0 0 6)), (1, .int (x1)), (2, .int (x2)), (3, .int (x3))] [] σ := by
  unfold F_X8_cutNumber_44 at h
  refine z_iinc (j := 3) (v := x3 + 1) dX8_cutNumber_44 rfl rfl (by decide) [1, 2, 3, 0] rfl ?_
  refine z_goto (tgt := 4) dX8_cutNumber_47 (by decide) ?_
  exact hrc4 h
def F_X8_cutNumber_39 (rc4 : Int32 → Int32 → Int32 → Mm → Option (Int32 × Mm)) (x1 : Int32) (x3 : Int32) (s0 : Int32) (s1 : Int32) (σ : Mm) : Option (Int32 × Mm) := (F_X8_cutNumber_44 rc4 x1 ((s1 + s0) - 48) x3 σ)
set_option maxRecDepth 20000 in
theorem zb_X8_cutNumber_39 {S : Shp} {rc4 : Int32 → Int32 → Int32 → Mm → Option (Int32 × Mm)} (hrc4 : ∀ {x1 : Int32} {x2 : Int32} {x3 : Int32} {σ : Mm} {r : Int32 × Mm}, rc4 x1 x2 x3 σ = some r → Z m_X8_cutNumber S (Qi r) 4 [(0, .ref (sL S 0 0 6)), (1, .int (x1)), (2, .int (x2)), (3, .int (x3))] [] σ) {x1 : Int32} {x3 : Int32} {s0 : Int32} {s1 : Int32} {σ : Mm} {r : Int32 × Mm} (h : F_X8_cutNumber_39 rc4 x1 x3 s0 s1 σ = some r) : Z m_X8_cutNumber S (Qi r) 39 [(0, .ref (sL S 0 0 6)), (1, .int (x1)), (3, .int (x3))] [.int (s0), .int (s1)] σ := by
  unfold F_X8_cutNumber_39 at h
  refine z_iadd dX8_cutNumber_39 ?_
  refine z_bipush (v := 48) dX8_cutNumber_40 (by decide) ?_
  refine z_isub dX8_cutNumber_42 ?_
  refine z_istore_n dX8_cutNumber_43 rfl (by decide) [1, 2, 0, 3] rfl ?_
  exact zb_X8_cutNumber_44 hrc4 h
def F_X8_cutNumber_17 (rc4 : Int32 → Int32 → Int32 → Mm → Option (Int32 × Mm)) (x1 : Int32) (x2 : Int32) (x3 : Int32) (s0 : Int32) (σ : Mm) : Option (Int32 × Mm) := (if (f_X8_isDigit s0) = 0 then (F_X8_cutNumber_50 x1 x2 x3 σ) else (if 4 ≤ (x3 - x1) then (F_X8_cutNumber_44 rc4 x1 x2 x3 σ) else (bnd (F_X8_sign x3 σ) (fun v τ => (F_X8_cutNumber_39 rc4 x1 x3 v (10 * x2) τ)))))
set_option maxRecDepth 20000 in
theorem zb_X8_cutNumber_17 {S : Shp} {rc4 : Int32 → Int32 → Int32 → Mm → Option (Int32 × Mm)} (hrc4 : ∀ {x1 : Int32} {x2 : Int32} {x3 : Int32} {σ : Mm} {r : Int32 × Mm}, rc4 x1 x2 x3 σ = some r → Z m_X8_cutNumber S (Qi r) 4 [(0, .ref (sL S 0 0 6)), (1, .int (x1)), (2, .int (x2)), (3, .int (x3))] [] σ) {x1 : Int32} {x2 : Int32} {x3 : Int32} {s0 : Int32} {σ : Mm} {r : Int32 × Mm} (h : F_X8_cutNumber_17 rc4 x1 x2 x3 s0 σ = some r) : Z m_X8_cutNumber S (Qi r) 17 [(0, .ref (sL S 0 0 6)), (1, .int (x1)), (2, .int (x2)), (3, .int (x3))] [.int (s0)] σ := by
  unfold F_X8_cutNumber_17 at h
  refine z_callS (M' := m_X8_isDigit) (As := [.int (s0)]) (rest := []) kl_8_53 oy_X8_isDigit ⟨Nat.le_of_ble_eq_true rfl, Nat.le_of_ble_eq_true rfl⟩ rfl (Nat.le_of_ble_eq_true rfl) rfl dX8_cutNumber_17 (c_X8_isDigit rfl) (fun v τ hq => ?_)
  obtain ⟨rfl, rfl⟩ := hq
  change Z _ _ _ _ _ [.int (f_X8_isDigit s0)] _
  refine z_if_eq (tgt := 50) dX8_cutNumber_20 (by decide) (fun q => ?_) (fun q => ?_)
  · have h := (if_pos q).symm.trans h
    exact zb_X8_cutNumber_50 h
  · have h := (if_neg q).symm.trans h
    refine z_iload_n dX8_cutNumber_23 rfl 3 rfl ?_
    refine z_iload_n dX8_cutNumber_24 rfl 1 rfl ?_
    refine z_isub dX8_cutNumber_25 ?_
    refine z_iconst (v := 4) dX8_cutNumber_26 (by decide) ?_
    refine z_icmp_ge (tgt := 44) dX8_cutNumber_27 (by decide) (fun q => ?_) (fun q => ?_)
    · have h := (if_pos q).symm.trans h
      exact zb_X8_cutNumber_44 hrc4 h
    · have h := (if_neg q).symm.trans h
      refine z_bipush (v := 10) dX8_cutNumber_30 (by decide) ?_
      refine z_iload_n dX8_cutNumber_32 rfl 2 rfl ?_
      refine z_imul dX8_cutNumber_33 ?_
      refine z_aload_n dX8_cutNumber_34 rfl 0 rfl ?_
      refine z_iload_n dX8_cutNumber_35 rfl 3 rfl ?_
      obtain ⟨v, τ, hc, h⟩ := bnd_e h
      refine z_callV (M' := m_X8_sign) (t := 0) (i := 0) (k := 6) (As := [.int (x3)]) (rest := [.int (10 * x2)]) kl_8_43 oy_X8_sign ⟨Nat.le_of_ble_eq_true rfl, Nat.le_of_ble_eq_true rfl⟩ rfl rfl rfl rfl (Nat.le_of_ble_eq_true rfl) rfl dX8_cutNumber_36 (c_X8_sign hc) (fun v2 τ2 hq => ?_)
      obtain ⟨rfl, rfl⟩ := hq
      change Z _ _ _ _ _ [.int (v), .int (10 * x2)] _
      refine Z.lv [0, 1, 3] rfl ?_
      exact zb_X8_cutNumber_39 hrc4 h
def B_X8_cutNumber_4 (rc4 : Int32 → Int32 → Int32 → Mm → Option (Int32 × Mm)) (x1 : Int32) (x2 : Int32) (x3 : Int32) (σ : Mm) : Option (Int32 × Mm) := (if (mA σ 0 0 6 0) ≤ x3 then (F_X8_cutNumber_50 x1 x2 x3 σ) else (bnd (F_X8_sign x3 σ) (fun v τ => (F_X8_cutNumber_17 rc4 x1 x2 x3 v τ))))
set_option maxRecDepth 20000 in
theorem zB_X8_cutNumber_4 {S : Shp} {rc4 : Int32 → Int32 → Int32 → Mm → Option (Int32 × Mm)} (hrc4 : ∀ {x1 : Int32} {x2 : Int32} {x3 : Int32} {σ : Mm} {r : Int32 × Mm}, rc4 x1 x2 x3 σ = some r → Z m_X8_cutNumber S (Qi r) 4 [(0, .ref (sL S 0 0 6)), (1, .int (x1)), (2, .int (x2)), (3, .int (x3))] [] σ) {x1 : Int32} {x2 : Int32} {x3 : Int32} {σ : Mm} {r : Int32 × Mm} (h : B_X8_cutNumber_4 rc4 x1 x2 x3 σ = some r) : Z m_X8_cutNumber S (Qi r) 4 [(0, .ref (sL S 0 0 6)), (1, .int (x1)), (2, .int (x2)), (3, .int (x3))] [] σ := by
  unfold B_X8_cutNumber_4 at h
  refine z_iload_n dX8_cutNumber_4 rfl 3 rfl ?_
  refine z_aload_n dX8_cutNumber_5 rfl 0 rfl ?_
  refine gf_8_9 rfl dX8_cutNumber_6 ?_
  refine z_icmp_ge (tgt := 50) dX8_cutNumber_9 (by decide) (fun q => ?_) (fun q => ?_)
  · have h := (if_pos q).symm.trans h
    exact zb_X8_cutNumber_50 h
  · have h := (if_neg q).symm.trans h
    refine z_aload_n dX8_cutNumber_12 rfl 0 rfl ?_
    refine z_iload_n dX8_cutNumber_13 rfl 3 rfl ?_
    obtain ⟨v, τ, hc, h⟩ := bnd_e h
    refine z_callV (M' := m_X8_sign) (t := 0) (i := 0) (k := 6) (As := [.int (x3)]) (rest := []) kl_8_43 oy_X8_sign ⟨Nat.le_of_ble_eq_true rfl, Nat.le_of_ble_eq_true rfl⟩ rfl rfl rfl rfl (Nat.le_of_ble_eq_true rfl) rfl dX8_cutNumber_14 (c_X8_sign hc) (fun v2 τ2 hq => ?_)
    obtain ⟨rfl, rfl⟩ := hq
    change Z _ _ _ _ _ [.int (v)] _
    exact zb_X8_cutNumber_17 hrc4 h
def F_X8_cutNumber_4 : Nat → Int32 → Int32 → Int32 → Mm → Option (Int32 × Mm)
  | 0 => fun _ _ _ _ => none
  | n + 1 => B_X8_cutNumber_4 (F_X8_cutNumber_4 n)
theorem zl_X8_cutNumber_4 {S : Shp} (n : Nat) {x1 : Int32} {x2 : Int32} {x3 : Int32} {σ : Mm} {r : Int32 × Mm} (h : F_X8_cutNumber_4 n x1 x2 x3 σ = some r) : Z m_X8_cutNumber S (Qi r) 4 [(0, .ref (sL S 0 0 6)), (1, .int (x1)), (2, .int (x2)), (3, .int (x3))] [] σ := by
  induction n generalizing x1 x2 x3 σ r with
  | zero => cases h
  | succ n ih => exact zB_X8_cutNumber_4 (fun h => ih h) h
def F_X8_cutNumber (x1 : Int32) (σ : Mm) : Option (Int32 × Mm) := (F_X8_cutNumber_4 FU x1 0 x1 σ)
set_option maxRecDepth 20000 in
theorem zb_X8_cutNumber {S : Shp} {x1 : Int32} {σ : Mm} {r : Int32 × Mm} (h : F_X8_cutNumber x1 σ = some r) : Z m_X8_cutNumber S (Qi r) 0 [(0, .ref (sL S 0 0 6)), (1, .int (x1))] [] σ := by
  unfold F_X8_cutNumber at h
  refine z_iconst (v := 0) dX8_cutNumber_0 (by decide) ?_
  refine z_istore_n dX8_cutNumber_1 rfl (by decide) [1, 2, 0] rfl ?_
  refine z_iload_n dX8_cutNumber_2 rfl 1 rfl ?_
  refine z_istore_n dX8_cutNumber_3 rfl (by decide) [1, 2, 3, 0] rfl ?_
  exact zl_X8_cutNumber_4 FU h
/-- SkyStones$Tape.cutNumber(I)I -/
theorem c_X8_cutNumber {S : Shp} {x1 : Int32} {σ : Mm} {r : Int32 × Mm} (h : F_X8_cutNumber x1 σ = some r) : Ct m_X8_cutNumber S [.ref (sL S 0 0 6), .int (x1)] σ (Qi r) := Ct.of (by decide) (Nat.le_of_ble_eq_true rfl) (zb_X8_cutNumber h)
def f_X8_isLetter (x0 : Int32) : Int32 := (if x0 < 97 then 0 else (if 122 < x0 then 0 else 1))
set_option maxRecDepth 20000 in
theorem zb_X8_isLetter {S : Shp} {x0 : Int32} {σ : Mm} {r : Int32} (h : f_X8_isLetter x0 = r) : Z m_X8_isLetter S (Qi (r, σ)) 0 [(0, .int (x0))] [] σ := by
  unfold f_X8_isLetter at h
  refine z_iload_n dX8_isLetter_0 rfl 0 rfl ?_
  refine z_bipush (v := 97) dX8_isLetter_1 (by decide) ?_
  refine z_icmp_lt (tgt := 16) dX8_isLetter_3 (by decide) (fun q => ?_) (fun q => ?_)
  · have h := (if_pos q).symm.trans h
    refine z_iconst (v := 0) dX8_isLetter_16 (by decide) ?_
    subst h
    exact z_ireturn dX8_isLetter_17 rfl rfl ⟨rfl, rfl⟩
  · have h := (if_neg q).symm.trans h
    refine z_iload_n dX8_isLetter_6 rfl 0 rfl ?_
    refine z_bipush (v := 122) dX8_isLetter_7 (by decide) ?_
    refine z_icmp_gt (tgt := 16) dX8_isLetter_9 (by decide) (fun q => ?_) (fun q => ?_)
    · have h := (if_pos q).symm.trans h
      refine z_iconst (v := 0) dX8_isLetter_16 (by decide) ?_
      subst h
      exact z_ireturn dX8_isLetter_17 rfl rfl ⟨rfl, rfl⟩
    · have h := (if_neg q).symm.trans h
      refine z_iconst (v := 1) dX8_isLetter_12 (by decide) ?_
      refine z_goto (tgt := 17) dX8_isLetter_13 (by decide) ?_
      subst h
      exact z_ireturn dX8_isLetter_17 rfl rfl ⟨rfl, rfl⟩
/-- SkyStones$Tape.isLetter(I)Z -/
theorem c_X8_isLetter {S : Shp} {x0 : Int32} {σ : Mm} {r : Int32} (h : f_X8_isLetter x0 = r) : Ct m_X8_isLetter S [.int (x0)] σ (Qi (r, σ)) := Ct.of (by decide) (Nat.le_of_ble_eq_true rfl) (zb_X8_isLetter h)
def f_X8_signKind (x0 : Int32) (x1 : Int32) : Int32 := (if x0 = 33 then (if x1 = 0 then 1 else 11) else (if x0 = 34 then 1 else (if x0 = 35 then 1 else (if x0 = 36 then 1 else (if x0 = 37 then 1 else (if x0 = 38 then 1 else (if x0 = 39 then 1 else (if x0 = 40 then 14 else (if x0 = 41 then 15 else (if x0 = 42 then 8 else (if x0 = 43 then 6 else (if x0 = 44 then 1 else (if x0 = 45 then 7 else (if x0 = 46 then 1 else (if x0 = 47 then 9 else (if x0 = 48 then 1 else (if x0 = 49 then 1 else (if x0 = 50 then 1 else (if x0 = 51 then 1 else (if x0 = 52 then 1 else (if x0 = 53 then 1 else (if x0 = 54 then 1 else (if x0 = 55 then 1 else (if x0 = 56 then 1 else (if x0 = 57 then 1 else (if x0 = 58 then 1 else (if x0 = 59 then 4 else (if x0 = 60 then (if x1 = 0 then 12 else 13) else (if x0 = 61 then (if x1 = 0 then 5 else 10) else 1)))))))))))))))))))))))))))))
set_option maxRecDepth 20000 in
theorem zb_X8_signKind {S : Shp} {x0 : Int32} {x1 : Int32} {σ : Mm} {r : Int32} (h : f_X8_signKind x0 x1 = r) : Z m_X8_signKind S (Qi (r, σ)) 0 [(0, .int (x0)), (1, .int (x1))] [] σ := by
  unfold f_X8_signKind at h
  refine z_iload_n dX8_signKind_0 rfl 0 rfl ?_
  by_cases g1 : x0 = 33
  · have h := (if_pos g1).symm.trans h
    refine z_tableIn (tgt := 157) (off := 156) dX8_signKind_1 (by rw [g1]; decide) (by rw [g1]; decide) (by rw [g1]; rfl) (by decide) ?_
    refine z_iload_n dX8_signKind_157 rfl 1 rfl ?_
    refine z_if_eq (tgt := 166) dX8_signKind_158 (by decide) (fun q => ?_) (fun q => ?_)
    · have h := (if_pos q).symm.trans h
      refine z_iconst (v := 1) dX8_signKind_166 (by decide) ?_
      subst h
      exact z_ireturn dX8_signKind_167 rfl rfl ⟨rfl, rfl⟩
    · have h := (if_neg q).symm.trans h
      refine z_bipush (v := 11) dX8_signKind_161 (by decide) ?_
      refine z_goto (tgt := 167) dX8_signKind_163 (by decide) ?_
      subst h
      exact z_ireturn dX8_signKind_167 rfl rfl ⟨rfl, rfl⟩
  · have h := (if_neg g1).symm.trans h
    by_cases g2 : x0 = 34
    · have h := (if_pos g2).symm.trans h
      refine z_tableIn (tgt := 186) (off := 185) dX8_signKind_1 (by rw [g2]; decide) (by rw [g2]; decide) (by rw [g2]; rfl) (by decide) ?_
      refine z_iconst (v := 1) dX8_signKind_186 (by decide) ?_
      subst h
      exact z_ireturn dX8_signKind_187 rfl rfl ⟨rfl, rfl⟩
    · have h := (if_neg g2).symm.trans h
      by_cases g3 : x0 = 35
      · have h := (if_pos g3).symm.trans h
        refine z_tableIn (tgt := 186) (off := 185) dX8_signKind_1 (by rw [g3]; decide) (by rw [g3]; decide) (by rw [g3]; rfl) (by decide) ?_
        refine z_iconst (v := 1) dX8_signKind_186 (by decide) ?_
        subst h
        exact z_ireturn dX8_signKind_187 rfl rfl ⟨rfl, rfl⟩
      · have h := (if_neg g3).symm.trans h
        by_cases g4 : x0 = 36
        · have h := (if_pos g4).symm.trans h
          refine z_tableIn (tgt := 186) (off := 185) dX8_signKind_1 (by rw [g4]; decide) (by rw [g4]; decide) (by rw [g4]; rfl) (by decide) ?_
          refine z_iconst (v := 1) dX8_signKind_186 (by decide) ?_
          subst h
          exact z_ireturn dX8_signKind_187 rfl rfl ⟨rfl, rfl⟩
        · have h := (if_neg g4).symm.trans h
          by_cases g5 : x0 = 37
          · have h := (if_pos g5).symm.trans h
            refine z_tableIn (tgt := 186) (off := 185) dX8_signKind_1 (by rw [g5]; decide) (by rw [g5]; decide) (by rw [g5]; rfl) (by decide) ?_
            refine z_iconst (v := 1) dX8_signKind_186 (by decide) ?_
            subst h
            exact z_ireturn dX8_signKind_187 rfl rfl ⟨rfl, rfl⟩
          · have h := (if_neg g5).symm.trans h
            by_cases g6 : x0 = 38
            · have h := (if_pos g6).symm.trans h
              refine z_tableIn (tgt := 186) (off := 185) dX8_signKind_1 (by rw [g6]; decide) (by rw [g6]; decide) (by rw [g6]; rfl) (by decide) ?_
              refine z_iconst (v := 1) dX8_signKind_186 (by decide) ?_
              subst h
              exact z_ireturn dX8_signKind_187 rfl rfl ⟨rfl, rfl⟩
            · have h := (if_neg g6).symm.trans h
              by_cases g7 : x0 = 39
              · have h := (if_pos g7).symm.trans h
                refine z_tableIn (tgt := 186) (off := 185) dX8_signKind_1 (by rw [g7]; decide) (by rw [g7]; decide) (by rw [g7]; rfl) (by decide) ?_
                refine z_iconst (v := 1) dX8_signKind_186 (by decide) ?_
                subst h
                exact z_ireturn dX8_signKind_187 rfl rfl ⟨rfl, rfl⟩
              · have h := (if_neg g7).symm.trans h
                by_cases g8 : x0 = 40
                · have h := (if_pos g8).symm.trans h
                  refine z_tableIn (tgt := 180) (off := 179) dX8_signKind_1 (by rw [g8]; decide) (by rw [g8]; decide) (by rw [g8]; rfl) (by decide) ?_
                  refine z_bipush (v := 14) dX8_signKind_180 (by decide) ?_
                  subst h
                  exact z_ireturn dX8_signKind_182 rfl rfl ⟨rfl, rfl⟩
                · have h := (if_neg g8).symm.trans h
                  by_cases g9 : x0 = 41
                  · have h := (if_pos g9).symm.trans h
                    refine z_tableIn (tgt := 183) (off := 182) dX8_signKind_1 (by rw [g9]; decide) (by rw [g9]; decide) (by rw [g9]; rfl) (by decide) ?_
                    refine z_bipush (v := 15) dX8_signKind_183 (by decide) ?_
                    subst h
                    exact z_ireturn dX8_signKind_185 rfl rfl ⟨rfl, rfl⟩
                  · have h := (if_neg g9).symm.trans h
                    by_cases g10 : x0 = 42
                    · have h := (if_pos g10).symm.trans h
                      refine z_tableIn (tgt := 151) (off := 150) dX8_signKind_1 (by rw [g10]; decide) (by rw [g10]; decide) (by rw [g10]; rfl) (by decide) ?_
                      refine z_bipush (v := 8) dX8_signKind_151 (by decide) ?_
                      subst h
                      exact z_ireturn dX8_signKind_153 rfl rfl ⟨rfl, rfl⟩
                    · have h := (if_neg g10).symm.trans h
                      by_cases g11 : x0 = 43
                      · have h := (if_pos g11).symm.trans h
                        refine z_tableIn (tgt := 145) (off := 144) dX8_signKind_1 (by rw [g11]; decide) (by rw [g11]; decide) (by rw [g11]; rfl) (by decide) ?_
                        refine z_bipush (v := 6) dX8_signKind_145 (by decide) ?_
                        subst h
                        exact z_ireturn dX8_signKind_147 rfl rfl ⟨rfl, rfl⟩
                      · have h := (if_neg g11).symm.trans h
                        by_cases g12 : x0 = 44
                        · have h := (if_pos g12).symm.trans h
                          refine z_tableIn (tgt := 186) (off := 185) dX8_signKind_1 (by rw [g12]; decide) (by rw [g12]; decide) (by rw [g12]; rfl) (by decide) ?_
                          refine z_iconst (v := 1) dX8_signKind_186 (by decide) ?_
                          subst h
                          exact z_ireturn dX8_signKind_187 rfl rfl ⟨rfl, rfl⟩
                        · have h := (if_neg g12).symm.trans h
                          by_cases g13 : x0 = 45
                          · have h := (if_pos g13).symm.trans h
                            refine z_tableIn (tgt := 148) (off := 147) dX8_signKind_1 (by rw [g13]; decide) (by rw [g13]; decide) (by rw [g13]; rfl) (by decide) ?_
                            refine z_bipush (v := 7) dX8_signKind_148 (by decide) ?_
                            subst h
                            exact z_ireturn dX8_signKind_150 rfl rfl ⟨rfl, rfl⟩
                          · have h := (if_neg g13).symm.trans h
                            by_cases g14 : x0 = 46
                            · have h := (if_pos g14).symm.trans h
                              refine z_tableIn (tgt := 186) (off := 185) dX8_signKind_1 (by rw [g14]; decide) (by rw [g14]; decide) (by rw [g14]; rfl) (by decide) ?_
                              refine z_iconst (v := 1) dX8_signKind_186 (by decide) ?_
                              subst h
                              exact z_ireturn dX8_signKind_187 rfl rfl ⟨rfl, rfl⟩
                            · have h := (if_neg g14).symm.trans h
                              by_cases g15 : x0 = 47
                              · have h := (if_pos g15).symm.trans h
                                refine z_tableIn (tgt := 154) (off := 153) dX8_signKind_1 (by rw [g15]; decide) (by rw [g15]; decide) (by rw [g15]; rfl) (by decide) ?_
                                refine z_bipush (v := 9) dX8_signKind_154 (by decide) ?_
                                subst h
                                exact z_ireturn dX8_signKind_156 rfl rfl ⟨rfl, rfl⟩
                              · have h := (if_neg g15).symm.trans h
                                by_cases g16 : x0 = 48
                                · have h := (if_pos g16).symm.trans h
                                  refine z_tableIn (tgt := 186) (off := 185) dX8_signKind_1 (by rw [g16]; decide) (by rw [g16]; decide) (by rw [g16]; rfl) (by decide) ?_
                                  refine z_iconst (v := 1) dX8_signKind_186 (by decide) ?_
                                  subst h
                                  exact z_ireturn dX8_signKind_187 rfl rfl ⟨rfl, rfl⟩
                                · have h := (if_neg g16).symm.trans h
                                  by_cases g17 : x0 = 49
                                  · have h := (if_pos g17).symm.trans h
                                    refine z_tableIn (tgt := 186) (off := 185) dX8_signKind_1 (by rw [g17]; decide) (by rw [g17]; decide) (by rw [g17]; rfl) (by decide) ?_
                                    refine z_iconst (v := 1) dX8_signKind_186 (by decide) ?_
                                    subst h
                                    exact z_ireturn dX8_signKind_187 rfl rfl ⟨rfl, rfl⟩
                                  · have h := (if_neg g17).symm.trans h
                                    by_cases g18 : x0 = 50
                                    · have h := (if_pos g18).symm.trans h
                                      refine z_tableIn (tgt := 186) (off := 185) dX8_signKind_1 (by rw [g18]; decide) (by rw [g18]; decide) (by rw [g18]; rfl) (by decide) ?_
                                      refine z_iconst (v := 1) dX8_signKind_186 (by decide) ?_
                                      subst h
                                      exact z_ireturn dX8_signKind_187 rfl rfl ⟨rfl, rfl⟩
                                    · have h := (if_neg g18).symm.trans h
                                      by_cases g19 : x0 = 51
                                      · have h := (if_pos g19).symm.trans h
                                        refine z_tableIn (tgt := 186) (off := 185) dX8_signKind_1 (by rw [g19]; decide) (by rw [g19]; decide) (by rw [g19]; rfl) (by decide) ?_
                                        refine z_iconst (v := 1) dX8_signKind_186 (by decide) ?_
                                        subst h
                                        exact z_ireturn dX8_signKind_187 rfl rfl ⟨rfl, rfl⟩
                                      · have h := (if_neg g19).symm.trans h
                                        by_cases g20 : x0 = 52
                                        · have h := (if_pos g20).symm.trans h
                                          refine z_tableIn (tgt := 186) (off := 185) dX8_signKind_1 (by rw [g20]; decide) (by rw [g20]; decide) (by rw [g20]; rfl) (by decide) ?_
                                          refine z_iconst (v := 1) dX8_signKind_186 (by decide) ?_
                                          subst h
                                          exact z_ireturn dX8_signKind_187 rfl rfl ⟨rfl, rfl⟩
                                        · have h := (if_neg g20).symm.trans h
                                          by_cases g21 : x0 = 53
                                          · have h := (if_pos g21).symm.trans h
                                            refine z_tableIn (tgt := 186) (off := 185) dX8_signKind_1 (by rw [g21]; decide) (by rw [g21]; decide) (by rw [g21]; rfl) (by decide) ?_
                                            refine z_iconst (v := 1) dX8_signKind_186 (by decide) ?_
                                            subst h
                                            exact z_ireturn dX8_signKind_187 rfl rfl ⟨rfl, rfl⟩
                                          · have h := (if_neg g21).symm.trans h
                                            by_cases g22 : x0 = 54
                                            · have h := (if_pos g22).symm.trans h
                                              refine z_tableIn (tgt := 186) (off := 185) dX8_signKind_1 (by rw [g22]; decide) (by rw [g22]; decide) (by rw [g22]; rfl) (by decide) ?_
                                              refine z_iconst (v := 1) dX8_signKind_186 (by decide) ?_
                                              subst h
                                              exact z_ireturn dX8_signKind_187 rfl rfl ⟨rfl, rfl⟩
                                            · have h := (if_neg g22).symm.trans h
                                              by_cases g23 : x0 = 55
                                              · have h := (if_pos g23).symm.trans h
                                                refine z_tableIn (tgt := 186) (off := 185) dX8_signKind_1 (by rw [g23]; decide) (by rw [g23]; decide) (by rw [g23]; rfl) (by decide) ?_
                                                refine z_iconst (v := 1) dX8_signKind_186 (by decide) ?_
                                                subst h
                                                exact z_ireturn dX8_signKind_187 rfl rfl ⟨rfl, rfl⟩
                                              · have h := (if_neg g23).symm.trans h
                                                by_cases g24 : x0 = 56
                                                · have h := (if_pos g24).symm.trans h
                                                  refine z_tableIn (tgt := 186) (off := 185) dX8_signKind_1 (by rw [g24]; decide) (by rw [g24]; decide) (by rw [g24]; rfl) (by decide) ?_
                                                  refine z_iconst (v := 1) dX8_signKind_186 (by decide) ?_
                                                  subst h
                                                  exact z_ireturn dX8_signKind_187 rfl rfl ⟨rfl, rfl⟩
                                                · have h := (if_neg g24).symm.trans h
                                                  by_cases g25 : x0 = 57
                                                  · have h := (if_pos g25).symm.trans h
                                                    refine z_tableIn (tgt := 186) (off := 185) dX8_signKind_1 (by rw [g25]; decide) (by rw [g25]; decide) (by rw [g25]; rfl) (by decide) ?_
                                                    refine z_iconst (v := 1) dX8_signKind_186 (by decide) ?_
                                                    subst h
                                                    exact z_ireturn dX8_signKind_187 rfl rfl ⟨rfl, rfl⟩
                                                  · have h := (if_neg g25).symm.trans h
                                                    by_cases g26 : x0 = 58
                                                    · have h := (if_pos g26).symm.trans h
                                                      refine z_tableIn (tgt := 186) (off := 185) dX8_signKind_1 (by rw [g26]; decide) (by rw [g26]; decide) (by rw [g26]; rfl) (by decide) ?_
                                                      refine z_iconst (v := 1) dX8_signKind_186 (by decide) ?_
                                                      subst h
                                                      exact z_ireturn dX8_signKind_187 rfl rfl ⟨rfl, rfl⟩
                                                    · have h := (if_neg g26).symm.trans h
                                                      by_cases g27 : x0 = 59
                                                      · have h := (if_pos g27).symm.trans h
                                                        refine z_tableIn (tgt := 132) (off := 131) dX8_signKind_1 (by rw [g27]; decide) (by rw [g27]; decide) (by rw [g27]; rfl) (by decide) ?_
                                                        refine z_iconst (v := 4) dX8_signKind_132 (by decide) ?_
                                                        subst h
                                                        exact z_ireturn dX8_signKind_133 rfl rfl ⟨rfl, rfl⟩
                                                      · have h := (if_neg g27).symm.trans h
                                                        by_cases g28 : x0 = 60
                                                        · have h := (if_pos g28).symm.trans h
                                                          refine z_tableIn (tgt := 168) (off := 167) dX8_signKind_1 (by rw [g28]; decide) (by rw [g28]; decide) (by rw [g28]; rfl) (by decide) ?_
                                                          refine z_iload_n dX8_signKind_168 rfl 1 rfl ?_
                                                          refine z_if_eq (tgt := 177) dX8_signKind_169 (by decide) (fun q => ?_) (fun q => ?_)
                                                          · have h := (if_pos q).symm.trans h
                                                            refine z_bipush (v := 12) dX8_signKind_177 (by decide) ?_
                                                            subst h
                                                            exact z_ireturn dX8_signKind_179 rfl rfl ⟨rfl, rfl⟩
                                                          · have h := (if_neg q).symm.trans h
                                                            refine z_bipush (v := 13) dX8_signKind_172 (by decide) ?_
                                                            refine z_goto (tgt := 179) dX8_signKind_174 (by decide) ?_
                                                            subst h
                                                            exact z_ireturn dX8_signKind_179 rfl rfl ⟨rfl, rfl⟩
                                                        · have h := (if_neg g28).symm.trans h
                                                          by_cases g29 : x0 = 61
                                                          · have h := (if_pos g29).symm.trans h
                                                            refine z_tableIn (tgt := 134) (off := 133) dX8_signKind_1 (by rw [g29]; decide) (by rw [g29]; decide) (by rw [g29]; rfl) (by decide) ?_
                                                            refine z_iload_n dX8_signKind_134 rfl 1 rfl ?_
                                                            refine z_if_eq (tgt := 143) dX8_signKind_135 (by decide) (fun q => ?_) (fun q => ?_)
                                                            · have h := (if_pos q).symm.trans h
                                                              refine z_iconst (v := 5) dX8_signKind_143 (by decide) ?_
                                                              subst h
                                                              exact z_ireturn dX8_signKind_144 rfl rfl ⟨rfl, rfl⟩
                                                            · have h := (if_neg q).symm.trans h
                                                              refine z_bipush (v := 10) dX8_signKind_138 (by decide) ?_
                                                              refine z_goto (tgt := 144) dX8_signKind_140 (by decide) ?_
                                                              subst h
                                                              exact z_ireturn dX8_signKind_144 rfl rfl ⟨rfl, rfl⟩
                                                          · have h := (if_neg g29).symm.trans h
                                                            refine z_tableOut (tgt := 186) dX8_signKind_1 (by have eg1 := nei (n := 33) (by decide) g1; have eg2 := nei (n := 34) (by decide) g2; have eg3 := nei (n := 35) (by decide) g3; have eg4 := nei (n := 36) (by decide) g4; have eg5 := nei (n := 37) (by decide) g5; have eg6 := nei (n := 38) (by decide) g6; have eg7 := nei (n := 39) (by decide) g7; have eg8 := nei (n := 40) (by decide) g8; have eg9 := nei (n := 41) (by decide) g9; have eg10 := nei (n := 42) (by decide) g10; have eg11 := nei (n := 43) (by decide) g11; have eg12 := nei (n := 44) (by decide) g12; have eg13 := nei (n := 45) (by decide) g13; have eg14 := nei (n := 46) (by decide) g14; have eg15 := nei (n := 47) (by decide) g15; have eg16 := nei (n := 48) (by decide) g16; have eg17 := nei (n := 49) (by decide) g17; have eg18 := nei (n := 50) (by decide) g18; have eg19 := nei (n := 51) (by decide) g19; have eg20 := nei (n := 52) (by decide) g20; have eg21 := nei (n := 53) (by decide) g21; have eg22 := nei (n := 54) (by decide) g22; have eg23 := nei (n := 55) (by decide) g23; have eg24 := nei (n := 56) (by decide) g24; have eg25 := nei (n := 57) (by decide) g25; have eg26 := nei (n := 58) (by decide) g26; have eg27 := nei (n := 59) (by decide) g27; have eg28 := nei (n := 60) (by decide) g28; have eg29 := nei (n := 61) (by decide) g29; omega) (by decide) ?_
                                                            refine z_iconst (v := 1) dX8_signKind_186 (by decide) ?_
                                                            subst h
                                                            exact z_ireturn dX8_signKind_187 rfl rfl ⟨rfl, rfl⟩
/-- SkyStones$Tape.signKind(IZ)I -/
theorem c_X8_signKind {S : Shp} {x0 : Int32} {x1 : Int32} {σ : Mm} {r : Int32} (h : f_X8_signKind x0 x1 = r) : Ct m_X8_signKind S [.int (x0), .int (x1)] σ (Qi (r, σ)) := Ct.of (by decide) (Nat.le_of_ble_eq_true rfl) (zb_X8_signKind h)
def F_X11_seen_57 (s0 : Int64) (σ : Mm) : Option (Int64 × Mm) := some (s0, σ)
set_option maxRecDepth 20000 in
theorem zb_X11_seen_57 {S : Shp} {s0 : Int64} {σ : Mm} {r : Int64 × Mm} (h : F_X11_seen_57 s0 σ = some r) : Z m_X11_seen S (Ql r) 57 [] [.long (s0)] σ := by
  unfold F_X11_seen_57 at h
  cases h
  exact z_lreturn dX11_seen_57 rfl ⟨rfl, rfl⟩
def F_X11_seen (x1 : Int32) (x2 : Int32) (x3 : Int32) (x4 : Int32) (σ : Mm) : Option (Int64 × Mm) := (if x1 < 0 then some ((-1), σ) else (if 12 < x1 then some ((-1), σ) else (if x2 < 0 then some ((-1), σ) else (if 13 < x2 then some ((-1), σ) else (if x4 < 1 then some ((-1), σ) else (if 9 < x4 then some ((-1), σ) else (if x3 < 0 then some ((-1), σ) else (if x3 ≤ x4 then (bnl (F_X11_ways x1 x2 x3 (x4 - x3) σ) (fun v τ => (F_X11_seen_57 v τ))) else some ((-1), σ)))))))))
set_option maxRecDepth 20000 in
theorem zb_X11_seen {S : Shp} {x1 : Int32} {x2 : Int32} {x3 : Int32} {x4 : Int32} {σ : Mm} {r : Int64 × Mm} (h : F_X11_seen x1 x2 x3 x4 σ = some r) : Z m_X11_seen S (Ql r) 0 [(0, .ref (sL S 0 0 0)), (1, .int (x1)), (2, .int (x2)), (3, .int (x3)), (4, .int (x4))] [] σ := by
  unfold F_X11_seen at h
  refine z_iload_n dX11_seen_0 rfl 1 rfl ?_
  refine z_if_lt (tgt := 43) dX11_seen_1 (by decide) (fun q => ?_) (fun q => ?_)
  · have h := (if_pos q).symm.trans h
    refine z_ldc2 qw_1025 dX11_seen_43 ?_
    cases h
    exact z_lreturn dX11_seen_46 rfl ⟨rfl, rfl⟩
  · have h := (if_neg q).symm.trans h
    refine z_iload_n dX11_seen_4 rfl 1 rfl ?_
    refine z_bipush (v := 12) dX11_seen_5 (by decide) ?_
    refine z_icmp_gt (tgt := 43) dX11_seen_7 (by decide) (fun q => ?_) (fun q => ?_)
    · have h := (if_pos q).symm.trans h
      refine z_ldc2 qw_1025 dX11_seen_43 ?_
      cases h
      exact z_lreturn dX11_seen_46 rfl ⟨rfl, rfl⟩
    · have h := (if_neg q).symm.trans h
      refine z_iload_n dX11_seen_10 rfl 2 rfl ?_
      refine z_if_lt (tgt := 43) dX11_seen_11 (by decide) (fun q => ?_) (fun q => ?_)
      · have h := (if_pos q).symm.trans h
        refine z_ldc2 qw_1025 dX11_seen_43 ?_
        cases h
        exact z_lreturn dX11_seen_46 rfl ⟨rfl, rfl⟩
      · have h := (if_neg q).symm.trans h
        refine z_iload_n dX11_seen_14 rfl 2 rfl ?_
        refine z_bipush (v := 13) dX11_seen_15 (by decide) ?_
        refine z_icmp_gt (tgt := 43) dX11_seen_17 (by decide) (fun q => ?_) (fun q => ?_)
        · have h := (if_pos q).symm.trans h
          refine z_ldc2 qw_1025 dX11_seen_43 ?_
          cases h
          exact z_lreturn dX11_seen_46 rfl ⟨rfl, rfl⟩
        · have h := (if_neg q).symm.trans h
          refine z_iload dX11_seen_20 4 rfl ?_
          refine z_iconst (v := 1) dX11_seen_22 (by decide) ?_
          refine z_icmp_lt (tgt := 43) dX11_seen_23 (by decide) (fun q => ?_) (fun q => ?_)
          · have h := (if_pos q).symm.trans h
            refine z_ldc2 qw_1025 dX11_seen_43 ?_
            cases h
            exact z_lreturn dX11_seen_46 rfl ⟨rfl, rfl⟩
          · have h := (if_neg q).symm.trans h
            refine z_iload dX11_seen_26 4 rfl ?_
            refine z_bipush (v := 9) dX11_seen_28 (by decide) ?_
            refine z_icmp_gt (tgt := 43) dX11_seen_30 (by decide) (fun q => ?_) (fun q => ?_)
            · have h := (if_pos q).symm.trans h
              refine z_ldc2 qw_1025 dX11_seen_43 ?_
              cases h
              exact z_lreturn dX11_seen_46 rfl ⟨rfl, rfl⟩
            · have h := (if_neg q).symm.trans h
              refine z_iload_n dX11_seen_33 rfl 3 rfl ?_
              refine z_if_lt (tgt := 43) dX11_seen_34 (by decide) (fun q => ?_) (fun q => ?_)
              · have h := (if_pos q).symm.trans h
                refine z_ldc2 qw_1025 dX11_seen_43 ?_
                cases h
                exact z_lreturn dX11_seen_46 rfl ⟨rfl, rfl⟩
              · have h := (if_neg q).symm.trans h
                refine z_iload_n dX11_seen_37 rfl 3 rfl ?_
                refine z_iload dX11_seen_38 4 rfl ?_
                refine z_icmp_le (tgt := 47) dX11_seen_40 (by decide) (fun q => ?_) (fun q => ?_)
                · have h := (if_pos q).symm.trans h
                  refine z_iload_n dX11_seen_47 rfl 1 rfl ?_
                  refine z_iload_n dX11_seen_48 rfl 2 rfl ?_
                  refine z_iload_n dX11_seen_49 rfl 3 rfl ?_
                  refine z_iload dX11_seen_50 4 rfl ?_
                  refine z_iload_n dX11_seen_52 rfl 3 rfl ?_
                  refine z_isub dX11_seen_53 ?_
                  obtain ⟨v, τ, hc, h⟩ := bnl_e h
                  refine z_callS (M' := m_X11_ways) (As := [.int (x1), .int (x2), .int (x3), .int (x4 - x3)]) (rest := []) kl_11_311 oy_X11_ways ⟨Nat.le_of_ble_eq_true rfl, Nat.le_of_ble_eq_true rfl⟩ rfl (Nat.le_of_ble_eq_true rfl) rfl dX11_seen_54 (c_X11_ways hc) (fun v2 τ2 hq => ?_)
                  obtain ⟨rfl, rfl⟩ := hq
                  change Z _ _ _ _ _ [.long (v)] _
                  refine Z.lv [] rfl ?_
                  exact zb_X11_seen_57 h
                · have h := (if_neg q).symm.trans h
                  refine z_ldc2 qw_1025 dX11_seen_43 ?_
                  cases h
                  exact z_lreturn dX11_seen_46 rfl ⟨rfl, rfl⟩
/-- SkyStones.seen(IIII)J -/
theorem c_X11_seen {S : Shp} {x1 : Int32} {x2 : Int32} {x3 : Int32} {x4 : Int32} {σ : Mm} {r : Int64 × Mm} (h : F_X11_seen x1 x2 x3 x4 σ = some r) : Ct m_X11_seen S [.ref (sL S 0 0 0), .int (x1), .int (x2), .int (x3), .int (x4)] σ (Ql r) := Ct.of (by decide) (Nat.le_of_ble_eq_true rfl) (zb_X11_seen h)
def F_X11_site_56 (σ : Mm) : Option (Int32 × Mm) := some ((mA σ 0 0 0 12) - 1, σ)
set_option maxRecDepth 20000 in
theorem zb_X11_site_56 {S : Shp} {σ : Mm} {r : Int32 × Mm} (h : F_X11_site_56 σ = some r) : Z m_X11_site S (Qi r) 56 [] [.ref (sL S 0 0 0)] σ := by
  unfold F_X11_site_56 at h
  refine gf_11_85 rfl dX11_site_56 ?_
  refine z_iconst (v := 1) dX11_site_59 (by decide) ?_
  refine z_isub dX11_site_60 ?_
  cases h
  exact z_ireturn dX11_site_61 rfl rfl ⟨rfl, rfl⟩
def F_X11_site_47 (σ : Mm) : Option (Int32 × Mm) := (F_X11_site_56 (setA σ 0 0 0 (upd (mA σ 0 0 0) 12 ((mA σ 0 0 0 12) + 1))))
set_option maxRecDepth 20000 in
theorem zb_X11_site_47 {S : Shp} {σ : Mm} {r : Int32 × Mm} (h : F_X11_site_47 σ = some r) : Z m_X11_site S (Qi r) 47 [(0, .ref (sL S 0 0 0))] [.ref (sL S 0 0 0), .ref (sL S 0 0 0)] σ := by
  unfold F_X11_site_47 at h
  refine gf_11_85 rfl dX11_site_47 ?_
  refine z_iconst (v := 1) dX11_site_50 (by decide) ?_
  refine z_iadd dX11_site_51 ?_
  refine pf_11_85 rfl dX11_site_52 ?_
  refine z_aload_n dX11_site_55 rfl 0 rfl ?_
  refine Z.lv [] rfl ?_
  exact zb_X11_site_56 h
def F_X11_site_40 (x2 : Int32) (σ : Mm) : Option (Int32 × Mm) := (if inb (mA σ 0 0 0 12) 6 = true then (F_X11_site_47 (setA σ 0 0 4 (upd (mA σ 0 0 4) (mA σ 0 0 0 12).toNatClampNeg x2))) else none)
set_option maxRecDepth 20000 in
theorem zb_X11_site_40 {S : Shp} {x2 : Int32} {σ : Mm} {r : Int32 × Mm} (h : F_X11_site_40 x2 σ = some r) : Z m_X11_site S (Qi r) 40 [(0, .ref (sL S 0 0 0)), (2, .int (x2))] [.ref (sL S 0 0 0), .ref (sL S 0 0 4)] σ := by
  unfold F_X11_site_40 at h
  obtain ⟨g2, h⟩ := gd h
  refine gf_11_85 rfl dX11_site_40 ?_
  refine z_iload_n dX11_site_43 rfl 1 rfl ?_
  refine is_0_4 (inb_in g2) dX11_site_44 ?_
  refine z_aload_n dX11_site_45 rfl 0 rfl ?_
  refine z_dup dX11_site_46 rfl ?_
  refine Z.lv [0] rfl ?_
  exact zb_X11_site_47 h
def F_X11_site (x1 : Int32) (x2 : Int32) (σ : Mm) : Option (Int32 × Mm) := (if 6 ≤ (mA σ 0 0 0 12) then some ((-1), σ) else (if (f_X11_isDegree x1) = 0 then some ((-1), σ) else (if (f_X11_isDegree x2) = 0 then some ((-1), σ) else (if inb (mA σ 0 0 0 12) 6 = true then (F_X11_site_40 x2 (setA σ 0 0 3 (upd (mA σ 0 0 3) (mA σ 0 0 0 12).toNatClampNeg x1))) else none))))
set_option maxRecDepth 20000 in
theorem zb_X11_site {S : Shp} {x1 : Int32} {x2 : Int32} {σ : Mm} {r : Int32 × Mm} (h : F_X11_site x1 x2 σ = some r) : Z m_X11_site S (Qi r) 0 [(0, .ref (sL S 0 0 0)), (1, .int (x1)), (2, .int (x2))] [] σ := by
  unfold F_X11_site at h
  refine z_aload_n dX11_site_0 rfl 0 rfl ?_
  refine gf_11_85 rfl dX11_site_1 ?_
  refine z_bipush (v := 6) dX11_site_4 (by decide) ?_
  refine z_icmp_ge (tgt := 23) dX11_site_6 (by decide) (fun q => ?_) (fun q => ?_)
  · have h := (if_pos q).symm.trans h
    refine z_iconst (v := (-1)) dX11_site_23 (by decide) ?_
    cases h
    exact z_ireturn dX11_site_24 rfl rfl ⟨rfl, rfl⟩
  · have h := (if_neg q).symm.trans h
    refine z_iload_n dX11_site_9 rfl 1 rfl ?_
    refine z_callS (M' := m_X11_isDegree) (As := [.int (x1)]) (rest := []) kl_11_180 oy_X11_isDegree ⟨Nat.le_of_ble_eq_true rfl, Nat.le_of_ble_eq_true rfl⟩ rfl (Nat.le_of_ble_eq_true rfl) rfl dX11_site_10 (c_X11_isDegree rfl) (fun v τ hq => ?_)
    obtain ⟨rfl, rfl⟩ := hq
    change Z _ _ _ _ _ [.int (f_X11_isDegree x1)] _
    refine z_if_eq (tgt := 23) dX11_site_13 (by decide) (fun q => ?_) (fun q => ?_)
    · have h := (if_pos q).symm.trans h
      refine z_iconst (v := (-1)) dX11_site_23 (by decide) ?_
      cases h
      exact z_ireturn dX11_site_24 rfl rfl ⟨rfl, rfl⟩
    · have h := (if_neg q).symm.trans h
      refine z_iload_n dX11_site_16 rfl 2 rfl ?_
      refine z_callS (M' := m_X11_isDegree) (As := [.int (x2)]) (rest := []) kl_11_180 oy_X11_isDegree ⟨Nat.le_of_ble_eq_true rfl, Nat.le_of_ble_eq_true rfl⟩ rfl (Nat.le_of_ble_eq_true rfl) rfl dX11_site_17 (c_X11_isDegree rfl) (fun v τ hq => ?_)
      obtain ⟨rfl, rfl⟩ := hq
      change Z _ _ _ _ _ [.int (f_X11_isDegree x2)] _
      refine z_if_ne (tgt := 25) dX11_site_20 (by decide) (fun q => ?_) (fun q => ?_)
      · have h := (if_neg q).symm.trans h
        obtain ⟨g1, h⟩ := gd h
        refine z_aload_n dX11_site_25 rfl 0 rfl ?_
        refine gf_11_89 rfl dX11_site_26 ?_
        refine z_aload_n dX11_site_29 rfl 0 rfl ?_
        refine gf_11_85 rfl dX11_site_30 ?_
        refine z_iload_n dX11_site_33 rfl 1 rfl ?_
        refine is_0_3 (inb_in g1) dX11_site_34 ?_
        refine z_aload_n dX11_site_35 rfl 0 rfl ?_
        refine gf_11_93 rfl dX11_site_36 ?_
        refine z_aload_n dX11_site_39 rfl 0 rfl ?_
        refine Z.lv [0, 2] rfl ?_
        exact zb_X11_site_40 h
      · have h := (if_pos q).symm.trans h
        refine z_iconst (v := (-1)) dX11_site_23 (by decide) ?_
        cases h
        exact z_ireturn dX11_site_24 rfl rfl ⟨rfl, rfl⟩
/-- SkyStones.site(II)I -/
theorem c_X11_site {S : Shp} {x1 : Int32} {x2 : Int32} {σ : Mm} {r : Int32 × Mm} (h : F_X11_site x1 x2 σ = some r) : Ct m_X11_site S [.ref (sL S 0 0 0), .int (x1), .int (x2)] σ (Qi r) := Ct.of (by decide) (Nat.le_of_ble_eq_true rfl) (zb_X11_site h)
def f_X11_vector (x1 : Int32) (x2 : Int32) (σ : Mm) : Int32 := (if (f_X11_isDegree x1) = 0 then (-100) else (if x2 < 0 then (-100) else (if x2 ≤ 1 then (if x2 = 0 then f_X1_eastward x1 else f_X1_northward x1) else (-100))))
set_option maxRecDepth 20000 in
theorem zb_X11_vector {S : Shp} {x1 : Int32} {x2 : Int32} {σ : Mm} {r : Int32} (hp : okP σ = true) (h : f_X11_vector x1 x2 σ = r) : Z m_X11_vector S (Qi (r, σ)) 0 [(0, .ref (sL S 0 0 0)), (1, .int (x1)), (2, .int (x2))] [] σ := by
  unfold f_X11_vector at h
  refine z_iload_n dX11_vector_0 rfl 1 rfl ?_
  refine z_callS (M' := m_X11_isDegree) (As := [.int (x1)]) (rest := []) kl_11_180 oy_X11_isDegree ⟨Nat.le_of_ble_eq_true rfl, Nat.le_of_ble_eq_true rfl⟩ rfl (Nat.le_of_ble_eq_true rfl) rfl dX11_vector_1 (c_X11_isDegree rfl) (fun v τ hq => ?_)
  obtain ⟨rfl, rfl⟩ := hq
  change Z _ _ _ _ _ [.int (f_X11_isDegree x1)] _
  refine z_if_eq (tgt := 16) dX11_vector_4 (by decide) (fun q => ?_) (fun q => ?_)
  · have h := (if_pos q).symm.trans h
    refine z_bipush (v := (-100)) dX11_vector_16 (by decide) ?_
    subst h
    exact z_ireturn dX11_vector_18 rfl rfl ⟨rfl, rfl⟩
  · have h := (if_neg q).symm.trans h
    refine z_iload_n dX11_vector_7 rfl 2 rfl ?_
    refine z_if_lt (tgt := 16) dX11_vector_8 (by decide) (fun q => ?_) (fun q => ?_)
    · have h := (if_pos q).symm.trans h
      refine z_bipush (v := (-100)) dX11_vector_16 (by decide) ?_
      subst h
      exact z_ireturn dX11_vector_18 rfl rfl ⟨rfl, rfl⟩
    · have h := (if_neg q).symm.trans h
      refine z_iload_n dX11_vector_11 rfl 2 rfl ?_
      refine z_iconst (v := 1) dX11_vector_12 (by decide) ?_
      refine z_icmp_le (tgt := 19) dX11_vector_13 (by decide) (fun q => ?_) (fun q => ?_)
      · have h := (if_pos q).symm.trans h
        refine z_iload_n dX11_vector_19 rfl 2 rfl ?_
        refine z_if_ne (tgt := 30) dX11_vector_20 (by decide) (fun q => ?_) (fun q => ?_)
        · have h := (if_neg q).symm.trans h
          refine z_iload_n dX11_vector_30 rfl 1 rfl ?_
          refine z_callS (M' := m_X1_northward) (As := [.int (x1)]) (rest := []) kl_11_187 oy_X1_northward ⟨Nat.le_of_ble_eq_true rfl, Nat.le_of_ble_eq_true rfl⟩ rfl (Nat.le_of_ble_eq_true rfl) rfl dX11_vector_31 (c_X1_northward rfl) (fun v τ hq => ?_)
          obtain ⟨rfl, rfl⟩ := hq
          change Z _ _ _ _ _ [.int (f_X1_northward x1)] _
          subst h
          exact z_ireturn dX11_vector_34 rfl rfl ⟨rfl, rfl⟩
        · have h := (if_pos q).symm.trans h
          refine z_iload_n dX11_vector_23 rfl 1 rfl ?_
          refine z_callS (M' := m_X1_eastward) (As := [.int (x1)]) (rest := []) kl_11_183 oy_X1_eastward ⟨Nat.le_of_ble_eq_true rfl, Nat.le_of_ble_eq_true rfl⟩ rfl (Nat.le_of_ble_eq_true rfl) rfl dX11_vector_24 (c_X1_eastward rfl) (fun v τ hq => ?_)
          obtain ⟨rfl, rfl⟩ := hq
          change Z _ _ _ _ _ [.int (f_X1_eastward x1)] _
          refine z_goto (tgt := 34) dX11_vector_27 (by decide) ?_
          subst h
          exact z_ireturn dX11_vector_34 rfl rfl ⟨rfl, rfl⟩
      · have h := (if_neg q).symm.trans h
        refine z_bipush (v := (-100)) dX11_vector_16 (by decide) ?_
        subst h
        exact z_ireturn dX11_vector_18 rfl rfl ⟨rfl, rfl⟩
/-- SkyStones.vector(II)I -/
theorem c_X11_vector {S : Shp} {x1 : Int32} {x2 : Int32} {σ : Mm} {r : Int32} (hp : okP σ = true) (h : f_X11_vector x1 x2 σ = r) : Ct m_X11_vector S [.ref (sL S 0 0 0), .int (x1), .int (x2)] σ (Qi (r, σ)) := Ct.of (by decide) (Nat.le_of_ble_eq_true rfl) (zb_X11_vector hp h)
def F_X12_copy_817 (rc725 : Int32 → Int32 → Int32 → Mm → Option (Mm)) (x1 : Int32) (x2 : Int32) (x3 : Int32) (s0 : Int32) (s2 : Int32) (σ : Mm) : Option (Mm) := (if inb s0 300 = true then (if inb s2 300 = true then (rc725 x1 x2 (x3 + 1) (setA σ 3 0 42 (upd (mA σ 3 0 42) s2.toNatClampNeg (mA σ 3 0 42 s0.toNatClampNeg)))) else none) else none)
set_option maxRecDepth 20000 in
theorem zb_X12_copy_817 {S : Shp} {rc725 : Int32 → Int32 → Int32 → Mm → Option (Mm)} (hrc725 : ∀ {x1 : Int32} {x2 : Int32} {x3 : Int32} {σ : Mm} {r : Mm}, rc725 x1 x2 x3 σ = some r → Z m_X12_copy S (Qv r) 725 [(0, .ref (sL S 3 0 0)), (1, .int (x1)), (2, .int (x2)), (3, .int (x3))] [] σ) {x1 : Int32} {x2 : Int32} {x3 : Int32} {s0 : Int32} {s2 : Int32} {σ : Mm} {r : Mm} (h : F_X12_copy_817 rc725 x1 x2 x3 s0 s2 σ = some r) : Z m_X12_copy S (Qv r) 817 [(0, .ref (sL S 3 0 0)), (1, .int (x1)), (2, .int (x2)), (3, .int (x3))] [.int (s0), .ref (sL S 3 0 42), .int (s2), .ref (sL S 3 0 42)] σ := by
  unfold F_X12_copy_817 at h
  obtain ⟨g67, h⟩ := gd h
  obtain ⟨g68, h⟩ := gd h
  refine ia_3_42 (inb_in g67) dX12_copy_817 ?_
  refine is_3_42 (inb_in g68) dX12_copy_818 ?_
  refine z_iinc (j := 3) (v := x3 + 1) dX12_copy_819 rfl rfl (by decide) [1, 2, 3, 0] rfl ?_
  refine z_goto (tgt := 725) dX12_copy_822 (by decide) ?_
  exact hrc725 h
def F_X12_copy_795 (rc725 : Int32 → Int32 → Int32 → Mm → Option (Mm)) (x1 : Int32) (x2 : Int32) (x3 : Int32) (s0 : Int32) (s2 : Int32) (σ : Mm) : Option (Mm) := (if inb s0 300 = true then (if inb s2 300 = true then (F_X12_copy_817 rc725 x1 x2 x3 ((60 * x1) + x3) ((60 * x2) + x3) (setA σ 3 0 41 (upd (mA σ 3 0 41) s2.toNatClampNeg (mA σ 3 0 41 s0.toNatClampNeg)))) else none) else none)
set_option maxRecDepth 20000 in
theorem zb_X12_copy_795 {S : Shp} {rc725 : Int32 → Int32 → Int32 → Mm → Option (Mm)} (hrc725 : ∀ {x1 : Int32} {x2 : Int32} {x3 : Int32} {σ : Mm} {r : Mm}, rc725 x1 x2 x3 σ = some r → Z m_X12_copy S (Qv r) 725 [(0, .ref (sL S 3 0 0)), (1, .int (x1)), (2, .int (x2)), (3, .int (x3))] [] σ) {x1 : Int32} {x2 : Int32} {x3 : Int32} {s0 : Int32} {s2 : Int32} {σ : Mm} {r : Mm} (h : F_X12_copy_795 rc725 x1 x2 x3 s0 s2 σ = some r) : Z m_X12_copy S (Qv r) 795 [(0, .ref (sL S 3 0 0)), (1, .int (x1)), (2, .int (x2)), (3, .int (x3))] [.int (s0), .ref (sL S 3 0 41), .int (s2), .ref (sL S 3 0 41)] σ := by
  unfold F_X12_copy_795 at h
  obtain ⟨g63, h⟩ := gd h
  obtain ⟨g64, h⟩ := gd h
  refine ia_3_41 (inb_in g63) dX12_copy_795 ?_
  refine is_3_41 (inb_in g64) dX12_copy_796 ?_
  refine z_aload_n dX12_copy_797 rfl 0 rfl ?_
  refine gf_12_139 rfl dX12_copy_798 ?_
  refine z_bipush (v := 60) dX12_copy_801 (by decide) ?_
  refine z_iload_n dX12_copy_803 rfl 2 rfl ?_
  refine z_imul dX12_copy_804 ?_
  refine z_iload_n dX12_copy_805 rfl 3 rfl ?_
  refine z_iadd dX12_copy_806 ?_
  refine z_aload_n dX12_copy_807 rfl 0 rfl ?_
  refine gf_12_139 rfl dX12_copy_808 ?_
  refine z_bipush (v := 60) dX12_copy_811 (by decide) ?_
  refine z_iload_n dX12_copy_813 rfl 1 rfl ?_
  refine z_imul dX12_copy_814 ?_
  refine z_iload_n dX12_copy_815 rfl 3 rfl ?_
  refine z_iadd dX12_copy_816 ?_
  exact zb_X12_copy_817 hrc725 h
def F_X12_copy_773 (rc725 : Int32 → Int32 → Int32 → Mm → Option (Mm)) (x1 : Int32) (x2 : Int32) (x3 : Int32) (s0 : Int32) (s2 : Int32) (σ : Mm) : Option (Mm) := (if inb s0 300 = true then (if inb s2 300 = true then (F_X12_copy_795 rc725 x1 x2 x3 ((60 * x1) + x3) ((60 * x2) + x3) (setA σ 3 0 40 (upd (mA σ 3 0 40) s2.toNatClampNeg (mA σ 3 0 40 s0.toNatClampNeg)))) else none) else none)
set_option maxRecDepth 20000 in
theorem zb_X12_copy_773 {S : Shp} {rc725 : Int32 → Int32 → Int32 → Mm → Option (Mm)} (hrc725 : ∀ {x1 : Int32} {x2 : Int32} {x3 : Int32} {σ : Mm} {r : Mm}, rc725 x1 x2 x3 σ = some r → Z m_X12_copy S (Qv r) 725 [(0, .ref (sL S 3 0 0)), (1, .int (x1)), (2, .int (x2)), (3, .int (x3))] [] σ) {x1 : Int32} {x2 : Int32} {x3 : Int32} {s0 : Int32} {s2 : Int32} {σ : Mm} {r : Mm} (h : F_X12_copy_773 rc725 x1 x2 x3 s0 s2 σ = some r) : Z m_X12_copy S (Qv r) 773 [(0, .ref (sL S 3 0 0)), (1, .int (x1)), (2, .int (x2)), (3, .int (x3))] [.int (s0), .ref (sL S 3 0 40), .int (s2), .ref (sL S 3 0 40)] σ := by
  unfold F_X12_copy_773 at h
  obtain ⟨g59, h⟩ := gd h
  obtain ⟨g60, h⟩ := gd h
  refine ia_3_40 (inb_in g59) dX12_copy_773 ?_
  refine is_3_40 (inb_in g60) dX12_copy_774 ?_
  refine z_aload_n dX12_copy_775 rfl 0 rfl ?_
  refine gf_12_136 rfl dX12_copy_776 ?_
  refine z_bipush (v := 60) dX12_copy_779 (by decide) ?_
  refine z_iload_n dX12_copy_781 rfl 2 rfl ?_
  refine z_imul dX12_copy_782 ?_
  refine z_iload_n dX12_copy_783 rfl 3 rfl ?_
  refine z_iadd dX12_copy_784 ?_
  refine z_aload_n dX12_copy_785 rfl 0 rfl ?_
  refine gf_12_136 rfl dX12_copy_786 ?_
  refine z_bipush (v := 60) dX12_copy_789 (by decide) ?_
  refine z_iload_n dX12_copy_791 rfl 1 rfl ?_
  refine z_imul dX12_copy_792 ?_
  refine z_iload_n dX12_copy_793 rfl 3 rfl ?_
  refine z_iadd dX12_copy_794 ?_
  exact zb_X12_copy_795 hrc725 h
def B_X12_copy_725 (rc725 : Int32 → Int32 → Int32 → Mm → Option (Mm)) (x1 : Int32) (x2 : Int32) (x3 : Int32) (σ : Mm) : Option (Mm) := (if 60 ≤ x3 then some (σ) else (if inb ((60 * x1) + x3) 300 = true then (if inb ((60 * x2) + x3) 300 = true then (F_X12_copy_773 rc725 x1 x2 x3 ((60 * x1) + x3) ((60 * x2) + x3) (setA σ 3 0 39 (upd (mA σ 3 0 39) ((60 * x2) + x3).toNatClampNeg (mA σ 3 0 39 ((60 * x1) + x3).toNatClampNeg)))) else none) else none))
set_option maxRecDepth 20000 in
theorem zB_X12_copy_725 {S : Shp} {rc725 : Int32 → Int32 → Int32 → Mm → Option (Mm)} (hrc725 : ∀ {x1 : Int32} {x2 : Int32} {x3 : Int32} {σ : Mm} {r : Mm}, rc725 x1 x2 x3 σ = some r → Z m_X12_copy S (Qv r) 725 [(0, .ref (sL S 3 0 0)), (1, .int (x1)), (2, .int (x2)), (3, .int (x3))] [] σ) {x1 : Int32} {x2 : Int32} {x3 : Int32} {σ : Mm} {r : Mm} (h : B_X12_copy_725 rc725 x1 x2 x3 σ = some r) : Z m_X12_copy S (Qv r) 725 [(0, .ref (sL S 3 0 0)), (1, .int (x1)), (2, .int (x2)), (3, .int (x3))] [] σ := by
  unfold B_X12_copy_725 at h
  refine z_iload_n dX12_copy_725 rfl 3 rfl ?_
  refine z_bipush (v := 60) dX12_copy_726 (by decide) ?_
  refine z_icmp_ge (tgt := 825) dX12_copy_728 (by decide) (fun q => ?_) (fun q => ?_)
  · have h := (if_pos q).symm.trans h
    cases h
    exact z_return dX12_copy_825 rfl ⟨rfl, rfl⟩
  · have h := (if_neg q).symm.trans h
    obtain ⟨g55, h⟩ := gd h
    refine z_aload_n dX12_copy_731 rfl 0 rfl ?_
    refine gf_12_130 rfl dX12_copy_732 ?_
    refine z_bipush (v := 60) dX12_copy_735 (by decide) ?_
    refine z_iload_n dX12_copy_737 rfl 2 rfl ?_
    refine z_imul dX12_copy_738 ?_
    refine z_iload_n dX12_copy_739 rfl 3 rfl ?_
    refine z_iadd dX12_copy_740 ?_
    refine z_aload_n dX12_copy_741 rfl 0 rfl ?_
    refine gf_12_130 rfl dX12_copy_742 ?_
    refine z_bipush (v := 60) dX12_copy_745 (by decide) ?_
    refine z_iload_n dX12_copy_747 rfl 1 rfl ?_
    refine z_imul dX12_copy_748 ?_
    refine z_iload_n dX12_copy_749 rfl 3 rfl ?_
    refine z_iadd dX12_copy_750 ?_
    obtain ⟨g56, h⟩ := gd h
    refine ia_3_39 (inb_in g55) dX12_copy_751 ?_
    refine is_3_39 (inb_in g56) dX12_copy_752 ?_
    refine z_aload_n dX12_copy_753 rfl 0 rfl ?_
    refine gf_12_133 rfl dX12_copy_754 ?_
    refine z_bipush (v := 60) dX12_copy_757 (by decide) ?_
    refine z_iload_n dX12_copy_759 rfl 2 rfl ?_
    refine z_imul dX12_copy_760 ?_
    refine z_iload_n dX12_copy_761 rfl 3 rfl ?_
    refine z_iadd dX12_copy_762 ?_
    refine z_aload_n dX12_copy_763 rfl 0 rfl ?_
    refine gf_12_133 rfl dX12_copy_764 ?_
    refine z_bipush (v := 60) dX12_copy_767 (by decide) ?_
    refine z_iload_n dX12_copy_769 rfl 1 rfl ?_
    refine z_imul dX12_copy_770 ?_
    refine z_iload_n dX12_copy_771 rfl 3 rfl ?_
    refine z_iadd dX12_copy_772 ?_
    exact zb_X12_copy_773 hrc725 h
def F_X12_copy_725 : Nat → Int32 → Int32 → Int32 → Mm → Option (Mm)
  | 0 => fun _ _ _ _ => none
  | n + 1 => B_X12_copy_725 (F_X12_copy_725 n)
theorem zl_X12_copy_725 {S : Shp} (n : Nat) {x1 : Int32} {x2 : Int32} {x3 : Int32} {σ : Mm} {r : Mm} (h : F_X12_copy_725 n x1 x2 x3 σ = some r) : Z m_X12_copy S (Qv r) 725 [(0, .ref (sL S 3 0 0)), (1, .int (x1)), (2, .int (x2)), (3, .int (x3))] [] σ := by
  induction n generalizing x1 x2 x3 σ r with
  | zero => cases h
  | succ n ih => exact zB_X12_copy_725 (fun h => ih h) h
def F_X12_copy_715 (rc566 : Int32 → Int32 → Int32 → Mm → Option (Mm)) (x1 : Int32) (x2 : Int32) (x3 : Int32) (s0 : Int32) (s2 : Int32) (σ : Mm) : Option (Mm) := (if inb s0 1000 = true then (if inb s2 1000 = true then (rc566 x1 x2 (x3 + 1) (setA σ 3 0 37 (upd (mA σ 3 0 37) s2.toNatClampNeg (mA σ 3 0 37 s0.toNatClampNeg)))) else none) else none)
set_option maxRecDepth 20000 in
theorem zb_X12_copy_715 {S : Shp} {rc566 : Int32 → Int32 → Int32 → Mm → Option (Mm)} (hrc566 : ∀ {x1 : Int32} {x2 : Int32} {x3 : Int32} {σ : Mm} {r : Mm}, rc566 x1 x2 x3 σ = some r → Z m_X12_copy S (Qv r) 566 [(0, .ref (sL S 3 0 0)), (1, .int (x1)), (2, .int (x2)), (3, .int (x3))] [] σ) {x1 : Int32} {x2 : Int32} {x3 : Int32} {s0 : Int32} {s2 : Int32} {σ : Mm} {r : Mm} (h : F_X12_copy_715 rc566 x1 x2 x3 s0 s2 σ = some r) : Z m_X12_copy S (Qv r) 715 [(0, .ref (sL S 3 0 0)), (1, .int (x1)), (2, .int (x2)), (3, .int (x3))] [.int (s0), .ref (sL S 3 0 37), .int (s2), .ref (sL S 3 0 37)] σ := by
  unfold F_X12_copy_715 at h
  obtain ⟨g71, h⟩ := gd h
  obtain ⟨g72, h⟩ := gd h
  refine ia_3_37 (inb_in g71) dX12_copy_715 ?_
  refine is_3_37 (inb_in g72) dX12_copy_716 ?_
  refine z_iinc (j := 3) (v := x3 + 1) dX12_copy_717 rfl rfl (by decide) [1, 2, 3, 0] rfl ?_
  refine z_goto (tgt := 566) dX12_copy_720 (by decide) ?_
  exact hrc566 h
def F_X12_copy_691 (rc566 : Int32 → Int32 → Int32 → Mm → Option (Mm)) (x1 : Int32) (x2 : Int32) (x3 : Int32) (s0 : Int32) (s2 : Int32) (σ : Mm) : Option (Mm) := (if inb s0 1000 = true then (if inb s2 1000 = true then (F_X12_copy_715 rc566 x1 x2 x3 ((200 * x1) + x3) ((200 * x2) + x3) (setA σ 3 0 36 (upd (mA σ 3 0 36) s2.toNatClampNeg (mA σ 3 0 36 s0.toNatClampNeg)))) else none) else none)
set_option maxRecDepth 20000 in
theorem zb_X12_copy_691 {S : Shp} {rc566 : Int32 → Int32 → Int32 → Mm → Option (Mm)} (hrc566 : ∀ {x1 : Int32} {x2 : Int32} {x3 : Int32} {σ : Mm} {r : Mm}, rc566 x1 x2 x3 σ = some r → Z m_X12_copy S (Qv r) 566 [(0, .ref (sL S 3 0 0)), (1, .int (x1)), (2, .int (x2)), (3, .int (x3))] [] σ) {x1 : Int32} {x2 : Int32} {x3 : Int32} {s0 : Int32} {s2 : Int32} {σ : Mm} {r : Mm} (h : F_X12_copy_691 rc566 x1 x2 x3 s0 s2 σ = some r) : Z m_X12_copy S (Qv r) 691 [(0, .ref (sL S 3 0 0)), (1, .int (x1)), (2, .int (x2)), (3, .int (x3))] [.int (s0), .ref (sL S 3 0 36), .int (s2), .ref (sL S 3 0 36)] σ := by
  unfold F_X12_copy_691 at h
  obtain ⟨g69, h⟩ := gd h
  obtain ⟨g70, h⟩ := gd h
  refine ia_3_36 (inb_in g69) dX12_copy_691 ?_
  refine is_3_36 (inb_in g70) dX12_copy_692 ?_
  refine z_aload_n dX12_copy_693 rfl 0 rfl ?_
  refine gf_12_124 rfl dX12_copy_694 ?_
  refine z_sipush (v := 200) dX12_copy_697 (by decide) ?_
  refine z_iload_n dX12_copy_700 rfl 2 rfl ?_
  refine z_imul dX12_copy_701 ?_
  refine z_iload_n dX12_copy_702 rfl 3 rfl ?_
  refine z_iadd dX12_copy_703 ?_
  refine z_aload_n dX12_copy_704 rfl 0 rfl ?_
  refine gf_12_124 rfl dX12_copy_705 ?_
  refine z_sipush (v := 200) dX12_copy_708 (by decide) ?_
  refine z_iload_n dX12_copy_711 rfl 1 rfl ?_
  refine z_imul dX12_copy_712 ?_
  refine z_iload_n dX12_copy_713 rfl 3 rfl ?_
  refine z_iadd dX12_copy_714 ?_
  exact zb_X12_copy_715 hrc566 h
def F_X12_copy_667 (rc566 : Int32 → Int32 → Int32 → Mm → Option (Mm)) (x1 : Int32) (x2 : Int32) (x3 : Int32) (s0 : Int32) (s2 : Int32) (σ : Mm) : Option (Mm) := (if inb s0 1000 = true then (if inb s2 1000 = true then (F_X12_copy_691 rc566 x1 x2 x3 ((200 * x1) + x3) ((200 * x2) + x3) (setA σ 3 0 35 (upd (mA σ 3 0 35) s2.toNatClampNeg (mA σ 3 0 35 s0.toNatClampNeg)))) else none) else none)
set_option maxRecDepth 20000 in
theorem zb_X12_copy_667 {S : Shp} {rc566 : Int32 → Int32 → Int32 → Mm → Option (Mm)} (hrc566 : ∀ {x1 : Int32} {x2 : Int32} {x3 : Int32} {σ : Mm} {r : Mm}, rc566 x1 x2 x3 σ = some r → Z m_X12_copy S (Qv r) 566 [(0, .ref (sL S 3 0 0)), (1, .int (x1)), (2, .int (x2)), (3, .int (x3))] [] σ) {x1 : Int32} {x2 : Int32} {x3 : Int32} {s0 : Int32} {s2 : Int32} {σ : Mm} {r : Mm} (h : F_X12_copy_667 rc566 x1 x2 x3 s0 s2 σ = some r) : Z m_X12_copy S (Qv r) 667 [(0, .ref (sL S 3 0 0)), (1, .int (x1)), (2, .int (x2)), (3, .int (x3))] [.int (s0), .ref (sL S 3 0 35), .int (s2), .ref (sL S 3 0 35)] σ := by
  unfold F_X12_copy_667 at h
  obtain ⟨g65, h⟩ := gd h
  obtain ⟨g66, h⟩ := gd h
  refine ia_3_35 (inb_in g65) dX12_copy_667 ?_
  refine is_3_35 (inb_in g66) dX12_copy_668 ?_
  refine z_aload_n dX12_copy_669 rfl 0 rfl ?_
  refine gf_12_121 rfl dX12_copy_670 ?_
  refine z_sipush (v := 200) dX12_copy_673 (by decide) ?_
  refine z_iload_n dX12_copy_676 rfl 2 rfl ?_
  refine z_imul dX12_copy_677 ?_
  refine z_iload_n dX12_copy_678 rfl 3 rfl ?_
  refine z_iadd dX12_copy_679 ?_
  refine z_aload_n dX12_copy_680 rfl 0 rfl ?_
  refine gf_12_121 rfl dX12_copy_681 ?_
  refine z_sipush (v := 200) dX12_copy_684 (by decide) ?_
  refine z_iload_n dX12_copy_687 rfl 1 rfl ?_
  refine z_imul dX12_copy_688 ?_
  refine z_iload_n dX12_copy_689 rfl 3 rfl ?_
  refine z_iadd dX12_copy_690 ?_
  exact zb_X12_copy_691 hrc566 h
def F_X12_copy_643 (rc566 : Int32 → Int32 → Int32 → Mm → Option (Mm)) (x1 : Int32) (x2 : Int32) (x3 : Int32) (s0 : Int32) (s2 : Int32) (σ : Mm) : Option (Mm) := (if inb s0 1000 = true then (if inb s2 1000 = true then (F_X12_copy_667 rc566 x1 x2 x3 ((200 * x1) + x3) ((200 * x2) + x3) (setA σ 3 0 34 (upd (mA σ 3 0 34) s2.toNatClampNeg (mA σ 3 0 34 s0.toNatClampNeg)))) else none) else none)
set_option maxRecDepth 20000 in
theorem zb_X12_copy_643 {S : Shp} {rc566 : Int32 → Int32 → Int32 → Mm → Option (Mm)} (hrc566 : ∀ {x1 : Int32} {x2 : Int32} {x3 : Int32} {σ : Mm} {r : Mm}, rc566 x1 x2 x3 σ = some r → Z m_X12_copy S (Qv r) 566 [(0, .ref (sL S 3 0 0)), (1, .int (x1)), (2, .int (x2)), (3, .int (x3))] [] σ) {x1 : Int32} {x2 : Int32} {x3 : Int32} {s0 : Int32} {s2 : Int32} {σ : Mm} {r : Mm} (h : F_X12_copy_643 rc566 x1 x2 x3 s0 s2 σ = some r) : Z m_X12_copy S (Qv r) 643 [(0, .ref (sL S 3 0 0)), (1, .int (x1)), (2, .int (x2)), (3, .int (x3))] [.int (s0), .ref (sL S 3 0 34), .int (s2), .ref (sL S 3 0 34)] σ := by
  unfold F_X12_copy_643 at h
  obtain ⟨g61, h⟩ := gd h
  obtain ⟨g62, h⟩ := gd h
  refine ia_3_34 (inb_in g61) dX12_copy_643 ?_
  refine is_3_34 (inb_in g62) dX12_copy_644 ?_
  refine z_aload_n dX12_copy_645 rfl 0 rfl ?_
  refine gf_12_118 rfl dX12_copy_646 ?_
  refine z_sipush (v := 200) dX12_copy_649 (by decide) ?_
  refine z_iload_n dX12_copy_652 rfl 2 rfl ?_
  refine z_imul dX12_copy_653 ?_
  refine z_iload_n dX12_copy_654 rfl 3 rfl ?_
  refine z_iadd dX12_copy_655 ?_
  refine z_aload_n dX12_copy_656 rfl 0 rfl ?_
  refine gf_12_118 rfl dX12_copy_657 ?_
  refine z_sipush (v := 200) dX12_copy_660 (by decide) ?_
  refine z_iload_n dX12_copy_663 rfl 1 rfl ?_
  refine z_imul dX12_copy_664 ?_
  refine z_iload_n dX12_copy_665 rfl 3 rfl ?_
  refine z_iadd dX12_copy_666 ?_
  exact zb_X12_copy_667 hrc566 h
def F_X12_copy_619 (rc566 : Int32 → Int32 → Int32 → Mm → Option (Mm)) (x1 : Int32) (x2 : Int32) (x3 : Int32) (s0 : Int32) (s2 : Int32) (σ : Mm) : Option (Mm) := (if inb s0 1000 = true then (if inb s2 1000 = true then (F_X12_copy_643 rc566 x1 x2 x3 ((200 * x1) + x3) ((200 * x2) + x3) (setA σ 3 0 33 (upd (mA σ 3 0 33) s2.toNatClampNeg (mA σ 3 0 33 s0.toNatClampNeg)))) else none) else none)
set_option maxRecDepth 20000 in
theorem zb_X12_copy_619 {S : Shp} {rc566 : Int32 → Int32 → Int32 → Mm → Option (Mm)} (hrc566 : ∀ {x1 : Int32} {x2 : Int32} {x3 : Int32} {σ : Mm} {r : Mm}, rc566 x1 x2 x3 σ = some r → Z m_X12_copy S (Qv r) 566 [(0, .ref (sL S 3 0 0)), (1, .int (x1)), (2, .int (x2)), (3, .int (x3))] [] σ) {x1 : Int32} {x2 : Int32} {x3 : Int32} {s0 : Int32} {s2 : Int32} {σ : Mm} {r : Mm} (h : F_X12_copy_619 rc566 x1 x2 x3 s0 s2 σ = some r) : Z m_X12_copy S (Qv r) 619 [(0, .ref (sL S 3 0 0)), (1, .int (x1)), (2, .int (x2)), (3, .int (x3))] [.int (s0), .ref (sL S 3 0 33), .int (s2), .ref (sL S 3 0 33)] σ := by
  unfold F_X12_copy_619 at h
  obtain ⟨g57, h⟩ := gd h
  obtain ⟨g58, h⟩ := gd h
  refine ia_3_33 (inb_in g57) dX12_copy_619 ?_
  refine is_3_33 (inb_in g58) dX12_copy_620 ?_
  refine z_aload_n dX12_copy_621 rfl 0 rfl ?_
  refine gf_12_115 rfl dX12_copy_622 ?_
  refine z_sipush (v := 200) dX12_copy_625 (by decide) ?_
  refine z_iload_n dX12_copy_628 rfl 2 rfl ?_
  refine z_imul dX12_copy_629 ?_
  refine z_iload_n dX12_copy_630 rfl 3 rfl ?_
  refine z_iadd dX12_copy_631 ?_
  refine z_aload_n dX12_copy_632 rfl 0 rfl ?_
  refine gf_12_115 rfl dX12_copy_633 ?_
  refine z_sipush (v := 200) dX12_copy_636 (by decide) ?_
  refine z_iload_n dX12_copy_639 rfl 1 rfl ?_
  refine z_imul dX12_copy_640 ?_
  refine z_iload_n dX12_copy_641 rfl 3 rfl ?_
  refine z_iadd dX12_copy_642 ?_
  exact zb_X12_copy_643 hrc566 h
def B_X12_copy_566 (rc566 : Int32 → Int32 → Int32 → Mm → Option (Mm)) (x1 : Int32) (x2 : Int32) (x3 : Int32) (σ : Mm) : Option (Mm) := (if 200 ≤ x3 then (F_X12_copy_725 FU x1 x2 0 σ) else (if inb ((200 * x1) + x3) 1000 = true then (if inb ((200 * x2) + x3) 1000 = true then (F_X12_copy_619 rc566 x1 x2 x3 ((200 * x1) + x3) ((200 * x2) + x3) (setA σ 3 0 32 (upd (mA σ 3 0 32) ((200 * x2) + x3).toNatClampNeg (vp_nar .boolean (mA σ 3 0 32 ((200 * x1) + x3).toNatClampNeg))))) else none) else none))
set_option maxRecDepth 20000 in
theorem zB_X12_copy_566 {S : Shp} {rc566 : Int32 → Int32 → Int32 → Mm → Option (Mm)} (hrc566 : ∀ {x1 : Int32} {x2 : Int32} {x3 : Int32} {σ : Mm} {r : Mm}, rc566 x1 x2 x3 σ = some r → Z m_X12_copy S (Qv r) 566 [(0, .ref (sL S 3 0 0)), (1, .int (x1)), (2, .int (x2)), (3, .int (x3))] [] σ) {x1 : Int32} {x2 : Int32} {x3 : Int32} {σ : Mm} {r : Mm} (h : B_X12_copy_566 rc566 x1 x2 x3 σ = some r) : Z m_X12_copy S (Qv r) 566 [(0, .ref (sL S 3 0 0)), (1, .int (x1)), (2, .int (x2)), (3, .int (x3))] [] σ := by
  unfold B_X12_copy_566 at h
  refine z_iload_n dX12_copy_566 rfl 3 rfl ?_
  refine z_sipush (v := 200) dX12_copy_567 (by decide) ?_
  refine z_icmp_ge (tgt := 723) dX12_copy_570 (by decide) (fun q => ?_) (fun q => ?_)
  · have h := (if_pos q).symm.trans h
    refine z_iconst (v := 0) dX12_copy_723 (by decide) ?_
    refine z_istore_n dX12_copy_724 rfl (by decide) [1, 2, 3, 0] rfl ?_
    exact zl_X12_copy_725 FU h
  · have h := (if_neg q).symm.trans h
    obtain ⟨g51, h⟩ := gd h
    refine z_aload_n dX12_copy_573 rfl 0 rfl ?_
    refine gf_12_109 rfl dX12_copy_574 ?_
    refine z_sipush (v := 200) dX12_copy_577 (by decide) ?_
    refine z_iload_n dX12_copy_580 rfl 2 rfl ?_
    refine z_imul dX12_copy_581 ?_
    refine z_iload_n dX12_copy_582 rfl 3 rfl ?_
    refine z_iadd dX12_copy_583 ?_
    refine z_aload_n dX12_copy_584 rfl 0 rfl ?_
    refine gf_12_109 rfl dX12_copy_585 ?_
    refine z_sipush (v := 200) dX12_copy_588 (by decide) ?_
    refine z_iload_n dX12_copy_591 rfl 1 rfl ?_
    refine z_imul dX12_copy_592 ?_
    refine z_iload_n dX12_copy_593 rfl 3 rfl ?_
    refine z_iadd dX12_copy_594 ?_
    obtain ⟨g52, h⟩ := gd h
    refine ia_3_32 (inb_in g51) dX12_copy_595 ?_
    refine is_3_32 (inb_in g52) dX12_copy_596 ?_
    refine z_aload_n dX12_copy_597 rfl 0 rfl ?_
    refine gf_12_112 rfl dX12_copy_598 ?_
    refine z_sipush (v := 200) dX12_copy_601 (by decide) ?_
    refine z_iload_n dX12_copy_604 rfl 2 rfl ?_
    refine z_imul dX12_copy_605 ?_
    refine z_iload_n dX12_copy_606 rfl 3 rfl ?_
    refine z_iadd dX12_copy_607 ?_
    refine z_aload_n dX12_copy_608 rfl 0 rfl ?_
    refine gf_12_112 rfl dX12_copy_609 ?_
    refine z_sipush (v := 200) dX12_copy_612 (by decide) ?_
    refine z_iload_n dX12_copy_615 rfl 1 rfl ?_
    refine z_imul dX12_copy_616 ?_
    refine z_iload_n dX12_copy_617 rfl 3 rfl ?_
    refine z_iadd dX12_copy_618 ?_
    exact zb_X12_copy_619 hrc566 h
def F_X12_copy_566 : Nat → Int32 → Int32 → Int32 → Mm → Option (Mm)
  | 0 => fun _ _ _ _ => none
  | n + 1 => B_X12_copy_566 (F_X12_copy_566 n)
theorem zl_X12_copy_566 {S : Shp} (n : Nat) {x1 : Int32} {x2 : Int32} {x3 : Int32} {σ : Mm} {r : Mm} (h : F_X12_copy_566 n x1 x2 x3 σ = some r) : Z m_X12_copy S (Qv r) 566 [(0, .ref (sL S 3 0 0)), (1, .int (x1)), (2, .int (x2)), (3, .int (x3))] [] σ := by
  induction n generalizing x1 x2 x3 σ r with
  | zero => cases h
  | succ n ih => exact zB_X12_copy_566 (fun h => ih h) h
def F_X12_copy_556 (rc503 : Int32 → Int32 → Int32 → Mm → Option (Mm)) (x1 : Int32) (x2 : Int32) (x3 : Int32) (s0 : Int32) (s2 : Int32) (σ : Mm) : Option (Mm) := (if inb s0 2500 = true then (if inb s2 2500 = true then (rc503 x1 x2 (x3 + 1) (setA σ 3 0 30 (upd (mA σ 3 0 30) s2.toNatClampNeg (mA σ 3 0 30 s0.toNatClampNeg)))) else none) else none)
set_option maxRecDepth 20000 in
theorem zb_X12_copy_556 {S : Shp} {rc503 : Int32 → Int32 → Int32 → Mm → Option (Mm)} (hrc503 : ∀ {x1 : Int32} {x2 : Int32} {x3 : Int32} {σ : Mm} {r : Mm}, rc503 x1 x2 x3 σ = some r → Z m_X12_copy S (Qv r) 503 [(0, .ref (sL S 3 0 0)), (1, .int (x1)), (2, .int (x2)), (3, .int (x3))] [] σ) {x1 : Int32} {x2 : Int32} {x3 : Int32} {s0 : Int32} {s2 : Int32} {σ : Mm} {r : Mm} (h : F_X12_copy_556 rc503 x1 x2 x3 s0 s2 σ = some r) : Z m_X12_copy S (Qv r) 556 [(0, .ref (sL S 3 0 0)), (1, .int (x1)), (2, .int (x2)), (3, .int (x3))] [.int (s0), .ref (sL S 3 0 30), .int (s2), .ref (sL S 3 0 30)] σ := by
  unfold F_X12_copy_556 at h
  obtain ⟨g53, h⟩ := gd h
  obtain ⟨g54, h⟩ := gd h
  refine ia_3_30 (inb_in g53) dX12_copy_556 ?_
  refine is_3_30 (inb_in g54) dX12_copy_557 ?_
  refine z_iinc (j := 3) (v := x3 + 1) dX12_copy_558 rfl rfl (by decide) [1, 2, 3, 0] rfl ?_
  refine z_goto (tgt := 503) dX12_copy_561 (by decide) ?_
  exact hrc503 h
def B_X12_copy_503 (rc503 : Int32 → Int32 → Int32 → Mm → Option (Mm)) (x1 : Int32) (x2 : Int32) (x3 : Int32) (σ : Mm) : Option (Mm) := (if 500 ≤ x3 then (F_X12_copy_566 FU x1 x2 0 σ) else (if inb ((500 * x1) + x3) 2500 = true then (if inb ((500 * x2) + x3) 2500 = true then (F_X12_copy_556 rc503 x1 x2 x3 ((500 * x1) + x3) ((500 * x2) + x3) (setA σ 3 0 29 (upd (mA σ 3 0 29) ((500 * x2) + x3).toNatClampNeg (mA σ 3 0 29 ((500 * x1) + x3).toNatClampNeg)))) else none) else none))
set_option maxRecDepth 20000 in
theorem zB_X12_copy_503 {S : Shp} {rc503 : Int32 → Int32 → Int32 → Mm → Option (Mm)} (hrc503 : ∀ {x1 : Int32} {x2 : Int32} {x3 : Int32} {σ : Mm} {r : Mm}, rc503 x1 x2 x3 σ = some r → Z m_X12_copy S (Qv r) 503 [(0, .ref (sL S 3 0 0)), (1, .int (x1)), (2, .int (x2)), (3, .int (x3))] [] σ) {x1 : Int32} {x2 : Int32} {x3 : Int32} {σ : Mm} {r : Mm} (h : B_X12_copy_503 rc503 x1 x2 x3 σ = some r) : Z m_X12_copy S (Qv r) 503 [(0, .ref (sL S 3 0 0)), (1, .int (x1)), (2, .int (x2)), (3, .int (x3))] [] σ := by
  unfold B_X12_copy_503 at h
  refine z_iload_n dX12_copy_503 rfl 3 rfl ?_
  refine z_sipush (v := 500) dX12_copy_504 (by decide) ?_
  refine z_icmp_ge (tgt := 564) dX12_copy_507 (by decide) (fun q => ?_) (fun q => ?_)
  · have h := (if_pos q).symm.trans h
    refine z_iconst (v := 0) dX12_copy_564 (by decide) ?_
    refine z_istore_n dX12_copy_565 rfl (by decide) [1, 2, 3, 0] rfl ?_
    exact zl_X12_copy_566 FU h
  · have h := (if_neg q).symm.trans h
    obtain ⟨g45, h⟩ := gd h
    refine z_aload_n dX12_copy_510 rfl 0 rfl ?_
    refine gf_12_100 rfl dX12_copy_511 ?_
    refine z_sipush (v := 500) dX12_copy_514 (by decide) ?_
    refine z_iload_n dX12_copy_517 rfl 2 rfl ?_
    refine z_imul dX12_copy_518 ?_
    refine z_iload_n dX12_copy_519 rfl 3 rfl ?_
    refine z_iadd dX12_copy_520 ?_
    refine z_aload_n dX12_copy_521 rfl 0 rfl ?_
    refine gf_12_100 rfl dX12_copy_522 ?_
    refine z_sipush (v := 500) dX12_copy_525 (by decide) ?_
    refine z_iload_n dX12_copy_528 rfl 1 rfl ?_
    refine z_imul dX12_copy_529 ?_
    refine z_iload_n dX12_copy_530 rfl 3 rfl ?_
    refine z_iadd dX12_copy_531 ?_
    obtain ⟨g46, h⟩ := gd h
    refine ia_3_29 (inb_in g45) dX12_copy_532 ?_
    refine is_3_29 (inb_in g46) dX12_copy_533 ?_
    refine z_aload_n dX12_copy_534 rfl 0 rfl ?_
    refine gf_12_103 rfl dX12_copy_535 ?_
    refine z_sipush (v := 500) dX12_copy_538 (by decide) ?_
    refine z_iload_n dX12_copy_541 rfl 2 rfl ?_
    refine z_imul dX12_copy_542 ?_
    refine z_iload_n dX12_copy_543 rfl 3 rfl ?_
    refine z_iadd dX12_copy_544 ?_
    refine z_aload_n dX12_copy_545 rfl 0 rfl ?_
    refine gf_12_103 rfl dX12_copy_546 ?_
    refine z_sipush (v := 500) dX12_copy_549 (by decide) ?_
    refine z_iload_n dX12_copy_552 rfl 1 rfl ?_
    refine z_imul dX12_copy_553 ?_
    refine z_iload_n dX12_copy_554 rfl 3 rfl ?_
    refine z_iadd dX12_copy_555 ?_
    exact zb_X12_copy_556 hrc503 h
def F_X12_copy_503 : Nat → Int32 → Int32 → Int32 → Mm → Option (Mm)
  | 0 => fun _ _ _ _ => none
  | n + 1 => B_X12_copy_503 (F_X12_copy_503 n)
theorem zl_X12_copy_503 {S : Shp} (n : Nat) {x1 : Int32} {x2 : Int32} {x3 : Int32} {σ : Mm} {r : Mm} (h : F_X12_copy_503 n x1 x2 x3 σ = some r) : Z m_X12_copy S (Qv r) 503 [(0, .ref (sL S 3 0 0)), (1, .int (x1)), (2, .int (x2)), (3, .int (x3))] [] σ := by
  induction n generalizing x1 x2 x3 σ r with
  | zero => cases h
  | succ n ih => exact zB_X12_copy_503 (fun h => ih h) h
def F_X12_copy_493 (rc445 : Int32 → Int32 → Int32 → Mm → Option (Mm)) (x1 : Int32) (x2 : Int32) (x3 : Int32) (s0 : Int32) (s2 : Int32) (σ : Mm) : Option (Mm) := (if inb s0 30 = true then (if inb s2 30 = true then (rc445 x1 x2 (x3 + 1) (setA σ 3 0 27 (upd (mA σ 3 0 27) s2.toNatClampNeg (mA σ 3 0 27 s0.toNatClampNeg)))) else none) else none)
set_option maxRecDepth 20000 in
theorem zb_X12_copy_493 {S : Shp} {rc445 : Int32 → Int32 → Int32 → Mm → Option (Mm)} (hrc445 : ∀ {x1 : Int32} {x2 : Int32} {x3 : Int32} {σ : Mm} {r : Mm}, rc445 x1 x2 x3 σ = some r → Z m_X12_copy S (Qv r) 445 [(0, .ref (sL S 3 0 0)), (1, .int (x1)), (2, .int (x2)), (3, .int (x3))] [] σ) {x1 : Int32} {x2 : Int32} {x3 : Int32} {s0 : Int32} {s2 : Int32} {σ : Mm} {r : Mm} (h : F_X12_copy_493 rc445 x1 x2 x3 s0 s2 σ = some r) : Z m_X12_copy S (Qv r) 493 [(0, .ref (sL S 3 0 0)), (1, .int (x1)), (2, .int (x2)), (3, .int (x3))] [.int (s0), .ref (sL S 3 0 27), .int (s2), .ref (sL S 3 0 27)] σ := by
  unfold F_X12_copy_493 at h
  obtain ⟨g47, h⟩ := gd h
  obtain ⟨g48, h⟩ := gd h
  refine ia_3_27 (inb_in g47) dX12_copy_493 ?_
  refine is_3_27 (inb_in g48) dX12_copy_494 ?_
  refine z_iinc (j := 3) (v := x3 + 1) dX12_copy_495 rfl rfl (by decide) [1, 2, 3, 0] rfl ?_
  refine z_goto (tgt := 445) dX12_copy_498 (by decide) ?_
  exact hrc445 h
def B_X12_copy_445 (rc445 : Int32 → Int32 → Int32 → Mm → Option (Mm)) (x1 : Int32) (x2 : Int32) (x3 : Int32) (σ : Mm) : Option (Mm) := (if 6 ≤ x3 then (F_X12_copy_503 FU x1 x2 0 σ) else (if inb ((6 * x1) + x3) 30 = true then (if inb ((6 * x2) + x3) 30 = true then (F_X12_copy_493 rc445 x1 x2 x3 ((6 * x1) + x3) ((6 * x2) + x3) (setA σ 3 0 26 (upd (mA σ 3 0 26) ((6 * x2) + x3).toNatClampNeg (mA σ 3 0 26 ((6 * x1) + x3).toNatClampNeg)))) else none) else none))
set_option maxRecDepth 20000 in
theorem zB_X12_copy_445 {S : Shp} {rc445 : Int32 → Int32 → Int32 → Mm → Option (Mm)} (hrc445 : ∀ {x1 : Int32} {x2 : Int32} {x3 : Int32} {σ : Mm} {r : Mm}, rc445 x1 x2 x3 σ = some r → Z m_X12_copy S (Qv r) 445 [(0, .ref (sL S 3 0 0)), (1, .int (x1)), (2, .int (x2)), (3, .int (x3))] [] σ) {x1 : Int32} {x2 : Int32} {x3 : Int32} {σ : Mm} {r : Mm} (h : B_X12_copy_445 rc445 x1 x2 x3 σ = some r) : Z m_X12_copy S (Qv r) 445 [(0, .ref (sL S 3 0 0)), (1, .int (x1)), (2, .int (x2)), (3, .int (x3))] [] σ := by
  unfold B_X12_copy_445 at h
  refine z_iload_n dX12_copy_445 rfl 3 rfl ?_
  refine z_bipush (v := 6) dX12_copy_446 (by decide) ?_
  refine z_icmp_ge (tgt := 501) dX12_copy_448 (by decide) (fun q => ?_) (fun q => ?_)
  · have h := (if_pos q).symm.trans h
    refine z_iconst (v := 0) dX12_copy_501 (by decide) ?_
    refine z_istore_n dX12_copy_502 rfl (by decide) [1, 2, 3, 0] rfl ?_
    exact zl_X12_copy_503 FU h
  · have h := (if_neg q).symm.trans h
    obtain ⟨g37, h⟩ := gd h
    refine z_aload_n dX12_copy_451 rfl 0 rfl ?_
    refine gf_12_91 rfl dX12_copy_452 ?_
    refine z_bipush (v := 6) dX12_copy_455 (by decide) ?_
    refine z_iload_n dX12_copy_457 rfl 2 rfl ?_
    refine z_imul dX12_copy_458 ?_
    refine z_iload_n dX12_copy_459 rfl 3 rfl ?_
    refine z_iadd dX12_copy_460 ?_
    refine z_aload_n dX12_copy_461 rfl 0 rfl ?_
    refine gf_12_91 rfl dX12_copy_462 ?_
    refine z_bipush (v := 6) dX12_copy_465 (by decide) ?_
    refine z_iload_n dX12_copy_467 rfl 1 rfl ?_
    refine z_imul dX12_copy_468 ?_
    refine z_iload_n dX12_copy_469 rfl 3 rfl ?_
    refine z_iadd dX12_copy_470 ?_
    obtain ⟨g38, h⟩ := gd h
    refine ia_3_26 (inb_in g37) dX12_copy_471 ?_
    refine is_3_26 (inb_in g38) dX12_copy_472 ?_
    refine z_aload_n dX12_copy_473 rfl 0 rfl ?_
    refine gf_12_94 rfl dX12_copy_474 ?_
    refine z_bipush (v := 6) dX12_copy_477 (by decide) ?_
    refine z_iload_n dX12_copy_479 rfl 2 rfl ?_
    refine z_imul dX12_copy_480 ?_
    refine z_iload_n dX12_copy_481 rfl 3 rfl ?_
    refine z_iadd dX12_copy_482 ?_
    refine z_aload_n dX12_copy_483 rfl 0 rfl ?_
    refine gf_12_94 rfl dX12_copy_484 ?_
    refine z_bipush (v := 6) dX12_copy_487 (by decide) ?_
    refine z_iload_n dX12_copy_489 rfl 1 rfl ?_
    refine z_imul dX12_copy_490 ?_
    refine z_iload_n dX12_copy_491 rfl 3 rfl ?_
    refine z_iadd dX12_copy_492 ?_
    exact zb_X12_copy_493 hrc445 h
def F_X12_copy_445 : Nat → Int32 → Int32 → Int32 → Mm → Option (Mm)
  | 0 => fun _ _ _ _ => none
  | n + 1 => B_X12_copy_445 (F_X12_copy_445 n)
theorem zl_X12_copy_445 {S : Shp} (n : Nat) {x1 : Int32} {x2 : Int32} {x3 : Int32} {σ : Mm} {r : Mm} (h : F_X12_copy_445 n x1 x2 x3 σ = some r) : Z m_X12_copy S (Qv r) 445 [(0, .ref (sL S 3 0 0)), (1, .int (x1)), (2, .int (x2)), (3, .int (x3))] [] σ := by
  induction n generalizing x1 x2 x3 σ r with
  | zero => cases h
  | succ n ih => exact zB_X12_copy_445 (fun h => ih h) h
def F_X12_copy_435 (rc372 : Int32 → Int32 → Int32 → Mm → Option (Mm)) (x1 : Int32) (x2 : Int32) (x3 : Int32) (s0 : Int32) (s2 : Int32) (σ : Mm) : Option (Mm) := (if inb s0 25 = true then (if inb s2 25 = true then (rc372 x1 x2 (x3 + 1) (setA σ 3 0 24 (upd (mA σ 3 0 24) s2.toNatClampNeg (mA σ 3 0 24 s0.toNatClampNeg)))) else none) else none)
set_option maxRecDepth 20000 in
theorem zb_X12_copy_435 {S : Shp} {rc372 : Int32 → Int32 → Int32 → Mm → Option (Mm)} (hrc372 : ∀ {x1 : Int32} {x2 : Int32} {x3 : Int32} {σ : Mm} {r : Mm}, rc372 x1 x2 x3 σ = some r → Z m_X12_copy S (Qv r) 372 [(0, .ref (sL S 3 0 0)), (1, .int (x1)), (2, .int (x2)), (3, .int (x3))] [] σ) {x1 : Int32} {x2 : Int32} {x3 : Int32} {s0 : Int32} {s2 : Int32} {σ : Mm} {r : Mm} (h : F_X12_copy_435 rc372 x1 x2 x3 s0 s2 σ = some r) : Z m_X12_copy S (Qv r) 435 [(0, .ref (sL S 3 0 0)), (1, .int (x1)), (2, .int (x2)), (3, .int (x3))] [.int (s0), .ref (sL S 3 0 24), .int (s2), .ref (sL S 3 0 24)] σ := by
  unfold F_X12_copy_435 at h
  obtain ⟨g49, h⟩ := gd h
  obtain ⟨g50, h⟩ := gd h
  refine ia_3_24 (inb_in g49) dX12_copy_435 ?_
  refine is_3_24 (inb_in g50) dX12_copy_436 ?_
  refine z_iinc (j := 3) (v := x3 + 1) dX12_copy_437 rfl rfl (by decide) [1, 2, 3, 0] rfl ?_
  refine z_goto (tgt := 372) dX12_copy_440 (by decide) ?_
  exact hrc372 h
def F_X12_copy_415 (rc372 : Int32 → Int32 → Int32 → Mm → Option (Mm)) (x1 : Int32) (x2 : Int32) (x3 : Int32) (s0 : Int32) (s2 : Int32) (σ : Mm) : Option (Mm) := (if inb s0 25 = true then (if inb s2 25 = true then (F_X12_copy_435 rc372 x1 x2 x3 ((5 * x1) + x3) ((5 * x2) + x3) (setA σ 3 0 23 (upd (mA σ 3 0 23) s2.toNatClampNeg (mA σ 3 0 23 s0.toNatClampNeg)))) else none) else none)
set_option maxRecDepth 20000 in
theorem zb_X12_copy_415 {S : Shp} {rc372 : Int32 → Int32 → Int32 → Mm → Option (Mm)} (hrc372 : ∀ {x1 : Int32} {x2 : Int32} {x3 : Int32} {σ : Mm} {r : Mm}, rc372 x1 x2 x3 σ = some r → Z m_X12_copy S (Qv r) 372 [(0, .ref (sL S 3 0 0)), (1, .int (x1)), (2, .int (x2)), (3, .int (x3))] [] σ) {x1 : Int32} {x2 : Int32} {x3 : Int32} {s0 : Int32} {s2 : Int32} {σ : Mm} {r : Mm} (h : F_X12_copy_415 rc372 x1 x2 x3 s0 s2 σ = some r) : Z m_X12_copy S (Qv r) 415 [(0, .ref (sL S 3 0 0)), (1, .int (x1)), (2, .int (x2)), (3, .int (x3))] [.int (s0), .ref (sL S 3 0 23), .int (s2), .ref (sL S 3 0 23)] σ := by
  unfold F_X12_copy_415 at h
  obtain ⟨g39, h⟩ := gd h
  obtain ⟨g40, h⟩ := gd h
  refine ia_3_23 (inb_in g39) dX12_copy_415 ?_
  refine is_3_23 (inb_in g40) dX12_copy_416 ?_
  refine z_aload_n dX12_copy_417 rfl 0 rfl ?_
  refine gf_12_85 rfl dX12_copy_418 ?_
  refine z_iconst (v := 5) dX12_copy_421 (by decide) ?_
  refine z_iload_n dX12_copy_422 rfl 2 rfl ?_
  refine z_imul dX12_copy_423 ?_
  refine z_iload_n dX12_copy_424 rfl 3 rfl ?_
  refine z_iadd dX12_copy_425 ?_
  refine z_aload_n dX12_copy_426 rfl 0 rfl ?_
  refine gf_12_85 rfl dX12_copy_427 ?_
  refine z_iconst (v := 5) dX12_copy_430 (by decide) ?_
  refine z_iload_n dX12_copy_431 rfl 1 rfl ?_
  refine z_imul dX12_copy_432 ?_
  refine z_iload_n dX12_copy_433 rfl 3 rfl ?_
  refine z_iadd dX12_copy_434 ?_
  exact zb_X12_copy_435 hrc372 h
def B_X12_copy_372 (rc372 : Int32 → Int32 → Int32 → Mm → Option (Mm)) (x1 : Int32) (x2 : Int32) (x3 : Int32) (σ : Mm) : Option (Mm) := (if 5 ≤ x3 then (F_X12_copy_445 FU x1 x2 0 σ) else (if inb ((5 * x1) + x3) 25 = true then (if inb ((5 * x2) + x3) 25 = true then (F_X12_copy_415 rc372 x1 x2 x3 ((5 * x1) + x3) ((5 * x2) + x3) (setA σ 3 0 22 (upd (mA σ 3 0 22) ((5 * x2) + x3).toNatClampNeg (mA σ 3 0 22 ((5 * x1) + x3).toNatClampNeg)))) else none) else none))
set_option maxRecDepth 20000 in
theorem zB_X12_copy_372 {S : Shp} {rc372 : Int32 → Int32 → Int32 → Mm → Option (Mm)} (hrc372 : ∀ {x1 : Int32} {x2 : Int32} {x3 : Int32} {σ : Mm} {r : Mm}, rc372 x1 x2 x3 σ = some r → Z m_X12_copy S (Qv r) 372 [(0, .ref (sL S 3 0 0)), (1, .int (x1)), (2, .int (x2)), (3, .int (x3))] [] σ) {x1 : Int32} {x2 : Int32} {x3 : Int32} {σ : Mm} {r : Mm} (h : B_X12_copy_372 rc372 x1 x2 x3 σ = some r) : Z m_X12_copy S (Qv r) 372 [(0, .ref (sL S 3 0 0)), (1, .int (x1)), (2, .int (x2)), (3, .int (x3))] [] σ := by
  unfold B_X12_copy_372 at h
  refine z_iload_n dX12_copy_372 rfl 3 rfl ?_
  refine z_iconst (v := 5) dX12_copy_373 (by decide) ?_
  refine z_icmp_ge (tgt := 443) dX12_copy_374 (by decide) (fun q => ?_) (fun q => ?_)
  · have h := (if_pos q).symm.trans h
    refine z_iconst (v := 0) dX12_copy_443 (by decide) ?_
    refine z_istore_n dX12_copy_444 rfl (by decide) [1, 2, 3, 0] rfl ?_
    exact zl_X12_copy_445 FU h
  · have h := (if_neg q).symm.trans h
    obtain ⟨g31, h⟩ := gd h
    refine z_aload_n dX12_copy_377 rfl 0 rfl ?_
    refine gf_12_79 rfl dX12_copy_378 ?_
    refine z_iconst (v := 5) dX12_copy_381 (by decide) ?_
    refine z_iload_n dX12_copy_382 rfl 2 rfl ?_
    refine z_imul dX12_copy_383 ?_
    refine z_iload_n dX12_copy_384 rfl 3 rfl ?_
    refine z_iadd dX12_copy_385 ?_
    refine z_aload_n dX12_copy_386 rfl 0 rfl ?_
    refine gf_12_79 rfl dX12_copy_387 ?_
    refine z_iconst (v := 5) dX12_copy_390 (by decide) ?_
    refine z_iload_n dX12_copy_391 rfl 1 rfl ?_
    refine z_imul dX12_copy_392 ?_
    refine z_iload_n dX12_copy_393 rfl 3 rfl ?_
    refine z_iadd dX12_copy_394 ?_
    obtain ⟨g32, h⟩ := gd h
    refine ia_3_22 (inb_in g31) dX12_copy_395 ?_
    refine is_3_22 (inb_in g32) dX12_copy_396 ?_
    refine z_aload_n dX12_copy_397 rfl 0 rfl ?_
    refine gf_12_82 rfl dX12_copy_398 ?_
    refine z_iconst (v := 5) dX12_copy_401 (by decide) ?_
    refine z_iload_n dX12_copy_402 rfl 2 rfl ?_
    refine z_imul dX12_copy_403 ?_
    refine z_iload_n dX12_copy_404 rfl 3 rfl ?_
    refine z_iadd dX12_copy_405 ?_
    refine z_aload_n dX12_copy_406 rfl 0 rfl ?_
    refine gf_12_82 rfl dX12_copy_407 ?_
    refine z_iconst (v := 5) dX12_copy_410 (by decide) ?_
    refine z_iload_n dX12_copy_411 rfl 1 rfl ?_
    refine z_imul dX12_copy_412 ?_
    refine z_iload_n dX12_copy_413 rfl 3 rfl ?_
    refine z_iadd dX12_copy_414 ?_
    exact zb_X12_copy_415 hrc372 h
def F_X12_copy_372 : Nat → Int32 → Int32 → Int32 → Mm → Option (Mm)
  | 0 => fun _ _ _ _ => none
  | n + 1 => B_X12_copy_372 (F_X12_copy_372 n)
theorem zl_X12_copy_372 {S : Shp} (n : Nat) {x1 : Int32} {x2 : Int32} {x3 : Int32} {σ : Mm} {r : Mm} (h : F_X12_copy_372 n x1 x2 x3 σ = some r) : Z m_X12_copy S (Qv r) 372 [(0, .ref (sL S 3 0 0)), (1, .int (x1)), (2, .int (x2)), (3, .int (x3))] [] σ := by
  induction n generalizing x1 x2 x3 σ r with
  | zero => cases h
  | succ n ih => exact zB_X12_copy_372 (fun h => ih h) h
def F_X12_copy_362 (rc292 : Int32 → Int32 → Int32 → Mm → Option (Mm)) (x1 : Int32) (x2 : Int32) (x3 : Int32) (s0 : Int32) (s2 : Int32) (σ : Mm) : Option (Mm) := (if inb s0 60 = true then (if inb s2 60 = true then (rc292 x1 x2 (x3 + 1) (setA σ 3 0 20 (upd (mA σ 3 0 20) s2.toNatClampNeg (mA σ 3 0 20 s0.toNatClampNeg)))) else none) else none)
set_option maxRecDepth 20000 in
theorem zb_X12_copy_362 {S : Shp} {rc292 : Int32 → Int32 → Int32 → Mm → Option (Mm)} (hrc292 : ∀ {x1 : Int32} {x2 : Int32} {x3 : Int32} {σ : Mm} {r : Mm}, rc292 x1 x2 x3 σ = some r → Z m_X12_copy S (Qv r) 292 [(0, .ref (sL S 3 0 0)), (1, .int (x1)), (2, .int (x2)), (3, .int (x3))] [] σ) {x1 : Int32} {x2 : Int32} {x3 : Int32} {s0 : Int32} {s2 : Int32} {σ : Mm} {r : Mm} (h : F_X12_copy_362 rc292 x1 x2 x3 s0 s2 σ = some r) : Z m_X12_copy S (Qv r) 362 [(0, .ref (sL S 3 0 0)), (1, .int (x1)), (2, .int (x2)), (3, .int (x3))] [.int (s0), .ref (sL S 3 0 20), .int (s2), .ref (sL S 3 0 20)] σ := by
  unfold F_X12_copy_362 at h
  obtain ⟨g41, h⟩ := gd h
  obtain ⟨g42, h⟩ := gd h
  refine ia_3_20 (inb_in g41) dX12_copy_362 ?_
  refine is_3_20 (inb_in g42) dX12_copy_363 ?_
  refine z_iinc (j := 3) (v := x3 + 1) dX12_copy_364 rfl rfl (by decide) [1, 2, 3, 0] rfl ?_
  refine z_goto (tgt := 292) dX12_copy_367 (by decide) ?_
  exact hrc292 h
def F_X12_copy_340 (rc292 : Int32 → Int32 → Int32 → Mm → Option (Mm)) (x1 : Int32) (x2 : Int32) (x3 : Int32) (s0 : Int32) (s2 : Int32) (σ : Mm) : Option (Mm) := (if inb s0 60 = true then (if inb s2 60 = true then (F_X12_copy_362 rc292 x1 x2 x3 ((12 * x1) + x3) ((12 * x2) + x3) (setA σ 3 0 19 (upd (mA σ 3 0 19) s2.toNatClampNeg (mA σ 3 0 19 s0.toNatClampNeg)))) else none) else none)
set_option maxRecDepth 20000 in
theorem zb_X12_copy_340 {S : Shp} {rc292 : Int32 → Int32 → Int32 → Mm → Option (Mm)} (hrc292 : ∀ {x1 : Int32} {x2 : Int32} {x3 : Int32} {σ : Mm} {r : Mm}, rc292 x1 x2 x3 σ = some r → Z m_X12_copy S (Qv r) 292 [(0, .ref (sL S 3 0 0)), (1, .int (x1)), (2, .int (x2)), (3, .int (x3))] [] σ) {x1 : Int32} {x2 : Int32} {x3 : Int32} {s0 : Int32} {s2 : Int32} {σ : Mm} {r : Mm} (h : F_X12_copy_340 rc292 x1 x2 x3 s0 s2 σ = some r) : Z m_X12_copy S (Qv r) 340 [(0, .ref (sL S 3 0 0)), (1, .int (x1)), (2, .int (x2)), (3, .int (x3))] [.int (s0), .ref (sL S 3 0 19), .int (s2), .ref (sL S 3 0 19)] σ := by
  unfold F_X12_copy_340 at h
  obtain ⟨g33, h⟩ := gd h
  obtain ⟨g34, h⟩ := gd h
  refine ia_3_19 (inb_in g33) dX12_copy_340 ?_
  refine is_3_19 (inb_in g34) dX12_copy_341 ?_
  refine z_aload_n dX12_copy_342 rfl 0 rfl ?_
  refine gf_12_73 rfl dX12_copy_343 ?_
  refine z_bipush (v := 12) dX12_copy_346 (by decide) ?_
  refine z_iload_n dX12_copy_348 rfl 2 rfl ?_
  refine z_imul dX12_copy_349 ?_
  refine z_iload_n dX12_copy_350 rfl 3 rfl ?_
  refine z_iadd dX12_copy_351 ?_
  refine z_aload_n dX12_copy_352 rfl 0 rfl ?_
  refine gf_12_73 rfl dX12_copy_353 ?_
  refine z_bipush (v := 12) dX12_copy_356 (by decide) ?_
  refine z_iload_n dX12_copy_358 rfl 1 rfl ?_
  refine z_imul dX12_copy_359 ?_
  refine z_iload_n dX12_copy_360 rfl 3 rfl ?_
  refine z_iadd dX12_copy_361 ?_
  exact zb_X12_copy_362 hrc292 h
def B_X12_copy_292 (rc292 : Int32 → Int32 → Int32 → Mm → Option (Mm)) (x1 : Int32) (x2 : Int32) (x3 : Int32) (σ : Mm) : Option (Mm) := (if 12 ≤ x3 then (F_X12_copy_372 FU x1 x2 0 σ) else (if inb ((12 * x1) + x3) 60 = true then (if inb ((12 * x2) + x3) 60 = true then (F_X12_copy_340 rc292 x1 x2 x3 ((12 * x1) + x3) ((12 * x2) + x3) (setA σ 3 0 18 (upd (mA σ 3 0 18) ((12 * x2) + x3).toNatClampNeg (mA σ 3 0 18 ((12 * x1) + x3).toNatClampNeg)))) else none) else none))
set_option maxRecDepth 20000 in
theorem zB_X12_copy_292 {S : Shp} {rc292 : Int32 → Int32 → Int32 → Mm → Option (Mm)} (hrc292 : ∀ {x1 : Int32} {x2 : Int32} {x3 : Int32} {σ : Mm} {r : Mm}, rc292 x1 x2 x3 σ = some r → Z m_X12_copy S (Qv r) 292 [(0, .ref (sL S 3 0 0)), (1, .int (x1)), (2, .int (x2)), (3, .int (x3))] [] σ) {x1 : Int32} {x2 : Int32} {x3 : Int32} {σ : Mm} {r : Mm} (h : B_X12_copy_292 rc292 x1 x2 x3 σ = some r) : Z m_X12_copy S (Qv r) 292 [(0, .ref (sL S 3 0 0)), (1, .int (x1)), (2, .int (x2)), (3, .int (x3))] [] σ := by
  unfold B_X12_copy_292 at h
  refine z_iload_n dX12_copy_292 rfl 3 rfl ?_
  refine z_bipush (v := 12) dX12_copy_293 (by decide) ?_
  refine z_icmp_ge (tgt := 370) dX12_copy_295 (by decide) (fun q => ?_) (fun q => ?_)
  · have h := (if_pos q).symm.trans h
    refine z_iconst (v := 0) dX12_copy_370 (by decide) ?_
    refine z_istore_n dX12_copy_371 rfl (by decide) [1, 2, 3, 0] rfl ?_
    exact zl_X12_copy_372 FU h
  · have h := (if_neg q).symm.trans h
    obtain ⟨g25, h⟩ := gd h
    refine z_aload_n dX12_copy_298 rfl 0 rfl ?_
    refine gf_12_67 rfl dX12_copy_299 ?_
    refine z_bipush (v := 12) dX12_copy_302 (by decide) ?_
    refine z_iload_n dX12_copy_304 rfl 2 rfl ?_
    refine z_imul dX12_copy_305 ?_
    refine z_iload_n dX12_copy_306 rfl 3 rfl ?_
    refine z_iadd dX12_copy_307 ?_
    refine z_aload_n dX12_copy_308 rfl 0 rfl ?_
    refine gf_12_67 rfl dX12_copy_309 ?_
    refine z_bipush (v := 12) dX12_copy_312 (by decide) ?_
    refine z_iload_n dX12_copy_314 rfl 1 rfl ?_
    refine z_imul dX12_copy_315 ?_
    refine z_iload_n dX12_copy_316 rfl 3 rfl ?_
    refine z_iadd dX12_copy_317 ?_
    obtain ⟨g26, h⟩ := gd h
    refine ia_3_18 (inb_in g25) dX12_copy_318 ?_
    refine is_3_18 (inb_in g26) dX12_copy_319 ?_
    refine z_aload_n dX12_copy_320 rfl 0 rfl ?_
    refine gf_12_70 rfl dX12_copy_321 ?_
    refine z_bipush (v := 12) dX12_copy_324 (by decide) ?_
    refine z_iload_n dX12_copy_326 rfl 2 rfl ?_
    refine z_imul dX12_copy_327 ?_
    refine z_iload_n dX12_copy_328 rfl 3 rfl ?_
    refine z_iadd dX12_copy_329 ?_
    refine z_aload_n dX12_copy_330 rfl 0 rfl ?_
    refine gf_12_70 rfl dX12_copy_331 ?_
    refine z_bipush (v := 12) dX12_copy_334 (by decide) ?_
    refine z_iload_n dX12_copy_336 rfl 1 rfl ?_
    refine z_imul dX12_copy_337 ?_
    refine z_iload_n dX12_copy_338 rfl 3 rfl ?_
    refine z_iadd dX12_copy_339 ?_
    exact zb_X12_copy_340 hrc292 h
def F_X12_copy_292 : Nat → Int32 → Int32 → Int32 → Mm → Option (Mm)
  | 0 => fun _ _ _ _ => none
  | n + 1 => B_X12_copy_292 (F_X12_copy_292 n)
theorem zl_X12_copy_292 {S : Shp} (n : Nat) {x1 : Int32} {x2 : Int32} {x3 : Int32} {σ : Mm} {r : Mm} (h : F_X12_copy_292 n x1 x2 x3 σ = some r) : Z m_X12_copy S (Qv r) 292 [(0, .ref (sL S 3 0 0)), (1, .int (x1)), (2, .int (x2)), (3, .int (x3))] [] σ := by
  induction n generalizing x1 x2 x3 σ r with
  | zero => cases h
  | succ n ih => exact zB_X12_copy_292 (fun h => ih h) h
def F_X12_copy_282 (rc234 : Int32 → Int32 → Int32 → Mm → Option (Mm)) (x1 : Int32) (x2 : Int32) (x3 : Int32) (s0 : Int32) (s2 : Int32) (σ : Mm) : Option (Mm) := (if inb s0 40 = true then (if inb s2 40 = true then (rc234 x1 x2 (x3 + 1) (setA σ 3 0 16 (upd (mA σ 3 0 16) s2.toNatClampNeg (mA σ 3 0 16 s0.toNatClampNeg)))) else none) else none)
set_option maxRecDepth 20000 in
theorem zb_X12_copy_282 {S : Shp} {rc234 : Int32 → Int32 → Int32 → Mm → Option (Mm)} (hrc234 : ∀ {x1 : Int32} {x2 : Int32} {x3 : Int32} {σ : Mm} {r : Mm}, rc234 x1 x2 x3 σ = some r → Z m_X12_copy S (Qv r) 234 [(0, .ref (sL S 3 0 0)), (1, .int (x1)), (2, .int (x2)), (3, .int (x3))] [] σ) {x1 : Int32} {x2 : Int32} {x3 : Int32} {s0 : Int32} {s2 : Int32} {σ : Mm} {r : Mm} (h : F_X12_copy_282 rc234 x1 x2 x3 s0 s2 σ = some r) : Z m_X12_copy S (Qv r) 282 [(0, .ref (sL S 3 0 0)), (1, .int (x1)), (2, .int (x2)), (3, .int (x3))] [.int (s0), .ref (sL S 3 0 16), .int (s2), .ref (sL S 3 0 16)] σ := by
  unfold F_X12_copy_282 at h
  obtain ⟨g27, h⟩ := gd h
  obtain ⟨g28, h⟩ := gd h
  refine ia_3_16 (inb_in g27) dX12_copy_282 ?_
  refine is_3_16 (inb_in g28) dX12_copy_283 ?_
  refine z_iinc (j := 3) (v := x3 + 1) dX12_copy_284 rfl rfl (by decide) [1, 2, 3, 0] rfl ?_
  refine z_goto (tgt := 234) dX12_copy_287 (by decide) ?_
  exact hrc234 h
def B_X12_copy_234 (rc234 : Int32 → Int32 → Int32 → Mm → Option (Mm)) (x1 : Int32) (x2 : Int32) (x3 : Int32) (σ : Mm) : Option (Mm) := (if 8 ≤ x3 then (F_X12_copy_292 FU x1 x2 0 σ) else (if inb ((8 * x1) + x3) 40 = true then (if inb ((8 * x2) + x3) 40 = true then (F_X12_copy_282 rc234 x1 x2 x3 ((8 * x1) + x3) ((8 * x2) + x3) (setA σ 3 0 15 (upd (mA σ 3 0 15) ((8 * x2) + x3).toNatClampNeg (mA σ 3 0 15 ((8 * x1) + x3).toNatClampNeg)))) else none) else none))
set_option maxRecDepth 20000 in
theorem zB_X12_copy_234 {S : Shp} {rc234 : Int32 → Int32 → Int32 → Mm → Option (Mm)} (hrc234 : ∀ {x1 : Int32} {x2 : Int32} {x3 : Int32} {σ : Mm} {r : Mm}, rc234 x1 x2 x3 σ = some r → Z m_X12_copy S (Qv r) 234 [(0, .ref (sL S 3 0 0)), (1, .int (x1)), (2, .int (x2)), (3, .int (x3))] [] σ) {x1 : Int32} {x2 : Int32} {x3 : Int32} {σ : Mm} {r : Mm} (h : B_X12_copy_234 rc234 x1 x2 x3 σ = some r) : Z m_X12_copy S (Qv r) 234 [(0, .ref (sL S 3 0 0)), (1, .int (x1)), (2, .int (x2)), (3, .int (x3))] [] σ := by
  unfold B_X12_copy_234 at h
  refine z_iload_n dX12_copy_234 rfl 3 rfl ?_
  refine z_bipush (v := 8) dX12_copy_235 (by decide) ?_
  refine z_icmp_ge (tgt := 290) dX12_copy_237 (by decide) (fun q => ?_) (fun q => ?_)
  · have h := (if_pos q).symm.trans h
    refine z_iconst (v := 0) dX12_copy_290 (by decide) ?_
    refine z_istore_n dX12_copy_291 rfl (by decide) [1, 2, 3, 0] rfl ?_
    exact zl_X12_copy_292 FU h
  · have h := (if_neg q).symm.trans h
    obtain ⟨g21, h⟩ := gd h
    refine z_aload_n dX12_copy_240 rfl 0 rfl ?_
    refine gf_12_58 rfl dX12_copy_241 ?_
    refine z_bipush (v := 8) dX12_copy_244 (by decide) ?_
    refine z_iload_n dX12_copy_246 rfl 2 rfl ?_
    refine z_imul dX12_copy_247 ?_
    refine z_iload_n dX12_copy_248 rfl 3 rfl ?_
    refine z_iadd dX12_copy_249 ?_
    refine z_aload_n dX12_copy_250 rfl 0 rfl ?_
    refine gf_12_58 rfl dX12_copy_251 ?_
    refine z_bipush (v := 8) dX12_copy_254 (by decide) ?_
    refine z_iload_n dX12_copy_256 rfl 1 rfl ?_
    refine z_imul dX12_copy_257 ?_
    refine z_iload_n dX12_copy_258 rfl 3 rfl ?_
    refine z_iadd dX12_copy_259 ?_
    obtain ⟨g22, h⟩ := gd h
    refine ia_3_15 (inb_in g21) dX12_copy_260 ?_
    refine is_3_15 (inb_in g22) dX12_copy_261 ?_
    refine z_aload_n dX12_copy_262 rfl 0 rfl ?_
    refine gf_12_61 rfl dX12_copy_263 ?_
    refine z_bipush (v := 8) dX12_copy_266 (by decide) ?_
    refine z_iload_n dX12_copy_268 rfl 2 rfl ?_
    refine z_imul dX12_copy_269 ?_
    refine z_iload_n dX12_copy_270 rfl 3 rfl ?_
    refine z_iadd dX12_copy_271 ?_
    refine z_aload_n dX12_copy_272 rfl 0 rfl ?_
    refine gf_12_61 rfl dX12_copy_273 ?_
    refine z_bipush (v := 8) dX12_copy_276 (by decide) ?_
    refine z_iload_n dX12_copy_278 rfl 1 rfl ?_
    refine z_imul dX12_copy_279 ?_
    refine z_iload_n dX12_copy_280 rfl 3 rfl ?_
    refine z_iadd dX12_copy_281 ?_
    exact zb_X12_copy_282 hrc234 h
def F_X12_copy_234 : Nat → Int32 → Int32 → Int32 → Mm → Option (Mm)
  | 0 => fun _ _ _ _ => none
  | n + 1 => B_X12_copy_234 (F_X12_copy_234 n)
theorem zl_X12_copy_234 {S : Shp} (n : Nat) {x1 : Int32} {x2 : Int32} {x3 : Int32} {σ : Mm} {r : Mm} (h : F_X12_copy_234 n x1 x2 x3 σ = some r) : Z m_X12_copy S (Qv r) 234 [(0, .ref (sL S 3 0 0)), (1, .int (x1)), (2, .int (x2)), (3, .int (x3))] [] σ := by
  induction n generalizing x1 x2 x3 σ r with
  | zero => cases h
  | succ n ih => exact zB_X12_copy_234 (fun h => ih h) h
def F_X12_copy_224 (rc110 : Int32 → Int32 → Int32 → Mm → Option (Mm)) (x1 : Int32) (x2 : Int32) (x3 : Int32) (s0 : Int32) (s2 : Int32) (σ : Mm) : Option (Mm) := (if inb s0 70 = true then (if inb s2 70 = true then (rc110 x1 x2 (x3 + 1) (setA σ 3 0 13 (upd (mA σ 3 0 13) s2.toNatClampNeg (mA σ 3 0 13 s0.toNatClampNeg)))) else none) else none)
set_option maxRecDepth 20000 in
theorem zb_X12_copy_224 {S : Shp} {rc110 : Int32 → Int32 → Int32 → Mm → Option (Mm)} (hrc110 : ∀ {x1 : Int32} {x2 : Int32} {x3 : Int32} {σ : Mm} {r : Mm}, rc110 x1 x2 x3 σ = some r → Z m_X12_copy S (Qv r) 110 [(0, .ref (sL S 3 0 0)), (1, .int (x1)), (2, .int (x2)), (3, .int (x3))] [] σ) {x1 : Int32} {x2 : Int32} {x3 : Int32} {s0 : Int32} {s2 : Int32} {σ : Mm} {r : Mm} (h : F_X12_copy_224 rc110 x1 x2 x3 s0 s2 σ = some r) : Z m_X12_copy S (Qv r) 224 [(0, .ref (sL S 3 0 0)), (1, .int (x1)), (2, .int (x2)), (3, .int (x3))] [.int (s0), .ref (sL S 3 0 13), .int (s2), .ref (sL S 3 0 13)] σ := by
  unfold F_X12_copy_224 at h
  obtain ⟨g43, h⟩ := gd h
  obtain ⟨g44, h⟩ := gd h
  refine ia_3_13 (inb_in g43) dX12_copy_224 ?_
  refine is_3_13 (inb_in g44) dX12_copy_225 ?_
  refine z_iinc (j := 3) (v := x3 + 1) dX12_copy_226 rfl rfl (by decide) [1, 2, 3, 0] rfl ?_
  refine z_goto (tgt := 110) dX12_copy_229 (by decide) ?_
  exact hrc110 h
def F_X12_copy_202 (rc110 : Int32 → Int32 → Int32 → Mm → Option (Mm)) (x1 : Int32) (x2 : Int32) (x3 : Int32) (s0 : Int32) (s2 : Int32) (σ : Mm) : Option (Mm) := (if inb s0 70 = true then (if inb s2 70 = true then (F_X12_copy_224 rc110 x1 x2 x3 ((14 * x1) + x3) ((14 * x2) + x3) (setA σ 3 0 12 (upd (mA σ 3 0 12) s2.toNatClampNeg (mA σ 3 0 12 s0.toNatClampNeg)))) else none) else none)
set_option maxRecDepth 20000 in
theorem zb_X12_copy_202 {S : Shp} {rc110 : Int32 → Int32 → Int32 → Mm → Option (Mm)} (hrc110 : ∀ {x1 : Int32} {x2 : Int32} {x3 : Int32} {σ : Mm} {r : Mm}, rc110 x1 x2 x3 σ = some r → Z m_X12_copy S (Qv r) 110 [(0, .ref (sL S 3 0 0)), (1, .int (x1)), (2, .int (x2)), (3, .int (x3))] [] σ) {x1 : Int32} {x2 : Int32} {x3 : Int32} {s0 : Int32} {s2 : Int32} {σ : Mm} {r : Mm} (h : F_X12_copy_202 rc110 x1 x2 x3 s0 s2 σ = some r) : Z m_X12_copy S (Qv r) 202 [(0, .ref (sL S 3 0 0)), (1, .int (x1)), (2, .int (x2)), (3, .int (x3))] [.int (s0), .ref (sL S 3 0 12), .int (s2), .ref (sL S 3 0 12)] σ := by
  unfold F_X12_copy_202 at h
  obtain ⟨g35, h⟩ := gd h
  obtain ⟨g36, h⟩ := gd h
  refine ia_3_12 (inb_in g35) dX12_copy_202 ?_
  refine is_3_12 (inb_in g36) dX12_copy_203 ?_
  refine z_aload_n dX12_copy_204 rfl 0 rfl ?_
  refine gf_12_52 rfl dX12_copy_205 ?_
  refine z_bipush (v := 14) dX12_copy_208 (by decide) ?_
  refine z_iload_n dX12_copy_210 rfl 2 rfl ?_
  refine z_imul dX12_copy_211 ?_
  refine z_iload_n dX12_copy_212 rfl 3 rfl ?_
  refine z_iadd dX12_copy_213 ?_
  refine z_aload_n dX12_copy_214 rfl 0 rfl ?_
  refine gf_12_52 rfl dX12_copy_215 ?_
  refine z_bipush (v := 14) dX12_copy_218 (by decide) ?_
  refine z_iload_n dX12_copy_220 rfl 1 rfl ?_
  refine z_imul dX12_copy_221 ?_
  refine z_iload_n dX12_copy_222 rfl 3 rfl ?_
  refine z_iadd dX12_copy_223 ?_
  exact zb_X12_copy_224 hrc110 h
def F_X12_copy_180 (rc110 : Int32 → Int32 → Int32 → Mm → Option (Mm)) (x1 : Int32) (x2 : Int32) (x3 : Int32) (s0 : Int32) (s2 : Int32) (σ : Mm) : Option (Mm) := (if inb s0 70 = true then (if inb s2 70 = true then (F_X12_copy_202 rc110 x1 x2 x3 ((14 * x1) + x3) ((14 * x2) + x3) (setA σ 3 0 11 (upd (mA σ 3 0 11) s2.toNatClampNeg (mA σ 3 0 11 s0.toNatClampNeg)))) else none) else none)
set_option maxRecDepth 20000 in
theorem zb_X12_copy_180 {S : Shp} {rc110 : Int32 → Int32 → Int32 → Mm → Option (Mm)} (hrc110 : ∀ {x1 : Int32} {x2 : Int32} {x3 : Int32} {σ : Mm} {r : Mm}, rc110 x1 x2 x3 σ = some r → Z m_X12_copy S (Qv r) 110 [(0, .ref (sL S 3 0 0)), (1, .int (x1)), (2, .int (x2)), (3, .int (x3))] [] σ) {x1 : Int32} {x2 : Int32} {x3 : Int32} {s0 : Int32} {s2 : Int32} {σ : Mm} {r : Mm} (h : F_X12_copy_180 rc110 x1 x2 x3 s0 s2 σ = some r) : Z m_X12_copy S (Qv r) 180 [(0, .ref (sL S 3 0 0)), (1, .int (x1)), (2, .int (x2)), (3, .int (x3))] [.int (s0), .ref (sL S 3 0 11), .int (s2), .ref (sL S 3 0 11)] σ := by
  unfold F_X12_copy_180 at h
  obtain ⟨g29, h⟩ := gd h
  obtain ⟨g30, h⟩ := gd h
  refine ia_3_11 (inb_in g29) dX12_copy_180 ?_
  refine is_3_11 (inb_in g30) dX12_copy_181 ?_
  refine z_aload_n dX12_copy_182 rfl 0 rfl ?_
  refine gf_12_49 rfl dX12_copy_183 ?_
  refine z_bipush (v := 14) dX12_copy_186 (by decide) ?_
  refine z_iload_n dX12_copy_188 rfl 2 rfl ?_
  refine z_imul dX12_copy_189 ?_
  refine z_iload_n dX12_copy_190 rfl 3 rfl ?_
  refine z_iadd dX12_copy_191 ?_
  refine z_aload_n dX12_copy_192 rfl 0 rfl ?_
  refine gf_12_49 rfl dX12_copy_193 ?_
  refine z_bipush (v := 14) dX12_copy_196 (by decide) ?_
  refine z_iload_n dX12_copy_198 rfl 1 rfl ?_
  refine z_imul dX12_copy_199 ?_
  refine z_iload_n dX12_copy_200 rfl 3 rfl ?_
  refine z_iadd dX12_copy_201 ?_
  exact zb_X12_copy_202 hrc110 h
def F_X12_copy_158 (rc110 : Int32 → Int32 → Int32 → Mm → Option (Mm)) (x1 : Int32) (x2 : Int32) (x3 : Int32) (s0 : Int32) (s2 : Int32) (σ : Mm) : Option (Mm) := (if inb s0 70 = true then (if inb s2 70 = true then (F_X12_copy_180 rc110 x1 x2 x3 ((14 * x1) + x3) ((14 * x2) + x3) (setA σ 3 0 10 (upd (mA σ 3 0 10) s2.toNatClampNeg (mA σ 3 0 10 s0.toNatClampNeg)))) else none) else none)
set_option maxRecDepth 20000 in
theorem zb_X12_copy_158 {S : Shp} {rc110 : Int32 → Int32 → Int32 → Mm → Option (Mm)} (hrc110 : ∀ {x1 : Int32} {x2 : Int32} {x3 : Int32} {σ : Mm} {r : Mm}, rc110 x1 x2 x3 σ = some r → Z m_X12_copy S (Qv r) 110 [(0, .ref (sL S 3 0 0)), (1, .int (x1)), (2, .int (x2)), (3, .int (x3))] [] σ) {x1 : Int32} {x2 : Int32} {x3 : Int32} {s0 : Int32} {s2 : Int32} {σ : Mm} {r : Mm} (h : F_X12_copy_158 rc110 x1 x2 x3 s0 s2 σ = some r) : Z m_X12_copy S (Qv r) 158 [(0, .ref (sL S 3 0 0)), (1, .int (x1)), (2, .int (x2)), (3, .int (x3))] [.int (s0), .ref (sL S 3 0 10), .int (s2), .ref (sL S 3 0 10)] σ := by
  unfold F_X12_copy_158 at h
  obtain ⟨g23, h⟩ := gd h
  obtain ⟨g24, h⟩ := gd h
  refine ia_3_10 (inb_in g23) dX12_copy_158 ?_
  refine is_3_10 (inb_in g24) dX12_copy_159 ?_
  refine z_aload_n dX12_copy_160 rfl 0 rfl ?_
  refine gf_12_46 rfl dX12_copy_161 ?_
  refine z_bipush (v := 14) dX12_copy_164 (by decide) ?_
  refine z_iload_n dX12_copy_166 rfl 2 rfl ?_
  refine z_imul dX12_copy_167 ?_
  refine z_iload_n dX12_copy_168 rfl 3 rfl ?_
  refine z_iadd dX12_copy_169 ?_
  refine z_aload_n dX12_copy_170 rfl 0 rfl ?_
  refine gf_12_46 rfl dX12_copy_171 ?_
  refine z_bipush (v := 14) dX12_copy_174 (by decide) ?_
  refine z_iload_n dX12_copy_176 rfl 1 rfl ?_
  refine z_imul dX12_copy_177 ?_
  refine z_iload_n dX12_copy_178 rfl 3 rfl ?_
  refine z_iadd dX12_copy_179 ?_
  exact zb_X12_copy_180 hrc110 h
def B_X12_copy_110 (rc110 : Int32 → Int32 → Int32 → Mm → Option (Mm)) (x1 : Int32) (x2 : Int32) (x3 : Int32) (σ : Mm) : Option (Mm) := (if 14 ≤ x3 then (F_X12_copy_234 FU x1 x2 0 σ) else (if inb ((14 * x1) + x3) 70 = true then (if inb ((14 * x2) + x3) 70 = true then (F_X12_copy_158 rc110 x1 x2 x3 ((14 * x1) + x3) ((14 * x2) + x3) (setA σ 3 0 9 (upd (mA σ 3 0 9) ((14 * x2) + x3).toNatClampNeg (vp_nar .boolean (mA σ 3 0 9 ((14 * x1) + x3).toNatClampNeg))))) else none) else none))
set_option maxRecDepth 20000 in
theorem zB_X12_copy_110 {S : Shp} {rc110 : Int32 → Int32 → Int32 → Mm → Option (Mm)} (hrc110 : ∀ {x1 : Int32} {x2 : Int32} {x3 : Int32} {σ : Mm} {r : Mm}, rc110 x1 x2 x3 σ = some r → Z m_X12_copy S (Qv r) 110 [(0, .ref (sL S 3 0 0)), (1, .int (x1)), (2, .int (x2)), (3, .int (x3))] [] σ) {x1 : Int32} {x2 : Int32} {x3 : Int32} {σ : Mm} {r : Mm} (h : B_X12_copy_110 rc110 x1 x2 x3 σ = some r) : Z m_X12_copy S (Qv r) 110 [(0, .ref (sL S 3 0 0)), (1, .int (x1)), (2, .int (x2)), (3, .int (x3))] [] σ := by
  unfold B_X12_copy_110 at h
  refine z_iload_n dX12_copy_110 rfl 3 rfl ?_
  refine z_bipush (v := 14) dX12_copy_111 (by decide) ?_
  refine z_icmp_ge (tgt := 232) dX12_copy_113 (by decide) (fun q => ?_) (fun q => ?_)
  · have h := (if_pos q).symm.trans h
    refine z_iconst (v := 0) dX12_copy_232 (by decide) ?_
    refine z_istore_n dX12_copy_233 rfl (by decide) [1, 2, 3, 0] rfl ?_
    exact zl_X12_copy_234 FU h
  · have h := (if_neg q).symm.trans h
    obtain ⟨g19, h⟩ := gd h
    refine z_aload_n dX12_copy_116 rfl 0 rfl ?_
    refine gf_12_40 rfl dX12_copy_117 ?_
    refine z_bipush (v := 14) dX12_copy_120 (by decide) ?_
    refine z_iload_n dX12_copy_122 rfl 2 rfl ?_
    refine z_imul dX12_copy_123 ?_
    refine z_iload_n dX12_copy_124 rfl 3 rfl ?_
    refine z_iadd dX12_copy_125 ?_
    refine z_aload_n dX12_copy_126 rfl 0 rfl ?_
    refine gf_12_40 rfl dX12_copy_127 ?_
    refine z_bipush (v := 14) dX12_copy_130 (by decide) ?_
    refine z_iload_n dX12_copy_132 rfl 1 rfl ?_
    refine z_imul dX12_copy_133 ?_
    refine z_iload_n dX12_copy_134 rfl 3 rfl ?_
    refine z_iadd dX12_copy_135 ?_
    obtain ⟨g20, h⟩ := gd h
    refine ia_3_9 (inb_in g19) dX12_copy_136 ?_
    refine is_3_9 (inb_in g20) dX12_copy_137 ?_
    refine z_aload_n dX12_copy_138 rfl 0 rfl ?_
    refine gf_12_43 rfl dX12_copy_139 ?_
    refine z_bipush (v := 14) dX12_copy_142 (by decide) ?_
    refine z_iload_n dX12_copy_144 rfl 2 rfl ?_
    refine z_imul dX12_copy_145 ?_
    refine z_iload_n dX12_copy_146 rfl 3 rfl ?_
    refine z_iadd dX12_copy_147 ?_
    refine z_aload_n dX12_copy_148 rfl 0 rfl ?_
    refine gf_12_43 rfl dX12_copy_149 ?_
    refine z_bipush (v := 14) dX12_copy_152 (by decide) ?_
    refine z_iload_n dX12_copy_154 rfl 1 rfl ?_
    refine z_imul dX12_copy_155 ?_
    refine z_iload_n dX12_copy_156 rfl 3 rfl ?_
    refine z_iadd dX12_copy_157 ?_
    exact zb_X12_copy_158 hrc110 h
def F_X12_copy_110 : Nat → Int32 → Int32 → Int32 → Mm → Option (Mm)
  | 0 => fun _ _ _ _ => none
  | n + 1 => B_X12_copy_110 (F_X12_copy_110 n)
theorem zl_X12_copy_110 {S : Shp} (n : Nat) {x1 : Int32} {x2 : Int32} {x3 : Int32} {σ : Mm} {r : Mm} (h : F_X12_copy_110 n x1 x2 x3 σ = some r) : Z m_X12_copy S (Qv r) 110 [(0, .ref (sL S 3 0 0)), (1, .int (x1)), (2, .int (x2)), (3, .int (x3))] [] σ := by
  induction n generalizing x1 x2 x3 σ r with
  | zero => cases h
  | succ n ih => exact zB_X12_copy_110 (fun h => ih h) h
def F_X12_copy_106 (x1 : Int32) (x2 : Int32) (s0 : Int32) (s2 : Int32) (σ : Mm) : Option (Mm) := (if inb s0 5 = true then (if inb s2 5 = true then (F_X12_copy_110 FU x1 x2 0 (setA σ 3 0 38 (upd (mA σ 3 0 38) s2.toNatClampNeg (mA σ 3 0 38 s0.toNatClampNeg)))) else none) else none)
set_option maxRecDepth 20000 in
theorem zb_X12_copy_106 {S : Shp} {x1 : Int32} {x2 : Int32} {s0 : Int32} {s2 : Int32} {σ : Mm} {r : Mm} (h : F_X12_copy_106 x1 x2 s0 s2 σ = some r) : Z m_X12_copy S (Qv r) 106 [(0, .ref (sL S 3 0 0)), (1, .int (x1)), (2, .int (x2))] [.int (s0), .ref (sL S 3 0 38), .int (s2), .ref (sL S 3 0 38)] σ := by
  unfold F_X12_copy_106 at h
  obtain ⟨g17, h⟩ := gd h
  obtain ⟨g18, h⟩ := gd h
  refine ia_3_38 (inb_in g17) dX12_copy_106 ?_
  refine is_3_38 (inb_in g18) dX12_copy_107 ?_
  refine z_iconst (v := 0) dX12_copy_108 (by decide) ?_
  refine z_istore_n dX12_copy_109 rfl (by decide) [1, 2, 3, 0] rfl ?_
  exact zl_X12_copy_110 FU h
def F_X12_copy_94 (x1 : Int32) (x2 : Int32) (s0 : Int32) (s2 : Int32) (σ : Mm) : Option (Mm) := (if inb s0 5 = true then (if inb s2 5 = true then (F_X12_copy_106 x1 x2 x1 x2 (setA σ 3 0 31 (upd (mA σ 3 0 31) s2.toNatClampNeg (mA σ 3 0 31 s0.toNatClampNeg)))) else none) else none)
set_option maxRecDepth 20000 in
theorem zb_X12_copy_94 {S : Shp} {x1 : Int32} {x2 : Int32} {s0 : Int32} {s2 : Int32} {σ : Mm} {r : Mm} (h : F_X12_copy_94 x1 x2 s0 s2 σ = some r) : Z m_X12_copy S (Qv r) 94 [(0, .ref (sL S 3 0 0)), (1, .int (x1)), (2, .int (x2))] [.int (s0), .ref (sL S 3 0 31), .int (s2), .ref (sL S 3 0 31)] σ := by
  unfold F_X12_copy_94 at h
  obtain ⟨g15, h⟩ := gd h
  obtain ⟨g16, h⟩ := gd h
  refine ia_3_31 (inb_in g15) dX12_copy_94 ?_
  refine is_3_31 (inb_in g16) dX12_copy_95 ?_
  refine z_aload_n dX12_copy_96 rfl 0 rfl ?_
  refine gf_12_127 rfl dX12_copy_97 ?_
  refine z_iload_n dX12_copy_100 rfl 2 rfl ?_
  refine z_aload_n dX12_copy_101 rfl 0 rfl ?_
  refine gf_12_127 rfl dX12_copy_102 ?_
  refine z_iload_n dX12_copy_105 rfl 1 rfl ?_
  exact zb_X12_copy_106 h
def F_X12_copy_82 (x1 : Int32) (x2 : Int32) (s0 : Int32) (s2 : Int32) (σ : Mm) : Option (Mm) := (if inb s0 5 = true then (if inb s2 5 = true then (F_X12_copy_94 x1 x2 x1 x2 (setA σ 3 0 28 (upd (mA σ 3 0 28) s2.toNatClampNeg (mA σ 3 0 28 s0.toNatClampNeg)))) else none) else none)
set_option maxRecDepth 20000 in
theorem zb_X12_copy_82 {S : Shp} {x1 : Int32} {x2 : Int32} {s0 : Int32} {s2 : Int32} {σ : Mm} {r : Mm} (h : F_X12_copy_82 x1 x2 s0 s2 σ = some r) : Z m_X12_copy S (Qv r) 82 [(0, .ref (sL S 3 0 0)), (1, .int (x1)), (2, .int (x2))] [.int (s0), .ref (sL S 3 0 28), .int (s2), .ref (sL S 3 0 28)] σ := by
  unfold F_X12_copy_82 at h
  obtain ⟨g13, h⟩ := gd h
  obtain ⟨g14, h⟩ := gd h
  refine ia_3_28 (inb_in g13) dX12_copy_82 ?_
  refine is_3_28 (inb_in g14) dX12_copy_83 ?_
  refine z_aload_n dX12_copy_84 rfl 0 rfl ?_
  refine gf_12_106 rfl dX12_copy_85 ?_
  refine z_iload_n dX12_copy_88 rfl 2 rfl ?_
  refine z_aload_n dX12_copy_89 rfl 0 rfl ?_
  refine gf_12_106 rfl dX12_copy_90 ?_
  refine z_iload_n dX12_copy_93 rfl 1 rfl ?_
  exact zb_X12_copy_94 h
def F_X12_copy_70 (x1 : Int32) (x2 : Int32) (s0 : Int32) (s2 : Int32) (σ : Mm) : Option (Mm) := (if inb s0 5 = true then (if inb s2 5 = true then (F_X12_copy_82 x1 x2 x1 x2 (setA σ 3 0 25 (upd (mA σ 3 0 25) s2.toNatClampNeg (mA σ 3 0 25 s0.toNatClampNeg)))) else none) else none)
set_option maxRecDepth 20000 in
theorem zb_X12_copy_70 {S : Shp} {x1 : Int32} {x2 : Int32} {s0 : Int32} {s2 : Int32} {σ : Mm} {r : Mm} (h : F_X12_copy_70 x1 x2 s0 s2 σ = some r) : Z m_X12_copy S (Qv r) 70 [(0, .ref (sL S 3 0 0)), (1, .int (x1)), (2, .int (x2))] [.int (s0), .ref (sL S 3 0 25), .int (s2), .ref (sL S 3 0 25)] σ := by
  unfold F_X12_copy_70 at h
  obtain ⟨g11, h⟩ := gd h
  obtain ⟨g12, h⟩ := gd h
  refine ia_3_25 (inb_in g11) dX12_copy_70 ?_
  refine is_3_25 (inb_in g12) dX12_copy_71 ?_
  refine z_aload_n dX12_copy_72 rfl 0 rfl ?_
  refine gf_12_97 rfl dX12_copy_73 ?_
  refine z_iload_n dX12_copy_76 rfl 2 rfl ?_
  refine z_aload_n dX12_copy_77 rfl 0 rfl ?_
  refine gf_12_97 rfl dX12_copy_78 ?_
  refine z_iload_n dX12_copy_81 rfl 1 rfl ?_
  exact zb_X12_copy_82 h
def F_X12_copy_58 (x1 : Int32) (x2 : Int32) (s0 : Int32) (s2 : Int32) (σ : Mm) : Option (Mm) := (if inb s0 5 = true then (if inb s2 5 = true then (F_X12_copy_70 x1 x2 x1 x2 (setA σ 3 0 21 (upd (mA σ 3 0 21) s2.toNatClampNeg (mA σ 3 0 21 s0.toNatClampNeg)))) else none) else none)
set_option maxRecDepth 20000 in
theorem zb_X12_copy_58 {S : Shp} {x1 : Int32} {x2 : Int32} {s0 : Int32} {s2 : Int32} {σ : Mm} {r : Mm} (h : F_X12_copy_58 x1 x2 s0 s2 σ = some r) : Z m_X12_copy S (Qv r) 58 [(0, .ref (sL S 3 0 0)), (1, .int (x1)), (2, .int (x2))] [.int (s0), .ref (sL S 3 0 21), .int (s2), .ref (sL S 3 0 21)] σ := by
  unfold F_X12_copy_58 at h
  obtain ⟨g9, h⟩ := gd h
  obtain ⟨g10, h⟩ := gd h
  refine ia_3_21 (inb_in g9) dX12_copy_58 ?_
  refine is_3_21 (inb_in g10) dX12_copy_59 ?_
  refine z_aload_n dX12_copy_60 rfl 0 rfl ?_
  refine gf_12_88 rfl dX12_copy_61 ?_
  refine z_iload_n dX12_copy_64 rfl 2 rfl ?_
  refine z_aload_n dX12_copy_65 rfl 0 rfl ?_
  refine gf_12_88 rfl dX12_copy_66 ?_
  refine z_iload_n dX12_copy_69 rfl 1 rfl ?_
  exact zb_X12_copy_70 h
def F_X12_copy_46 (x1 : Int32) (x2 : Int32) (s0 : Int32) (s2 : Int32) (σ : Mm) : Option (Mm) := (if inb s0 5 = true then (if inb s2 5 = true then (F_X12_copy_58 x1 x2 x1 x2 (setA σ 3 0 17 (upd (mA σ 3 0 17) s2.toNatClampNeg (mA σ 3 0 17 s0.toNatClampNeg)))) else none) else none)
set_option maxRecDepth 20000 in
theorem zb_X12_copy_46 {S : Shp} {x1 : Int32} {x2 : Int32} {s0 : Int32} {s2 : Int32} {σ : Mm} {r : Mm} (h : F_X12_copy_46 x1 x2 s0 s2 σ = some r) : Z m_X12_copy S (Qv r) 46 [(0, .ref (sL S 3 0 0)), (1, .int (x1)), (2, .int (x2))] [.int (s0), .ref (sL S 3 0 17), .int (s2), .ref (sL S 3 0 17)] σ := by
  unfold F_X12_copy_46 at h
  obtain ⟨g7, h⟩ := gd h
  obtain ⟨g8, h⟩ := gd h
  refine ia_3_17 (inb_in g7) dX12_copy_46 ?_
  refine is_3_17 (inb_in g8) dX12_copy_47 ?_
  refine z_aload_n dX12_copy_48 rfl 0 rfl ?_
  refine gf_12_76 rfl dX12_copy_49 ?_
  refine z_iload_n dX12_copy_52 rfl 2 rfl ?_
  refine z_aload_n dX12_copy_53 rfl 0 rfl ?_
  refine gf_12_76 rfl dX12_copy_54 ?_
  refine z_iload_n dX12_copy_57 rfl 1 rfl ?_
  exact zb_X12_copy_58 h
def F_X12_copy_34 (x1 : Int32) (x2 : Int32) (s0 : Int32) (s2 : Int32) (σ : Mm) : Option (Mm) := (if inb s0 5 = true then (if inb s2 5 = true then (F_X12_copy_46 x1 x2 x1 x2 (setA σ 3 0 14 (upd (mA σ 3 0 14) s2.toNatClampNeg (mA σ 3 0 14 s0.toNatClampNeg)))) else none) else none)
set_option maxRecDepth 20000 in
theorem zb_X12_copy_34 {S : Shp} {x1 : Int32} {x2 : Int32} {s0 : Int32} {s2 : Int32} {σ : Mm} {r : Mm} (h : F_X12_copy_34 x1 x2 s0 s2 σ = some r) : Z m_X12_copy S (Qv r) 34 [(0, .ref (sL S 3 0 0)), (1, .int (x1)), (2, .int (x2))] [.int (s0), .ref (sL S 3 0 14), .int (s2), .ref (sL S 3 0 14)] σ := by
  unfold F_X12_copy_34 at h
  obtain ⟨g5, h⟩ := gd h
  obtain ⟨g6, h⟩ := gd h
  refine ia_3_14 (inb_in g5) dX12_copy_34 ?_
  refine is_3_14 (inb_in g6) dX12_copy_35 ?_
  refine z_aload_n dX12_copy_36 rfl 0 rfl ?_
  refine gf_12_64 rfl dX12_copy_37 ?_
  refine z_iload_n dX12_copy_40 rfl 2 rfl ?_
  refine z_aload_n dX12_copy_41 rfl 0 rfl ?_
  refine gf_12_64 rfl dX12_copy_42 ?_
  refine z_iload_n dX12_copy_45 rfl 1 rfl ?_
  exact zb_X12_copy_46 h
def F_X12_copy_22 (x1 : Int32) (x2 : Int32) (s0 : Int32) (s2 : Int32) (σ : Mm) : Option (Mm) := (if inb s0 5 = true then (if inb s2 5 = true then (F_X12_copy_34 x1 x2 x1 x2 (setA σ 3 0 8 (upd (mA σ 3 0 8) s2.toNatClampNeg (mA σ 3 0 8 s0.toNatClampNeg)))) else none) else none)
set_option maxRecDepth 20000 in
theorem zb_X12_copy_22 {S : Shp} {x1 : Int32} {x2 : Int32} {s0 : Int32} {s2 : Int32} {σ : Mm} {r : Mm} (h : F_X12_copy_22 x1 x2 s0 s2 σ = some r) : Z m_X12_copy S (Qv r) 22 [(0, .ref (sL S 3 0 0)), (1, .int (x1)), (2, .int (x2))] [.int (s0), .ref (sL S 3 0 8), .int (s2), .ref (sL S 3 0 8)] σ := by
  unfold F_X12_copy_22 at h
  obtain ⟨g3, h⟩ := gd h
  obtain ⟨g4, h⟩ := gd h
  refine ia_3_8 (inb_in g3) dX12_copy_22 ?_
  refine is_3_8 (inb_in g4) dX12_copy_23 ?_
  refine z_aload_n dX12_copy_24 rfl 0 rfl ?_
  refine gf_12_55 rfl dX12_copy_25 ?_
  refine z_iload_n dX12_copy_28 rfl 2 rfl ?_
  refine z_aload_n dX12_copy_29 rfl 0 rfl ?_
  refine gf_12_55 rfl dX12_copy_30 ?_
  refine z_iload_n dX12_copy_33 rfl 1 rfl ?_
  exact zb_X12_copy_34 h
def F_X12_copy (x1 : Int32) (x2 : Int32) (σ : Mm) : Option (Mm) := (if inb x1 5 = true then (if inb x2 5 = true then (F_X12_copy_22 x1 x2 x1 x2 (setA σ 3 0 7 (upd (mA σ 3 0 7) x2.toNatClampNeg (mA σ 3 0 7 x1.toNatClampNeg)))) else none) else none)
set_option maxRecDepth 20000 in
theorem zb_X12_copy {S : Shp} {x1 : Int32} {x2 : Int32} {σ : Mm} {r : Mm} (h : F_X12_copy x1 x2 σ = some r) : Z m_X12_copy S (Qv r) 0 [(0, .ref (sL S 3 0 0)), (1, .int (x1)), (2, .int (x2))] [] σ := by
  unfold F_X12_copy at h
  obtain ⟨g1, h⟩ := gd h
  refine z_aload_n dX12_copy_0 rfl 0 rfl ?_
  refine gf_12_34 rfl dX12_copy_1 ?_
  refine z_iload_n dX12_copy_4 rfl 2 rfl ?_
  refine z_aload_n dX12_copy_5 rfl 0 rfl ?_
  refine gf_12_34 rfl dX12_copy_6 ?_
  refine z_iload_n dX12_copy_9 rfl 1 rfl ?_
  obtain ⟨g2, h⟩ := gd h
  refine ia_3_7 (inb_in g1) dX12_copy_10 ?_
  refine is_3_7 (inb_in g2) dX12_copy_11 ?_
  refine z_aload_n dX12_copy_12 rfl 0 rfl ?_
  refine gf_12_37 rfl dX12_copy_13 ?_
  refine z_iload_n dX12_copy_16 rfl 2 rfl ?_
  refine z_aload_n dX12_copy_17 rfl 0 rfl ?_
  refine gf_12_37 rfl dX12_copy_18 ?_
  refine z_iload_n dX12_copy_21 rfl 1 rfl ?_
  exact zb_X12_copy_22 h
/-- SkyStonesModel.copy(II)V -/
theorem c_X12_copy {S : Shp} {x1 : Int32} {x2 : Int32} {σ : Mm} {r : Mm} (h : F_X12_copy x1 x2 σ = some r) : Ct m_X12_copy S [.ref (sL S 3 0 0), .int (x1), .int (x2)] σ (Qv r) := Ct.of (by decide) (Nat.le_of_ble_eq_true rfl) (zb_X12_copy h)
