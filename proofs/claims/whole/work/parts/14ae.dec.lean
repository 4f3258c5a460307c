def f_X11_counts (x1 : Int32) (x2 : Int32) (x3 : Int32) (x4 : Int32) (x5 : Int32) (σ : Mm) : Int32 := (if x1 < (1 : Int32) then (-1) else (if (100 : Int32) < x1 then (-1) else (if x2 < (1 : Int32) then (-1) else (if (100 : Int32) < x2 then (-1) else (if x3 < (1 : Int32) then (-1) else (if x3 ≤ (100 : Int32) then (if x4 < (1 : Int32) then (-1) else (if (9999 : Int32) < x4 then (-1) else (if x5 < 0 then (-1) else (if x5 ≤ (99 : Int32) then (if (x5 * x2) < (f_J9_abs_0f7a4 ((x1 * x3) - (x4 * x2))) then 0 else 1) else (-1))))) else (-1)))))))
set_option maxRecDepth 20000 in
theorem zb_X11_counts {S : Shp} {x1 : Int32} {x2 : Int32} {x3 : Int32} {x4 : Int32} {x5 : Int32} {σ : Mm} {r : Int32} (hp : okP σ = true) (h : f_X11_counts x1 x2 x3 x4 x5 σ = r) : Z m_X11_counts S (Qi (r, σ)) 0 [(0, .ref (sL S 0 0 0)), (1, .int (x1)), (2, .int (x2)), (3, .int (x3)), (4, .int (x4)), (5, .int (x5))] [] σ := by
  unfold f_X11_counts at h
  refine z_iload_n dX11_counts_0 rfl 1 rfl ?_
  refine z_iconst (v := 1) dX11_counts_1 (by decide) ?_
  refine z_icmp_lt (tgt := 33) dX11_counts_2 (by decide) (fun q => ?_) (fun q => ?_)
  · have h := (if_pos q).symm.trans h
    refine z_iconst (v := (-1)) dX11_counts_33 (by decide) ?_
    subst h
    exact z_ireturn dX11_counts_34 rfl rfl ⟨rfl, rfl⟩
  · have h := (if_neg q).symm.trans h
    refine z_iload_n dX11_counts_5 rfl 1 rfl ?_
    refine z_bipush (v := 100) dX11_counts_6 (by decide) ?_
    refine z_icmp_gt (tgt := 33) dX11_counts_8 (by decide) (fun q => ?_) (fun q => ?_)
    · have h := (if_pos q).symm.trans h
      refine z_iconst (v := (-1)) dX11_counts_33 (by decide) ?_
      subst h
      exact z_ireturn dX11_counts_34 rfl rfl ⟨rfl, rfl⟩
    · have h := (if_neg q).symm.trans h
      refine z_iload_n dX11_counts_11 rfl 2 rfl ?_
      refine z_iconst (v := 1) dX11_counts_12 (by decide) ?_
      refine z_icmp_lt (tgt := 33) dX11_counts_13 (by decide) (fun q => ?_) (fun q => ?_)
      · have h := (if_pos q).symm.trans h
        refine z_iconst (v := (-1)) dX11_counts_33 (by decide) ?_
        subst h
        exact z_ireturn dX11_counts_34 rfl rfl ⟨rfl, rfl⟩
      · have h := (if_neg q).symm.trans h
        refine z_iload_n dX11_counts_16 rfl 2 rfl ?_
        refine z_bipush (v := 100) dX11_counts_17 (by decide) ?_
        refine z_icmp_gt (tgt := 33) dX11_counts_19 (by decide) (fun q => ?_) (fun q => ?_)
        · have h := (if_pos q).symm.trans h
          refine z_iconst (v := (-1)) dX11_counts_33 (by decide) ?_
          subst h
          exact z_ireturn dX11_counts_34 rfl rfl ⟨rfl, rfl⟩
        · have h := (if_neg q).symm.trans h
          refine z_iload_n dX11_counts_22 rfl 3 rfl ?_
          refine z_iconst (v := 1) dX11_counts_23 (by decide) ?_
          refine z_icmp_lt (tgt := 33) dX11_counts_24 (by decide) (fun q => ?_) (fun q => ?_)
          · have h := (if_pos q).symm.trans h
            refine z_iconst (v := (-1)) dX11_counts_33 (by decide) ?_
            subst h
            exact z_ireturn dX11_counts_34 rfl rfl ⟨rfl, rfl⟩
          · have h := (if_neg q).symm.trans h
            refine z_iload_n dX11_counts_27 rfl 3 rfl ?_
            refine z_bipush (v := 100) dX11_counts_28 (by decide) ?_
            refine z_icmp_le (tgt := 35) dX11_counts_30 (by decide) (fun q => ?_) (fun q => ?_)
            · have h := (if_pos q).symm.trans h
              refine z_iload dX11_counts_35 4 rfl ?_
              refine z_iconst (v := 1) dX11_counts_37 (by decide) ?_
              refine z_icmp_lt (tgt := 61) dX11_counts_38 (by decide) (fun q => ?_) (fun q => ?_)
              · have h := (if_pos q).symm.trans h
                refine z_iconst (v := (-1)) dX11_counts_61 (by decide) ?_
                subst h
                exact z_ireturn dX11_counts_62 rfl rfl ⟨rfl, rfl⟩
              · have h := (if_neg q).symm.trans h
                refine z_iload dX11_counts_41 4 rfl ?_
                refine z_sipush (v := 9999) dX11_counts_43 (by decide) ?_
                refine z_icmp_gt (tgt := 61) dX11_counts_46 (by decide) (fun q => ?_) (fun q => ?_)
                · have h := (if_pos q).symm.trans h
                  refine z_iconst (v := (-1)) dX11_counts_61 (by decide) ?_
                  subst h
                  exact z_ireturn dX11_counts_62 rfl rfl ⟨rfl, rfl⟩
                · have h := (if_neg q).symm.trans h
                  refine z_iload dX11_counts_49 5 rfl ?_
                  refine z_if_lt (tgt := 61) dX11_counts_51 (by decide) (fun q => ?_) (fun q => ?_)
                  · have h := (if_pos q).symm.trans h
                    refine z_iconst (v := (-1)) dX11_counts_61 (by decide) ?_
                    subst h
                    exact z_ireturn dX11_counts_62 rfl rfl ⟨rfl, rfl⟩
                  · have h := (if_neg q).symm.trans h
                    refine z_iload dX11_counts_54 5 rfl ?_
                    refine z_bipush (v := 99) dX11_counts_56 (by decide) ?_
                    refine z_icmp_le (tgt := 63) dX11_counts_58 (by decide) (fun q => ?_) (fun q => ?_)
                    · have h := (if_pos q).symm.trans h
                      refine z_iload_n dX11_counts_63 rfl 1 rfl ?_
                      refine z_iload_n dX11_counts_64 rfl 3 rfl ?_
                      refine z_imul dX11_counts_65 ?_
                      refine z_iload dX11_counts_66 4 rfl ?_
                      refine z_iload_n dX11_counts_68 rfl 2 rfl ?_
                      refine z_imul dX11_counts_69 ?_
                      refine z_isub dX11_counts_70 ?_
                      refine z_callS (M' := m_J9_abs_0f7a4) (As := [.int ((x1 * x3) - (x4 * x2))]) (rest := []) kl_11_333 oy_J9_abs_0f7a4 ⟨Nat.le_of_ble_eq_true rfl, Nat.le_of_ble_eq_true rfl⟩ rfl (Nat.le_of_ble_eq_true rfl) rfl dX11_counts_71 (c_J9_abs_0f7a4 rfl) (fun v τ hq => ?_)
                      obtain ⟨rfl, hτ⟩ := hq
                      subst τ
                      change Z _ _ _ _ _ [.int (f_J9_abs_0f7a4 ((x1 * x3) - (x4 * x2)))] _
                      refine z_iload dX11_counts_74 5 rfl ?_
                      refine z_iload_n dX11_counts_76 rfl 2 rfl ?_
                      refine z_imul dX11_counts_77 ?_
                      refine z_icmp_gt (tgt := 85) dX11_counts_78 (by decide) (fun q => ?_) (fun q => ?_)
                      · have h := (if_pos q).symm.trans h
                        refine z_iconst (v := 0) dX11_counts_85 (by decide) ?_
                        subst h
                        exact z_ireturn dX11_counts_86 rfl rfl ⟨rfl, rfl⟩
                      · have h := (if_neg q).symm.trans h
                        refine z_iconst (v := 1) dX11_counts_81 (by decide) ?_
                        refine z_goto (tgt := 86) dX11_counts_82 (by decide) ?_
                        subst h
                        exact z_ireturn dX11_counts_86 rfl rfl ⟨rfl, rfl⟩
                    · have h := (if_neg q).symm.trans h
                      refine z_iconst (v := (-1)) dX11_counts_61 (by decide) ?_
                      subst h
                      exact z_ireturn dX11_counts_62 rfl rfl ⟨rfl, rfl⟩
            · have h := (if_neg q).symm.trans h
              refine z_iconst (v := (-1)) dX11_counts_33 (by decide) ?_
              subst h
              exact z_ireturn dX11_counts_34 rfl rfl ⟨rfl, rfl⟩
/-- SkyStones.counts(IIIII)I -/
theorem c_X11_counts {S : Shp} {x1 : Int32} {x2 : Int32} {x3 : Int32} {x4 : Int32} {x5 : Int32} {σ : Mm} {r : Int32} (hp : okP σ = true) (h : f_X11_counts x1 x2 x3 x4 x5 σ = r) : Ct m_X11_counts S [.ref (sL S 0 0 0), .int (x1), .int (x2), .int (x3), .int (x4), .int (x5)] σ (Qi (r, σ)) := Ct.of (by decide +kernel) (Nat.le_of_ble_eq_true rfl) (zb_X11_counts hp h)
def f_X11_isAge (x0 : Int32) : Int32 := (if x0 < 0 then 0 else (if (9999 : Int32) < x0 then 0 else 1))
set_option maxRecDepth 20000 in
theorem zb_X11_isAge {S : Shp} {x0 : Int32} {σ : Mm} {r : Int32} (h : f_X11_isAge x0 = r) : Z m_X11_isAge S (Qi (r, σ)) 0 [(0, .int (x0))] [] σ := by
  unfold f_X11_isAge at h
  refine z_iload_n dX11_isAge_0 rfl 0 rfl ?_
  refine z_if_lt (tgt := 15) dX11_isAge_1 (by decide) (fun q => ?_) (fun q => ?_)
  · have h := (if_pos q).symm.trans h
    refine z_iconst (v := 0) dX11_isAge_15 (by decide) ?_
    subst h
    exact z_ireturn dX11_isAge_16 rfl rfl ⟨rfl, rfl⟩
  · have h := (if_neg q).symm.trans h
    refine z_iload_n dX11_isAge_4 rfl 0 rfl ?_
    refine z_sipush (v := 9999) dX11_isAge_5 (by decide) ?_
    refine z_icmp_gt (tgt := 15) dX11_isAge_8 (by decide) (fun q => ?_) (fun q => ?_)
    · have h := (if_pos q).symm.trans h
      refine z_iconst (v := 0) dX11_isAge_15 (by decide) ?_
      subst h
      exact z_ireturn dX11_isAge_16 rfl rfl ⟨rfl, rfl⟩
    · have h := (if_neg q).symm.trans h
      refine z_iconst (v := 1) dX11_isAge_11 (by decide) ?_
      refine z_goto (tgt := 16) dX11_isAge_12 (by decide) ?_
      subst h
      exact z_ireturn dX11_isAge_16 rfl rfl ⟨rfl, rfl⟩
/-- SkyStones.isAge(I)Z -/
theorem c_X11_isAge {S : Shp} {x0 : Int32} {σ : Mm} {r : Int32} (h : f_X11_isAge x0 = r) : Ct m_X11_isAge S [.int (x0)] σ (Qi (r, σ)) := Ct.of (by decide +kernel) (Nat.le_of_ble_eq_true rfl) (zb_X11_isAge h)
def f_X11_isThing (x1 : Int32) (σ : Mm) : Int32 := (if x1 < 0 then 0 else (if (f_X11_thingsInAll σ) ≤ x1 then 0 else (if (14 : Int32) ≤ x1 then 0 else 1)))
set_option maxRecDepth 20000 in
theorem zb_X11_isThing {S : Shp} {x1 : Int32} {σ : Mm} {r : Int32} (hp : okP σ = true) (h : f_X11_isThing x1 σ = r) : Z m_X11_isThing S (Qi (r, σ)) 0 [(0, .ref (sL S 0 0 0)), (1, .int (x1))] [] σ := by
  unfold f_X11_isThing at h
  refine z_iload_n dX11_isThing_0 rfl 1 rfl ?_
  refine z_if_lt (tgt := 22) dX11_isThing_1 (by decide) (fun q => ?_) (fun q => ?_)
  · have h := (if_pos q).symm.trans h
    refine z_iconst (v := 0) dX11_isThing_22 (by decide) ?_
    subst h
    exact z_ireturn dX11_isThing_23 rfl rfl ⟨rfl, rfl⟩
  · have h := (if_neg q).symm.trans h
    refine z_iload_n dX11_isThing_4 rfl 1 rfl ?_
    refine z_aload_n dX11_isThing_5 rfl 0 rfl ?_
    refine z_callV (M' := m_X11_thingsInAll) (t := 0) (i := 0) (k := 0) (As := []) (rest := [.int (x1)]) kl_11_124 oy_X11_thingsInAll ⟨Nat.le_of_ble_eq_true rfl, Nat.le_of_ble_eq_true rfl⟩ rfl rfl rfl rfl (Nat.le_of_ble_eq_true rfl) rfl dX11_isThing_6 (c_X11_thingsInAll hp rfl) (fun v τ hq => ?_)
    obtain ⟨rfl, hτ⟩ := hq
    subst τ
    change Z _ _ _ _ _ [.int (f_X11_thingsInAll σ), .int (x1)] _
    refine z_icmp_ge (tgt := 22) dX11_isThing_9 (by decide) (fun q => ?_) (fun q => ?_)
    · have h := (if_pos q).symm.trans h
      refine z_iconst (v := 0) dX11_isThing_22 (by decide) ?_
      subst h
      exact z_ireturn dX11_isThing_23 rfl rfl ⟨rfl, rfl⟩
    · have h := (if_neg q).symm.trans h
      refine z_iload_n dX11_isThing_12 rfl 1 rfl ?_
      refine z_bipush (v := 14) dX11_isThing_13 (by decide) ?_
      refine z_icmp_ge (tgt := 22) dX11_isThing_15 (by decide) (fun q => ?_) (fun q => ?_)
      · have h := (if_pos q).symm.trans h
        refine z_iconst (v := 0) dX11_isThing_22 (by decide) ?_
        subst h
        exact z_ireturn dX11_isThing_23 rfl rfl ⟨rfl, rfl⟩
      · have h := (if_neg q).symm.trans h
        refine z_iconst (v := 1) dX11_isThing_18 (by decide) ?_
        refine z_goto (tgt := 23) dX11_isThing_19 (by decide) ?_
        subst h
        exact z_ireturn dX11_isThing_23 rfl rfl ⟨rfl, rfl⟩
/-- SkyStones.isThing(I)Z -/
theorem c_X11_isThing {S : Shp} {x1 : Int32} {σ : Mm} {r : Int32} (hp : okP σ = true) (h : f_X11_isThing x1 σ = r) : Ct m_X11_isThing S [.ref (sL S 0 0 0), .int (x1)] σ (Qi (r, σ)) := Ct.of (by decide +kernel) (Nat.le_of_ble_eq_true rfl) (zb_X11_isThing hp h)
def F_X11_date_29 (s0 : Int32) (σ : Mm) : Option (Int32 × Mm) := some (s0, σ)
set_option maxRecDepth 20000 in
theorem zb_X11_date_29 {S : Shp} {s0 : Int32} {σ : Mm} {r : Int32 × Mm} (h : F_X11_date_29 s0 σ = some r) : Z m_X11_date S (Qi r) 29 [] [.int (s0)] σ := by
  unfold F_X11_date_29 at h
  cases h
  exact z_ireturn dX11_date_29 rfl rfl ⟨rfl, rfl⟩
def F_X11_date (x1 : Int32) (x2 : Int32) (σ : Mm) : Option (Int32 × Mm) := (if okP σ = true then (if (f_X11_isThing x1 σ) = 0 then some ((-1), σ) else (if (f_X11_isAge x2) = 0 then some ((-1), σ) else (bnd (F_X7_note 0 3 x1 0 0 x2 σ) (fun v τ => (F_X11_date_29 v τ))))) else none)
set_option maxRecDepth 20000 in
theorem zb_X11_date {S : Shp} {x1 : Int32} {x2 : Int32} {σ : Mm} {r : Int32 × Mm} (h : F_X11_date x1 x2 σ = some r) : Z m_X11_date S (Qi r) 0 [(0, .ref (sL S 0 0 0)), (1, .int (x1)), (2, .int (x2))] [] σ := by
  unfold F_X11_date at h
  obtain ⟨g1, h⟩ := gd h
  refine z_aload_n dX11_date_0 rfl 0 rfl ?_
  refine z_iload_n dX11_date_1 rfl 1 rfl ?_
  have hp := g1
  refine z_callV (M' := m_X11_isThing) (t := 0) (i := 0) (k := 0) (As := [.int (x1)]) (rest := []) kl_11_146 oy_X11_isThing ⟨Nat.le_of_ble_eq_true rfl, Nat.le_of_ble_eq_true rfl⟩ rfl rfl rfl rfl (Nat.le_of_ble_eq_true rfl) rfl dX11_date_2 (c_X11_isThing hp rfl) (fun v τ hq => ?_)
  obtain ⟨rfl, hτ⟩ := hq
  subst τ
  change Z _ _ _ _ _ [.int (f_X11_isThing x1 σ)] _
  refine z_if_eq (tgt := 15) dX11_date_5 (by decide) (fun q => ?_) (fun q => ?_)
  · have h := (if_pos q).symm.trans h
    refine z_iconst (v := (-1)) dX11_date_15 (by decide) ?_
    cases h
    exact z_ireturn dX11_date_16 rfl rfl ⟨rfl, rfl⟩
  · have h := (if_neg q).symm.trans h
    refine z_iload_n dX11_date_8 rfl 2 rfl ?_
    refine z_callS (M' := m_X11_isAge) (As := [.int (x2)]) (rest := []) kl_11_135 oy_X11_isAge ⟨Nat.le_of_ble_eq_true rfl, Nat.le_of_ble_eq_true rfl⟩ rfl (Nat.le_of_ble_eq_true rfl) rfl dX11_date_9 (c_X11_isAge rfl) (fun v τ hq => ?_)
    obtain ⟨rfl, hτ⟩ := hq
    subst τ
    change Z _ _ _ _ _ [.int (f_X11_isAge x2)] _
    refine z_if_ne (tgt := 17) dX11_date_12 (by decide) (fun q => ?_) (fun q => ?_)
    · have h := (if_neg q).symm.trans h
      refine z_aload_n dX11_date_17 rfl 0 rfl ?_
      refine gf_11_38 rfl dX11_date_18 ?_
      refine z_iconst (v := 3) dX11_date_21 (by decide) ?_
      refine z_iload_n dX11_date_22 rfl 1 rfl ?_
      refine z_iconst (v := 0) dX11_date_23 (by decide) ?_
      refine z_iconst (v := 0) dX11_date_24 (by decide) ?_
      refine z_iload_n dX11_date_25 rfl 2 rfl ?_
      obtain ⟨v, τ, hc, h⟩ := bnd_e h
      refine z_callV (M' := m_X7_note) (t := 2) (i := 0) (k := 0) (As := [.int (3), .int (x1), .int (0), .int (0), .int (x2)]) (rest := []) kl_11_139 oy_X7_note ⟨Nat.le_of_ble_eq_true rfl, Nat.le_of_ble_eq_true rfl⟩ rfl rfl rfl rfl (Nat.le_of_ble_eq_true rfl) rfl dX11_date_26 (c_X7_note rfl hc) (fun v2 τ2 hq => ?_)
      obtain ⟨rfl, hτ⟩ := hq
      subst τ2
      change Z _ _ _ _ _ [.int (v)] _
      refine Z.lv [] rfl ?_
      exact zb_X11_date_29 h
    · have h := (if_pos q).symm.trans h
      refine z_iconst (v := (-1)) dX11_date_15 (by decide) ?_
      cases h
      exact z_ireturn dX11_date_16 rfl rfl ⟨rfl, rfl⟩
/-- SkyStones.date(II)I -/
theorem c_X11_date {S : Shp} {x1 : Int32} {x2 : Int32} {σ : Mm} {r : Int32 × Mm} (h : F_X11_date x1 x2 σ = some r) : Ct m_X11_date S [.ref (sL S 0 0 0), .int (x1), .int (x2)] σ (Qi r) := Ct.of (by decide +kernel) (Nat.le_of_ble_eq_true rfl) (zb_X11_date h)
def F_X11_degree_35 (s0 : Int32) (σ : Mm) : Option (Int32 × Mm) := some (s0, σ)
set_option maxRecDepth 20000 in
theorem zb_X11_degree_35 {S : Shp} {s0 : Int32} {σ : Mm} {r : Int32 × Mm} (h : F_X11_degree_35 s0 σ = some r) : Z m_X11_degree S (Qi r) 35 [] [.int (s0)] σ := by
  unfold F_X11_degree_35 at h
  cases h
  exact z_ireturn dX11_degree_35 rfl rfl ⟨rfl, rfl⟩
def F_X11_degree (x1 : Int32) (x2 : Int32) (σ : Mm) : Option (Int32 × Mm) := (if x1 < (-9999 : Int32) then some ((-1), σ) else (if (9999 : Int32) < x1 then some ((-1), σ) else (if x2 < (-9999 : Int32) then some ((-1), σ) else (if x2 ≤ (9999 : Int32) then (bnd (F_X1_bearing x1 x2 σ) (fun v τ => (F_X11_degree_35 v τ))) else some ((-1), σ)))))
set_option maxRecDepth 20000 in
theorem zb_X11_degree {S : Shp} {x1 : Int32} {x2 : Int32} {σ : Mm} {r : Int32 × Mm} (h : F_X11_degree x1 x2 σ = some r) : Z m_X11_degree S (Qi r) 0 [(0, .ref (sL S 0 0 0)), (1, .int (x1)), (2, .int (x2))] [] σ := by
  unfold F_X11_degree at h
  refine z_iload_n dX11_degree_0 rfl 1 rfl ?_
  refine z_sipush (v := (-9999)) dX11_degree_1 (by decide) ?_
  refine z_icmp_lt (tgt := 28) dX11_degree_4 (by decide) (fun q => ?_) (fun q => ?_)
  · have h := (if_pos q).symm.trans h
    refine z_iconst (v := (-1)) dX11_degree_28 (by decide) ?_
    cases h
    exact z_ireturn dX11_degree_29 rfl rfl ⟨rfl, rfl⟩
  · have h := (if_neg q).symm.trans h
    refine z_iload_n dX11_degree_7 rfl 1 rfl ?_
    refine z_sipush (v := 9999) dX11_degree_8 (by decide) ?_
    refine z_icmp_gt (tgt := 28) dX11_degree_11 (by decide) (fun q => ?_) (fun q => ?_)
    · have h := (if_pos q).symm.trans h
      refine z_iconst (v := (-1)) dX11_degree_28 (by decide) ?_
      cases h
      exact z_ireturn dX11_degree_29 rfl rfl ⟨rfl, rfl⟩
    · have h := (if_neg q).symm.trans h
      refine z_iload_n dX11_degree_14 rfl 2 rfl ?_
      refine z_sipush (v := (-9999)) dX11_degree_15 (by decide) ?_
      refine z_icmp_lt (tgt := 28) dX11_degree_18 (by decide) (fun q => ?_) (fun q => ?_)
      · have h := (if_pos q).symm.trans h
        refine z_iconst (v := (-1)) dX11_degree_28 (by decide) ?_
        cases h
        exact z_ireturn dX11_degree_29 rfl rfl ⟨rfl, rfl⟩
      · have h := (if_neg q).symm.trans h
        refine z_iload_n dX11_degree_21 rfl 2 rfl ?_
        refine z_sipush (v := 9999) dX11_degree_22 (by decide) ?_
        refine z_icmp_le (tgt := 30) dX11_degree_25 (by decide) (fun q => ?_) (fun q => ?_)
        · have h := (if_pos q).symm.trans h
          refine z_iload_n dX11_degree_30 rfl 1 rfl ?_
          refine z_iload_n dX11_degree_31 rfl 2 rfl ?_
          obtain ⟨v, τ, hc, h⟩ := bnd_e h
          refine z_callS (M' := m_X1_bearing) (As := [.int (x1), .int (x2)]) (rest := []) kl_11_174 oy_X1_bearing ⟨Nat.le_of_ble_eq_true rfl, Nat.le_of_ble_eq_true rfl⟩ rfl (Nat.le_of_ble_eq_true rfl) rfl dX11_degree_32 (c_X1_bearing hc) (fun v2 τ2 hq => ?_)
          obtain ⟨rfl, hτ⟩ := hq
          subst τ2
          change Z _ _ _ _ _ [.int (v)] _
          refine Z.lv [] rfl ?_
          exact zb_X11_degree_35 h
        · have h := (if_neg q).symm.trans h
          refine z_iconst (v := (-1)) dX11_degree_28 (by decide) ?_
          cases h
          exact z_ireturn dX11_degree_29 rfl rfl ⟨rfl, rfl⟩
/-- SkyStones.degree(II)I -/
theorem c_X11_degree {S : Shp} {x1 : Int32} {x2 : Int32} {σ : Mm} {r : Int32 × Mm} (h : F_X11_degree x1 x2 σ = some r) : Ct m_X11_degree S [.ref (sL S 0 0 0), .int (x1), .int (x2)] σ (Qi r) := Ct.of (by decide +kernel) (Nat.le_of_ble_eq_true rfl) (zb_X11_degree h)
def F_X8_append_40 (rc3 : Int32 → Int32 → Mm → Option (Mm)) (x1 : Int32) (x2 : Int32) (σ : Mm) : Option (Mm) := (rc3 x1 (x2 + (-8)) σ)
set_option maxRecDepth 20000 in
theorem zb_X8_append_40 {S : Shp} {rc3 : Int32 → Int32 → Mm → Option (Mm)} (hrc3 : ∀ {x1 : Int32} {x2 : Int32} {σ : Mm} {r : Mm}, rc3 x1 x2 σ = some r → Z m_X8_append S (Qv r) 3 [(0, .ref (sL S 0 0 6)), (1, .int (x1)), (2, .int (x2))] [] σ) {x1 : Int32} {x2 : Int32} {σ : Mm} {r : Mm} (h : F_X8_append_40 rc3 x1 x2 σ = some r) : Z m_X8_append S (Qv r) 40 [(0, .ref (sL S 0 0 6)), (1, .int (x1)), (2, .int (x2))] [] σ := by
  unfold F_X8_append_40 at h
  refine z_iinc (j := 2) (v := x2 + (-8)) (lv' := [(0, .ref (sL S 0 0 6)), (1, .int (x1)), (2, .int (x2 + (-8)))]) dX8_append_40 rfl rfl (by decide) [1, 2, 0] rfl ?_
  refine z_goto (tgt := 3) dX8_append_43 (by decide) ?_
  exact hrc3 h
def F_X8_append_30 (rc3 : Int32 → Int32 → Mm → Option (Mm)) (x1 : Int32) (x2 : Int32) (σ : Mm) : Option (Mm) := (F_X8_append_40 rc3 x1 x2 (setA σ 0 0 6 (upd (mA σ 0 0 6) 0 ((mA σ 0 0 6 0) + (1 : Int32)))))
set_option maxRecDepth 20000 in
theorem zb_X8_append_30 {S : Shp} {rc3 : Int32 → Int32 → Mm → Option (Mm)} (hrc3 : ∀ {x1 : Int32} {x2 : Int32} {σ : Mm} {r : Mm}, rc3 x1 x2 σ = some r → Z m_X8_append S (Qv r) 3 [(0, .ref (sL S 0 0 6)), (1, .int (x1)), (2, .int (x2))] [] σ) {x1 : Int32} {x2 : Int32} {σ : Mm} {r : Mm} (h : F_X8_append_30 rc3 x1 x2 σ = some r) : Z m_X8_append S (Qv r) 30 [(0, .ref (sL S 0 0 6)), (1, .int (x1)), (2, .int (x2))] [] σ := by
  unfold F_X8_append_30 at h
  refine z_aload_n dX8_append_30 rfl 0 rfl ?_
  refine z_dup dX8_append_31 rfl ?_
  refine gf_8_9 rfl dX8_append_32 ?_
  refine z_iconst (v := 1) dX8_append_35 (by decide) ?_
  refine z_iadd dX8_append_36 ?_
  refine pf_8_9 rfl dX8_append_37 ?_
  exact zb_X8_append_40 hrc3 h
def B_X8_append_3 (rc3 : Int32 → Int32 → Mm → Option (Mm)) (x1 : Int32) (x2 : Int32) (σ : Mm) : Option (Mm) := (if x2 < 0 then some (σ) else (if (2000 : Int32) ≤ (mA σ 0 0 6 0) then some (σ) else (if inb (mA σ 0 0 6 0) 2000 = true then (F_X8_append_30 rc3 x1 x2 (setA σ 0 0 7 (upd (mA σ 0 0 7) (mA σ 0 0 6 0).toNatClampNeg (vp_nar .byte ((Int32.toInt8 (x1 >>> (x2 &&& 31))).toInt32))))) else none)))
set_option maxRecDepth 20000 in
theorem zB_X8_append_3 {S : Shp} {rc3 : Int32 → Int32 → Mm → Option (Mm)} (hrc3 : ∀ {x1 : Int32} {x2 : Int32} {σ : Mm} {r : Mm}, rc3 x1 x2 σ = some r → Z m_X8_append S (Qv r) 3 [(0, .ref (sL S 0 0 6)), (1, .int (x1)), (2, .int (x2))] [] σ) {x1 : Int32} {x2 : Int32} {σ : Mm} {r : Mm} (h : B_X8_append_3 rc3 x1 x2 σ = some r) : Z m_X8_append S (Qv r) 3 [(0, .ref (sL S 0 0 6)), (1, .int (x1)), (2, .int (x2))] [] σ := by
  unfold B_X8_append_3 at h
  refine z_iload_n dX8_append_3 rfl 2 rfl ?_
  refine z_if_lt (tgt := 46) dX8_append_4 (by decide) (fun q => ?_) (fun q => ?_)
  · have h := (if_pos q).symm.trans h
    cases h
    exact z_return dX8_append_46 rfl ⟨rfl, rfl⟩
  · have h := (if_neg q).symm.trans h
    refine z_aload_n dX8_append_7 rfl 0 rfl ?_
    refine gf_8_9 rfl dX8_append_8 ?_
    refine z_sipush (v := 2000) dX8_append_11 (by decide) ?_
    refine z_icmp_ge (tgt := 46) dX8_append_14 (by decide) (fun q => ?_) (fun q => ?_)
    · have h := (if_pos q).symm.trans h
      cases h
      exact z_return dX8_append_46 rfl ⟨rfl, rfl⟩
    · have h := (if_neg q).symm.trans h
      obtain ⟨g1, h⟩ := gd h
      refine z_aload_n dX8_append_17 rfl 0 rfl ?_
      refine gf_8_15 rfl dX8_append_18 ?_
      refine z_aload_n dX8_append_21 rfl 0 rfl ?_
      refine gf_8_9 rfl dX8_append_22 ?_
      refine z_iload_n dX8_append_25 rfl 1 rfl ?_
      refine z_iload_n dX8_append_26 rfl 2 rfl ?_
      refine z_ishr dX8_append_27 ?_
      refine z_i2b dX8_append_28 ?_
      refine is_0_7 (inb_in g1) dX8_append_29 ?_
      exact zb_X8_append_30 hrc3 h
def F_X8_append_3 : Nat → Int32 → Int32 → Mm → Option (Mm)
  | 0 => fun _ _ _ => none
  | n + 1 => B_X8_append_3 (F_X8_append_3 n)
theorem zl_X8_append_3 {S : Shp} : ∀ (nn : Nat) {x1 : Int32} {x2 : Int32} {σ : Mm} {r : Mm}, F_X8_append_3 nn x1 x2 σ = some r → Z m_X8_append S (Qv r) 3 [(0, .ref (sL S 0 0 6)), (1, .int (x1)), (2, .int (x2))] [] σ := by
  intro nn
  induction nn with
  | zero => intro x1 x2 σ r h; cases h
  | succ nn ih => intro x1 x2 σ r h; exact zB_X8_append_3 @ih h
def F_X8_append (x1 : Int32) (σ : Mm) : Option (Mm) := (F_X8_append_3 FU x1 24 σ)
set_option maxRecDepth 20000 in
theorem zb_X8_append {S : Shp} {x1 : Int32} {σ : Mm} {r : Mm} (h : F_X8_append x1 σ = some r) : Z m_X8_append S (Qv r) 0 [(0, .ref (sL S 0 0 6)), (1, .int (x1))] [] σ := by
  unfold F_X8_append at h
  refine z_bipush (v := 24) dX8_append_0 (by decide) ?_
  refine z_istore_n (lv' := [(0, .ref (sL S 0 0 6)), (1, .int (x1)), (2, .int (24))]) dX8_append_2 rfl (by decide) [1, 2, 0] rfl ?_
  exact zl_X8_append_3 FU h
/-- SkyStones$Tape.append(I)V -/
theorem c_X8_append {S : Shp} {x1 : Int32} {σ : Mm} {r : Mm} (h : F_X8_append x1 σ = some r) : Ct m_X8_append S [.ref (sL S 0 0 6), .int (x1)] σ (Qv r) := Ct.of (by decide +kernel) (Nat.le_of_ble_eq_true rfl) (zb_X8_append h)
def F_X11_feed_60 (σ : Mm) : Option (Int32 × Mm) := some (mA σ 0 0 6 0, σ)
set_option maxRecDepth 20000 in
theorem zb_X11_feed_60 {S : Shp} {σ : Mm} {r : Int32 × Mm} (h : F_X11_feed_60 σ = some r) : Z m_X11_feed S (Qi r) 60 [(0, .ref (sL S 0 0 0))] [] σ := by
  unfold F_X11_feed_60 at h
  refine z_aload_n dX11_feed_60 rfl 0 rfl ?_
  refine gf_11_12 rfl dX11_feed_61 ?_
  refine gf_11_100 rfl dX11_feed_64 ?_
  cases h
  exact z_ireturn dX11_feed_67 rfl rfl ⟨rfl, rfl⟩
def F_X11_feed_51 (x5 : Int32) (σ : Mm) : Option (Int32 × Mm) := (bnv (F_X8_append x5 σ) (fun τ => (F_X11_feed_60 τ)))
set_option maxRecDepth 20000 in
theorem zb_X11_feed_51 {S : Shp} {x5 : Int32} {σ : Mm} {r : Int32 × Mm} (h : F_X11_feed_51 x5 σ = some r) : Z m_X11_feed S (Qi r) 51 [(0, .ref (sL S 0 0 0)), (5, .int (x5))] [] σ := by
  unfold F_X11_feed_51 at h
  refine z_aload_n dX11_feed_51 rfl 0 rfl ?_
  refine gf_11_12 rfl dX11_feed_52 ?_
  refine z_iload dX11_feed_55 1 rfl ?_
  obtain ⟨τ, hc, h⟩ := bnv_e h
  refine z_callV (M' := m_X8_append) (t := 0) (i := 0) (k := 6) (As := [.int (x5)]) (rest := []) kl_11_103 oy_X8_append ⟨Nat.le_of_ble_eq_true rfl, Nat.le_of_ble_eq_true rfl⟩ rfl rfl rfl rfl (Nat.le_of_ble_eq_true rfl) rfl dX11_feed_57 (c_X8_append hc) (fun v2 τ2 hq => ?_)
  obtain ⟨rfl, hτ⟩ := hq
  subst τ2
  change Z _ _ _ _ _ [] _
  refine Z.lv [0] rfl ?_
  exact zb_X11_feed_60 h
def F_X11_feed_42 (x4 : Int32) (x5 : Int32) (σ : Mm) : Option (Int32 × Mm) := (bnv (F_X8_append x4 σ) (fun τ => (F_X11_feed_51 x5 τ)))
set_option maxRecDepth 20000 in
theorem zb_X11_feed_42 {S : Shp} {x4 : Int32} {x5 : Int32} {σ : Mm} {r : Int32 × Mm} (h : F_X11_feed_42 x4 x5 σ = some r) : Z m_X11_feed S (Qi r) 42 [(0, .ref (sL S 0 0 0)), (4, .int (x4)), (5, .int (x5))] [] σ := by
  unfold F_X11_feed_42 at h
  refine z_aload_n dX11_feed_42 rfl 0 rfl ?_
  refine gf_11_12 rfl dX11_feed_43 ?_
  refine z_iload dX11_feed_46 1 rfl ?_
  obtain ⟨τ, hc, h⟩ := bnv_e h
  refine z_callV (M' := m_X8_append) (t := 0) (i := 0) (k := 6) (As := [.int (x4)]) (rest := []) kl_11_103 oy_X8_append ⟨Nat.le_of_ble_eq_true rfl, Nat.le_of_ble_eq_true rfl⟩ rfl rfl rfl rfl (Nat.le_of_ble_eq_true rfl) rfl dX11_feed_48 (c_X8_append hc) (fun v2 τ2 hq => ?_)
  obtain ⟨rfl, hτ⟩ := hq
  subst τ2
  change Z _ _ _ _ _ [] _
  refine Z.lv [0, 2] rfl ?_
  exact zb_X11_feed_51 h
def F_X11_feed_34 (x3 : Int32) (x4 : Int32) (x5 : Int32) (σ : Mm) : Option (Int32 × Mm) := (bnv (F_X8_append x3 σ) (fun τ => (F_X11_feed_42 x4 x5 τ)))
set_option maxRecDepth 20000 in
theorem zb_X11_feed_34 {S : Shp} {x3 : Int32} {x4 : Int32} {x5 : Int32} {σ : Mm} {r : Int32 × Mm} (h : F_X11_feed_34 x3 x4 x5 σ = some r) : Z m_X11_feed S (Qi r) 34 [(0, .ref (sL S 0 0 0)), (3, .int (x3)), (4, .int (x4)), (5, .int (x5))] [] σ := by
  unfold F_X11_feed_34 at h
  refine z_aload_n dX11_feed_34 rfl 0 rfl ?_
  refine gf_11_12 rfl dX11_feed_35 ?_
  refine z_iload_n dX11_feed_38 rfl 1 rfl ?_
  obtain ⟨τ, hc, h⟩ := bnv_e h
  refine z_callV (M' := m_X8_append) (t := 0) (i := 0) (k := 6) (As := [.int (x3)]) (rest := []) kl_11_103 oy_X8_append ⟨Nat.le_of_ble_eq_true rfl, Nat.le_of_ble_eq_true rfl⟩ rfl rfl rfl rfl (Nat.le_of_ble_eq_true rfl) rfl dX11_feed_39 (c_X8_append hc) (fun v2 τ2 hq => ?_)
  obtain ⟨rfl, hτ⟩ := hq
  subst τ2
  change Z _ _ _ _ _ [] _
  refine Z.lv [0, 2, 3] rfl ?_
  exact zb_X11_feed_42 h
def F_X11_feed_26 (x2 : Int32) (x3 : Int32) (x4 : Int32) (x5 : Int32) (σ : Mm) : Option (Int32 × Mm) := (bnv (F_X8_append x2 σ) (fun τ => (F_X11_feed_34 x3 x4 x5 τ)))
set_option maxRecDepth 20000 in
theorem zb_X11_feed_26 {S : Shp} {x2 : Int32} {x3 : Int32} {x4 : Int32} {x5 : Int32} {σ : Mm} {r : Int32 × Mm} (h : F_X11_feed_26 x2 x3 x4 x5 σ = some r) : Z m_X11_feed S (Qi r) 26 [(0, .ref (sL S 0 0 0)), (2, .int (x2)), (3, .int (x3)), (4, .int (x4)), (5, .int (x5))] [] σ := by
  unfold F_X11_feed_26 at h
  refine z_aload_n dX11_feed_26 rfl 0 rfl ?_
  refine gf_11_12 rfl dX11_feed_27 ?_
  refine z_iload_n dX11_feed_30 rfl 1 rfl ?_
  obtain ⟨τ, hc, h⟩ := bnv_e h
  refine z_callV (M' := m_X8_append) (t := 0) (i := 0) (k := 6) (As := [.int (x2)]) (rest := []) kl_11_103 oy_X8_append ⟨Nat.le_of_ble_eq_true rfl, Nat.le_of_ble_eq_true rfl⟩ rfl rfl rfl rfl (Nat.le_of_ble_eq_true rfl) rfl dX11_feed_31 (c_X8_append hc) (fun v2 τ2 hq => ?_)
  obtain ⟨rfl, hτ⟩ := hq
  subst τ2
  change Z _ _ _ _ _ [] _
  refine Z.lv [0, 2, 3, 4] rfl ?_
  exact zb_X11_feed_34 h
def F_X11_feed (x1 : Int32) (x2 : Int32) (x3 : Int32) (x4 : Int32) (x5 : Int32) (σ : Mm) : Option (Int32 × Mm) := (if ((mA σ 0 0 6 0) + (20 : Int32)) ≤ (2000 : Int32) then (bnv (F_X8_append x1 σ) (fun τ => (F_X11_feed_26 x2 x3 x4 x5 τ))) else some ((-1), σ))
set_option maxRecDepth 20000 in
theorem zb_X11_feed {S : Shp} {x1 : Int32} {x2 : Int32} {x3 : Int32} {x4 : Int32} {x5 : Int32} {σ : Mm} {r : Int32 × Mm} (h : F_X11_feed x1 x2 x3 x4 x5 σ = some r) : Z m_X11_feed S (Qi r) 0 [(0, .ref (sL S 0 0 0)), (1, .int (x1)), (2, .int (x2)), (3, .int (x3)), (4, .int (x4)), (5, .int (x5))] [] σ := by
  unfold F_X11_feed at h
  refine z_aload_n dX11_feed_0 rfl 0 rfl ?_
  refine gf_11_12 rfl dX11_feed_1 ?_
  refine gf_11_100 rfl dX11_feed_4 ?_
  refine z_bipush (v := 20) dX11_feed_7 (by decide) ?_
  refine z_iadd dX11_feed_9 ?_
  refine z_sipush (v := 2000) dX11_feed_10 (by decide) ?_
  refine z_icmp_le (tgt := 18) dX11_feed_13 (by decide) (fun q => ?_) (fun q => ?_)
  · have h := (if_pos q).symm.trans h
    refine z_aload_n dX11_feed_18 rfl 0 rfl ?_
    refine gf_11_12 rfl dX11_feed_19 ?_
    refine z_iload_n dX11_feed_22 rfl 1 rfl ?_
    obtain ⟨τ, hc, h⟩ := bnv_e h
    refine z_callV (M' := m_X8_append) (t := 0) (i := 0) (k := 6) (As := [.int (x1)]) (rest := []) kl_11_103 oy_X8_append ⟨Nat.le_of_ble_eq_true rfl, Nat.le_of_ble_eq_true rfl⟩ rfl rfl rfl rfl (Nat.le_of_ble_eq_true rfl) rfl dX11_feed_23 (c_X8_append hc) (fun v2 τ2 hq => ?_)
    obtain ⟨rfl, hτ⟩ := hq
    subst τ2
    change Z _ _ _ _ _ [] _
    refine Z.lv [0, 2, 3, 4, 5] rfl ?_
    exact zb_X11_feed_26 h
  · have h := (if_neg q).symm.trans h
    refine z_iconst (v := (-1)) dX11_feed_16 (by decide) ?_
    cases h
    exact z_ireturn dX11_feed_17 rfl rfl ⟨rfl, rfl⟩
/-- SkyStones.feed(IIIII)I -/
theorem c_X11_feed {S : Shp} {x1 : Int32} {x2 : Int32} {x3 : Int32} {x4 : Int32} {x5 : Int32} {σ : Mm} {r : Int32 × Mm} (h : F_X11_feed x1 x2 x3 x4 x5 σ = some r) : Ct m_X11_feed S [.ref (sL S 0 0 0), .int (x1), .int (x2), .int (x3), .int (x4), .int (x5)] σ (Qi r) := Ct.of (by decide +kernel) (Nat.le_of_ble_eq_true rfl) (zb_X11_feed h)
def f_X11_isSpot (x0 : Int32) (x1 : Int32) : Int32 := (if x0 < 0 then 0 else (if (999 : Int32) < x0 then 0 else (if x1 < 0 then 0 else (if (999 : Int32) < x1 then 0 else 1))))
set_option maxRecDepth 20000 in
theorem zb_X11_isSpot {S : Shp} {x0 : Int32} {x1 : Int32} {σ : Mm} {r : Int32} (h : f_X11_isSpot x0 x1 = r) : Z m_X11_isSpot S (Qi (r, σ)) 0 [(0, .int (x0)), (1, .int (x1))] [] σ := by
  unfold f_X11_isSpot at h
  refine z_iload_n dX11_isSpot_0 rfl 0 rfl ?_
  refine z_if_lt (tgt := 26) dX11_isSpot_1 (by decide) (fun q => ?_) (fun q => ?_)
  · have h := (if_pos q).symm.trans h
    refine z_iconst (v := 0) dX11_isSpot_26 (by decide) ?_
    subst h
    exact z_ireturn dX11_isSpot_27 rfl rfl ⟨rfl, rfl⟩
  · have h := (if_neg q).symm.trans h
    refine z_iload_n dX11_isSpot_4 rfl 0 rfl ?_
    refine z_sipush (v := 999) dX11_isSpot_5 (by decide) ?_
    refine z_icmp_gt (tgt := 26) dX11_isSpot_8 (by decide) (fun q => ?_) (fun q => ?_)
    · have h := (if_pos q).symm.trans h
      refine z_iconst (v := 0) dX11_isSpot_26 (by decide) ?_
      subst h
      exact z_ireturn dX11_isSpot_27 rfl rfl ⟨rfl, rfl⟩
    · have h := (if_neg q).symm.trans h
      refine z_iload_n dX11_isSpot_11 rfl 1 rfl ?_
      refine z_if_lt (tgt := 26) dX11_isSpot_12 (by decide) (fun q => ?_) (fun q => ?_)
      · have h := (if_pos q).symm.trans h
        refine z_iconst (v := 0) dX11_isSpot_26 (by decide) ?_
        subst h
        exact z_ireturn dX11_isSpot_27 rfl rfl ⟨rfl, rfl⟩
      · have h := (if_neg q).symm.trans h
        refine z_iload_n dX11_isSpot_15 rfl 1 rfl ?_
        refine z_sipush (v := 999) dX11_isSpot_16 (by decide) ?_
        refine z_icmp_gt (tgt := 26) dX11_isSpot_19 (by decide) (fun q => ?_) (fun q => ?_)
        · have h := (if_pos q).symm.trans h
          refine z_iconst (v := 0) dX11_isSpot_26 (by decide) ?_
          subst h
          exact z_ireturn dX11_isSpot_27 rfl rfl ⟨rfl, rfl⟩
        · have h := (if_neg q).symm.trans h
          refine z_iconst (v := 1) dX11_isSpot_22 (by decide) ?_
          refine z_goto (tgt := 27) dX11_isSpot_23 (by decide) ?_
          subst h
          exact z_ireturn dX11_isSpot_27 rfl rfl ⟨rfl, rfl⟩
/-- SkyStones.isSpot(II)Z -/
theorem c_X11_isSpot {S : Shp} {x0 : Int32} {x1 : Int32} {σ : Mm} {r : Int32} (h : f_X11_isSpot x0 x1 = r) : Ct m_X11_isSpot S [.int (x0), .int (x1)] σ (Qi (r, σ)) := Ct.of (by decide +kernel) (Nat.le_of_ble_eq_true rfl) (zb_X11_isSpot h)
def F_X11_found_69 (x4 : Int32) (σ : Mm) : Option (Int32 × Mm) := some (x4, σ)
set_option maxRecDepth 20000 in
theorem zb_X11_found_69 {S : Shp} {x4 : Int32} {σ : Mm} {r : Int32 × Mm} (h : F_X11_found_69 x4 σ = some r) : Z m_X11_found S (Qi r) 69 [(4, .int (x4))] [] σ := by
  unfold F_X11_found_69 at h
  refine z_iload dX11_found_69 0 rfl ?_
  cases h
  exact z_ireturn dX11_found_71 rfl rfl ⟨rfl, rfl⟩
def F_X11_found_55 (x4 : Int32) (s0 : Int32) (σ : Mm) : Option (Int32 × Mm) := (F_X11_found_69 x4 (setA σ 2 0 0 (upd (mA σ 2 0 0) 1 ((mA σ 2 0 0 1) + (1 : Int32)))))
set_option maxRecDepth 20000 in
theorem zb_X11_found_55 {S : Shp} {x4 : Int32} {s0 : Int32} {σ : Mm} {r : Int32 × Mm} (h : F_X11_found_55 x4 s0 σ = some r) : Z m_X11_found S (Qi r) 55 [(0, .ref (sL S 0 0 0)), (4, .int (x4))] [.int (s0)] σ := by
  unfold F_X11_found_55 at h
  refine z_pop dX11_found_55 rfl ?_
  refine z_aload_n dX11_found_56 rfl 0 rfl ?_
  refine gf_11_38 rfl dX11_found_57 ?_
  refine z_dup dX11_found_60 rfl ?_
  refine gf_11_143 (rfl) rfl dX11_found_61 ?_
  refine z_iconst (v := 1) dX11_found_64 (by decide) ?_
  refine z_iadd dX11_found_65 ?_
  refine pf_11_143 (rfl) rfl dX11_found_66 ?_
  refine Z.lv [1] rfl ?_
  exact zb_X11_found_69 h
def F_X11_found (x1 : Int32) (x2 : Int32) (x3 : Int32) (σ : Mm) : Option (Int32 × Mm) := (if okP σ = true then (if (60 : Int32) ≤ (mA σ 2 0 0 0) then some ((-1), σ) else (if (14 : Int32) ≤ (f_X11_thingsInAll σ) then some ((-1), σ) else (if (f_X11_isSpot x1 x2) = 0 then some ((-1), σ) else (if (f_X11_isAge x3) = 0 then some ((-1), σ) else (bnd (F_X7_note 0 0 (f_X11_thingsInAll σ) x1 x2 x3 σ) (fun v τ => (F_X11_found_55 (f_X11_thingsInAll σ) v τ))))))) else none)
set_option maxRecDepth 20000 in
theorem zb_X11_found {S : Shp} {x1 : Int32} {x2 : Int32} {x3 : Int32} {σ : Mm} {r : Int32 × Mm} (h : F_X11_found x1 x2 x3 σ = some r) : Z m_X11_found S (Qi r) 0 [(0, .ref (sL S 0 0 0)), (1, .int (x1)), (2, .int (x2)), (3, .int (x3))] [] σ := by
  unfold F_X11_found at h
  obtain ⟨g1, h⟩ := gd h
  refine z_aload_n dX11_found_0 rfl 0 rfl ?_
  have hp := g1
  refine z_callV (M' := m_X11_thingsInAll) (t := 0) (i := 0) (k := 0) (As := []) (rest := []) kl_11_124 oy_X11_thingsInAll ⟨Nat.le_of_ble_eq_true rfl, Nat.le_of_ble_eq_true rfl⟩ rfl rfl rfl rfl (Nat.le_of_ble_eq_true rfl) rfl dX11_found_1 (c_X11_thingsInAll hp rfl) (fun v τ hq => ?_)
  obtain ⟨rfl, hτ⟩ := hq
  subst τ
  change Z _ _ _ _ _ [.int (f_X11_thingsInAll σ)] _
  refine z_istore (lv' := [(0, .ref (sL S 0 0 0)), (1, .int (x1)), (2, .int (x2)), (3, .int (x3)), (4, .int (f_X11_thingsInAll σ))]) dX11_found_4 (by decide) [1, 2, 3, 4, 0] rfl ?_
  refine z_aload_n dX11_found_6 rfl 0 rfl ?_
  refine gf_11_38 rfl dX11_found_7 ?_
  refine gf_11_128 (rfl) rfl dX11_found_10 ?_
  refine z_bipush (v := 60) dX11_found_13 (by decide) ?_
  refine z_icmp_ge (tgt := 40) dX11_found_15 (by decide) (fun q => ?_) (fun q => ?_)
  · have h := (if_pos q).symm.trans h
    refine z_iconst (v := (-1)) dX11_found_40 (by decide) ?_
    cases h
    exact z_ireturn dX11_found_41 rfl rfl ⟨rfl, rfl⟩
  · have h := (if_neg q).symm.trans h
    refine z_iload dX11_found_18 4 rfl ?_
    refine z_bipush (v := 14) dX11_found_20 (by decide) ?_
    refine z_icmp_ge (tgt := 40) dX11_found_22 (by decide) (fun q => ?_) (fun q => ?_)
    · have h := (if_pos q).symm.trans h
      refine z_iconst (v := (-1)) dX11_found_40 (by decide) ?_
      cases h
      exact z_ireturn dX11_found_41 rfl rfl ⟨rfl, rfl⟩
    · have h := (if_neg q).symm.trans h
      refine z_iload_n dX11_found_25 rfl 1 rfl ?_
      refine z_iload_n dX11_found_26 rfl 2 rfl ?_
      refine z_callS (M' := m_X11_isSpot) (As := [.int (x1), .int (x2)]) (rest := []) kl_11_131 oy_X11_isSpot ⟨Nat.le_of_ble_eq_true rfl, Nat.le_of_ble_eq_true rfl⟩ rfl (Nat.le_of_ble_eq_true rfl) rfl dX11_found_27 (c_X11_isSpot rfl) (fun v τ hq => ?_)
      obtain ⟨rfl, hτ⟩ := hq
      subst τ
      change Z _ _ _ _ _ [.int (f_X11_isSpot x1 x2)] _
      refine z_if_eq (tgt := 40) dX11_found_30 (by decide) (fun q => ?_) (fun q => ?_)
      · have h := (if_pos q).symm.trans h
        refine z_iconst (v := (-1)) dX11_found_40 (by decide) ?_
        cases h
        exact z_ireturn dX11_found_41 rfl rfl ⟨rfl, rfl⟩
      · have h := (if_neg q).symm.trans h
        refine z_iload_n dX11_found_33 rfl 3 rfl ?_
        refine z_callS (M' := m_X11_isAge) (As := [.int (x3)]) (rest := []) kl_11_135 oy_X11_isAge ⟨Nat.le_of_ble_eq_true rfl, Nat.le_of_ble_eq_true rfl⟩ rfl (Nat.le_of_ble_eq_true rfl) rfl dX11_found_34 (c_X11_isAge rfl) (fun v τ hq => ?_)
        obtain ⟨rfl, hτ⟩ := hq
        subst τ
        change Z _ _ _ _ _ [.int (f_X11_isAge x3)] _
        refine z_if_ne (tgt := 42) dX11_found_37 (by decide) (fun q => ?_) (fun q => ?_)
        · have h := (if_neg q).symm.trans h
          refine z_aload_n dX11_found_42 rfl 0 rfl ?_
          refine gf_11_38 rfl dX11_found_43 ?_
          refine z_iconst (v := 0) dX11_found_46 (by decide) ?_
          refine z_iload dX11_found_47 4 rfl ?_
          refine z_iload_n dX11_found_49 rfl 1 rfl ?_
          refine z_iload_n dX11_found_50 rfl 2 rfl ?_
          refine z_iload_n dX11_found_51 rfl 3 rfl ?_
          obtain ⟨v, τ, hc, h⟩ := bnd_e h
          refine z_callV (M' := m_X7_note) (t := 2) (i := 0) (k := 0) (As := [.int (0), .int (f_X11_thingsInAll σ), .int (x1), .int (x2), .int (x3)]) (rest := []) kl_11_139 oy_X7_note ⟨Nat.le_of_ble_eq_true rfl, Nat.le_of_ble_eq_true rfl⟩ rfl rfl rfl rfl (Nat.le_of_ble_eq_true rfl) rfl dX11_found_52 (c_X7_note rfl hc) (fun v2 τ2 hq => ?_)
          obtain ⟨rfl, hτ⟩ := hq
          subst τ2
          change Z _ _ _ _ _ [.int (v)] _
          refine Z.lv [0, 4] rfl ?_
          exact zb_X11_found_55 h
        · have h := (if_pos q).symm.trans h
          refine z_iconst (v := (-1)) dX11_found_40 (by decide) ?_
          cases h
          exact z_ireturn dX11_found_41 rfl rfl ⟨rfl, rfl⟩
/-- SkyStones.found(III)I -/
theorem c_X11_found {S : Shp} {x1 : Int32} {x2 : Int32} {x3 : Int32} {σ : Mm} {r : Int32 × Mm} (h : F_X11_found x1 x2 x3 σ = some r) : Ct m_X11_found S [.ref (sL S 0 0 0), .int (x1), .int (x2), .int (x3)] σ (Qi r) := Ct.of (by decide +kernel) (Nat.le_of_ble_eq_true rfl) (zb_X11_found h)
def f_X1_turned (x0 : Int32) (x1 : Int32) : Int32 := (if (360 : Int32) ≤ (x0 + x1) then (x0 + x1) - (360 : Int32) else x0 + x1)
set_option maxRecDepth 20000 in
theorem zb_X1_turned {S : Shp} {x0 : Int32} {x1 : Int32} {σ : Mm} {r : Int32} (h : f_X1_turned x0 x1 = r) : Z m_X1_turned S (Qi (r, σ)) 0 [(0, .int (x0)), (1, .int (x1))] [] σ := by
  unfold f_X1_turned at h
  refine z_iload_n dX1_turned_0 rfl 0 rfl ?_
  refine z_iload_n dX1_turned_1 rfl 1 rfl ?_
  refine z_iadd dX1_turned_2 ?_
  refine z_istore_n (lv' := [(0, .int (x0)), (1, .int (x1)), (2, .int (x0 + x1))]) dX1_turned_3 rfl (by decide) [1, 2, 0] rfl ?_
  refine z_iload_n dX1_turned_4 rfl 2 rfl ?_
  refine z_sipush (v := 360) dX1_turned_5 (by decide) ?_
  refine z_icmp_ge (tgt := 15) dX1_turned_8 (by decide) (fun q => ?_) (fun q => ?_)
  · have h := (if_pos q).symm.trans h
    refine z_iload_n dX1_turned_15 rfl 2 rfl ?_
    refine z_sipush (v := 360) dX1_turned_16 (by decide) ?_
    refine z_isub dX1_turned_19 ?_
    subst h
    exact z_ireturn dX1_turned_20 rfl rfl ⟨rfl, rfl⟩
  · have h := (if_neg q).symm.trans h
    refine z_iload_n dX1_turned_11 rfl 2 rfl ?_
    refine z_goto (tgt := 20) dX1_turned_12 (by decide) ?_
    subst h
    exact z_ireturn dX1_turned_20 rfl rfl ⟨rfl, rfl⟩
/-- SkyStones$Compass.turned(II)I -/
theorem c_X1_turned {S : Shp} {x0 : Int32} {x1 : Int32} {σ : Mm} {r : Int32} (h : f_X1_turned x0 x1 = r) : Ct m_X1_turned S [.int (x0), .int (x1)] σ (Qi (r, σ)) := Ct.of (by decide +kernel) (Nat.le_of_ble_eq_true rfl) (zb_X1_turned h)
def F_X11_hitsTurned_44 (rc6 : Int32 → Int32 → Int32 → Int32 → Int32 → Mm → Option (Int32 × Mm)) (x1 : Int32) (x2 : Int32) (x3 : Int32) (x4 : Int32) (x5 : Int32) (σ : Mm) : Option (Int32 × Mm) := (rc6 x1 x2 x3 x4 (x5 + 1) σ)
set_option maxRecDepth 20000 in
theorem zb_X11_hitsTurned_44 {S : Shp} {rc6 : Int32 → Int32 → Int32 → Int32 → Int32 → Mm → Option (Int32 × Mm)} (hrc6 : ∀ {x1 : Int32} {x2 : Int32} {x3 : Int32} {x4 : Int32} {x5 : Int32} {σ : Mm} {r : Int32 × Mm}, rc6 x1 x2 x3 x4 x5 σ = some r → Z m_X11_hitsTurned S (Qi r) 6 [(0, .ref (sL S 0 0 0)), (1, .int (x1)), (2, .int (x2)), (3, .int (x3)), (4, .int (x4)), (5, .int (x5))] [] σ) {x1 : Int32} {x2 : Int32} {x3 : Int32} {x4 : Int32} {x5 : Int32} {σ : Mm} {r : Int32 × Mm} (h : F_X11_hitsTurned_44 rc6 x1 x2 x3 x4 x5 σ = some r) : Z m_X11_hitsTurned S (Qi r) 44 [(0, .ref (sL S 0 0 0)), (1, .int (x1)), (2, .int (x2)), (3, .int (x3)), (4, .int (x4)), (5, .int (x5))] [] σ := by
  unfold F_X11_hitsTurned_44 at h
  refine z_iinc (j := 5) (v := x5 + 1) (lv' := [(0, .ref (sL S 0 0 0)), (1, .int (x1)), (2, .int (x2)), (3, .int (x3)), (4, .int (x4)), (5, .int (x5 + 1))]) dX11_hitsTurned_44 rfl rfl (by decide) [1, 2, 3, 4, 5, 0] rfl ?_
  refine z_goto (tgt := 6) dX11_hitsTurned_47 (by decide) ?_
  exact hrc6 h
def F_X11_hitsTurned_38 (rc6 : Int32 → Int32 → Int32 → Int32 → Int32 → Mm → Option (Int32 × Mm)) (x1 : Int32) (x2 : Int32) (x3 : Int32) (x4 : Int32) (x5 : Int32) (s0 : Int32) (σ : Mm) : Option (Int32 × Mm) := (if s0 = 0 then (F_X11_hitsTurned_44 rc6 x1 x2 x3 x4 x5 σ) else (F_X11_hitsTurned_44 rc6 x1 x2 x3 (x4 + 1) x5 σ))
set_option maxRecDepth 20000 in
theorem zb_X11_hitsTurned_38 {S : Shp} {rc6 : Int32 → Int32 → Int32 → Int32 → Int32 → Mm → Option (Int32 × Mm)} (hrc6 : ∀ {x1 : Int32} {x2 : Int32} {x3 : Int32} {x4 : Int32} {x5 : Int32} {σ : Mm} {r : Int32 × Mm}, rc6 x1 x2 x3 x4 x5 σ = some r → Z m_X11_hitsTurned S (Qi r) 6 [(0, .ref (sL S 0 0 0)), (1, .int (x1)), (2, .int (x2)), (3, .int (x3)), (4, .int (x4)), (5, .int (x5))] [] σ) {x1 : Int32} {x2 : Int32} {x3 : Int32} {x4 : Int32} {x5 : Int32} {s0 : Int32} {σ : Mm} {r : Int32 × Mm} (h : F_X11_hitsTurned_38 rc6 x1 x2 x3 x4 x5 s0 σ = some r) : Z m_X11_hitsTurned S (Qi r) 38 [(0, .ref (sL S 0 0 0)), (1, .int (x1)), (2, .int (x2)), (3, .int (x3)), (4, .int (x4)), (5, .int (x5))] [.int (s0)] σ := by
  unfold F_X11_hitsTurned_38 at h
  refine z_if_eq (tgt := 44) dX11_hitsTurned_38 (by decide) (fun q => ?_) (fun q => ?_)
  · have h := (if_pos q).symm.trans h
    exact zb_X11_hitsTurned_44 hrc6 h
  · have h := (if_neg q).symm.trans h
    refine z_iinc (j := 4) (v := x4 + 1) (lv' := [(0, .ref (sL S 0 0 0)), (1, .int (x1)), (2, .int (x2)), (3, .int (x3)), (4, .int (x4 + 1)), (5, .int (x5))]) dX11_hitsTurned_41 rfl rfl (by decide) [1, 2, 3, 4, 0, 5] rfl ?_
    exact zb_X11_hitsTurned_44 hrc6 h
def B_X11_hitsTurned_6 (rc6 : Int32 → Int32 → Int32 → Int32 → Int32 → Mm → Option (Int32 × Mm)) (x1 : Int32) (x2 : Int32) (x3 : Int32) (x4 : Int32) (x5 : Int32) (σ : Mm) : Option (Int32 × Mm) := (if (mA σ 0 0 15 8) ≤ x5 then some (x4, σ) else (if inb x5 182 = true then (bnd (F_X11_strikes (f_X1_turned (mA σ 0 0 24 x5.toNatClampNeg) x2) x1 x3 σ) (fun v τ => (F_X11_hitsTurned_38 rc6 x1 x2 x3 x4 x5 v τ))) else none))
set_option maxRecDepth 20000 in
theorem zB_X11_hitsTurned_6 {S : Shp} {rc6 : Int32 → Int32 → Int32 → Int32 → Int32 → Mm → Option (Int32 × Mm)} (hrc6 : ∀ {x1 : Int32} {x2 : Int32} {x3 : Int32} {x4 : Int32} {x5 : Int32} {σ : Mm} {r : Int32 × Mm}, rc6 x1 x2 x3 x4 x5 σ = some r → Z m_X11_hitsTurned S (Qi r) 6 [(0, .ref (sL S 0 0 0)), (1, .int (x1)), (2, .int (x2)), (3, .int (x3)), (4, .int (x4)), (5, .int (x5))] [] σ) {x1 : Int32} {x2 : Int32} {x3 : Int32} {x4 : Int32} {x5 : Int32} {σ : Mm} {r : Int32 × Mm} (h : B_X11_hitsTurned_6 rc6 x1 x2 x3 x4 x5 σ = some r) : Z m_X11_hitsTurned S (Qi r) 6 [(0, .ref (sL S 0 0 0)), (1, .int (x1)), (2, .int (x2)), (3, .int (x3)), (4, .int (x4)), (5, .int (x5))] [] σ := by
  unfold B_X11_hitsTurned_6 at h
  refine z_iload dX11_hitsTurned_6 5 rfl ?_
  refine z_aload_n dX11_hitsTurned_8 rfl 0 rfl ?_
  refine gf_11_53 rfl dX11_hitsTurned_9 ?_
  refine gf_11_210 rfl dX11_hitsTurned_12 ?_
  refine z_icmp_ge (tgt := 50) dX11_hitsTurned_15 (by decide) (fun q => ?_) (fun q => ?_)
  · have h := (if_pos q).symm.trans h
    refine z_iload dX11_hitsTurned_50 4 rfl ?_
    cases h
    exact z_ireturn dX11_hitsTurned_52 rfl rfl ⟨rfl, rfl⟩
  · have h := (if_neg q).symm.trans h
    obtain ⟨g1, h⟩ := gd h
    refine z_aload_n dX11_hitsTurned_18 rfl 0 rfl ?_
    refine z_aload_n dX11_hitsTurned_19 rfl 0 rfl ?_
    refine gf_11_53 rfl dX11_hitsTurned_20 ?_
    refine gf_11_250 rfl dX11_hitsTurned_23 ?_
    refine z_iload dX11_hitsTurned_26 5 rfl ?_
    refine ia_0_24 (inb_in g1) dX11_hitsTurned_28 ?_
    refine z_iload_n dX11_hitsTurned_29 rfl 2 rfl ?_
    refine z_callS (M' := m_X1_turned) (As := [.int (mA σ 0 0 24 x5.toNatClampNeg), .int (x2)]) (rest := [.ref (sL S 0 0 0)]) kl_11_367 oy_X1_turned ⟨Nat.le_of_ble_eq_true rfl, Nat.le_of_ble_eq_true rfl⟩ rfl (Nat.le_of_ble_eq_true rfl) rfl dX11_hitsTurned_30 (c_X1_turned rfl) (fun v τ hq => ?_)
    obtain ⟨rfl, hτ⟩ := hq
    subst τ
    change Z _ _ _ _ _ [.int (f_X1_turned (mA σ 0 0 24 x5.toNatClampNeg) x2), .ref (sL S 0 0 0)] _
    refine z_iload_n dX11_hitsTurned_33 rfl 1 rfl ?_
    refine z_iload_n dX11_hitsTurned_34 rfl 3 rfl ?_
    obtain ⟨v, τ, hc, h⟩ := bnd_e h
    refine z_callV (M' := m_X11_strikes) (t := 0) (i := 0) (k := 0) (As := [.int (f_X1_turned (mA σ 0 0 24 x5.toNatClampNeg) x2), .int (x1), .int (x3)]) (rest := []) kl_11_253 oy_X11_strikes ⟨Nat.le_of_ble_eq_true rfl, Nat.le_of_ble_eq_true rfl⟩ rfl rfl rfl rfl (Nat.le_of_ble_eq_true rfl) rfl dX11_hitsTurned_35 (c_X11_strikes hc) (fun v2 τ2 hq => ?_)
    obtain ⟨rfl, hτ⟩ := hq
    subst τ2
    change Z _ _ _ _ _ [.int (v)] _
    exact zb_X11_hitsTurned_38 hrc6 h
def F_X11_hitsTurned_6 : Nat → Int32 → Int32 → Int32 → Int32 → Int32 → Mm → Option (Int32 × Mm)
  | 0 => fun _ _ _ _ _ _ => none
  | n + 1 => B_X11_hitsTurned_6 (F_X11_hitsTurned_6 n)
theorem zl_X11_hitsTurned_6 {S : Shp} : ∀ (nn : Nat) {x1 : Int32} {x2 : Int32} {x3 : Int32} {x4 : Int32} {x5 : Int32} {σ : Mm} {r : Int32 × Mm}, F_X11_hitsTurned_6 nn x1 x2 x3 x4 x5 σ = some r → Z m_X11_hitsTurned S (Qi r) 6 [(0, .ref (sL S 0 0 0)), (1, .int (x1)), (2, .int (x2)), (3, .int (x3)), (4, .int (x4)), (5, .int (x5))] [] σ := by
  intro nn
  induction nn with
  | zero => intro x1 x2 x3 x4 x5 σ r h; cases h
  | succ nn ih => intro x1 x2 x3 x4 x5 σ r h; exact zB_X11_hitsTurned_6 @ih h
def F_X11_hitsTurned (x1 : Int32) (x2 : Int32) (x3 : Int32) (σ : Mm) : Option (Int32 × Mm) := (F_X11_hitsTurned_6 FU x1 x2 x3 0 0 σ)
set_option maxRecDepth 20000 in
theorem zb_X11_hitsTurned {S : Shp} {x1 : Int32} {x2 : Int32} {x3 : Int32} {σ : Mm} {r : Int32 × Mm} (h : F_X11_hitsTurned x1 x2 x3 σ = some r) : Z m_X11_hitsTurned S (Qi r) 0 [(0, .ref (sL S 0 0 0)), (1, .int (x1)), (2, .int (x2)), (3, .int (x3))] [] σ := by
  unfold F_X11_hitsTurned at h
  refine z_iconst (v := 0) dX11_hitsTurned_0 (by decide) ?_
  refine z_istore (lv' := [(0, .ref (sL S 0 0 0)), (1, .int (x1)), (2, .int (x2)), (3, .int (x3)), (4, .int (0))]) dX11_hitsTurned_1 (by decide) [1, 2, 3, 4, 0] rfl ?_
  refine z_iconst (v := 0) dX11_hitsTurned_3 (by decide) ?_
  refine z_istore (lv' := [(0, .ref (sL S 0 0 0)), (1, .int (x1)), (2, .int (x2)), (3, .int (x3)), (4, .int (0)), (5, .int (0))]) dX11_hitsTurned_4 (by decide) [1, 2, 3, 4, 5, 0] rfl ?_
  exact zl_X11_hitsTurned_6 FU h
/-- SkyStones.hitsTurned(IIZ)I -/
theorem c_X11_hitsTurned {S : Shp} {x1 : Int32} {x2 : Int32} {x3 : Int32} {σ : Mm} {r : Int32 × Mm} (h : F_X11_hitsTurned x1 x2 x3 σ = some r) : Ct m_X11_hitsTurned S [.ref (sL S 0 0 0), .int (x1), .int (x2), .int (x3)] σ (Qi r) := Ct.of (by decide +kernel) (Nat.le_of_ble_eq_true rfl) (zb_X11_hitsTurned h)
def F_X11_hitsNow_7 (s0 : Int32) (σ : Mm) : Option (Int32 × Mm) := some (s0, σ)
set_option maxRecDepth 20000 in
theorem zb_X11_hitsNow_7 {S : Shp} {s0 : Int32} {σ : Mm} {r : Int32 × Mm} (h : F_X11_hitsNow_7 s0 σ = some r) : Z m_X11_hitsNow S (Qi r) 7 [] [.int (s0)] σ := by
  unfold F_X11_hitsNow_7 at h
  cases h
  exact z_ireturn dX11_hitsNow_7 rfl rfl ⟨rfl, rfl⟩
def F_X11_hitsNow (x1 : Int32) (σ : Mm) : Option (Int32 × Mm) := (bnd (F_X11_hitsTurned x1 0 0 σ) (fun v τ => (F_X11_hitsNow_7 v τ)))
set_option maxRecDepth 20000 in
theorem zb_X11_hitsNow {S : Shp} {x1 : Int32} {σ : Mm} {r : Int32 × Mm} (h : F_X11_hitsNow x1 σ = some r) : Z m_X11_hitsNow S (Qi r) 0 [(0, .ref (sL S 0 0 0)), (1, .int (x1))] [] σ := by
  unfold F_X11_hitsNow at h
  refine z_aload_n dX11_hitsNow_0 rfl 0 rfl ?_
  refine z_iload_n dX11_hitsNow_1 rfl 1 rfl ?_
  refine z_iconst (v := 0) dX11_hitsNow_2 (by decide) ?_
  refine z_iconst (v := 0) dX11_hitsNow_3 (by decide) ?_
  obtain ⟨v, τ, hc, h⟩ := bnd_e h
  refine z_callV (M' := m_X11_hitsTurned) (t := 0) (i := 0) (k := 0) (As := [.int (x1), .int (0), .int (0)]) (rest := []) kl_11_247 oy_X11_hitsTurned ⟨Nat.le_of_ble_eq_true rfl, Nat.le_of_ble_eq_true rfl⟩ rfl rfl rfl rfl (Nat.le_of_ble_eq_true rfl) rfl dX11_hitsNow_4 (c_X11_hitsTurned hc) (fun v2 τ2 hq => ?_)
  obtain ⟨rfl, hτ⟩ := hq
  subst τ2
  change Z _ _ _ _ _ [.int (v)] _
  refine Z.lv [] rfl ?_
  exact zb_X11_hitsNow_7 h
/-- SkyStones.hitsNow(I)I -/
theorem c_X11_hitsNow {S : Shp} {x1 : Int32} {σ : Mm} {r : Int32 × Mm} (h : F_X11_hitsNow x1 σ = some r) : Ct m_X11_hitsNow S [.ref (sL S 0 0 0), .int (x1)] σ (Qi r) := Ct.of (by decide +kernel) (Nat.le_of_ble_eq_true rfl) (zb_X11_hitsNow h)
def F_X11_hitsIn_17 (s0 : Int32) (σ : Mm) : Option (Int32 × Mm) := some (s0, σ)
set_option maxRecDepth 20000 in
theorem zb_X11_hitsIn_17 {S : Shp} {s0 : Int32} {σ : Mm} {r : Int32 × Mm} (h : F_X11_hitsIn_17 s0 σ = some r) : Z m_X11_hitsIn S (Qi r) 17 [] [.int (s0)] σ := by
  unfold F_X11_hitsIn_17 at h
  cases h
  exact z_ireturn dX11_hitsIn_17 rfl rfl ⟨rfl, rfl⟩
def F_X11_hitsIn_12 (x1 : Int32) (σ : Mm) : Option (Int32 × Mm) := (bnd (F_X11_hitsNow x1 σ) (fun v τ => (F_X11_hitsIn_17 v τ)))
set_option maxRecDepth 20000 in
theorem zb_X11_hitsIn_12 {S : Shp} {x1 : Int32} {σ : Mm} {r : Int32 × Mm} (h : F_X11_hitsIn_12 x1 σ = some r) : Z m_X11_hitsIn S (Qi r) 12 [(0, .ref (sL S 0 0 0)), (1, .int (x1))] [] σ := by
  unfold F_X11_hitsIn_12 at h
  refine z_aload_n dX11_hitsIn_12 rfl 0 rfl ?_
  refine z_iload_n dX11_hitsIn_13 rfl 1 rfl ?_
  obtain ⟨v, τ, hc, h⟩ := bnd_e h
  refine z_callV (M' := m_X11_hitsNow) (t := 0) (i := 0) (k := 0) (As := [.int (x1)]) (rest := []) kl_11_288 oy_X11_hitsNow ⟨Nat.le_of_ble_eq_true rfl, Nat.le_of_ble_eq_true rfl⟩ rfl rfl rfl rfl (Nat.le_of_ble_eq_true rfl) rfl dX11_hitsIn_14 (c_X11_hitsNow hc) (fun v2 τ2 hq => ?_)
  obtain ⟨rfl, hτ⟩ := hq
  subst τ2
  change Z _ _ _ _ _ [.int (v)] _
  refine Z.lv [] rfl ?_
  exact zb_X11_hitsIn_17 h
def F_X11_hitsIn (x1 : Int32) (x2 : Int32) (σ : Mm) : Option (Int32 × Mm) := (if okP σ = true then (bnv (F_X6_watch (mP σ 0) x2 σ) (fun τ => (F_X11_hitsIn_12 x1 τ))) else none)
set_option maxRecDepth 20000 in
theorem zb_X11_hitsIn {S : Shp} {x1 : Int32} {x2 : Int32} {σ : Mm} {r : Int32 × Mm} (h : F_X11_hitsIn x1 x2 σ = some r) : Z m_X11_hitsIn S (Qi r) 0 [(0, .ref (sL S 0 0 0)), (1, .int (x1)), (2, .int (x2))] [] σ := by
  unfold F_X11_hitsIn at h
  obtain ⟨g1, h⟩ := gd h
  refine z_aload_n dX11_hitsIn_0 rfl 0 rfl ?_
  refine gf_11_60 rfl dX11_hitsIn_1 ?_
  refine z_aload_n dX11_hitsIn_4 rfl 0 rfl ?_
  have hp := g1
  refine gf_11_19 rfl dX11_hitsIn_5 ?_
  refine z_iload_n dX11_hitsIn_8 rfl 2 rfl ?_
  obtain ⟨τ, hc, h⟩ := bnv_e h
  refine z_callV (M' := m_X6_watch) (t := 0) (i := 0) (k := 25) (As := [.ref (sL S 1 (mP σ 0) 0), .int (x2)]) (rest := []) kl_11_226 oy_X6_watch ⟨Nat.le_of_ble_eq_true rfl, Nat.le_of_ble_eq_true rfl⟩ rfl rfl rfl rfl (Nat.le_of_ble_eq_true rfl) rfl dX11_hitsIn_9 (c_X6_watch (okP_0 hp) hc) (fun v2 τ2 hq => ?_)
  obtain ⟨rfl, hτ⟩ := hq
  subst τ2
  change Z _ _ _ _ _ [] _
  refine Z.lv [0, 1] rfl ?_
  exact zb_X11_hitsIn_12 h
/-- SkyStones.hitsIn(II)I -/
theorem c_X11_hitsIn {S : Shp} {x1 : Int32} {x2 : Int32} {σ : Mm} {r : Int32 × Mm} (h : F_X11_hitsIn x1 x2 σ = some r) : Ct m_X11_hitsIn S [.ref (sL S 0 0 0), .int (x1), .int (x2)] σ (Qi r) := Ct.of (by decide +kernel) (Nat.le_of_ble_eq_true rfl) (zb_X11_hitsIn h)
def f_X11_isYears (x0 : Int32) (x1 : Int32) (x2 : Int32) : Int32 := (if (f_X11_isYear x0) = 0 then 0 else (if x1 < (1 : Int32) then 0 else (if (100 : Int32) < x1 then 0 else (if x2 < (1 : Int32) then 0 else (if (200 : Int32) < x2 then 0 else (if (f_X11_isYear (x0 + (x1 * (x2 - (1 : Int32))))) = 0 then 0 else 1))))))
set_option maxRecDepth 20000 in
theorem zb_X11_isYears {S : Shp} {x0 : Int32} {x1 : Int32} {x2 : Int32} {σ : Mm} {r : Int32} (h : f_X11_isYears x0 x1 x2 = r) : Z m_X11_isYears S (Qi (r, σ)) 0 [(0, .int (x0)), (1, .int (x1)), (2, .int (x2))] [] σ := by
  unfold f_X11_isYears at h
  refine z_iload_n dX11_isYears_0 rfl 0 rfl ?_
  refine z_callS (M' := m_X11_isYear) (As := [.int (x0)]) (rest := []) kl_11_219 oy_X11_isYear ⟨Nat.le_of_ble_eq_true rfl, Nat.le_of_ble_eq_true rfl⟩ rfl (Nat.le_of_ble_eq_true rfl) rfl dX11_isYears_1 (c_X11_isYear rfl) (fun v τ hq => ?_)
  obtain ⟨rfl, hτ⟩ := hq
  subst τ
  change Z _ _ _ _ _ [.int (f_X11_isYear x0)] _
  refine z_if_eq (tgt := 47) dX11_isYears_4 (by decide) (fun q => ?_) (fun q => ?_)
  · have h := (if_pos q).symm.trans h
    refine z_iconst (v := 0) dX11_isYears_47 (by decide) ?_
    subst h
    exact z_ireturn dX11_isYears_48 rfl rfl ⟨rfl, rfl⟩
  · have h := (if_neg q).symm.trans h
    refine z_iload_n dX11_isYears_7 rfl 1 rfl ?_
    refine z_iconst (v := 1) dX11_isYears_8 (by decide) ?_
    refine z_icmp_lt (tgt := 47) dX11_isYears_9 (by decide) (fun q => ?_) (fun q => ?_)
    · have h := (if_pos q).symm.trans h
      refine z_iconst (v := 0) dX11_isYears_47 (by decide) ?_
      subst h
      exact z_ireturn dX11_isYears_48 rfl rfl ⟨rfl, rfl⟩
    · have h := (if_neg q).symm.trans h
      refine z_iload_n dX11_isYears_12 rfl 1 rfl ?_
      refine z_bipush (v := 100) dX11_isYears_13 (by decide) ?_
      refine z_icmp_gt (tgt := 47) dX11_isYears_15 (by decide) (fun q => ?_) (fun q => ?_)
      · have h := (if_pos q).symm.trans h
        refine z_iconst (v := 0) dX11_isYears_47 (by decide) ?_
        subst h
        exact z_ireturn dX11_isYears_48 rfl rfl ⟨rfl, rfl⟩
      · have h := (if_neg q).symm.trans h
        refine z_iload_n dX11_isYears_18 rfl 2 rfl ?_
        refine z_iconst (v := 1) dX11_isYears_19 (by decide) ?_
        refine z_icmp_lt (tgt := 47) dX11_isYears_20 (by decide) (fun q => ?_) (fun q => ?_)
        · have h := (if_pos q).symm.trans h
          refine z_iconst (v := 0) dX11_isYears_47 (by decide) ?_
          subst h
          exact z_ireturn dX11_isYears_48 rfl rfl ⟨rfl, rfl⟩
        · have h := (if_neg q).symm.trans h
          refine z_iload_n dX11_isYears_23 rfl 2 rfl ?_
          refine z_sipush (v := 200) dX11_isYears_24 (by decide) ?_
          refine z_icmp_gt (tgt := 47) dX11_isYears_27 (by decide) (fun q => ?_) (fun q => ?_)
          · have h := (if_pos q).symm.trans h
            refine z_iconst (v := 0) dX11_isYears_47 (by decide) ?_
            subst h
            exact z_ireturn dX11_isYears_48 rfl rfl ⟨rfl, rfl⟩
          · have h := (if_neg q).symm.trans h
            refine z_iload_n dX11_isYears_30 rfl 0 rfl ?_
            refine z_iload_n dX11_isYears_31 rfl 1 rfl ?_
            refine z_iload_n dX11_isYears_32 rfl 2 rfl ?_
            refine z_iconst (v := 1) dX11_isYears_33 (by decide) ?_
            refine z_isub dX11_isYears_34 ?_
            refine z_imul dX11_isYears_35 ?_
            refine z_iadd dX11_isYears_36 ?_
            refine z_callS (M' := m_X11_isYear) (As := [.int (x0 + (x1 * (x2 - (1 : Int32))))]) (rest := []) kl_11_219 oy_X11_isYear ⟨Nat.le_of_ble_eq_true rfl, Nat.le_of_ble_eq_true rfl⟩ rfl (Nat.le_of_ble_eq_true rfl) rfl dX11_isYears_37 (c_X11_isYear rfl) (fun v τ hq => ?_)
            obtain ⟨rfl, hτ⟩ := hq
            subst τ
            change Z _ _ _ _ _ [.int (f_X11_isYear (x0 + (x1 * (x2 - (1 : Int32)))))] _
            refine z_if_eq (tgt := 47) dX11_isYears_40 (by decide) (fun q => ?_) (fun q => ?_)
            · have h := (if_pos q).symm.trans h
              refine z_iconst (v := 0) dX11_isYears_47 (by decide) ?_
              subst h
              exact z_ireturn dX11_isYears_48 rfl rfl ⟨rfl, rfl⟩
            · have h := (if_neg q).symm.trans h
              refine z_iconst (v := 1) dX11_isYears_43 (by decide) ?_
              refine z_goto (tgt := 48) dX11_isYears_44 (by decide) ?_
              subst h
              exact z_ireturn dX11_isYears_48 rfl rfl ⟨rfl, rfl⟩
/-- SkyStones.isYears(III)Z -/
theorem c_X11_isYears {S : Shp} {x0 : Int32} {x1 : Int32} {x2 : Int32} {σ : Mm} {r : Int32} (h : f_X11_isYears x0 x1 x2 = r) : Ct m_X11_isYears S [.int (x0), .int (x1), .int (x2)] σ (Qi (r, σ)) := Ct.of (by decide +kernel) (Nat.le_of_ble_eq_true rfl) (zb_X11_isYears h)
def F_X11_free_80 (rc39 : Int32 → Int32 → Int32 → Int32 → Int32 → Int32 → Int32 → Mm → Option (Int32 × Mm)) (x1 : Int32) (x3 : Int32) (x4 : Int32) (x5 : Int32) (x6 : Int32) (x7 : Int32) (x8 : Int32) (σ : Mm) : Option (Int32 × Mm) := (rc39 x1 x3 x4 x5 x6 x7 (x8 + 1) σ)
set_option maxRecDepth 20000 in
theorem zb_X11_free_80 {S : Shp} {rc39 : Int32 → Int32 → Int32 → Int32 → Int32 → Int32 → Int32 → Mm → Option (Int32 × Mm)} (hrc39 : ∀ {x1 : Int32} {x3 : Int32} {x4 : Int32} {x5 : Int32} {x6 : Int32} {x7 : Int32} {x8 : Int32} {σ : Mm} {r : Int32 × Mm}, rc39 x1 x3 x4 x5 x6 x7 x8 σ = some r → Z m_X11_free S (Qi r) 39 [(0, .ref (sL S 0 0 0)), (1, .int (x1)), (3, .int (x3)), (4, .int (x4)), (5, .int (x5)), (6, .int (x6)), (7, .int (x7)), (8, .int (x8))] [] σ) {x1 : Int32} {x3 : Int32} {x4 : Int32} {x5 : Int32} {x6 : Int32} {x7 : Int32} {x8 : Int32} {σ : Mm} {r : Int32 × Mm} (h : F_X11_free_80 rc39 x1 x3 x4 x5 x6 x7 x8 σ = some r) : Z m_X11_free S (Qi r) 80 [(0, .ref (sL S 0 0 0)), (1, .int (x1)), (3, .int (x3)), (4, .int (x4)), (5, .int (x5)), (6, .int (x6)), (7, .int (x7)), (8, .int (x8))] [] σ := by
  unfold F_X11_free_80 at h
  refine z_iinc (j := 7) (v := x8 + 1) (lv' := [(0, .ref (sL S 0 0 0)), (1, .int (x1)), (3, .int (x3)), (4, .int (x4)), (5, .int (x5)), (6, .int (x6)), (7, .int (x7)), (8, .int (x8 + 1))]) dX11_free_80 rfl rfl (by decide) [1, 2, 3, 4, 5, 6, 7, 0] rfl ?_
  refine z_goto (tgt := 39) dX11_free_83 (by decide) ?_
  exact hrc39 h
def F_X11_free_58 (rc39 : Int32 → Int32 → Int32 → Int32 → Int32 → Int32 → Int32 → Mm → Option (Int32 × Mm)) (x1 : Int32) (x3 : Int32) (x4 : Int32) (x5 : Int32) (x6 : Int32) (x7 : Int32) (x8 : Int32) (s0 : Int32) (σ : Mm) : Option (Int32 × Mm) := (if s0 ≤ x6 then (F_X11_free_80 rc39 x1 x3 x4 x5 x6 x7 x8 σ) else (F_X11_free_80 rc39 x1 x3 x4 x5 s0 (x3 + (x8 * x4)) x8 σ))
set_option maxRecDepth 20000 in
theorem zb_X11_free_58 {S : Shp} {rc39 : Int32 → Int32 → Int32 → Int32 → Int32 → Int32 → Int32 → Mm → Option (Int32 × Mm)} (hrc39 : ∀ {x1 : Int32} {x3 : Int32} {x4 : Int32} {x5 : Int32} {x6 : Int32} {x7 : Int32} {x8 : Int32} {σ : Mm} {r : Int32 × Mm}, rc39 x1 x3 x4 x5 x6 x7 x8 σ = some r → Z m_X11_free S (Qi r) 39 [(0, .ref (sL S 0 0 0)), (1, .int (x1)), (3, .int (x3)), (4, .int (x4)), (5, .int (x5)), (6, .int (x6)), (7, .int (x7)), (8, .int (x8))] [] σ) {x1 : Int32} {x3 : Int32} {x4 : Int32} {x5 : Int32} {x6 : Int32} {x7 : Int32} {x8 : Int32} {s0 : Int32} {σ : Mm} {r : Int32 × Mm} (h : F_X11_free_58 rc39 x1 x3 x4 x5 x6 x7 x8 s0 σ = some r) : Z m_X11_free S (Qi r) 58 [(0, .ref (sL S 0 0 0)), (1, .int (x1)), (3, .int (x3)), (4, .int (x4)), (5, .int (x5)), (6, .int (x6)), (7, .int (x7)), (8, .int (x8))] [.int (s0)] σ := by
  unfold F_X11_free_58 at h
  refine z_istore (lv' := [(0, .ref (sL S 0 0 0)), (1, .int (x1)), (3, .int (x3)), (4, .int (x4)), (5, .int (x5)), (6, .int (x6)), (7, .int (x7)), (8, .int (x8)), (9, .int (s0))]) dX11_free_58 (by decide) [1, 2, 3, 4, 5, 6, 7, 8, 0] rfl ?_
  refine z_iload dX11_free_60 8 rfl ?_
  refine z_iload dX11_free_62 5 rfl ?_
  refine z_icmp_le (tgt := 80) dX11_free_64 (by decide) (fun q => ?_) (fun q => ?_)
  · have h := (if_pos q).symm.trans h
    refine Z.lv [0, 1, 2, 3, 4, 5, 6, 7] rfl ?_
    exact zb_X11_free_80 hrc39 h
  · have h := (if_neg q).symm.trans h
    refine z_iload dX11_free_67 8 rfl ?_
    refine z_istore (lv' := [(0, .ref (sL S 0 0 0)), (1, .int (x1)), (3, .int (x3)), (4, .int (x4)), (5, .int (x5)), (6, .int (s0)), (7, .int (x7)), (8, .int (x8)), (9, .int (s0))]) dX11_free_69 (by decide) [1, 2, 3, 4, 5, 0, 6, 7, 8] rfl ?_
    refine z_iload_n dX11_free_71 rfl 2 rfl ?_
    refine z_iload dX11_free_72 7 rfl ?_
    refine z_iload dX11_free_74 3 rfl ?_
    refine z_imul dX11_free_76 ?_
    refine z_iadd dX11_free_77 ?_
    refine z_istore (lv' := [(0, .ref (sL S 0 0 0)), (1, .int (x1)), (3, .int (x3)), (4, .int (x4)), (5, .int (x5)), (6, .int (s0)), (7, .int (x3 + (x8 * x4))), (8, .int (x8)), (9, .int (s0))]) dX11_free_78 (by decide) [1, 2, 3, 4, 5, 6, 0, 7, 8] rfl ?_
    refine Z.lv [0, 1, 2, 3, 4, 5, 6, 7] rfl ?_
    exact zb_X11_free_80 hrc39 h
def B_X11_free_39 (rc39 : Int32 → Int32 → Int32 → Int32 → Int32 → Int32 → Int32 → Mm → Option (Int32 × Mm)) (x1 : Int32) (x3 : Int32) (x4 : Int32) (x5 : Int32) (x6 : Int32) (x7 : Int32) (x8 : Int32) (σ : Mm) : Option (Int32 × Mm) := (if x5 ≤ x8 then some (x7, σ) else (bnd (F_X11_hitsIn x1 (x3 + (x8 * x4)) σ) (fun v τ => (F_X11_free_58 rc39 x1 x3 x4 x5 x6 x7 x8 v τ))))
set_option maxRecDepth 20000 in
theorem zB_X11_free_39 {S : Shp} {rc39 : Int32 → Int32 → Int32 → Int32 → Int32 → Int32 → Int32 → Mm → Option (Int32 × Mm)} (hrc39 : ∀ {x1 : Int32} {x3 : Int32} {x4 : Int32} {x5 : Int32} {x6 : Int32} {x7 : Int32} {x8 : Int32} {σ : Mm} {r : Int32 × Mm}, rc39 x1 x3 x4 x5 x6 x7 x8 σ = some r → Z m_X11_free S (Qi r) 39 [(0, .ref (sL S 0 0 0)), (1, .int (x1)), (3, .int (x3)), (4, .int (x4)), (5, .int (x5)), (6, .int (x6)), (7, .int (x7)), (8, .int (x8))] [] σ) {x1 : Int32} {x3 : Int32} {x4 : Int32} {x5 : Int32} {x6 : Int32} {x7 : Int32} {x8 : Int32} {σ : Mm} {r : Int32 × Mm} (h : B_X11_free_39 rc39 x1 x3 x4 x5 x6 x7 x8 σ = some r) : Z m_X11_free S (Qi r) 39 [(0, .ref (sL S 0 0 0)), (1, .int (x1)), (3, .int (x3)), (4, .int (x4)), (5, .int (x5)), (6, .int (x6)), (7, .int (x7)), (8, .int (x8))] [] σ := by
  unfold B_X11_free_39 at h
  refine z_iload dX11_free_39 7 rfl ?_
  refine z_iload dX11_free_41 4 rfl ?_
  refine z_icmp_ge (tgt := 86) dX11_free_43 (by decide) (fun q => ?_) (fun q => ?_)
  · have h := (if_pos q).symm.trans h
    refine z_iload dX11_free_86 6 rfl ?_
    cases h
    exact z_ireturn dX11_free_88 rfl rfl ⟨rfl, rfl⟩
  · have h := (if_neg q).symm.trans h
    refine z_aload_n dX11_free_46 rfl 0 rfl ?_
    refine z_iload_n dX11_free_47 rfl 1 rfl ?_
    refine z_iload_n dX11_free_48 rfl 2 rfl ?_
    refine z_iload dX11_free_49 7 rfl ?_
    refine z_iload dX11_free_51 3 rfl ?_
    refine z_imul dX11_free_53 ?_
    refine z_iadd dX11_free_54 ?_
    obtain ⟨v, τ, hc, h⟩ := bnd_e h
    refine z_callV (M' := m_X11_hitsIn) (t := 0) (i := 0) (k := 0) (As := [.int (x1), .int (x3 + (x8 * x4))]) (rest := []) kl_11_297 oy_X11_hitsIn ⟨Nat.le_of_ble_eq_true rfl, Nat.le_of_ble_eq_true rfl⟩ rfl rfl rfl rfl (Nat.le_of_ble_eq_true rfl) rfl dX11_free_55 (c_X11_hitsIn hc) (fun v2 τ2 hq => ?_)
    obtain ⟨rfl, hτ⟩ := hq
    subst τ2
    change Z _ _ _ _ _ [.int (v)] _
    exact zb_X11_free_58 hrc39 h
def F_X11_free_39 : Nat → Int32 → Int32 → Int32 → Int32 → Int32 → Int32 → Int32 → Mm → Option (Int32 × Mm)
  | 0 => fun _ _ _ _ _ _ _ _ => none
  | n + 1 => B_X11_free_39 (F_X11_free_39 n)
theorem zl_X11_free_39 {S : Shp} : ∀ (nn : Nat) {x1 : Int32} {x3 : Int32} {x4 : Int32} {x5 : Int32} {x6 : Int32} {x7 : Int32} {x8 : Int32} {σ : Mm} {r : Int32 × Mm}, F_X11_free_39 nn x1 x3 x4 x5 x6 x7 x8 σ = some r → Z m_X11_free S (Qi r) 39 [(0, .ref (sL S 0 0 0)), (1, .int (x1)), (3, .int (x3)), (4, .int (x4)), (5, .int (x5)), (6, .int (x6)), (7, .int (x7)), (8, .int (x8))] [] σ := by
  intro nn
  induction nn with
  | zero => intro x1 x3 x4 x5 x6 x7 x8 σ r h; cases h
  | succ nn ih => intro x1 x3 x4 x5 x6 x7 x8 σ r h; exact zB_X11_free_39 @ih h
def F_X11_free_30 (x1 : Int32) (x3 : Int32) (x4 : Int32) (x5 : Int32) (σ : Mm) : Option (Int32 × Mm) := (F_X11_free_39 FU x1 x3 x4 x5 ((-1)) x3 0 σ)
set_option maxRecDepth 20000 in
theorem zb_X11_free_30 {S : Shp} {x1 : Int32} {x3 : Int32} {x4 : Int32} {x5 : Int32} {σ : Mm} {r : Int32 × Mm} (h : F_X11_free_30 x1 x3 x4 x5 σ = some r) : Z m_X11_free S (Qi r) 30 [(0, .ref (sL S 0 0 0)), (1, .int (x1)), (3, .int (x3)), (4, .int (x4)), (5, .int (x5))] [] σ := by
  unfold F_X11_free_30 at h
  refine z_iconst (v := (-1)) dX11_free_30 (by decide) ?_
  refine z_istore (lv' := [(0, .ref (sL S 0 0 0)), (1, .int (x1)), (3, .int (x3)), (4, .int (x4)), (5, .int (x5)), (6, .int ((-1)))]) dX11_free_31 (by decide) [1, 2, 3, 4, 5, 0] rfl ?_
  refine z_iload_n dX11_free_33 rfl 2 rfl ?_
  refine z_istore (lv' := [(0, .ref (sL S 0 0 0)), (1, .int (x1)), (3, .int (x3)), (4, .int (x4)), (5, .int (x5)), (6, .int ((-1))), (7, .int (x3))]) dX11_free_34 (by decide) [1, 2, 3, 4, 5, 6, 0] rfl ?_
  refine z_iconst (v := 0) dX11_free_36 (by decide) ?_
  refine z_istore (lv' := [(0, .ref (sL S 0 0 0)), (1, .int (x1)), (3, .int (x3)), (4, .int (x4)), (5, .int (x5)), (6, .int ((-1))), (7, .int (x3)), (8, .int (0))]) dX11_free_37 (by decide) [1, 2, 3, 4, 5, 6, 7, 0] rfl ?_
  exact zl_X11_free_39 FU h
def F_X11_free (x1 : Int32) (x2 : Int32) (x3 : Int32) (x4 : Int32) (x5 : Int32) (σ : Mm) : Option (Int32 × Mm) := (if okP σ = true then (if (f_X11_isAsked x1 x3 x2 σ) = 0 then some ((-1), σ) else (if (f_X11_isYears x3 x4 x5) = 0 then some ((-1), σ) else (bnv (F_X11_lookAt x3 x2 ((-1)) σ) (fun τ => (F_X11_free_30 x1 x3 x4 x5 τ))))) else none)
set_option maxRecDepth 20000 in
theorem zb_X11_free {S : Shp} {x1 : Int32} {x2 : Int32} {x3 : Int32} {x4 : Int32} {x5 : Int32} {σ : Mm} {r : Int32 × Mm} (h : F_X11_free x1 x2 x3 x4 x5 σ = some r) : Z m_X11_free S (Qi r) 0 [(0, .ref (sL S 0 0 0)), (1, .int (x1)), (2, .int (x2)), (3, .int (x3)), (4, .int (x4)), (5, .int (x5))] [] σ := by
  unfold F_X11_free at h
  obtain ⟨g1, h⟩ := gd h
  refine z_aload_n dX11_free_0 rfl 0 rfl ?_
  refine z_iload_n dX11_free_1 rfl 1 rfl ?_
  refine z_iload_n dX11_free_2 rfl 3 rfl ?_
  refine z_iload_n dX11_free_3 rfl 2 rfl ?_
  have hp := g1
  refine z_callV (M' := m_X11_isAsked) (t := 0) (i := 0) (k := 0) (As := [.int (x1), .int (x3), .int (x2)]) (rest := []) kl_11_239 oy_X11_isAsked ⟨Nat.le_of_ble_eq_true rfl, Nat.le_of_ble_eq_true rfl⟩ rfl rfl rfl rfl (Nat.le_of_ble_eq_true rfl) rfl dX11_free_4 (c_X11_isAsked hp rfl) (fun v τ hq => ?_)
  obtain ⟨rfl, hτ⟩ := hq
  subst τ
  change Z _ _ _ _ _ [.int (f_X11_isAsked x1 x3 x2 σ)] _
  refine z_if_eq (tgt := 21) dX11_free_7 (by decide) (fun q => ?_) (fun q => ?_)
  · have h := (if_pos q).symm.trans h
    refine z_iconst (v := (-1)) dX11_free_21 (by decide) ?_
    cases h
    exact z_ireturn dX11_free_22 rfl rfl ⟨rfl, rfl⟩
  · have h := (if_neg q).symm.trans h
    refine z_iload_n dX11_free_10 rfl 3 rfl ?_
    refine z_iload dX11_free_11 4 rfl ?_
    refine z_iload dX11_free_13 5 rfl ?_
    refine z_callS (M' := m_X11_isYears) (As := [.int (x3), .int (x4), .int (x5)]) (rest := []) kl_11_294 oy_X11_isYears ⟨Nat.le_of_ble_eq_true rfl, Nat.le_of_ble_eq_true rfl⟩ rfl (Nat.le_of_ble_eq_true rfl) rfl dX11_free_15 (c_X11_isYears rfl) (fun v τ hq => ?_)
    obtain ⟨rfl, hτ⟩ := hq
    subst τ
    change Z _ _ _ _ _ [.int (f_X11_isYears x3 x4 x5)] _
    refine z_if_ne (tgt := 23) dX11_free_18 (by decide) (fun q => ?_) (fun q => ?_)
    · have h := (if_neg q).symm.trans h
      refine z_aload_n dX11_free_23 rfl 0 rfl ?_
      refine z_iload_n dX11_free_24 rfl 3 rfl ?_
      refine z_iload_n dX11_free_25 rfl 2 rfl ?_
      refine z_iconst (v := (-1)) dX11_free_26 (by decide) ?_
      obtain ⟨τ, hc, h⟩ := bnv_e h
      refine z_callV (M' := m_X11_lookAt) (t := 0) (i := 0) (k := 0) (As := [.int (x3), .int (x2), .int ((-1))]) (rest := []) kl_11_243 oy_X11_lookAt ⟨Nat.le_of_ble_eq_true rfl, Nat.le_of_ble_eq_true rfl⟩ rfl rfl rfl rfl (Nat.le_of_ble_eq_true rfl) rfl dX11_free_27 (c_X11_lookAt hc) (fun v2 τ2 hq => ?_)
      obtain ⟨rfl, hτ⟩ := hq
      subst τ2
      change Z _ _ _ _ _ [] _
      refine Z.lv [0, 1, 3, 4, 5] rfl ?_
      exact zb_X11_free_30 h
    · have h := (if_pos q).symm.trans h
      refine z_iconst (v := (-1)) dX11_free_21 (by decide) ?_
      cases h
      exact z_ireturn dX11_free_22 rfl rfl ⟨rfl, rfl⟩
/-- SkyStones.free(IIIII)I -/
theorem c_X11_free {S : Shp} {x1 : Int32} {x2 : Int32} {x3 : Int32} {x4 : Int32} {x5 : Int32} {σ : Mm} {r : Int32 × Mm} (h : F_X11_free x1 x2 x3 x4 x5 σ = some r) : Ct m_X11_free S [.ref (sL S 0 0 0), .int (x1), .int (x2), .int (x3), .int (x4), .int (x5)] σ (Qi r) := Ct.of (by decide +kernel) (Nat.le_of_ble_eq_true rfl) (zb_X11_free h)
def F_X11_freer_72 (rc45 : Int32 → Int32 → Int32 → Int32 → Int32 → Int32 → Int32 → Mm → Option (Int32 × Mm)) (x1 : Int32) (x3 : Int32) (x4 : Int32) (x5 : Int32) (x7 : Int32) (x8 : Int32) (x9 : Int32) (σ : Mm) : Option (Int32 × Mm) := (rc45 x1 x3 x4 x5 x7 x8 (x9 + 1) σ)
set_option maxRecDepth 20000 in
theorem zb_X11_freer_72 {S : Shp} {rc45 : Int32 → Int32 → Int32 → Int32 → Int32 → Int32 → Int32 → Mm → Option (Int32 × Mm)} (hrc45 : ∀ {x1 : Int32} {x3 : Int32} {x4 : Int32} {x5 : Int32} {x7 : Int32} {x8 : Int32} {x9 : Int32} {σ : Mm} {r : Int32 × Mm}, rc45 x1 x3 x4 x5 x7 x8 x9 σ = some r → Z m_X11_freer S (Qi r) 45 [(0, .ref (sL S 0 0 0)), (1, .int (x1)), (3, .int (x3)), (4, .int (x4)), (5, .int (x5)), (7, .int (x7)), (8, .int (x8)), (9, .int (x9))] [] σ) {x1 : Int32} {x3 : Int32} {x4 : Int32} {x5 : Int32} {x7 : Int32} {x8 : Int32} {x9 : Int32} {σ : Mm} {r : Int32 × Mm} (h : F_X11_freer_72 rc45 x1 x3 x4 x5 x7 x8 x9 σ = some r) : Z m_X11_freer S (Qi r) 72 [(0, .ref (sL S 0 0 0)), (1, .int (x1)), (3, .int (x3)), (4, .int (x4)), (5, .int (x5)), (7, .int (x7)), (8, .int (x8)), (9, .int (x9))] [] σ := by
  unfold F_X11_freer_72 at h
  refine z_iinc (j := 7) (v := x9 + 1) (lv' := [(0, .ref (sL S 0 0 0)), (1, .int (x1)), (3, .int (x3)), (4, .int (x4)), (5, .int (x5)), (7, .int (x7)), (8, .int (x8)), (9, .int (x9 + 1))]) dX11_freer_72 rfl rfl (by decide) [1, 2, 3, 4, 5, 6, 7, 0] rfl ?_
  refine z_goto (tgt := 45) dX11_freer_75 (by decide) ?_
  exact hrc45 h
def F_X11_freer_64 (rc45 : Int32 → Int32 → Int32 → Int32 → Int32 → Int32 → Int32 → Mm → Option (Int32 × Mm)) (x1 : Int32) (x3 : Int32) (x4 : Int32) (x5 : Int32) (x7 : Int32) (x8 : Int32) (x9 : Int32) (s0 : Int32) (σ : Mm) : Option (Int32 × Mm) := (if s0 < x7 then (F_X11_freer_72 rc45 x1 x3 x4 x5 x7 x8 x9 σ) else (F_X11_freer_72 rc45 x1 x3 x4 x5 x7 (x8 + 1) x9 σ))
set_option maxRecDepth 20000 in
theorem zb_X11_freer_64 {S : Shp} {rc45 : Int32 → Int32 → Int32 → Int32 → Int32 → Int32 → Int32 → Mm → Option (Int32 × Mm)} (hrc45 : ∀ {x1 : Int32} {x3 : Int32} {x4 : Int32} {x5 : Int32} {x7 : Int32} {x8 : Int32} {x9 : Int32} {σ : Mm} {r : Int32 × Mm}, rc45 x1 x3 x4 x5 x7 x8 x9 σ = some r → Z m_X11_freer S (Qi r) 45 [(0, .ref (sL S 0 0 0)), (1, .int (x1)), (3, .int (x3)), (4, .int (x4)), (5, .int (x5)), (7, .int (x7)), (8, .int (x8)), (9, .int (x9))] [] σ) {x1 : Int32} {x3 : Int32} {x4 : Int32} {x5 : Int32} {x7 : Int32} {x8 : Int32} {x9 : Int32} {s0 : Int32} {σ : Mm} {r : Int32 × Mm} (h : F_X11_freer_64 rc45 x1 x3 x4 x5 x7 x8 x9 s0 σ = some r) : Z m_X11_freer S (Qi r) 64 [(0, .ref (sL S 0 0 0)), (1, .int (x1)), (3, .int (x3)), (4, .int (x4)), (5, .int (x5)), (7, .int (x7)), (8, .int (x8)), (9, .int (x9))] [.int (s0)] σ := by
  unfold F_X11_freer_64 at h
  refine z_iload dX11_freer_64 5 rfl ?_
  refine z_icmp_lt (tgt := 72) dX11_freer_66 (by decide) (fun q => ?_) (fun q => ?_)
  · have h := (if_pos q).symm.trans h
    exact zb_X11_freer_72 hrc45 h
  · have h := (if_neg q).symm.trans h
    refine z_iinc (j := 6) (v := x8 + 1) (lv' := [(0, .ref (sL S 0 0 0)), (1, .int (x1)), (3, .int (x3)), (4, .int (x4)), (5, .int (x5)), (7, .int (x7)), (8, .int (x8 + 1)), (9, .int (x9))]) dX11_freer_69 rfl rfl (by decide) [1, 2, 3, 4, 5, 6, 0, 7] rfl ?_
    exact zb_X11_freer_72 hrc45 h
def B_X11_freer_45 (rc45 : Int32 → Int32 → Int32 → Int32 → Int32 → Int32 → Int32 → Mm → Option (Int32 × Mm)) (x1 : Int32) (x3 : Int32) (x4 : Int32) (x5 : Int32) (x7 : Int32) (x8 : Int32) (x9 : Int32) (σ : Mm) : Option (Int32 × Mm) := (if x5 ≤ x9 then some (x8, σ) else (bnd (F_X11_hitsIn x1 (x3 + (x9 * x4)) σ) (fun v τ => (F_X11_freer_64 rc45 x1 x3 x4 x5 x7 x8 x9 v τ))))
set_option maxRecDepth 20000 in
theorem zB_X11_freer_45 {S : Shp} {rc45 : Int32 → Int32 → Int32 → Int32 → Int32 → Int32 → Int32 → Mm → Option (Int32 × Mm)} (hrc45 : ∀ {x1 : Int32} {x3 : Int32} {x4 : Int32} {x5 : Int32} {x7 : Int32} {x8 : Int32} {x9 : Int32} {σ : Mm} {r : Int32 × Mm}, rc45 x1 x3 x4 x5 x7 x8 x9 σ = some r → Z m_X11_freer S (Qi r) 45 [(0, .ref (sL S 0 0 0)), (1, .int (x1)), (3, .int (x3)), (4, .int (x4)), (5, .int (x5)), (7, .int (x7)), (8, .int (x8)), (9, .int (x9))] [] σ) {x1 : Int32} {x3 : Int32} {x4 : Int32} {x5 : Int32} {x7 : Int32} {x8 : Int32} {x9 : Int32} {σ : Mm} {r : Int32 × Mm} (h : B_X11_freer_45 rc45 x1 x3 x4 x5 x7 x8 x9 σ = some r) : Z m_X11_freer S (Qi r) 45 [(0, .ref (sL S 0 0 0)), (1, .int (x1)), (3, .int (x3)), (4, .int (x4)), (5, .int (x5)), (7, .int (x7)), (8, .int (x8)), (9, .int (x9))] [] σ := by
  unfold B_X11_freer_45 at h
  refine z_iload dX11_freer_45 7 rfl ?_
  refine z_iload dX11_freer_47 4 rfl ?_
  refine z_icmp_ge (tgt := 78) dX11_freer_49 (by decide) (fun q => ?_) (fun q => ?_)
  · have h := (if_pos q).symm.trans h
    refine z_iload dX11_freer_78 6 rfl ?_
    cases h
    exact z_ireturn dX11_freer_80 rfl rfl ⟨rfl, rfl⟩
  · have h := (if_neg q).symm.trans h
    refine z_aload_n dX11_freer_52 rfl 0 rfl ?_
    refine z_iload_n dX11_freer_53 rfl 1 rfl ?_
    refine z_iload_n dX11_freer_54 rfl 2 rfl ?_
    refine z_iload dX11_freer_55 7 rfl ?_
    refine z_iload dX11_freer_57 3 rfl ?_
    refine z_imul dX11_freer_59 ?_
    refine z_iadd dX11_freer_60 ?_
    obtain ⟨v, τ, hc, h⟩ := bnd_e h
    refine z_callV (M' := m_X11_hitsIn) (t := 0) (i := 0) (k := 0) (As := [.int (x1), .int (x3 + (x9 * x4))]) (rest := []) kl_11_297 oy_X11_hitsIn ⟨Nat.le_of_ble_eq_true rfl, Nat.le_of_ble_eq_true rfl⟩ rfl rfl rfl rfl (Nat.le_of_ble_eq_true rfl) rfl dX11_freer_61 (c_X11_hitsIn hc) (fun v2 τ2 hq => ?_)
    obtain ⟨rfl, hτ⟩ := hq
    subst τ2
    change Z _ _ _ _ _ [.int (v)] _
    exact zb_X11_freer_64 hrc45 h
def F_X11_freer_45 : Nat → Int32 → Int32 → Int32 → Int32 → Int32 → Int32 → Int32 → Mm → Option (Int32 × Mm)
  | 0 => fun _ _ _ _ _ _ _ _ => none
  | n + 1 => B_X11_freer_45 (F_X11_freer_45 n)
theorem zl_X11_freer_45 {S : Shp} : ∀ (nn : Nat) {x1 : Int32} {x3 : Int32} {x4 : Int32} {x5 : Int32} {x7 : Int32} {x8 : Int32} {x9 : Int32} {σ : Mm} {r : Int32 × Mm}, F_X11_freer_45 nn x1 x3 x4 x5 x7 x8 x9 σ = some r → Z m_X11_freer S (Qi r) 45 [(0, .ref (sL S 0 0 0)), (1, .int (x1)), (3, .int (x3)), (4, .int (x4)), (5, .int (x5)), (7, .int (x7)), (8, .int (x8)), (9, .int (x9))] [] σ := by
  intro nn
  induction nn with
  | zero => intro x1 x3 x4 x5 x7 x8 x9 σ r h; cases h
  | succ nn ih => intro x1 x3 x4 x5 x7 x8 x9 σ r h; exact zB_X11_freer_45 @ih h
def F_X11_freer_37 (x1 : Int32) (x3 : Int32) (x4 : Int32) (x5 : Int32) (s0 : Int32) (σ : Mm) : Option (Int32 × Mm) := (F_X11_freer_45 FU x1 x3 x4 x5 s0 0 0 σ)
set_option maxRecDepth 20000 in
theorem zb_X11_freer_37 {S : Shp} {x1 : Int32} {x3 : Int32} {x4 : Int32} {x5 : Int32} {s0 : Int32} {σ : Mm} {r : Int32 × Mm} (h : F_X11_freer_37 x1 x3 x4 x5 s0 σ = some r) : Z m_X11_freer S (Qi r) 37 [(0, .ref (sL S 0 0 0)), (1, .int (x1)), (3, .int (x3)), (4, .int (x4)), (5, .int (x5))] [.int (s0)] σ := by
  unfold F_X11_freer_37 at h
  refine z_istore (lv' := [(0, .ref (sL S 0 0 0)), (1, .int (x1)), (3, .int (x3)), (4, .int (x4)), (5, .int (x5)), (7, .int (s0))]) dX11_freer_37 (by decide) [1, 2, 3, 4, 5, 0] rfl ?_
  refine z_iconst (v := 0) dX11_freer_39 (by decide) ?_
  refine z_istore (lv' := [(0, .ref (sL S 0 0 0)), (1, .int (x1)), (3, .int (x3)), (4, .int (x4)), (5, .int (x5)), (7, .int (s0)), (8, .int (0))]) dX11_freer_40 (by decide) [1, 2, 3, 4, 5, 6, 0] rfl ?_
  refine z_iconst (v := 0) dX11_freer_42 (by decide) ?_
  refine z_istore (lv' := [(0, .ref (sL S 0 0 0)), (1, .int (x1)), (3, .int (x3)), (4, .int (x4)), (5, .int (x5)), (7, .int (s0)), (8, .int (0)), (9, .int (0))]) dX11_freer_43 (by decide) [1, 2, 3, 4, 5, 6, 7, 0] rfl ?_
  exact zl_X11_freer_45 FU h
def F_X11_freer_32 (x1 : Int32) (x3 : Int32) (x4 : Int32) (x5 : Int32) (σ : Mm) : Option (Int32 × Mm) := (bnd (F_X11_hitsNow x1 σ) (fun v τ => (F_X11_freer_37 x1 x3 x4 x5 v τ)))
set_option maxRecDepth 20000 in
theorem zb_X11_freer_32 {S : Shp} {x1 : Int32} {x3 : Int32} {x4 : Int32} {x5 : Int32} {σ : Mm} {r : Int32 × Mm} (h : F_X11_freer_32 x1 x3 x4 x5 σ = some r) : Z m_X11_freer S (Qi r) 32 [(0, .ref (sL S 0 0 0)), (1, .int (x1)), (3, .int (x3)), (4, .int (x4)), (5, .int (x5))] [] σ := by
  unfold F_X11_freer_32 at h
  refine z_aload_n dX11_freer_32 rfl 0 rfl ?_
  refine z_iload_n dX11_freer_33 rfl 1 rfl ?_
  obtain ⟨v, τ, hc, h⟩ := bnd_e h
  refine z_callV (M' := m_X11_hitsNow) (t := 0) (i := 0) (k := 0) (As := [.int (x1)]) (rest := []) kl_11_288 oy_X11_hitsNow ⟨Nat.le_of_ble_eq_true rfl, Nat.le_of_ble_eq_true rfl⟩ rfl rfl rfl rfl (Nat.le_of_ble_eq_true rfl) rfl dX11_freer_34 (c_X11_hitsNow hc) (fun v2 τ2 hq => ?_)
  obtain ⟨rfl, hτ⟩ := hq
  subst τ2
  change Z _ _ _ _ _ [.int (v)] _
  exact zb_X11_freer_37 h
def F_X11_freer (x1 : Int32) (x2 : Int32) (x3 : Int32) (x4 : Int32) (x5 : Int32) (x6 : Int32) (σ : Mm) : Option (Int32 × Mm) := (if okP σ = true then (if (f_X11_isAsked x1 x6 x2 σ) = 0 then some ((-1), σ) else (if (f_X11_isYears x3 x4 x5) = 0 then some ((-1), σ) else (bnv (F_X11_lookAt x6 x2 ((-1)) σ) (fun τ => (F_X11_freer_32 x1 x3 x4 x5 τ))))) else none)
set_option maxRecDepth 20000 in
theorem zb_X11_freer {S : Shp} {x1 : Int32} {x2 : Int32} {x3 : Int32} {x4 : Int32} {x5 : Int32} {x6 : Int32} {σ : Mm} {r : Int32 × Mm} (h : F_X11_freer x1 x2 x3 x4 x5 x6 σ = some r) : Z m_X11_freer S (Qi r) 0 [(0, .ref (sL S 0 0 0)), (1, .int (x1)), (2, .int (x2)), (3, .int (x3)), (4, .int (x4)), (5, .int (x5)), (6, .int (x6))] [] σ := by
  unfold F_X11_freer at h
  obtain ⟨g1, h⟩ := gd h
  refine z_aload_n dX11_freer_0 rfl 0 rfl ?_
  refine z_iload_n dX11_freer_1 rfl 1 rfl ?_
  refine z_iload dX11_freer_2 6 rfl ?_
  refine z_iload_n dX11_freer_4 rfl 2 rfl ?_
  have hp := g1
  refine z_callV (M' := m_X11_isAsked) (t := 0) (i := 0) (k := 0) (As := [.int (x1), .int (x6), .int (x2)]) (rest := []) kl_11_239 oy_X11_isAsked ⟨Nat.le_of_ble_eq_true rfl, Nat.le_of_ble_eq_true rfl⟩ rfl rfl rfl rfl (Nat.le_of_ble_eq_true rfl) rfl dX11_freer_5 (c_X11_isAsked hp rfl) (fun v τ hq => ?_)
  obtain ⟨rfl, hτ⟩ := hq
  subst τ
  change Z _ _ _ _ _ [.int (f_X11_isAsked x1 x6 x2 σ)] _
  refine z_if_eq (tgt := 22) dX11_freer_8 (by decide) (fun q => ?_) (fun q => ?_)
  · have h := (if_pos q).symm.trans h
    refine z_iconst (v := (-1)) dX11_freer_22 (by decide) ?_
    cases h
    exact z_ireturn dX11_freer_23 rfl rfl ⟨rfl, rfl⟩
  · have h := (if_neg q).symm.trans h
    refine z_iload_n dX11_freer_11 rfl 3 rfl ?_
    refine z_iload dX11_freer_12 4 rfl ?_
    refine z_iload dX11_freer_14 5 rfl ?_
    refine z_callS (M' := m_X11_isYears) (As := [.int (x3), .int (x4), .int (x5)]) (rest := []) kl_11_294 oy_X11_isYears ⟨Nat.le_of_ble_eq_true rfl, Nat.le_of_ble_eq_true rfl⟩ rfl (Nat.le_of_ble_eq_true rfl) rfl dX11_freer_16 (c_X11_isYears rfl) (fun v τ hq => ?_)
    obtain ⟨rfl, hτ⟩ := hq
    subst τ
    change Z _ _ _ _ _ [.int (f_X11_isYears x3 x4 x5)] _
    refine z_if_ne (tgt := 24) dX11_freer_19 (by decide) (fun q => ?_) (fun q => ?_)
    · have h := (if_neg q).symm.trans h
      refine z_aload_n dX11_freer_24 rfl 0 rfl ?_
      refine z_iload dX11_freer_25 6 rfl ?_
      refine z_iload_n dX11_freer_27 rfl 2 rfl ?_
      refine z_iconst (v := (-1)) dX11_freer_28 (by decide) ?_
      obtain ⟨τ, hc, h⟩ := bnv_e h
      refine z_callV (M' := m_X11_lookAt) (t := 0) (i := 0) (k := 0) (As := [.int (x6), .int (x2), .int ((-1))]) (rest := []) kl_11_243 oy_X11_lookAt ⟨Nat.le_of_ble_eq_true rfl, Nat.le_of_ble_eq_true rfl⟩ rfl rfl rfl rfl (Nat.le_of_ble_eq_true rfl) rfl dX11_freer_29 (c_X11_lookAt hc) (fun v2 τ2 hq => ?_)
      obtain ⟨rfl, hτ⟩ := hq
      subst τ2
      change Z _ _ _ _ _ [] _
      refine Z.lv [0, 1, 3, 4, 5] rfl ?_
      exact zb_X11_freer_32 h
    · have h := (if_pos q).symm.trans h
      refine z_iconst (v := (-1)) dX11_freer_22 (by decide) ?_
      cases h
      exact z_ireturn dX11_freer_23 rfl rfl ⟨rfl, rfl⟩
/-- SkyStones.freer(IIIIII)I -/
theorem c_X11_freer {S : Shp} {x1 : Int32} {x2 : Int32} {x3 : Int32} {x4 : Int32} {x5 : Int32} {x6 : Int32} {σ : Mm} {r : Int32 × Mm} (h : F_X11_freer x1 x2 x3 x4 x5 x6 σ = some r) : Ct m_X11_freer S [.ref (sL S 0 0 0), .int (x1), .int (x2), .int (x3), .int (x4), .int (x5), .int (x6)] σ (Qi r) := Ct.of (by decide +kernel) (Nat.le_of_ble_eq_true rfl) (zb_X11_freer h)
def F_X11_gone_22 (s0 : Int32) (σ : Mm) : Option (Int32 × Mm) := some (s0, σ)
set_option maxRecDepth 20000 in
theorem zb_X11_gone_22 {S : Shp} {s0 : Int32} {σ : Mm} {r : Int32 × Mm} (h : F_X11_gone_22 s0 σ = some r) : Z m_X11_gone S (Qi r) 22 [] [.int (s0)] σ := by
  unfold F_X11_gone_22 at h
  cases h
  exact z_ireturn dX11_gone_22 rfl rfl ⟨rfl, rfl⟩
def F_X11_gone (x1 : Int32) (σ : Mm) : Option (Int32 × Mm) := (if okP σ = true then (if (f_X11_isThing x1 σ) = 0 then some ((-1), σ) else (bnd (F_X7_note 0 2 x1 0 0 0 σ) (fun v τ => (F_X11_gone_22 v τ)))) else none)
set_option maxRecDepth 20000 in
theorem zb_X11_gone {S : Shp} {x1 : Int32} {σ : Mm} {r : Int32 × Mm} (h : F_X11_gone x1 σ = some r) : Z m_X11_gone S (Qi r) 0 [(0, .ref (sL S 0 0 0)), (1, .int (x1))] [] σ := by
  unfold F_X11_gone at h
  obtain ⟨g1, h⟩ := gd h
  refine z_aload_n dX11_gone_0 rfl 0 rfl ?_
  refine z_iload_n dX11_gone_1 rfl 1 rfl ?_
  have hp := g1
  refine z_callV (M' := m_X11_isThing) (t := 0) (i := 0) (k := 0) (As := [.int (x1)]) (rest := []) kl_11_146 oy_X11_isThing ⟨Nat.le_of_ble_eq_true rfl, Nat.le_of_ble_eq_true rfl⟩ rfl rfl rfl rfl (Nat.le_of_ble_eq_true rfl) rfl dX11_gone_2 (c_X11_isThing hp rfl) (fun v τ hq => ?_)
  obtain ⟨rfl, hτ⟩ := hq
  subst τ
  change Z _ _ _ _ _ [.int (f_X11_isThing x1 σ)] _
  refine z_if_ne (tgt := 10) dX11_gone_5 (by decide) (fun q => ?_) (fun q => ?_)
  · have h := (if_neg q).symm.trans h
    refine z_aload_n dX11_gone_10 rfl 0 rfl ?_
    refine gf_11_38 rfl dX11_gone_11 ?_
    refine z_iconst (v := 2) dX11_gone_14 (by decide) ?_
    refine z_iload_n dX11_gone_15 rfl 1 rfl ?_
    refine z_iconst (v := 0) dX11_gone_16 (by decide) ?_
    refine z_iconst (v := 0) dX11_gone_17 (by decide) ?_
    refine z_iconst (v := 0) dX11_gone_18 (by decide) ?_
    obtain ⟨v, τ, hc, h⟩ := bnd_e h
    refine z_callV (M' := m_X7_note) (t := 2) (i := 0) (k := 0) (As := [.int (2), .int (x1), .int (0), .int (0), .int (0)]) (rest := []) kl_11_139 oy_X7_note ⟨Nat.le_of_ble_eq_true rfl, Nat.le_of_ble_eq_true rfl⟩ rfl rfl rfl rfl (Nat.le_of_ble_eq_true rfl) rfl dX11_gone_19 (c_X7_note rfl hc) (fun v2 τ2 hq => ?_)
    obtain ⟨rfl, hτ⟩ := hq
    subst τ2
    change Z _ _ _ _ _ [.int (v)] _
    refine Z.lv [] rfl ?_
    exact zb_X11_gone_22 h
  · have h := (if_pos q).symm.trans h
    refine z_iconst (v := (-1)) dX11_gone_8 (by decide) ?_
    cases h
    exact z_ireturn dX11_gone_9 rfl rfl ⟨rfl, rfl⟩
/-- SkyStones.gone(I)I -/
theorem c_X11_gone {S : Shp} {x1 : Int32} {σ : Mm} {r : Int32 × Mm} (h : F_X11_gone x1 σ = some r) : Ct m_X11_gone S [.ref (sL S 0 0 0), .int (x1)] σ (Qi r) := Ct.of (by decide +kernel) (Nat.le_of_ble_eq_true rfl) (zb_X11_gone h)
def F_X11_height_15 (s0 : Int32) (σ : Mm) : Option (Int32 × Mm) := some (s0, σ)
set_option maxRecDepth 20000 in
theorem zb_X11_height_15 {S : Shp} {s0 : Int32} {σ : Mm} {r : Int32 × Mm} (h : F_X11_height_15 s0 σ = some r) : Z m_X11_height S (Qi r) 15 [] [.int (s0)] σ := by
  unfold F_X11_height_15 at h
  refine z_goto (tgt := 19) dX11_height_15 (by decide) ?_
  cases h
  exact z_ireturn dX11_height_19 rfl rfl ⟨rfl, rfl⟩
def F_X11_height (x1 : Int32) (σ : Mm) : Option (Int32 × Mm) := (if (f_X11_isDegree x1) = 0 then some ((-1), σ) else (if okP σ = true then (bnd (F_X9_hillOver (mP σ 0) x1 σ) (fun v τ => (F_X11_height_15 v τ))) else none))
set_option maxRecDepth 20000 in
theorem zb_X11_height {S : Shp} {x1 : Int32} {σ : Mm} {r : Int32 × Mm} (h : F_X11_height x1 σ = some r) : Z m_X11_height S (Qi r) 0 [(0, .ref (sL S 0 0 0)), (1, .int (x1))] [] σ := by
  unfold F_X11_height at h
  refine z_iload_n dX11_height_0 rfl 1 rfl ?_
  refine z_callS (M' := m_X11_isDegree) (As := [.int (x1)]) (rest := []) kl_11_180 oy_X11_isDegree ⟨Nat.le_of_ble_eq_true rfl, Nat.le_of_ble_eq_true rfl⟩ rfl (Nat.le_of_ble_eq_true rfl) rfl dX11_height_1 (c_X11_isDegree rfl) (fun v τ hq => ?_)
  obtain ⟨rfl, hτ⟩ := hq
  subst τ
  change Z _ _ _ _ _ [.int (f_X11_isDegree x1)] _
  refine z_if_eq (tgt := 18) dX11_height_4 (by decide) (fun q => ?_) (fun q => ?_)
  · have h := (if_pos q).symm.trans h
    refine z_iconst (v := (-1)) dX11_height_18 (by decide) ?_
    cases h
    exact z_ireturn dX11_height_19 rfl rfl ⟨rfl, rfl⟩
  · have h := (if_neg q).symm.trans h
    obtain ⟨g1, h⟩ := gd h
    refine z_aload_n dX11_height_7 rfl 0 rfl ?_
    have hp := g1
    refine gf_11_19 rfl dX11_height_8 ?_
    refine z_iload_n dX11_height_11 rfl 1 rfl ?_
    obtain ⟨v, τ, hc, h⟩ := bnd_e h
    refine z_callV (M' := m_X9_hillOver) (t := 1) (i := (mP σ 0)) (k := 0) (As := [.int (x1)]) (rest := []) kl_11_213 oy_X9_hillOver ⟨Nat.le_of_ble_eq_true rfl, Nat.le_of_ble_eq_true rfl⟩ (lv1 (okP_0 hp) rfl) rfl rfl rfl (Nat.le_of_ble_eq_true rfl) rfl dX11_height_12 (c_X9_hillOver (okP_0 hp) hc) (fun v2 τ2 hq => ?_)
    obtain ⟨rfl, hτ⟩ := hq
    subst τ2
    change Z _ _ _ _ _ [.int (v)] _
    refine Z.lv [] rfl ?_
    exact zb_X11_height_15 h
/-- SkyStones.height(I)I -/
theorem c_X11_height {S : Shp} {x1 : Int32} {σ : Mm} {r : Int32 × Mm} (h : F_X11_height x1 σ = some r) : Ct m_X11_height S [.ref (sL S 0 0 0), .int (x1)] σ (Qi r) := Ct.of (by decide +kernel) (Nat.le_of_ble_eq_true rfl) (zb_X11_height h)
def f_X11_isPlace (x1 : Int32) (σ : Mm) : Int32 := (if x1 < 0 then 0 else (if (mA σ 1 (mP σ 0) 0 12) ≤ x1 then 0 else 1))
set_option maxRecDepth 20000 in
theorem zb_X11_isPlace {S : Shp} {x1 : Int32} {σ : Mm} {r : Int32} (hp : okP σ = true) (h : f_X11_isPlace x1 σ = r) : Z m_X11_isPlace S (Qi (r, σ)) 0 [(0, .ref (sL S 0 0 0)), (1, .int (x1))] [] σ := by
  unfold f_X11_isPlace at h
  refine z_iload_n dX11_isPlace_0 rfl 1 rfl ?_
  refine z_if_lt (tgt := 19) dX11_isPlace_1 (by decide) (fun q => ?_) (fun q => ?_)
  · have h := (if_pos q).symm.trans h
    refine z_iconst (v := 0) dX11_isPlace_19 (by decide) ?_
    subst h
    exact z_ireturn dX11_isPlace_20 rfl rfl ⟨rfl, rfl⟩
  · have h := (if_neg q).symm.trans h
    refine z_iload_n dX11_isPlace_4 rfl 1 rfl ?_
    refine z_aload_n dX11_isPlace_5 rfl 0 rfl ?_
    refine gf_11_19 rfl dX11_isPlace_6 ?_
    refine gf_11_341 (lv1 (okP_0 hp) rfl) rfl dX11_isPlace_9 ?_
    refine z_icmp_ge (tgt := 19) dX11_isPlace_12 (by decide) (fun q => ?_) (fun q => ?_)
    · have h := (if_pos q).symm.trans h
      refine z_iconst (v := 0) dX11_isPlace_19 (by decide) ?_
      subst h
      exact z_ireturn dX11_isPlace_20 rfl rfl ⟨rfl, rfl⟩
    · have h := (if_neg q).symm.trans h
      refine z_iconst (v := 1) dX11_isPlace_15 (by decide) ?_
      refine z_goto (tgt := 20) dX11_isPlace_16 (by decide) ?_
      subst h
      exact z_ireturn dX11_isPlace_20 rfl rfl ⟨rfl, rfl⟩
/-- SkyStones.isPlace(I)Z -/
theorem c_X11_isPlace {S : Shp} {x1 : Int32} {σ : Mm} {r : Int32} (hp : okP σ = true) (h : f_X11_isPlace x1 σ = r) : Ct m_X11_isPlace S [.ref (sL S 0 0 0), .int (x1)] σ (Qi (r, σ)) := Ct.of (by decide +kernel) (Nat.le_of_ble_eq_true rfl) (zb_X11_isPlace hp h)
def F_X11_hit_125 (x6 : Int32) (s0 : Int32) (σ : Mm) : Option (Int32 × Mm) := (if (s0 &&& x6) = 0 then some (0, σ) else some (1, σ))
set_option maxRecDepth 20000 in
theorem zb_X11_hit_125 {S : Shp} {x6 : Int32} {s0 : Int32} {σ : Mm} {r : Int32 × Mm} (h : F_X11_hit_125 x6 s0 σ = some r) : Z m_X11_hit S (Qi r) 125 [(6, .int (x6))] [.int (s0)] σ := by
  unfold F_X11_hit_125 at h
  refine z_iload dX11_hit_125 0 rfl ?_
  refine z_iand dX11_hit_127 ?_
  refine z_if_eq (tgt := 135) dX11_hit_128 (by decide) (fun q => ?_) (fun q => ?_)
  · have h := (if_pos q).symm.trans h
    refine z_iconst (v := 0) dX11_hit_135 (by decide) ?_
    cases h
    exact z_ireturn dX11_hit_136 rfl rfl ⟨rfl, rfl⟩
  · have h := (if_neg q).symm.trans h
    refine z_iconst (v := 1) dX11_hit_131 (by decide) ?_
    refine z_goto (tgt := 136) dX11_hit_132 (by decide) ?_
    cases h
    exact z_ireturn dX11_hit_136 rfl rfl ⟨rfl, rfl⟩
def F_X11_hit_100 (x5 : Int32) (x6 : Int32) (s0 : Int32) (σ : Mm) : Option (Int32 × Mm) := (if (s0 &&& x6) = 0 then (if okP σ = true then (bnd (F_X6_struck x5 (mA σ 1 (mP σ 0) 0 0) 0 σ) (fun v τ => (F_X11_hit_125 x6 v τ))) else none) else some (2, σ))
set_option maxRecDepth 20000 in
theorem zb_X11_hit_100 {S : Shp} {x5 : Int32} {x6 : Int32} {s0 : Int32} {σ : Mm} {r : Int32 × Mm} (h : F_X11_hit_100 x5 x6 s0 σ = some r) : Z m_X11_hit S (Qi r) 100 [(0, .ref (sL S 0 0 0)), (5, .int (x5)), (6, .int (x6))] [.int (s0)] σ := by
  unfold F_X11_hit_100 at h
  refine z_iload dX11_hit_100 2 rfl ?_
  refine z_iand dX11_hit_102 ?_
  refine z_if_eq (tgt := 108) dX11_hit_103 (by decide) (fun q => ?_) (fun q => ?_)
  · have h := (if_pos q).symm.trans h
    obtain ⟨g4, h⟩ := gd h
    refine z_aload_n dX11_hit_108 rfl 0 rfl ?_
    refine gf_11_60 rfl dX11_hit_109 ?_
    refine z_iload dX11_hit_112 1 rfl ?_
    refine z_aload_n dX11_hit_114 rfl 0 rfl ?_
    have hp := g4
    refine gf_11_19 rfl dX11_hit_115 ?_
    refine gf_11_232 (lv1 (okP_0 hp) rfl) rfl dX11_hit_118 ?_
    refine z_iconst (v := 0) dX11_hit_121 (by decide) ?_
    obtain ⟨v, τ, hc, h⟩ := bnd_e h
    refine z_callV (M' := m_X6_struck) (t := 0) (i := 0) (k := 25) (As := [.int (x5), .int (mA σ 1 (mP σ 0) 0 0), .int (0)]) (rest := []) kl_11_235 oy_X6_struck ⟨Nat.le_of_ble_eq_true rfl, Nat.le_of_ble_eq_true rfl⟩ rfl rfl rfl rfl (Nat.le_of_ble_eq_true rfl) rfl dX11_hit_122 (c_X6_struck hc) (fun v2 τ2 hq => ?_)
    obtain ⟨rfl, hτ⟩ := hq
    subst τ2
    change Z _ _ _ _ _ [.int (v)] _
    refine Z.lv [2] rfl ?_
    exact zb_X11_hit_125 h
  · have h := (if_neg q).symm.trans h
    refine z_iconst (v := 2) dX11_hit_106 (by decide) ?_
    cases h
    exact z_ireturn dX11_hit_107 rfl rfl ⟨rfl, rfl⟩
def F_X11_hit_76 (x2 : Int32) (s0 : Int32) (σ : Mm) : Option (Int32 × Mm) := (if okP σ = true then (bnd (F_X6_struck s0 (mA σ 1 (mP σ 0) 0 0) 1 σ) (fun v τ => (F_X11_hit_100 s0 ((1 : Int32) <<< (x2 &&& 31)) v τ))) else none)
set_option maxRecDepth 20000 in
theorem zb_X11_hit_76 {S : Shp} {x2 : Int32} {s0 : Int32} {σ : Mm} {r : Int32 × Mm} (h : F_X11_hit_76 x2 s0 σ = some r) : Z m_X11_hit S (Qi r) 76 [(0, .ref (sL S 0 0 0)), (2, .int (x2))] [.int (s0)] σ := by
  unfold F_X11_hit_76 at h
  obtain ⟨g3, h⟩ := gd h
  refine z_istore (lv' := [(0, .ref (sL S 0 0 0)), (2, .int (x2)), (5, .int (s0))]) dX11_hit_76 (by decide) [1, 2, 0] rfl ?_
  refine z_iconst (v := 1) dX11_hit_78 (by decide) ?_
  refine z_iload_n dX11_hit_79 rfl 1 rfl ?_
  refine z_ishl dX11_hit_80 ?_
  refine z_istore (lv' := [(0, .ref (sL S 0 0 0)), (2, .int (x2)), (5, .int (s0)), (6, .int ((1 : Int32) <<< (x2 &&& 31)))]) dX11_hit_81 (by decide) [1, 2, 3, 0] rfl ?_
  refine z_aload_n dX11_hit_83 rfl 0 rfl ?_
  refine gf_11_60 rfl dX11_hit_84 ?_
  refine z_iload dX11_hit_87 2 rfl ?_
  refine z_aload_n dX11_hit_89 rfl 0 rfl ?_
  have hp := g3
  refine gf_11_19 rfl dX11_hit_90 ?_
  refine gf_11_232 (lv1 (okP_0 hp) rfl) rfl dX11_hit_93 ?_
  refine z_iconst (v := 1) dX11_hit_96 (by decide) ?_
  obtain ⟨v, τ, hc, h⟩ := bnd_e h
  refine z_callV (M' := m_X6_struck) (t := 0) (i := 0) (k := 25) (As := [.int (s0), .int (mA σ 1 (mP σ 0) 0 0), .int (1)]) (rest := []) kl_11_235 oy_X6_struck ⟨Nat.le_of_ble_eq_true rfl, Nat.le_of_ble_eq_true rfl⟩ rfl rfl rfl rfl (Nat.le_of_ble_eq_true rfl) rfl dX11_hit_97 (c_X6_struck hc) (fun v2 τ2 hq => ?_)
  obtain ⟨rfl, hτ⟩ := hq
  subst τ2
  change Z _ _ _ _ _ [.int (v)] _
  refine Z.lv [0, 2, 3] rfl ?_
  exact zb_X11_hit_100 h
def F_X11_hit_68 (x1 : Int32) (x2 : Int32) (σ : Mm) : Option (Int32 × Mm) := (bnd (F_X2_bearingOf x1 σ) (fun v τ => (F_X11_hit_76 x2 v τ)))
set_option maxRecDepth 20000 in
theorem zb_X11_hit_68 {S : Shp} {x1 : Int32} {x2 : Int32} {σ : Mm} {r : Int32 × Mm} (h : F_X11_hit_68 x1 x2 σ = some r) : Z m_X11_hit S (Qi r) 68 [(0, .ref (sL S 0 0 0)), (1, .int (x1)), (2, .int (x2))] [] σ := by
  unfold F_X11_hit_68 at h
  refine z_aload_n dX11_hit_68 rfl 0 rfl ?_
  refine gf_11_53 rfl dX11_hit_69 ?_
  refine z_iload_n dX11_hit_72 rfl 1 rfl ?_
  obtain ⟨v, τ, hc, h⟩ := bnd_e h
  refine z_callV (M' := m_X2_bearingOf) (t := 0) (i := 0) (k := 15) (As := [.int (x1)]) (rest := []) kl_11_229 oy_X2_bearingOf ⟨Nat.le_of_ble_eq_true rfl, Nat.le_of_ble_eq_true rfl⟩ rfl rfl rfl rfl (Nat.le_of_ble_eq_true rfl) rfl dX11_hit_73 (c_X2_bearingOf hc) (fun v2 τ2 hq => ?_)
  obtain ⟨rfl, hτ⟩ := hq
  subst τ2
  change Z _ _ _ _ _ [.int (v)] _
  refine Z.lv [0, 2] rfl ?_
  exact zb_X11_hit_76 h
def F_X11_hit_51 (x1 : Int32) (x2 : Int32) (x3 : Int32) (s0 : Int32) (σ : Mm) : Option (Int32 × Mm) := (if s0 = 0 then some ((-1), σ) else (if okP σ = true then (bnv (F_X6_watch (mP σ 0) x3 σ) (fun τ => (F_X11_hit_68 x1 x2 τ))) else none))
set_option maxRecDepth 20000 in
theorem zb_X11_hit_51 {S : Shp} {x1 : Int32} {x2 : Int32} {x3 : Int32} {s0 : Int32} {σ : Mm} {r : Int32 × Mm} (h : F_X11_hit_51 x1 x2 x3 s0 σ = some r) : Z m_X11_hit S (Qi r) 51 [(0, .ref (sL S 0 0 0)), (1, .int (x1)), (2, .int (x2)), (3, .int (x3))] [.int (s0)] σ := by
  unfold F_X11_hit_51 at h
  refine z_if_ne (tgt := 56) dX11_hit_51 (by decide) (fun q => ?_) (fun q => ?_)
  · have h := (if_neg q).symm.trans h
    obtain ⟨g2, h⟩ := gd h
    refine z_aload_n dX11_hit_56 rfl 0 rfl ?_
    refine gf_11_60 rfl dX11_hit_57 ?_
    refine z_aload_n dX11_hit_60 rfl 0 rfl ?_
    have hp := g2
    refine gf_11_19 rfl dX11_hit_61 ?_
    refine z_iload_n dX11_hit_64 rfl 3 rfl ?_
    obtain ⟨τ, hc, h⟩ := bnv_e h
    refine z_callV (M' := m_X6_watch) (t := 0) (i := 0) (k := 25) (As := [.ref (sL S 1 (mP σ 0) 0), .int (x3)]) (rest := []) kl_11_226 oy_X6_watch ⟨Nat.le_of_ble_eq_true rfl, Nat.le_of_ble_eq_true rfl⟩ rfl rfl rfl rfl (Nat.le_of_ble_eq_true rfl) rfl dX11_hit_65 (c_X6_watch (okP_0 hp) hc) (fun v2 τ2 hq => ?_)
    obtain ⟨rfl, hτ⟩ := hq
    subst τ2
    change Z _ _ _ _ _ [] _
    refine Z.lv [0, 1, 2] rfl ?_
    exact zb_X11_hit_68 h
  · have h := (if_pos q).symm.trans h
    refine z_iconst (v := (-1)) dX11_hit_54 (by decide) ?_
    cases h
    exact z_ireturn dX11_hit_55 rfl rfl ⟨rfl, rfl⟩
def F_X11_hit_43 (x1 : Int32) (x2 : Int32) (x3 : Int32) (σ : Mm) : Option (Int32 × Mm) := (bnd (F_X2_joins x1 σ) (fun v τ => (F_X11_hit_51 x1 x2 x3 v τ)))
set_option maxRecDepth 20000 in
theorem zb_X11_hit_43 {S : Shp} {x1 : Int32} {x2 : Int32} {x3 : Int32} {σ : Mm} {r : Int32 × Mm} (h : F_X11_hit_43 x1 x2 x3 σ = some r) : Z m_X11_hit S (Qi r) 43 [(0, .ref (sL S 0 0 0)), (1, .int (x1)), (2, .int (x2)), (3, .int (x3))] [] σ := by
  unfold F_X11_hit_43 at h
  refine z_aload_n dX11_hit_43 rfl 0 rfl ?_
  refine gf_11_53 rfl dX11_hit_44 ?_
  refine z_iload_n dX11_hit_47 rfl 1 rfl ?_
  obtain ⟨v, τ, hc, h⟩ := bnd_e h
  refine z_callV (M' := m_X2_joins) (t := 0) (i := 0) (k := 15) (As := [.int (x1)]) (rest := []) kl_11_190 oy_X2_joins ⟨Nat.le_of_ble_eq_true rfl, Nat.le_of_ble_eq_true rfl⟩ rfl rfl rfl rfl (Nat.le_of_ble_eq_true rfl) rfl dX11_hit_48 (c_X2_joins hc) (fun v2 τ2 hq => ?_)
  obtain ⟨rfl, hτ⟩ := hq
  subst τ2
  change Z _ _ _ _ _ [.int (v)] _
  exact zb_X11_hit_51 h
def F_X11_hit (x1 : Int32) (x2 : Int32) (x3 : Int32) (x4 : Int32) (σ : Mm) : Option (Int32 × Mm) := (if okP σ = true then (if (f_X11_isPlace x2 σ) = 0 then some ((-1), σ) else (if (f_X11_isYear x3) = 0 then some ((-1), σ) else (if (f_X11_isKnown x4 σ) = 0 then some ((-1), σ) else (bnv (F_X2_know (mP σ 0) 0 x4 σ) (fun τ => (F_X11_hit_43 x1 x2 x3 τ)))))) else none)
set_option maxRecDepth 20000 in
theorem zb_X11_hit {S : Shp} {x1 : Int32} {x2 : Int32} {x3 : Int32} {x4 : Int32} {σ : Mm} {r : Int32 × Mm} (h : F_X11_hit x1 x2 x3 x4 σ = some r) : Z m_X11_hit S (Qi r) 0 [(0, .ref (sL S 0 0 0)), (1, .int (x1)), (2, .int (x2)), (3, .int (x3)), (4, .int (x4))] [] σ := by
  unfold F_X11_hit at h
  obtain ⟨g1, h⟩ := gd h
  refine z_aload_n dX11_hit_0 rfl 0 rfl ?_
  refine z_iload_n dX11_hit_1 rfl 2 rfl ?_
  have hp := g1
  refine z_callV (M' := m_X11_isPlace) (t := 0) (i := 0) (k := 0) (As := [.int (x2)]) (rest := []) kl_11_216 oy_X11_isPlace ⟨Nat.le_of_ble_eq_true rfl, Nat.le_of_ble_eq_true rfl⟩ rfl rfl rfl rfl (Nat.le_of_ble_eq_true rfl) rfl dX11_hit_2 (c_X11_isPlace hp rfl) (fun v τ hq => ?_)
  obtain ⟨rfl, hτ⟩ := hq
  subst τ
  change Z _ _ _ _ _ [.int (f_X11_isPlace x2 σ)] _
  refine z_if_eq (tgt := 24) dX11_hit_5 (by decide) (fun q => ?_) (fun q => ?_)
  · have h := (if_pos q).symm.trans h
    refine z_iconst (v := (-1)) dX11_hit_24 (by decide) ?_
    cases h
    exact z_ireturn dX11_hit_25 rfl rfl ⟨rfl, rfl⟩
  · have h := (if_neg q).symm.trans h
    refine z_iload_n dX11_hit_8 rfl 3 rfl ?_
    refine z_callS (M' := m_X11_isYear) (As := [.int (x3)]) (rest := []) kl_11_219 oy_X11_isYear ⟨Nat.le_of_ble_eq_true rfl, Nat.le_of_ble_eq_true rfl⟩ rfl (Nat.le_of_ble_eq_true rfl) rfl dX11_hit_9 (c_X11_isYear rfl) (fun v τ hq => ?_)
    obtain ⟨rfl, hτ⟩ := hq
    subst τ
    change Z _ _ _ _ _ [.int (f_X11_isYear x3)] _
    refine z_if_eq (tgt := 24) dX11_hit_12 (by decide) (fun q => ?_) (fun q => ?_)
    · have h := (if_pos q).symm.trans h
      refine z_iconst (v := (-1)) dX11_hit_24 (by decide) ?_
      cases h
      exact z_ireturn dX11_hit_25 rfl rfl ⟨rfl, rfl⟩
    · have h := (if_neg q).symm.trans h
      refine z_aload_n dX11_hit_15 rfl 0 rfl ?_
      refine z_iload dX11_hit_16 4 rfl ?_
      refine z_callV (M' := m_X11_isKnown) (t := 0) (i := 0) (k := 0) (As := [.int (x4)]) (rest := []) kl_11_152 oy_X11_isKnown ⟨Nat.le_of_ble_eq_true rfl, Nat.le_of_ble_eq_true rfl⟩ rfl rfl rfl rfl (Nat.le_of_ble_eq_true rfl) rfl dX11_hit_18 (c_X11_isKnown hp rfl) (fun v τ hq => ?_)
      obtain ⟨rfl, hτ⟩ := hq
      subst τ
      change Z _ _ _ _ _ [.int (f_X11_isKnown x4 σ)] _
      refine z_if_ne (tgt := 26) dX11_hit_21 (by decide) (fun q => ?_) (fun q => ?_)
      · have h := (if_neg q).symm.trans h
        refine z_aload_n dX11_hit_26 rfl 0 rfl ?_
        refine gf_11_53 rfl dX11_hit_27 ?_
        refine z_aload_n dX11_hit_30 rfl 0 rfl ?_
        refine gf_11_19 rfl dX11_hit_31 ?_
        refine z_aload_n dX11_hit_34 rfl 0 rfl ?_
        refine gf_11_38 rfl dX11_hit_35 ?_
        refine z_iload dX11_hit_38 4 rfl ?_
        obtain ⟨τ, hc, h⟩ := bnv_e h
        refine z_callV (M' := m_X2_know) (t := 0) (i := 0) (k := 15) (As := [.ref (sL S 1 (mP σ 0) 0), .ref (sL S 2 0 0), .int (x4)]) (rest := []) kl_11_155 oy_X2_know ⟨Nat.le_of_ble_eq_true rfl, Nat.le_of_ble_eq_true rfl⟩ rfl rfl rfl rfl (Nat.le_of_ble_eq_true rfl) rfl dX11_hit_40 (c_X2_know (okP_0 hp) rfl hc) (fun v2 τ2 hq => ?_)
        obtain ⟨rfl, hτ⟩ := hq
        subst τ2
        change Z _ _ _ _ _ [] _
        refine Z.lv [0, 1, 2, 3] rfl ?_
        exact zb_X11_hit_43 h
      · have h := (if_pos q).symm.trans h
        refine z_iconst (v := (-1)) dX11_hit_24 (by decide) ?_
        cases h
        exact z_ireturn dX11_hit_25 rfl rfl ⟨rfl, rfl⟩
/-- SkyStones.hit(IIII)I -/
theorem c_X11_hit {S : Shp} {x1 : Int32} {x2 : Int32} {x3 : Int32} {x4 : Int32} {σ : Mm} {r : Int32 × Mm} (h : F_X11_hit x1 x2 x3 x4 σ = some r) : Ct m_X11_hit S [.ref (sL S 0 0 0), .int (x1), .int (x2), .int (x3), .int (x4)] σ (Qi r) := Ct.of (by decide +kernel) (Nat.le_of_ble_eq_true rfl) (zb_X11_hit h)
def F_X11_hitAt_84 (rc32 : Int32 → Int32 → Int32 → Int32 → Int32 → Mm → Option (Int32 × Mm)) (x1 : Int32) (x3 : Int32) (x5 : Int32) (x6 : Int32) (x7 : Int32) (σ : Mm) : Option (Int32 × Mm) := (rc32 x1 x3 x5 x6 (x7 + 1) σ)
set_option maxRecDepth 20000 in
theorem zb_X11_hitAt_84 {S : Shp} {rc32 : Int32 → Int32 → Int32 → Int32 → Int32 → Mm → Option (Int32 × Mm)} (hrc32 : ∀ {x1 : Int32} {x3 : Int32} {x5 : Int32} {x6 : Int32} {x7 : Int32} {σ : Mm} {r : Int32 × Mm}, rc32 x1 x3 x5 x6 x7 σ = some r → Z m_X11_hitAt S (Qi r) 32 [(0, .ref (sL S 0 0 0)), (1, .int (x1)), (3, .int (x3)), (5, .int (x5)), (6, .int (x6)), (7, .int (x7))] [] σ) {x1 : Int32} {x3 : Int32} {x5 : Int32} {x6 : Int32} {x7 : Int32} {σ : Mm} {r : Int32 × Mm} (h : F_X11_hitAt_84 rc32 x1 x3 x5 x6 x7 σ = some r) : Z m_X11_hitAt S (Qi r) 84 [(0, .ref (sL S 0 0 0)), (1, .int (x1)), (3, .int (x3)), (5, .int (x5)), (6, .int (x6)), (7, .int (x7))] [] σ := by
  unfold F_X11_hitAt_84 at h
  refine z_iinc (j := 5) (v := x7 + 1) (lv' := [(0, .ref (sL S 0 0 0)), (1, .int (x1)), (3, .int (x3)), (5, .int (x5)), (6, .int (x6)), (7, .int (x7 + 1))]) dX11_hitAt_84 rfl rfl (by decide) [1, 2, 3, 4, 5, 0] rfl ?_
  refine z_goto (tgt := 32) dX11_hitAt_87 (by decide) ?_
  exact hrc32 h
def F_X11_hitAt_60 (rc32 : Int32 → Int32 → Int32 → Int32 → Int32 → Mm → Option (Int32 × Mm)) (x1 : Int32) (x3 : Int32) (x5 : Int32) (x6 : Int32) (x7 : Int32) (s0 : Int32) (σ : Mm) : Option (Int32 × Mm) := (if s0 = 0 then (F_X11_hitAt_84 rc32 x1 x3 x5 x6 x7 σ) else (if x6 = x5 then (if inb x7 182 = true then some (mA σ 0 0 23 x7.toNatClampNeg, σ) else none) else (F_X11_hitAt_84 rc32 x1 x3 x5 (x6 + 1) x7 σ)))
set_option maxRecDepth 20000 in
theorem zb_X11_hitAt_60 {S : Shp} {rc32 : Int32 → Int32 → Int32 → Int32 → Int32 → Mm → Option (Int32 × Mm)} (hrc32 : ∀ {x1 : Int32} {x3 : Int32} {x5 : Int32} {x6 : Int32} {x7 : Int32} {σ : Mm} {r : Int32 × Mm}, rc32 x1 x3 x5 x6 x7 σ = some r → Z m_X11_hitAt S (Qi r) 32 [(0, .ref (sL S 0 0 0)), (1, .int (x1)), (3, .int (x3)), (5, .int (x5)), (6, .int (x6)), (7, .int (x7))] [] σ) {x1 : Int32} {x3 : Int32} {x5 : Int32} {x6 : Int32} {x7 : Int32} {s0 : Int32} {σ : Mm} {r : Int32 × Mm} (h : F_X11_hitAt_60 rc32 x1 x3 x5 x6 x7 s0 σ = some r) : Z m_X11_hitAt S (Qi r) 60 [(0, .ref (sL S 0 0 0)), (1, .int (x1)), (3, .int (x3)), (5, .int (x5)), (6, .int (x6)), (7, .int (x7))] [.int (s0)] σ := by
  unfold F_X11_hitAt_60 at h
  refine z_if_eq (tgt := 84) dX11_hitAt_60 (by decide) (fun q => ?_) (fun q => ?_)
  · have h := (if_pos q).symm.trans h
    exact zb_X11_hitAt_84 hrc32 h
  · have h := (if_neg q).symm.trans h
    refine z_iload dX11_hitAt_63 4 rfl ?_
    refine z_iload dX11_hitAt_65 3 rfl ?_
    refine z_icmp_ne (tgt := 81) dX11_hitAt_67 (by decide) (fun q => ?_) (fun q => ?_)
    · have h := (if_neg q).symm.trans h
      refine z_iinc (j := 4) (v := x6 + 1) (lv' := [(0, .ref (sL S 0 0 0)), (1, .int (x1)), (3, .int (x3)), (5, .int (x5)), (6, .int (x6 + 1)), (7, .int (x7))]) dX11_hitAt_81 rfl rfl (by decide) [1, 2, 3, 4, 0, 5] rfl ?_
      exact zb_X11_hitAt_84 hrc32 h
    · have h := (if_pos q).symm.trans h
      obtain ⟨g3, h⟩ := gd h
      refine z_aload_n dX11_hitAt_70 rfl 0 rfl ?_
      refine gf_11_53 rfl dX11_hitAt_71 ?_
      refine gf_11_257 rfl dX11_hitAt_74 ?_
      refine z_iload dX11_hitAt_77 5 rfl ?_
      refine ia_0_23 (inb_in g3) dX11_hitAt_79 ?_
      cases h
      exact z_ireturn dX11_hitAt_80 rfl rfl ⟨rfl, rfl⟩
def B_X11_hitAt_32 (rc32 : Int32 → Int32 → Int32 → Int32 → Int32 → Mm → Option (Int32 × Mm)) (x1 : Int32) (x3 : Int32) (x5 : Int32) (x6 : Int32) (x7 : Int32) (σ : Mm) : Option (Int32 × Mm) := (if (mA σ 0 0 15 8) ≤ x7 then some ((-1), σ) else (if inb x7 182 = true then (bnd (F_X11_strikes (mA σ 0 0 24 x7.toNatClampNeg) x1 x3 σ) (fun v τ => (F_X11_hitAt_60 rc32 x1 x3 x5 x6 x7 v τ))) else none))
set_option maxRecDepth 20000 in
theorem zB_X11_hitAt_32 {S : Shp} {rc32 : Int32 → Int32 → Int32 → Int32 → Int32 → Mm → Option (Int32 × Mm)} (hrc32 : ∀ {x1 : Int32} {x3 : Int32} {x5 : Int32} {x6 : Int32} {x7 : Int32} {σ : Mm} {r : Int32 × Mm}, rc32 x1 x3 x5 x6 x7 σ = some r → Z m_X11_hitAt S (Qi r) 32 [(0, .ref (sL S 0 0 0)), (1, .int (x1)), (3, .int (x3)), (5, .int (x5)), (6, .int (x6)), (7, .int (x7))] [] σ) {x1 : Int32} {x3 : Int32} {x5 : Int32} {x6 : Int32} {x7 : Int32} {σ : Mm} {r : Int32 × Mm} (h : B_X11_hitAt_32 rc32 x1 x3 x5 x6 x7 σ = some r) : Z m_X11_hitAt S (Qi r) 32 [(0, .ref (sL S 0 0 0)), (1, .int (x1)), (3, .int (x3)), (5, .int (x5)), (6, .int (x6)), (7, .int (x7))] [] σ := by
  unfold B_X11_hitAt_32 at h
  refine z_iload dX11_hitAt_32 5 rfl ?_
  refine z_aload_n dX11_hitAt_34 rfl 0 rfl ?_
  refine gf_11_53 rfl dX11_hitAt_35 ?_
  refine gf_11_210 rfl dX11_hitAt_38 ?_
  refine z_icmp_ge (tgt := 90) dX11_hitAt_41 (by decide) (fun q => ?_) (fun q => ?_)
  · have h := (if_pos q).symm.trans h
    refine z_iconst (v := (-1)) dX11_hitAt_90 (by decide) ?_
    cases h
    exact z_ireturn dX11_hitAt_91 rfl rfl ⟨rfl, rfl⟩
  · have h := (if_neg q).symm.trans h
    obtain ⟨g2, h⟩ := gd h
    refine z_aload_n dX11_hitAt_44 rfl 0 rfl ?_
    refine z_aload_n dX11_hitAt_45 rfl 0 rfl ?_
    refine gf_11_53 rfl dX11_hitAt_46 ?_
    refine gf_11_250 rfl dX11_hitAt_49 ?_
    refine z_iload dX11_hitAt_52 5 rfl ?_
    refine ia_0_24 (inb_in g2) dX11_hitAt_54 ?_
    refine z_iload_n dX11_hitAt_55 rfl 1 rfl ?_
    refine z_iload_n dX11_hitAt_56 rfl 2 rfl ?_
    obtain ⟨v, τ, hc, h⟩ := bnd_e h
    refine z_callV (M' := m_X11_strikes) (t := 0) (i := 0) (k := 0) (As := [.int (mA σ 0 0 24 x7.toNatClampNeg), .int (x1), .int (x3)]) (rest := []) kl_11_253 oy_X11_strikes ⟨Nat.le_of_ble_eq_true rfl, Nat.le_of_ble_eq_true rfl⟩ rfl rfl rfl rfl (Nat.le_of_ble_eq_true rfl) rfl dX11_hitAt_57 (c_X11_strikes hc) (fun v2 τ2 hq => ?_)
    obtain ⟨rfl, hτ⟩ := hq
    subst τ2
    change Z _ _ _ _ _ [.int (v)] _
    exact zb_X11_hitAt_60 hrc32 h
def F_X11_hitAt_32 : Nat → Int32 → Int32 → Int32 → Int32 → Int32 → Mm → Option (Int32 × Mm)
  | 0 => fun _ _ _ _ _ _ => none
  | n + 1 => B_X11_hitAt_32 (F_X11_hitAt_32 n)
theorem zl_X11_hitAt_32 {S : Shp} : ∀ (nn : Nat) {x1 : Int32} {x3 : Int32} {x5 : Int32} {x6 : Int32} {x7 : Int32} {σ : Mm} {r : Int32 × Mm}, F_X11_hitAt_32 nn x1 x3 x5 x6 x7 σ = some r → Z m_X11_hitAt S (Qi r) 32 [(0, .ref (sL S 0 0 0)), (1, .int (x1)), (3, .int (x3)), (5, .int (x5)), (6, .int (x6)), (7, .int (x7))] [] σ := by
  intro nn
  induction nn with
  | zero => intro x1 x3 x5 x6 x7 σ r h; cases h
  | succ nn ih => intro x1 x3 x5 x6 x7 σ r h; exact zB_X11_hitAt_32 @ih h
def F_X11_hitAt_26 (x1 : Int32) (x3 : Int32) (x5 : Int32) (σ : Mm) : Option (Int32 × Mm) := (F_X11_hitAt_32 FU x1 x3 x5 0 0 σ)
set_option maxRecDepth 20000 in
theorem zb_X11_hitAt_26 {S : Shp} {x1 : Int32} {x3 : Int32} {x5 : Int32} {σ : Mm} {r : Int32 × Mm} (h : F_X11_hitAt_26 x1 x3 x5 σ = some r) : Z m_X11_hitAt S (Qi r) 26 [(0, .ref (sL S 0 0 0)), (1, .int (x1)), (3, .int (x3)), (5, .int (x5))] [] σ := by
  unfold F_X11_hitAt_26 at h
  refine z_iconst (v := 0) dX11_hitAt_26 (by decide) ?_
  refine z_istore (lv' := [(0, .ref (sL S 0 0 0)), (1, .int (x1)), (3, .int (x3)), (5, .int (x5)), (6, .int (0))]) dX11_hitAt_27 (by decide) [1, 2, 3, 4, 0] rfl ?_
  refine z_iconst (v := 0) dX11_hitAt_29 (by decide) ?_
  refine z_istore (lv' := [(0, .ref (sL S 0 0 0)), (1, .int (x1)), (3, .int (x3)), (5, .int (x5)), (6, .int (0)), (7, .int (0))]) dX11_hitAt_30 (by decide) [1, 2, 3, 4, 5, 0] rfl ?_
  exact zl_X11_hitAt_32 FU h
def F_X11_hitAt (x1 : Int32) (x2 : Int32) (x3 : Int32) (x4 : Int32) (x5 : Int32) (σ : Mm) : Option (Int32 × Mm) := (if okP σ = true then (if (f_X11_isAsked x1 x2 x4 σ) = 0 then some ((-1), σ) else (if 0 ≤ x5 then (bnv (F_X11_lookAt x2 x4 ((-1)) σ) (fun τ => (F_X11_hitAt_26 x1 x3 x5 τ))) else some ((-1), σ))) else none)
set_option maxRecDepth 20000 in
theorem zb_X11_hitAt {S : Shp} {x1 : Int32} {x2 : Int32} {x3 : Int32} {x4 : Int32} {x5 : Int32} {σ : Mm} {r : Int32 × Mm} (h : F_X11_hitAt x1 x2 x3 x4 x5 σ = some r) : Z m_X11_hitAt S (Qi r) 0 [(0, .ref (sL S 0 0 0)), (1, .int (x1)), (2, .int (x2)), (3, .int (x3)), (4, .int (x4)), (5, .int (x5))] [] σ := by
  unfold F_X11_hitAt at h
  obtain ⟨g1, h⟩ := gd h
  refine z_aload_n dX11_hitAt_0 rfl 0 rfl ?_
  refine z_iload_n dX11_hitAt_1 rfl 1 rfl ?_
  refine z_iload_n dX11_hitAt_2 rfl 2 rfl ?_
  refine z_iload dX11_hitAt_3 4 rfl ?_
  have hp := g1
  refine z_callV (M' := m_X11_isAsked) (t := 0) (i := 0) (k := 0) (As := [.int (x1), .int (x2), .int (x4)]) (rest := []) kl_11_239 oy_X11_isAsked ⟨Nat.le_of_ble_eq_true rfl, Nat.le_of_ble_eq_true rfl⟩ rfl rfl rfl rfl (Nat.le_of_ble_eq_true rfl) rfl dX11_hitAt_5 (c_X11_isAsked hp rfl) (fun v τ hq => ?_)
  obtain ⟨rfl, hτ⟩ := hq
  subst τ
  change Z _ _ _ _ _ [.int (f_X11_isAsked x1 x2 x4 σ)] _
  refine z_if_eq (tgt := 16) dX11_hitAt_8 (by decide) (fun q => ?_) (fun q => ?_)
  · have h := (if_pos q).symm.trans h
    refine z_iconst (v := (-1)) dX11_hitAt_16 (by decide) ?_
    cases h
    exact z_ireturn dX11_hitAt_17 rfl rfl ⟨rfl, rfl⟩
  · have h := (if_neg q).symm.trans h
    refine z_iload dX11_hitAt_11 5 rfl ?_
    refine z_if_ge (tgt := 18) dX11_hitAt_13 (by decide) (fun q => ?_) (fun q => ?_)
    · have h := (if_pos q).symm.trans h
      refine z_aload_n dX11_hitAt_18 rfl 0 rfl ?_
      refine z_iload_n dX11_hitAt_19 rfl 2 rfl ?_
      refine z_iload dX11_hitAt_20 4 rfl ?_
      refine z_iconst (v := (-1)) dX11_hitAt_22 (by decide) ?_
      obtain ⟨τ, hc, h⟩ := bnv_e h
      refine z_callV (M' := m_X11_lookAt) (t := 0) (i := 0) (k := 0) (As := [.int (x2), .int (x4), .int ((-1))]) (rest := []) kl_11_243 oy_X11_lookAt ⟨Nat.le_of_ble_eq_true rfl, Nat.le_of_ble_eq_true rfl⟩ rfl rfl rfl rfl (Nat.le_of_ble_eq_true rfl) rfl dX11_hitAt_23 (c_X11_lookAt hc) (fun v2 τ2 hq => ?_)
      obtain ⟨rfl, hτ⟩ := hq
      subst τ2
      change Z _ _ _ _ _ [] _
      refine Z.lv [0, 1, 3, 5] rfl ?_
      exact zb_X11_hitAt_26 h
    · have h := (if_neg q).symm.trans h
      refine z_iconst (v := (-1)) dX11_hitAt_16 (by decide) ?_
      cases h
      exact z_ireturn dX11_hitAt_17 rfl rfl ⟨rfl, rfl⟩
/-- SkyStones.hitAt(IIZII)I -/
theorem c_X11_hitAt {S : Shp} {x1 : Int32} {x2 : Int32} {x3 : Int32} {x4 : Int32} {x5 : Int32} {σ : Mm} {r : Int32 × Mm} (h : F_X11_hitAt x1 x2 x3 x4 x5 σ = some r) : Ct m_X11_hitAt S [.ref (sL S 0 0 0), .int (x1), .int (x2), .int (x3), .int (x4), .int (x5)] σ (Qi r) := Ct.of (by decide +kernel) (Nat.le_of_ble_eq_true rfl) (zb_X11_hitAt h)
def F_X11_hits_36 (s0 : Int32) (σ : Mm) : Option (Int32 × Mm) := some (s0, σ)
set_option maxRecDepth 20000 in
theorem zb_X11_hits_36 {S : Shp} {s0 : Int32} {σ : Mm} {r : Int32 × Mm} (h : F_X11_hits_36 s0 σ = some r) : Z m_X11_hits S (Qi r) 36 [] [.int (s0)] σ := by
  unfold F_X11_hits_36 at h
  cases h
  exact z_ireturn dX11_hits_36 rfl rfl ⟨rfl, rfl⟩
def F_X11_hits_28 (x1 : Int32) (x3 : Int32) (x4 : Int32) (σ : Mm) : Option (Int32 × Mm) := (bnd (F_X11_hitsTurned x1 x3 x4 σ) (fun v τ => (F_X11_hits_36 v τ)))
set_option maxRecDepth 20000 in
theorem zb_X11_hits_28 {S : Shp} {x1 : Int32} {x3 : Int32} {x4 : Int32} {σ : Mm} {r : Int32 × Mm} (h : F_X11_hits_28 x1 x3 x4 σ = some r) : Z m_X11_hits S (Qi r) 28 [(0, .ref (sL S 0 0 0)), (1, .int (x1)), (3, .int (x3)), (4, .int (x4))] [] σ := by
  unfold F_X11_hits_28 at h
  refine z_aload_n dX11_hits_28 rfl 0 rfl ?_
  refine z_iload_n dX11_hits_29 rfl 1 rfl ?_
  refine z_iload_n dX11_hits_30 rfl 2 rfl ?_
  refine z_iload dX11_hits_31 3 rfl ?_
  obtain ⟨v, τ, hc, h⟩ := bnd_e h
  refine z_callV (M' := m_X11_hitsTurned) (t := 0) (i := 0) (k := 0) (As := [.int (x1), .int (x3), .int (x4)]) (rest := []) kl_11_247 oy_X11_hitsTurned ⟨Nat.le_of_ble_eq_true rfl, Nat.le_of_ble_eq_true rfl⟩ rfl rfl rfl rfl (Nat.le_of_ble_eq_true rfl) rfl dX11_hits_33 (c_X11_hitsTurned hc) (fun v2 τ2 hq => ?_)
  obtain ⟨rfl, hτ⟩ := hq
  subst τ2
  change Z _ _ _ _ _ [.int (v)] _
  refine Z.lv [] rfl ?_
  exact zb_X11_hits_36 h
def F_X11_hits (x1 : Int32) (x2 : Int32) (x3 : Int32) (x4 : Int32) (x5 : Int32) (σ : Mm) : Option (Int32 × Mm) := (if okP σ = true then (if (f_X11_isAsked x1 x2 x5 σ) = 0 then some ((-1), σ) else (if (f_X11_isDegree x3) = 0 then some ((-1), σ) else (bnv (F_X11_lookAt x2 x5 ((-1)) σ) (fun τ => (F_X11_hits_28 x1 x3 x4 τ))))) else none)
set_option maxRecDepth 20000 in
theorem zb_X11_hits {S : Shp} {x1 : Int32} {x2 : Int32} {x3 : Int32} {x4 : Int32} {x5 : Int32} {σ : Mm} {r : Int32 × Mm} (h : F_X11_hits x1 x2 x3 x4 x5 σ = some r) : Z m_X11_hits S (Qi r) 0 [(0, .ref (sL S 0 0 0)), (1, .int (x1)), (2, .int (x2)), (3, .int (x3)), (4, .int (x4)), (5, .int (x5))] [] σ := by
  unfold F_X11_hits at h
  obtain ⟨g1, h⟩ := gd h
  refine z_aload_n dX11_hits_0 rfl 0 rfl ?_
  refine z_iload_n dX11_hits_1 rfl 1 rfl ?_
  refine z_iload_n dX11_hits_2 rfl 2 rfl ?_
  refine z_iload dX11_hits_3 5 rfl ?_
  have hp := g1
  refine z_callV (M' := m_X11_isAsked) (t := 0) (i := 0) (k := 0) (As := [.int (x1), .int (x2), .int (x5)]) (rest := []) kl_11_239 oy_X11_isAsked ⟨Nat.le_of_ble_eq_true rfl, Nat.le_of_ble_eq_true rfl⟩ rfl rfl rfl rfl (Nat.le_of_ble_eq_true rfl) rfl dX11_hits_5 (c_X11_isAsked hp rfl) (fun v τ hq => ?_)
  obtain ⟨rfl, hτ⟩ := hq
  subst τ
  change Z _ _ _ _ _ [.int (f_X11_isAsked x1 x2 x5 σ)] _
  refine z_if_eq (tgt := 18) dX11_hits_8 (by decide) (fun q => ?_) (fun q => ?_)
  · have h := (if_pos q).symm.trans h
    refine z_iconst (v := (-1)) dX11_hits_18 (by decide) ?_
    cases h
    exact z_ireturn dX11_hits_19 rfl rfl ⟨rfl, rfl⟩
  · have h := (if_neg q).symm.trans h
    refine z_iload_n dX11_hits_11 rfl 3 rfl ?_
    refine z_callS (M' := m_X11_isDegree) (As := [.int (x3)]) (rest := []) kl_11_180 oy_X11_isDegree ⟨Nat.le_of_ble_eq_true rfl, Nat.le_of_ble_eq_true rfl⟩ rfl (Nat.le_of_ble_eq_true rfl) rfl dX11_hits_12 (c_X11_isDegree rfl) (fun v τ hq => ?_)
    obtain ⟨rfl, hτ⟩ := hq
    subst τ
    change Z _ _ _ _ _ [.int (f_X11_isDegree x3)] _
    refine z_if_ne (tgt := 20) dX11_hits_15 (by decide) (fun q => ?_) (fun q => ?_)
    · have h := (if_neg q).symm.trans h
      refine z_aload_n dX11_hits_20 rfl 0 rfl ?_
      refine z_iload_n dX11_hits_21 rfl 2 rfl ?_
      refine z_iload dX11_hits_22 5 rfl ?_
      refine z_iconst (v := (-1)) dX11_hits_24 (by decide) ?_
      obtain ⟨τ, hc, h⟩ := bnv_e h
      refine z_callV (M' := m_X11_lookAt) (t := 0) (i := 0) (k := 0) (As := [.int (x2), .int (x5), .int ((-1))]) (rest := []) kl_11_243 oy_X11_lookAt ⟨Nat.le_of_ble_eq_true rfl, Nat.le_of_ble_eq_true rfl⟩ rfl rfl rfl rfl (Nat.le_of_ble_eq_true rfl) rfl dX11_hits_25 (c_X11_lookAt hc) (fun v2 τ2 hq => ?_)
      obtain ⟨rfl, hτ⟩ := hq
      subst τ2
      change Z _ _ _ _ _ [] _
      refine Z.lv [0, 1, 3, 4] rfl ?_
      exact zb_X11_hits_28 h
    · have h := (if_pos q).symm.trans h
      refine z_iconst (v := (-1)) dX11_hits_18 (by decide) ?_
      cases h
      exact z_ireturn dX11_hits_19 rfl rfl ⟨rfl, rfl⟩
/-- SkyStones.hits(IIIZI)I -/
theorem c_X11_hits {S : Shp} {x1 : Int32} {x2 : Int32} {x3 : Int32} {x4 : Int32} {x5 : Int32} {σ : Mm} {r : Int32 × Mm} (h : F_X11_hits x1 x2 x3 x4 x5 σ = some r) : Ct m_X11_hits S [.ref (sL S 0 0 0), .int (x1), .int (x2), .int (x3), .int (x4), .int (x5)] σ (Qi r) := Ct.of (by decide +kernel) (Nat.le_of_ble_eq_true rfl) (zb_X11_hits h)
def F_X11_hitsOf_81 (rc5 : Int32 → Int32 → Int32 → Int32 → Mm → Option (Int32 × Mm)) (x1 : Int32) (x2 : Int32) (x3 : Int32) (x4 : Int32) (σ : Mm) : Option (Int32 × Mm) := (rc5 x1 x2 x3 (x4 + 1) σ)
set_option maxRecDepth 20000 in
theorem zb_X11_hitsOf_81 {S : Shp} {rc5 : Int32 → Int32 → Int32 → Int32 → Mm → Option (Int32 × Mm)} (hrc5 : ∀ {x1 : Int32} {x2 : Int32} {x3 : Int32} {x4 : Int32} {σ : Mm} {r : Int32 × Mm}, rc5 x1 x2 x3 x4 σ = some r → Z m_X11_hitsOf S (Qi r) 5 [(0, .ref (sL S 0 0 0)), (1, .int (x1)), (2, .int (x2)), (3, .int (x3)), (4, .int (x4))] [] σ) {x1 : Int32} {x2 : Int32} {x3 : Int32} {x4 : Int32} {σ : Mm} {r : Int32 × Mm} (h : F_X11_hitsOf_81 rc5 x1 x2 x3 x4 σ = some r) : Z m_X11_hitsOf S (Qi r) 81 [(0, .ref (sL S 0 0 0)), (1, .int (x1)), (2, .int (x2)), (3, .int (x3)), (4, .int (x4))] [] σ := by
  unfold F_X11_hitsOf_81 at h
  refine z_iinc (j := 4) (v := x4 + 1) (lv' := [(0, .ref (sL S 0 0 0)), (1, .int (x1)), (2, .int (x2)), (3, .int (x3)), (4, .int (x4 + 1))]) dX11_hitsOf_81 rfl rfl (by decide) [1, 2, 3, 4, 0] rfl ?_
  refine z_goto (tgt := 5) dX11_hitsOf_84 (by decide) ?_
  exact hrc5 h
def F_X11_hitsOf_75 (rc5 : Int32 → Int32 → Int32 → Int32 → Mm → Option (Int32 × Mm)) (x1 : Int32) (x2 : Int32) (x3 : Int32) (x4 : Int32) (s0 : Int32) (σ : Mm) : Option (Int32 × Mm) := (if s0 = 0 then (F_X11_hitsOf_81 rc5 x1 x2 x3 x4 σ) else (F_X11_hitsOf_81 rc5 x1 x2 (x3 + 1) x4 σ))
set_option maxRecDepth 20000 in
theorem zb_X11_hitsOf_75 {S : Shp} {rc5 : Int32 → Int32 → Int32 → Int32 → Mm → Option (Int32 × Mm)} (hrc5 : ∀ {x1 : Int32} {x2 : Int32} {x3 : Int32} {x4 : Int32} {σ : Mm} {r : Int32 × Mm}, rc5 x1 x2 x3 x4 σ = some r → Z m_X11_hitsOf S (Qi r) 5 [(0, .ref (sL S 0 0 0)), (1, .int (x1)), (2, .int (x2)), (3, .int (x3)), (4, .int (x4))] [] σ) {x1 : Int32} {x2 : Int32} {x3 : Int32} {x4 : Int32} {s0 : Int32} {σ : Mm} {r : Int32 × Mm} (h : F_X11_hitsOf_75 rc5 x1 x2 x3 x4 s0 σ = some r) : Z m_X11_hitsOf S (Qi r) 75 [(0, .ref (sL S 0 0 0)), (1, .int (x1)), (2, .int (x2)), (3, .int (x3)), (4, .int (x4))] [.int (s0)] σ := by
  unfold F_X11_hitsOf_75 at h
  refine z_if_eq (tgt := 81) dX11_hitsOf_75 (by decide) (fun q => ?_) (fun q => ?_)
  · have h := (if_pos q).symm.trans h
    exact zb_X11_hitsOf_81 hrc5 h
  · have h := (if_neg q).symm.trans h
    refine z_iinc (j := 3) (v := x3 + 1) (lv' := [(0, .ref (sL S 0 0 0)), (1, .int (x1)), (2, .int (x2)), (3, .int (x3 + 1)), (4, .int (x4))]) dX11_hitsOf_78 rfl rfl (by decide) [1, 2, 3, 0, 4] rfl ?_
    exact zb_X11_hitsOf_81 hrc5 h
def F_X11_hitsOf_52 (rc5 : Int32 → Int32 → Int32 → Int32 → Mm → Option (Int32 × Mm)) (x1 : Int32) (x2 : Int32) (x3 : Int32) (x4 : Int32) (s0 : Int32) (σ : Mm) : Option (Int32 × Mm) := (if s0 = 0 then (F_X11_hitsOf_81 rc5 x1 x2 x3 x4 σ) else (if inb x4 182 = true then (bnd (F_X11_strikes (mA σ 0 0 24 x4.toNatClampNeg) x2 0 σ) (fun v τ => (F_X11_hitsOf_75 rc5 x1 x2 x3 x4 v τ))) else none))
set_option maxRecDepth 20000 in
theorem zb_X11_hitsOf_52 {S : Shp} {rc5 : Int32 → Int32 → Int32 → Int32 → Mm → Option (Int32 × Mm)} (hrc5 : ∀ {x1 : Int32} {x2 : Int32} {x3 : Int32} {x4 : Int32} {σ : Mm} {r : Int32 × Mm}, rc5 x1 x2 x3 x4 σ = some r → Z m_X11_hitsOf S (Qi r) 5 [(0, .ref (sL S 0 0 0)), (1, .int (x1)), (2, .int (x2)), (3, .int (x3)), (4, .int (x4))] [] σ) {x1 : Int32} {x2 : Int32} {x3 : Int32} {x4 : Int32} {s0 : Int32} {σ : Mm} {r : Int32 × Mm} (h : F_X11_hitsOf_52 rc5 x1 x2 x3 x4 s0 σ = some r) : Z m_X11_hitsOf S (Qi r) 52 [(0, .ref (sL S 0 0 0)), (1, .int (x1)), (2, .int (x2)), (3, .int (x3)), (4, .int (x4))] [.int (s0)] σ := by
  unfold F_X11_hitsOf_52 at h
  refine z_istore (lv' := [(0, .ref (sL S 0 0 0)), (1, .int (x1)), (2, .int (x2)), (3, .int (x3)), (4, .int (x4)), (6, .int (s0))]) dX11_hitsOf_52 (by decide) [1, 2, 3, 4, 5, 0] rfl ?_
  refine z_iload dX11_hitsOf_54 5 rfl ?_
  refine z_if_eq (tgt := 81) dX11_hitsOf_56 (by decide) (fun q => ?_) (fun q => ?_)
  · have h := (if_pos q).symm.trans h
    refine Z.lv [0, 1, 2, 3, 4] rfl ?_
    exact zb_X11_hitsOf_81 hrc5 h
  · have h := (if_neg q).symm.trans h
    obtain ⟨g2, h⟩ := gd h
    refine z_aload_n dX11_hitsOf_59 rfl 0 rfl ?_
    refine z_aload_n dX11_hitsOf_60 rfl 0 rfl ?_
    refine gf_11_53 rfl dX11_hitsOf_61 ?_
    refine gf_11_250 rfl dX11_hitsOf_64 ?_
    refine z_iload dX11_hitsOf_67 4 rfl ?_
    refine ia_0_24 (inb_in g2) dX11_hitsOf_69 ?_
    refine z_iload_n dX11_hitsOf_70 rfl 2 rfl ?_
    refine z_iconst (v := 0) dX11_hitsOf_71 (by decide) ?_
    obtain ⟨v, τ, hc, h⟩ := bnd_e h
    refine z_callV (M' := m_X11_strikes) (t := 0) (i := 0) (k := 0) (As := [.int (mA σ 0 0 24 x4.toNatClampNeg), .int (x2), .int (0)]) (rest := []) kl_11_253 oy_X11_strikes ⟨Nat.le_of_ble_eq_true rfl, Nat.le_of_ble_eq_true rfl⟩ rfl rfl rfl rfl (Nat.le_of_ble_eq_true rfl) rfl dX11_hitsOf_72 (c_X11_strikes hc) (fun v2 τ2 hq => ?_)
    obtain ⟨rfl, hτ⟩ := hq
    subst τ2
    change Z _ _ _ _ _ [.int (v)] _
    refine Z.lv [0, 1, 2, 3, 4] rfl ?_
    exact zb_X11_hitsOf_75 hrc5 h
def F_X11_hitsOf_47 (rc5 : Int32 → Int32 → Int32 → Int32 → Mm → Option (Int32 × Mm)) (x1 : Int32) (x2 : Int32) (x3 : Int32) (x4 : Int32) (σ : Mm) : Option (Int32 × Mm) := (F_X11_hitsOf_52 rc5 x1 x2 x3 x4 1 σ)
set_option maxRecDepth 20000 in
theorem zb_X11_hitsOf_47 {S : Shp} {rc5 : Int32 → Int32 → Int32 → Int32 → Mm → Option (Int32 × Mm)} (hrc5 : ∀ {x1 : Int32} {x2 : Int32} {x3 : Int32} {x4 : Int32} {σ : Mm} {r : Int32 × Mm}, rc5 x1 x2 x3 x4 σ = some r → Z m_X11_hitsOf S (Qi r) 5 [(0, .ref (sL S 0 0 0)), (1, .int (x1)), (2, .int (x2)), (3, .int (x3)), (4, .int (x4))] [] σ) {x1 : Int32} {x2 : Int32} {x3 : Int32} {x4 : Int32} {σ : Mm} {r : Int32 × Mm} (h : F_X11_hitsOf_47 rc5 x1 x2 x3 x4 σ = some r) : Z m_X11_hitsOf S (Qi r) 47 [(0, .ref (sL S 0 0 0)), (1, .int (x1)), (2, .int (x2)), (3, .int (x3)), (4, .int (x4))] [] σ := by
  unfold F_X11_hitsOf_47 at h
  refine z_iconst (v := 1) dX11_hitsOf_47 (by decide) ?_
  refine z_goto (tgt := 52) dX11_hitsOf_48 (by decide) ?_
  exact zb_X11_hitsOf_52 hrc5 h
def B_X11_hitsOf_5 (rc5 : Int32 → Int32 → Int32 → Int32 → Mm → Option (Int32 × Mm)) (x1 : Int32) (x2 : Int32) (x3 : Int32) (x4 : Int32) (σ : Mm) : Option (Int32 × Mm) := (if (mA σ 0 0 15 8) ≤ x4 then some (x3, σ) else (if inb x4 182 = true then (if ((mA σ 0 0 23 x4.toNatClampNeg) / (14 : Int32)) = x1 then (F_X11_hitsOf_47 rc5 x1 x2 x3 x4 σ) else (if ((mA σ 0 0 23 x4.toNatClampNeg) - (mA σ 0 0 23 x4.toNatClampNeg) / (14 : Int32) * (14 : Int32)) = x1 then (F_X11_hitsOf_47 rc5 x1 x2 x3 x4 σ) else (F_X11_hitsOf_52 rc5 x1 x2 x3 x4 0 σ))) else none))
set_option maxRecDepth 20000 in
theorem zB_X11_hitsOf_5 {S : Shp} {rc5 : Int32 → Int32 → Int32 → Int32 → Mm → Option (Int32 × Mm)} (hrc5 : ∀ {x1 : Int32} {x2 : Int32} {x3 : Int32} {x4 : Int32} {σ : Mm} {r : Int32 × Mm}, rc5 x1 x2 x3 x4 σ = some r → Z m_X11_hitsOf S (Qi r) 5 [(0, .ref (sL S 0 0 0)), (1, .int (x1)), (2, .int (x2)), (3, .int (x3)), (4, .int (x4))] [] σ) {x1 : Int32} {x2 : Int32} {x3 : Int32} {x4 : Int32} {σ : Mm} {r : Int32 × Mm} (h : B_X11_hitsOf_5 rc5 x1 x2 x3 x4 σ = some r) : Z m_X11_hitsOf S (Qi r) 5 [(0, .ref (sL S 0 0 0)), (1, .int (x1)), (2, .int (x2)), (3, .int (x3)), (4, .int (x4))] [] σ := by
  unfold B_X11_hitsOf_5 at h
  refine z_iload dX11_hitsOf_5 4 rfl ?_
  refine z_aload_n dX11_hitsOf_7 rfl 0 rfl ?_
  refine gf_11_53 rfl dX11_hitsOf_8 ?_
  refine gf_11_210 rfl dX11_hitsOf_11 ?_
  refine z_icmp_ge (tgt := 87) dX11_hitsOf_14 (by decide) (fun q => ?_) (fun q => ?_)
  · have h := (if_pos q).symm.trans h
    refine z_iload_n dX11_hitsOf_87 rfl 3 rfl ?_
    cases h
    exact z_ireturn dX11_hitsOf_88 rfl rfl ⟨rfl, rfl⟩
  · have h := (if_neg q).symm.trans h
    obtain ⟨g1, h⟩ := gd h
    refine z_aload_n dX11_hitsOf_17 rfl 0 rfl ?_
    refine gf_11_53 rfl dX11_hitsOf_18 ?_
    refine gf_11_257 rfl dX11_hitsOf_21 ?_
    refine z_iload dX11_hitsOf_24 4 rfl ?_
    refine ia_0_23 (inb_in g1) dX11_hitsOf_26 ?_
    refine z_istore (lv' := [(0, .ref (sL S 0 0 0)), (1, .int (x1)), (2, .int (x2)), (3, .int (x3)), (4, .int (x4)), (5, .int (mA σ 0 0 23 x4.toNatClampNeg))]) dX11_hitsOf_27 (by decide) [1, 2, 3, 4, 5, 0] rfl ?_
    refine z_iload dX11_hitsOf_29 5 rfl ?_
    refine z_bipush (v := 14) dX11_hitsOf_31 (by decide) ?_
    refine z_idiv dX11_hitsOf_33 (by decide) ?_
    refine z_iload_n dX11_hitsOf_34 rfl 1 rfl ?_
    refine z_icmp_eq (tgt := 47) dX11_hitsOf_35 (by decide) (fun q => ?_) (fun q => ?_)
    · have h := (if_pos q).symm.trans h
      refine Z.lv [0, 1, 2, 3, 4] rfl ?_
      exact zb_X11_hitsOf_47 hrc5 h
    · have h := (if_neg q).symm.trans h
      refine z_iload dX11_hitsOf_38 5 rfl ?_
      refine z_bipush (v := 14) dX11_hitsOf_40 (by decide) ?_
      refine z_irem dX11_hitsOf_42 (by decide) ?_
      refine z_iload_n dX11_hitsOf_43 rfl 1 rfl ?_
      refine z_icmp_ne (tgt := 51) dX11_hitsOf_44 (by decide) (fun q => ?_) (fun q => ?_)
      · have h := (if_neg q).symm.trans h
        refine z_iconst (v := 0) dX11_hitsOf_51 (by decide) ?_
        refine Z.lv [0, 1, 2, 3, 4] rfl ?_
        exact zb_X11_hitsOf_52 hrc5 h
      · have h := (if_pos q).symm.trans h
        refine Z.lv [0, 1, 2, 3, 4] rfl ?_
        exact zb_X11_hitsOf_47 hrc5 h
def F_X11_hitsOf_5 : Nat → Int32 → Int32 → Int32 → Int32 → Mm → Option (Int32 × Mm)
  | 0 => fun _ _ _ _ _ => none
  | n + 1 => B_X11_hitsOf_5 (F_X11_hitsOf_5 n)
theorem zl_X11_hitsOf_5 {S : Shp} : ∀ (nn : Nat) {x1 : Int32} {x2 : Int32} {x3 : Int32} {x4 : Int32} {σ : Mm} {r : Int32 × Mm}, F_X11_hitsOf_5 nn x1 x2 x3 x4 σ = some r → Z m_X11_hitsOf S (Qi r) 5 [(0, .ref (sL S 0 0 0)), (1, .int (x1)), (2, .int (x2)), (3, .int (x3)), (4, .int (x4))] [] σ := by
  intro nn
  induction nn with
  | zero => intro x1 x2 x3 x4 σ r h; cases h
  | succ nn ih => intro x1 x2 x3 x4 σ r h; exact zB_X11_hitsOf_5 @ih h
def F_X11_hitsOf (x1 : Int32) (x2 : Int32) (σ : Mm) : Option (Int32 × Mm) := (F_X11_hitsOf_5 FU x1 x2 0 0 σ)
set_option maxRecDepth 20000 in
theorem zb_X11_hitsOf {S : Shp} {x1 : Int32} {x2 : Int32} {σ : Mm} {r : Int32 × Mm} (h : F_X11_hitsOf x1 x2 σ = some r) : Z m_X11_hitsOf S (Qi r) 0 [(0, .ref (sL S 0 0 0)), (1, .int (x1)), (2, .int (x2))] [] σ := by
  unfold F_X11_hitsOf at h
  refine z_iconst (v := 0) dX11_hitsOf_0 (by decide) ?_
  refine z_istore_n (lv' := [(0, .ref (sL S 0 0 0)), (1, .int (x1)), (2, .int (x2)), (3, .int (0))]) dX11_hitsOf_1 rfl (by decide) [1, 2, 3, 0] rfl ?_
  refine z_iconst (v := 0) dX11_hitsOf_2 (by decide) ?_
  refine z_istore (lv' := [(0, .ref (sL S 0 0 0)), (1, .int (x1)), (2, .int (x2)), (3, .int (0)), (4, .int (0))]) dX11_hitsOf_3 (by decide) [1, 2, 3, 4, 0] rfl ?_
  exact zl_X11_hitsOf_5 FU h
/-- SkyStones.hitsOf(II)I -/
theorem c_X11_hitsOf {S : Shp} {x1 : Int32} {x2 : Int32} {σ : Mm} {r : Int32 × Mm} (h : F_X11_hitsOf x1 x2 σ = some r) : Ct m_X11_hitsOf S [.ref (sL S 0 0 0), .int (x1), .int (x2)] σ (Qi r) := Ct.of (by decide +kernel) (Nat.le_of_ble_eq_true rfl) (zb_X11_hitsOf h)
