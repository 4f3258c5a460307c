def F_X11_seen_57 (s0 : Int64) (σ : Mm) : Option (Int64 × Mm) := some (s0, σ)
set_option maxRecDepth 20000 in
theorem zb_X11_seen_57 {S : Shp} {s0 : Int64} {σ : Mm} {r : Int64 × Mm} (h : F_X11_seen_57 s0 σ = some r) : Z m_X11_seen S (Ql r) 57 [] [.long (s0)] σ := by
  unfold F_X11_seen_57 at h
  cases h
  exact z_lreturn dX11_seen_57 rfl ⟨rfl, rfl⟩
def F_X11_seen (x1 : Int32) (x2 : Int32) (x3 : Int32) (x4 : Int32) (σ : Mm) : Option (Int64 × Mm) := (if x1 < 0 then some ((-1), σ) else (if (12 : Int32) < x1 then some ((-1), σ) else (if x2 < 0 then some ((-1), σ) else (if (13 : Int32) < x2 then some ((-1), σ) else (if x4 < (1 : Int32) then some ((-1), σ) else (if (9 : Int32) < x4 then some ((-1), σ) else (if x3 < 0 then some ((-1), σ) else (if x3 ≤ x4 then (bnl (F_X11_ways x1 x2 x3 (x4 - x3) σ) (fun v τ => (F_X11_seen_57 v τ))) else some ((-1), σ)))))))))
set_option maxRecDepth 20000 in
theorem zb_X11_seen {S : Shp} {x1 : Int32} {x2 : Int32} {x3 : Int32} {x4 : Int32} {σ : Mm} {r : Int64 × Mm} (h : F_X11_seen x1 x2 x3 x4 σ = some r) : Z m_X11_seen S (Ql r) 0 [(0, .ref (sL S 0 0 0)), (1, .int (x1)), (2, .int (x2)), (3, .int (x3)), (4, .int (x4))] [] σ := by
  unfold F_X11_seen at h
  refine z_iload_n dX11_seen_0 rfl 1 rfl ?_
  refine z_if_lt (tgt := 43) dX11_seen_1 (by decide) (fun q => ?_) (fun q => ?_)
  · have h := (if_pos q).symm.trans h
    refine z_ldc2 qw_1025 dX11_seen_43 ?_
    cases h
    exact z_lreturn dX11_seen_46 rfl ⟨rfl, rfl⟩
  · have h := (if_neg q).symm.trans h
    refine z_iload_n dX11_seen_4 rfl 1 rfl ?_
    refine z_bipush (v := 12) dX11_seen_5 (by decide) ?_
    refine z_icmp_gt (tgt := 43) dX11_seen_7 (by decide) (fun q => ?_) (fun q => ?_)
    · have h := (if_pos q).symm.trans h
      refine z_ldc2 qw_1025 dX11_seen_43 ?_
      cases h
      exact z_lreturn dX11_seen_46 rfl ⟨rfl, rfl⟩
    · have h := (if_neg q).symm.trans h
      refine z_iload_n dX11_seen_10 rfl 2 rfl ?_
      refine z_if_lt (tgt := 43) dX11_seen_11 (by decide) (fun q => ?_) (fun q => ?_)
      · have h := (if_pos q).symm.trans h
        refine z_ldc2 qw_1025 dX11_seen_43 ?_
        cases h
        exact z_lreturn dX11_seen_46 rfl ⟨rfl, rfl⟩
      · have h := (if_neg q).symm.trans h
        refine z_iload_n dX11_seen_14 rfl 2 rfl ?_
        refine z_bipush (v := 13) dX11_seen_15 (by decide) ?_
        refine z_icmp_gt (tgt := 43) dX11_seen_17 (by decide) (fun q => ?_) (fun q => ?_)
        · have h := (if_pos q).symm.trans h
          refine z_ldc2 qw_1025 dX11_seen_43 ?_
          cases h
          exact z_lreturn dX11_seen_46 rfl ⟨rfl, rfl⟩
        · have h := (if_neg q).symm.trans h
          refine z_iload dX11_seen_20 4 rfl ?_
          refine z_iconst (v := 1) dX11_seen_22 (by decide) ?_
          refine z_icmp_lt (tgt := 43) dX11_seen_23 (by decide) (fun q => ?_) (fun q => ?_)
          · have h := (if_pos q).symm.trans h
            refine z_ldc2 qw_1025 dX11_seen_43 ?_
            cases h
            exact z_lreturn dX11_seen_46 rfl ⟨rfl, rfl⟩
          · have h := (if_neg q).symm.trans h
            refine z_iload dX11_seen_26 4 rfl ?_
            refine z_bipush (v := 9) dX11_seen_28 (by decide) ?_
            refine z_icmp_gt (tgt := 43) dX11_seen_30 (by decide) (fun q => ?_) (fun q => ?_)
            · have h := (if_pos q).symm.trans h
              refine z_ldc2 qw_1025 dX11_seen_43 ?_
              cases h
              exact z_lreturn dX11_seen_46 rfl ⟨rfl, rfl⟩
            · have h := (if_neg q).symm.trans h
              refine z_iload_n dX11_seen_33 rfl 3 rfl ?_
              refine z_if_lt (tgt := 43) dX11_seen_34 (by decide) (fun q => ?_) (fun q => ?_)
              · have h := (if_pos q).symm.trans h
                refine z_ldc2 qw_1025 dX11_seen_43 ?_
                cases h
                exact z_lreturn dX11_seen_46 rfl ⟨rfl, rfl⟩
              · have h := (if_neg q).symm.trans h
                refine z_iload_n dX11_seen_37 rfl 3 rfl ?_
                refine z_iload dX11_seen_38 4 rfl ?_
                refine z_icmp_le (tgt := 47) dX11_seen_40 (by decide) (fun q => ?_) (fun q => ?_)
                · have h := (if_pos q).symm.trans h
                  refine z_iload_n dX11_seen_47 rfl 1 rfl ?_
                  refine z_iload_n dX11_seen_48 rfl 2 rfl ?_
                  refine z_iload_n dX11_seen_49 rfl 3 rfl ?_
                  refine z_iload dX11_seen_50 4 rfl ?_
                  refine z_iload_n dX11_seen_52 rfl 3 rfl ?_
                  refine z_isub dX11_seen_53 ?_
                  obtain ⟨v, τ, hc, h⟩ := bnl_e h
                  refine z_callS (M' := m_X11_ways) (As := [.int (x1), .int (x2), .int (x3), .int (x4 - x3)]) (rest := []) kl_11_311 oy_X11_ways ⟨Nat.le_of_ble_eq_true rfl, Nat.le_of_ble_eq_true rfl⟩ rfl (Nat.le_of_ble_eq_true rfl) rfl dX11_seen_54 (c_X11_ways hc) (fun v2 τ2 hq => ?_)
                  obtain ⟨rfl, hτ⟩ := hq
                  subst τ2
                  change Z _ _ _ _ _ [.long (v)] _
                  refine Z.lv [] rfl ?_
                  exact zb_X11_seen_57 h
                · have h := (if_neg q).symm.trans h
                  refine z_ldc2 qw_1025 dX11_seen_43 ?_
                  cases h
                  exact z_lreturn dX11_seen_46 rfl ⟨rfl, rfl⟩
/-- SkyStones.seen(IIII)J -/
theorem c_X11_seen {S : Shp} {x1 : Int32} {x2 : Int32} {x3 : Int32} {x4 : Int32} {σ : Mm} {r : Int64 × Mm} (h : F_X11_seen x1 x2 x3 x4 σ = some r) : Ct m_X11_seen S [.ref (sL S 0 0 0), .int (x1), .int (x2), .int (x3), .int (x4)] σ (Ql r) := Ct.of (by decide +kernel) (Nat.le_of_ble_eq_true rfl) (zb_X11_seen h)
def F_X11_site_55 (σ : Mm) : Option (Int32 × Mm) := some ((mA σ 0 0 0 12) - (1 : Int32), σ)
set_option maxRecDepth 20000 in
theorem zb_X11_site_55 {S : Shp} {σ : Mm} {r : Int32 × Mm} (h : F_X11_site_55 σ = some r) : Z m_X11_site S (Qi r) 55 [(0, .ref (sL S 0 0 0))] [] σ := by
  unfold F_X11_site_55 at h
  refine z_aload_n dX11_site_55 rfl 0 rfl ?_
  refine gf_11_85 rfl dX11_site_56 ?_
  refine z_iconst (v := 1) dX11_site_59 (by decide) ?_
  refine z_isub dX11_site_60 ?_
  cases h
  exact z_ireturn dX11_site_61 rfl rfl ⟨rfl, rfl⟩
def F_X11_site_45 (σ : Mm) : Option (Int32 × Mm) := (F_X11_site_55 (setA σ 0 0 0 (upd (mA σ 0 0 0) 12 ((mA σ 0 0 0 12) + (1 : Int32)))))
set_option maxRecDepth 20000 in
theorem zb_X11_site_45 {S : Shp} {σ : Mm} {r : Int32 × Mm} (h : F_X11_site_45 σ = some r) : Z m_X11_site S (Qi r) 45 [(0, .ref (sL S 0 0 0))] [] σ := by
  unfold F_X11_site_45 at h
  refine z_aload_n dX11_site_45 rfl 0 rfl ?_
  refine z_dup dX11_site_46 rfl ?_
  refine gf_11_85 rfl dX11_site_47 ?_
  refine z_iconst (v := 1) dX11_site_50 (by decide) ?_
  refine z_iadd dX11_site_51 ?_
  refine pf_11_85 rfl dX11_site_52 ?_
  exact zb_X11_site_55 h
def F_X11_site_35 (x2 : Int32) (σ : Mm) : Option (Int32 × Mm) := (if inb (mA σ 0 0 0 12) 6 = true then (F_X11_site_45 (setA σ 0 0 4 (upd (mA σ 0 0 4) (mA σ 0 0 0 12).toNatClampNeg x2))) else none)
set_option maxRecDepth 20000 in
theorem zb_X11_site_35 {S : Shp} {x2 : Int32} {σ : Mm} {r : Int32 × Mm} (h : F_X11_site_35 x2 σ = some r) : Z m_X11_site S (Qi r) 35 [(0, .ref (sL S 0 0 0)), (2, .int (x2))] [] σ := by
  unfold F_X11_site_35 at h
  obtain ⟨g2, h⟩ := gd h
  refine z_aload_n dX11_site_35 rfl 0 rfl ?_
  refine gf_11_93 rfl dX11_site_36 ?_
  refine z_aload_n dX11_site_39 rfl 0 rfl ?_
  refine gf_11_85 rfl dX11_site_40 ?_
  refine z_iload_n dX11_site_43 rfl 1 rfl ?_
  refine is_0_4 (inb_in g2) dX11_site_44 ?_
  refine Z.lv [0] rfl ?_
  exact zb_X11_site_45 h
def F_X11_site (x1 : Int32) (x2 : Int32) (σ : Mm) : Option (Int32 × Mm) := (if (6 : Int32) ≤ (mA σ 0 0 0 12) then some ((-1), σ) else (if (f_X11_isDegree x1) = 0 then some ((-1), σ) else (if (f_X11_isDegree x2) = 0 then some ((-1), σ) else (if inb (mA σ 0 0 0 12) 6 = true then (F_X11_site_35 x2 (setA σ 0 0 3 (upd (mA σ 0 0 3) (mA σ 0 0 0 12).toNatClampNeg x1))) else none))))
set_option maxRecDepth 20000 in
theorem zb_X11_site {S : Shp} {x1 : Int32} {x2 : Int32} {σ : Mm} {r : Int32 × Mm} (h : F_X11_site x1 x2 σ = some r) : Z m_X11_site S (Qi r) 0 [(0, .ref (sL S 0 0 0)), (1, .int (x1)), (2, .int (x2))] [] σ := by
  unfold F_X11_site at h
  refine z_aload_n dX11_site_0 rfl 0 rfl ?_
  refine gf_11_85 rfl dX11_site_1 ?_
  refine z_bipush (v := 6) dX11_site_4 (by decide) ?_
  refine z_icmp_ge (tgt := 23) dX11_site_6 (by decide) (fun q => ?_) (fun q => ?_)
  · have h := (if_pos q).symm.trans h
    refine z_iconst (v := (-1)) dX11_site_23 (by decide) ?_
    cases h
    exact z_ireturn dX11_site_24 rfl rfl ⟨rfl, rfl⟩
  · have h := (if_neg q).symm.trans h
    refine z_iload_n dX11_site_9 rfl 1 rfl ?_
    refine z_callS (M' := m_X11_isDegree) (As := [.int (x1)]) (rest := []) kl_11_180 oy_X11_isDegree ⟨Nat.le_of_ble_eq_true rfl, Nat.le_of_ble_eq_true rfl⟩ rfl (Nat.le_of_ble_eq_true rfl) rfl dX11_site_10 (c_X11_isDegree rfl) (fun v τ hq => ?_)
    obtain ⟨rfl, hτ⟩ := hq
    subst τ
    change Z _ _ _ _ _ [.int (f_X11_isDegree x1)] _
    refine z_if_eq (tgt := 23) dX11_site_13 (by decide) (fun q => ?_) (fun q => ?_)
    · have h := (if_pos q).symm.trans h
      refine z_iconst (v := (-1)) dX11_site_23 (by decide) ?_
      cases h
      exact z_ireturn dX11_site_24 rfl rfl ⟨rfl, rfl⟩
    · have h := (if_neg q).symm.trans h
      refine z_iload_n dX11_site_16 rfl 2 rfl ?_
      refine z_callS (M' := m_X11_isDegree) (As := [.int (x2)]) (rest := []) kl_11_180 oy_X11_isDegree ⟨Nat.le_of_ble_eq_true rfl, Nat.le_of_ble_eq_true rfl⟩ rfl (Nat.le_of_ble_eq_true rfl) rfl dX11_site_17 (c_X11_isDegree rfl) (fun v τ hq => ?_)
      obtain ⟨rfl, hτ⟩ := hq
      subst τ
      change Z _ _ _ _ _ [.int (f_X11_isDegree x2)] _
      refine z_if_ne (tgt := 25) dX11_site_20 (by decide) (fun q => ?_) (fun q => ?_)
      · have h := (if_neg q).symm.trans h
        obtain ⟨g1, h⟩ := gd h
        refine z_aload_n dX11_site_25 rfl 0 rfl ?_
        refine gf_11_89 rfl dX11_site_26 ?_
        refine z_aload_n dX11_site_29 rfl 0 rfl ?_
        refine gf_11_85 rfl dX11_site_30 ?_
        refine z_iload_n dX11_site_33 rfl 1 rfl ?_
        refine is_0_3 (inb_in g1) dX11_site_34 ?_
        refine Z.lv [0, 2] rfl ?_
        exact zb_X11_site_35 h
      · have h := (if_pos q).symm.trans h
        refine z_iconst (v := (-1)) dX11_site_23 (by decide) ?_
        cases h
        exact z_ireturn dX11_site_24 rfl rfl ⟨rfl, rfl⟩
/-- SkyStones.site(II)I -/
theorem c_X11_site {S : Shp} {x1 : Int32} {x2 : Int32} {σ : Mm} {r : Int32 × Mm} (h : F_X11_site x1 x2 σ = some r) : Ct m_X11_site S [.ref (sL S 0 0 0), .int (x1), .int (x2)] σ (Qi r) := Ct.of (by decide +kernel) (Nat.le_of_ble_eq_true rfl) (zb_X11_site h)
def F_X11_story_64 (σ : Mm) : Option (Int32 × Mm) := some (mA σ 0 0 15 8, σ)
set_option maxRecDepth 20000 in
theorem zb_X11_story_64 {S : Shp} {σ : Mm} {r : Int32 × Mm} (h : F_X11_story_64 σ = some r) : Z m_X11_story S (Qi r) 64 [(0, .ref (sL S 0 0 0))] [] σ := by
  unfold F_X11_story_64 at h
  refine z_aload_n dX11_story_64 rfl 0 rfl ?_
  refine gf_11_53 rfl dX11_story_65 ?_
  refine gf_11_210 rfl dX11_story_68 ?_
  cases h
  exact z_ireturn dX11_story_71 rfl rfl ⟨rfl, rfl⟩
def F_X11_story_85 (s0 : Int32) (σ : Mm) : Option (Int32 × Mm) := some (s0, σ)
set_option maxRecDepth 20000 in
theorem zb_X11_story_85 {S : Shp} {s0 : Int32} {σ : Mm} {r : Int32 × Mm} (h : F_X11_story_85 s0 σ = some r) : Z m_X11_story S (Qi r) 85 [] [.int (s0)] σ := by
  unfold F_X11_story_85 at h
  cases h
  exact z_ireturn dX11_story_85 rfl rfl ⟨rfl, rfl⟩
def F_X11_story_80 (x2 : Int32) (σ : Mm) : Option (Int32 × Mm) := (bnd (F_X11_hitsNow x2 σ) (fun v τ => (F_X11_story_85 v τ)))
set_option maxRecDepth 20000 in
theorem zb_X11_story_80 {S : Shp} {x2 : Int32} {σ : Mm} {r : Int32 × Mm} (h : F_X11_story_80 x2 σ = some r) : Z m_X11_story S (Qi r) 80 [(0, .ref (sL S 0 0 0)), (2, .int (x2))] [] σ := by
  unfold F_X11_story_80 at h
  refine z_aload_n dX11_story_80 rfl 0 rfl ?_
  refine z_iload_n dX11_story_81 rfl 1 rfl ?_
  obtain ⟨v, τ, hc, h⟩ := bnd_e h
  refine z_callV (M' := m_X11_hitsNow) (t := 0) (i := 0) (k := 0) (As := [.int (x2)]) (rest := []) kl_11_288 oy_X11_hitsNow ⟨Nat.le_of_ble_eq_true rfl, Nat.le_of_ble_eq_true rfl⟩ rfl rfl rfl rfl (Nat.le_of_ble_eq_true rfl) rfl dX11_story_82 (c_X11_hitsNow hc) (fun v2 τ2 hq => ?_)
  obtain ⟨rfl, hτ⟩ := hq
  subst τ2
  change Z _ _ _ _ _ [.int (v)] _
  refine Z.lv [] rfl ?_
  exact zb_X11_story_85 h
def F_X11_story_102 (s0 : Int32) (σ : Mm) : Option (Int32 × Mm) := some (s0, σ)
set_option maxRecDepth 20000 in
theorem zb_X11_story_102 {S : Shp} {s0 : Int32} {σ : Mm} {r : Int32 × Mm} (h : F_X11_story_102 s0 σ = some r) : Z m_X11_story S (Qi r) 102 [] [.int (s0)] σ := by
  unfold F_X11_story_102 at h
  cases h
  exact z_ireturn dX11_story_102 rfl rfl ⟨rfl, rfl⟩
def F_X11_story_95 (σ : Mm) : Option (Int32 × Mm) := (bnd (F_X10_asManyAsUnturned  σ) (fun v τ => (F_X11_story_102 v τ)))
set_option maxRecDepth 20000 in
theorem zb_X11_story_95 {S : Shp} {σ : Mm} {r : Int32 × Mm} (h : F_X11_story_95 σ = some r) : Z m_X11_story S (Qi r) 95 [(0, .ref (sL S 0 0 0))] [] σ := by
  unfold F_X11_story_95 at h
  refine z_aload_n dX11_story_95 rfl 0 rfl ?_
  refine gf_11_67 rfl dX11_story_96 ?_
  obtain ⟨v, τ, hc, h⟩ := bnd_e h
  refine z_callV (M' := m_X10_asManyAsUnturned) (t := 0) (i := 0) (k := 29) (As := []) (rest := []) kl_11_264 oy_X10_asManyAsUnturned ⟨Nat.le_of_ble_eq_true rfl, Nat.le_of_ble_eq_true rfl⟩ rfl rfl rfl rfl (Nat.le_of_ble_eq_true rfl) rfl dX11_story_99 (c_X10_asManyAsUnturned hc) (fun v2 τ2 hq => ?_)
  obtain ⟨rfl, hτ⟩ := hq
  subst τ2
  change Z _ _ _ _ _ [.int (v)] _
  refine Z.lv [] rfl ?_
  exact zb_X11_story_102 h
def F_X11_story (x1 : Int32) (x2 : Int32) (x3 : Int32) (x4 : Int32) (x5 : Int32) (σ : Mm) : Option (Int32 × Mm) := (if x1 < 0 then some ((-1), σ) else (if okP σ = true then (if (mA σ 1 (mP σ 0) 0 14) ≤ x1 then some ((-1), σ) else (if (f_X11_isAsked x2 x3 x4 σ) = 0 then some ((-1), σ) else (if x5 = 0 then (bnv (F_X11_lookAt x3 x4 x1 σ) (fun τ => (F_X11_story_64 τ))) else (if x5 = 1 then (bnv (F_X11_lookAt x3 x4 x1 σ) (fun τ => (F_X11_story_80 x2 τ))) else (if x5 = 2 then (bnv (F_X11_turnAll x2 x3 x4 x1 σ) (fun τ => (F_X11_story_95 τ))) else some ((-1), σ)))))) else none))
set_option maxRecDepth 20000 in
theorem zb_X11_story {S : Shp} {x1 : Int32} {x2 : Int32} {x3 : Int32} {x4 : Int32} {x5 : Int32} {σ : Mm} {r : Int32 × Mm} (h : F_X11_story x1 x2 x3 x4 x5 σ = some r) : Z m_X11_story S (Qi r) 0 [(0, .ref (sL S 0 0 0)), (1, .int (x1)), (2, .int (x2)), (3, .int (x3)), (4, .int (x4)), (5, .int (x5))] [] σ := by
  unfold F_X11_story at h
  refine z_iload_n dX11_story_0 rfl 1 rfl ?_
  refine z_if_lt (tgt := 26) dX11_story_1 (by decide) (fun q => ?_) (fun q => ?_)
  · have h := (if_pos q).symm.trans h
    refine z_iconst (v := (-1)) dX11_story_26 (by decide) ?_
    cases h
    exact z_ireturn dX11_story_27 rfl rfl ⟨rfl, rfl⟩
  · have h := (if_neg q).symm.trans h
    obtain ⟨g1, h⟩ := gd h
    refine z_iload_n dX11_story_4 rfl 1 rfl ?_
    refine z_aload_n dX11_story_5 rfl 0 rfl ?_
    have hp := g1
    refine gf_11_19 rfl dX11_story_6 ?_
    refine gf_11_285 (lv1 (okP_0 hp) rfl) rfl dX11_story_9 ?_
    refine z_icmp_ge (tgt := 26) dX11_story_12 (by decide) (fun q => ?_) (fun q => ?_)
    · have h := (if_pos q).symm.trans h
      refine z_iconst (v := (-1)) dX11_story_26 (by decide) ?_
      cases h
      exact z_ireturn dX11_story_27 rfl rfl ⟨rfl, rfl⟩
    · have h := (if_neg q).symm.trans h
      refine z_aload_n dX11_story_15 rfl 0 rfl ?_
      refine z_iload_n dX11_story_16 rfl 2 rfl ?_
      refine z_iload_n dX11_story_17 rfl 3 rfl ?_
      refine z_iload dX11_story_18 4 rfl ?_
      refine z_callV (M' := m_X11_isAsked) (t := 0) (i := 0) (k := 0) (As := [.int (x2), .int (x3), .int (x4)]) (rest := []) kl_11_239 oy_X11_isAsked ⟨Nat.le_of_ble_eq_true rfl, Nat.le_of_ble_eq_true rfl⟩ rfl rfl rfl rfl (Nat.le_of_ble_eq_true rfl) rfl dX11_story_20 (c_X11_isAsked hp rfl) (fun v τ hq => ?_)
      obtain ⟨rfl, hτ⟩ := hq
      subst τ
      change Z _ _ _ _ _ [.int (f_X11_isAsked x2 x3 x4 σ)] _
      refine z_if_ne (tgt := 28) dX11_story_23 (by decide) (fun q => ?_) (fun q => ?_)
      · have h := (if_neg q).symm.trans h
        refine z_iload dX11_story_28 5 rfl ?_
        by_cases g2 : x5 = 0
        · have h := (if_pos g2).symm.trans h
          refine z_tableIn (tgt := 56) (off := 26) dX11_story_30 (by rw [g2]; decide) (by rw [g2]; decide) (by rw [g2]; rfl) (by decide) ?_
          refine z_aload_n dX11_story_56 rfl 0 rfl ?_
          refine z_iload_n dX11_story_57 rfl 3 rfl ?_
          refine z_iload dX11_story_58 4 rfl ?_
          refine z_iload_n dX11_story_60 rfl 1 rfl ?_
          obtain ⟨τ, hc, h⟩ := bnv_e h
          refine z_callV (M' := m_X11_lookAt) (t := 0) (i := 0) (k := 0) (As := [.int (x3), .int (x4), .int (x1)]) (rest := []) kl_11_243 oy_X11_lookAt ⟨Nat.le_of_ble_eq_true rfl, Nat.le_of_ble_eq_true rfl⟩ rfl rfl rfl rfl (Nat.le_of_ble_eq_true rfl) rfl dX11_story_61 (c_X11_lookAt hc) (fun v2 τ2 hq => ?_)
          obtain ⟨rfl, hτ⟩ := hq
          subst τ2
          change Z _ _ _ _ _ [] _
          refine Z.lv [0] rfl ?_
          exact zb_X11_story_64 h
        · have h := (if_neg g2).symm.trans h
          by_cases g3 : x5 = 1
          · have h := (if_pos g3).symm.trans h
            refine z_tableIn (tgt := 72) (off := 42) dX11_story_30 (by rw [g3]; decide) (by rw [g3]; decide) (by rw [g3]; rfl) (by decide) ?_
            refine z_aload_n dX11_story_72 rfl 0 rfl ?_
            refine z_iload_n dX11_story_73 rfl 3 rfl ?_
            refine z_iload dX11_story_74 4 rfl ?_
            refine z_iload_n dX11_story_76 rfl 1 rfl ?_
            obtain ⟨τ, hc, h⟩ := bnv_e h
            refine z_callV (M' := m_X11_lookAt) (t := 0) (i := 0) (k := 0) (As := [.int (x3), .int (x4), .int (x1)]) (rest := []) kl_11_243 oy_X11_lookAt ⟨Nat.le_of_ble_eq_true rfl, Nat.le_of_ble_eq_true rfl⟩ rfl rfl rfl rfl (Nat.le_of_ble_eq_true rfl) rfl dX11_story_77 (c_X11_lookAt hc) (fun v2 τ2 hq => ?_)
            obtain ⟨rfl, hτ⟩ := hq
            subst τ2
            change Z _ _ _ _ _ [] _
            refine Z.lv [0, 2] rfl ?_
            exact zb_X11_story_80 h
          · have h := (if_neg g3).symm.trans h
            by_cases g4 : x5 = 2
            · have h := (if_pos g4).symm.trans h
              refine z_tableIn (tgt := 86) (off := 56) dX11_story_30 (by rw [g4]; decide) (by rw [g4]; decide) (by rw [g4]; rfl) (by decide) ?_
              refine z_aload_n dX11_story_86 rfl 0 rfl ?_
              refine z_iload_n dX11_story_87 rfl 2 rfl ?_
              refine z_iload_n dX11_story_88 rfl 3 rfl ?_
              refine z_iload dX11_story_89 4 rfl ?_
              refine z_iload_n dX11_story_91 rfl 1 rfl ?_
              obtain ⟨τ, hc, h⟩ := bnv_e h
              refine z_callV (M' := m_X11_turnAll) (t := 0) (i := 0) (k := 0) (As := [.int (x2), .int (x3), .int (x4), .int (x1)]) (rest := []) kl_11_260 oy_X11_turnAll ⟨Nat.le_of_ble_eq_true rfl, Nat.le_of_ble_eq_true rfl⟩ rfl rfl rfl rfl (Nat.le_of_ble_eq_true rfl) rfl dX11_story_92 (c_X11_turnAll hc) (fun v2 τ2 hq => ?_)
              obtain ⟨rfl, hτ⟩ := hq
              subst τ2
              change Z _ _ _ _ _ [] _
              refine Z.lv [0] rfl ?_
              exact zb_X11_story_95 h
            · have h := (if_neg g4).symm.trans h
              refine z_tableOut (tgt := 103) dX11_story_30 (by have eg2 := nei (n := 0) (by decide) g2; have eg3 := nei (n := 1) (by decide) g3; have eg4 := nei (n := 2) (by decide) g4; omega) (by decide) ?_
              refine z_iconst (v := (-1)) dX11_story_103 (by decide) ?_
              cases h
              exact z_ireturn dX11_story_104 rfl rfl ⟨rfl, rfl⟩
      · have h := (if_pos q).symm.trans h
        refine z_iconst (v := (-1)) dX11_story_26 (by decide) ?_
        cases h
        exact z_ireturn dX11_story_27 rfl rfl ⟨rfl, rfl⟩
/-- SkyStones.story(IIIII)I -/
theorem c_X11_story {S : Shp} {x1 : Int32} {x2 : Int32} {x3 : Int32} {x4 : Int32} {x5 : Int32} {σ : Mm} {r : Int32 × Mm} (h : F_X11_story x1 x2 x3 x4 x5 σ = some r) : Ct m_X11_story S [.ref (sL S 0 0 0), .int (x1), .int (x2), .int (x3), .int (x4), .int (x5)] σ (Qi r) := Ct.of (by decide +kernel) (Nat.le_of_ble_eq_true rfl) (zb_X11_story h)
def F_X11_striking_46 (x2 : Int32) (σ : Mm) : Option (Int32 × Mm) := (if inb x2 360 = true then some (mA σ 0 0 33 x2.toNatClampNeg, σ) else none)
set_option maxRecDepth 20000 in
theorem zb_X11_striking_46 {S : Shp} {x2 : Int32} {σ : Mm} {r : Int32 × Mm} (h : F_X11_striking_46 x2 σ = some r) : Z m_X11_striking S (Qi r) 46 [(0, .ref (sL S 0 0 0)), (2, .int (x2))] [] σ := by
  unfold F_X11_striking_46 at h
  obtain ⟨g2, h⟩ := gd h
  refine z_aload_n dX11_striking_46 rfl 0 rfl ?_
  refine gf_11_67 rfl dX11_striking_47 ?_
  refine gf_11_282 rfl dX11_striking_50 ?_
  refine z_iload_n dX11_striking_53 rfl 1 rfl ?_
  refine ia_0_33 (inb_in g2) dX11_striking_54 ?_
  cases h
  exact z_ireturn dX11_striking_55 rfl rfl ⟨rfl, rfl⟩
def F_X11_striking_31 (x2 : Int32) (σ : Mm) : Option (Int32 × Mm) := (bnv (F_X10_tellAfter  σ) (fun τ => (F_X11_striking_46 x2 τ)))
set_option maxRecDepth 20000 in
theorem zb_X11_striking_31 {S : Shp} {x2 : Int32} {σ : Mm} {r : Int32 × Mm} (h : F_X11_striking_31 x2 σ = some r) : Z m_X11_striking S (Qi r) 31 [(0, .ref (sL S 0 0 0)), (2, .int (x2))] [] σ := by
  unfold F_X11_striking_31 at h
  refine z_aload_n dX11_striking_31 rfl 0 rfl ?_
  refine gf_11_67 rfl dX11_striking_32 ?_
  refine z_aload_n dX11_striking_35 rfl 0 rfl ?_
  refine gf_11_53 rfl dX11_striking_36 ?_
  refine z_aload_n dX11_striking_39 rfl 0 rfl ?_
  refine gf_11_60 rfl dX11_striking_40 ?_
  obtain ⟨τ, hc, h⟩ := bnv_e h
  refine z_callV (M' := m_X10_tellAfter) (t := 0) (i := 0) (k := 29) (As := [.ref (sL S 0 0 15), .ref (sL S 0 0 25)]) (rest := []) kl_11_278 oy_X10_tellAfter ⟨Nat.le_of_ble_eq_true rfl, Nat.le_of_ble_eq_true rfl⟩ rfl rfl rfl rfl (Nat.le_of_ble_eq_true rfl) rfl dX11_striking_43 (c_X10_tellAfter hc) (fun v2 τ2 hq => ?_)
  obtain ⟨rfl, hτ⟩ := hq
  subst τ2
  change Z _ _ _ _ _ [] _
  exact zb_X11_striking_46 h
def F_X11_striking (x1 : Int32) (x2 : Int32) (x3 : Int32) (σ : Mm) : Option (Int32 × Mm) := (if (f_X11_isYear x1) = 0 then some ((-1), σ) else (if (f_X11_isDegree x2) = 0 then some ((-1), σ) else (if okP σ = true then (if (f_X11_isKnown x3 σ) = 0 then some ((-1), σ) else (bnv (F_X11_lookAt x1 x3 ((-1)) σ) (fun τ => (F_X11_striking_31 x2 τ)))) else none)))
set_option maxRecDepth 20000 in
theorem zb_X11_striking {S : Shp} {x1 : Int32} {x2 : Int32} {x3 : Int32} {σ : Mm} {r : Int32 × Mm} (h : F_X11_striking x1 x2 x3 σ = some r) : Z m_X11_striking S (Qi r) 0 [(0, .ref (sL S 0 0 0)), (1, .int (x1)), (2, .int (x2)), (3, .int (x3))] [] σ := by
  unfold F_X11_striking at h
  refine z_iload_n dX11_striking_0 rfl 1 rfl ?_
  refine z_callS (M' := m_X11_isYear) (As := [.int (x1)]) (rest := []) kl_11_219 oy_X11_isYear ⟨Nat.le_of_ble_eq_true rfl, Nat.le_of_ble_eq_true rfl⟩ rfl (Nat.le_of_ble_eq_true rfl) rfl dX11_striking_1 (c_X11_isYear rfl) (fun v τ hq => ?_)
  obtain ⟨rfl, hτ⟩ := hq
  subst τ
  change Z _ _ _ _ _ [.int (f_X11_isYear x1)] _
  refine z_if_eq (tgt := 22) dX11_striking_4 (by decide) (fun q => ?_) (fun q => ?_)
  · have h := (if_pos q).symm.trans h
    refine z_iconst (v := (-1)) dX11_striking_22 (by decide) ?_
    cases h
    exact z_ireturn dX11_striking_23 rfl rfl ⟨rfl, rfl⟩
  · have h := (if_neg q).symm.trans h
    refine z_iload_n dX11_striking_7 rfl 2 rfl ?_
    refine z_callS (M' := m_X11_isDegree) (As := [.int (x2)]) (rest := []) kl_11_180 oy_X11_isDegree ⟨Nat.le_of_ble_eq_true rfl, Nat.le_of_ble_eq_true rfl⟩ rfl (Nat.le_of_ble_eq_true rfl) rfl dX11_striking_8 (c_X11_isDegree rfl) (fun v τ hq => ?_)
    obtain ⟨rfl, hτ⟩ := hq
    subst τ
    change Z _ _ _ _ _ [.int (f_X11_isDegree x2)] _
    refine z_if_eq (tgt := 22) dX11_striking_11 (by decide) (fun q => ?_) (fun q => ?_)
    · have h := (if_pos q).symm.trans h
      refine z_iconst (v := (-1)) dX11_striking_22 (by decide) ?_
      cases h
      exact z_ireturn dX11_striking_23 rfl rfl ⟨rfl, rfl⟩
    · have h := (if_neg q).symm.trans h
      obtain ⟨g1, h⟩ := gd h
      refine z_aload_n dX11_striking_14 rfl 0 rfl ?_
      refine z_iload_n dX11_striking_15 rfl 3 rfl ?_
      have hp := g1
      refine z_callV (M' := m_X11_isKnown) (t := 0) (i := 0) (k := 0) (As := [.int (x3)]) (rest := []) kl_11_152 oy_X11_isKnown ⟨Nat.le_of_ble_eq_true rfl, Nat.le_of_ble_eq_true rfl⟩ rfl rfl rfl rfl (Nat.le_of_ble_eq_true rfl) rfl dX11_striking_16 (c_X11_isKnown hp rfl) (fun v τ hq => ?_)
      obtain ⟨rfl, hτ⟩ := hq
      subst τ
      change Z _ _ _ _ _ [.int (f_X11_isKnown x3 σ)] _
      refine z_if_ne (tgt := 24) dX11_striking_19 (by decide) (fun q => ?_) (fun q => ?_)
      · have h := (if_neg q).symm.trans h
        refine z_aload_n dX11_striking_24 rfl 0 rfl ?_
        refine z_iload_n dX11_striking_25 rfl 1 rfl ?_
        refine z_iload_n dX11_striking_26 rfl 3 rfl ?_
        refine z_iconst (v := (-1)) dX11_striking_27 (by decide) ?_
        obtain ⟨τ, hc, h⟩ := bnv_e h
        refine z_callV (M' := m_X11_lookAt) (t := 0) (i := 0) (k := 0) (As := [.int (x1), .int (x3), .int ((-1))]) (rest := []) kl_11_243 oy_X11_lookAt ⟨Nat.le_of_ble_eq_true rfl, Nat.le_of_ble_eq_true rfl⟩ rfl rfl rfl rfl (Nat.le_of_ble_eq_true rfl) rfl dX11_striking_28 (c_X11_lookAt hc) (fun v2 τ2 hq => ?_)
        obtain ⟨rfl, hτ⟩ := hq
        subst τ2
        change Z _ _ _ _ _ [] _
        refine Z.lv [0, 2] rfl ?_
        exact zb_X11_striking_31 h
      · have h := (if_pos q).symm.trans h
        refine z_iconst (v := (-1)) dX11_striking_22 (by decide) ?_
        cases h
        exact z_ireturn dX11_striking_23 rfl rfl ⟨rfl, rfl⟩
/-- SkyStones.striking(III)I -/
theorem c_X11_striking {S : Shp} {x1 : Int32} {x2 : Int32} {x3 : Int32} {σ : Mm} {r : Int32 × Mm} (h : F_X11_striking x1 x2 x3 σ = some r) : Ct m_X11_striking S [.ref (sL S 0 0 0), .int (x1), .int (x2), .int (x3)] σ (Qi r) := Ct.of (by decide +kernel) (Nat.le_of_ble_eq_true rfl) (zb_X11_striking h)
def F_X11_thing_34 (x1 : Int32) (x2 : Int32) (σ : Mm) : Option (Int32 × Mm) := (if x2 = 0 then (if inb x1 14 = true then some (mA σ 0 0 16 x1.toNatClampNeg, σ) else none) else (if x2 = 1 then (if inb x1 14 = true then some (mA σ 0 0 17 x1.toNatClampNeg, σ) else none) else (if x2 = 2 then (if inb x1 14 = true then some (mA σ 0 0 18 x1.toNatClampNeg, σ) else none) else (if x2 = 3 then (if inb x1 14 = true then some (mA σ 0 0 19 x1.toNatClampNeg, σ) else none) else (if x2 = 4 then (if inb x1 14 = true then (if (mA σ 0 0 20 x1.toNatClampNeg) = 0 then some (0, σ) else some (1, σ)) else none) else some ((-1), σ))))))
set_option maxRecDepth 20000 in
theorem zb_X11_thing_34 {S : Shp} {x1 : Int32} {x2 : Int32} {σ : Mm} {r : Int32 × Mm} (h : F_X11_thing_34 x1 x2 σ = some r) : Z m_X11_thing S (Qi r) 34 [(0, .ref (sL S 0 0 0)), (1, .int (x1)), (2, .int (x2))] [] σ := by
  unfold F_X11_thing_34 at h
  refine z_iload_n dX11_thing_34 rfl 2 rfl ?_
  by_cases g2 : x2 = 0
  · have h := (if_pos g2).symm.trans h
    obtain ⟨g11, h⟩ := gd h
    refine z_tableIn (tgt := 68) (off := 33) dX11_thing_35 (by rw [g2]; decide) (by rw [g2]; decide) (by rw [g2]; rfl) (by decide) ?_
    refine z_aload_n dX11_thing_68 rfl 0 rfl ?_
    refine gf_11_53 rfl dX11_thing_69 ?_
    refine gf_11_159 rfl dX11_thing_72 ?_
    refine z_iload_n dX11_thing_75 rfl 1 rfl ?_
    refine ia_0_16 (inb_in g11) dX11_thing_76 ?_
    cases h
    exact z_ireturn dX11_thing_77 rfl rfl ⟨rfl, rfl⟩
  · have h := (if_neg g2).symm.trans h
    by_cases g3 : x2 = 1
    · have h := (if_pos g3).symm.trans h
      obtain ⟨g10, h⟩ := gd h
      refine z_tableIn (tgt := 78) (off := 43) dX11_thing_35 (by rw [g3]; decide) (by rw [g3]; decide) (by rw [g3]; rfl) (by decide) ?_
      refine z_aload_n dX11_thing_78 rfl 0 rfl ?_
      refine gf_11_53 rfl dX11_thing_79 ?_
      refine gf_11_162 rfl dX11_thing_82 ?_
      refine z_iload_n dX11_thing_85 rfl 1 rfl ?_
      refine ia_0_17 (inb_in g10) dX11_thing_86 ?_
      cases h
      exact z_ireturn dX11_thing_87 rfl rfl ⟨rfl, rfl⟩
    · have h := (if_neg g3).symm.trans h
      by_cases g4 : x2 = 2
      · have h := (if_pos g4).symm.trans h
        obtain ⟨g9, h⟩ := gd h
        refine z_tableIn (tgt := 88) (off := 53) dX11_thing_35 (by rw [g4]; decide) (by rw [g4]; decide) (by rw [g4]; rfl) (by decide) ?_
        refine z_aload_n dX11_thing_88 rfl 0 rfl ?_
        refine gf_11_53 rfl dX11_thing_89 ?_
        refine gf_11_165 rfl dX11_thing_92 ?_
        refine z_iload_n dX11_thing_95 rfl 1 rfl ?_
        refine ia_0_18 (inb_in g9) dX11_thing_96 ?_
        cases h
        exact z_ireturn dX11_thing_97 rfl rfl ⟨rfl, rfl⟩
      · have h := (if_neg g4).symm.trans h
        by_cases g5 : x2 = 3
        · have h := (if_pos g5).symm.trans h
          obtain ⟨g8, h⟩ := gd h
          refine z_tableIn (tgt := 98) (off := 63) dX11_thing_35 (by rw [g5]; decide) (by rw [g5]; decide) (by rw [g5]; rfl) (by decide) ?_
          refine z_aload_n dX11_thing_98 rfl 0 rfl ?_
          refine gf_11_53 rfl dX11_thing_99 ?_
          refine gf_11_168 rfl dX11_thing_102 ?_
          refine z_iload_n dX11_thing_105 rfl 1 rfl ?_
          refine ia_0_19 (inb_in g8) dX11_thing_106 ?_
          cases h
          exact z_ireturn dX11_thing_107 rfl rfl ⟨rfl, rfl⟩
        · have h := (if_neg g5).symm.trans h
          by_cases g6 : x2 = 4
          · have h := (if_pos g6).symm.trans h
            obtain ⟨g7, h⟩ := gd h
            refine z_tableIn (tgt := 108) (off := 73) dX11_thing_35 (by rw [g6]; decide) (by rw [g6]; decide) (by rw [g6]; rfl) (by decide) ?_
            refine z_aload_n dX11_thing_108 rfl 0 rfl ?_
            refine gf_11_53 rfl dX11_thing_109 ?_
            refine gf_11_171 rfl dX11_thing_112 ?_
            refine z_iload_n dX11_thing_115 rfl 1 rfl ?_
            refine ia_0_20 (inb_in g7) dX11_thing_116 ?_
            refine z_if_eq (tgt := 124) dX11_thing_117 (by decide) (fun q => ?_) (fun q => ?_)
            · have h := (if_pos q).symm.trans h
              refine z_iconst (v := 0) dX11_thing_124 (by decide) ?_
              cases h
              exact z_ireturn dX11_thing_125 rfl rfl ⟨rfl, rfl⟩
            · have h := (if_neg q).symm.trans h
              refine z_iconst (v := 1) dX11_thing_120 (by decide) ?_
              refine z_goto (tgt := 125) dX11_thing_121 (by decide) ?_
              cases h
              exact z_ireturn dX11_thing_125 rfl rfl ⟨rfl, rfl⟩
          · have h := (if_neg g6).symm.trans h
            refine z_tableOut (tgt := 126) dX11_thing_35 (by have eg2 := nei (n := 0) (by decide) g2; have eg3 := nei (n := 1) (by decide) g3; have eg4 := nei (n := 2) (by decide) g4; have eg5 := nei (n := 3) (by decide) g5; have eg6 := nei (n := 4) (by decide) g6; omega) (by decide) ?_
            refine z_iconst (v := (-1)) dX11_thing_126 (by decide) ?_
            cases h
            exact z_ireturn dX11_thing_127 rfl rfl ⟨rfl, rfl⟩
def F_X11_thing (x1 : Int32) (x2 : Int32) (x3 : Int32) (σ : Mm) : Option (Int32 × Mm) := (if okP σ = true then (if (f_X11_isThing x1 σ) = 0 then some ((-1), σ) else (if (f_X11_isKnown x3 σ) = 0 then some ((-1), σ) else (bnv (F_X2_know (mP σ 0) 0 x3 σ) (fun τ => (F_X11_thing_34 x1 x2 τ))))) else none)
set_option maxRecDepth 20000 in
theorem zb_X11_thing {S : Shp} {x1 : Int32} {x2 : Int32} {x3 : Int32} {σ : Mm} {r : Int32 × Mm} (h : F_X11_thing x1 x2 x3 σ = some r) : Z m_X11_thing S (Qi r) 0 [(0, .ref (sL S 0 0 0)), (1, .int (x1)), (2, .int (x2)), (3, .int (x3))] [] σ := by
  unfold F_X11_thing at h
  obtain ⟨g1, h⟩ := gd h
  refine z_aload_n dX11_thing_0 rfl 0 rfl ?_
  refine z_iload_n dX11_thing_1 rfl 1 rfl ?_
  have hp := g1
  refine z_callV (M' := m_X11_isThing) (t := 0) (i := 0) (k := 0) (As := [.int (x1)]) (rest := []) kl_11_146 oy_X11_isThing ⟨Nat.le_of_ble_eq_true rfl, Nat.le_of_ble_eq_true rfl⟩ rfl rfl rfl rfl (Nat.le_of_ble_eq_true rfl) rfl dX11_thing_2 (c_X11_isThing hp rfl) (fun v τ hq => ?_)
  obtain ⟨rfl, hτ⟩ := hq
  subst τ
  change Z _ _ _ _ _ [.int (f_X11_isThing x1 σ)] _
  refine z_if_eq (tgt := 16) dX11_thing_5 (by decide) (fun q => ?_) (fun q => ?_)
  · have h := (if_pos q).symm.trans h
    refine z_iconst (v := (-1)) dX11_thing_16 (by decide) ?_
    cases h
    exact z_ireturn dX11_thing_17 rfl rfl ⟨rfl, rfl⟩
  · have h := (if_neg q).symm.trans h
    refine z_aload_n dX11_thing_8 rfl 0 rfl ?_
    refine z_iload_n dX11_thing_9 rfl 3 rfl ?_
    refine z_callV (M' := m_X11_isKnown) (t := 0) (i := 0) (k := 0) (As := [.int (x3)]) (rest := []) kl_11_152 oy_X11_isKnown ⟨Nat.le_of_ble_eq_true rfl, Nat.le_of_ble_eq_true rfl⟩ rfl rfl rfl rfl (Nat.le_of_ble_eq_true rfl) rfl dX11_thing_10 (c_X11_isKnown hp rfl) (fun v τ hq => ?_)
    obtain ⟨rfl, hτ⟩ := hq
    subst τ
    change Z _ _ _ _ _ [.int (f_X11_isKnown x3 σ)] _
    refine z_if_ne (tgt := 18) dX11_thing_13 (by decide) (fun q => ?_) (fun q => ?_)
    · have h := (if_neg q).symm.trans h
      refine z_aload_n dX11_thing_18 rfl 0 rfl ?_
      refine gf_11_53 rfl dX11_thing_19 ?_
      refine z_aload_n dX11_thing_22 rfl 0 rfl ?_
      refine gf_11_19 rfl dX11_thing_23 ?_
      refine z_aload_n dX11_thing_26 rfl 0 rfl ?_
      refine gf_11_38 rfl dX11_thing_27 ?_
      refine z_iload_n dX11_thing_30 rfl 3 rfl ?_
      obtain ⟨τ, hc, h⟩ := bnv_e h
      refine z_callV (M' := m_X2_know) (t := 0) (i := 0) (k := 15) (As := [.ref (sL S 1 (mP σ 0) 0), .ref (sL S 2 0 0), .int (x3)]) (rest := []) kl_11_155 oy_X2_know ⟨Nat.le_of_ble_eq_true rfl, Nat.le_of_ble_eq_true rfl⟩ rfl rfl rfl rfl (Nat.le_of_ble_eq_true rfl) rfl dX11_thing_31 (c_X2_know (okP_0 hp) rfl hc) (fun v2 τ2 hq => ?_)
      obtain ⟨rfl, hτ⟩ := hq
      subst τ2
      change Z _ _ _ _ _ [] _
      refine Z.lv [0, 1, 2] rfl ?_
      exact zb_X11_thing_34 h
    · have h := (if_pos q).symm.trans h
      refine z_iconst (v := (-1)) dX11_thing_16 (by decide) ?_
      cases h
      exact z_ireturn dX11_thing_17 rfl rfl ⟨rfl, rfl⟩
/-- SkyStones.thing(III)I -/
theorem c_X11_thing {S : Shp} {x1 : Int32} {x2 : Int32} {x3 : Int32} {σ : Mm} {r : Int32 × Mm} (h : F_X11_thing x1 x2 x3 σ = some r) : Ct m_X11_thing S [.ref (sL S 0 0 0), .int (x1), .int (x2), .int (x3)] σ (Qi r) := Ct.of (by decide +kernel) (Nat.le_of_ble_eq_true rfl) (zb_X11_thing h)
def f_X11_vector (x1 : Int32) (x2 : Int32) (σ : Mm) : Int32 := (if (f_X11_isDegree x1) = 0 then (-100) else (if x2 < 0 then (-100) else (if x2 ≤ (1 : Int32) then (if x2 = 0 then f_X1_eastward x1 else f_X1_northward x1) else (-100))))
set_option maxRecDepth 20000 in
theorem zb_X11_vector {S : Shp} {x1 : Int32} {x2 : Int32} {σ : Mm} {r : Int32} (hp : okP σ = true) (h : f_X11_vector x1 x2 σ = r) : Z m_X11_vector S (Qi (r, σ)) 0 [(0, .ref (sL S 0 0 0)), (1, .int (x1)), (2, .int (x2))] [] σ := by
  unfold f_X11_vector at h
  refine z_iload_n dX11_vector_0 rfl 1 rfl ?_
  refine z_callS (M' := m_X11_isDegree) (As := [.int (x1)]) (rest := []) kl_11_180 oy_X11_isDegree ⟨Nat.le_of_ble_eq_true rfl, Nat.le_of_ble_eq_true rfl⟩ rfl (Nat.le_of_ble_eq_true rfl) rfl dX11_vector_1 (c_X11_isDegree rfl) (fun v τ hq => ?_)
  obtain ⟨rfl, hτ⟩ := hq
  subst τ
  change Z _ _ _ _ _ [.int (f_X11_isDegree x1)] _
  refine z_if_eq (tgt := 16) dX11_vector_4 (by decide) (fun q => ?_) (fun q => ?_)
  · have h := (if_pos q).symm.trans h
    refine z_bipush (v := (-100)) dX11_vector_16 (by decide) ?_
    subst h
    exact z_ireturn dX11_vector_18 rfl rfl ⟨rfl, rfl⟩
  · have h := (if_neg q).symm.trans h
    refine z_iload_n dX11_vector_7 rfl 2 rfl ?_
    refine z_if_lt (tgt := 16) dX11_vector_8 (by decide) (fun q => ?_) (fun q => ?_)
    · have h := (if_pos q).symm.trans h
      refine z_bipush (v := (-100)) dX11_vector_16 (by decide) ?_
      subst h
      exact z_ireturn dX11_vector_18 rfl rfl ⟨rfl, rfl⟩
    · have h := (if_neg q).symm.trans h
      refine z_iload_n dX11_vector_11 rfl 2 rfl ?_
      refine z_iconst (v := 1) dX11_vector_12 (by decide) ?_
      refine z_icmp_le (tgt := 19) dX11_vector_13 (by decide) (fun q => ?_) (fun q => ?_)
      · have h := (if_pos q).symm.trans h
        refine z_iload_n dX11_vector_19 rfl 2 rfl ?_
        refine z_if_ne (tgt := 30) dX11_vector_20 (by decide) (fun q => ?_) (fun q => ?_)
        · have h := (if_neg q).symm.trans h
          refine z_iload_n dX11_vector_30 rfl 1 rfl ?_
          refine z_callS (M' := m_X1_northward) (As := [.int (x1)]) (rest := []) kl_11_187 oy_X1_northward ⟨Nat.le_of_ble_eq_true rfl, Nat.le_of_ble_eq_true rfl⟩ rfl (Nat.le_of_ble_eq_true rfl) rfl dX11_vector_31 (c_X1_northward rfl) (fun v τ hq => ?_)
          obtain ⟨rfl, hτ⟩ := hq
          subst τ
          change Z _ _ _ _ _ [.int (f_X1_northward x1)] _
          subst h
          exact z_ireturn dX11_vector_34 rfl rfl ⟨rfl, rfl⟩
        · have h := (if_pos q).symm.trans h
          refine z_iload_n dX11_vector_23 rfl 1 rfl ?_
          refine z_callS (M' := m_X1_eastward) (As := [.int (x1)]) (rest := []) kl_11_183 oy_X1_eastward ⟨Nat.le_of_ble_eq_true rfl, Nat.le_of_ble_eq_true rfl⟩ rfl (Nat.le_of_ble_eq_true rfl) rfl dX11_vector_24 (c_X1_eastward rfl) (fun v τ hq => ?_)
          obtain ⟨rfl, hτ⟩ := hq
          subst τ
          change Z _ _ _ _ _ [.int (f_X1_eastward x1)] _
          refine z_goto (tgt := 34) dX11_vector_27 (by decide) ?_
          subst h
          exact z_ireturn dX11_vector_34 rfl rfl ⟨rfl, rfl⟩
      · have h := (if_neg q).symm.trans h
        refine z_bipush (v := (-100)) dX11_vector_16 (by decide) ?_
        subst h
        exact z_ireturn dX11_vector_18 rfl rfl ⟨rfl, rfl⟩
/-- SkyStones.vector(II)I -/
theorem c_X11_vector {S : Shp} {x1 : Int32} {x2 : Int32} {σ : Mm} {r : Int32} (hp : okP σ = true) (h : f_X11_vector x1 x2 σ = r) : Ct m_X11_vector S [.ref (sL S 0 0 0), .int (x1), .int (x2)] σ (Qi (r, σ)) := Ct.of (by decide +kernel) (Nat.le_of_ble_eq_true rfl) (zb_X11_vector hp h)
def F_X12_copy_819 (rc725 : Int32 → Int32 → Int32 → Mm → Option (Mm)) (x1 : Int32) (x2 : Int32) (x3 : Int32) (σ : Mm) : Option (Mm) := (rc725 x1 x2 (x3 + 1) σ)
set_option maxRecDepth 20000 in
theorem zb_X12_copy_819 {S : Shp} {rc725 : Int32 → Int32 → Int32 → Mm → Option (Mm)} (hrc725 : ∀ {x1 : Int32} {x2 : Int32} {x3 : Int32} {σ : Mm} {r : Mm}, rc725 x1 x2 x3 σ = some r → Z m_X12_copy S (Qv r) 725 [(0, .ref (sL S 3 0 0)), (1, .int (x1)), (2, .int (x2)), (3, .int (x3))] [] σ) {x1 : Int32} {x2 : Int32} {x3 : Int32} {σ : Mm} {r : Mm} (h : F_X12_copy_819 rc725 x1 x2 x3 σ = some r) : Z m_X12_copy S (Qv r) 819 [(0, .ref (sL S 3 0 0)), (1, .int (x1)), (2, .int (x2)), (3, .int (x3))] [] σ := by
  unfold F_X12_copy_819 at h
  refine z_iinc (j := 3) (v := x3 + 1) (lv' := [(0, .ref (sL S 3 0 0)), (1, .int (x1)), (2, .int (x2)), (3, .int (x3 + 1))]) dX12_copy_819 rfl rfl (by decide) [1, 2, 3, 0] rfl ?_
  refine z_goto (tgt := 725) dX12_copy_822 (by decide) ?_
  exact hrc725 h
def F_X12_copy_797 (rc725 : Int32 → Int32 → Int32 → Mm → Option (Mm)) (x1 : Int32) (x2 : Int32) (x3 : Int32) (σ : Mm) : Option (Mm) := (if inb (((60 : Int32) * x1) + x3) 300 = true then (if inb (((60 : Int32) * x2) + x3) 300 = true then (F_X12_copy_819 rc725 x1 x2 x3 (setA σ 3 0 42 (upd (mA σ 3 0 42) (((60 : Int32) * x2) + x3).toNatClampNeg (mA σ 3 0 42 (((60 : Int32) * x1) + x3).toNatClampNeg)))) else none) else none)
set_option maxRecDepth 20000 in
theorem zb_X12_copy_797 {S : Shp} {rc725 : Int32 → Int32 → Int32 → Mm → Option (Mm)} (hrc725 : ∀ {x1 : Int32} {x2 : Int32} {x3 : Int32} {σ : Mm} {r : Mm}, rc725 x1 x2 x3 σ = some r → Z m_X12_copy S (Qv r) 725 [(0, .ref (sL S 3 0 0)), (1, .int (x1)), (2, .int (x2)), (3, .int (x3))] [] σ) {x1 : Int32} {x2 : Int32} {x3 : Int32} {σ : Mm} {r : Mm} (h : F_X12_copy_797 rc725 x1 x2 x3 σ = some r) : Z m_X12_copy S (Qv r) 797 [(0, .ref (sL S 3 0 0)), (1, .int (x1)), (2, .int (x2)), (3, .int (x3))] [] σ := by
  unfold F_X12_copy_797 at h
  obtain ⟨g67, h⟩ := gd h
  refine z_aload_n dX12_copy_797 rfl 0 rfl ?_
  refine gf_12_139 rfl dX12_copy_798 ?_
  refine z_bipush (v := 60) dX12_copy_801 (by decide) ?_
  refine z_iload_n dX12_copy_803 rfl 2 rfl ?_
  refine z_imul dX12_copy_804 ?_
  refine z_iload_n dX12_copy_805 rfl 3 rfl ?_
  refine z_iadd dX12_copy_806 ?_
  refine z_aload_n dX12_copy_807 rfl 0 rfl ?_
  refine gf_12_139 rfl dX12_copy_808 ?_
  refine z_bipush (v := 60) dX12_copy_811 (by decide) ?_
  refine z_iload_n dX12_copy_813 rfl 1 rfl ?_
  refine z_imul dX12_copy_814 ?_
  refine z_iload_n dX12_copy_815 rfl 3 rfl ?_
  refine z_iadd dX12_copy_816 ?_
  obtain ⟨g68, h⟩ := gd h
  refine ia_3_42 (inb_in g67) dX12_copy_817 ?_
  refine is_3_42 (inb_in g68) dX12_copy_818 ?_
  exact zb_X12_copy_819 hrc725 h
def F_X12_copy_775 (rc725 : Int32 → Int32 → Int32 → Mm → Option (Mm)) (x1 : Int32) (x2 : Int32) (x3 : Int32) (σ : Mm) : Option (Mm) := (if inb (((60 : Int32) * x1) + x3) 300 = true then (if inb (((60 : Int32) * x2) + x3) 300 = true then (F_X12_copy_797 rc725 x1 x2 x3 (setA σ 3 0 41 (upd (mA σ 3 0 41) (((60 : Int32) * x2) + x3).toNatClampNeg (mA σ 3 0 41 (((60 : Int32) * x1) + x3).toNatClampNeg)))) else none) else none)
set_option maxRecDepth 20000 in
theorem zb_X12_copy_775 {S : Shp} {rc725 : Int32 → Int32 → Int32 → Mm → Option (Mm)} (hrc725 : ∀ {x1 : Int32} {x2 : Int32} {x3 : Int32} {σ : Mm} {r : Mm}, rc725 x1 x2 x3 σ = some r → Z m_X12_copy S (Qv r) 725 [(0, .ref (sL S 3 0 0)), (1, .int (x1)), (2, .int (x2)), (3, .int (x3))] [] σ) {x1 : Int32} {x2 : Int32} {x3 : Int32} {σ : Mm} {r : Mm} (h : F_X12_copy_775 rc725 x1 x2 x3 σ = some r) : Z m_X12_copy S (Qv r) 775 [(0, .ref (sL S 3 0 0)), (1, .int (x1)), (2, .int (x2)), (3, .int (x3))] [] σ := by
  unfold F_X12_copy_775 at h
  obtain ⟨g63, h⟩ := gd h
  refine z_aload_n dX12_copy_775 rfl 0 rfl ?_
  refine gf_12_136 rfl dX12_copy_776 ?_
  refine z_bipush (v := 60) dX12_copy_779 (by decide) ?_
  refine z_iload_n dX12_copy_781 rfl 2 rfl ?_
  refine z_imul dX12_copy_782 ?_
  refine z_iload_n dX12_copy_783 rfl 3 rfl ?_
  refine z_iadd dX12_copy_784 ?_
  refine z_aload_n dX12_copy_785 rfl 0 rfl ?_
  refine gf_12_136 rfl dX12_copy_786 ?_
  refine z_bipush (v := 60) dX12_copy_789 (by decide) ?_
  refine z_iload_n dX12_copy_791 rfl 1 rfl ?_
  refine z_imul dX12_copy_792 ?_
  refine z_iload_n dX12_copy_793 rfl 3 rfl ?_
  refine z_iadd dX12_copy_794 ?_
  obtain ⟨g64, h⟩ := gd h
  refine ia_3_41 (inb_in g63) dX12_copy_795 ?_
  refine is_3_41 (inb_in g64) dX12_copy_796 ?_
  exact zb_X12_copy_797 hrc725 h
def F_X12_copy_753 (rc725 : Int32 → Int32 → Int32 → Mm → Option (Mm)) (x1 : Int32) (x2 : Int32) (x3 : Int32) (σ : Mm) : Option (Mm) := (if inb (((60 : Int32) * x1) + x3) 300 = true then (if inb (((60 : Int32) * x2) + x3) 300 = true then (F_X12_copy_775 rc725 x1 x2 x3 (setA σ 3 0 40 (upd (mA σ 3 0 40) (((60 : Int32) * x2) + x3).toNatClampNeg (mA σ 3 0 40 (((60 : Int32) * x1) + x3).toNatClampNeg)))) else none) else none)
set_option maxRecDepth 20000 in
theorem zb_X12_copy_753 {S : Shp} {rc725 : Int32 → Int32 → Int32 → Mm → Option (Mm)} (hrc725 : ∀ {x1 : Int32} {x2 : Int32} {x3 : Int32} {σ : Mm} {r : Mm}, rc725 x1 x2 x3 σ = some r → Z m_X12_copy S (Qv r) 725 [(0, .ref (sL S 3 0 0)), (1, .int (x1)), (2, .int (x2)), (3, .int (x3))] [] σ) {x1 : Int32} {x2 : Int32} {x3 : Int32} {σ : Mm} {r : Mm} (h : F_X12_copy_753 rc725 x1 x2 x3 σ = some r) : Z m_X12_copy S (Qv r) 753 [(0, .ref (sL S 3 0 0)), (1, .int (x1)), (2, .int (x2)), (3, .int (x3))] [] σ := by
  unfold F_X12_copy_753 at h
  obtain ⟨g59, h⟩ := gd h
  refine z_aload_n dX12_copy_753 rfl 0 rfl ?_
  refine gf_12_133 rfl dX12_copy_754 ?_
  refine z_bipush (v := 60) dX12_copy_757 (by decide) ?_
  refine z_iload_n dX12_copy_759 rfl 2 rfl ?_
  refine z_imul dX12_copy_760 ?_
  refine z_iload_n dX12_copy_761 rfl 3 rfl ?_
  refine z_iadd dX12_copy_762 ?_
  refine z_aload_n dX12_copy_763 rfl 0 rfl ?_
  refine gf_12_133 rfl dX12_copy_764 ?_
  refine z_bipush (v := 60) dX12_copy_767 (by decide) ?_
  refine z_iload_n dX12_copy_769 rfl 1 rfl ?_
  refine z_imul dX12_copy_770 ?_
  refine z_iload_n dX12_copy_771 rfl 3 rfl ?_
  refine z_iadd dX12_copy_772 ?_
  obtain ⟨g60, h⟩ := gd h
  refine ia_3_40 (inb_in g59) dX12_copy_773 ?_
  refine is_3_40 (inb_in g60) dX12_copy_774 ?_
  exact zb_X12_copy_775 hrc725 h
def B_X12_copy_725 (rc725 : Int32 → Int32 → Int32 → Mm → Option (Mm)) (x1 : Int32) (x2 : Int32) (x3 : Int32) (σ : Mm) : Option (Mm) := (if (60 : Int32) ≤ x3 then some (σ) else (if inb (((60 : Int32) * x1) + x3) 300 = true then (if inb (((60 : Int32) * x2) + x3) 300 = true then (F_X12_copy_753 rc725 x1 x2 x3 (setA σ 3 0 39 (upd (mA σ 3 0 39) (((60 : Int32) * x2) + x3).toNatClampNeg (mA σ 3 0 39 (((60 : Int32) * x1) + x3).toNatClampNeg)))) else none) else none))
set_option maxRecDepth 20000 in
theorem zB_X12_copy_725 {S : Shp} {rc725 : Int32 → Int32 → Int32 → Mm → Option (Mm)} (hrc725 : ∀ {x1 : Int32} {x2 : Int32} {x3 : Int32} {σ : Mm} {r : Mm}, rc725 x1 x2 x3 σ = some r → Z m_X12_copy S (Qv r) 725 [(0, .ref (sL S 3 0 0)), (1, .int (x1)), (2, .int (x2)), (3, .int (x3))] [] σ) {x1 : Int32} {x2 : Int32} {x3 : Int32} {σ : Mm} {r : Mm} (h : B_X12_copy_725 rc725 x1 x2 x3 σ = some r) : Z m_X12_copy S (Qv r) 725 [(0, .ref (sL S 3 0 0)), (1, .int (x1)), (2, .int (x2)), (3, .int (x3))] [] σ := by
  unfold B_X12_copy_725 at h
  refine z_iload_n dX12_copy_725 rfl 3 rfl ?_
  refine z_bipush (v := 60) dX12_copy_726 (by decide) ?_
  refine z_icmp_ge (tgt := 825) dX12_copy_728 (by decide) (fun q => ?_) (fun q => ?_)
  · have h := (if_pos q).symm.trans h
    cases h
    exact z_return dX12_copy_825 rfl ⟨rfl, rfl⟩
  · have h := (if_neg q).symm.trans h
    obtain ⟨g55, h⟩ := gd h
    refine z_aload_n dX12_copy_731 rfl 0 rfl ?_
    refine gf_12_130 rfl dX12_copy_732 ?_
    refine z_bipush (v := 60) dX12_copy_735 (by decide) ?_
    refine z_iload_n dX12_copy_737 rfl 2 rfl ?_
    refine z_imul dX12_copy_738 ?_
    refine z_iload_n dX12_copy_739 rfl 3 rfl ?_
    refine z_iadd dX12_copy_740 ?_
    refine z_aload_n dX12_copy_741 rfl 0 rfl ?_
    refine gf_12_130 rfl dX12_copy_742 ?_
    refine z_bipush (v := 60) dX12_copy_745 (by decide) ?_
    refine z_iload_n dX12_copy_747 rfl 1 rfl ?_
    refine z_imul dX12_copy_748 ?_
    refine z_iload_n dX12_copy_749 rfl 3 rfl ?_
    refine z_iadd dX12_copy_750 ?_
    obtain ⟨g56, h⟩ := gd h
    refine ia_3_39 (inb_in g55) dX12_copy_751 ?_
    refine is_3_39 (inb_in g56) dX12_copy_752 ?_
    exact zb_X12_copy_753 hrc725 h
def F_X12_copy_725 : Nat → Int32 → Int32 → Int32 → Mm → Option (Mm)
  | 0 => fun _ _ _ _ => none
  | n + 1 => B_X12_copy_725 (F_X12_copy_725 n)
theorem zl_X12_copy_725 {S : Shp} : ∀ (nn : Nat) {x1 : Int32} {x2 : Int32} {x3 : Int32} {σ : Mm} {r : Mm}, F_X12_copy_725 nn x1 x2 x3 σ = some r → Z m_X12_copy S (Qv r) 725 [(0, .ref (sL S 3 0 0)), (1, .int (x1)), (2, .int (x2)), (3, .int (x3))] [] σ := by
  intro nn
  induction nn with
  | zero => intro x1 x2 x3 σ r h; cases h
  | succ nn ih => intro x1 x2 x3 σ r h; exact zB_X12_copy_725 @ih h
def F_X12_copy_717 (rc566 : Int32 → Int32 → Int32 → Mm → Option (Mm)) (x1 : Int32) (x2 : Int32) (x3 : Int32) (σ : Mm) : Option (Mm) := (rc566 x1 x2 (x3 + 1) σ)
set_option maxRecDepth 20000 in
theorem zb_X12_copy_717 {S : Shp} {rc566 : Int32 → Int32 → Int32 → Mm → Option (Mm)} (hrc566 : ∀ {x1 : Int32} {x2 : Int32} {x3 : Int32} {σ : Mm} {r : Mm}, rc566 x1 x2 x3 σ = some r → Z m_X12_copy S (Qv r) 566 [(0, .ref (sL S 3 0 0)), (1, .int (x1)), (2, .int (x2)), (3, .int (x3))] [] σ) {x1 : Int32} {x2 : Int32} {x3 : Int32} {σ : Mm} {r : Mm} (h : F_X12_copy_717 rc566 x1 x2 x3 σ = some r) : Z m_X12_copy S (Qv r) 717 [(0, .ref (sL S 3 0 0)), (1, .int (x1)), (2, .int (x2)), (3, .int (x3))] [] σ := by
  unfold F_X12_copy_717 at h
  refine z_iinc (j := 3) (v := x3 + 1) (lv' := [(0, .ref (sL S 3 0 0)), (1, .int (x1)), (2, .int (x2)), (3, .int (x3 + 1))]) dX12_copy_717 rfl rfl (by decide) [1, 2, 3, 0] rfl ?_
  refine z_goto (tgt := 566) dX12_copy_720 (by decide) ?_
  exact hrc566 h
def F_X12_copy_693 (rc566 : Int32 → Int32 → Int32 → Mm → Option (Mm)) (x1 : Int32) (x2 : Int32) (x3 : Int32) (σ : Mm) : Option (Mm) := (if inb (((200 : Int32) * x1) + x3) 1000 = true then (if inb (((200 : Int32) * x2) + x3) 1000 = true then (F_X12_copy_717 rc566 x1 x2 x3 (setA σ 3 0 37 (upd (mA σ 3 0 37) (((200 : Int32) * x2) + x3).toNatClampNeg (mA σ 3 0 37 (((200 : Int32) * x1) + x3).toNatClampNeg)))) else none) else none)
set_option maxRecDepth 20000 in
theorem zb_X12_copy_693 {S : Shp} {rc566 : Int32 → Int32 → Int32 → Mm → Option (Mm)} (hrc566 : ∀ {x1 : Int32} {x2 : Int32} {x3 : Int32} {σ : Mm} {r : Mm}, rc566 x1 x2 x3 σ = some r → Z m_X12_copy S (Qv r) 566 [(0, .ref (sL S 3 0 0)), (1, .int (x1)), (2, .int (x2)), (3, .int (x3))] [] σ) {x1 : Int32} {x2 : Int32} {x3 : Int32} {σ : Mm} {r : Mm} (h : F_X12_copy_693 rc566 x1 x2 x3 σ = some r) : Z m_X12_copy S (Qv r) 693 [(0, .ref (sL S 3 0 0)), (1, .int (x1)), (2, .int (x2)), (3, .int (x3))] [] σ := by
  unfold F_X12_copy_693 at h
  obtain ⟨g71, h⟩ := gd h
  refine z_aload_n dX12_copy_693 rfl 0 rfl ?_
  refine gf_12_124 rfl dX12_copy_694 ?_
  refine z_sipush (v := 200) dX12_copy_697 (by decide) ?_
  refine z_iload_n dX12_copy_700 rfl 2 rfl ?_
  refine z_imul dX12_copy_701 ?_
  refine z_iload_n dX12_copy_702 rfl 3 rfl ?_
  refine z_iadd dX12_copy_703 ?_
  refine z_aload_n dX12_copy_704 rfl 0 rfl ?_
  refine gf_12_124 rfl dX12_copy_705 ?_
  refine z_sipush (v := 200) dX12_copy_708 (by decide) ?_
  refine z_iload_n dX12_copy_711 rfl 1 rfl ?_
  refine z_imul dX12_copy_712 ?_
  refine z_iload_n dX12_copy_713 rfl 3 rfl ?_
  refine z_iadd dX12_copy_714 ?_
  obtain ⟨g72, h⟩ := gd h
  refine ia_3_37 (inb_in g71) dX12_copy_715 ?_
  refine is_3_37 (inb_in g72) dX12_copy_716 ?_
  exact zb_X12_copy_717 hrc566 h
def F_X12_copy_669 (rc566 : Int32 → Int32 → Int32 → Mm → Option (Mm)) (x1 : Int32) (x2 : Int32) (x3 : Int32) (σ : Mm) : Option (Mm) := (if inb (((200 : Int32) * x1) + x3) 1000 = true then (if inb (((200 : Int32) * x2) + x3) 1000 = true then (F_X12_copy_693 rc566 x1 x2 x3 (setA σ 3 0 36 (upd (mA σ 3 0 36) (((200 : Int32) * x2) + x3).toNatClampNeg (mA σ 3 0 36 (((200 : Int32) * x1) + x3).toNatClampNeg)))) else none) else none)
set_option maxRecDepth 20000 in
theorem zb_X12_copy_669 {S : Shp} {rc566 : Int32 → Int32 → Int32 → Mm → Option (Mm)} (hrc566 : ∀ {x1 : Int32} {x2 : Int32} {x3 : Int32} {σ : Mm} {r : Mm}, rc566 x1 x2 x3 σ = some r → Z m_X12_copy S (Qv r) 566 [(0, .ref (sL S 3 0 0)), (1, .int (x1)), (2, .int (x2)), (3, .int (x3))] [] σ) {x1 : Int32} {x2 : Int32} {x3 : Int32} {σ : Mm} {r : Mm} (h : F_X12_copy_669 rc566 x1 x2 x3 σ = some r) : Z m_X12_copy S (Qv r) 669 [(0, .ref (sL S 3 0 0)), (1, .int (x1)), (2, .int (x2)), (3, .int (x3))] [] σ := by
  unfold F_X12_copy_669 at h
  obtain ⟨g69, h⟩ := gd h
  refine z_aload_n dX12_copy_669 rfl 0 rfl ?_
  refine gf_12_121 rfl dX12_copy_670 ?_
  refine z_sipush (v := 200) dX12_copy_673 (by decide) ?_
  refine z_iload_n dX12_copy_676 rfl 2 rfl ?_
  refine z_imul dX12_copy_677 ?_
  refine z_iload_n dX12_copy_678 rfl 3 rfl ?_
  refine z_iadd dX12_copy_679 ?_
  refine z_aload_n dX12_copy_680 rfl 0 rfl ?_
  refine gf_12_121 rfl dX12_copy_681 ?_
  refine z_sipush (v := 200) dX12_copy_684 (by decide) ?_
  refine z_iload_n dX12_copy_687 rfl 1 rfl ?_
  refine z_imul dX12_copy_688 ?_
  refine z_iload_n dX12_copy_689 rfl 3 rfl ?_
  refine z_iadd dX12_copy_690 ?_
  obtain ⟨g70, h⟩ := gd h
  refine ia_3_36 (inb_in g69) dX12_copy_691 ?_
  refine is_3_36 (inb_in g70) dX12_copy_692 ?_
  exact zb_X12_copy_693 hrc566 h
def F_X12_copy_645 (rc566 : Int32 → Int32 → Int32 → Mm → Option (Mm)) (x1 : Int32) (x2 : Int32) (x3 : Int32) (σ : Mm) : Option (Mm) := (if inb (((200 : Int32) * x1) + x3) 1000 = true then (if inb (((200 : Int32) * x2) + x3) 1000 = true then (F_X12_copy_669 rc566 x1 x2 x3 (setA σ 3 0 35 (upd (mA σ 3 0 35) (((200 : Int32) * x2) + x3).toNatClampNeg (mA σ 3 0 35 (((200 : Int32) * x1) + x3).toNatClampNeg)))) else none) else none)
set_option maxRecDepth 20000 in
theorem zb_X12_copy_645 {S : Shp} {rc566 : Int32 → Int32 → Int32 → Mm → Option (Mm)} (hrc566 : ∀ {x1 : Int32} {x2 : Int32} {x3 : Int32} {σ : Mm} {r : Mm}, rc566 x1 x2 x3 σ = some r → Z m_X12_copy S (Qv r) 566 [(0, .ref (sL S 3 0 0)), (1, .int (x1)), (2, .int (x2)), (3, .int (x3))] [] σ) {x1 : Int32} {x2 : Int32} {x3 : Int32} {σ : Mm} {r : Mm} (h : F_X12_copy_645 rc566 x1 x2 x3 σ = some r) : Z m_X12_copy S (Qv r) 645 [(0, .ref (sL S 3 0 0)), (1, .int (x1)), (2, .int (x2)), (3, .int (x3))] [] σ := by
  unfold F_X12_copy_645 at h
  obtain ⟨g65, h⟩ := gd h
  refine z_aload_n dX12_copy_645 rfl 0 rfl ?_
  refine gf_12_118 rfl dX12_copy_646 ?_
  refine z_sipush (v := 200) dX12_copy_649 (by decide) ?_
  refine z_iload_n dX12_copy_652 rfl 2 rfl ?_
  refine z_imul dX12_copy_653 ?_
  refine z_iload_n dX12_copy_654 rfl 3 rfl ?_
  refine z_iadd dX12_copy_655 ?_
  refine z_aload_n dX12_copy_656 rfl 0 rfl ?_
  refine gf_12_118 rfl dX12_copy_657 ?_
  refine z_sipush (v := 200) dX12_copy_660 (by decide) ?_
  refine z_iload_n dX12_copy_663 rfl 1 rfl ?_
  refine z_imul dX12_copy_664 ?_
  refine z_iload_n dX12_copy_665 rfl 3 rfl ?_
  refine z_iadd dX12_copy_666 ?_
  obtain ⟨g66, h⟩ := gd h
  refine ia_3_35 (inb_in g65) dX12_copy_667 ?_
  refine is_3_35 (inb_in g66) dX12_copy_668 ?_
  exact zb_X12_copy_669 hrc566 h
def F_X12_copy_621 (rc566 : Int32 → Int32 → Int32 → Mm → Option (Mm)) (x1 : Int32) (x2 : Int32) (x3 : Int32) (σ : Mm) : Option (Mm) := (if inb (((200 : Int32) * x1) + x3) 1000 = true then (if inb (((200 : Int32) * x2) + x3) 1000 = true then (F_X12_copy_645 rc566 x1 x2 x3 (setA σ 3 0 34 (upd (mA σ 3 0 34) (((200 : Int32) * x2) + x3).toNatClampNeg (mA σ 3 0 34 (((200 : Int32) * x1) + x3).toNatClampNeg)))) else none) else none)
set_option maxRecDepth 20000 in
theorem zb_X12_copy_621 {S : Shp} {rc566 : Int32 → Int32 → Int32 → Mm → Option (Mm)} (hrc566 : ∀ {x1 : Int32} {x2 : Int32} {x3 : Int32} {σ : Mm} {r : Mm}, rc566 x1 x2 x3 σ = some r → Z m_X12_copy S (Qv r) 566 [(0, .ref (sL S 3 0 0)), (1, .int (x1)), (2, .int (x2)), (3, .int (x3))] [] σ) {x1 : Int32} {x2 : Int32} {x3 : Int32} {σ : Mm} {r : Mm} (h : F_X12_copy_621 rc566 x1 x2 x3 σ = some r) : Z m_X12_copy S (Qv r) 621 [(0, .ref (sL S 3 0 0)), (1, .int (x1)), (2, .int (x2)), (3, .int (x3))] [] σ := by
  unfold F_X12_copy_621 at h
  obtain ⟨g61, h⟩ := gd h
  refine z_aload_n dX12_copy_621 rfl 0 rfl ?_
  refine gf_12_115 rfl dX12_copy_622 ?_
  refine z_sipush (v := 200) dX12_copy_625 (by decide) ?_
  refine z_iload_n dX12_copy_628 rfl 2 rfl ?_
  refine z_imul dX12_copy_629 ?_
  refine z_iload_n dX12_copy_630 rfl 3 rfl ?_
  refine z_iadd dX12_copy_631 ?_
  refine z_aload_n dX12_copy_632 rfl 0 rfl ?_
  refine gf_12_115 rfl dX12_copy_633 ?_
  refine z_sipush (v := 200) dX12_copy_636 (by decide) ?_
  refine z_iload_n dX12_copy_639 rfl 1 rfl ?_
  refine z_imul dX12_copy_640 ?_
  refine z_iload_n dX12_copy_641 rfl 3 rfl ?_
  refine z_iadd dX12_copy_642 ?_
  obtain ⟨g62, h⟩ := gd h
  refine ia_3_34 (inb_in g61) dX12_copy_643 ?_
  refine is_3_34 (inb_in g62) dX12_copy_644 ?_
  exact zb_X12_copy_645 hrc566 h
def F_X12_copy_597 (rc566 : Int32 → Int32 → Int32 → Mm → Option (Mm)) (x1 : Int32) (x2 : Int32) (x3 : Int32) (σ : Mm) : Option (Mm) := (if inb (((200 : Int32) * x1) + x3) 1000 = true then (if inb (((200 : Int32) * x2) + x3) 1000 = true then (F_X12_copy_621 rc566 x1 x2 x3 (setA σ 3 0 33 (upd (mA σ 3 0 33) (((200 : Int32) * x2) + x3).toNatClampNeg (mA σ 3 0 33 (((200 : Int32) * x1) + x3).toNatClampNeg)))) else none) else none)
set_option maxRecDepth 20000 in
theorem zb_X12_copy_597 {S : Shp} {rc566 : Int32 → Int32 → Int32 → Mm → Option (Mm)} (hrc566 : ∀ {x1 : Int32} {x2 : Int32} {x3 : Int32} {σ : Mm} {r : Mm}, rc566 x1 x2 x3 σ = some r → Z m_X12_copy S (Qv r) 566 [(0, .ref (sL S 3 0 0)), (1, .int (x1)), (2, .int (x2)), (3, .int (x3))] [] σ) {x1 : Int32} {x2 : Int32} {x3 : Int32} {σ : Mm} {r : Mm} (h : F_X12_copy_597 rc566 x1 x2 x3 σ = some r) : Z m_X12_copy S (Qv r) 597 [(0, .ref (sL S 3 0 0)), (1, .int (x1)), (2, .int (x2)), (3, .int (x3))] [] σ := by
  unfold F_X12_copy_597 at h
  obtain ⟨g57, h⟩ := gd h
  refine z_aload_n dX12_copy_597 rfl 0 rfl ?_
  refine gf_12_112 rfl dX12_copy_598 ?_
  refine z_sipush (v := 200) dX12_copy_601 (by decide) ?_
  refine z_iload_n dX12_copy_604 rfl 2 rfl ?_
  refine z_imul dX12_copy_605 ?_
  refine z_iload_n dX12_copy_606 rfl 3 rfl ?_
  refine z_iadd dX12_copy_607 ?_
  refine z_aload_n dX12_copy_608 rfl 0 rfl ?_
  refine gf_12_112 rfl dX12_copy_609 ?_
  refine z_sipush (v := 200) dX12_copy_612 (by decide) ?_
  refine z_iload_n dX12_copy_615 rfl 1 rfl ?_
  refine z_imul dX12_copy_616 ?_
  refine z_iload_n dX12_copy_617 rfl 3 rfl ?_
  refine z_iadd dX12_copy_618 ?_
  obtain ⟨g58, h⟩ := gd h
  refine ia_3_33 (inb_in g57) dX12_copy_619 ?_
  refine is_3_33 (inb_in g58) dX12_copy_620 ?_
  exact zb_X12_copy_621 hrc566 h
def B_X12_copy_566 (rc566 : Int32 → Int32 → Int32 → Mm → Option (Mm)) (x1 : Int32) (x2 : Int32) (x3 : Int32) (σ : Mm) : Option (Mm) := (if (200 : Int32) ≤ x3 then (F_X12_copy_725 FU x1 x2 0 σ) else (if inb (((200 : Int32) * x1) + x3) 1000 = true then (if inb (((200 : Int32) * x2) + x3) 1000 = true then (F_X12_copy_597 rc566 x1 x2 x3 (setA σ 3 0 32 (upd (mA σ 3 0 32) (((200 : Int32) * x2) + x3).toNatClampNeg (vp_nar .boolean (mA σ 3 0 32 (((200 : Int32) * x1) + x3).toNatClampNeg))))) else none) else none))
set_option maxRecDepth 20000 in
theorem zB_X12_copy_566 {S : Shp} {rc566 : Int32 → Int32 → Int32 → Mm → Option (Mm)} (hrc566 : ∀ {x1 : Int32} {x2 : Int32} {x3 : Int32} {σ : Mm} {r : Mm}, rc566 x1 x2 x3 σ = some r → Z m_X12_copy S (Qv r) 566 [(0, .ref (sL S 3 0 0)), (1, .int (x1)), (2, .int (x2)), (3, .int (x3))] [] σ) {x1 : Int32} {x2 : Int32} {x3 : Int32} {σ : Mm} {r : Mm} (h : B_X12_copy_566 rc566 x1 x2 x3 σ = some r) : Z m_X12_copy S (Qv r) 566 [(0, .ref (sL S 3 0 0)), (1, .int (x1)), (2, .int (x2)), (3, .int (x3))] [] σ := by
  unfold B_X12_copy_566 at h
  refine z_iload_n dX12_copy_566 rfl 3 rfl ?_
  refine z_sipush (v := 200) dX12_copy_567 (by decide) ?_
  refine z_icmp_ge (tgt := 723) dX12_copy_570 (by decide) (fun q => ?_) (fun q => ?_)
  · have h := (if_pos q).symm.trans h
    refine z_iconst (v := 0) dX12_copy_723 (by decide) ?_
    refine z_istore_n (lv' := [(0, .ref (sL S 3 0 0)), (1, .int (x1)), (2, .int (x2)), (3, .int (0))]) dX12_copy_724 rfl (by decide) [1, 2, 3, 0] rfl ?_
    exact zl_X12_copy_725 FU h
  · have h := (if_neg q).symm.trans h
    obtain ⟨g51, h⟩ := gd h
    refine z_aload_n dX12_copy_573 rfl 0 rfl ?_
    refine gf_12_109 rfl dX12_copy_574 ?_
    refine z_sipush (v := 200) dX12_copy_577 (by decide) ?_
    refine z_iload_n dX12_copy_580 rfl 2 rfl ?_
    refine z_imul dX12_copy_581 ?_
    refine z_iload_n dX12_copy_582 rfl 3 rfl ?_
    refine z_iadd dX12_copy_583 ?_
    refine z_aload_n dX12_copy_584 rfl 0 rfl ?_
    refine gf_12_109 rfl dX12_copy_585 ?_
    refine z_sipush (v := 200) dX12_copy_588 (by decide) ?_
    refine z_iload_n dX12_copy_591 rfl 1 rfl ?_
    refine z_imul dX12_copy_592 ?_
    refine z_iload_n dX12_copy_593 rfl 3 rfl ?_
    refine z_iadd dX12_copy_594 ?_
    obtain ⟨g52, h⟩ := gd h
    refine ia_3_32 (inb_in g51) dX12_copy_595 ?_
    refine is_3_32 (inb_in g52) dX12_copy_596 ?_
    exact zb_X12_copy_597 hrc566 h
def F_X12_copy_566 : Nat → Int32 → Int32 → Int32 → Mm → Option (Mm)
  | 0 => fun _ _ _ _ => none
  | n + 1 => B_X12_copy_566 (F_X12_copy_566 n)
theorem zl_X12_copy_566 {S : Shp} : ∀ (nn : Nat) {x1 : Int32} {x2 : Int32} {x3 : Int32} {σ : Mm} {r : Mm}, F_X12_copy_566 nn x1 x2 x3 σ = some r → Z m_X12_copy S (Qv r) 566 [(0, .ref (sL S 3 0 0)), (1, .int (x1)), (2, .int (x2)), (3, .int (x3))] [] σ := by
  intro nn
  induction nn with
  | zero => intro x1 x2 x3 σ r h; cases h
  | succ nn ih => intro x1 x2 x3 σ r h; exact zB_X12_copy_566 @ih h
def F_X12_copy_558 (rc503 : Int32 → Int32 → Int32 → Mm → Option (Mm)) (x1 : Int32) (x2 : Int32) (x3 : Int32) (σ : Mm) : Option (Mm) := (rc503 x1 x2 (x3 + 1) σ)
set_option maxRecDepth 20000 in
theorem zb_X12_copy_558 {S : Shp} {rc503 : Int32 → Int32 → Int32 → Mm → Option (Mm)} (hrc503 : ∀ {x1 : Int32} {x2 : Int32} {x3 : Int32} {σ : Mm} {r : Mm}, rc503 x1 x2 x3 σ = some r → Z m_X12_copy S (Qv r) 503 [(0, .ref (sL S 3 0 0)), (1, .int (x1)), (2, .int (x2)), (3, .int (x3))] [] σ) {x1 : Int32} {x2 : Int32} {x3 : Int32} {σ : Mm} {r : Mm} (h : F_X12_copy_558 rc503 x1 x2 x3 σ = some r) : Z m_X12_copy S (Qv r) 558 [(0, .ref (sL S 3 0 0)), (1, .int (x1)), (2, .int (x2)), (3, .int (x3))] [] σ := by
  unfold F_X12_copy_558 at h
  refine z_iinc (j := 3) (v := x3 + 1) (lv' := [(0, .ref (sL S 3 0 0)), (1, .int (x1)), (2, .int (x2)), (3, .int (x3 + 1))]) dX12_copy_558 rfl rfl (by decide) [1, 2, 3, 0] rfl ?_
  refine z_goto (tgt := 503) dX12_copy_561 (by decide) ?_
  exact hrc503 h
def F_X12_copy_534 (rc503 : Int32 → Int32 → Int32 → Mm → Option (Mm)) (x1 : Int32) (x2 : Int32) (x3 : Int32) (σ : Mm) : Option (Mm) := (if inb (((500 : Int32) * x1) + x3) 2500 = true then (if inb (((500 : Int32) * x2) + x3) 2500 = true then (F_X12_copy_558 rc503 x1 x2 x3 (setA σ 3 0 30 (upd (mA σ 3 0 30) (((500 : Int32) * x2) + x3).toNatClampNeg (mA σ 3 0 30 (((500 : Int32) * x1) + x3).toNatClampNeg)))) else none) else none)
set_option maxRecDepth 20000 in
theorem zb_X12_copy_534 {S : Shp} {rc503 : Int32 → Int32 → Int32 → Mm → Option (Mm)} (hrc503 : ∀ {x1 : Int32} {x2 : Int32} {x3 : Int32} {σ : Mm} {r : Mm}, rc503 x1 x2 x3 σ = some r → Z m_X12_copy S (Qv r) 503 [(0, .ref (sL S 3 0 0)), (1, .int (x1)), (2, .int (x2)), (3, .int (x3))] [] σ) {x1 : Int32} {x2 : Int32} {x3 : Int32} {σ : Mm} {r : Mm} (h : F_X12_copy_534 rc503 x1 x2 x3 σ = some r) : Z m_X12_copy S (Qv r) 534 [(0, .ref (sL S 3 0 0)), (1, .int (x1)), (2, .int (x2)), (3, .int (x3))] [] σ := by
  unfold F_X12_copy_534 at h
  obtain ⟨g53, h⟩ := gd h
  refine z_aload_n dX12_copy_534 rfl 0 rfl ?_
  refine gf_12_103 rfl dX12_copy_535 ?_
  refine z_sipush (v := 500) dX12_copy_538 (by decide) ?_
  refine z_iload_n dX12_copy_541 rfl 2 rfl ?_
  refine z_imul dX12_copy_542 ?_
  refine z_iload_n dX12_copy_543 rfl 3 rfl ?_
  refine z_iadd dX12_copy_544 ?_
  refine z_aload_n dX12_copy_545 rfl 0 rfl ?_
  refine gf_12_103 rfl dX12_copy_546 ?_
  refine z_sipush (v := 500) dX12_copy_549 (by decide) ?_
  refine z_iload_n dX12_copy_552 rfl 1 rfl ?_
  refine z_imul dX12_copy_553 ?_
  refine z_iload_n dX12_copy_554 rfl 3 rfl ?_
  refine z_iadd dX12_copy_555 ?_
  obtain ⟨g54, h⟩ := gd h
  refine ia_3_30 (inb_in g53) dX12_copy_556 ?_
  refine is_3_30 (inb_in g54) dX12_copy_557 ?_
  exact zb_X12_copy_558 hrc503 h
def B_X12_copy_503 (rc503 : Int32 → Int32 → Int32 → Mm → Option (Mm)) (x1 : Int32) (x2 : Int32) (x3 : Int32) (σ : Mm) : Option (Mm) := (if (500 : Int32) ≤ x3 then (F_X12_copy_566 FU x1 x2 0 σ) else (if inb (((500 : Int32) * x1) + x3) 2500 = true then (if inb (((500 : Int32) * x2) + x3) 2500 = true then (F_X12_copy_534 rc503 x1 x2 x3 (setA σ 3 0 29 (upd (mA σ 3 0 29) (((500 : Int32) * x2) + x3).toNatClampNeg (mA σ 3 0 29 (((500 : Int32) * x1) + x3).toNatClampNeg)))) else none) else none))
set_option maxRecDepth 20000 in
theorem zB_X12_copy_503 {S : Shp} {rc503 : Int32 → Int32 → Int32 → Mm → Option (Mm)} (hrc503 : ∀ {x1 : Int32} {x2 : Int32} {x3 : Int32} {σ : Mm} {r : Mm}, rc503 x1 x2 x3 σ = some r → Z m_X12_copy S (Qv r) 503 [(0, .ref (sL S 3 0 0)), (1, .int (x1)), (2, .int (x2)), (3, .int (x3))] [] σ) {x1 : Int32} {x2 : Int32} {x3 : Int32} {σ : Mm} {r : Mm} (h : B_X12_copy_503 rc503 x1 x2 x3 σ = some r) : Z m_X12_copy S (Qv r) 503 [(0, .ref (sL S 3 0 0)), (1, .int (x1)), (2, .int (x2)), (3, .int (x3))] [] σ := by
  unfold B_X12_copy_503 at h
  refine z_iload_n dX12_copy_503 rfl 3 rfl ?_
  refine z_sipush (v := 500) dX12_copy_504 (by decide) ?_
  refine z_icmp_ge (tgt := 564) dX12_copy_507 (by decide) (fun q => ?_) (fun q => ?_)
  · have h := (if_pos q).symm.trans h
    refine z_iconst (v := 0) dX12_copy_564 (by decide) ?_
    refine z_istore_n (lv' := [(0, .ref (sL S 3 0 0)), (1, .int (x1)), (2, .int (x2)), (3, .int (0))]) dX12_copy_565 rfl (by decide) [1, 2, 3, 0] rfl ?_
    exact zl_X12_copy_566 FU h
  · have h := (if_neg q).symm.trans h
    obtain ⟨g45, h⟩ := gd h
    refine z_aload_n dX12_copy_510 rfl 0 rfl ?_
    refine gf_12_100 rfl dX12_copy_511 ?_
    refine z_sipush (v := 500) dX12_copy_514 (by decide) ?_
    refine z_iload_n dX12_copy_517 rfl 2 rfl ?_
    refine z_imul dX12_copy_518 ?_
    refine z_iload_n dX12_copy_519 rfl 3 rfl ?_
    refine z_iadd dX12_copy_520 ?_
    refine z_aload_n dX12_copy_521 rfl 0 rfl ?_
    refine gf_12_100 rfl dX12_copy_522 ?_
    refine z_sipush (v := 500) dX12_copy_525 (by decide) ?_
    refine z_iload_n dX12_copy_528 rfl 1 rfl ?_
    refine z_imul dX12_copy_529 ?_
    refine z_iload_n dX12_copy_530 rfl 3 rfl ?_
    refine z_iadd dX12_copy_531 ?_
    obtain ⟨g46, h⟩ := gd h
    refine ia_3_29 (inb_in g45) dX12_copy_532 ?_
    refine is_3_29 (inb_in g46) dX12_copy_533 ?_
    exact zb_X12_copy_534 hrc503 h
def F_X12_copy_503 : Nat → Int32 → Int32 → Int32 → Mm → Option (Mm)
  | 0 => fun _ _ _ _ => none
  | n + 1 => B_X12_copy_503 (F_X12_copy_503 n)
theorem zl_X12_copy_503 {S : Shp} : ∀ (nn : Nat) {x1 : Int32} {x2 : Int32} {x3 : Int32} {σ : Mm} {r : Mm}, F_X12_copy_503 nn x1 x2 x3 σ = some r → Z m_X12_copy S (Qv r) 503 [(0, .ref (sL S 3 0 0)), (1, .int (x1)), (2, .int (x2)), (3, .int (x3))] [] σ := by
  intro nn
  induction nn with
  | zero => intro x1 x2 x3 σ r h; cases h
  | succ nn ih => intro x1 x2 x3 σ r h; exact zB_X12_copy_503 @ih h
def F_X12_copy_495 (rc445 : Int32 → Int32 → Int32 → Mm → Option (Mm)) (x1 : Int32) (x2 : Int32) (x3 : Int32) (σ : Mm) : Option (Mm) := (rc445 x1 x2 (x3 + 1) σ)
set_option maxRecDepth 20000 in
theorem zb_X12_copy_495 {S : Shp} {rc445 : Int32 → Int32 → Int32 → Mm → Option (Mm)} (hrc445 : ∀ {x1 : Int32} {x2 : Int32} {x3 : Int32} {σ : Mm} {r : Mm}, rc445 x1 x2 x3 σ = some r → Z m_X12_copy S (Qv r) 445 [(0, .ref (sL S 3 0 0)), (1, .int (x1)), (2, .int (x2)), (3, .int (x3))] [] σ) {x1 : Int32} {x2 : Int32} {x3 : Int32} {σ : Mm} {r : Mm} (h : F_X12_copy_495 rc445 x1 x2 x3 σ = some r) : Z m_X12_copy S (Qv r) 495 [(0, .ref (sL S 3 0 0)), (1, .int (x1)), (2, .int (x2)), (3, .int (x3))] [] σ := by
  unfold F_X12_copy_495 at h
  refine z_iinc (j := 3) (v := x3 + 1) (lv' := [(0, .ref (sL S 3 0 0)), (1, .int (x1)), (2, .int (x2)), (3, .int (x3 + 1))]) dX12_copy_495 rfl rfl (by decide) [1, 2, 3, 0] rfl ?_
  refine z_goto (tgt := 445) dX12_copy_498 (by decide) ?_
  exact hrc445 h
def F_X12_copy_473 (rc445 : Int32 → Int32 → Int32 → Mm → Option (Mm)) (x1 : Int32) (x2 : Int32) (x3 : Int32) (σ : Mm) : Option (Mm) := (if inb (((6 : Int32) * x1) + x3) 30 = true then (if inb (((6 : Int32) * x2) + x3) 30 = true then (F_X12_copy_495 rc445 x1 x2 x3 (setA σ 3 0 27 (upd (mA σ 3 0 27) (((6 : Int32) * x2) + x3).toNatClampNeg (mA σ 3 0 27 (((6 : Int32) * x1) + x3).toNatClampNeg)))) else none) else none)
set_option maxRecDepth 20000 in
theorem zb_X12_copy_473 {S : Shp} {rc445 : Int32 → Int32 → Int32 → Mm → Option (Mm)} (hrc445 : ∀ {x1 : Int32} {x2 : Int32} {x3 : Int32} {σ : Mm} {r : Mm}, rc445 x1 x2 x3 σ = some r → Z m_X12_copy S (Qv r) 445 [(0, .ref (sL S 3 0 0)), (1, .int (x1)), (2, .int (x2)), (3, .int (x3))] [] σ) {x1 : Int32} {x2 : Int32} {x3 : Int32} {σ : Mm} {r : Mm} (h : F_X12_copy_473 rc445 x1 x2 x3 σ = some r) : Z m_X12_copy S (Qv r) 473 [(0, .ref (sL S 3 0 0)), (1, .int (x1)), (2, .int (x2)), (3, .int (x3))] [] σ := by
  unfold F_X12_copy_473 at h
  obtain ⟨g47, h⟩ := gd h
  refine z_aload_n dX12_copy_473 rfl 0 rfl ?_
  refine gf_12_94 rfl dX12_copy_474 ?_
  refine z_bipush (v := 6) dX12_copy_477 (by decide) ?_
  refine z_iload_n dX12_copy_479 rfl 2 rfl ?_
  refine z_imul dX12_copy_480 ?_
  refine z_iload_n dX12_copy_481 rfl 3 rfl ?_
  refine z_iadd dX12_copy_482 ?_
  refine z_aload_n dX12_copy_483 rfl 0 rfl ?_
  refine gf_12_94 rfl dX12_copy_484 ?_
  refine z_bipush (v := 6) dX12_copy_487 (by decide) ?_
  refine z_iload_n dX12_copy_489 rfl 1 rfl ?_
  refine z_imul dX12_copy_490 ?_
  refine z_iload_n dX12_copy_491 rfl 3 rfl ?_
  refine z_iadd dX12_copy_492 ?_
  obtain ⟨g48, h⟩ := gd h
  refine ia_3_27 (inb_in g47) dX12_copy_493 ?_
  refine is_3_27 (inb_in g48) dX12_copy_494 ?_
  exact zb_X12_copy_495 hrc445 h
def B_X12_copy_445 (rc445 : Int32 → Int32 → Int32 → Mm → Option (Mm)) (x1 : Int32) (x2 : Int32) (x3 : Int32) (σ : Mm) : Option (Mm) := (if (6 : Int32) ≤ x3 then (F_X12_copy_503 FU x1 x2 0 σ) else (if inb (((6 : Int32) * x1) + x3) 30 = true then (if inb (((6 : Int32) * x2) + x3) 30 = true then (F_X12_copy_473 rc445 x1 x2 x3 (setA σ 3 0 26 (upd (mA σ 3 0 26) (((6 : Int32) * x2) + x3).toNatClampNeg (mA σ 3 0 26 (((6 : Int32) * x1) + x3).toNatClampNeg)))) else none) else none))
set_option maxRecDepth 20000 in
theorem zB_X12_copy_445 {S : Shp} {rc445 : Int32 → Int32 → Int32 → Mm → Option (Mm)} (hrc445 : ∀ {x1 : Int32} {x2 : Int32} {x3 : Int32} {σ : Mm} {r : Mm}, rc445 x1 x2 x3 σ = some r → Z m_X12_copy S (Qv r) 445 [(0, .ref (sL S 3 0 0)), (1, .int (x1)), (2, .int (x2)), (3, .int (x3))] [] σ) {x1 : Int32} {x2 : Int32} {x3 : Int32} {σ : Mm} {r : Mm} (h : B_X12_copy_445 rc445 x1 x2 x3 σ = some r) : Z m_X12_copy S (Qv r) 445 [(0, .ref (sL S 3 0 0)), (1, .int (x1)), (2, .int (x2)), (3, .int (x3))] [] σ := by
  unfold B_X12_copy_445 at h
  refine z_iload_n dX12_copy_445 rfl 3 rfl ?_
  refine z_bipush (v := 6) dX12_copy_446 (by decide) ?_
  refine z_icmp_ge (tgt := 501) dX12_copy_448 (by decide) (fun q => ?_) (fun q => ?_)
  · have h := (if_pos q).symm.trans h
    refine z_iconst (v := 0) dX12_copy_501 (by decide) ?_
    refine z_istore_n (lv' := [(0, .ref (sL S 3 0 0)), (1, .int (x1)), (2, .int (x2)), (3, .int (0))]) dX12_copy_502 rfl (by decide) [1, 2, 3, 0] rfl ?_
    exact zl_X12_copy_503 FU h
  · have h := (if_neg q).symm.trans h
    obtain ⟨g37, h⟩ := gd h
    refine z_aload_n dX12_copy_451 rfl 0 rfl ?_
    refine gf_12_91 rfl dX12_copy_452 ?_
    refine z_bipush (v := 6) dX12_copy_455 (by decide) ?_
    refine z_iload_n dX12_copy_457 rfl 2 rfl ?_
    refine z_imul dX12_copy_458 ?_
    refine z_iload_n dX12_copy_459 rfl 3 rfl ?_
    refine z_iadd dX12_copy_460 ?_
    refine z_aload_n dX12_copy_461 rfl 0 rfl ?_
    refine gf_12_91 rfl dX12_copy_462 ?_
    refine z_bipush (v := 6) dX12_copy_465 (by decide) ?_
    refine z_iload_n dX12_copy_467 rfl 1 rfl ?_
    refine z_imul dX12_copy_468 ?_
    refine z_iload_n dX12_copy_469 rfl 3 rfl ?_
    refine z_iadd dX12_copy_470 ?_
    obtain ⟨g38, h⟩ := gd h
    refine ia_3_26 (inb_in g37) dX12_copy_471 ?_
    refine is_3_26 (inb_in g38) dX12_copy_472 ?_
    exact zb_X12_copy_473 hrc445 h
def F_X12_copy_445 : Nat → Int32 → Int32 → Int32 → Mm → Option (Mm)
  | 0 => fun _ _ _ _ => none
  | n + 1 => B_X12_copy_445 (F_X12_copy_445 n)
theorem zl_X12_copy_445 {S : Shp} : ∀ (nn : Nat) {x1 : Int32} {x2 : Int32} {x3 : Int32} {σ : Mm} {r : Mm}, F_X12_copy_445 nn x1 x2 x3 σ = some r → Z m_X12_copy S (Qv r) 445 [(0, .ref (sL S 3 0 0)), (1, .int (x1)), (2, .int (x2)), (3, .int (x3))] [] σ := by
  intro nn
  induction nn with
  | zero => intro x1 x2 x3 σ r h; cases h
  | succ nn ih => intro x1 x2 x3 σ r h; exact zB_X12_copy_445 @ih h
def F_X12_copy_437 (rc372 : Int32 → Int32 → Int32 → Mm → Option (Mm)) (x1 : Int32) (x2 : Int32) (x3 : Int32) (σ : Mm) : Option (Mm) := (rc372 x1 x2 (x3 + 1) σ)
set_option maxRecDepth 20000 in
theorem zb_X12_copy_437 {S : Shp} {rc372 : Int32 → Int32 → Int32 → Mm → Option (Mm)} (hrc372 : ∀ {x1 : Int32} {x2 : Int32} {x3 : Int32} {σ : Mm} {r : Mm}, rc372 x1 x2 x3 σ = some r → Z m_X12_copy S (Qv r) 372 [(0, .ref (sL S 3 0 0)), (1, .int (x1)), (2, .int (x2)), (3, .int (x3))] [] σ) {x1 : Int32} {x2 : Int32} {x3 : Int32} {σ : Mm} {r : Mm} (h : F_X12_copy_437 rc372 x1 x2 x3 σ = some r) : Z m_X12_copy S (Qv r) 437 [(0, .ref (sL S 3 0 0)), (1, .int (x1)), (2, .int (x2)), (3, .int (x3))] [] σ := by
  unfold F_X12_copy_437 at h
  refine z_iinc (j := 3) (v := x3 + 1) (lv' := [(0, .ref (sL S 3 0 0)), (1, .int (x1)), (2, .int (x2)), (3, .int (x3 + 1))]) dX12_copy_437 rfl rfl (by decide) [1, 2, 3, 0] rfl ?_
  refine z_goto (tgt := 372) dX12_copy_440 (by decide) ?_
  exact hrc372 h
def F_X12_copy_417 (rc372 : Int32 → Int32 → Int32 → Mm → Option (Mm)) (x1 : Int32) (x2 : Int32) (x3 : Int32) (σ : Mm) : Option (Mm) := (if inb (((5 : Int32) * x1) + x3) 25 = true then (if inb (((5 : Int32) * x2) + x3) 25 = true then (F_X12_copy_437 rc372 x1 x2 x3 (setA σ 3 0 24 (upd (mA σ 3 0 24) (((5 : Int32) * x2) + x3).toNatClampNeg (mA σ 3 0 24 (((5 : Int32) * x1) + x3).toNatClampNeg)))) else none) else none)
set_option maxRecDepth 20000 in
theorem zb_X12_copy_417 {S : Shp} {rc372 : Int32 → Int32 → Int32 → Mm → Option (Mm)} (hrc372 : ∀ {x1 : Int32} {x2 : Int32} {x3 : Int32} {σ : Mm} {r : Mm}, rc372 x1 x2 x3 σ = some r → Z m_X12_copy S (Qv r) 372 [(0, .ref (sL S 3 0 0)), (1, .int (x1)), (2, .int (x2)), (3, .int (x3))] [] σ) {x1 : Int32} {x2 : Int32} {x3 : Int32} {σ : Mm} {r : Mm} (h : F_X12_copy_417 rc372 x1 x2 x3 σ = some r) : Z m_X12_copy S (Qv r) 417 [(0, .ref (sL S 3 0 0)), (1, .int (x1)), (2, .int (x2)), (3, .int (x3))] [] σ := by
  unfold F_X12_copy_417 at h
  obtain ⟨g49, h⟩ := gd h
  refine z_aload_n dX12_copy_417 rfl 0 rfl ?_
  refine gf_12_85 rfl dX12_copy_418 ?_
  refine z_iconst (v := 5) dX12_copy_421 (by decide) ?_
  refine z_iload_n dX12_copy_422 rfl 2 rfl ?_
  refine z_imul dX12_copy_423 ?_
  refine z_iload_n dX12_copy_424 rfl 3 rfl ?_
  refine z_iadd dX12_copy_425 ?_
  refine z_aload_n dX12_copy_426 rfl 0 rfl ?_
  refine gf_12_85 rfl dX12_copy_427 ?_
  refine z_iconst (v := 5) dX12_copy_430 (by decide) ?_
  refine z_iload_n dX12_copy_431 rfl 1 rfl ?_
  refine z_imul dX12_copy_432 ?_
  refine z_iload_n dX12_copy_433 rfl 3 rfl ?_
  refine z_iadd dX12_copy_434 ?_
  obtain ⟨g50, h⟩ := gd h
  refine ia_3_24 (inb_in g49) dX12_copy_435 ?_
  refine is_3_24 (inb_in g50) dX12_copy_436 ?_
  exact zb_X12_copy_437 hrc372 h
def F_X12_copy_397 (rc372 : Int32 → Int32 → Int32 → Mm → Option (Mm)) (x1 : Int32) (x2 : Int32) (x3 : Int32) (σ : Mm) : Option (Mm) := (if inb (((5 : Int32) * x1) + x3) 25 = true then (if inb (((5 : Int32) * x2) + x3) 25 = true then (F_X12_copy_417 rc372 x1 x2 x3 (setA σ 3 0 23 (upd (mA σ 3 0 23) (((5 : Int32) * x2) + x3).toNatClampNeg (mA σ 3 0 23 (((5 : Int32) * x1) + x3).toNatClampNeg)))) else none) else none)
set_option maxRecDepth 20000 in
theorem zb_X12_copy_397 {S : Shp} {rc372 : Int32 → Int32 → Int32 → Mm → Option (Mm)} (hrc372 : ∀ {x1 : Int32} {x2 : Int32} {x3 : Int32} {σ : Mm} {r : Mm}, rc372 x1 x2 x3 σ = some r → Z m_X12_copy S (Qv r) 372 [(0, .ref (sL S 3 0 0)), (1, .int (x1)), (2, .int (x2)), (3, .int (x3))] [] σ) {x1 : Int32} {x2 : Int32} {x3 : Int32} {σ : Mm} {r : Mm} (h : F_X12_copy_397 rc372 x1 x2 x3 σ = some r) : Z m_X12_copy S (Qv r) 397 [(0, .ref (sL S 3 0 0)), (1, .int (x1)), (2, .int (x2)), (3, .int (x3))] [] σ := by
  unfold F_X12_copy_397 at h
  obtain ⟨g39, h⟩ := gd h
  refine z_aload_n dX12_copy_397 rfl 0 rfl ?_
  refine gf_12_82 rfl dX12_copy_398 ?_
  refine z_iconst (v := 5) dX12_copy_401 (by decide) ?_
  refine z_iload_n dX12_copy_402 rfl 2 rfl ?_
  refine z_imul dX12_copy_403 ?_
  refine z_iload_n dX12_copy_404 rfl 3 rfl ?_
  refine z_iadd dX12_copy_405 ?_
  refine z_aload_n dX12_copy_406 rfl 0 rfl ?_
  refine gf_12_82 rfl dX12_copy_407 ?_
  refine z_iconst (v := 5) dX12_copy_410 (by decide) ?_
  refine z_iload_n dX12_copy_411 rfl 1 rfl ?_
  refine z_imul dX12_copy_412 ?_
  refine z_iload_n dX12_copy_413 rfl 3 rfl ?_
  refine z_iadd dX12_copy_414 ?_
  obtain ⟨g40, h⟩ := gd h
  refine ia_3_23 (inb_in g39) dX12_copy_415 ?_
  refine is_3_23 (inb_in g40) dX12_copy_416 ?_
  exact zb_X12_copy_417 hrc372 h
def B_X12_copy_372 (rc372 : Int32 → Int32 → Int32 → Mm → Option (Mm)) (x1 : Int32) (x2 : Int32) (x3 : Int32) (σ : Mm) : Option (Mm) := (if (5 : Int32) ≤ x3 then (F_X12_copy_445 FU x1 x2 0 σ) else (if inb (((5 : Int32) * x1) + x3) 25 = true then (if inb (((5 : Int32) * x2) + x3) 25 = true then (F_X12_copy_397 rc372 x1 x2 x3 (setA σ 3 0 22 (upd (mA σ 3 0 22) (((5 : Int32) * x2) + x3).toNatClampNeg (mA σ 3 0 22 (((5 : Int32) * x1) + x3).toNatClampNeg)))) else none) else none))
set_option maxRecDepth 20000 in
theorem zB_X12_copy_372 {S : Shp} {rc372 : Int32 → Int32 → Int32 → Mm → Option (Mm)} (hrc372 : ∀ {x1 : Int32} {x2 : Int32} {x3 : Int32} {σ : Mm} {r : Mm}, rc372 x1 x2 x3 σ = some r → Z m_X12_copy S (Qv r) 372 [(0, .ref (sL S 3 0 0)), (1, .int (x1)), (2, .int (x2)), (3, .int (x3))] [] σ) {x1 : Int32} {x2 : Int32} {x3 : Int32} {σ : Mm} {r : Mm} (h : B_X12_copy_372 rc372 x1 x2 x3 σ = some r) : Z m_X12_copy S (Qv r) 372 [(0, .ref (sL S 3 0 0)), (1, .int (x1)), (2, .int (x2)), (3, .int (x3))] [] σ := by
  unfold B_X12_copy_372 at h
  refine z_iload_n dX12_copy_372 rfl 3 rfl ?_
  refine z_iconst (v := 5) dX12_copy_373 (by decide) ?_
  refine z_icmp_ge (tgt := 443) dX12_copy_374 (by decide) (fun q => ?_) (fun q => ?_)
  · have h := (if_pos q).symm.trans h
    refine z_iconst (v := 0) dX12_copy_443 (by decide) ?_
    refine z_istore_n (lv' := [(0, .ref (sL S 3 0 0)), (1, .int (x1)), (2, .int (x2)), (3, .int (0))]) dX12_copy_444 rfl (by decide) [1, 2, 3, 0] rfl ?_
    exact zl_X12_copy_445 FU h
  · have h := (if_neg q).symm.trans h
    obtain ⟨g31, h⟩ := gd h
    refine z_aload_n dX12_copy_377 rfl 0 rfl ?_
    refine gf_12_79 rfl dX12_copy_378 ?_
    refine z_iconst (v := 5) dX12_copy_381 (by decide) ?_
    refine z_iload_n dX12_copy_382 rfl 2 rfl ?_
    refine z_imul dX12_copy_383 ?_
    refine z_iload_n dX12_copy_384 rfl 3 rfl ?_
    refine z_iadd dX12_copy_385 ?_
    refine z_aload_n dX12_copy_386 rfl 0 rfl ?_
    refine gf_12_79 rfl dX12_copy_387 ?_
    refine z_iconst (v := 5) dX12_copy_390 (by decide) ?_
    refine z_iload_n dX12_copy_391 rfl 1 rfl ?_
    refine z_imul dX12_copy_392 ?_
    refine z_iload_n dX12_copy_393 rfl 3 rfl ?_
    refine z_iadd dX12_copy_394 ?_
    obtain ⟨g32, h⟩ := gd h
    refine ia_3_22 (inb_in g31) dX12_copy_395 ?_
    refine is_3_22 (inb_in g32) dX12_copy_396 ?_
    exact zb_X12_copy_397 hrc372 h
def F_X12_copy_372 : Nat → Int32 → Int32 → Int32 → Mm → Option (Mm)
  | 0 => fun _ _ _ _ => none
  | n + 1 => B_X12_copy_372 (F_X12_copy_372 n)
theorem zl_X12_copy_372 {S : Shp} : ∀ (nn : Nat) {x1 : Int32} {x2 : Int32} {x3 : Int32} {σ : Mm} {r : Mm}, F_X12_copy_372 nn x1 x2 x3 σ = some r → Z m_X12_copy S (Qv r) 372 [(0, .ref (sL S 3 0 0)), (1, .int (x1)), (2, .int (x2)), (3, .int (x3))] [] σ := by
  intro nn
  induction nn with
  | zero => intro x1 x2 x3 σ r h; cases h
  | succ nn ih => intro x1 x2 x3 σ r h; exact zB_X12_copy_372 @ih h
def F_X12_copy_364 (rc292 : Int32 → Int32 → Int32 → Mm → Option (Mm)) (x1 : Int32) (x2 : Int32) (x3 : Int32) (σ : Mm) : Option (Mm) := (rc292 x1 x2 (x3 + 1) σ)
set_option maxRecDepth 20000 in
theorem zb_X12_copy_364 {S : Shp} {rc292 : Int32 → Int32 → Int32 → Mm → Option (Mm)} (hrc292 : ∀ {x1 : Int32} {x2 : Int32} {x3 : Int32} {σ : Mm} {r : Mm}, rc292 x1 x2 x3 σ = some r → Z m_X12_copy S (Qv r) 292 [(0, .ref (sL S 3 0 0)), (1, .int (x1)), (2, .int (x2)), (3, .int (x3))] [] σ) {x1 : Int32} {x2 : Int32} {x3 : Int32} {σ : Mm} {r : Mm} (h : F_X12_copy_364 rc292 x1 x2 x3 σ = some r) : Z m_X12_copy S (Qv r) 364 [(0, .ref (sL S 3 0 0)), (1, .int (x1)), (2, .int (x2)), (3, .int (x3))] [] σ := by
  unfold F_X12_copy_364 at h
  refine z_iinc (j := 3) (v := x3 + 1) (lv' := [(0, .ref (sL S 3 0 0)), (1, .int (x1)), (2, .int (x2)), (3, .int (x3 + 1))]) dX12_copy_364 rfl rfl (by decide) [1, 2, 3, 0] rfl ?_
  refine z_goto (tgt := 292) dX12_copy_367 (by decide) ?_
  exact hrc292 h
def F_X12_copy_342 (rc292 : Int32 → Int32 → Int32 → Mm → Option (Mm)) (x1 : Int32) (x2 : Int32) (x3 : Int32) (σ : Mm) : Option (Mm) := (if inb (((12 : Int32) * x1) + x3) 60 = true then (if inb (((12 : Int32) * x2) + x3) 60 = true then (F_X12_copy_364 rc292 x1 x2 x3 (setA σ 3 0 20 (upd (mA σ 3 0 20) (((12 : Int32) * x2) + x3).toNatClampNeg (mA σ 3 0 20 (((12 : Int32) * x1) + x3).toNatClampNeg)))) else none) else none)
set_option maxRecDepth 20000 in
theorem zb_X12_copy_342 {S : Shp} {rc292 : Int32 → Int32 → Int32 → Mm → Option (Mm)} (hrc292 : ∀ {x1 : Int32} {x2 : Int32} {x3 : Int32} {σ : Mm} {r : Mm}, rc292 x1 x2 x3 σ = some r → Z m_X12_copy S (Qv r) 292 [(0, .ref (sL S 3 0 0)), (1, .int (x1)), (2, .int (x2)), (3, .int (x3))] [] σ) {x1 : Int32} {x2 : Int32} {x3 : Int32} {σ : Mm} {r : Mm} (h : F_X12_copy_342 rc292 x1 x2 x3 σ = some r) : Z m_X12_copy S (Qv r) 342 [(0, .ref (sL S 3 0 0)), (1, .int (x1)), (2, .int (x2)), (3, .int (x3))] [] σ := by
  unfold F_X12_copy_342 at h
  obtain ⟨g41, h⟩ := gd h
  refine z_aload_n dX12_copy_342 rfl 0 rfl ?_
  refine gf_12_73 rfl dX12_copy_343 ?_
  refine z_bipush (v := 12) dX12_copy_346 (by decide) ?_
  refine z_iload_n dX12_copy_348 rfl 2 rfl ?_
  refine z_imul dX12_copy_349 ?_
  refine z_iload_n dX12_copy_350 rfl 3 rfl ?_
  refine z_iadd dX12_copy_351 ?_
  refine z_aload_n dX12_copy_352 rfl 0 rfl ?_
  refine gf_12_73 rfl dX12_copy_353 ?_
  refine z_bipush (v := 12) dX12_copy_356 (by decide) ?_
  refine z_iload_n dX12_copy_358 rfl 1 rfl ?_
  refine z_imul dX12_copy_359 ?_
  refine z_iload_n dX12_copy_360 rfl 3 rfl ?_
  refine z_iadd dX12_copy_361 ?_
  obtain ⟨g42, h⟩ := gd h
  refine ia_3_20 (inb_in g41) dX12_copy_362 ?_
  refine is_3_20 (inb_in g42) dX12_copy_363 ?_
  exact zb_X12_copy_364 hrc292 h
def F_X12_copy_320 (rc292 : Int32 → Int32 → Int32 → Mm → Option (Mm)) (x1 : Int32) (x2 : Int32) (x3 : Int32) (σ : Mm) : Option (Mm) := (if inb (((12 : Int32) * x1) + x3) 60 = true then (if inb (((12 : Int32) * x2) + x3) 60 = true then (F_X12_copy_342 rc292 x1 x2 x3 (setA σ 3 0 19 (upd (mA σ 3 0 19) (((12 : Int32) * x2) + x3).toNatClampNeg (mA σ 3 0 19 (((12 : Int32) * x1) + x3).toNatClampNeg)))) else none) else none)
set_option maxRecDepth 20000 in
theorem zb_X12_copy_320 {S : Shp} {rc292 : Int32 → Int32 → Int32 → Mm → Option (Mm)} (hrc292 : ∀ {x1 : Int32} {x2 : Int32} {x3 : Int32} {σ : Mm} {r : Mm}, rc292 x1 x2 x3 σ = some r → Z m_X12_copy S (Qv r) 292 [(0, .ref (sL S 3 0 0)), (1, .int (x1)), (2, .int (x2)), (3, .int (x3))] [] σ) {x1 : Int32} {x2 : Int32} {x3 : Int32} {σ : Mm} {r : Mm} (h : F_X12_copy_320 rc292 x1 x2 x3 σ = some r) : Z m_X12_copy S (Qv r) 320 [(0, .ref (sL S 3 0 0)), (1, .int (x1)), (2, .int (x2)), (3, .int (x3))] [] σ := by
  unfold F_X12_copy_320 at h
  obtain ⟨g33, h⟩ := gd h
  refine z_aload_n dX12_copy_320 rfl 0 rfl ?_
  refine gf_12_70 rfl dX12_copy_321 ?_
  refine z_bipush (v := 12) dX12_copy_324 (by decide) ?_
  refine z_iload_n dX12_copy_326 rfl 2 rfl ?_
  refine z_imul dX12_copy_327 ?_
  refine z_iload_n dX12_copy_328 rfl 3 rfl ?_
  refine z_iadd dX12_copy_329 ?_
  refine z_aload_n dX12_copy_330 rfl 0 rfl ?_
  refine gf_12_70 rfl dX12_copy_331 ?_
  refine z_bipush (v := 12) dX12_copy_334 (by decide) ?_
  refine z_iload_n dX12_copy_336 rfl 1 rfl ?_
  refine z_imul dX12_copy_337 ?_
  refine z_iload_n dX12_copy_338 rfl 3 rfl ?_
  refine z_iadd dX12_copy_339 ?_
  obtain ⟨g34, h⟩ := gd h
  refine ia_3_19 (inb_in g33) dX12_copy_340 ?_
  refine is_3_19 (inb_in g34) dX12_copy_341 ?_
  exact zb_X12_copy_342 hrc292 h
def B_X12_copy_292 (rc292 : Int32 → Int32 → Int32 → Mm → Option (Mm)) (x1 : Int32) (x2 : Int32) (x3 : Int32) (σ : Mm) : Option (Mm) := (if (12 : Int32) ≤ x3 then (F_X12_copy_372 FU x1 x2 0 σ) else (if inb (((12 : Int32) * x1) + x3) 60 = true then (if inb (((12 : Int32) * x2) + x3) 60 = true then (F_X12_copy_320 rc292 x1 x2 x3 (setA σ 3 0 18 (upd (mA σ 3 0 18) (((12 : Int32) * x2) + x3).toNatClampNeg (mA σ 3 0 18 (((12 : Int32) * x1) + x3).toNatClampNeg)))) else none) else none))
set_option maxRecDepth 20000 in
theorem zB_X12_copy_292 {S : Shp} {rc292 : Int32 → Int32 → Int32 → Mm → Option (Mm)} (hrc292 : ∀ {x1 : Int32} {x2 : Int32} {x3 : Int32} {σ : Mm} {r : Mm}, rc292 x1 x2 x3 σ = some r → Z m_X12_copy S (Qv r) 292 [(0, .ref (sL S 3 0 0)), (1, .int (x1)), (2, .int (x2)), (3, .int (x3))] [] σ) {x1 : Int32} {x2 : Int32} {x3 : Int32} {σ : Mm} {r : Mm} (h : B_X12_copy_292 rc292 x1 x2 x3 σ = some r) : Z m_X12_copy S (Qv r) 292 [(0, .ref (sL S 3 0 0)), (1, .int (x1)), (2, .int (x2)), (3, .int (x3))] [] σ := by
  unfold B_X12_copy_292 at h
  refine z_iload_n dX12_copy_292 rfl 3 rfl ?_
  refine z_bipush (v := 12) dX12_copy_293 (by decide) ?_
  refine z_icmp_ge (tgt := 370) dX12_copy_295 (by decide) (fun q => ?_) (fun q => ?_)
  · have h := (if_pos q).symm.trans h
    refine z_iconst (v := 0) dX12_copy_370 (by decide) ?_
    refine z_istore_n (lv' := [(0, .ref (sL S 3 0 0)), (1, .int (x1)), (2, .int (x2)), (3, .int (0))]) dX12_copy_371 rfl (by decide) [1, 2, 3, 0] rfl ?_
    exact zl_X12_copy_372 FU h
  · have h := (if_neg q).symm.trans h
    obtain ⟨g25, h⟩ := gd h
    refine z_aload_n dX12_copy_298 rfl 0 rfl ?_
    refine gf_12_67 rfl dX12_copy_299 ?_
    refine z_bipush (v := 12) dX12_copy_302 (by decide) ?_
    refine z_iload_n dX12_copy_304 rfl 2 rfl ?_
    refine z_imul dX12_copy_305 ?_
    refine z_iload_n dX12_copy_306 rfl 3 rfl ?_
    refine z_iadd dX12_copy_307 ?_
    refine z_aload_n dX12_copy_308 rfl 0 rfl ?_
    refine gf_12_67 rfl dX12_copy_309 ?_
    refine z_bipush (v := 12) dX12_copy_312 (by decide) ?_
    refine z_iload_n dX12_copy_314 rfl 1 rfl ?_
    refine z_imul dX12_copy_315 ?_
    refine z_iload_n dX12_copy_316 rfl 3 rfl ?_
    refine z_iadd dX12_copy_317 ?_
    obtain ⟨g26, h⟩ := gd h
    refine ia_3_18 (inb_in g25) dX12_copy_318 ?_
    refine is_3_18 (inb_in g26) dX12_copy_319 ?_
    exact zb_X12_copy_320 hrc292 h
def F_X12_copy_292 : Nat → Int32 → Int32 → Int32 → Mm → Option (Mm)
  | 0 => fun _ _ _ _ => none
  | n + 1 => B_X12_copy_292 (F_X12_copy_292 n)
theorem zl_X12_copy_292 {S : Shp} : ∀ (nn : Nat) {x1 : Int32} {x2 : Int32} {x3 : Int32} {σ : Mm} {r : Mm}, F_X12_copy_292 nn x1 x2 x3 σ = some r → Z m_X12_copy S (Qv r) 292 [(0, .ref (sL S 3 0 0)), (1, .int (x1)), (2, .int (x2)), (3, .int (x3))] [] σ := by
  intro nn
  induction nn with
  | zero => intro x1 x2 x3 σ r h; cases h
  | succ nn ih => intro x1 x2 x3 σ r h; exact zB_X12_copy_292 @ih h
def F_X12_copy_284 (rc234 : Int32 → Int32 → Int32 → Mm → Option (Mm)) (x1 : Int32) (x2 : Int32) (x3 : Int32) (σ : Mm) : Option (Mm) := (rc234 x1 x2 (x3 + 1) σ)
set_option maxRecDepth 20000 in
theorem zb_X12_copy_284 {S : Shp} {rc234 : Int32 → Int32 → Int32 → Mm → Option (Mm)} (hrc234 : ∀ {x1 : Int32} {x2 : Int32} {x3 : Int32} {σ : Mm} {r : Mm}, rc234 x1 x2 x3 σ = some r → Z m_X12_copy S (Qv r) 234 [(0, .ref (sL S 3 0 0)), (1, .int (x1)), (2, .int (x2)), (3, .int (x3))] [] σ) {x1 : Int32} {x2 : Int32} {x3 : Int32} {σ : Mm} {r : Mm} (h : F_X12_copy_284 rc234 x1 x2 x3 σ = some r) : Z m_X12_copy S (Qv r) 284 [(0, .ref (sL S 3 0 0)), (1, .int (x1)), (2, .int (x2)), (3, .int (x3))] [] σ := by
  unfold F_X12_copy_284 at h
  refine z_iinc (j := 3) (v := x3 + 1) (lv' := [(0, .ref (sL S 3 0 0)), (1, .int (x1)), (2, .int (x2)), (3, .int (x3 + 1))]) dX12_copy_284 rfl rfl (by decide) [1, 2, 3, 0] rfl ?_
  refine z_goto (tgt := 234) dX12_copy_287 (by decide) ?_
  exact hrc234 h
def F_X12_copy_262 (rc234 : Int32 → Int32 → Int32 → Mm → Option (Mm)) (x1 : Int32) (x2 : Int32) (x3 : Int32) (σ : Mm) : Option (Mm) := (if inb (((8 : Int32) * x1) + x3) 40 = true then (if inb (((8 : Int32) * x2) + x3) 40 = true then (F_X12_copy_284 rc234 x1 x2 x3 (setA σ 3 0 16 (upd (mA σ 3 0 16) (((8 : Int32) * x2) + x3).toNatClampNeg (mA σ 3 0 16 (((8 : Int32) * x1) + x3).toNatClampNeg)))) else none) else none)
set_option maxRecDepth 20000 in
theorem zb_X12_copy_262 {S : Shp} {rc234 : Int32 → Int32 → Int32 → Mm → Option (Mm)} (hrc234 : ∀ {x1 : Int32} {x2 : Int32} {x3 : Int32} {σ : Mm} {r : Mm}, rc234 x1 x2 x3 σ = some r → Z m_X12_copy S (Qv r) 234 [(0, .ref (sL S 3 0 0)), (1, .int (x1)), (2, .int (x2)), (3, .int (x3))] [] σ) {x1 : Int32} {x2 : Int32} {x3 : Int32} {σ : Mm} {r : Mm} (h : F_X12_copy_262 rc234 x1 x2 x3 σ = some r) : Z m_X12_copy S (Qv r) 262 [(0, .ref (sL S 3 0 0)), (1, .int (x1)), (2, .int (x2)), (3, .int (x3))] [] σ := by
  unfold F_X12_copy_262 at h
  obtain ⟨g27, h⟩ := gd h
  refine z_aload_n dX12_copy_262 rfl 0 rfl ?_
  refine gf_12_61 rfl dX12_copy_263 ?_
  refine z_bipush (v := 8) dX12_copy_266 (by decide) ?_
  refine z_iload_n dX12_copy_268 rfl 2 rfl ?_
  refine z_imul dX12_copy_269 ?_
  refine z_iload_n dX12_copy_270 rfl 3 rfl ?_
  refine z_iadd dX12_copy_271 ?_
  refine z_aload_n dX12_copy_272 rfl 0 rfl ?_
  refine gf_12_61 rfl dX12_copy_273 ?_
  refine z_bipush (v := 8) dX12_copy_276 (by decide) ?_
  refine z_iload_n dX12_copy_278 rfl 1 rfl ?_
  refine z_imul dX12_copy_279 ?_
  refine z_iload_n dX12_copy_280 rfl 3 rfl ?_
  refine z_iadd dX12_copy_281 ?_
  obtain ⟨g28, h⟩ := gd h
  refine ia_3_16 (inb_in g27) dX12_copy_282 ?_
  refine is_3_16 (inb_in g28) dX12_copy_283 ?_
  exact zb_X12_copy_284 hrc234 h
def B_X12_copy_234 (rc234 : Int32 → Int32 → Int32 → Mm → Option (Mm)) (x1 : Int32) (x2 : Int32) (x3 : Int32) (σ : Mm) : Option (Mm) := (if (8 : Int32) ≤ x3 then (F_X12_copy_292 FU x1 x2 0 σ) else (if inb (((8 : Int32) * x1) + x3) 40 = true then (if inb (((8 : Int32) * x2) + x3) 40 = true then (F_X12_copy_262 rc234 x1 x2 x3 (setA σ 3 0 15 (upd (mA σ 3 0 15) (((8 : Int32) * x2) + x3).toNatClampNeg (mA σ 3 0 15 (((8 : Int32) * x1) + x3).toNatClampNeg)))) else none) else none))
set_option maxRecDepth 20000 in
theorem zB_X12_copy_234 {S : Shp} {rc234 : Int32 → Int32 → Int32 → Mm → Option (Mm)} (hrc234 : ∀ {x1 : Int32} {x2 : Int32} {x3 : Int32} {σ : Mm} {r : Mm}, rc234 x1 x2 x3 σ = some r → Z m_X12_copy S (Qv r) 234 [(0, .ref (sL S 3 0 0)), (1, .int (x1)), (2, .int (x2)), (3, .int (x3))] [] σ) {x1 : Int32} {x2 : Int32} {x3 : Int32} {σ : Mm} {r : Mm} (h : B_X12_copy_234 rc234 x1 x2 x3 σ = some r) : Z m_X12_copy S (Qv r) 234 [(0, .ref (sL S 3 0 0)), (1, .int (x1)), (2, .int (x2)), (3, .int (x3))] [] σ := by
  unfold B_X12_copy_234 at h
  refine z_iload_n dX12_copy_234 rfl 3 rfl ?_
  refine z_bipush (v := 8) dX12_copy_235 (by decide) ?_
  refine z_icmp_ge (tgt := 290) dX12_copy_237 (by decide) (fun q => ?_) (fun q => ?_)
  · have h := (if_pos q).symm.trans h
    refine z_iconst (v := 0) dX12_copy_290 (by decide) ?_
    refine z_istore_n (lv' := [(0, .ref (sL S 3 0 0)), (1, .int (x1)), (2, .int (x2)), (3, .int (0))]) dX12_copy_291 rfl (by decide) [1, 2, 3, 0] rfl ?_
    exact zl_X12_copy_292 FU h
  · have h := (if_neg q).symm.trans h
    obtain ⟨g21, h⟩ := gd h
    refine z_aload_n dX12_copy_240 rfl 0 rfl ?_
    refine gf_12_58 rfl dX12_copy_241 ?_
    refine z_bipush (v := 8) dX12_copy_244 (by decide) ?_
    refine z_iload_n dX12_copy_246 rfl 2 rfl ?_
    refine z_imul dX12_copy_247 ?_
    refine z_iload_n dX12_copy_248 rfl 3 rfl ?_
    refine z_iadd dX12_copy_249 ?_
    refine z_aload_n dX12_copy_250 rfl 0 rfl ?_
    refine gf_12_58 rfl dX12_copy_251 ?_
    refine z_bipush (v := 8) dX12_copy_254 (by decide) ?_
    refine z_iload_n dX12_copy_256 rfl 1 rfl ?_
    refine z_imul dX12_copy_257 ?_
    refine z_iload_n dX12_copy_258 rfl 3 rfl ?_
    refine z_iadd dX12_copy_259 ?_
    obtain ⟨g22, h⟩ := gd h
    refine ia_3_15 (inb_in g21) dX12_copy_260 ?_
    refine is_3_15 (inb_in g22) dX12_copy_261 ?_
    exact zb_X12_copy_262 hrc234 h
def F_X12_copy_234 : Nat → Int32 → Int32 → Int32 → Mm → Option (Mm)
  | 0 => fun _ _ _ _ => none
  | n + 1 => B_X12_copy_234 (F_X12_copy_234 n)
theorem zl_X12_copy_234 {S : Shp} : ∀ (nn : Nat) {x1 : Int32} {x2 : Int32} {x3 : Int32} {σ : Mm} {r : Mm}, F_X12_copy_234 nn x1 x2 x3 σ = some r → Z m_X12_copy S (Qv r) 234 [(0, .ref (sL S 3 0 0)), (1, .int (x1)), (2, .int (x2)), (3, .int (x3))] [] σ := by
  intro nn
  induction nn with
  | zero => intro x1 x2 x3 σ r h; cases h
  | succ nn ih => intro x1 x2 x3 σ r h; exact zB_X12_copy_234 @ih h
def F_X12_copy_226 (rc110 : Int32 → Int32 → Int32 → Mm → Option (Mm)) (x1 : Int32) (x2 : Int32) (x3 : Int32) (σ : Mm) : Option (Mm) := (rc110 x1 x2 (x3 + 1) σ)
set_option maxRecDepth 20000 in
theorem zb_X12_copy_226 {S : Shp} {rc110 : Int32 → Int32 → Int32 → Mm → Option (Mm)} (hrc110 : ∀ {x1 : Int32} {x2 : Int32} {x3 : Int32} {σ : Mm} {r : Mm}, rc110 x1 x2 x3 σ = some r → Z m_X12_copy S (Qv r) 110 [(0, .ref (sL S 3 0 0)), (1, .int (x1)), (2, .int (x2)), (3, .int (x3))] [] σ) {x1 : Int32} {x2 : Int32} {x3 : Int32} {σ : Mm} {r : Mm} (h : F_X12_copy_226 rc110 x1 x2 x3 σ = some r) : Z m_X12_copy S (Qv r) 226 [(0, .ref (sL S 3 0 0)), (1, .int (x1)), (2, .int (x2)), (3, .int (x3))] [] σ := by
  unfold F_X12_copy_226 at h
  refine z_iinc (j := 3) (v := x3 + 1) (lv' := [(0, .ref (sL S 3 0 0)), (1, .int (x1)), (2, .int (x2)), (3, .int (x3 + 1))]) dX12_copy_226 rfl rfl (by decide) [1, 2, 3, 0] rfl ?_
  refine z_goto (tgt := 110) dX12_copy_229 (by decide) ?_
  exact hrc110 h
def F_X12_copy_204 (rc110 : Int32 → Int32 → Int32 → Mm → Option (Mm)) (x1 : Int32) (x2 : Int32) (x3 : Int32) (σ : Mm) : Option (Mm) := (if inb (((14 : Int32) * x1) + x3) 70 = true then (if inb (((14 : Int32) * x2) + x3) 70 = true then (F_X12_copy_226 rc110 x1 x2 x3 (setA σ 3 0 13 (upd (mA σ 3 0 13) (((14 : Int32) * x2) + x3).toNatClampNeg (mA σ 3 0 13 (((14 : Int32) * x1) + x3).toNatClampNeg)))) else none) else none)
set_option maxRecDepth 20000 in
theorem zb_X12_copy_204 {S : Shp} {rc110 : Int32 → Int32 → Int32 → Mm → Option (Mm)} (hrc110 : ∀ {x1 : Int32} {x2 : Int32} {x3 : Int32} {σ : Mm} {r : Mm}, rc110 x1 x2 x3 σ = some r → Z m_X12_copy S (Qv r) 110 [(0, .ref (sL S 3 0 0)), (1, .int (x1)), (2, .int (x2)), (3, .int (x3))] [] σ) {x1 : Int32} {x2 : Int32} {x3 : Int32} {σ : Mm} {r : Mm} (h : F_X12_copy_204 rc110 x1 x2 x3 σ = some r) : Z m_X12_copy S (Qv r) 204 [(0, .ref (sL S 3 0 0)), (1, .int (x1)), (2, .int (x2)), (3, .int (x3))] [] σ := by
  unfold F_X12_copy_204 at h
  obtain ⟨g43, h⟩ := gd h
  refine z_aload_n dX12_copy_204 rfl 0 rfl ?_
  refine gf_12_52 rfl dX12_copy_205 ?_
  refine z_bipush (v := 14) dX12_copy_208 (by decide) ?_
  refine z_iload_n dX12_copy_210 rfl 2 rfl ?_
  refine z_imul dX12_copy_211 ?_
  refine z_iload_n dX12_copy_212 rfl 3 rfl ?_
  refine z_iadd dX12_copy_213 ?_
  refine z_aload_n dX12_copy_214 rfl 0 rfl ?_
  refine gf_12_52 rfl dX12_copy_215 ?_
  refine z_bipush (v := 14) dX12_copy_218 (by decide) ?_
  refine z_iload_n dX12_copy_220 rfl 1 rfl ?_
  refine z_imul dX12_copy_221 ?_
  refine z_iload_n dX12_copy_222 rfl 3 rfl ?_
  refine z_iadd dX12_copy_223 ?_
  obtain ⟨g44, h⟩ := gd h
  refine ia_3_13 (inb_in g43) dX12_copy_224 ?_
  refine is_3_13 (inb_in g44) dX12_copy_225 ?_
  exact zb_X12_copy_226 hrc110 h
def F_X12_copy_182 (rc110 : Int32 → Int32 → Int32 → Mm → Option (Mm)) (x1 : Int32) (x2 : Int32) (x3 : Int32) (σ : Mm) : Option (Mm) := (if inb (((14 : Int32) * x1) + x3) 70 = true then (if inb (((14 : Int32) * x2) + x3) 70 = true then (F_X12_copy_204 rc110 x1 x2 x3 (setA σ 3 0 12 (upd (mA σ 3 0 12) (((14 : Int32) * x2) + x3).toNatClampNeg (mA σ 3 0 12 (((14 : Int32) * x1) + x3).toNatClampNeg)))) else none) else none)
set_option maxRecDepth 20000 in
theorem zb_X12_copy_182 {S : Shp} {rc110 : Int32 → Int32 → Int32 → Mm → Option (Mm)} (hrc110 : ∀ {x1 : Int32} {x2 : Int32} {x3 : Int32} {σ : Mm} {r : Mm}, rc110 x1 x2 x3 σ = some r → Z m_X12_copy S (Qv r) 110 [(0, .ref (sL S 3 0 0)), (1, .int (x1)), (2, .int (x2)), (3, .int (x3))] [] σ) {x1 : Int32} {x2 : Int32} {x3 : Int32} {σ : Mm} {r : Mm} (h : F_X12_copy_182 rc110 x1 x2 x3 σ = some r) : Z m_X12_copy S (Qv r) 182 [(0, .ref (sL S 3 0 0)), (1, .int (x1)), (2, .int (x2)), (3, .int (x3))] [] σ := by
  unfold F_X12_copy_182 at h
  obtain ⟨g35, h⟩ := gd h
  refine z_aload_n dX12_copy_182 rfl 0 rfl ?_
  refine gf_12_49 rfl dX12_copy_183 ?_
  refine z_bipush (v := 14) dX12_copy_186 (by decide) ?_
  refine z_iload_n dX12_copy_188 rfl 2 rfl ?_
  refine z_imul dX12_copy_189 ?_
  refine z_iload_n dX12_copy_190 rfl 3 rfl ?_
  refine z_iadd dX12_copy_191 ?_
  refine z_aload_n dX12_copy_192 rfl 0 rfl ?_
  refine gf_12_49 rfl dX12_copy_193 ?_
  refine z_bipush (v := 14) dX12_copy_196 (by decide) ?_
  refine z_iload_n dX12_copy_198 rfl 1 rfl ?_
  refine z_imul dX12_copy_199 ?_
  refine z_iload_n dX12_copy_200 rfl 3 rfl ?_
  refine z_iadd dX12_copy_201 ?_
  obtain ⟨g36, h⟩ := gd h
  refine ia_3_12 (inb_in g35) dX12_copy_202 ?_
  refine is_3_12 (inb_in g36) dX12_copy_203 ?_
  exact zb_X12_copy_204 hrc110 h
def F_X12_copy_160 (rc110 : Int32 → Int32 → Int32 → Mm → Option (Mm)) (x1 : Int32) (x2 : Int32) (x3 : Int32) (σ : Mm) : Option (Mm) := (if inb (((14 : Int32) * x1) + x3) 70 = true then (if inb (((14 : Int32) * x2) + x3) 70 = true then (F_X12_copy_182 rc110 x1 x2 x3 (setA σ 3 0 11 (upd (mA σ 3 0 11) (((14 : Int32) * x2) + x3).toNatClampNeg (mA σ 3 0 11 (((14 : Int32) * x1) + x3).toNatClampNeg)))) else none) else none)
set_option maxRecDepth 20000 in
theorem zb_X12_copy_160 {S : Shp} {rc110 : Int32 → Int32 → Int32 → Mm → Option (Mm)} (hrc110 : ∀ {x1 : Int32} {x2 : Int32} {x3 : Int32} {σ : Mm} {r : Mm}, rc110 x1 x2 x3 σ = some r → Z m_X12_copy S (Qv r) 110 [(0, .ref (sL S 3 0 0)), (1, .int (x1)), (2, .int (x2)), (3, .int (x3))] [] σ) {x1 : Int32} {x2 : Int32} {x3 : Int32} {σ : Mm} {r : Mm} (h : F_X12_copy_160 rc110 x1 x2 x3 σ = some r) : Z m_X12_copy S (Qv r) 160 [(0, .ref (sL S 3 0 0)), (1, .int (x1)), (2, .int (x2)), (3, .int (x3))] [] σ := by
  unfold F_X12_copy_160 at h
  obtain ⟨g29, h⟩ := gd h
  refine z_aload_n dX12_copy_160 rfl 0 rfl ?_
  refine gf_12_46 rfl dX12_copy_161 ?_
  refine z_bipush (v := 14) dX12_copy_164 (by decide) ?_
  refine z_iload_n dX12_copy_166 rfl 2 rfl ?_
  refine z_imul dX12_copy_167 ?_
  refine z_iload_n dX12_copy_168 rfl 3 rfl ?_
  refine z_iadd dX12_copy_169 ?_
  refine z_aload_n dX12_copy_170 rfl 0 rfl ?_
  refine gf_12_46 rfl dX12_copy_171 ?_
  refine z_bipush (v := 14) dX12_copy_174 (by decide) ?_
  refine z_iload_n dX12_copy_176 rfl 1 rfl ?_
  refine z_imul dX12_copy_177 ?_
  refine z_iload_n dX12_copy_178 rfl 3 rfl ?_
  refine z_iadd dX12_copy_179 ?_
  obtain ⟨g30, h⟩ := gd h
  refine ia_3_11 (inb_in g29) dX12_copy_180 ?_
  refine is_3_11 (inb_in g30) dX12_copy_181 ?_
  exact zb_X12_copy_182 hrc110 h
def F_X12_copy_138 (rc110 : Int32 → Int32 → Int32 → Mm → Option (Mm)) (x1 : Int32) (x2 : Int32) (x3 : Int32) (σ : Mm) : Option (Mm) := (if inb (((14 : Int32) * x1) + x3) 70 = true then (if inb (((14 : Int32) * x2) + x3) 70 = true then (F_X12_copy_160 rc110 x1 x2 x3 (setA σ 3 0 10 (upd (mA σ 3 0 10) (((14 : Int32) * x2) + x3).toNatClampNeg (mA σ 3 0 10 (((14 : Int32) * x1) + x3).toNatClampNeg)))) else none) else none)
set_option maxRecDepth 20000 in
theorem zb_X12_copy_138 {S : Shp} {rc110 : Int32 → Int32 → Int32 → Mm → Option (Mm)} (hrc110 : ∀ {x1 : Int32} {x2 : Int32} {x3 : Int32} {σ : Mm} {r : Mm}, rc110 x1 x2 x3 σ = some r → Z m_X12_copy S (Qv r) 110 [(0, .ref (sL S 3 0 0)), (1, .int (x1)), (2, .int (x2)), (3, .int (x3))] [] σ) {x1 : Int32} {x2 : Int32} {x3 : Int32} {σ : Mm} {r : Mm} (h : F_X12_copy_138 rc110 x1 x2 x3 σ = some r) : Z m_X12_copy S (Qv r) 138 [(0, .ref (sL S 3 0 0)), (1, .int (x1)), (2, .int (x2)), (3, .int (x3))] [] σ := by
  unfold F_X12_copy_138 at h
  obtain ⟨g23, h⟩ := gd h
  refine z_aload_n dX12_copy_138 rfl 0 rfl ?_
  refine gf_12_43 rfl dX12_copy_139 ?_
  refine z_bipush (v := 14) dX12_copy_142 (by decide) ?_
  refine z_iload_n dX12_copy_144 rfl 2 rfl ?_
  refine z_imul dX12_copy_145 ?_
  refine z_iload_n dX12_copy_146 rfl 3 rfl ?_
  refine z_iadd dX12_copy_147 ?_
  refine z_aload_n dX12_copy_148 rfl 0 rfl ?_
  refine gf_12_43 rfl dX12_copy_149 ?_
  refine z_bipush (v := 14) dX12_copy_152 (by decide) ?_
  refine z_iload_n dX12_copy_154 rfl 1 rfl ?_
  refine z_imul dX12_copy_155 ?_
  refine z_iload_n dX12_copy_156 rfl 3 rfl ?_
  refine z_iadd dX12_copy_157 ?_
  obtain ⟨g24, h⟩ := gd h
  refine ia_3_10 (inb_in g23) dX12_copy_158 ?_
  refine is_3_10 (inb_in g24) dX12_copy_159 ?_
  exact zb_X12_copy_160 hrc110 h
def B_X12_copy_110 (rc110 : Int32 → Int32 → Int32 → Mm → Option (Mm)) (x1 : Int32) (x2 : Int32) (x3 : Int32) (σ : Mm) : Option (Mm) := (if (14 : Int32) ≤ x3 then (F_X12_copy_234 FU x1 x2 0 σ) else (if inb (((14 : Int32) * x1) + x3) 70 = true then (if inb (((14 : Int32) * x2) + x3) 70 = true then (F_X12_copy_138 rc110 x1 x2 x3 (setA σ 3 0 9 (upd (mA σ 3 0 9) (((14 : Int32) * x2) + x3).toNatClampNeg (vp_nar .boolean (mA σ 3 0 9 (((14 : Int32) * x1) + x3).toNatClampNeg))))) else none) else none))
set_option maxRecDepth 20000 in
theorem zB_X12_copy_110 {S : Shp} {rc110 : Int32 → Int32 → Int32 → Mm → Option (Mm)} (hrc110 : ∀ {x1 : Int32} {x2 : Int32} {x3 : Int32} {σ : Mm} {r : Mm}, rc110 x1 x2 x3 σ = some r → Z m_X12_copy S (Qv r) 110 [(0, .ref (sL S 3 0 0)), (1, .int (x1)), (2, .int (x2)), (3, .int (x3))] [] σ) {x1 : Int32} {x2 : Int32} {x3 : Int32} {σ : Mm} {r : Mm} (h : B_X12_copy_110 rc110 x1 x2 x3 σ = some r) : Z m_X12_copy S (Qv r) 110 [(0, .ref (sL S 3 0 0)), (1, .int (x1)), (2, .int (x2)), (3, .int (x3))] [] σ := by
  unfold B_X12_copy_110 at h
  refine z_iload_n dX12_copy_110 rfl 3 rfl ?_
  refine z_bipush (v := 14) dX12_copy_111 (by decide) ?_
  refine z_icmp_ge (tgt := 232) dX12_copy_113 (by decide) (fun q => ?_) (fun q => ?_)
  · have h := (if_pos q).symm.trans h
    refine z_iconst (v := 0) dX12_copy_232 (by decide) ?_
    refine z_istore_n (lv' := [(0, .ref (sL S 3 0 0)), (1, .int (x1)), (2, .int (x2)), (3, .int (0))]) dX12_copy_233 rfl (by decide) [1, 2, 3, 0] rfl ?_
    exact zl_X12_copy_234 FU h
  · have h := (if_neg q).symm.trans h
    obtain ⟨g19, h⟩ := gd h
    refine z_aload_n dX12_copy_116 rfl 0 rfl ?_
    refine gf_12_40 rfl dX12_copy_117 ?_
    refine z_bipush (v := 14) dX12_copy_120 (by decide) ?_
    refine z_iload_n dX12_copy_122 rfl 2 rfl ?_
    refine z_imul dX12_copy_123 ?_
    refine z_iload_n dX12_copy_124 rfl 3 rfl ?_
    refine z_iadd dX12_copy_125 ?_
    refine z_aload_n dX12_copy_126 rfl 0 rfl ?_
    refine gf_12_40 rfl dX12_copy_127 ?_
    refine z_bipush (v := 14) dX12_copy_130 (by decide) ?_
    refine z_iload_n dX12_copy_132 rfl 1 rfl ?_
    refine z_imul dX12_copy_133 ?_
    refine z_iload_n dX12_copy_134 rfl 3 rfl ?_
    refine z_iadd dX12_copy_135 ?_
    obtain ⟨g20, h⟩ := gd h
    refine ia_3_9 (inb_in g19) dX12_copy_136 ?_
    refine is_3_9 (inb_in g20) dX12_copy_137 ?_
    exact zb_X12_copy_138 hrc110 h
def F_X12_copy_110 : Nat → Int32 → Int32 → Int32 → Mm → Option (Mm)
  | 0 => fun _ _ _ _ => none
  | n + 1 => B_X12_copy_110 (F_X12_copy_110 n)
theorem zl_X12_copy_110 {S : Shp} : ∀ (nn : Nat) {x1 : Int32} {x2 : Int32} {x3 : Int32} {σ : Mm} {r : Mm}, F_X12_copy_110 nn x1 x2 x3 σ = some r → Z m_X12_copy S (Qv r) 110 [(0, .ref (sL S 3 0 0)), (1, .int (x1)), (2, .int (x2)), (3, .int (x3))] [] σ := by
  intro nn
  induction nn with
  | zero => intro x1 x2 x3 σ r h; cases h
  | succ nn ih => intro x1 x2 x3 σ r h; exact zB_X12_copy_110 @ih h
def F_X12_copy_108 (x1 : Int32) (x2 : Int32) (σ : Mm) : Option (Mm) := (F_X12_copy_110 FU x1 x2 0 σ)
set_option maxRecDepth 20000 in
theorem zb_X12_copy_108 {S : Shp} {x1 : Int32} {x2 : Int32} {σ : Mm} {r : Mm} (h : F_X12_copy_108 x1 x2 σ = some r) : Z m_X12_copy S (Qv r) 108 [(0, .ref (sL S 3 0 0)), (1, .int (x1)), (2, .int (x2))] [] σ := by
  unfold F_X12_copy_108 at h
  refine z_iconst (v := 0) dX12_copy_108 (by decide) ?_
  refine z_istore_n (lv' := [(0, .ref (sL S 3 0 0)), (1, .int (x1)), (2, .int (x2)), (3, .int (0))]) dX12_copy_109 rfl (by decide) [1, 2, 3, 0] rfl ?_
  exact zl_X12_copy_110 FU h
def F_X12_copy_96 (x1 : Int32) (x2 : Int32) (σ : Mm) : Option (Mm) := (if inb x1 5 = true then (if inb x2 5 = true then (F_X12_copy_108 x1 x2 (setA σ 3 0 38 (upd (mA σ 3 0 38) x2.toNatClampNeg (mA σ 3 0 38 x1.toNatClampNeg)))) else none) else none)
set_option maxRecDepth 20000 in
theorem zb_X12_copy_96 {S : Shp} {x1 : Int32} {x2 : Int32} {σ : Mm} {r : Mm} (h : F_X12_copy_96 x1 x2 σ = some r) : Z m_X12_copy S (Qv r) 96 [(0, .ref (sL S 3 0 0)), (1, .int (x1)), (2, .int (x2))] [] σ := by
  unfold F_X12_copy_96 at h
  obtain ⟨g17, h⟩ := gd h
  refine z_aload_n dX12_copy_96 rfl 0 rfl ?_
  refine gf_12_127 rfl dX12_copy_97 ?_
  refine z_iload_n dX12_copy_100 rfl 2 rfl ?_
  refine z_aload_n dX12_copy_101 rfl 0 rfl ?_
  refine gf_12_127 rfl dX12_copy_102 ?_
  refine z_iload_n dX12_copy_105 rfl 1 rfl ?_
  obtain ⟨g18, h⟩ := gd h
  refine ia_3_38 (inb_in g17) dX12_copy_106 ?_
  refine is_3_38 (inb_in g18) dX12_copy_107 ?_
  exact zb_X12_copy_108 h
def F_X12_copy_84 (x1 : Int32) (x2 : Int32) (σ : Mm) : Option (Mm) := (if inb x1 5 = true then (if inb x2 5 = true then (F_X12_copy_96 x1 x2 (setA σ 3 0 31 (upd (mA σ 3 0 31) x2.toNatClampNeg (mA σ 3 0 31 x1.toNatClampNeg)))) else none) else none)
set_option maxRecDepth 20000 in
theorem zb_X12_copy_84 {S : Shp} {x1 : Int32} {x2 : Int32} {σ : Mm} {r : Mm} (h : F_X12_copy_84 x1 x2 σ = some r) : Z m_X12_copy S (Qv r) 84 [(0, .ref (sL S 3 0 0)), (1, .int (x1)), (2, .int (x2))] [] σ := by
  unfold F_X12_copy_84 at h
  obtain ⟨g15, h⟩ := gd h
  refine z_aload_n dX12_copy_84 rfl 0 rfl ?_
  refine gf_12_106 rfl dX12_copy_85 ?_
  refine z_iload_n dX12_copy_88 rfl 2 rfl ?_
  refine z_aload_n dX12_copy_89 rfl 0 rfl ?_
  refine gf_12_106 rfl dX12_copy_90 ?_
  refine z_iload_n dX12_copy_93 rfl 1 rfl ?_
  obtain ⟨g16, h⟩ := gd h
  refine ia_3_31 (inb_in g15) dX12_copy_94 ?_
  refine is_3_31 (inb_in g16) dX12_copy_95 ?_
  exact zb_X12_copy_96 h
def F_X12_copy_72 (x1 : Int32) (x2 : Int32) (σ : Mm) : Option (Mm) := (if inb x1 5 = true then (if inb x2 5 = true then (F_X12_copy_84 x1 x2 (setA σ 3 0 28 (upd (mA σ 3 0 28) x2.toNatClampNeg (mA σ 3 0 28 x1.toNatClampNeg)))) else none) else none)
set_option maxRecDepth 20000 in
theorem zb_X12_copy_72 {S : Shp} {x1 : Int32} {x2 : Int32} {σ : Mm} {r : Mm} (h : F_X12_copy_72 x1 x2 σ = some r) : Z m_X12_copy S (Qv r) 72 [(0, .ref (sL S 3 0 0)), (1, .int (x1)), (2, .int (x2))] [] σ := by
  unfold F_X12_copy_72 at h
  obtain ⟨g13, h⟩ := gd h
  refine z_aload_n dX12_copy_72 rfl 0 rfl ?_
  refine gf_12_97 rfl dX12_copy_73 ?_
  refine z_iload_n dX12_copy_76 rfl 2 rfl ?_
  refine z_aload_n dX12_copy_77 rfl 0 rfl ?_
  refine gf_12_97 rfl dX12_copy_78 ?_
  refine z_iload_n dX12_copy_81 rfl 1 rfl ?_
  obtain ⟨g14, h⟩ := gd h
  refine ia_3_28 (inb_in g13) dX12_copy_82 ?_
  refine is_3_28 (inb_in g14) dX12_copy_83 ?_
  exact zb_X12_copy_84 h
def F_X12_copy_60 (x1 : Int32) (x2 : Int32) (σ : Mm) : Option (Mm) := (if inb x1 5 = true then (if inb x2 5 = true then (F_X12_copy_72 x1 x2 (setA σ 3 0 25 (upd (mA σ 3 0 25) x2.toNatClampNeg (mA σ 3 0 25 x1.toNatClampNeg)))) else none) else none)
set_option maxRecDepth 20000 in
theorem zb_X12_copy_60 {S : Shp} {x1 : Int32} {x2 : Int32} {σ : Mm} {r : Mm} (h : F_X12_copy_60 x1 x2 σ = some r) : Z m_X12_copy S (Qv r) 60 [(0, .ref (sL S 3 0 0)), (1, .int (x1)), (2, .int (x2))] [] σ := by
  unfold F_X12_copy_60 at h
  obtain ⟨g11, h⟩ := gd h
  refine z_aload_n dX12_copy_60 rfl 0 rfl ?_
  refine gf_12_88 rfl dX12_copy_61 ?_
  refine z_iload_n dX12_copy_64 rfl 2 rfl ?_
  refine z_aload_n dX12_copy_65 rfl 0 rfl ?_
  refine gf_12_88 rfl dX12_copy_66 ?_
  refine z_iload_n dX12_copy_69 rfl 1 rfl ?_
  obtain ⟨g12, h⟩ := gd h
  refine ia_3_25 (inb_in g11) dX12_copy_70 ?_
  refine is_3_25 (inb_in g12) dX12_copy_71 ?_
  exact zb_X12_copy_72 h
def F_X12_copy_48 (x1 : Int32) (x2 : Int32) (σ : Mm) : Option (Mm) := (if inb x1 5 = true then (if inb x2 5 = true then (F_X12_copy_60 x1 x2 (setA σ 3 0 21 (upd (mA σ 3 0 21) x2.toNatClampNeg (mA σ 3 0 21 x1.toNatClampNeg)))) else none) else none)
set_option maxRecDepth 20000 in
theorem zb_X12_copy_48 {S : Shp} {x1 : Int32} {x2 : Int32} {σ : Mm} {r : Mm} (h : F_X12_copy_48 x1 x2 σ = some r) : Z m_X12_copy S (Qv r) 48 [(0, .ref (sL S 3 0 0)), (1, .int (x1)), (2, .int (x2))] [] σ := by
  unfold F_X12_copy_48 at h
  obtain ⟨g9, h⟩ := gd h
  refine z_aload_n dX12_copy_48 rfl 0 rfl ?_
  refine gf_12_76 rfl dX12_copy_49 ?_
  refine z_iload_n dX12_copy_52 rfl 2 rfl ?_
  refine z_aload_n dX12_copy_53 rfl 0 rfl ?_
  refine gf_12_76 rfl dX12_copy_54 ?_
  refine z_iload_n dX12_copy_57 rfl 1 rfl ?_
  obtain ⟨g10, h⟩ := gd h
  refine ia_3_21 (inb_in g9) dX12_copy_58 ?_
  refine is_3_21 (inb_in g10) dX12_copy_59 ?_
  exact zb_X12_copy_60 h
def F_X12_copy_36 (x1 : Int32) (x2 : Int32) (σ : Mm) : Option (Mm) := (if inb x1 5 = true then (if inb x2 5 = true then (F_X12_copy_48 x1 x2 (setA σ 3 0 17 (upd (mA σ 3 0 17) x2.toNatClampNeg (mA σ 3 0 17 x1.toNatClampNeg)))) else none) else none)
set_option maxRecDepth 20000 in
theorem zb_X12_copy_36 {S : Shp} {x1 : Int32} {x2 : Int32} {σ : Mm} {r : Mm} (h : F_X12_copy_36 x1 x2 σ = some r) : Z m_X12_copy S (Qv r) 36 [(0, .ref (sL S 3 0 0)), (1, .int (x1)), (2, .int (x2))] [] σ := by
  unfold F_X12_copy_36 at h
  obtain ⟨g7, h⟩ := gd h
  refine z_aload_n dX12_copy_36 rfl 0 rfl ?_
  refine gf_12_64 rfl dX12_copy_37 ?_
  refine z_iload_n dX12_copy_40 rfl 2 rfl ?_
  refine z_aload_n dX12_copy_41 rfl 0 rfl ?_
  refine gf_12_64 rfl dX12_copy_42 ?_
  refine z_iload_n dX12_copy_45 rfl 1 rfl ?_
  obtain ⟨g8, h⟩ := gd h
  refine ia_3_17 (inb_in g7) dX12_copy_46 ?_
  refine is_3_17 (inb_in g8) dX12_copy_47 ?_
  exact zb_X12_copy_48 h
def F_X12_copy_24 (x1 : Int32) (x2 : Int32) (σ : Mm) : Option (Mm) := (if inb x1 5 = true then (if inb x2 5 = true then (F_X12_copy_36 x1 x2 (setA σ 3 0 14 (upd (mA σ 3 0 14) x2.toNatClampNeg (mA σ 3 0 14 x1.toNatClampNeg)))) else none) else none)
set_option maxRecDepth 20000 in
theorem zb_X12_copy_24 {S : Shp} {x1 : Int32} {x2 : Int32} {σ : Mm} {r : Mm} (h : F_X12_copy_24 x1 x2 σ = some r) : Z m_X12_copy S (Qv r) 24 [(0, .ref (sL S 3 0 0)), (1, .int (x1)), (2, .int (x2))] [] σ := by
  unfold F_X12_copy_24 at h
  obtain ⟨g5, h⟩ := gd h
  refine z_aload_n dX12_copy_24 rfl 0 rfl ?_
  refine gf_12_55 rfl dX12_copy_25 ?_
  refine z_iload_n dX12_copy_28 rfl 2 rfl ?_
  refine z_aload_n dX12_copy_29 rfl 0 rfl ?_
  refine gf_12_55 rfl dX12_copy_30 ?_
  refine z_iload_n dX12_copy_33 rfl 1 rfl ?_
  obtain ⟨g6, h⟩ := gd h
  refine ia_3_14 (inb_in g5) dX12_copy_34 ?_
  refine is_3_14 (inb_in g6) dX12_copy_35 ?_
  exact zb_X12_copy_36 h
def F_X12_copy_12 (x1 : Int32) (x2 : Int32) (σ : Mm) : Option (Mm) := (if inb x1 5 = true then (if inb x2 5 = true then (F_X12_copy_24 x1 x2 (setA σ 3 0 8 (upd (mA σ 3 0 8) x2.toNatClampNeg (mA σ 3 0 8 x1.toNatClampNeg)))) else none) else none)
set_option maxRecDepth 20000 in
theorem zb_X12_copy_12 {S : Shp} {x1 : Int32} {x2 : Int32} {σ : Mm} {r : Mm} (h : F_X12_copy_12 x1 x2 σ = some r) : Z m_X12_copy S (Qv r) 12 [(0, .ref (sL S 3 0 0)), (1, .int (x1)), (2, .int (x2))] [] σ := by
  unfold F_X12_copy_12 at h
  obtain ⟨g3, h⟩ := gd h
  refine z_aload_n dX12_copy_12 rfl 0 rfl ?_
  refine gf_12_37 rfl dX12_copy_13 ?_
  refine z_iload_n dX12_copy_16 rfl 2 rfl ?_
  refine z_aload_n dX12_copy_17 rfl 0 rfl ?_
  refine gf_12_37 rfl dX12_copy_18 ?_
  refine z_iload_n dX12_copy_21 rfl 1 rfl ?_
  obtain ⟨g4, h⟩ := gd h
  refine ia_3_8 (inb_in g3) dX12_copy_22 ?_
  refine is_3_8 (inb_in g4) dX12_copy_23 ?_
  exact zb_X12_copy_24 h
def F_X12_copy (x1 : Int32) (x2 : Int32) (σ : Mm) : Option (Mm) := (if inb x1 5 = true then (if inb x2 5 = true then (F_X12_copy_12 x1 x2 (setA σ 3 0 7 (upd (mA σ 3 0 7) x2.toNatClampNeg (mA σ 3 0 7 x1.toNatClampNeg)))) else none) else none)
set_option maxRecDepth 20000 in
theorem zb_X12_copy {S : Shp} {x1 : Int32} {x2 : Int32} {σ : Mm} {r : Mm} (h : F_X12_copy x1 x2 σ = some r) : Z m_X12_copy S (Qv r) 0 [(0, .ref (sL S 3 0 0)), (1, .int (x1)), (2, .int (x2))] [] σ := by
  unfold F_X12_copy at h
  obtain ⟨g1, h⟩ := gd h
  refine z_aload_n dX12_copy_0 rfl 0 rfl ?_
  refine gf_12_34 rfl dX12_copy_1 ?_
  refine z_iload_n dX12_copy_4 rfl 2 rfl ?_
  refine z_aload_n dX12_copy_5 rfl 0 rfl ?_
  refine gf_12_34 rfl dX12_copy_6 ?_
  refine z_iload_n dX12_copy_9 rfl 1 rfl ?_
  obtain ⟨g2, h⟩ := gd h
  refine ia_3_7 (inb_in g1) dX12_copy_10 ?_
  refine is_3_7 (inb_in g2) dX12_copy_11 ?_
  exact zb_X12_copy_12 h
/-- SkyStonesModel.copy(II)V -/
theorem c_X12_copy {S : Shp} {x1 : Int32} {x2 : Int32} {σ : Mm} {r : Mm} (h : F_X12_copy x1 x2 σ = some r) : Ct m_X12_copy S [.ref (sL S 3 0 0), .int (x1), .int (x2)] σ (Qv r) := Ct.of (by decide +kernel) (Nat.le_of_ble_eq_true rfl) (zb_X12_copy h)
