/-! spin: HITS of a set in every turn -/
theorem CV.fr {D : DD} {cw : Nat} {y : Int32} {W : List (Nat × Nat × Nat)} {σ τ : Mm} (h : CV D cw y σ) (hf : Fr W σ τ) (hw : noW W 0 31 = true) : CV D cw y τ := by
  unfold CV; rw [hf.row (t := 0) (k := 31) 0 hw]; exact h
theorem GTH.fr {D : DD} {n : Nat} {ρ : Int32} {W : List (Nat × Nat × Nat)} {σ τ : Mm} (h : GTH D n ρ σ) (hf : Fr W σ τ) (hw : noW W 0 30 = true) : GTH D n ρ τ := by
  unfold GTH; rw [hf.row (t := 0) (k := 30) 0 hw]; exact h
/-- where it changes, up to k -/
def Ed (c : Nat → Bool) (k : Nat) : List Nat := (List.range k).filter (fun e => c e != c ((e + 1) % 360))
theorem Ed_s {c : Nat → Bool} {k : Nat} : Ed c (k + 1) = Ed c k ++ (if (c k != c ((k + 1) % 360)) = true then [k] else []) := by
  unfold Ed
  rw [List.range_succ, List.filter_append]
  congr 1
  cases h : (c k != c ((k + 1) % 360)) <;> simp [h]
theorem Ed_len {c : Nat → Bool} (k : Nat) : (Ed c k).length ≤ k := by
  unfold Ed
  have := List.length_filter_le (fun e => c e != c ((e + 1) % 360)) (List.range k)
  rw [List.length_range] at this
  exact this
theorem Ed_lt {c : Nat → Bool} {k j e : Nat} (h : (Ed c k)[j]? = some e) : e < k := by
  have := List.mem_of_getElem? h
  unfold Ed at this
  exact List.mem_range.mp (List.mem_filter.mp this).1
def dl (c : Nat → Bool) (e : Nat) : Int32 := bI (c ((e + 1) % 360)) - bI (c e)
def EDG (c : Nat → Bool) (k : Nat) (σ : Mm) : Prop := mA σ 0 0 29 5 = nI (Ed c k).length ∧ ∀ j e, (Ed c k)[j]? = some e → mA σ 0 0 35 j = nI e ∧ mA σ 0 0 36 j = dl c e
theorem EDG.fr {c : Nat → Bool} {k : Nat} {W : List (Nat × Nat × Nat)} {σ τ : Mm} (h : EDG c k σ) (hf : Fr W σ τ) (hw : (!(inW W 0 29 5) && (noW W 0 35 && noW W 0 36)) = true) : EDG c k τ := by
  simp only [Bool.and_eq_true, Bool.not_eq_true'] at hw
  unfold EDG
  rw [hf.fld (t := 0) (k := 29) (f := 5) 0 hw.1, hf.row (t := 0) (k := 35) 0 hw.2.1, hf.row (t := 0) (k := 36) 0 hw.2.2]
  exact h
theorem edges_27 {D : DD} {n cw : Nat} {y set ρ : Int32} : ∀ (m k : Nat) (σ : Mm), 360 - k < m → k ≤ 360 → CV D cw y σ → GTH D n ρ σ → EDG (ch D cw y set) k σ →
    Ok (F_X10_findEdges_27 m set (sm (fun e => bI (ch D cw y set e) * ctD D n ρ e) k) (bI (ch D cw y set (k % 360))) (nI k) σ) (fun q => q.1 = sm (fun e => bI (ch D cw y set e) * ctD D n ρ e) 360 ∧ EDG (ch D cw y set) 360 q.2) := by
  intro m
  induction m with
  | zero => intro k σ h; omega
  | succ m ih =>
    intro k σ hm hk hV hG hE
    change Ok (B_X10_findEdges_27 (F_X10_findEdges_27 m) _ _ _ _ _) _
    unfold B_X10_findEdges_27
    by_cases hd : 360 ≤ k
    · have e : k = 360 := by omega
      subst e
      exact Ok_t (by decide) (Ok_r ⟨rfl, hE⟩)
    have hk2 : k < 360 := by omega
    refine Ok_f (show ¬ (360 : Int32) ≤ nI k from nI_ge (b := 360) (by omega) (by decide)) ?_
    rw [nI_1, show k % 360 = k by omega]
    have hn1 : (k + 1) % 360 < 360 := by omega
    have i0 := fun σ => ih (k + 1) σ (by omega) (by omega)
    generalize hS : sm (fun e => bI (ch D cw y set e) * ctD D n ρ e) k = S at *
    have hS1 : sm (fun e => bI (ch D cw y set e) * ctD D n ρ e) (k + 1) = S + bI (ch D cw y set k) * ctD D n ρ k := by rw [sm_s, hS]
    rw [hS1] at i0
    have e57 : (if (360 : Int32) ≤ nI (k + 1) then F_X10_findEdges_57 (F_X10_findEdges_27 m) set S (bI (ch D cw y set k)) (nI k) 0 σ else F_X10_findEdges_57 (F_X10_findEdges_27 m) set S (bI (ch D cw y set k)) (nI k) (nI (k + 1)) σ) = F_X10_findEdges_57 (F_X10_findEdges_27 m) set S (bI (ch D cw y set k)) (nI k) (nI ((k + 1) % 360)) σ := by
      by_cases h : k = 359
      · subst h; rw [if_pos (by decide)]; rfl
      · rw [if_neg (show ¬ (360 : Int32) ≤ nI (k + 1) from nI_ge (b := 360) (by omega) (by decide)), show (k + 1) % 360 = k + 1 by omega]
    rw [e57]
    generalize hz : (k + 1) % 360 = z at *
    have hcz : (nI z).toNatClampNeg = z := nI_clamp (by omega)
    have hck : (nI k).toNatClampNeg = k := nI_clamp (by omega)
    have iz : inb (nI z) 360 = true := by clear ih i0 hV hG hE e57 hS hS1; grind [gI, gB, gC]
    have ik : inb (nI k) 360 = true := by clear ih i0 hV hG hE e57 hS hS1; grind [gI, gB, gC]
    have next : Ok (F_X10_findEdges_84 (F_X10_findEdges_27 m) set (S + bI (ch D cw y set k) * ctD D n ρ k) (bI (ch D cw y set k)) (nI k) (bI (ch D cw y set z)) σ) (fun q => q.1 = sm (fun e => bI (ch D cw y set e) * ctD D n ρ e) 360 ∧ EDG (ch D cw y set) 360 q.2) := by
      unfold F_X10_findEdges_84 F_X10_findEdges_130
      rw [nI_1]
      have hEs := Ed_s (c := ch D cw y set) (k := k)
      rw [hz] at hEs
      by_cases hc : ch D cw y set k = ch D cw y set z
      · refine Ok_t (by rw [hc]) (i0 σ hV hG ?_)
        rw [hc, bne_self_eq_false, if_neg (by decide), List.append_nil] at hEs
        unfold EDG; rw [hEs]; exact hE
      · have hb : (ch D cw y set k != ch D cw y set z) = true := bne_iff_ne.mpr hc
        rw [hb, if_pos rfl] at hEs
        refine Ok_f (by intro w; unfold bI at w; apply hc; generalize ch D cw y set k = a at *; generalize ch D cw y set z = b at *; cases a <;> cases b <;> first | rfl | exact absurd w (by decide)) ?_
        have hlen := Ed_len (c := ch D cw y set) k
        have hcl : (nI (Ed (ch D cw y set) k).length).toNatClampNeg = (Ed (ch D cw y set) k).length := nI_clamp (by omega)
        have il : inb (nI (Ed (ch D cw y set) k).length) 360 = true := by
          have : (Ed (ch D cw y set) k).length < 360 := by omega
          generalize (Ed (ch D cw y set) k).length = w at *
          clear ih i0 hV hG hE e57 hS hS1 hEs; grind [gI, gB, gC]
        rw [hE.1]
        refine Ok_t il ?_
        rw [hcl]
        unfold F_X10_findEdges_101
        have e29 : mA (setA σ 0 0 35 (upd (mA σ 0 0 35) (Ed (ch D cw y set) k).length (nI k))) 0 0 29 5 = nI (Ed (ch D cw y set) k).length := by simp only [mA_A, mL_A, mP_A, mA_L, mL_L, mP_L, upd_at]; simp; exact hE.1
        rw [e29]
        have e119 : (if bI (ch D cw y set z) = 0 then F_X10_findEdges_119 (F_X10_findEdges_27 m) set (S + bI (ch D cw y set k) * ctD D n ρ k) (nI k) (bI (ch D cw y set z)) (-1) (nI (Ed (ch D cw y set) k).length) (setA σ 0 0 35 (upd (mA σ 0 0 35) (Ed (ch D cw y set) k).length (nI k))) else F_X10_findEdges_119 (F_X10_findEdges_27 m) set (S + bI (ch D cw y set k) * ctD D n ρ k) (nI k) (bI (ch D cw y set z)) 1 (nI (Ed (ch D cw y set) k).length) (setA σ 0 0 35 (upd (mA σ 0 0 35) (Ed (ch D cw y set) k).length (nI k)))) = F_X10_findEdges_119 (F_X10_findEdges_27 m) set (S + bI (ch D cw y set k) * ctD D n ρ k) (nI k) (bI (ch D cw y set z)) (dl (ch D cw y set) k) (nI (Ed (ch D cw y set) k).length) (setA σ 0 0 35 (upd (mA σ 0 0 35) (Ed (ch D cw y set) k).length (nI k))) := by
          unfold dl
          rw [hz]
          cases h1 : ch D cw y set z with
          | false =>
            have h2 : ch D cw y set k = true := by cases h3 : ch D cw y set k with
              | true => rfl
              | false => exact absurd (h3.trans h1.symm) hc
            rw [h2, if_pos (by decide)]; rfl
          | true =>
            have h2 : ch D cw y set k = false := by cases h3 : ch D cw y set k with
              | false => rfl
              | true => exact absurd (h3.trans h1.symm) hc
            rw [h2, if_neg (by decide)]; rfl
        rw [e119]
        unfold F_X10_findEdges_119 F_X10_findEdges_120 F_X10_findEdges_130
        rw [hcl, nI_1]
        refine Ok_t il (i0 _ ?_ ?_ ?_)
        · exact hV.fr (W := [(0, 35, 999), (0, 36, 999), (0, 29, 5)]) (Fr.A (Fr.AA (Fr.AA Fr_r rfl) rfl) rfl) rfl
        · exact hG.fr (W := [(0, 35, 999), (0, 36, 999), (0, 29, 5)]) (Fr.A (Fr.AA (Fr.AA Fr_r rfl) rfl) rfl) rfl
        · refine ⟨?_, fun j e hj => ?_⟩
          · rw [hEs, List.length_append]
            simp only [mA_A, mL_A, mP_A, mA_L, mL_L, mP_L, upd_at]; simp
            rw [hE.1, nI_1]
          · rw [hEs] at hj
            simp only [mA_A, mL_A, mP_A, mA_L, mL_L, mP_L, upd_at]
            simp
            by_cases e1 : j = (Ed (ch D cw y set) k).length
            · subst e1
              rw [List.getElem?_append_right (by omega), Nat.sub_self] at hj
              have hx : k = e := by simpa using hj
              subst hx
              rw [if_pos rfl, if_pos rfl]
              exact ⟨rfl, rfl⟩
            · have hlt : j < (Ed (ch D cw y set) k).length := by
                have := (List.getElem?_eq_some_iff.mp hj).1
                rw [List.length_append] at this
                simp only [List.length_singleton] at this
                omega
              rw [List.getElem?_append_left hlt] at hj
              rw [if_neg e1, if_neg e1]
              exact hE.2 j e hj
    have next68 : ∀ b, Ok (F_X10_findEdges_84 (F_X10_findEdges_27 m) set (S + bI (ch D cw y set k) * ctD D n ρ k) (bI (ch D cw y set k)) (nI k) b σ) (fun q => q.1 = sm (fun e => bI (ch D cw y set e) * ctD D n ρ e) 360 ∧ EDG (ch D cw y set) 360 q.2) → Ok (F_X10_findEdges_68 (F_X10_findEdges_27 m) set S (bI (ch D cw y set k)) (nI k) b σ) (fun q => q.1 = sm (fun e => bI (ch D cw y set e) * ctD D n ρ e) 360 ∧ EDG (ch D cw y set) 360 q.2) := by
      intro b hb
      unfold F_X10_findEdges_68
      cases h1 : ch D cw y set k with
      | false =>
        rw [h1] at hb
        rw [show S + bI false * ctD D n ρ k = S from by show S + 0 * _ = S; grind] at hb
        exact Ok_t rfl hb
      | true =>
        rw [h1] at hb
        refine Ok_f (by decide) (Ok_t ik ?_)
        rw [hck, hG k hk2]
        rw [show S + bI true * ctD D n ρ k = S + ctD D n ρ k from by show S + 1 * _ = _; grind] at hb
        exact hb
    unfold F_X10_findEdges_57
    refine Ok_t iz ?_
    rw [hcz, hV z hn1]
    have ez : ch D cw y set z = decide (HB D y (nI z) (nI cw) false &&& set ≠ 0) := rfl
    by_cases h : HB D y (nI z) (nI cw) false &&& set = 0
    · rw [ez, decide_eq_false (not_not_intro h)] at next
      exact Ok_t h (next68 0 next)
    · rw [ez, decide_eq_true (p := _ ≠ (0 : Int32)) h] at next
      exact Ok_f h (next68 1 next)
theorem s_findEdges {D : DD} {n cw : Nat} {y set ρ : Int32} {σ : Mm} (hV : CV D cw y σ) (hG : GTH D n ρ σ) : Ok (F_X10_findEdges set σ) (fun q => q.1 = sm (fun e => bI (ch D cw y set e) * ctD D n ρ e) 360 ∧ EDG (ch D cw y set) 360 q.2) := by
  unfold F_X10_findEdges F_X10_findEdges_7 F_X10_findEdges_23
  have f : Fr [(0, 29, 5)] σ (setA σ 0 0 29 (upd (mA σ 0 0 29) 5 0)) := Fr.A Fr_r rfl
  have e29 : mA (setA σ 0 0 29 (upd (mA σ 0 0 29) 5 0)) 0 0 29 5 = 0 := by simp only [mA_A, mL_A, mP_A, mA_L, mL_L, mP_L, upd_at]; simp
  generalize setA σ 0 0 29 (upd (mA σ 0 0 29) 5 0) = τ at *
  have hV1 := hV.fr f rfl
  have hG1 := hG.fr f rfl
  refine Ok_t (by decide) ?_
  have := edges_27 (set := set) FU 0 τ (by show _ < 1000000; omega) (by omega) hV1 hG1 ⟨e29, fun j e h => by simp [Ed] at h⟩
  rw [show (0 : Int32).toNatClampNeg = 0 from rfl, hV1 0 (by omega)]
  have ez : ch D cw y set (0 % 360) = decide (HB D y (nI 0) (nI cw) false &&& set ≠ 0) := rfl
  by_cases h : HB D y (nI 0) (nI cw) false &&& set = 0
  · rw [ez, decide_eq_false (not_not_intro h)] at this
    exact Ok_t h this
  · rw [ez, decide_eq_true (p := _ ≠ (0 : Int32)) h] at this
    exact Ok_f h this
