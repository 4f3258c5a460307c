/-- what is wanted of hold in the law -/
def HoldOk : Prop := ∀ {b L : Nat} {xs : Nat → Int32} {S : Shp} {cells slots i : Nat} {σ σ1 σ2 : Mm} {r : Int32} {h1 : Nat → Bool}, L ≤ 3584 → i + 7 ≤ L → cells + 22 * (3 - nh (sH S)) ≤ 600000 → slots + 1287 * (3 - nh (sH S)) ≤ 7302250 → F_hold (sH S) (xs (nI i + 1).toNatClampNeg) σ = some (r, h1, σ1) → F_X12_hold (xs (nI i + 1).toNatClampNeg) σ1 = some (r, σ2) → (∀ (S1 : Shp) (c1 s1 : Nat), sH S1 = h1 → c1 + 22 * (3 - nh (sH S1)) ≤ 600000 → s1 + 1287 * (3 - nh (sH S1)) ≤ 7302250 → ZL b L xs S1 c1 s1 2124 [(0, .ref b), (1, .ref (sL S1 0 0 0)), (2, .ref (sL S1 3 0 0)), (3, .int (nI i))] [] σ2) → ZL b L xs S cells slots 2055 [(0, .ref b), (1, .ref (sL S 0 0 0)), (2, .ref (sL S 3 0 0)), (3, .int (nI i))] [] σ
set_option maxRecDepth 100000 in
set_option maxHeartbeats 4000000 in
theorem law_loop (I : (Nat → Bool) → Mm → Prop) (hstep : ∀ h σ k a1 a2 a3 a4 a5 a6, I h σ → stp I h σ k a1 a2 a3 a4 a5 a6) (hhold : HoldOk) {b L : Nat} {xs : Nat → Int32} (hL : L ≤ 3584) : ∀ (n i : Nat) (S : Shp) (cells slots : Nat) (σ : Mm), I (sH S) σ → cells + 22 * (3 - nh (sH S)) ≤ 600000 → slots + 1287 * (3 - nh (sH S)) ≤ 7302250 → i ≤ L + 7 → L + 7 - i < n → ZL b L xs S cells slots 18 [(0, .ref b), (1, .ref (sL S 0 0 0)), (2, .ref (sL S 3 0 0)), (3, .int (nI i))] [] σ := by
  intro n
  induction n with
  | zero => intro i S cells slots σ _ _ _ _ h; omega
  | succ n ih =>
    intro i S cells slots σ hI hc hs hiL hn
    have hc0 : cells ≤ 600000 := by omega
    have hs0 : slots ≤ 7302250 := by omega
    refine y_iload_n dL_law_18 rfl 3 rfl ?_
    refine y_aload_n dL_law_19 rfl 0 rfl ?_
    refine y_slen dL_law_20 ?_
    refine y_bipush (v := 7) dL_law_21 (by decide) ?_
    refine y_isub dL_law_23 ?_
    refine y_icmp_gt (tgt := 2130) dL_law_24 (by decide) (fun q => ?_) (fun q => ?_)
    · refine y_iconst (v := 1) dL_law_2130 (by decide) ?_
      exact y_ret hc0 hs0 dL_law_2131
    · have hi : i + 7 ≤ L := law_in hL hiL q
      have back : ∀ (S1 : Shp) (c1 s1 : Nat) (τ : Mm), I (sH S1) τ → c1 + 22 * (3 - nh (sH S1)) ≤ 600000 → s1 + 1287 * (3 - nh (sH S1)) ≤ 7302250 → ZL b L xs S1 c1 s1 2124 [(0, .ref b), (1, .ref (sL S1 0 0 0)), (2, .ref (sL S1 3 0 0)), (3, .int (nI i))] [] τ := by
        intro S1 c1 s1 τ hI1 hc1 hs1
        refine y_iinc (j := 3) (v := nI (i + 7)) (lv' := [(0, .ref b), (1, .ref (sL S1 0 0 0)), (2, .ref (sL S1 3 0 0)), (3, .int (nI (i + 7)))]) dL_law_2124 rfl (nI_add i 7) (by decide) [1, 2, 3, 0] rfl ?_
        refine y_goto (tgt := 18) dL_law_2127 (by decide) ?_
        exact ih (i + 7) S1 c1 s1 τ hI1 hc1 hs1 (by omega) (by omega)
      refine y_aload_n dL_law_27 rfl 0 rfl ?_
      refine y_iload_n dL_law_28 rfl 3 rfl ?_
      refine y_sld (vp_in_nI (by omega) (by omega)) dL_law_29 ?_
      refine y_bipush (v := 63) dL_law_30 (by decide) ?_
      refine y_iand dL_law_32 ?_
      generalize xs (nI i).toNatClampNeg &&& 63 = w
      by_cases q0 : w = 0
      · refine y_tableIn (tgt := 224) (off := 191) dL_law_33 (by rw [q0]; decide) (by rw [q0]; decide) (by rw [q0]; rfl) (by decide) ?_
        obtain ⟨r, σ1, σ2, e1, e2, hI1⟩ := hstep (sH S) σ 0 (xs (nI i + 1).toNatClampNeg) (xs (nI i + 2).toNatClampNeg) (xs (nI i + 3).toNatClampNeg) (xs (nI i + 4).toNatClampNeg) (xs (nI i + 5).toNatClampNeg) (xs (nI i + 6).toNatClampNeg) hI
        exact lc_0 hL hi hc0 hs0 e1 e2 (back S cells slots σ2 hI1 hc hs)
      by_cases q1 : w = 1
      · refine y_tableIn (tgt := 287) (off := 254) dL_law_33 (by rw [q1]; decide) (by rw [q1]; decide) (by rw [q1]; rfl) (by decide) ?_
        obtain ⟨r, σ1, σ2, e1, e2, hI1⟩ := hstep (sH S) σ 1 (xs (nI i + 1).toNatClampNeg) (xs (nI i + 2).toNatClampNeg) (xs (nI i + 3).toNatClampNeg) (xs (nI i + 4).toNatClampNeg) (xs (nI i + 5).toNatClampNeg) (xs (nI i + 6).toNatClampNeg) hI
        exact lc_1 hL hi hc0 hs0 e1 e2 (back S cells slots σ2 hI1 hc hs)
      by_cases q2 : w = 2
      · refine y_tableIn (tgt := 310) (off := 277) dL_law_33 (by rw [q2]; decide) (by rw [q2]; decide) (by rw [q2]; rfl) (by decide) ?_
        obtain ⟨r, σ1, σ2, e1, e2, hI1⟩ := hstep (sH S) σ 2 (xs (nI i + 1).toNatClampNeg) (xs (nI i + 2).toNatClampNeg) (xs (nI i + 3).toNatClampNeg) (xs (nI i + 4).toNatClampNeg) (xs (nI i + 5).toNatClampNeg) (xs (nI i + 6).toNatClampNeg) hI
        exact lc_2 hL hi hc0 hs0 e1 e2 (back S cells slots σ2 hI1 hc hs)
      by_cases q3 : w = 3
      · refine y_tableIn (tgt := 323) (off := 290) dL_law_33 (by rw [q3]; decide) (by rw [q3]; decide) (by rw [q3]; rfl) (by decide) ?_
        obtain ⟨r, e1, p1, e2, p2, hI1⟩ := hstep (sH S) σ 3 (xs (nI i + 1).toNatClampNeg) (xs (nI i + 2).toNatClampNeg) (xs (nI i + 3).toNatClampNeg) (xs (nI i + 4).toNatClampNeg) (xs (nI i + 5).toNatClampNeg) (xs (nI i + 6).toNatClampNeg) hI
        exact lc_3 (σ1 := σ) (σ2 := σ) hL hi hc0 hs0 e1 p1 e2 p2 (back S cells slots σ hI1 hc hs)
      by_cases q4 : w = 4
      · refine y_tableIn (tgt := 336) (off := 303) dL_law_33 (by rw [q4]; decide) (by rw [q4]; decide) (by rw [q4]; rfl) (by decide) ?_
        obtain ⟨r, σ1, σ2, e1, e2, hI1⟩ := hstep (sH S) σ 4 (xs (nI i + 1).toNatClampNeg) (xs (nI i + 2).toNatClampNeg) (xs (nI i + 3).toNatClampNeg) (xs (nI i + 4).toNatClampNeg) (xs (nI i + 5).toNatClampNeg) (xs (nI i + 6).toNatClampNeg) hI
        exact lc_4 hL hi hc0 hs0 e1 e2 (back S cells slots σ2 hI1 hc hs)
      by_cases q5 : w = 5
      · refine y_tableIn (tgt := 379) (off := 346) dL_law_33 (by rw [q5]; decide) (by rw [q5]; decide) (by rw [q5]; rfl) (by decide) ?_
        obtain ⟨r, σ1, σ2, e1, e2, hI1⟩ := hstep (sH S) σ 5 (xs (nI i + 1).toNatClampNeg) (xs (nI i + 2).toNatClampNeg) (xs (nI i + 3).toNatClampNeg) (xs (nI i + 4).toNatClampNeg) (xs (nI i + 5).toNatClampNeg) (xs (nI i + 6).toNatClampNeg) hI
        exact lc_5 hL hi hc0 hs0 e1 e2 (back S cells slots σ2 hI1 hc hs)
      by_cases q6 : w = 6
      · refine y_tableIn (tgt := 422) (off := 389) dL_law_33 (by rw [q6]; decide) (by rw [q6]; decide) (by rw [q6]; rfl) (by decide) ?_
        obtain ⟨r, σ1, σ2, e1, e2, hI1⟩ := hstep (sH S) σ 6 (xs (nI i + 1).toNatClampNeg) (xs (nI i + 2).toNatClampNeg) (xs (nI i + 3).toNatClampNeg) (xs (nI i + 4).toNatClampNeg) (xs (nI i + 5).toNatClampNeg) (xs (nI i + 6).toNatClampNeg) hI
        exact lc_6 hL hi hc0 hs0 e1 e2 (back S cells slots σ2 hI1 hc hs)
      by_cases q7 : w = 7
      · refine y_tableIn (tgt := 445) (off := 412) dL_law_33 (by rw [q7]; decide) (by rw [q7]; decide) (by rw [q7]; rfl) (by decide) ?_
        obtain ⟨r, σ1, σ2, e1, e2, hI1⟩ := hstep (sH S) σ 7 (xs (nI i + 1).toNatClampNeg) (xs (nI i + 2).toNatClampNeg) (xs (nI i + 3).toNatClampNeg) (xs (nI i + 4).toNatClampNeg) (xs (nI i + 5).toNatClampNeg) (xs (nI i + 6).toNatClampNeg) hI
        exact lc_7 hL hi hc0 hs0 e1 e2 (back S cells slots σ2 hI1 hc hs)
      by_cases q8 : w = 8
      · refine y_tableIn (tgt := 478) (off := 445) dL_law_33 (by rw [q8]; decide) (by rw [q8]; decide) (by rw [q8]; rfl) (by decide) ?_
        obtain ⟨r, σ1, σ2, e1, e2, hI1⟩ := hstep (sH S) σ 8 (xs (nI i + 1).toNatClampNeg) (xs (nI i + 2).toNatClampNeg) (xs (nI i + 3).toNatClampNeg) (xs (nI i + 4).toNatClampNeg) (xs (nI i + 5).toNatClampNeg) (xs (nI i + 6).toNatClampNeg) hI
        exact lc_8 hL hi hc0 hs0 e1 e2 (back S cells slots σ2 hI1 hc hs)
      by_cases q9 : w = 9
      · refine y_tableIn (tgt := 501) (off := 468) dL_law_33 (by rw [q9]; decide) (by rw [q9]; decide) (by rw [q9]; rfl) (by decide) ?_
        obtain ⟨r, σ1, σ2, e1, e2, hI1⟩ := hstep (sH S) σ 9 (xs (nI i + 1).toNatClampNeg) (xs (nI i + 2).toNatClampNeg) (xs (nI i + 3).toNatClampNeg) (xs (nI i + 4).toNatClampNeg) (xs (nI i + 5).toNatClampNeg) (xs (nI i + 6).toNatClampNeg) hI
        exact lc_9 hL hi hc0 hs0 e1 e2 (back S cells slots σ2 hI1 hc hs)
      by_cases q10 : w = 10
      · refine y_tableIn (tgt := 544) (off := 511) dL_law_33 (by rw [q10]; decide) (by rw [q10]; decide) (by rw [q10]; rfl) (by decide) ?_
        obtain ⟨r, σ1, σ2, e1, e2, hI1⟩ := hstep (sH S) σ 10 (xs (nI i + 1).toNatClampNeg) (xs (nI i + 2).toNatClampNeg) (xs (nI i + 3).toNatClampNeg) (xs (nI i + 4).toNatClampNeg) (xs (nI i + 5).toNatClampNeg) (xs (nI i + 6).toNatClampNeg) hI
        exact lc_10 hL hi hc0 hs0 e1 e2 (back S cells slots σ2 hI1 hc hs)
      by_cases q11 : w = 11
      · refine y_tableIn (tgt := 577) (off := 544) dL_law_33 (by rw [q11]; decide) (by rw [q11]; decide) (by rw [q11]; rfl) (by decide) ?_
        obtain ⟨r, e1, p1, e2, p2, hI1⟩ := hstep (sH S) σ 11 (xs (nI i + 1).toNatClampNeg) (xs (nI i + 2).toNatClampNeg) (xs (nI i + 3).toNatClampNeg) (xs (nI i + 4).toNatClampNeg) (xs (nI i + 5).toNatClampNeg) (xs (nI i + 6).toNatClampNeg) hI
        exact lc_11 (σ1 := σ) (σ2 := σ) hL hi hc0 hs0 e1 p1 e2 p2 (back S cells slots σ hI1 hc hs)
      by_cases q12 : w = 12
      · refine y_tableIn (tgt := 610) (off := 577) dL_law_33 (by rw [q12]; decide) (by rw [q12]; decide) (by rw [q12]; rfl) (by decide) ?_
        obtain ⟨r, σ1, σ2, e1, e2, hI1⟩ := hstep (sH S) σ 12 (xs (nI i + 1).toNatClampNeg) (xs (nI i + 2).toNatClampNeg) (xs (nI i + 3).toNatClampNeg) (xs (nI i + 4).toNatClampNeg) (xs (nI i + 5).toNatClampNeg) (xs (nI i + 6).toNatClampNeg) hI
        exact lc_12 hL hi hc0 hs0 e1 e2 (back S cells slots σ2 hI1 hc hs)
      by_cases q13 : w = 13
      · refine y_tableIn (tgt := 653) (off := 620) dL_law_33 (by rw [q13]; decide) (by rw [q13]; decide) (by rw [q13]; rfl) (by decide) ?_
        obtain ⟨r, σ1, σ2, e1, e2, hI1⟩ := hstep (sH S) σ 13 (xs (nI i + 1).toNatClampNeg) (xs (nI i + 2).toNatClampNeg) (xs (nI i + 3).toNatClampNeg) (xs (nI i + 4).toNatClampNeg) (xs (nI i + 5).toNatClampNeg) (xs (nI i + 6).toNatClampNeg) hI
        exact lc_13 hL hi hc0 hs0 e1 e2 (back S cells slots σ2 hI1 hc hs)
      by_cases q14 : w = 14
      · refine y_tableIn (tgt := 702) (off := 669) dL_law_33 (by rw [q14]; decide) (by rw [q14]; decide) (by rw [q14]; rfl) (by decide) ?_
        obtain ⟨r, σ1, σ2, e1, e2, hI1⟩ := hstep (sH S) σ 14 (xs (nI i + 1).toNatClampNeg) (xs (nI i + 2).toNatClampNeg) (xs (nI i + 3).toNatClampNeg) (xs (nI i + 4).toNatClampNeg) (xs (nI i + 5).toNatClampNeg) (xs (nI i + 6).toNatClampNeg) hI
        exact lc_14 hL hi hc0 hs0 e1 e2 (back S cells slots σ2 hI1 hc hs)
      by_cases q15 : w = 15
      · refine y_tableIn (tgt := 725) (off := 692) dL_law_33 (by rw [q15]; decide) (by rw [q15]; decide) (by rw [q15]; rfl) (by decide) ?_
        obtain ⟨r, σ1, σ2, e1, e2, hI1⟩ := hstep (sH S) σ 15 (xs (nI i + 1).toNatClampNeg) (xs (nI i + 2).toNatClampNeg) (xs (nI i + 3).toNatClampNeg) (xs (nI i + 4).toNatClampNeg) (xs (nI i + 5).toNatClampNeg) (xs (nI i + 6).toNatClampNeg) hI
        exact lc_15 hL hi hc0 hs0 e1 e2 (back S cells slots σ2 hI1 hc hs)
      by_cases q16 : w = 16
      · refine y_tableIn (tgt := 758) (off := 725) dL_law_33 (by rw [q16]; decide) (by rw [q16]; decide) (by rw [q16]; rfl) (by decide) ?_
        obtain ⟨r, σ1, σ2, e1, e2, hI1⟩ := hstep (sH S) σ 16 (xs (nI i + 1).toNatClampNeg) (xs (nI i + 2).toNatClampNeg) (xs (nI i + 3).toNatClampNeg) (xs (nI i + 4).toNatClampNeg) (xs (nI i + 5).toNatClampNeg) (xs (nI i + 6).toNatClampNeg) hI
        exact lc_16 hL hi hc0 hs0 e1 e2 (back S cells slots σ2 hI1 hc hs)
      by_cases q17 : w = 17
      · refine y_tableIn (tgt := 811) (off := 778) dL_law_33 (by rw [q17]; decide) (by rw [q17]; decide) (by rw [q17]; rfl) (by decide) ?_
        obtain ⟨r, σ1, σ2, e1, e2, hI1⟩ := hstep (sH S) σ 17 (xs (nI i + 1).toNatClampNeg) (xs (nI i + 2).toNatClampNeg) (xs (nI i + 3).toNatClampNeg) (xs (nI i + 4).toNatClampNeg) (xs (nI i + 5).toNatClampNeg) (xs (nI i + 6).toNatClampNeg) hI
        exact lc_17 hL hi hc0 hs0 e1 e2 (back S cells slots σ2 hI1 hc hs)
      by_cases q18 : w = 18
      · refine y_tableIn (tgt := 890) (off := 857) dL_law_33 (by rw [q18]; decide) (by rw [q18]; decide) (by rw [q18]; rfl) (by decide) ?_
        obtain ⟨r, σ1, σ2, e1, e2, hI1⟩ := hstep (sH S) σ 18 (xs (nI i + 1).toNatClampNeg) (xs (nI i + 2).toNatClampNeg) (xs (nI i + 3).toNatClampNeg) (xs (nI i + 4).toNatClampNeg) (xs (nI i + 5).toNatClampNeg) (xs (nI i + 6).toNatClampNeg) hI
        exact lc_18 hL hi hc0 hs0 e1 e2 (back S cells slots σ2 hI1 hc hs)
      by_cases q19 : w = 19
      · refine y_tableIn (tgt := 969) (off := 936) dL_law_33 (by rw [q19]; decide) (by rw [q19]; decide) (by rw [q19]; rfl) (by decide) ?_
        obtain ⟨r, σ1, σ2, e1, e2, hI1⟩ := hstep (sH S) σ 19 (xs (nI i + 1).toNatClampNeg) (xs (nI i + 2).toNatClampNeg) (xs (nI i + 3).toNatClampNeg) (xs (nI i + 4).toNatClampNeg) (xs (nI i + 5).toNatClampNeg) (xs (nI i + 6).toNatClampNeg) hI
        exact lc_19 hL hi hc0 hs0 e1 e2 (back S cells slots σ2 hI1 hc hs)
      by_cases q20 : w = 20
      · refine y_tableIn (tgt := 1012) (off := 979) dL_law_33 (by rw [q20]; decide) (by rw [q20]; decide) (by rw [q20]; rfl) (by decide) ?_
        obtain ⟨r, σ1, σ2, e1, e2, hI1⟩ := hstep (sH S) σ 20 (xs (nI i + 1).toNatClampNeg) (xs (nI i + 2).toNatClampNeg) (xs (nI i + 3).toNatClampNeg) (xs (nI i + 4).toNatClampNeg) (xs (nI i + 5).toNatClampNeg) (xs (nI i + 6).toNatClampNeg) hI
        exact lc_20 hL hi hc0 hs0 e1 e2 (back S cells slots σ2 hI1 hc hs)
      by_cases q21 : w = 21
      · refine y_tableIn (tgt := 1055) (off := 1022) dL_law_33 (by rw [q21]; decide) (by rw [q21]; decide) (by rw [q21]; rfl) (by decide) ?_
        obtain ⟨r, σ1, σ2, e1, e2, hI1⟩ := hstep (sH S) σ 21 (xs (nI i + 1).toNatClampNeg) (xs (nI i + 2).toNatClampNeg) (xs (nI i + 3).toNatClampNeg) (xs (nI i + 4).toNatClampNeg) (xs (nI i + 5).toNatClampNeg) (xs (nI i + 6).toNatClampNeg) hI
        exact lc_21 hL hi hc0 hs0 e1 e2 (back S cells slots σ2 hI1 hc hs)
      by_cases q22 : w = 22
      · refine y_tableIn (tgt := 1098) (off := 1065) dL_law_33 (by rw [q22]; decide) (by rw [q22]; decide) (by rw [q22]; rfl) (by decide) ?_
        obtain ⟨r, σ1, σ2, e1, e2, hI1⟩ := hstep (sH S) σ 22 (xs (nI i + 1).toNatClampNeg) (xs (nI i + 2).toNatClampNeg) (xs (nI i + 3).toNatClampNeg) (xs (nI i + 4).toNatClampNeg) (xs (nI i + 5).toNatClampNeg) (xs (nI i + 6).toNatClampNeg) hI
        exact lc_22 hL hi hc0 hs0 e1 e2 (back S cells slots σ2 hI1 hc hs)
      by_cases q23 : w = 23
      · refine y_tableIn (tgt := 1141) (off := 1108) dL_law_33 (by rw [q23]; decide) (by rw [q23]; decide) (by rw [q23]; rfl) (by decide) ?_
        obtain ⟨r, σ1, σ2, e1, e2, hI1⟩ := hstep (sH S) σ 23 (xs (nI i + 1).toNatClampNeg) (xs (nI i + 2).toNatClampNeg) (xs (nI i + 3).toNatClampNeg) (xs (nI i + 4).toNatClampNeg) (xs (nI i + 5).toNatClampNeg) (xs (nI i + 6).toNatClampNeg) hI
        exact lc_23 hL hi hc0 hs0 e1 e2 (back S cells slots σ2 hI1 hc hs)
      by_cases q24 : w = 24
      · refine y_tableIn (tgt := 1174) (off := 1141) dL_law_33 (by rw [q24]; decide) (by rw [q24]; decide) (by rw [q24]; rfl) (by decide) ?_
        obtain ⟨r, σ1, σ2, e1, e2, hI1⟩ := hstep (sH S) σ 24 (xs (nI i + 1).toNatClampNeg) (xs (nI i + 2).toNatClampNeg) (xs (nI i + 3).toNatClampNeg) (xs (nI i + 4).toNatClampNeg) (xs (nI i + 5).toNatClampNeg) (xs (nI i + 6).toNatClampNeg) hI
        exact lc_24 hL hi hc0 hs0 e1 e2 (back S cells slots σ2 hI1 hc hs)
      by_cases q25 : w = 25
      · refine y_tableIn (tgt := 1237) (off := 1204) dL_law_33 (by rw [q25]; decide) (by rw [q25]; decide) (by rw [q25]; rfl) (by decide) ?_
        obtain ⟨r, σ1, σ2, e1, e2, hI1⟩ := hstep (sH S) σ 25 (xs (nI i + 1).toNatClampNeg) (xs (nI i + 2).toNatClampNeg) (xs (nI i + 3).toNatClampNeg) (xs (nI i + 4).toNatClampNeg) (xs (nI i + 5).toNatClampNeg) (xs (nI i + 6).toNatClampNeg) hI
        exact lc_25 hL hi hc0 hs0 e1 e2 (back S cells slots σ2 hI1 hc hs)
      by_cases q26 : w = 26
      · refine y_tableIn (tgt := 1290) (off := 1257) dL_law_33 (by rw [q26]; decide) (by rw [q26]; decide) (by rw [q26]; rfl) (by decide) ?_
        obtain ⟨r, σ1, σ2, e1, e2, hI1⟩ := hstep (sH S) σ 26 (xs (nI i + 1).toNatClampNeg) (xs (nI i + 2).toNatClampNeg) (xs (nI i + 3).toNatClampNeg) (xs (nI i + 4).toNatClampNeg) (xs (nI i + 5).toNatClampNeg) (xs (nI i + 6).toNatClampNeg) hI
        exact lc_26 hL hi hc0 hs0 e1 e2 (back S cells slots σ2 hI1 hc hs)
      by_cases q27 : w = 27
      · refine y_tableIn (tgt := 1353) (off := 1320) dL_law_33 (by rw [q27]; decide) (by rw [q27]; decide) (by rw [q27]; rfl) (by decide) ?_
        obtain ⟨r, σ1, σ2, e1, e2, hI1⟩ := hstep (sH S) σ 27 (xs (nI i + 1).toNatClampNeg) (xs (nI i + 2).toNatClampNeg) (xs (nI i + 3).toNatClampNeg) (xs (nI i + 4).toNatClampNeg) (xs (nI i + 5).toNatClampNeg) (xs (nI i + 6).toNatClampNeg) hI
        exact lc_27 hL hi hc0 hs0 e1 e2 (back S cells slots σ2 hI1 hc hs)
      by_cases q28 : w = 28
      · refine y_tableIn (tgt := 1428) (off := 1395) dL_law_33 (by rw [q28]; decide) (by rw [q28]; decide) (by rw [q28]; rfl) (by decide) ?_
        obtain ⟨r, σ1, σ2, e1, e2, hI1⟩ := hstep (sH S) σ 28 (xs (nI i + 1).toNatClampNeg) (xs (nI i + 2).toNatClampNeg) (xs (nI i + 3).toNatClampNeg) (xs (nI i + 4).toNatClampNeg) (xs (nI i + 5).toNatClampNeg) (xs (nI i + 6).toNatClampNeg) hI
        exact lc_28 hL hi hc0 hs0 e1 e2 (back S cells slots σ2 hI1 hc hs)
      by_cases q29 : w = 29
      · refine y_tableIn (tgt := 1471) (off := 1438) dL_law_33 (by rw [q29]; decide) (by rw [q29]; decide) (by rw [q29]; rfl) (by decide) ?_
        obtain ⟨r, σ1, σ2, e1, e2, hI1⟩ := hstep (sH S) σ 29 (xs (nI i + 1).toNatClampNeg) (xs (nI i + 2).toNatClampNeg) (xs (nI i + 3).toNatClampNeg) (xs (nI i + 4).toNatClampNeg) (xs (nI i + 5).toNatClampNeg) (xs (nI i + 6).toNatClampNeg) hI
        exact lc_29 hL hi hc0 hs0 e1 e2 (back S cells slots σ2 hI1 hc hs)
      by_cases q30 : w = 30
      · refine y_tableIn (tgt := 1504) (off := 1471) dL_law_33 (by rw [q30]; decide) (by rw [q30]; decide) (by rw [q30]; rfl) (by decide) ?_
        obtain ⟨r, σ1, σ2, e1, e2, hI1⟩ := hstep (sH S) σ 30 (xs (nI i + 1).toNatClampNeg) (xs (nI i + 2).toNatClampNeg) (xs (nI i + 3).toNatClampNeg) (xs (nI i + 4).toNatClampNeg) (xs (nI i + 5).toNatClampNeg) (xs (nI i + 6).toNatClampNeg) hI
        exact lc_30 hL hi hc0 hs0 e1 e2 (back S cells slots σ2 hI1 hc hs)
      by_cases q31 : w = 31
      · refine y_tableIn (tgt := 1517) (off := 1484) dL_law_33 (by rw [q31]; decide) (by rw [q31]; decide) (by rw [q31]; rfl) (by decide) ?_
        obtain ⟨r, σ1, σ2, e1, e2, hI1⟩ := hstep (sH S) σ 31 (xs (nI i + 1).toNatClampNeg) (xs (nI i + 2).toNatClampNeg) (xs (nI i + 3).toNatClampNeg) (xs (nI i + 4).toNatClampNeg) (xs (nI i + 5).toNatClampNeg) (xs (nI i + 6).toNatClampNeg) hI
        exact lc_31 hL hi hc0 hs0 e1 e2 (back S cells slots σ2 hI1 hc hs)
      by_cases q32 : w = 32
      · refine y_tableIn (tgt := 1576) (off := 1543) dL_law_33 (by rw [q32]; decide) (by rw [q32]; decide) (by rw [q32]; rfl) (by decide) ?_
        obtain ⟨r, σ1, σ2, e1, e2, hI1⟩ := hstep (sH S) σ 32 (xs (nI i + 1).toNatClampNeg) (xs (nI i + 2).toNatClampNeg) (xs (nI i + 3).toNatClampNeg) (xs (nI i + 4).toNatClampNeg) (xs (nI i + 5).toNatClampNeg) (xs (nI i + 6).toNatClampNeg) hI
        exact lc_32 hL hi hc0 hs0 e1 e2 (back S cells slots σ2 hI1 hc hs)
      by_cases q33 : w = 33
      · refine y_tableIn (tgt := 1610) (off := 1577) dL_law_33 (by rw [q33]; decide) (by rw [q33]; decide) (by rw [q33]; rfl) (by decide) ?_
        obtain ⟨r, σ1, σ2, e1, e2, hI1⟩ := hstep (sH S) σ 33 (xs (nI i + 1).toNatClampNeg) (xs (nI i + 2).toNatClampNeg) (xs (nI i + 3).toNatClampNeg) (xs (nI i + 4).toNatClampNeg) (xs (nI i + 5).toNatClampNeg) (xs (nI i + 6).toNatClampNeg) hI
        exact lc_33 hL hi hc0 hs0 e1 e2 (back S cells slots σ2 hI1 hc hs)
      by_cases q34 : w = 34
      · refine y_tableIn (tgt := 1653) (off := 1620) dL_law_33 (by rw [q34]; decide) (by rw [q34]; decide) (by rw [q34]; rfl) (by decide) ?_
        obtain ⟨r, σ1, σ2, e1, e2, hI1⟩ := hstep (sH S) σ 34 (xs (nI i + 1).toNatClampNeg) (xs (nI i + 2).toNatClampNeg) (xs (nI i + 3).toNatClampNeg) (xs (nI i + 4).toNatClampNeg) (xs (nI i + 5).toNatClampNeg) (xs (nI i + 6).toNatClampNeg) hI
        exact lc_34 hL hi hc0 hs0 e1 e2 (back S cells slots σ2 hI1 hc hs)
      by_cases q35 : w = 35
      · refine y_tableIn (tgt := 1716) (off := 1683) dL_law_33 (by rw [q35]; decide) (by rw [q35]; decide) (by rw [q35]; rfl) (by decide) ?_
        obtain ⟨r, σ1, σ2, e1, e2, hI1⟩ := hstep (sH S) σ 35 (xs (nI i + 1).toNatClampNeg) (xs (nI i + 2).toNatClampNeg) (xs (nI i + 3).toNatClampNeg) (xs (nI i + 4).toNatClampNeg) (xs (nI i + 5).toNatClampNeg) (xs (nI i + 6).toNatClampNeg) hI
        exact lc_35 hL hi hc0 hs0 e1 e2 (back S cells slots σ2 hI1 hc hs)
      by_cases q36 : w = 36
      · refine y_tableIn (tgt := 1779) (off := 1746) dL_law_33 (by rw [q36]; decide) (by rw [q36]; decide) (by rw [q36]; rfl) (by decide) ?_
        obtain ⟨r, e1, p1, e2, p2, hI1⟩ := hstep (sH S) σ 36 (xs (nI i + 1).toNatClampNeg) (xs (nI i + 2).toNatClampNeg) (xs (nI i + 3).toNatClampNeg) (xs (nI i + 4).toNatClampNeg) (xs (nI i + 5).toNatClampNeg) (xs (nI i + 6).toNatClampNeg) hI
        exact lc_36 (σ1 := σ) (σ2 := σ) hL hi hc0 hs0 e1 p1 e2 p2 (back S cells slots σ hI1 hc hs)
      by_cases q37 : w = 37
      · refine y_tableIn (tgt := 1842) (off := 1809) dL_law_33 (by rw [q37]; decide) (by rw [q37]; decide) (by rw [q37]; rfl) (by decide) ?_
        obtain ⟨r, σ1, σ2, e1, e2, hI1⟩ := hstep (sH S) σ 37 (xs (nI i + 1).toNatClampNeg) (xs (nI i + 2).toNatClampNeg) (xs (nI i + 3).toNatClampNeg) (xs (nI i + 4).toNatClampNeg) (xs (nI i + 5).toNatClampNeg) (xs (nI i + 6).toNatClampNeg) hI
        exact lc_37 hL hi hc0 hs0 e1 e2 (back S cells slots σ2 hI1 hc hs)
      by_cases q38 : w = 38
      · refine y_tableIn (tgt := 1905) (off := 1872) dL_law_33 (by rw [q38]; decide) (by rw [q38]; decide) (by rw [q38]; rfl) (by decide) ?_
        obtain ⟨r, σ1, σ2, e1, e2, hI1⟩ := hstep (sH S) σ 38 (xs (nI i + 1).toNatClampNeg) (xs (nI i + 2).toNatClampNeg) (xs (nI i + 3).toNatClampNeg) (xs (nI i + 4).toNatClampNeg) (xs (nI i + 5).toNatClampNeg) (xs (nI i + 6).toNatClampNeg) hI
        exact lc_38 hL hi hc0 hs0 e1 e2 (back S cells slots σ2 hI1 hc hs)
      by_cases q39 : w = 39
      · refine y_tableIn (tgt := 1958) (off := 1925) dL_law_33 (by rw [q39]; decide) (by rw [q39]; decide) (by rw [q39]; rfl) (by decide) ?_
        obtain ⟨r, σ1, σ2, e1, e2, hI1⟩ := hstep (sH S) σ 39 (xs (nI i + 1).toNatClampNeg) (xs (nI i + 2).toNatClampNeg) (xs (nI i + 3).toNatClampNeg) (xs (nI i + 4).toNatClampNeg) (xs (nI i + 5).toNatClampNeg) (xs (nI i + 6).toNatClampNeg) hI
        exact lc_39 hL hi hc0 hs0 e1 e2 (back S cells slots σ2 hI1 hc hs)
      by_cases q40 : w = 40
      · refine y_tableIn (tgt := 2012) (off := 1979) dL_law_33 (by rw [q40]; decide) (by rw [q40]; decide) (by rw [q40]; rfl) (by decide) ?_
        obtain ⟨r, σ1, σ2, e1, e2, hI1⟩ := hstep (sH S) σ 40 (xs (nI i + 1).toNatClampNeg) (xs (nI i + 2).toNatClampNeg) (xs (nI i + 3).toNatClampNeg) (xs (nI i + 4).toNatClampNeg) (xs (nI i + 5).toNatClampNeg) (xs (nI i + 6).toNatClampNeg) hI
        exact lc_40 hL hi hc0 hs0 e1 e2 (back S cells slots σ2 hI1 hc hs)
      by_cases q41 : w = 41
      · refine y_tableIn (tgt := 2055) (off := 2022) dL_law_33 (by rw [q41]; decide) (by rw [q41]; decide) (by rw [q41]; rfl) (by decide) ?_
        obtain ⟨r, h1, σ1, σ2, e1, e2, hI1⟩ := hstep (sH S) σ 41 (xs (nI i + 1).toNatClampNeg) (xs (nI i + 2).toNatClampNeg) (xs (nI i + 3).toNatClampNeg) (xs (nI i + 4).toNatClampNeg) (xs (nI i + 5).toNatClampNeg) (xs (nI i + 6).toNatClampNeg) hI
        exact hhold hL hi hc hs e1 e2 (fun S1 c1 s1 he hc1 hs1 => back S1 c1 s1 σ2 (by rw [he]; exact hI1) hc1 hs1)
      by_cases q42 : w = 42
      · refine y_tableIn (tgt := 2078) (off := 2045) dL_law_33 (by rw [q42]; decide) (by rw [q42]; decide) (by rw [q42]; rfl) (by decide) ?_
        obtain ⟨r, σ1, σ2, e1, e2, hI1⟩ := hstep (sH S) σ 42 (xs (nI i + 1).toNatClampNeg) (xs (nI i + 2).toNatClampNeg) (xs (nI i + 3).toNatClampNeg) (xs (nI i + 4).toNatClampNeg) (xs (nI i + 5).toNatClampNeg) (xs (nI i + 6).toNatClampNeg) hI
        exact lc_42 hL hi hc0 hs0 e1 e2 (back S cells slots σ2 hI1 hc hs)
      by_cases q43 : w = 43
      · refine y_tableIn (tgt := 2101) (off := 2068) dL_law_33 (by rw [q43]; decide) (by rw [q43]; decide) (by rw [q43]; rfl) (by decide) ?_
        obtain ⟨r, σ1, σ2, e1, e2, hI1⟩ := hstep (sH S) σ 43 (xs (nI i + 1).toNatClampNeg) (xs (nI i + 2).toNatClampNeg) (xs (nI i + 3).toNatClampNeg) (xs (nI i + 4).toNatClampNeg) (xs (nI i + 5).toNatClampNeg) (xs (nI i + 6).toNatClampNeg) hI
        exact lc_43 hL hi hc0 hs0 e1 e2 (back S cells slots σ2 hI1 hc hs)
      refine y_tableOut (tgt := 2124) dL_law_33 (by have e0 := nei (n := 0) (by decide) q0; have e1 := nei (n := 1) (by decide) q1; have e2 := nei (n := 2) (by decide) q2; have e3 := nei (n := 3) (by decide) q3; have e4 := nei (n := 4) (by decide) q4; have e5 := nei (n := 5) (by decide) q5; have e6 := nei (n := 6) (by decide) q6; have e7 := nei (n := 7) (by decide) q7; have e8 := nei (n := 8) (by decide) q8; have e9 := nei (n := 9) (by decide) q9; have e10 := nei (n := 10) (by decide) q10; have e11 := nei (n := 11) (by decide) q11; have e12 := nei (n := 12) (by decide) q12; have e13 := nei (n := 13) (by decide) q13; have e14 := nei (n := 14) (by decide) q14; have e15 := nei (n := 15) (by decide) q15; have e16 := nei (n := 16) (by decide) q16; have e17 := nei (n := 17) (by decide) q17; have e18 := nei (n := 18) (by decide) q18; have e19 := nei (n := 19) (by decide) q19; have e20 := nei (n := 20) (by decide) q20; have e21 := nei (n := 21) (by decide) q21; have e22 := nei (n := 22) (by decide) q22; have e23 := nei (n := 23) (by decide) q23; have e24 := nei (n := 24) (by decide) q24; have e25 := nei (n := 25) (by decide) q25; have e26 := nei (n := 26) (by decide) q26; have e27 := nei (n := 27) (by decide) q27; have e28 := nei (n := 28) (by decide) q28; have e29 := nei (n := 29) (by decide) q29; have e30 := nei (n := 30) (by decide) q30; have e31 := nei (n := 31) (by decide) q31; have e32 := nei (n := 32) (by decide) q32; have e33 := nei (n := 33) (by decide) q33; have e34 := nei (n := 34) (by decide) q34; have e35 := nei (n := 35) (by decide) q35; have e36 := nei (n := 36) (by decide) q36; have e37 := nei (n := 37) (by decide) q37; have e38 := nei (n := 38) (by decide) q38; have e39 := nei (n := 39) (by decide) q39; have e40 := nei (n := 40) (by decide) q40; have e41 := nei (n := 41) (by decide) q41; have e42 := nei (n := 42) (by decide) q42; have e43 := nei (n := 43) (by decide) q43; omega) (by decide) ?_
      exact back S cells slots σ hI hc hs
