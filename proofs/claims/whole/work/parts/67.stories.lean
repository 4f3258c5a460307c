/-! story, both -/
theorem p_story {h : Nat → Bool} {σ : Mm} (hI : Iv h σ) (x set y n' w : Int32) : ∃ (r : Int32) (σ1 : Mm) (σ2 : Mm), F_X11_story x set y n' w σ = some (r, σ1) ∧ F_X12_story x set y n' w σ1 = some (r, σ2) ∧ Iv h σ2 := by
  obtain ⟨D, hC, hM, hW⟩ := id hI.2.2.2.2.2
  have oP := okP_of hI.1
  have h60 := hW.2.1
  have h6 := hW.2.2.2.2.2.1
  have hB : CB D σ := ⟨hI.1, hC⟩
  have e14 : mA σ 1 (mP σ 0) 0 14 = nI (dN D 5) := by
    have := hC.1
    unfold RCn at this
    simp only [this]
  have w3 : w = 0 ∨ w = 1 ∨ w = 2 ↔ 0 ≤ w ∧ w ≤ 2 := by clear hI hC hM hW hB e14; constructor <;> intro z <;> grind
  by_cases hx0 : x < 0
  · refine ⟨-1, σ, σ, ?_, ?_, hI⟩
    · unfold F_X11_story; rw [if_pos hx0]
    · unfold F_X12_story; rw [if_pos hx0]
  by_cases hx1 : nI (dN D 5) ≤ x
  · refine ⟨-1, σ, σ, ?_, ?_, hI⟩
    · unfold F_X11_story; rw [if_neg hx0, if_pos oP, e14, if_pos hx1]
    · unfold F_X12_story; rw [if_neg hx0, if_pos (show inb 0 5 = true by decide), c0, hM.1.2.2.2.2.2.1, if_pos hx1]
  obtain ⟨r, hr, rfl⟩ : ∃ r : Nat, r < dN D 5 ∧ x = nI r := thing_nat (F := dN D 5) (by omega) (by clear hI hC hM hW hB e14 w3; generalize nI (dN D 5) = z at *; constructor <;> grind)
  by_cases v1 : asK D set y n'
  · by_cases v2 : 0 ≤ w ∧ w ≤ 2
    · obtain ⟨n, hn, rfl⟩ := known_nat (by omega) v1.2.2
      have hρ : okRu D (nI r) := Or.inr ⟨r, hr, rfl⟩
      refine q_call hI fr_X11_story rfl (stV D n (nI r) y set w) ?_ (fun _ => fr_X12_story) rfl (fun σ1 f1 => ?_)
      · unfold F_X11_story
        rw [if_neg hx0, if_pos oP, e14, if_neg hx1, if_neg (fun z => (askedC hC).mp z v1)]
        rcases w3.mpr v2 with rfl | rfl | rfl
        · rw [if_pos rfl]
          refine Ok_V (s_lookAt hW hρ hn hB) (fun τ hτ => ?_)
          obtain ⟨-, hc, -⟩ := hτ
          unfold F_X11_story_64
          refine Ok_r ?_
          rw [hc.1, Ls_cn]
          unfold stV; rw [if_pos rfl]
        · rw [if_neg (by decide), if_pos rfl]
          refine Ok_V ((s_lookAt hW hρ hn hB).frV fr_X11_lookAt) (fun τ hτ => ?_)
          obtain ⟨⟨-, hc, hS⟩, f⟩ := hτ
          unfold F_X11_story_80 F_X11_story_85
          rw [s_hitsNow hW hn (hB.fr (f.sub rfl)) hS hc, bnd_s]
          refine Ok_r ?_
          unfold stV; rw [if_neg (by decide), if_pos rfl]
        · rw [if_neg (by decide), if_neg (by decide), if_pos rfl]
          refine Ok_V (s_turnAll hW hρ hn hB) (fun τ hτ => ?_)
          unfold F_X11_story_95 F_X11_story_102
          rw [s_many hτ.1, bnd_s]
          refine Ok_r ?_
          unfold stV; rw [if_neg (by decide), if_neg (by decide)]
      · have hM1 : RM σ1 0 D := hM.fr (f1.sub rfl)
        unfold F_X12_story F_X12_story_22 F_X12_story_43
        rw [if_neg hx0, if_pos (show inb 0 5 = true by decide), c0, hM1.1.2.2.2.2.2.1, if_neg hx1, isSetM hM1 v1, bnd_s, if_neg ne10, isInM, if_pos v2, if_neg ne10]
        refine Ok_V ((s_lay hW hn hM1).frV fr_X12_lay) (fun τ hτ => ?_)
        obtain ⟨hY, f⟩ := hτ
        refine story_49 hW hn hr FU 0 τ (by show _ < 1000000; omega) (by omega) (hM1.fr (f.sub rfl)) hY.1 (fun x hx => ⟨(hY.2 x hx).1, (hY.2 x hx).2.2⟩) (fun x h => absurd h (by omega)) (fun x _ hx hL => ?_)
        rw [(hY.2 x hx).2.1, cntd_h, hL]; rfl
    · refine ⟨-1, σ, σ, ?_, ?_, hI⟩
      · unfold F_X11_story
        rw [if_neg hx0, if_pos oP, e14, if_neg hx1, if_neg (fun z => (askedC hC).mp z v1), if_neg (fun z => v2 (w3.mp (Or.inl z))), if_neg (fun z => v2 (w3.mp (Or.inr (Or.inl z)))), if_neg (fun z => v2 (w3.mp (Or.inr (Or.inr z))))]
      · unfold F_X12_story F_X12_story_22
        rw [if_neg hx0, if_pos (show inb 0 5 = true by decide), c0, hM.1.2.2.2.2.2.1, if_neg hx1, isSetM hM v1, bnd_s, if_neg ne10, isInM, if_neg v2, if_pos rfl]
  · refine ⟨-1, σ, σ, ?_, ?_, hI⟩
    · unfold F_X11_story
      rw [if_neg hx0, if_pos oP, e14, if_neg hx1, if_pos ((askedC hC).mpr v1)]
    · unfold F_X12_story F_X12_story_22
      rw [if_neg hx0, if_pos (show inb 0 5 = true by decide), c0, hM.1.2.2.2.2.2.1, if_neg hx1, isSetMN hM v1, bnd_s, if_pos rfl]
