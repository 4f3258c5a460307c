/-! frames, by program -/
theorem fo_F_X11_alone_19 {σ0 : Mm} {x1 : Int32} {σ : Mm} (hF : Fr W_X11_alone σ0 σ) : FoI W_X11_alone σ0 (F_X11_alone_19 x1 σ) := by
  unfold F_X11_alone_19
  exact (fV_I (Wc := W_X4_forget) hF rfl (fo_F_X4_forget Fr_r) (fun _ h1 => (fo_F_X11_alone_26  h1)))
theorem fo_F_X11_alone {σ0 : Mm} {x1 : Int32} {x2 : Int32} {x3 : Int32} {σ : Mm} (hF : Fr W_X11_alone σ0 σ) : FoI W_X11_alone σ0 (F_X11_alone x1 x2 x3 σ) := by
  unfold F_X11_alone
  exact (fI_ite (fI_ite (fI_some hF) (fV_I (Wc := W_X11_lookAt) hF rfl (fo_F_X11_lookAt Fr_r) (fun _ h1 => (fo_F_X11_alone_19  h1)))) fI_none)
theorem fr_X11_alone {x1 : Int32} {x2 : Int32} {x3 : Int32} {σ : Mm} : FoI W_X11_alone σ (F_X11_alone x1 x2 x3 σ) := fo_F_X11_alone Fr_r
def W_X7_note : List (Nat × Nat × Nat) := [(2, 0, 0), (2, 1, 999), (2, 2, 999), (2, 3, 999), (2, 4, 999), (2, 5, 999)]
theorem fo_F_X7_note_73 {σ0 : Mm} {i0 : Nat} {σ : Mm} (hF : Fr W_X7_note σ0 σ) : FoI W_X7_note σ0 (F_X7_note_73 i0 σ) := by
  unfold F_X7_note_73
  exact (fI_some hF)
theorem fo_F_X7_note_63 {σ0 : Mm} {i0 : Nat} {σ : Mm} (hF : Fr W_X7_note σ0 σ) : FoI W_X7_note σ0 (F_X7_note_63 i0 σ) := by
  unfold F_X7_note_63
  exact (fo_F_X7_note_73  (Fr.A hF rfl))
theorem fo_F_X7_note_52 {σ0 : Mm} {i0 : Nat} {x5 : Int32} {σ : Mm} (hF : Fr W_X7_note σ0 σ) : FoI W_X7_note σ0 (F_X7_note_52 i0 x5 σ) := by
  unfold F_X7_note_52
  exact (fI_ite (fo_F_X7_note_63  (Fr.AA hF rfl)) fI_none)
theorem fo_F_X7_note_41 {σ0 : Mm} {i0 : Nat} {x4 : Int32} {x5 : Int32} {σ : Mm} (hF : Fr W_X7_note σ0 σ) : FoI W_X7_note σ0 (F_X7_note_41 i0 x4 x5 σ) := by
  unfold F_X7_note_41
  exact (fI_ite (fo_F_X7_note_52  (Fr.AA hF rfl)) fI_none)
theorem fo_F_X7_note_31 {σ0 : Mm} {i0 : Nat} {x3 : Int32} {x4 : Int32} {x5 : Int32} {σ : Mm} (hF : Fr W_X7_note σ0 σ) : FoI W_X7_note σ0 (F_X7_note_31 i0 x3 x4 x5 σ) := by
  unfold F_X7_note_31
  exact (fI_ite (fo_F_X7_note_41  (Fr.AA hF rfl)) fI_none)
theorem fo_F_X7_note_21 {σ0 : Mm} {i0 : Nat} {x2 : Int32} {x3 : Int32} {x4 : Int32} {x5 : Int32} {σ : Mm} (hF : Fr W_X7_note σ0 σ) : FoI W_X7_note σ0 (F_X7_note_21 i0 x2 x3 x4 x5 σ) := by
  unfold F_X7_note_21
  exact (fI_ite (fo_F_X7_note_31  (Fr.AA hF rfl)) fI_none)
theorem fo_F_X7_note {σ0 : Mm} {i0 : Nat} {x1 : Int32} {x2 : Int32} {x3 : Int32} {x4 : Int32} {x5 : Int32} {σ : Mm} (hF : Fr W_X7_note σ0 σ) : FoI W_X7_note σ0 (F_X7_note i0 x1 x2 x3 x4 x5 σ) := by
  unfold F_X7_note
  exact (fI_ite (fI_ite (fo_F_X7_note_21  (Fr.AA hF rfl)) fI_none) (fI_some hF))
theorem fr_X7_note {i0 : Nat} {x1 : Int32} {x2 : Int32} {x3 : Int32} {x4 : Int32} {x5 : Int32} {σ : Mm} : FoI W_X7_note σ (F_X7_note i0 x1 x2 x3 x4 x5 σ) := fo_F_X7_note Fr_r
def W_X11_annul : List (Nat × Nat × Nat) := [(2, 0, 0), (2, 1, 999), (2, 2, 999), (2, 3, 999), (2, 4, 999), (2, 5, 999)]
theorem fo_F_X11_annul_42 {σ0 : Mm} {s0 : Int32} {σ : Mm} (hF : Fr W_X11_annul σ0 σ) : FoI W_X11_annul σ0 (F_X11_annul_42 s0 σ) := by
  unfold F_X11_annul_42
  exact (fI_some hF)
theorem fo_F_X11_annul {σ0 : Mm} {x1 : Int32} {σ : Mm} (hF : Fr W_X11_annul σ0 σ) : FoI W_X11_annul σ0 (F_X11_annul x1 σ) := by
  unfold F_X11_annul
  exact (fI_ite (fI_some hF) (fI_ite (fI_some hF) (fI_ite (fI_ite (fI_some hF) (fI_I (Wc := W_X7_note) hF rfl (fo_F_X7_note Fr_r) (fun _ _ h1 => (fo_F_X11_annul_42  h1)))) fI_none)))
theorem fr_X11_annul {x1 : Int32} {σ : Mm} : FoI W_X11_annul σ (F_X11_annul x1 σ) := fo_F_X11_annul Fr_r
def W_X11_markRounds : List (Nat × Nat × Nat) := [(0, 5, 999)]
theorem fo_F_X11_markRounds_65 {σ0 : Mm} {rc35 : Int32 → Int32 → Int32 → Int32 → Int32 → Mm → Option (Mm)} (hrc35 : ∀ a0 a1 a2 a3 a4 τ, Fr W_X11_markRounds σ0 τ → FoV W_X11_markRounds σ0 (rc35 a0 a1 a2 a3 a4 τ)) {x1 : Int32} {x2 : Int32} {x3 : Int32} {x6 : Int32} {x7 : Int32} {σ : Mm} (hF : Fr W_X11_markRounds σ0 σ) : FoV W_X11_markRounds σ0 (F_X11_markRounds_65 rc35 x1 x2 x3 x6 x7 σ) := by
  unfold F_X11_markRounds_65
  exact (hrc35 _ _ _ _ _ _ hF)
theorem fo_B_X11_markRounds_35 {σ0 : Mm} {rc35 : Int32 → Int32 → Int32 → Int32 → Int32 → Mm → Option (Mm)} (hrc35 : ∀ a0 a1 a2 a3 a4 τ, Fr W_X11_markRounds σ0 τ → FoV W_X11_markRounds σ0 (rc35 a0 a1 a2 a3 a4 τ)) {x1 : Int32} {x2 : Int32} {x3 : Int32} {x6 : Int32} {x7 : Int32} {σ : Mm} (hF : Fr W_X11_markRounds σ0 σ) : FoV W_X11_markRounds σ0 (B_X11_markRounds_35 rc35 x1 x2 x3 x6 x7 σ) := by
  unfold B_X11_markRounds_35
  exact (fV_ite (fV_some hF) (fV_ite (fo_F_X11_markRounds_65 hrc35 hF) (fV_ite (fo_F_X11_markRounds_65 hrc35 (Fr.AA hF rfl)) fV_none)))
theorem fo_F_X11_markRounds_35 {σ0 : Mm} (n : Nat) : ∀ {y0 : Int32} {y1 : Int32} {y2 : Int32} {y3 : Int32} {y4 : Int32} {σ : Mm}, Fr W_X11_markRounds σ0 σ → FoV W_X11_markRounds σ0 (F_X11_markRounds_35  n y0 y1 y2 y3 y4 σ) := by
  induction n with
  | zero => intro y0 y1 y2 y3 y4 σ _; exact fV_none
  | succ n ih => intro y0 y1 y2 y3 y4 σ hF; exact fo_B_X11_markRounds_35  (fun _ _ _ _ _ _ h => ih h) hF
theorem fo_F_X11_markRounds_31 {σ0 : Mm} {x1 : Int32} {x2 : Int32} {x3 : Int32} {x5 : Int32} {x6 : Int32} {σ : Mm} (hF : Fr W_X11_markRounds σ0 σ) : FoV W_X11_markRounds σ0 (F_X11_markRounds_31 x1 x2 x3 x5 x6 σ) := by
  unfold F_X11_markRounds_31
  exact (fo_F_X11_markRounds_35  FU hF)
theorem fo_F_X11_markRounds_17 {σ0 : Mm} {x1 : Int32} {x2 : Int32} {x3 : Int32} {x4 : Int32} {x5 : Int32} {σ : Mm} (hF : Fr W_X11_markRounds σ0 σ) : FoV W_X11_markRounds σ0 (F_X11_markRounds_17 x1 x2 x3 x4 x5 σ) := by
  unfold F_X11_markRounds_17
  exact (fV_ite (fo_F_X11_markRounds_31  hF) fV_none)
theorem fo_F_X11_markRounds {σ0 : Mm} {x1 : Int32} {x2 : Int32} {x3 : Int32} {x4 : Int32} {σ : Mm} (hF : Fr W_X11_markRounds σ0 σ) : FoV W_X11_markRounds σ0 (F_X11_markRounds x1 x2 x3 x4 σ) := by
  unfold F_X11_markRounds
  exact (fV_ite (fV_ite (fo_F_X11_markRounds_17  hF) fV_none) (fV_some hF))
theorem fr_X11_markRounds {x1 : Int32} {x2 : Int32} {x3 : Int32} {x4 : Int32} {σ : Mm} : FoV W_X11_markRounds σ (F_X11_markRounds x1 x2 x3 x4 σ) := fo_F_X11_markRounds Fr_r
def W_X11_markedUpTo : List (Nat × Nat × Nat) := []
theorem fo_F_X11_markedUpTo_28 {σ0 : Mm} {rc4 : Int32 → Int32 → Int32 → Mm → Option (Int32 × Mm)} (hrc4 : ∀ a0 a1 a2 τ, Fr W_X11_markedUpTo σ0 τ → FoI W_X11_markedUpTo σ0 (rc4 a0 a1 a2 τ)) {x1 : Int32} {x2 : Int32} {x3 : Int32} {σ : Mm} (hF : Fr W_X11_markedUpTo σ0 σ) : FoI W_X11_markedUpTo σ0 (F_X11_markedUpTo_28 rc4 x1 x2 x3 σ) := by
  unfold F_X11_markedUpTo_28
  exact (hrc4 _ _ _ _ hF)
theorem fo_B_X11_markedUpTo_4 {σ0 : Mm} {rc4 : Int32 → Int32 → Int32 → Mm → Option (Int32 × Mm)} (hrc4 : ∀ a0 a1 a2 τ, Fr W_X11_markedUpTo σ0 τ → FoI W_X11_markedUpTo σ0 (rc4 a0 a1 a2 τ)) {x1 : Int32} {x2 : Int32} {x3 : Int32} {σ : Mm} (hF : Fr W_X11_markedUpTo σ0 σ) : FoI W_X11_markedUpTo σ0 (B_X11_markedUpTo_4 rc4 x1 x2 x3 σ) := by
  unfold B_X11_markedUpTo_4
  exact (fI_ite (fI_some hF) (fI_ite (fI_some hF) (fI_ite (fI_ite (fo_F_X11_markedUpTo_28 hrc4 hF) (fo_F_X11_markedUpTo_28 hrc4 hF)) fI_none)))
theorem fo_F_X11_markedUpTo_4 {σ0 : Mm} (n : Nat) : ∀ {y0 : Int32} {y1 : Int32} {y2 : Int32} {σ : Mm}, Fr W_X11_markedUpTo σ0 σ → FoI W_X11_markedUpTo σ0 (F_X11_markedUpTo_4  n y0 y1 y2 σ) := by
  induction n with
  | zero => intro y0 y1 y2 σ _; exact fI_none
  | succ n ih => intro y0 y1 y2 σ hF; exact fo_B_X11_markedUpTo_4  (fun _ _ _ _ h => ih h) hF
theorem fo_F_X11_markedUpTo {σ0 : Mm} {x1 : Int32} {σ : Mm} (hF : Fr W_X11_markedUpTo σ0 σ) : FoI W_X11_markedUpTo σ0 (F_X11_markedUpTo x1 σ) := by
  unfold F_X11_markedUpTo
  exact (fo_F_X11_markedUpTo_4  FU hF)
theorem fr_X11_markedUpTo {x1 : Int32} {σ : Mm} : FoI W_X11_markedUpTo σ (F_X11_markedUpTo x1 σ) := fo_F_X11_markedUpTo Fr_r
def W_X11_anything : List (Nat × Nat × Nat) := [(0, 5, 999)]
theorem fo_F_X11_anything_137 {σ0 : Mm} {s0 : Int32} {σ : Mm} (hF : Fr W_X11_anything σ0 σ) : FoI W_X11_anything σ0 (F_X11_anything_137 s0 σ) := by
  unfold F_X11_anything_137
  exact (fI_some hF)
theorem fo_F_X11_anything_119 {σ0 : Mm} {rc90 : Int32 → Int32 → Int32 → Int32 → Int32 → Int32 → Mm → Option (Int32 × Mm)} (hrc90 : ∀ a0 a1 a2 a3 a4 a5 τ, Fr W_X11_anything σ0 τ → FoI W_X11_anything σ0 (rc90 a0 a1 a2 a3 a4 a5 τ)) {rc99 : Int32 → Int32 → Int32 → Int32 → Int32 → Int32 → Int32 → Mm → Option (Int32 × Mm)} (hrc99 : ∀ a0 a1 a2 a3 a4 a5 a6 τ, Fr W_X11_anything σ0 τ → FoI W_X11_anything σ0 (rc99 a0 a1 a2 a3 a4 a5 a6 τ)) {x1 : Int32} {x2 : Int32} {x3 : Int32} {x4 : Int32} {x5 : Int32} {x6 : Int32} {x7 : Int32} {σ : Mm} (hF : Fr W_X11_anything σ0 σ) : FoI W_X11_anything σ0 (F_X11_anything_119 rc90 rc99 x1 x2 x3 x4 x5 x6 x7 σ) := by
  unfold F_X11_anything_119
  exact (hrc99 _ _ _ _ _ _ _ _ hF)
theorem fo_B_X11_anything_99 {σ0 : Mm} {rc90 : Int32 → Int32 → Int32 → Int32 → Int32 → Int32 → Mm → Option (Int32 × Mm)} (hrc90 : ∀ a0 a1 a2 a3 a4 a5 τ, Fr W_X11_anything σ0 τ → FoI W_X11_anything σ0 (rc90 a0 a1 a2 a3 a4 a5 τ)) {rc99 : Int32 → Int32 → Int32 → Int32 → Int32 → Int32 → Int32 → Mm → Option (Int32 × Mm)} (hrc99 : ∀ a0 a1 a2 a3 a4 a5 a6 τ, Fr W_X11_anything σ0 τ → FoI W_X11_anything σ0 (rc99 a0 a1 a2 a3 a4 a5 a6 τ)) {x1 : Int32} {x2 : Int32} {x3 : Int32} {x4 : Int32} {x5 : Int32} {x6 : Int32} {x7 : Int32} {σ : Mm} (hF : Fr W_X11_anything σ0 σ) : FoI W_X11_anything σ0 (B_X11_anything_99 rc90 rc99 x1 x2 x3 x4 x5 x6 x7 σ) := by
  unfold B_X11_anything_99
  exact (fI_ite (hrc90 _ _ _ _ _ _ _ hF) (fV_I (Wc := W_X11_markRounds) hF rfl (fo_F_X11_markRounds Fr_r) (fun _ h1 => (fo_F_X11_anything_119 hrc90 hrc99 h1))))
theorem fo_F_X11_anything_99 {σ0 : Mm} {rc90 : Int32 → Int32 → Int32 → Int32 → Int32 → Int32 → Mm → Option (Int32 × Mm)} (hrc90 : ∀ a0 a1 a2 a3 a4 a5 τ, Fr W_X11_anything σ0 τ → FoI W_X11_anything σ0 (rc90 a0 a1 a2 a3 a4 a5 τ)) (n : Nat) : ∀ {y0 : Int32} {y1 : Int32} {y2 : Int32} {y3 : Int32} {y4 : Int32} {y5 : Int32} {y6 : Int32} {σ : Mm}, Fr W_X11_anything σ0 σ → FoI W_X11_anything σ0 (F_X11_anything_99 rc90 n y0 y1 y2 y3 y4 y5 y6 σ) := by
  induction n with
  | zero => intro y0 y1 y2 y3 y4 y5 y6 σ _; exact fI_none
  | succ n ih => intro y0 y1 y2 y3 y4 y5 y6 σ hF; exact fo_B_X11_anything_99 hrc90 (fun _ _ _ _ _ _ _ _ h => ih h) hF
theorem fo_B_X11_anything_90 {σ0 : Mm} {rc90 : Int32 → Int32 → Int32 → Int32 → Int32 → Int32 → Mm → Option (Int32 × Mm)} (hrc90 : ∀ a0 a1 a2 a3 a4 a5 τ, Fr W_X11_anything σ0 τ → FoI W_X11_anything σ0 (rc90 a0 a1 a2 a3 a4 a5 τ)) {x1 : Int32} {x2 : Int32} {x3 : Int32} {x4 : Int32} {x5 : Int32} {x6 : Int32} {σ : Mm} (hF : Fr W_X11_anything σ0 σ) : FoI W_X11_anything σ0 (B_X11_anything_90 rc90 x1 x2 x3 x4 x5 x6 σ) := by
  unfold B_X11_anything_90
  exact (fI_ite (fI_I (Wc := W_X11_markedUpTo) hF rfl (fo_F_X11_markedUpTo Fr_r) (fun _ _ h1 => (fo_F_X11_anything_137  h1))) (fo_F_X11_anything_99 hrc90 FU hF))
theorem fo_F_X11_anything_90 {σ0 : Mm} (n : Nat) : ∀ {y0 : Int32} {y1 : Int32} {y2 : Int32} {y3 : Int32} {y4 : Int32} {y5 : Int32} {σ : Mm}, Fr W_X11_anything σ0 σ → FoI W_X11_anything σ0 (F_X11_anything_90  n y0 y1 y2 y3 y4 y5 σ) := by
  induction n with
  | zero => intro y0 y1 y2 y3 y4 y5 σ _; exact fI_none
  | succ n ih => intro y0 y1 y2 y3 y4 y5 σ hF; exact fo_B_X11_anything_90  (fun _ _ _ _ _ _ _ h => ih h) hF
theorem fo_F_X11_anything_81 {σ0 : Mm} {rc66 : Int32 → Int32 → Int32 → Int32 → Int32 → Int32 → Mm → Option (Int32 × Mm)} (hrc66 : ∀ a0 a1 a2 a3 a4 a5 τ, Fr W_X11_anything σ0 τ → FoI W_X11_anything σ0 (rc66 a0 a1 a2 a3 a4 a5 τ)) {x1 : Int32} {x2 : Int32} {x3 : Int32} {x4 : Int32} {x5 : Int32} {x6 : Int32} {σ : Mm} (hF : Fr W_X11_anything σ0 σ) : FoI W_X11_anything σ0 (F_X11_anything_81 rc66 x1 x2 x3 x4 x5 x6 σ) := by
  unfold F_X11_anything_81
  exact (hrc66 _ _ _ _ _ _ _ hF)
theorem fo_B_X11_anything_66 {σ0 : Mm} {rc66 : Int32 → Int32 → Int32 → Int32 → Int32 → Int32 → Mm → Option (Int32 × Mm)} (hrc66 : ∀ a0 a1 a2 a3 a4 a5 τ, Fr W_X11_anything σ0 τ → FoI W_X11_anything σ0 (rc66 a0 a1 a2 a3 a4 a5 τ)) {x1 : Int32} {x2 : Int32} {x3 : Int32} {x4 : Int32} {x5 : Int32} {x6 : Int32} {σ : Mm} (hF : Fr W_X11_anything σ0 σ) : FoI W_X11_anything σ0 (B_X11_anything_66 rc66 x1 x2 x3 x4 x5 x6 σ) := by
  unfold B_X11_anything_66
  exact (fI_ite (fo_F_X11_anything_90  FU hF) (fI_ite (fo_F_X11_anything_81 hrc66 (Fr.AA hF rfl)) fI_none))
theorem fo_F_X11_anything_66 {σ0 : Mm} (n : Nat) : ∀ {y0 : Int32} {y1 : Int32} {y2 : Int32} {y3 : Int32} {y4 : Int32} {y5 : Int32} {σ : Mm}, Fr W_X11_anything σ0 σ → FoI W_X11_anything σ0 (F_X11_anything_66  n y0 y1 y2 y3 y4 y5 σ) := by
  induction n with
  | zero => intro y0 y1 y2 y3 y4 y5 σ _; exact fI_none
  | succ n ih => intro y0 y1 y2 y3 y4 y5 σ hF; exact fo_B_X11_anything_66  (fun _ _ _ _ _ _ _ h => ih h) hF
theorem fo_F_X11_anything {σ0 : Mm} {x1 : Int32} {x2 : Int32} {x3 : Int32} {x4 : Int32} {x5 : Int32} {σ : Mm} (hF : Fr W_X11_anything σ0 σ) : FoI W_X11_anything σ0 (F_X11_anything x1 x2 x3 x4 x5 σ) := by
  unfold F_X11_anything
  exact (fI_ite (fI_some hF) (fI_ite (fI_some hF) (fI_ite (fI_some hF) (fI_ite (fI_some hF) (fI_ite (fI_some hF) (fI_ite (fI_ite (fI_some hF) (fI_ite (fI_some hF) (fI_ite (fI_some hF) (fI_ite (fo_F_X11_anything_66  FU hF) (fI_some hF))))) (fI_some hF)))))))
theorem fr_X11_anything {x1 : Int32} {x2 : Int32} {x3 : Int32} {x4 : Int32} {x5 : Int32} {σ : Mm} : FoI W_X11_anything σ (F_X11_anything x1 x2 x3 x4 x5 σ) := fo_F_X11_anything Fr_r
def W_X11_back : List (Nat × Nat × Nat) := [(0, 6, 0)]
theorem fo_F_X11_back_30 {σ0 : Mm} {σ : Mm} (hF : Fr W_X11_back σ0 σ) : FoI W_X11_back σ0 (F_X11_back_30 σ) := by
  unfold F_X11_back_30
  exact (fI_some hF)
theorem fo_F_X11_back {σ0 : Mm} {x1 : Int32} {σ : Mm} (hF : Fr W_X11_back σ0 σ) : FoI W_X11_back σ0 (F_X11_back x1 σ) := by
  unfold F_X11_back
  exact (fI_ite (fI_some hF) (fI_ite (fo_F_X11_back_30  (Fr.A hF rfl)) (fI_some hF)))
theorem fr_X11_back {x1 : Int32} {σ : Mm} : FoI W_X11_back σ (F_X11_back x1 σ) := fo_F_X11_back Fr_r
def W_X11_near_w : List (Nat × Nat × Nat) := []
theorem fo_F_X11_near_w_30 {σ0 : Mm} {rc6 : Int32 → Int32 → Int32 → Int32 → Mm → Option (Int32 × Mm)} (hrc6 : ∀ a0 a1 a2 a3 τ, Fr W_X11_near_w σ0 τ → FoI W_X11_near_w σ0 (rc6 a0 a1 a2 a3 τ)) {x1 : Int32} {x2 : Int32} {x4 : Int32} {x5 : Int32} {σ : Mm} (hF : Fr W_X11_near_w σ0 σ) : FoI W_X11_near_w σ0 (F_X11_near_w_30 rc6 x1 x2 x4 x5 σ) := by
  unfold F_X11_near_w_30
  exact (hrc6 _ _ _ _ _ hF)
theorem fo_B_X11_near_w_6 {σ0 : Mm} {rc6 : Int32 → Int32 → Int32 → Int32 → Mm → Option (Int32 × Mm)} (hrc6 : ∀ a0 a1 a2 a3 τ, Fr W_X11_near_w σ0 τ → FoI W_X11_near_w σ0 (rc6 a0 a1 a2 a3 τ)) {x1 : Int32} {x2 : Int32} {x4 : Int32} {x5 : Int32} {σ : Mm} (hF : Fr W_X11_near_w σ0 σ) : FoI W_X11_near_w σ0 (B_X11_near_w_6 rc6 x1 x2 x4 x5 σ) := by
  unfold B_X11_near_w_6
  exact (fI_ite (fI_some hF) (fI_ite (fI_ite (fo_F_X11_near_w_30 hrc6 hF) (fo_F_X11_near_w_30 hrc6 hF)) fI_none))
theorem fo_F_X11_near_w_6 {σ0 : Mm} (n : Nat) : ∀ {y0 : Int32} {y1 : Int32} {y2 : Int32} {y3 : Int32} {σ : Mm}, Fr W_X11_near_w σ0 σ → FoI W_X11_near_w σ0 (F_X11_near_w_6  n y0 y1 y2 y3 σ) := by
  induction n with
  | zero => intro y0 y1 y2 y3 σ _; exact fI_none
  | succ n ih => intro y0 y1 y2 y3 σ hF; exact fo_B_X11_near_w_6  (fun _ _ _ _ _ h => ih h) hF
theorem fo_F_X11_near_w {σ0 : Mm} {x1 : Int32} {x2 : Int32} {σ : Mm} (hF : Fr W_X11_near_w σ0 σ) : FoI W_X11_near_w σ0 (F_X11_near_w x1 x2 σ) := by
  unfold F_X11_near_w
  exact (fo_F_X11_near_w_6  FU hF)
theorem fr_X11_near_w {x1 : Int32} {x2 : Int32} {σ : Mm} : FoI W_X11_near_w σ (F_X11_near_w x1 x2 σ) := fo_F_X11_near_w Fr_r
def W_X11_near_l : List (Nat × Nat × Nat) := []
theorem fo_F_X11_near_l_30 {σ0 : Mm} {rc6 : Int32 → Int32 → Int32 → Int32 → Mm → Option (Int32 × Mm)} (hrc6 : ∀ a0 a1 a2 a3 τ, Fr W_X11_near_l σ0 τ → FoI W_X11_near_l σ0 (rc6 a0 a1 a2 a3 τ)) {x1 : Int32} {x2 : Int32} {x4 : Int32} {x5 : Int32} {σ : Mm} (hF : Fr W_X11_near_l σ0 σ) : FoI W_X11_near_l σ0 (F_X11_near_l_30 rc6 x1 x2 x4 x5 σ) := by
  unfold F_X11_near_l_30
  exact (hrc6 _ _ _ _ _ hF)
theorem fo_B_X11_near_l_6 {σ0 : Mm} {rc6 : Int32 → Int32 → Int32 → Int32 → Mm → Option (Int32 × Mm)} (hrc6 : ∀ a0 a1 a2 a3 τ, Fr W_X11_near_l σ0 τ → FoI W_X11_near_l σ0 (rc6 a0 a1 a2 a3 τ)) {x1 : Int32} {x2 : Int32} {x4 : Int32} {x5 : Int32} {σ : Mm} (hF : Fr W_X11_near_l σ0 σ) : FoI W_X11_near_l σ0 (B_X11_near_l_6 rc6 x1 x2 x4 x5 σ) := by
  unfold B_X11_near_l_6
  exact (fI_ite (fI_some hF) (fI_ite (fI_ite (fo_F_X11_near_l_30 hrc6 hF) (fo_F_X11_near_l_30 hrc6 hF)) fI_none))
theorem fo_F_X11_near_l_6 {σ0 : Mm} (n : Nat) : ∀ {y0 : Int32} {y1 : Int32} {y2 : Int32} {y3 : Int32} {σ : Mm}, Fr W_X11_near_l σ0 σ → FoI W_X11_near_l σ0 (F_X11_near_l_6  n y0 y1 y2 y3 σ) := by
  induction n with
  | zero => intro y0 y1 y2 y3 σ _; exact fI_none
  | succ n ih => intro y0 y1 y2 y3 σ hF; exact fo_B_X11_near_l_6  (fun _ _ _ _ _ h => ih h) hF
theorem fo_F_X11_near_l {σ0 : Mm} {x1 : Int32} {x2 : Int32} {σ : Mm} (hF : Fr W_X11_near_l σ0 σ) : FoI W_X11_near_l σ0 (F_X11_near_l x1 x2 σ) := by
  unfold F_X11_near_l
  exact (fo_F_X11_near_l_6  FU hF)
theorem fr_X11_near_l {x1 : Int32} {x2 : Int32} {σ : Mm} : FoI W_X11_near_l σ (F_X11_near_l x1 x2 σ) := fo_F_X11_near_l Fr_r
def W_X11_power : List (Nat × Nat × Nat) := []
theorem fo_B_X11_power_5 {σ0 : Mm} {rc5 : Int32 → Int32 → Int64 → Int32 → Mm → Option (Int64 × Mm)} (hrc5 : ∀ a0 a1 a2 a3 τ, Fr W_X11_power σ0 τ → FoL W_X11_power σ0 (rc5 a0 a1 a2 a3 τ)) {x0 : Int32} {x1 : Int32} {x2 : Int64} {x4 : Int32} {σ : Mm} (hF : Fr W_X11_power σ0 σ) : FoL W_X11_power σ0 (B_X11_power_5 rc5 x0 x1 x2 x4 σ) := by
  unfold B_X11_power_5
  exact (fL_ite (fL_some hF) (hrc5 _ _ _ _ _ hF))
theorem fo_F_X11_power_5 {σ0 : Mm} (n : Nat) : ∀ {y0 : Int32} {y1 : Int32} {y2 : Int64} {y3 : Int32} {σ : Mm}, Fr W_X11_power σ0 σ → FoL W_X11_power σ0 (F_X11_power_5  n y0 y1 y2 y3 σ) := by
  induction n with
  | zero => intro y0 y1 y2 y3 σ _; exact fL_none
  | succ n ih => intro y0 y1 y2 y3 σ hF; exact fo_B_X11_power_5  (fun _ _ _ _ _ h => ih h) hF
theorem fo_F_X11_power {σ0 : Mm} {x0 : Int32} {x1 : Int32} {σ : Mm} (hF : Fr W_X11_power σ0 σ) : FoL W_X11_power σ0 (F_X11_power x0 x1 σ) := by
  unfold F_X11_power
  exact (fo_F_X11_power_5  FU hF)
theorem fr_X11_power {x0 : Int32} {x1 : Int32} {σ : Mm} : FoL W_X11_power σ (F_X11_power x0 x1 σ) := fo_F_X11_power Fr_r
def W_X11_ways : List (Nat × Nat × Nat) := []
theorem fo_F_X11_ways_60 {σ0 : Mm} {rc9 : Int32 → Int32 → Int32 → Int32 → Int64 → Int64 → Int32 → Mm → Option (Int64 × Mm)} (hrc9 : ∀ a0 a1 a2 a3 a4 a5 a6 τ, Fr W_X11_ways σ0 τ → FoL W_X11_ways σ0 (rc9 a0 a1 a2 a3 a4 a5 a6 τ)) {x0 : Int32} {x1 : Int32} {x2 : Int32} {x3 : Int32} {x4 : Int64} {x6 : Int64} {x8 : Int32} {σ : Mm} (hF : Fr W_X11_ways σ0 σ) : FoL W_X11_ways σ0 (F_X11_ways_60 rc9 x0 x1 x2 x3 x4 x6 x8 σ) := by
  unfold F_X11_ways_60
  exact (hrc9 _ _ _ _ _ _ _ _ hF)
theorem fo_F_X11_ways_44 {σ0 : Mm} {rc9 : Int32 → Int32 → Int32 → Int32 → Int64 → Int64 → Int32 → Mm → Option (Int64 × Mm)} (hrc9 : ∀ a0 a1 a2 a3 a4 a5 a6 τ, Fr W_X11_ways σ0 τ → FoL W_X11_ways σ0 (rc9 a0 a1 a2 a3 a4 a5 a6 τ)) {x0 : Int32} {x1 : Int32} {x2 : Int32} {x3 : Int32} {x4 : Int64} {x6 : Int64} {x8 : Int32} {σ : Mm} (hF : Fr W_X11_ways σ0 σ) : FoL W_X11_ways σ0 (F_X11_ways_44 rc9 x0 x1 x2 x3 x4 x6 x8 σ) := by
  unfold F_X11_ways_44
  exact (fL_ite (fo_F_X11_ways_60 hrc9 hF) fL_none)
theorem fo_F_X11_ways_40 {σ0 : Mm} {rc9 : Int32 → Int32 → Int32 → Int32 → Int64 → Int64 → Int32 → Mm → Option (Int64 × Mm)} (hrc9 : ∀ a0 a1 a2 a3 a4 a5 a6 τ, Fr W_X11_ways σ0 τ → FoL W_X11_ways σ0 (rc9 a0 a1 a2 a3 a4 a5 a6 τ)) {x0 : Int32} {x1 : Int32} {x2 : Int32} {x3 : Int32} {x6 : Int64} {x8 : Int32} {s0 : Int64} {s1 : Int64} {s2 : Int64} {σ : Mm} (hF : Fr W_X11_ways σ0 σ) : FoL W_X11_ways σ0 (F_X11_ways_40 rc9 x0 x1 x2 x3 x6 x8 s0 s1 s2 σ) := by
  unfold F_X11_ways_40
  exact (fo_F_X11_ways_44 hrc9 hF)
theorem fo_F_X11_ways_31 {σ0 : Mm} {rc9 : Int32 → Int32 → Int32 → Int32 → Int64 → Int64 → Int32 → Mm → Option (Int64 × Mm)} (hrc9 : ∀ a0 a1 a2 a3 a4 a5 a6 τ, Fr W_X11_ways σ0 τ → FoL W_X11_ways σ0 (rc9 a0 a1 a2 a3 a4 a5 a6 τ)) {x0 : Int32} {x1 : Int32} {x2 : Int32} {x3 : Int32} {x6 : Int64} {x8 : Int32} {s0 : Int64} {s1 : Int64} {s2 : Int64} {σ : Mm} (hF : Fr W_X11_ways σ0 σ) : FoL W_X11_ways σ0 (F_X11_ways_31 rc9 x0 x1 x2 x3 x6 x8 s0 s1 s2 σ) := by
  unfold F_X11_ways_31
  exact (fL_L (Wc := W_X11_power) hF rfl (fo_F_X11_power Fr_r) (fun _ _ h1 => (fo_F_X11_ways_40 hrc9 h1)))
theorem fo_B_X11_ways_9 {σ0 : Mm} {rc9 : Int32 → Int32 → Int32 → Int32 → Int64 → Int64 → Int32 → Mm → Option (Int64 × Mm)} (hrc9 : ∀ a0 a1 a2 a3 a4 a5 a6 τ, Fr W_X11_ways σ0 τ → FoL W_X11_ways σ0 (rc9 a0 a1 a2 a3 a4 a5 a6 τ)) {x0 : Int32} {x1 : Int32} {x2 : Int32} {x3 : Int32} {x4 : Int64} {x6 : Int64} {x8 : Int32} {σ : Mm} (hF : Fr W_X11_ways σ0 σ) : FoL W_X11_ways σ0 (B_X11_ways_9 rc9 x0 x1 x2 x3 x4 x6 x8 σ) := by
  unfold B_X11_ways_9
  exact (fL_ite (fL_some hF) (fL_ite (fo_F_X11_ways_44 hrc9 hF) (fL_L (Wc := W_X11_power) hF rfl (fo_F_X11_power Fr_r) (fun _ _ h1 => (fo_F_X11_ways_31 hrc9 h1)))))
theorem fo_F_X11_ways_9 {σ0 : Mm} (n : Nat) : ∀ {y0 : Int32} {y1 : Int32} {y2 : Int32} {y3 : Int32} {y4 : Int64} {y5 : Int64} {y6 : Int32} {σ : Mm}, Fr W_X11_ways σ0 σ → FoL W_X11_ways σ0 (F_X11_ways_9  n y0 y1 y2 y3 y4 y5 y6 σ) := by
  induction n with
  | zero => intro y0 y1 y2 y3 y4 y5 y6 σ _; exact fL_none
  | succ n ih => intro y0 y1 y2 y3 y4 y5 y6 σ hF; exact fo_B_X11_ways_9  (fun _ _ _ _ _ _ _ _ h => ih h) hF
theorem fo_F_X11_ways {σ0 : Mm} {x0 : Int32} {x1 : Int32} {x2 : Int32} {x3 : Int32} {σ : Mm} (hF : Fr W_X11_ways σ0 σ) : FoL W_X11_ways σ0 (F_X11_ways x0 x1 x2 x3 σ) := by
  unfold F_X11_ways
  exact (fo_F_X11_ways_9  FU hF)
theorem fr_X11_ways {x0 : Int32} {x1 : Int32} {x2 : Int32} {x3 : Int32} {σ : Mm} : FoL W_X11_ways σ (F_X11_ways x0 x1 x2 x3 σ) := fo_F_X11_ways Fr_r
def W_X11_chance : List (Nat × Nat × Nat) := []
theorem fo_F_X11_chance_50 {σ0 : Mm} {s0 : Int64} {σ : Mm} (hF : Fr W_X11_chance σ0 σ) : FoL W_X11_chance σ0 (F_X11_chance_50 s0 σ) := by
  unfold F_X11_chance_50
  exact (fL_some hF)
theorem fo_F_X11_chance_41 {σ0 : Mm} {x3 : Int32} {s0 : Int32} {s1 : Int32} {σ : Mm} (hF : Fr W_X11_chance σ0 σ) : FoL W_X11_chance σ0 (F_X11_chance_41 x3 s0 s1 σ) := by
  unfold F_X11_chance_41
  exact (fL_L (Wc := W_X11_ways) hF rfl (fo_F_X11_ways Fr_r) (fun _ _ h1 => (fo_F_X11_chance_50  h1)))
theorem fo_F_X11_chance_27 {σ0 : Mm} {x1 : Int32} {x2 : Int32} {x3 : Int32} {σ : Mm} (hF : Fr W_X11_chance σ0 σ) : FoL W_X11_chance σ0 (F_X11_chance_27 x1 x2 x3 σ) := by
  unfold F_X11_chance_27
  exact (fI_L (Wc := W_X11_near_w) hF rfl (fo_F_X11_near_w Fr_r) (fun _ _ h1 => (fo_F_X11_chance_41  h1)))
theorem fo_F_X11_chance {σ0 : Mm} {x1 : Int32} {x2 : Int32} {σ : Mm} (hF : Fr W_X11_chance σ0 σ) : FoL W_X11_chance σ0 (F_X11_chance x1 x2 σ) := by
  unfold F_X11_chance
  exact (fL_ite (fL_some hF) (fL_ite (fL_some hF) (fL_ite (fo_F_X11_chance_27  hF) (fL_some hF))))
theorem fr_X11_chance {x1 : Int32} {x2 : Int32} {σ : Mm} : FoL W_X11_chance σ (F_X11_chance x1 x2 σ) := fo_F_X11_chance Fr_r
def W_X11_clear : List (Nat × Nat × Nat) := [(0, 0, 12)]
theorem fo_F_X11_clear_10 {σ0 : Mm} {x1 : Int32} {σ : Mm} (hF : Fr W_X11_clear σ0 σ) : FoI W_X11_clear σ0 (F_X11_clear_10 x1 σ) := by
  unfold F_X11_clear_10
  exact (fI_some hF)
theorem fo_F_X11_clear {σ0 : Mm} {σ : Mm} (hF : Fr W_X11_clear σ0 σ) : FoI W_X11_clear σ0 (F_X11_clear σ) := by
  unfold F_X11_clear
  exact (fo_F_X11_clear_10  (Fr.A hF rfl))
theorem fr_X11_clear {σ : Mm} : FoI W_X11_clear σ (F_X11_clear σ) := fo_F_X11_clear Fr_r
def W_X11_slotsHeld : List (Nat × Nat × Nat) := []
theorem fo_F_X11_slotsHeld_21 {σ0 : Mm} {rc4 : Int32 → Int32 → Mm → Option (Int32 × Mm)} (hrc4 : ∀ a0 a1 τ, Fr W_X11_slotsHeld σ0 τ → FoI W_X11_slotsHeld σ0 (rc4 a0 a1 τ)) {H : Nat → Bool} {x1 : Int32} {x2 : Int32} {σ : Mm} (hF : Fr W_X11_slotsHeld σ0 σ) : FoI W_X11_slotsHeld σ0 (F_X11_slotsHeld_21 H rc4 x1 x2 σ) := by
  unfold F_X11_slotsHeld_21
  exact (hrc4 _ _ _ hF)
theorem fo_B_X11_slotsHeld_4 {σ0 : Mm} {rc4 : Int32 → Int32 → Mm → Option (Int32 × Mm)} (hrc4 : ∀ a0 a1 τ, Fr W_X11_slotsHeld σ0 τ → FoI W_X11_slotsHeld σ0 (rc4 a0 a1 τ)) {H : Nat → Bool} {x1 : Int32} {x2 : Int32} {σ : Mm} (hF : Fr W_X11_slotsHeld σ0 σ) : FoI W_X11_slotsHeld σ0 (B_X11_slotsHeld_4 H rc4 x1 x2 σ) := by
  unfold B_X11_slotsHeld_4
  exact (fI_ite (fI_some hF) (fI_ite (fI_ite (fo_F_X11_slotsHeld_21 hrc4 hF) (fo_F_X11_slotsHeld_21 hrc4 hF)) fI_none))
theorem fo_F_X11_slotsHeld_4 {σ0 : Mm} {H : Nat → Bool} (n : Nat) : ∀ {y0 : Int32} {y1 : Int32} {σ : Mm}, Fr W_X11_slotsHeld σ0 σ → FoI W_X11_slotsHeld σ0 (F_X11_slotsHeld_4 H n y0 y1 σ) := by
  induction n with
  | zero => intro y0 y1 σ _; exact fI_none
  | succ n ih => intro y0 y1 σ hF; exact fo_B_X11_slotsHeld_4  (fun _ _ _ h => ih h) hF
theorem fo_F_X11_slotsHeld {σ0 : Mm} {H : Nat → Bool} {σ : Mm} (hF : Fr W_X11_slotsHeld σ0 σ) : FoI W_X11_slotsHeld σ0 (F_X11_slotsHeld H σ) := by
  unfold F_X11_slotsHeld
  exact (fo_F_X11_slotsHeld_4  FU hF)
theorem fr_X11_slotsHeld {H : Nat → Bool} {σ : Mm} : FoI W_X11_slotsHeld σ (F_X11_slotsHeld H σ) := fo_F_X11_slotsHeld Fr_r
def W_X11_count : List (Nat × Nat × Nat) := []
theorem fo_F_X11_count_126 {σ0 : Mm} {H : Nat → Bool} {s0 : Int32} {σ : Mm} (hF : Fr W_X11_count σ0 σ) : FoI W_X11_count σ0 (F_X11_count_126 H s0 σ) := by
  unfold F_X11_count_126
  exact (fI_some hF)
theorem fo_F_X11_count {σ0 : Mm} {H : Nat → Bool} {x1 : Int32} {σ : Mm} (hF : Fr W_X11_count σ0 σ) : FoI W_X11_count σ0 (F_X11_count H x1 σ) := by
  unfold F_X11_count
  exact (fI_ite (fI_ite (fI_some hF) fI_none) (fI_ite (fI_ite (fI_some hF) fI_none) (fI_ite (fI_ite (fI_some hF) fI_none) (fI_ite (fI_ite (fI_some hF) fI_none) (fI_ite (fI_ite (fI_some hF) fI_none) (fI_ite (fI_ite (fI_some hF) fI_none) (fI_ite (fI_some hF) (fI_ite (fI_some hF) (fI_ite (fI_some hF) (fI_ite (fI_I (Wc := W_X11_slotsHeld) hF rfl (fo_F_X11_slotsHeld Fr_r) (fun _ _ h1 => (fo_F_X11_count_126  h1))) (fI_some hF)))))))))))
theorem fr_X11_count {H : Nat → Bool} {x1 : Int32} {σ : Mm} : FoI W_X11_count σ (F_X11_count H x1 σ) := fo_F_X11_count Fr_r
def W_X11_date : List (Nat × Nat × Nat) := [(2, 0, 0), (2, 1, 999), (2, 2, 999), (2, 3, 999), (2, 4, 999), (2, 5, 999)]
theorem fo_F_X11_date_29 {σ0 : Mm} {s0 : Int32} {σ : Mm} (hF : Fr W_X11_date σ0 σ) : FoI W_X11_date σ0 (F_X11_date_29 s0 σ) := by
  unfold F_X11_date_29
  exact (fI_some hF)
theorem fo_F_X11_date {σ0 : Mm} {x1 : Int32} {x2 : Int32} {σ : Mm} (hF : Fr W_X11_date σ0 σ) : FoI W_X11_date σ0 (F_X11_date x1 x2 σ) := by
  unfold F_X11_date
  exact (fI_ite (fI_ite (fI_some hF) (fI_ite (fI_some hF) (fI_I (Wc := W_X7_note) hF rfl (fo_F_X7_note Fr_r) (fun _ _ h1 => (fo_F_X11_date_29  h1))))) fI_none)
theorem fr_X11_date {x1 : Int32} {x2 : Int32} {σ : Mm} : FoI W_X11_date σ (F_X11_date x1 x2 σ) := fo_F_X11_date Fr_r
def W_X11_degree : List (Nat × Nat × Nat) := []
theorem fo_F_X11_degree_35 {σ0 : Mm} {s0 : Int32} {σ : Mm} (hF : Fr W_X11_degree σ0 σ) : FoI W_X11_degree σ0 (F_X11_degree_35 s0 σ) := by
  unfold F_X11_degree_35
  exact (fI_some hF)
theorem fo_F_X11_degree {σ0 : Mm} {x1 : Int32} {x2 : Int32} {σ : Mm} (hF : Fr W_X11_degree σ0 σ) : FoI W_X11_degree σ0 (F_X11_degree x1 x2 σ) := by
  unfold F_X11_degree
  exact (fI_ite (fI_some hF) (fI_ite (fI_some hF) (fI_ite (fI_some hF) (fI_ite (fI_I (Wc := W_X1_bearing) hF rfl (fo_F_X1_bearing Fr_r) (fun _ _ h1 => (fo_F_X11_degree_35  h1))) (fI_some hF)))))
theorem fr_X11_degree {x1 : Int32} {x2 : Int32} {σ : Mm} : FoI W_X11_degree σ (F_X11_degree x1 x2 σ) := fo_F_X11_degree Fr_r
def W_X8_append : List (Nat × Nat × Nat) := [(0, 6, 0), (0, 7, 999)]
theorem fo_F_X8_append_40 {σ0 : Mm} {rc3 : Int32 → Int32 → Mm → Option (Mm)} (hrc3 : ∀ a0 a1 τ, Fr W_X8_append σ0 τ → FoV W_X8_append σ0 (rc3 a0 a1 τ)) {x1 : Int32} {x2 : Int32} {σ : Mm} (hF : Fr W_X8_append σ0 σ) : FoV W_X8_append σ0 (F_X8_append_40 rc3 x1 x2 σ) := by
  unfold F_X8_append_40
  exact (hrc3 _ _ _ hF)
theorem fo_F_X8_append_30 {σ0 : Mm} {rc3 : Int32 → Int32 → Mm → Option (Mm)} (hrc3 : ∀ a0 a1 τ, Fr W_X8_append σ0 τ → FoV W_X8_append σ0 (rc3 a0 a1 τ)) {x1 : Int32} {x2 : Int32} {σ : Mm} (hF : Fr W_X8_append σ0 σ) : FoV W_X8_append σ0 (F_X8_append_30 rc3 x1 x2 σ) := by
  unfold F_X8_append_30
  exact (fo_F_X8_append_40 hrc3 (Fr.A hF rfl))
theorem fo_B_X8_append_3 {σ0 : Mm} {rc3 : Int32 → Int32 → Mm → Option (Mm)} (hrc3 : ∀ a0 a1 τ, Fr W_X8_append σ0 τ → FoV W_X8_append σ0 (rc3 a0 a1 τ)) {x1 : Int32} {x2 : Int32} {σ : Mm} (hF : Fr W_X8_append σ0 σ) : FoV W_X8_append σ0 (B_X8_append_3 rc3 x1 x2 σ) := by
  unfold B_X8_append_3
  exact (fV_ite (fV_some hF) (fV_ite (fV_some hF) (fV_ite (fo_F_X8_append_30 hrc3 (Fr.AA hF rfl)) fV_none)))
theorem fo_F_X8_append_3 {σ0 : Mm} (n : Nat) : ∀ {y0 : Int32} {y1 : Int32} {σ : Mm}, Fr W_X8_append σ0 σ → FoV W_X8_append σ0 (F_X8_append_3  n y0 y1 σ) := by
  induction n with
  | zero => intro y0 y1 σ _; exact fV_none
  | succ n ih => intro y0 y1 σ hF; exact fo_B_X8_append_3  (fun _ _ _ h => ih h) hF
theorem fo_F_X8_append {σ0 : Mm} {x1 : Int32} {σ : Mm} (hF : Fr W_X8_append σ0 σ) : FoV W_X8_append σ0 (F_X8_append x1 σ) := by
  unfold F_X8_append
  exact (fo_F_X8_append_3  FU hF)
theorem fr_X8_append {x1 : Int32} {σ : Mm} : FoV W_X8_append σ (F_X8_append x1 σ) := fo_F_X8_append Fr_r
def W_X11_feed : List (Nat × Nat × Nat) := [(0, 6, 0), (0, 7, 999)]
theorem fo_F_X11_feed_60 {σ0 : Mm} {σ : Mm} (hF : Fr W_X11_feed σ0 σ) : FoI W_X11_feed σ0 (F_X11_feed_60 σ) := by
  unfold F_X11_feed_60
  exact (fI_some hF)
theorem fo_F_X11_feed_51 {σ0 : Mm} {x5 : Int32} {σ : Mm} (hF : Fr W_X11_feed σ0 σ) : FoI W_X11_feed σ0 (F_X11_feed_51 x5 σ) := by
  unfold F_X11_feed_51
  exact (fV_I (Wc := W_X8_append) hF rfl (fo_F_X8_append Fr_r) (fun _ h1 => (fo_F_X11_feed_60  h1)))
theorem fo_F_X11_feed_42 {σ0 : Mm} {x4 : Int32} {x5 : Int32} {σ : Mm} (hF : Fr W_X11_feed σ0 σ) : FoI W_X11_feed σ0 (F_X11_feed_42 x4 x5 σ) := by
  unfold F_X11_feed_42
  exact (fV_I (Wc := W_X8_append) hF rfl (fo_F_X8_append Fr_r) (fun _ h1 => (fo_F_X11_feed_51  h1)))
theorem fo_F_X11_feed_34 {σ0 : Mm} {x3 : Int32} {x4 : Int32} {x5 : Int32} {σ : Mm} (hF : Fr W_X11_feed σ0 σ) : FoI W_X11_feed σ0 (F_X11_feed_34 x3 x4 x5 σ) := by
  unfold F_X11_feed_34
  exact (fV_I (Wc := W_X8_append) hF rfl (fo_F_X8_append Fr_r) (fun _ h1 => (fo_F_X11_feed_42  h1)))
theorem fo_F_X11_feed_26 {σ0 : Mm} {x2 : Int32} {x3 : Int32} {x4 : Int32} {x5 : Int32} {σ : Mm} (hF : Fr W_X11_feed σ0 σ) : FoI W_X11_feed σ0 (F_X11_feed_26 x2 x3 x4 x5 σ) := by
  unfold F_X11_feed_26
  exact (fV_I (Wc := W_X8_append) hF rfl (fo_F_X8_append Fr_r) (fun _ h1 => (fo_F_X11_feed_34  h1)))
theorem fo_F_X11_feed {σ0 : Mm} {x1 : Int32} {x2 : Int32} {x3 : Int32} {x4 : Int32} {x5 : Int32} {σ : Mm} (hF : Fr W_X11_feed σ0 σ) : FoI W_X11_feed σ0 (F_X11_feed x1 x2 x3 x4 x5 σ) := by
  unfold F_X11_feed
  exact (fI_ite (fV_I (Wc := W_X8_append) hF rfl (fo_F_X8_append Fr_r) (fun _ h1 => (fo_F_X11_feed_26  h1))) (fI_some hF))
theorem fr_X11_feed {x1 : Int32} {x2 : Int32} {x3 : Int32} {x4 : Int32} {x5 : Int32} {σ : Mm} : FoI W_X11_feed σ (F_X11_feed x1 x2 x3 x4 x5 σ) := fo_F_X11_feed Fr_r
def W_X11_found : List (Nat × Nat × Nat) := [(2, 0, 0), (2, 0, 1), (2, 1, 999), (2, 2, 999), (2, 3, 999), (2, 4, 999), (2, 5, 999)]
theorem fo_F_X11_found_69 {σ0 : Mm} {x4 : Int32} {σ : Mm} (hF : Fr W_X11_found σ0 σ) : FoI W_X11_found σ0 (F_X11_found_69 x4 σ) := by
  unfold F_X11_found_69
  exact (fI_some hF)
theorem fo_F_X11_found_55 {σ0 : Mm} {x4 : Int32} {s0 : Int32} {σ : Mm} (hF : Fr W_X11_found σ0 σ) : FoI W_X11_found σ0 (F_X11_found_55 x4 s0 σ) := by
  unfold F_X11_found_55
  exact (fo_F_X11_found_69  (Fr.A hF rfl))
theorem fo_F_X11_found {σ0 : Mm} {x1 : Int32} {x2 : Int32} {x3 : Int32} {σ : Mm} (hF : Fr W_X11_found σ0 σ) : FoI W_X11_found σ0 (F_X11_found x1 x2 x3 σ) := by
  unfold F_X11_found
  exact (fI_ite (fI_ite (fI_some hF) (fI_ite (fI_some hF) (fI_ite (fI_some hF) (fI_ite (fI_some hF) (fI_I (Wc := W_X7_note) hF rfl (fo_F_X7_note Fr_r) (fun _ _ h1 => (fo_F_X11_found_55  h1))))))) fI_none)
theorem fr_X11_found {x1 : Int32} {x2 : Int32} {x3 : Int32} {σ : Mm} : FoI W_X11_found σ (F_X11_found x1 x2 x3 σ) := fo_F_X11_found Fr_r
def W_X11_hitsTurned : List (Nat × Nat × Nat) := []
theorem fo_F_X11_hitsTurned_44 {σ0 : Mm} {rc6 : Int32 → Int32 → Int32 → Int32 → Int32 → Mm → Option (Int32 × Mm)} (hrc6 : ∀ a0 a1 a2 a3 a4 τ, Fr W_X11_hitsTurned σ0 τ → FoI W_X11_hitsTurned σ0 (rc6 a0 a1 a2 a3 a4 τ)) {x1 : Int32} {x2 : Int32} {x3 : Int32} {x4 : Int32} {x5 : Int32} {σ : Mm} (hF : Fr W_X11_hitsTurned σ0 σ) : FoI W_X11_hitsTurned σ0 (F_X11_hitsTurned_44 rc6 x1 x2 x3 x4 x5 σ) := by
  unfold F_X11_hitsTurned_44
  exact (hrc6 _ _ _ _ _ _ hF)
theorem fo_F_X11_hitsTurned_38 {σ0 : Mm} {rc6 : Int32 → Int32 → Int32 → Int32 → Int32 → Mm → Option (Int32 × Mm)} (hrc6 : ∀ a0 a1 a2 a3 a4 τ, Fr W_X11_hitsTurned σ0 τ → FoI W_X11_hitsTurned σ0 (rc6 a0 a1 a2 a3 a4 τ)) {x1 : Int32} {x2 : Int32} {x3 : Int32} {x4 : Int32} {x5 : Int32} {s0 : Int32} {σ : Mm} (hF : Fr W_X11_hitsTurned σ0 σ) : FoI W_X11_hitsTurned σ0 (F_X11_hitsTurned_38 rc6 x1 x2 x3 x4 x5 s0 σ) := by
  unfold F_X11_hitsTurned_38
  exact (fI_ite (fo_F_X11_hitsTurned_44 hrc6 hF) (fo_F_X11_hitsTurned_44 hrc6 hF))
theorem fo_B_X11_hitsTurned_6 {σ0 : Mm} {rc6 : Int32 → Int32 → Int32 → Int32 → Int32 → Mm → Option (Int32 × Mm)} (hrc6 : ∀ a0 a1 a2 a3 a4 τ, Fr W_X11_hitsTurned σ0 τ → FoI W_X11_hitsTurned σ0 (rc6 a0 a1 a2 a3 a4 τ)) {x1 : Int32} {x2 : Int32} {x3 : Int32} {x4 : Int32} {x5 : Int32} {σ : Mm} (hF : Fr W_X11_hitsTurned σ0 σ) : FoI W_X11_hitsTurned σ0 (B_X11_hitsTurned_6 rc6 x1 x2 x3 x4 x5 σ) := by
  unfold B_X11_hitsTurned_6
  exact (fI_ite (fI_some hF) (fI_ite (fI_I (Wc := W_X11_strikes) hF rfl (fo_F_X11_strikes Fr_r) (fun _ _ h1 => (fo_F_X11_hitsTurned_38 hrc6 h1))) fI_none))
theorem fo_F_X11_hitsTurned_6 {σ0 : Mm} (n : Nat) : ∀ {y0 : Int32} {y1 : Int32} {y2 : Int32} {y3 : Int32} {y4 : Int32} {σ : Mm}, Fr W_X11_hitsTurned σ0 σ → FoI W_X11_hitsTurned σ0 (F_X11_hitsTurned_6  n y0 y1 y2 y3 y4 σ) := by
  induction n with
  | zero => intro y0 y1 y2 y3 y4 σ _; exact fI_none
  | succ n ih => intro y0 y1 y2 y3 y4 σ hF; exact fo_B_X11_hitsTurned_6  (fun _ _ _ _ _ _ h => ih h) hF
theorem fo_F_X11_hitsTurned {σ0 : Mm} {x1 : Int32} {x2 : Int32} {x3 : Int32} {σ : Mm} (hF : Fr W_X11_hitsTurned σ0 σ) : FoI W_X11_hitsTurned σ0 (F_X11_hitsTurned x1 x2 x3 σ) := by
  unfold F_X11_hitsTurned
  exact (fo_F_X11_hitsTurned_6  FU hF)
theorem fr_X11_hitsTurned {x1 : Int32} {x2 : Int32} {x3 : Int32} {σ : Mm} : FoI W_X11_hitsTurned σ (F_X11_hitsTurned x1 x2 x3 σ) := fo_F_X11_hitsTurned Fr_r
def W_X11_hitsNow : List (Nat × Nat × Nat) := []
theorem fo_F_X11_hitsNow_7 {σ0 : Mm} {s0 : Int32} {σ : Mm} (hF : Fr W_X11_hitsNow σ0 σ) : FoI W_X11_hitsNow σ0 (F_X11_hitsNow_7 s0 σ) := by
  unfold F_X11_hitsNow_7
  exact (fI_some hF)
theorem fo_F_X11_hitsNow {σ0 : Mm} {x1 : Int32} {σ : Mm} (hF : Fr W_X11_hitsNow σ0 σ) : FoI W_X11_hitsNow σ0 (F_X11_hitsNow x1 σ) := by
  unfold F_X11_hitsNow
  exact (fI_I (Wc := W_X11_hitsTurned) hF rfl (fo_F_X11_hitsTurned Fr_r) (fun _ _ h1 => (fo_F_X11_hitsNow_7  h1)))
theorem fr_X11_hitsNow {x1 : Int32} {σ : Mm} : FoI W_X11_hitsNow σ (F_X11_hitsNow x1 σ) := fo_F_X11_hitsNow Fr_r
def W_X11_hitsIn : List (Nat × Nat × Nat) := [(0, 25, 0), (0, 26, 999), (0, 27, 999), (0, 28, 0), (0, 28, 1), (1, 10, 6), (1, 15, 999)]
theorem fo_F_X11_hitsIn_17 {σ0 : Mm} {s0 : Int32} {σ : Mm} (hF : Fr W_X11_hitsIn σ0 σ) : FoI W_X11_hitsIn σ0 (F_X11_hitsIn_17 s0 σ) := by
  unfold F_X11_hitsIn_17
  exact (fI_some hF)
theorem fo_F_X11_hitsIn_12 {σ0 : Mm} {x1 : Int32} {σ : Mm} (hF : Fr W_X11_hitsIn σ0 σ) : FoI W_X11_hitsIn σ0 (F_X11_hitsIn_12 x1 σ) := by
  unfold F_X11_hitsIn_12
  exact (fI_I (Wc := W_X11_hitsNow) hF rfl (fo_F_X11_hitsNow Fr_r) (fun _ _ h1 => (fo_F_X11_hitsIn_17  h1)))
theorem fo_F_X11_hitsIn {σ0 : Mm} {x1 : Int32} {x2 : Int32} {σ : Mm} (hF : Fr W_X11_hitsIn σ0 σ) : FoI W_X11_hitsIn σ0 (F_X11_hitsIn x1 x2 σ) := by
  unfold F_X11_hitsIn
  exact (fI_ite (fV_I (Wc := W_X6_watch) hF rfl (fo_F_X6_watch Fr_r) (fun _ h1 => (fo_F_X11_hitsIn_12  h1))) fI_none)
theorem fr_X11_hitsIn {x1 : Int32} {x2 : Int32} {σ : Mm} : FoI W_X11_hitsIn σ (F_X11_hitsIn x1 x2 σ) := fo_F_X11_hitsIn Fr_r
def W_X11_free : List (Nat × Nat × Nat) := [(0, 15, 0), (0, 15, 8), (0, 16, 999), (0, 17, 999), (0, 18, 999), (0, 19, 999), (0, 20, 999), (0, 21, 999), (0, 22, 999), (0, 23, 999), (0, 24, 999), (0, 25, 0), (0, 26, 999), (0, 27, 999), (0, 28, 0), (0, 28, 1), (1, 10, 6), (1, 15, 999)]
theorem fo_F_X11_free_80 {σ0 : Mm} {rc39 : Int32 → Int32 → Int32 → Int32 → Int32 → Int32 → Int32 → Mm → Option (Int32 × Mm)} (hrc39 : ∀ a0 a1 a2 a3 a4 a5 a6 τ, Fr W_X11_free σ0 τ → FoI W_X11_free σ0 (rc39 a0 a1 a2 a3 a4 a5 a6 τ)) {x1 : Int32} {x3 : Int32} {x4 : Int32} {x5 : Int32} {x6 : Int32} {x7 : Int32} {x8 : Int32} {σ : Mm} (hF : Fr W_X11_free σ0 σ) : FoI W_X11_free σ0 (F_X11_free_80 rc39 x1 x3 x4 x5 x6 x7 x8 σ) := by
  unfold F_X11_free_80
  exact (hrc39 _ _ _ _ _ _ _ _ hF)
theorem fo_F_X11_free_58 {σ0 : Mm} {rc39 : Int32 → Int32 → Int32 → Int32 → Int32 → Int32 → Int32 → Mm → Option (Int32 × Mm)} (hrc39 : ∀ a0 a1 a2 a3 a4 a5 a6 τ, Fr W_X11_free σ0 τ → FoI W_X11_free σ0 (rc39 a0 a1 a2 a3 a4 a5 a6 τ)) {x1 : Int32} {x3 : Int32} {x4 : Int32} {x5 : Int32} {x6 : Int32} {x7 : Int32} {x8 : Int32} {s0 : Int32} {σ : Mm} (hF : Fr W_X11_free σ0 σ) : FoI W_X11_free σ0 (F_X11_free_58 rc39 x1 x3 x4 x5 x6 x7 x8 s0 σ) := by
  unfold F_X11_free_58
  exact (fI_ite (fo_F_X11_free_80 hrc39 hF) (fo_F_X11_free_80 hrc39 hF))
theorem fo_B_X11_free_39 {σ0 : Mm} {rc39 : Int32 → Int32 → Int32 → Int32 → Int32 → Int32 → Int32 → Mm → Option (Int32 × Mm)} (hrc39 : ∀ a0 a1 a2 a3 a4 a5 a6 τ, Fr W_X11_free σ0 τ → FoI W_X11_free σ0 (rc39 a0 a1 a2 a3 a4 a5 a6 τ)) {x1 : Int32} {x3 : Int32} {x4 : Int32} {x5 : Int32} {x6 : Int32} {x7 : Int32} {x8 : Int32} {σ : Mm} (hF : Fr W_X11_free σ0 σ) : FoI W_X11_free σ0 (B_X11_free_39 rc39 x1 x3 x4 x5 x6 x7 x8 σ) := by
  unfold B_X11_free_39
  exact (fI_ite (fI_some hF) (fI_I (Wc := W_X11_hitsIn) hF rfl (fo_F_X11_hitsIn Fr_r) (fun _ _ h1 => (fo_F_X11_free_58 hrc39 h1))))
theorem fo_F_X11_free_39 {σ0 : Mm} (n : Nat) : ∀ {y0 : Int32} {y1 : Int32} {y2 : Int32} {y3 : Int32} {y4 : Int32} {y5 : Int32} {y6 : Int32} {σ : Mm}, Fr W_X11_free σ0 σ → FoI W_X11_free σ0 (F_X11_free_39  n y0 y1 y2 y3 y4 y5 y6 σ) := by
  induction n with
  | zero => intro y0 y1 y2 y3 y4 y5 y6 σ _; exact fI_none
  | succ n ih => intro y0 y1 y2 y3 y4 y5 y6 σ hF; exact fo_B_X11_free_39  (fun _ _ _ _ _ _ _ _ h => ih h) hF
theorem fo_F_X11_free_30 {σ0 : Mm} {x1 : Int32} {x3 : Int32} {x4 : Int32} {x5 : Int32} {σ : Mm} (hF : Fr W_X11_free σ0 σ) : FoI W_X11_free σ0 (F_X11_free_30 x1 x3 x4 x5 σ) := by
  unfold F_X11_free_30
  exact (fo_F_X11_free_39  FU hF)
theorem fo_F_X11_free {σ0 : Mm} {x1 : Int32} {x2 : Int32} {x3 : Int32} {x4 : Int32} {x5 : Int32} {σ : Mm} (hF : Fr W_X11_free σ0 σ) : FoI W_X11_free σ0 (F_X11_free x1 x2 x3 x4 x5 σ) := by
  unfold F_X11_free
  exact (fI_ite (fI_ite (fI_some hF) (fI_ite (fI_some hF) (fV_I (Wc := W_X11_lookAt) hF rfl (fo_F_X11_lookAt Fr_r) (fun _ h1 => (fo_F_X11_free_30  h1))))) fI_none)
theorem fr_X11_free {x1 : Int32} {x2 : Int32} {x3 : Int32} {x4 : Int32} {x5 : Int32} {σ : Mm} : FoI W_X11_free σ (F_X11_free x1 x2 x3 x4 x5 σ) := fo_F_X11_free Fr_r
def W_X11_freer : List (Nat × Nat × Nat) := [(0, 15, 0), (0, 15, 8), (0, 16, 999), (0, 17, 999), (0, 18, 999), (0, 19, 999), (0, 20, 999), (0, 21, 999), (0, 22, 999), (0, 23, 999), (0, 24, 999), (0, 25, 0), (0, 26, 999), (0, 27, 999), (0, 28, 0), (0, 28, 1), (1, 10, 6), (1, 15, 999)]
theorem fo_F_X11_freer_72 {σ0 : Mm} {rc45 : Int32 → Int32 → Int32 → Int32 → Int32 → Int32 → Int32 → Mm → Option (Int32 × Mm)} (hrc45 : ∀ a0 a1 a2 a3 a4 a5 a6 τ, Fr W_X11_freer σ0 τ → FoI W_X11_freer σ0 (rc45 a0 a1 a2 a3 a4 a5 a6 τ)) {x1 : Int32} {x3 : Int32} {x4 : Int32} {x5 : Int32} {x7 : Int32} {x8 : Int32} {x9 : Int32} {σ : Mm} (hF : Fr W_X11_freer σ0 σ) : FoI W_X11_freer σ0 (F_X11_freer_72 rc45 x1 x3 x4 x5 x7 x8 x9 σ) := by
  unfold F_X11_freer_72
  exact (hrc45 _ _ _ _ _ _ _ _ hF)
theorem fo_F_X11_freer_64 {σ0 : Mm} {rc45 : Int32 → Int32 → Int32 → Int32 → Int32 → Int32 → Int32 → Mm → Option (Int32 × Mm)} (hrc45 : ∀ a0 a1 a2 a3 a4 a5 a6 τ, Fr W_X11_freer σ0 τ → FoI W_X11_freer σ0 (rc45 a0 a1 a2 a3 a4 a5 a6 τ)) {x1 : Int32} {x3 : Int32} {x4 : Int32} {x5 : Int32} {x7 : Int32} {x8 : Int32} {x9 : Int32} {s0 : Int32} {σ : Mm} (hF : Fr W_X11_freer σ0 σ) : FoI W_X11_freer σ0 (F_X11_freer_64 rc45 x1 x3 x4 x5 x7 x8 x9 s0 σ) := by
  unfold F_X11_freer_64
  exact (fI_ite (fo_F_X11_freer_72 hrc45 hF) (fo_F_X11_freer_72 hrc45 hF))
theorem fo_B_X11_freer_45 {σ0 : Mm} {rc45 : Int32 → Int32 → Int32 → Int32 → Int32 → Int32 → Int32 → Mm → Option (Int32 × Mm)} (hrc45 : ∀ a0 a1 a2 a3 a4 a5 a6 τ, Fr W_X11_freer σ0 τ → FoI W_X11_freer σ0 (rc45 a0 a1 a2 a3 a4 a5 a6 τ)) {x1 : Int32} {x3 : Int32} {x4 : Int32} {x5 : Int32} {x7 : Int32} {x8 : Int32} {x9 : Int32} {σ : Mm} (hF : Fr W_X11_freer σ0 σ) : FoI W_X11_freer σ0 (B_X11_freer_45 rc45 x1 x3 x4 x5 x7 x8 x9 σ) := by
  unfold B_X11_freer_45
  exact (fI_ite (fI_some hF) (fI_I (Wc := W_X11_hitsIn) hF rfl (fo_F_X11_hitsIn Fr_r) (fun _ _ h1 => (fo_F_X11_freer_64 hrc45 h1))))
theorem fo_F_X11_freer_45 {σ0 : Mm} (n : Nat) : ∀ {y0 : Int32} {y1 : Int32} {y2 : Int32} {y3 : Int32} {y4 : Int32} {y5 : Int32} {y6 : Int32} {σ : Mm}, Fr W_X11_freer σ0 σ → FoI W_X11_freer σ0 (F_X11_freer_45  n y0 y1 y2 y3 y4 y5 y6 σ) := by
  induction n with
  | zero => intro y0 y1 y2 y3 y4 y5 y6 σ _; exact fI_none
  | succ n ih => intro y0 y1 y2 y3 y4 y5 y6 σ hF; exact fo_B_X11_freer_45  (fun _ _ _ _ _ _ _ _ h => ih h) hF
theorem fo_F_X11_freer_37 {σ0 : Mm} {x1 : Int32} {x3 : Int32} {x4 : Int32} {x5 : Int32} {s0 : Int32} {σ : Mm} (hF : Fr W_X11_freer σ0 σ) : FoI W_X11_freer σ0 (F_X11_freer_37 x1 x3 x4 x5 s0 σ) := by
  unfold F_X11_freer_37
  exact (fo_F_X11_freer_45  FU hF)
theorem fo_F_X11_freer_32 {σ0 : Mm} {x1 : Int32} {x3 : Int32} {x4 : Int32} {x5 : Int32} {σ : Mm} (hF : Fr W_X11_freer σ0 σ) : FoI W_X11_freer σ0 (F_X11_freer_32 x1 x3 x4 x5 σ) := by
  unfold F_X11_freer_32
  exact (fI_I (Wc := W_X11_hitsNow) hF rfl (fo_F_X11_hitsNow Fr_r) (fun _ _ h1 => (fo_F_X11_freer_37  h1)))
theorem fo_F_X11_freer {σ0 : Mm} {x1 : Int32} {x2 : Int32} {x3 : Int32} {x4 : Int32} {x5 : Int32} {x6 : Int32} {σ : Mm} (hF : Fr W_X11_freer σ0 σ) : FoI W_X11_freer σ0 (F_X11_freer x1 x2 x3 x4 x5 x6 σ) := by
  unfold F_X11_freer
  exact (fI_ite (fI_ite (fI_some hF) (fI_ite (fI_some hF) (fV_I (Wc := W_X11_lookAt) hF rfl (fo_F_X11_lookAt Fr_r) (fun _ h1 => (fo_F_X11_freer_32  h1))))) fI_none)
theorem fr_X11_freer {x1 : Int32} {x2 : Int32} {x3 : Int32} {x4 : Int32} {x5 : Int32} {x6 : Int32} {σ : Mm} : FoI W_X11_freer σ (F_X11_freer x1 x2 x3 x4 x5 x6 σ) := fo_F_X11_freer Fr_r
def W_X11_gone : List (Nat × Nat × Nat) := [(2, 0, 0), (2, 1, 999), (2, 2, 999), (2, 3, 999), (2, 4, 999), (2, 5, 999)]
theorem fo_F_X11_gone_22 {σ0 : Mm} {s0 : Int32} {σ : Mm} (hF : Fr W_X11_gone σ0 σ) : FoI W_X11_gone σ0 (F_X11_gone_22 s0 σ) := by
  unfold F_X11_gone_22
  exact (fI_some hF)
theorem fo_F_X11_gone {σ0 : Mm} {x1 : Int32} {σ : Mm} (hF : Fr W_X11_gone σ0 σ) : FoI W_X11_gone σ0 (F_X11_gone x1 σ) := by
  unfold F_X11_gone
  exact (fI_ite (fI_ite (fI_some hF) (fI_I (Wc := W_X7_note) hF rfl (fo_F_X7_note Fr_r) (fun _ _ h1 => (fo_F_X11_gone_22  h1)))) fI_none)
theorem fr_X11_gone {x1 : Int32} {σ : Mm} : FoI W_X11_gone σ (F_X11_gone x1 σ) := fo_F_X11_gone Fr_r
def W_X11_height : List (Nat × Nat × Nat) := []
theorem fo_F_X11_height_15 {σ0 : Mm} {s0 : Int32} {σ : Mm} (hF : Fr W_X11_height σ0 σ) : FoI W_X11_height σ0 (F_X11_height_15 s0 σ) := by
  unfold F_X11_height_15
  exact (fI_some hF)
theorem fo_F_X11_height {σ0 : Mm} {x1 : Int32} {σ : Mm} (hF : Fr W_X11_height σ0 σ) : FoI W_X11_height σ0 (F_X11_height x1 σ) := by
  unfold F_X11_height
  exact (fI_ite (fI_some hF) (fI_ite (fI_I (Wc := W_X9_hillOver) hF rfl (fo_F_X9_hillOver Fr_r) (fun _ _ h1 => (fo_F_X11_height_15  h1))) fI_none))
theorem fr_X11_height {x1 : Int32} {σ : Mm} : FoI W_X11_height σ (F_X11_height x1 σ) := fo_F_X11_height Fr_r
def W_X11_hit : List (Nat × Nat × Nat) := [(0, 15, 0), (0, 16, 999), (0, 17, 999), (0, 18, 999), (0, 19, 999), (0, 20, 999), (0, 21, 999), (0, 25, 0), (0, 26, 999), (0, 27, 999), (0, 28, 0), (0, 28, 1), (1, 10, 6), (1, 15, 999)]
theorem fo_F_X11_hit_125 {σ0 : Mm} {x6 : Int32} {s0 : Int32} {σ : Mm} (hF : Fr W_X11_hit σ0 σ) : FoI W_X11_hit σ0 (F_X11_hit_125 x6 s0 σ) := by
  unfold F_X11_hit_125
  exact (fI_ite (fI_some hF) (fI_some hF))
theorem fo_F_X11_hit_100 {σ0 : Mm} {x5 : Int32} {x6 : Int32} {s0 : Int32} {σ : Mm} (hF : Fr W_X11_hit σ0 σ) : FoI W_X11_hit σ0 (F_X11_hit_100 x5 x6 s0 σ) := by
  unfold F_X11_hit_100
  exact (fI_ite (fI_ite (fI_I (Wc := W_X6_struck) hF rfl (fo_F_X6_struck Fr_r) (fun _ _ h1 => (fo_F_X11_hit_125  h1))) fI_none) (fI_some hF))
theorem fo_F_X11_hit_76 {σ0 : Mm} {x2 : Int32} {s0 : Int32} {σ : Mm} (hF : Fr W_X11_hit σ0 σ) : FoI W_X11_hit σ0 (F_X11_hit_76 x2 s0 σ) := by
  unfold F_X11_hit_76
  exact (fI_ite (fI_I (Wc := W_X6_struck) hF rfl (fo_F_X6_struck Fr_r) (fun _ _ h1 => (fo_F_X11_hit_100  h1))) fI_none)
theorem fo_F_X11_hit_68 {σ0 : Mm} {x1 : Int32} {x2 : Int32} {σ : Mm} (hF : Fr W_X11_hit σ0 σ) : FoI W_X11_hit σ0 (F_X11_hit_68 x1 x2 σ) := by
  unfold F_X11_hit_68
  exact (fI_I (Wc := W_X2_bearingOf) hF rfl (fo_F_X2_bearingOf Fr_r) (fun _ _ h1 => (fo_F_X11_hit_76  h1)))
theorem fo_F_X11_hit_51 {σ0 : Mm} {x1 : Int32} {x2 : Int32} {x3 : Int32} {s0 : Int32} {σ : Mm} (hF : Fr W_X11_hit σ0 σ) : FoI W_X11_hit σ0 (F_X11_hit_51 x1 x2 x3 s0 σ) := by
  unfold F_X11_hit_51
  exact (fI_ite (fI_some hF) (fI_ite (fV_I (Wc := W_X6_watch) hF rfl (fo_F_X6_watch Fr_r) (fun _ h1 => (fo_F_X11_hit_68  h1))) fI_none))
theorem fo_F_X11_hit_43 {σ0 : Mm} {x1 : Int32} {x2 : Int32} {x3 : Int32} {σ : Mm} (hF : Fr W_X11_hit σ0 σ) : FoI W_X11_hit σ0 (F_X11_hit_43 x1 x2 x3 σ) := by
  unfold F_X11_hit_43
  exact (fI_I (Wc := W_X2_joins) hF rfl (fo_F_X2_joins Fr_r) (fun _ _ h1 => (fo_F_X11_hit_51  h1)))
theorem fo_F_X11_hit {σ0 : Mm} {x1 : Int32} {x2 : Int32} {x3 : Int32} {x4 : Int32} {σ : Mm} (hF : Fr W_X11_hit σ0 σ) : FoI W_X11_hit σ0 (F_X11_hit x1 x2 x3 x4 σ) := by
  unfold F_X11_hit
  exact (fI_ite (fI_ite (fI_some hF) (fI_ite (fI_some hF) (fI_ite (fI_some hF) (fV_I (Wc := W_X2_know) hF rfl (fo_F_X2_know Fr_r) (fun _ h1 => (fo_F_X11_hit_43  h1)))))) fI_none)
theorem fr_X11_hit {x1 : Int32} {x2 : Int32} {x3 : Int32} {x4 : Int32} {σ : Mm} : FoI W_X11_hit σ (F_X11_hit x1 x2 x3 x4 σ) := fo_F_X11_hit Fr_r
def W_X11_hitAt : List (Nat × Nat × Nat) := [(0, 15, 0), (0, 15, 8), (0, 16, 999), (0, 17, 999), (0, 18, 999), (0, 19, 999), (0, 20, 999), (0, 21, 999), (0, 22, 999), (0, 23, 999), (0, 24, 999), (0, 25, 0), (0, 26, 999), (0, 27, 999), (0, 28, 0), (0, 28, 1), (1, 10, 6), (1, 15, 999)]
theorem fo_F_X11_hitAt_84 {σ0 : Mm} {rc32 : Int32 → Int32 → Int32 → Int32 → Int32 → Mm → Option (Int32 × Mm)} (hrc32 : ∀ a0 a1 a2 a3 a4 τ, Fr W_X11_hitAt σ0 τ → FoI W_X11_hitAt σ0 (rc32 a0 a1 a2 a3 a4 τ)) {x1 : Int32} {x3 : Int32} {x5 : Int32} {x6 : Int32} {x7 : Int32} {σ : Mm} (hF : Fr W_X11_hitAt σ0 σ) : FoI W_X11_hitAt σ0 (F_X11_hitAt_84 rc32 x1 x3 x5 x6 x7 σ) := by
  unfold F_X11_hitAt_84
  exact (hrc32 _ _ _ _ _ _ hF)
theorem fo_F_X11_hitAt_60 {σ0 : Mm} {rc32 : Int32 → Int32 → Int32 → Int32 → Int32 → Mm → Option (Int32 × Mm)} (hrc32 : ∀ a0 a1 a2 a3 a4 τ, Fr W_X11_hitAt σ0 τ → FoI W_X11_hitAt σ0 (rc32 a0 a1 a2 a3 a4 τ)) {x1 : Int32} {x3 : Int32} {x5 : Int32} {x6 : Int32} {x7 : Int32} {s0 : Int32} {σ : Mm} (hF : Fr W_X11_hitAt σ0 σ) : FoI W_X11_hitAt σ0 (F_X11_hitAt_60 rc32 x1 x3 x5 x6 x7 s0 σ) := by
  unfold F_X11_hitAt_60
  exact (fI_ite (fo_F_X11_hitAt_84 hrc32 hF) (fI_ite (fI_ite (fI_some hF) fI_none) (fo_F_X11_hitAt_84 hrc32 hF)))
theorem fo_B_X11_hitAt_32 {σ0 : Mm} {rc32 : Int32 → Int32 → Int32 → Int32 → Int32 → Mm → Option (Int32 × Mm)} (hrc32 : ∀ a0 a1 a2 a3 a4 τ, Fr W_X11_hitAt σ0 τ → FoI W_X11_hitAt σ0 (rc32 a0 a1 a2 a3 a4 τ)) {x1 : Int32} {x3 : Int32} {x5 : Int32} {x6 : Int32} {x7 : Int32} {σ : Mm} (hF : Fr W_X11_hitAt σ0 σ) : FoI W_X11_hitAt σ0 (B_X11_hitAt_32 rc32 x1 x3 x5 x6 x7 σ) := by
  unfold B_X11_hitAt_32
  exact (fI_ite (fI_some hF) (fI_ite (fI_I (Wc := W_X11_strikes) hF rfl (fo_F_X11_strikes Fr_r) (fun _ _ h1 => (fo_F_X11_hitAt_60 hrc32 h1))) fI_none))
theorem fo_F_X11_hitAt_32 {σ0 : Mm} (n : Nat) : ∀ {y0 : Int32} {y1 : Int32} {y2 : Int32} {y3 : Int32} {y4 : Int32} {σ : Mm}, Fr W_X11_hitAt σ0 σ → FoI W_X11_hitAt σ0 (F_X11_hitAt_32  n y0 y1 y2 y3 y4 σ) := by
  induction n with
  | zero => intro y0 y1 y2 y3 y4 σ _; exact fI_none
  | succ n ih => intro y0 y1 y2 y3 y4 σ hF; exact fo_B_X11_hitAt_32  (fun _ _ _ _ _ _ h => ih h) hF
theorem fo_F_X11_hitAt_26 {σ0 : Mm} {x1 : Int32} {x3 : Int32} {x5 : Int32} {σ : Mm} (hF : Fr W_X11_hitAt σ0 σ) : FoI W_X11_hitAt σ0 (F_X11_hitAt_26 x1 x3 x5 σ) := by
  unfold F_X11_hitAt_26
  exact (fo_F_X11_hitAt_32  FU hF)
theorem fo_F_X11_hitAt {σ0 : Mm} {x1 : Int32} {x2 : Int32} {x3 : Int32} {x4 : Int32} {x5 : Int32} {σ : Mm} (hF : Fr W_X11_hitAt σ0 σ) : FoI W_X11_hitAt σ0 (F_X11_hitAt x1 x2 x3 x4 x5 σ) := by
  unfold F_X11_hitAt
  exact (fI_ite (fI_ite (fI_some hF) (fI_ite (fV_I (Wc := W_X11_lookAt) hF rfl (fo_F_X11_lookAt Fr_r) (fun _ h1 => (fo_F_X11_hitAt_26  h1))) (fI_some hF))) fI_none)
theorem fr_X11_hitAt {x1 : Int32} {x2 : Int32} {x3 : Int32} {x4 : Int32} {x5 : Int32} {σ : Mm} : FoI W_X11_hitAt σ (F_X11_hitAt x1 x2 x3 x4 x5 σ) := fo_F_X11_hitAt Fr_r
def W_X11_hits : List (Nat × Nat × Nat) := [(0, 15, 0), (0, 15, 8), (0, 16, 999), (0, 17, 999), (0, 18, 999), (0, 19, 999), (0, 20, 999), (0, 21, 999), (0, 22, 999), (0, 23, 999), (0, 24, 999), (0, 25, 0), (0, 26, 999), (0, 27, 999), (0, 28, 0), (0, 28, 1), (1, 10, 6), (1, 15, 999)]
theorem fo_F_X11_hits_36 {σ0 : Mm} {s0 : Int32} {σ : Mm} (hF : Fr W_X11_hits σ0 σ) : FoI W_X11_hits σ0 (F_X11_hits_36 s0 σ) := by
  unfold F_X11_hits_36
  exact (fI_some hF)
theorem fo_F_X11_hits_28 {σ0 : Mm} {x1 : Int32} {x3 : Int32} {x4 : Int32} {σ : Mm} (hF : Fr W_X11_hits σ0 σ) : FoI W_X11_hits σ0 (F_X11_hits_28 x1 x3 x4 σ) := by
  unfold F_X11_hits_28
  exact (fI_I (Wc := W_X11_hitsTurned) hF rfl (fo_F_X11_hitsTurned Fr_r) (fun _ _ h1 => (fo_F_X11_hits_36  h1)))
theorem fo_F_X11_hits {σ0 : Mm} {x1 : Int32} {x2 : Int32} {x3 : Int32} {x4 : Int32} {x5 : Int32} {σ : Mm} (hF : Fr W_X11_hits σ0 σ) : FoI W_X11_hits σ0 (F_X11_hits x1 x2 x3 x4 x5 σ) := by
  unfold F_X11_hits
  exact (fI_ite (fI_ite (fI_some hF) (fI_ite (fI_some hF) (fV_I (Wc := W_X11_lookAt) hF rfl (fo_F_X11_lookAt Fr_r) (fun _ h1 => (fo_F_X11_hits_28  h1))))) fI_none)
theorem fr_X11_hits {x1 : Int32} {x2 : Int32} {x3 : Int32} {x4 : Int32} {x5 : Int32} {σ : Mm} : FoI W_X11_hits σ (F_X11_hits x1 x2 x3 x4 x5 σ) := fo_F_X11_hits Fr_r
def W_X11_hitsOf : List (Nat × Nat × Nat) := []
theorem fo_F_X11_hitsOf_81 {σ0 : Mm} {rc5 : Int32 → Int32 → Int32 → Int32 → Mm → Option (Int32 × Mm)} (hrc5 : ∀ a0 a1 a2 a3 τ, Fr W_X11_hitsOf σ0 τ → FoI W_X11_hitsOf σ0 (rc5 a0 a1 a2 a3 τ)) {x1 : Int32} {x2 : Int32} {x3 : Int32} {x4 : Int32} {σ : Mm} (hF : Fr W_X11_hitsOf σ0 σ) : FoI W_X11_hitsOf σ0 (F_X11_hitsOf_81 rc5 x1 x2 x3 x4 σ) := by
  unfold F_X11_hitsOf_81
  exact (hrc5 _ _ _ _ _ hF)
theorem fo_F_X11_hitsOf_75 {σ0 : Mm} {rc5 : Int32 → Int32 → Int32 → Int32 → Mm → Option (Int32 × Mm)} (hrc5 : ∀ a0 a1 a2 a3 τ, Fr W_X11_hitsOf σ0 τ → FoI W_X11_hitsOf σ0 (rc5 a0 a1 a2 a3 τ)) {x1 : Int32} {x2 : Int32} {x3 : Int32} {x4 : Int32} {s0 : Int32} {σ : Mm} (hF : Fr W_X11_hitsOf σ0 σ) : FoI W_X11_hitsOf σ0 (F_X11_hitsOf_75 rc5 x1 x2 x3 x4 s0 σ) := by
  unfold F_X11_hitsOf_75
  exact (fI_ite (fo_F_X11_hitsOf_81 hrc5 hF) (fo_F_X11_hitsOf_81 hrc5 hF))
theorem fo_F_X11_hitsOf_52 {σ0 : Mm} {rc5 : Int32 → Int32 → Int32 → Int32 → Mm → Option (Int32 × Mm)} (hrc5 : ∀ a0 a1 a2 a3 τ, Fr W_X11_hitsOf σ0 τ → FoI W_X11_hitsOf σ0 (rc5 a0 a1 a2 a3 τ)) {x1 : Int32} {x2 : Int32} {x3 : Int32} {x4 : Int32} {s0 : Int32} {σ : Mm} (hF : Fr W_X11_hitsOf σ0 σ) : FoI W_X11_hitsOf σ0 (F_X11_hitsOf_52 rc5 x1 x2 x3 x4 s0 σ) := by
  unfold F_X11_hitsOf_52
  exact (fI_ite (fo_F_X11_hitsOf_81 hrc5 hF) (fI_ite (fI_I (Wc := W_X11_strikes) hF rfl (fo_F_X11_strikes Fr_r) (fun _ _ h1 => (fo_F_X11_hitsOf_75 hrc5 h1))) fI_none))
theorem fo_F_X11_hitsOf_47 {σ0 : Mm} {rc5 : Int32 → Int32 → Int32 → Int32 → Mm → Option (Int32 × Mm)} (hrc5 : ∀ a0 a1 a2 a3 τ, Fr W_X11_hitsOf σ0 τ → FoI W_X11_hitsOf σ0 (rc5 a0 a1 a2 a3 τ)) {x1 : Int32} {x2 : Int32} {x3 : Int32} {x4 : Int32} {σ : Mm} (hF : Fr W_X11_hitsOf σ0 σ) : FoI W_X11_hitsOf σ0 (F_X11_hitsOf_47 rc5 x1 x2 x3 x4 σ) := by
  unfold F_X11_hitsOf_47
  exact (fo_F_X11_hitsOf_52 hrc5 hF)
theorem fo_B_X11_hitsOf_5 {σ0 : Mm} {rc5 : Int32 → Int32 → Int32 → Int32 → Mm → Option (Int32 × Mm)} (hrc5 : ∀ a0 a1 a2 a3 τ, Fr W_X11_hitsOf σ0 τ → FoI W_X11_hitsOf σ0 (rc5 a0 a1 a2 a3 τ)) {x1 : Int32} {x2 : Int32} {x3 : Int32} {x4 : Int32} {σ : Mm} (hF : Fr W_X11_hitsOf σ0 σ) : FoI W_X11_hitsOf σ0 (B_X11_hitsOf_5 rc5 x1 x2 x3 x4 σ) := by
  unfold B_X11_hitsOf_5
  exact (fI_ite (fI_some hF) (fI_ite (fI_ite (fo_F_X11_hitsOf_47 hrc5 hF) (fI_ite (fo_F_X11_hitsOf_47 hrc5 hF) (fo_F_X11_hitsOf_52 hrc5 hF))) fI_none))
theorem fo_F_X11_hitsOf_5 {σ0 : Mm} (n : Nat) : ∀ {y0 : Int32} {y1 : Int32} {y2 : Int32} {y3 : Int32} {σ : Mm}, Fr W_X11_hitsOf σ0 σ → FoI W_X11_hitsOf σ0 (F_X11_hitsOf_5  n y0 y1 y2 y3 σ) := by
  induction n with
  | zero => intro y0 y1 y2 y3 σ _; exact fI_none
  | succ n ih => intro y0 y1 y2 y3 σ hF; exact fo_B_X11_hitsOf_5  (fun _ _ _ _ _ h => ih h) hF
theorem fo_F_X11_hitsOf {σ0 : Mm} {x1 : Int32} {x2 : Int32} {σ : Mm} (hF : Fr W_X11_hitsOf σ0 σ) : FoI W_X11_hitsOf σ0 (F_X11_hitsOf x1 x2 σ) := by
  unfold F_X11_hitsOf
  exact (fo_F_X11_hitsOf_5  FU hF)
theorem fr_X11_hitsOf {x1 : Int32} {x2 : Int32} {σ : Mm} : FoI W_X11_hitsOf σ (F_X11_hitsOf x1 x2 σ) := fo_F_X11_hitsOf Fr_r
def W_X11_life : List (Nat × Nat × Nat) := []
theorem fo_F_X11_life_68 {σ0 : Mm} {rc48 : Int32 → Int32 → Int32 → Int32 → Int32 → Int32 → Mm → Option (Int32 × Mm)} (hrc48 : ∀ a0 a1 a2 a3 a4 a5 τ, Fr W_X11_life σ0 τ → FoI W_X11_life σ0 (rc48 a0 a1 a2 a3 a4 a5 τ)) {x1 : Int32} {x2 : Int32} {x3 : Int32} {x4 : Int32} {x5 : Int32} {x6 : Int32} {σ : Mm} (hF : Fr W_X11_life σ0 σ) : FoI W_X11_life σ0 (F_X11_life_68 rc48 x1 x2 x3 x4 x5 x6 σ) := by
  unfold F_X11_life_68
  exact (hrc48 _ _ _ _ _ _ _ hF)
theorem fo_B_X11_life_48 {σ0 : Mm} {rc48 : Int32 → Int32 → Int32 → Int32 → Int32 → Int32 → Mm → Option (Int32 × Mm)} (hrc48 : ∀ a0 a1 a2 a3 a4 a5 τ, Fr W_X11_life σ0 τ → FoI W_X11_life σ0 (rc48 a0 a1 a2 a3 a4 a5 τ)) {x1 : Int32} {x2 : Int32} {x3 : Int32} {x4 : Int32} {x5 : Int32} {x6 : Int32} {σ : Mm} (hF : Fr W_X11_life σ0 σ) : FoI W_X11_life σ0 (B_X11_life_48 rc48 x1 x2 x3 x4 x5 x6 σ) := by
  unfold B_X11_life_48
  exact (fI_ite (fI_some hF) (fI_ite (fI_ite (fo_F_X11_life_68 hrc48 hF) (fo_F_X11_life_68 hrc48 hF)) fI_none))
theorem fo_F_X11_life_48 {σ0 : Mm} (n : Nat) : ∀ {y0 : Int32} {y1 : Int32} {y2 : Int32} {y3 : Int32} {y4 : Int32} {y5 : Int32} {σ : Mm}, Fr W_X11_life σ0 σ → FoI W_X11_life σ0 (F_X11_life_48  n y0 y1 y2 y3 y4 y5 σ) := by
  induction n with
  | zero => intro y0 y1 y2 y3 y4 y5 σ _; exact fI_none
  | succ n ih => intro y0 y1 y2 y3 y4 y5 σ hF; exact fo_B_X11_life_48  (fun _ _ _ _ _ _ _ h => ih h) hF
theorem fo_F_X11_life {σ0 : Mm} {x1 : Int32} {x2 : Int32} {x3 : Int32} {x4 : Int32} {σ : Mm} (hF : Fr W_X11_life σ0 σ) : FoI W_X11_life σ0 (F_X11_life x1 x2 x3 x4 σ) := by
  unfold F_X11_life
  exact (fI_ite (fI_some hF) (fI_ite (fI_some hF) (fI_ite (fI_some hF) (fI_ite (fI_some hF) (fI_ite (fI_some hF) (fI_ite (fI_some hF) (fI_ite (fo_F_X11_life_48  FU hF) (fI_some hF))))))))
theorem fr_X11_life {x1 : Int32} {x2 : Int32} {x3 : Int32} {x4 : Int32} {σ : Mm} : FoI W_X11_life σ (F_X11_life x1 x2 x3 x4 σ) := fo_F_X11_life Fr_r
def W_X11_line : List (Nat × Nat × Nat) := [(0, 15, 0), (0, 16, 999), (0, 17, 999), (0, 18, 999), (0, 19, 999), (0, 20, 999), (0, 21, 999), (0, 22, 999), (1, 10, 6), (1, 15, 999)]
theorem fo_F_X11_line_89 {σ0 : Mm} {x2 : Int32} {σ : Mm} (hF : Fr W_X11_line σ0 σ) : FoI W_X11_line σ0 (F_X11_line_89 x2 σ) := by
  unfold F_X11_line_89
  exact (fI_ite (fI_ite (fI_some hF) fI_none) (fI_ite (fI_some hF) fI_none))
theorem fo_F_X11_line_68 {σ0 : Mm} {s0 : Int32} {σ : Mm} (hF : Fr W_X11_line σ0 σ) : FoI W_X11_line σ0 (F_X11_line_68 s0 σ) := by
  unfold F_X11_line_68
  exact (fI_ite (fI_some hF) (fI_some hF))
theorem fo_F_X11_line_44 {σ0 : Mm} {x1 : Int32} {x2 : Int32} {s0 : Int32} {σ : Mm} (hF : Fr W_X11_line σ0 σ) : FoI W_X11_line σ0 (F_X11_line_44 x1 x2 s0 σ) := by
  unfold F_X11_line_44
  exact (fI_ite (fI_some hF) (fI_ite (fI_ite (fI_I (Wc := W_X2_holds) hF rfl (fo_F_X2_holds Fr_r) (fun _ _ h1 => (fo_F_X11_line_68  h1))) fI_none) (fI_ite (fV_I (Wc := W_X2_describe) hF rfl (fo_F_X2_describe Fr_r) (fun _ h2 => (fo_F_X11_line_89  h2))) fI_none)))
theorem fo_F_X11_line_36 {σ0 : Mm} {x1 : Int32} {x2 : Int32} {σ : Mm} (hF : Fr W_X11_line σ0 σ) : FoI W_X11_line σ0 (F_X11_line_36 x1 x2 σ) := by
  unfold F_X11_line_36
  exact (fI_I (Wc := W_X2_joins) hF rfl (fo_F_X2_joins Fr_r) (fun _ _ h1 => (fo_F_X11_line_44  h1)))
theorem fo_F_X11_line {σ0 : Mm} {x1 : Int32} {x2 : Int32} {x3 : Int32} {σ : Mm} (hF : Fr W_X11_line σ0 σ) : FoI W_X11_line σ0 (F_X11_line x1 x2 x3 σ) := by
  unfold F_X11_line
  exact (fI_ite (fI_ite (fI_some hF) (fI_ite (fI_some hF) (fI_ite (fV_I (Wc := W_X2_know) hF rfl (fo_F_X2_know Fr_r) (fun _ h1 => (fo_F_X11_line_36  h1))) (fI_some hF)))) fI_none)
theorem fr_X11_line {x1 : Int32} {x2 : Int32} {x3 : Int32} {σ : Mm} : FoI W_X11_line σ (F_X11_line x1 x2 x3 σ) := fo_F_X11_line Fr_r
def W_X2_joinedInAll : List (Nat × Nat × Nat) := []
theorem fo_F_X2_joinedInAll_22 {σ0 : Mm} {rc4 : Int32 → Int32 → Mm → Option (Int32 × Mm)} (hrc4 : ∀ a0 a1 τ, Fr W_X2_joinedInAll σ0 τ → FoI W_X2_joinedInAll σ0 (rc4 a0 a1 τ)) {x1 : Int32} {x2 : Int32} {σ : Mm} (hF : Fr W_X2_joinedInAll σ0 σ) : FoI W_X2_joinedInAll σ0 (F_X2_joinedInAll_22 rc4 x1 x2 σ) := by
  unfold F_X2_joinedInAll_22
  exact (hrc4 _ _ _ hF)
theorem fo_F_X2_joinedInAll_16 {σ0 : Mm} {rc4 : Int32 → Int32 → Mm → Option (Int32 × Mm)} (hrc4 : ∀ a0 a1 τ, Fr W_X2_joinedInAll σ0 τ → FoI W_X2_joinedInAll σ0 (rc4 a0 a1 τ)) {x1 : Int32} {x2 : Int32} {s0 : Int32} {σ : Mm} (hF : Fr W_X2_joinedInAll σ0 σ) : FoI W_X2_joinedInAll σ0 (F_X2_joinedInAll_16 rc4 x1 x2 s0 σ) := by
  unfold F_X2_joinedInAll_16
  exact (fI_ite (fo_F_X2_joinedInAll_22 hrc4 hF) (fo_F_X2_joinedInAll_22 hrc4 hF))
theorem fo_B_X2_joinedInAll_4 {σ0 : Mm} {rc4 : Int32 → Int32 → Mm → Option (Int32 × Mm)} (hrc4 : ∀ a0 a1 τ, Fr W_X2_joinedInAll σ0 τ → FoI W_X2_joinedInAll σ0 (rc4 a0 a1 τ)) {x1 : Int32} {x2 : Int32} {σ : Mm} (hF : Fr W_X2_joinedInAll σ0 σ) : FoI W_X2_joinedInAll σ0 (B_X2_joinedInAll_4 rc4 x1 x2 σ) := by
  unfold B_X2_joinedInAll_4
  exact (fI_ite (fI_some hF) (fI_I (Wc := W_X2_joins) hF rfl (fo_F_X2_joins Fr_r) (fun _ _ h1 => (fo_F_X2_joinedInAll_16 hrc4 h1))))
theorem fo_F_X2_joinedInAll_4 {σ0 : Mm} (n : Nat) : ∀ {y0 : Int32} {y1 : Int32} {σ : Mm}, Fr W_X2_joinedInAll σ0 σ → FoI W_X2_joinedInAll σ0 (F_X2_joinedInAll_4  n y0 y1 σ) := by
  induction n with
  | zero => intro y0 y1 σ _; exact fI_none
  | succ n ih => intro y0 y1 σ hF; exact fo_B_X2_joinedInAll_4  (fun _ _ _ h => ih h) hF
theorem fo_F_X2_joinedInAll {σ0 : Mm} {σ : Mm} (hF : Fr W_X2_joinedInAll σ0 σ) : FoI W_X2_joinedInAll σ0 (F_X2_joinedInAll σ) := by
  unfold F_X2_joinedInAll
  exact (fo_F_X2_joinedInAll_4  FU hF)
theorem fr_X2_joinedInAll {σ : Mm} : FoI W_X2_joinedInAll σ (F_X2_joinedInAll σ) := fo_F_X2_joinedInAll Fr_r
def W_X11_lines : List (Nat × Nat × Nat) := [(0, 15, 0), (0, 15, 8), (0, 16, 999), (0, 17, 999), (0, 18, 999), (0, 19, 999), (0, 20, 999), (0, 21, 999), (0, 22, 999), (0, 23, 999), (0, 24, 999), (1, 10, 6), (1, 15, 999)]
theorem fo_F_X11_lines_50 {σ0 : Mm} {σ : Mm} (hF : Fr W_X11_lines σ0 σ) : FoI W_X11_lines σ0 (F_X11_lines_50 σ) := by
  unfold F_X11_lines_50
  exact (fI_some hF)
theorem fo_F_X11_lines_37 {σ0 : Mm} {s0 : Int32} {σ : Mm} (hF : Fr W_X11_lines σ0 σ) : FoI W_X11_lines σ0 (F_X11_lines_37 s0 σ) := by
  unfold F_X11_lines_37
  exact (fI_some hF)
theorem fo_F_X11_lines_26 {σ0 : Mm} {x1 : Int32} {σ : Mm} (hF : Fr W_X11_lines σ0 σ) : FoI W_X11_lines σ0 (F_X11_lines_26 x1 σ) := by
  unfold F_X11_lines_26
  exact (fI_ite (fI_I (Wc := W_X2_joinedInAll) hF rfl (fo_F_X2_joinedInAll Fr_r) (fun _ _ h1 => (fo_F_X11_lines_37  h1))) (fI_ite (fV_I (Wc := W_X2_choose) hF rfl (fo_F_X2_choose Fr_r) (fun _ h2 => (fo_F_X11_lines_50  h2))) fI_none))
theorem fo_F_X11_lines {σ0 : Mm} {x1 : Int32} {x2 : Int32} {σ : Mm} (hF : Fr W_X11_lines σ0 σ) : FoI W_X11_lines σ0 (F_X11_lines x1 x2 σ) := by
  unfold F_X11_lines
  exact (fI_ite (fI_ite (fI_some hF) (fV_I (Wc := W_X2_know) hF rfl (fo_F_X2_know Fr_r) (fun _ h1 => (fo_F_X11_lines_26  h1)))) fI_none)
theorem fr_X11_lines {x1 : Int32} {x2 : Int32} {σ : Mm} : FoI W_X11_lines σ (F_X11_lines x1 x2 σ) := fo_F_X11_lines Fr_r
def W_X3_lot : List (Nat × Nat × Nat) := []
theorem fo_F_X3_lot {σ0 : Mm} {x0 : Int32} {x1 : Int32} {x2 : Int32} {σ : Mm} (hF : Fr W_X3_lot σ0 σ) : FoI W_X3_lot σ0 (F_X3_lot x0 x1 x2 σ) := by
  unfold F_X3_lot
  exact (fI_ite (fI_ite (fI_some hF) fI_none) (fI_some hF))
theorem fr_X3_lot {x0 : Int32} {x1 : Int32} {x2 : Int32} {σ : Mm} : FoI W_X3_lot σ (F_X3_lot x0 x1 x2 σ) := fo_F_X3_lot Fr_r
def W_X3_make : List (Nat × Nat × Nat) := [(0, 41, 999), (0, 42, 999)]
theorem fo_F_X3_make_200 {σ0 : Mm} {rc3 : Int32 → Int32 → Int32 → Int32 → Mm → Option (Mm)} (hrc3 : ∀ a0 a1 a2 a3 τ, Fr W_X3_make σ0 τ → FoV W_X3_make σ0 (rc3 a0 a1 a2 a3 τ)) {x1 : Int32} {x2 : Int32} {x3 : Int32} {x5 : Int32} {σ : Mm} (hF : Fr W_X3_make σ0 σ) : FoV W_X3_make σ0 (F_X3_make_200 rc3 x1 x2 x3 x5 σ) := by
  unfold F_X3_make_200
  exact (hrc3 _ _ _ _ _ hF)
theorem fo_F_X3_make_171 {σ0 : Mm} {rc3 : Int32 → Int32 → Int32 → Int32 → Mm → Option (Mm)} (hrc3 : ∀ a0 a1 a2 a3 τ, Fr W_X3_make σ0 τ → FoV W_X3_make σ0 (rc3 a0 a1 a2 a3 τ)) {x1 : Int32} {x2 : Int32} {x3 : Int32} {x5 : Int32} {x6 : Int32} {x7 : Int32} {σ : Mm} (hF : Fr W_X3_make σ0 σ) : FoV W_X3_make σ0 (F_X3_make_171 rc3 x1 x2 x3 x5 x6 x7 σ) := by
  unfold F_X3_make_171
  exact (fV_ite (fV_ite (fo_F_X3_make_200 hrc3 (Fr.AA hF rfl)) fV_none) fV_none)
theorem fo_F_X3_make_142 {σ0 : Mm} {rc3 : Int32 → Int32 → Int32 → Int32 → Mm → Option (Mm)} (hrc3 : ∀ a0 a1 a2 a3 τ, Fr W_X3_make σ0 τ → FoV W_X3_make σ0 (rc3 a0 a1 a2 a3 τ)) {x1 : Int32} {x2 : Int32} {x3 : Int32} {x5 : Int32} {x6 : Int32} {x7 : Int32} {σ : Mm} (hF : Fr W_X3_make σ0 σ) : FoV W_X3_make σ0 (F_X3_make_142 rc3 x1 x2 x3 x5 x6 x7 σ) := by
  unfold F_X3_make_142
  exact (fV_ite (fV_ite (fo_F_X3_make_171 hrc3 (Fr.AA hF rfl)) fV_none) fV_none)
theorem fo_F_X3_make_140 {σ0 : Mm} {rc3 : Int32 → Int32 → Int32 → Int32 → Mm → Option (Mm)} (hrc3 : ∀ a0 a1 a2 a3 τ, Fr W_X3_make σ0 τ → FoV W_X3_make σ0 (rc3 a0 a1 a2 a3 τ)) {x1 : Int32} {x2 : Int32} {x3 : Int32} {x5 : Int32} {x6 : Int32} {x7 : Int32} {s0 : Int32} {s1 : Int32} {s2 : Int32} {σ : Mm} (hF : Fr W_X3_make σ0 σ) : FoV W_X3_make σ0 (F_X3_make_140 rc3 x1 x2 x3 x5 x6 x7 s0 s1 s2 σ) := by
  unfold F_X3_make_140
  exact (fV_ite (fo_F_X3_make_142 hrc3 (Fr.AA hF rfl)) fV_none)
theorem fo_F_X3_make_115 {σ0 : Mm} {rc3 : Int32 → Int32 → Int32 → Int32 → Mm → Option (Mm)} (hrc3 : ∀ a0 a1 a2 a3 τ, Fr W_X3_make σ0 τ → FoV W_X3_make σ0 (rc3 a0 a1 a2 a3 τ)) {x1 : Int32} {x2 : Int32} {x3 : Int32} {x5 : Int32} {x6 : Int32} {x7 : Int32} {σ : Mm} (hF : Fr W_X3_make σ0 σ) : FoV W_X3_make σ0 (F_X3_make_115 rc3 x1 x2 x3 x5 x6 x7 σ) := by
  unfold F_X3_make_115
  exact (fI_V (Wc := W_X3_lot) hF rfl (fo_F_X3_lot Fr_r) (fun _ _ h1 => (fo_F_X3_make_140 hrc3 h1)))
theorem fo_F_X3_make_113 {σ0 : Mm} {rc3 : Int32 → Int32 → Int32 → Int32 → Mm → Option (Mm)} (hrc3 : ∀ a0 a1 a2 a3 τ, Fr W_X3_make σ0 τ → FoV W_X3_make σ0 (rc3 a0 a1 a2 a3 τ)) {x1 : Int32} {x2 : Int32} {x3 : Int32} {x5 : Int32} {x6 : Int32} {x7 : Int32} {s0 : Int32} {s1 : Int32} {s2 : Int32} {σ : Mm} (hF : Fr W_X3_make σ0 σ) : FoV W_X3_make σ0 (F_X3_make_113 rc3 x1 x2 x3 x5 x6 x7 s0 s1 s2 σ) := by
  unfold F_X3_make_113
  exact (fV_ite (fo_F_X3_make_115 hrc3 (Fr.AA hF rfl)) fV_none)
theorem fo_F_X3_make_87 {σ0 : Mm} {rc3 : Int32 → Int32 → Int32 → Int32 → Mm → Option (Mm)} (hrc3 : ∀ a0 a1 a2 a3 τ, Fr W_X3_make σ0 τ → FoV W_X3_make σ0 (rc3 a0 a1 a2 a3 τ)) {x1 : Int32} {x2 : Int32} {x3 : Int32} {x5 : Int32} {x6 : Int32} {s0 : Int32} {s1 : Int32} {σ : Mm} (hF : Fr W_X3_make σ0 σ) : FoV W_X3_make σ0 (F_X3_make_87 rc3 x1 x2 x3 x5 x6 s0 s1 σ) := by
  unfold F_X3_make_87
  exact (fI_V (Wc := W_X3_lot) hF rfl (fo_F_X3_lot Fr_r) (fun _ _ h1 => (fo_F_X3_make_113 hrc3 h1)))
theorem fo_F_X3_make_74 {σ0 : Mm} {rc3 : Int32 → Int32 → Int32 → Int32 → Mm → Option (Mm)} (hrc3 : ∀ a0 a1 a2 a3 τ, Fr W_X3_make σ0 τ → FoV W_X3_make σ0 (rc3 a0 a1 a2 a3 τ)) {x1 : Int32} {x2 : Int32} {x3 : Int32} {x5 : Int32} {x6 : Int32} {σ : Mm} (hF : Fr W_X3_make σ0 σ) : FoV W_X3_make σ0 (F_X3_make_74 rc3 x1 x2 x3 x5 x6 σ) := by
  unfold F_X3_make_74
  exact (fI_V (Wc := W_X3_lot) hF rfl (fo_F_X3_lot Fr_r) (fun _ _ h1 => (fo_F_X3_make_87 hrc3 h1)))
theorem fo_F_X3_make_71 {σ0 : Mm} {rc3 : Int32 → Int32 → Int32 → Int32 → Mm → Option (Mm)} (hrc3 : ∀ a0 a1 a2 a3 τ, Fr W_X3_make σ0 τ → FoV W_X3_make σ0 (rc3 a0 a1 a2 a3 τ)) {x1 : Int32} {x2 : Int32} {x3 : Int32} {x5 : Int32} {s0 : Int32} {σ : Mm} (hF : Fr W_X3_make σ0 σ) : FoV W_X3_make σ0 (F_X3_make_71 rc3 x1 x2 x3 x5 s0 σ) := by
  unfold F_X3_make_71
  exact (fV_ite (fo_F_X3_make_74 hrc3 hF) fV_none)
theorem fo_F_X3_make_34 {σ0 : Mm} {rc3 : Int32 → Int32 → Int32 → Int32 → Mm → Option (Mm)} (hrc3 : ∀ a0 a1 a2 a3 τ, Fr W_X3_make σ0 τ → FoV W_X3_make σ0 (rc3 a0 a1 a2 a3 τ)) {x1 : Int32} {x2 : Int32} {x3 : Int32} {x5 : Int32} {s0 : Int32} {σ : Mm} (hF : Fr W_X3_make σ0 σ) : FoV W_X3_make σ0 (F_X3_make_34 rc3 x1 x2 x3 x5 s0 σ) := by
  unfold F_X3_make_34
  exact (fV_ite (fo_F_X3_make_74 hrc3 hF) (fV_ite (fo_F_X3_make_74 hrc3 hF) (fI_V (Wc := W_X3_lot) hF rfl (fo_F_X3_lot Fr_r) (fun _ _ h1 => (fo_F_X3_make_71 hrc3 h1)))))
theorem fo_B_X3_make_3 {σ0 : Mm} {rc3 : Int32 → Int32 → Int32 → Int32 → Mm → Option (Mm)} (hrc3 : ∀ a0 a1 a2 a3 τ, Fr W_X3_make σ0 τ → FoV W_X3_make σ0 (rc3 a0 a1 a2 a3 τ)) {x1 : Int32} {x2 : Int32} {x3 : Int32} {x5 : Int32} {σ : Mm} (hF : Fr W_X3_make σ0 σ) : FoV W_X3_make σ0 (B_X3_make_3 rc3 x1 x2 x3 x5 σ) := by
  unfold B_X3_make_3
  exact (fV_ite (fV_some hF) (fV_ite (fV_some hF) (fI_V (Wc := W_X3_lot) hF rfl (fo_F_X3_lot Fr_r) (fun _ _ h1 => (fo_F_X3_make_34 hrc3 h1)))))
theorem fo_F_X3_make_3 {σ0 : Mm} (n : Nat) : ∀ {y0 : Int32} {y1 : Int32} {y2 : Int32} {y3 : Int32} {σ : Mm}, Fr W_X3_make σ0 σ → FoV W_X3_make σ0 (F_X3_make_3  n y0 y1 y2 y3 σ) := by
  induction n with
  | zero => intro y0 y1 y2 y3 σ _; exact fV_none
  | succ n ih => intro y0 y1 y2 y3 σ hF; exact fo_B_X3_make_3  (fun _ _ _ _ _ h => ih h) hF
theorem fo_F_X3_make {σ0 : Mm} {x1 : Int32} {x2 : Int32} {x3 : Int32} {σ : Mm} (hF : Fr W_X3_make σ0 σ) : FoV W_X3_make σ0 (F_X3_make x1 x2 x3 σ) := by
  unfold F_X3_make
  exact (fo_F_X3_make_3  FU hF)
theorem fr_X3_make {x1 : Int32} {x2 : Int32} {x3 : Int32} {σ : Mm} : FoV W_X3_make σ (F_X3_make x1 x2 x3 σ) := fo_F_X3_make Fr_r
def W_X3_strikes : List (Nat × Nat × Nat) := []
theorem fo_F_X3_strikes_95 {σ0 : Mm} {rc5 : Int32 → Int32 → Int32 → Mm → Option (Int32 × Mm)} (hrc5 : ∀ a0 a1 a2 τ, Fr W_X3_strikes σ0 τ → FoI W_X3_strikes σ0 (rc5 a0 a1 a2 τ)) {x1 : Int32} {x3 : Int32} {x4 : Int32} {σ : Mm} (hF : Fr W_X3_strikes σ0 σ) : FoI W_X3_strikes σ0 (F_X3_strikes_95 rc5 x1 x3 x4 σ) := by
  unfold F_X3_strikes_95
  exact (hrc5 _ _ _ _ hF)
theorem fo_F_X3_strikes_89 {σ0 : Mm} {rc5 : Int32 → Int32 → Int32 → Mm → Option (Int32 × Mm)} (hrc5 : ∀ a0 a1 a2 τ, Fr W_X3_strikes σ0 τ → FoI W_X3_strikes σ0 (rc5 a0 a1 a2 τ)) {rc23 : Int32 → Int32 → Int32 → Int32 → Mm → Option (Int32 × Mm)} (hrc23 : ∀ a0 a1 a2 a3 τ, Fr W_X3_strikes σ0 τ → FoI W_X3_strikes σ0 (rc23 a0 a1 a2 a3 τ)) {x1 : Int32} {x3 : Int32} {x4 : Int32} {x5 : Int32} {σ : Mm} (hF : Fr W_X3_strikes σ0 σ) : FoI W_X3_strikes σ0 (F_X3_strikes_89 rc5 rc23 x1 x3 x4 x5 σ) := by
  unfold F_X3_strikes_89
  exact (hrc23 _ _ _ _ _ hF)
theorem fo_F_X3_strikes_71 {σ0 : Mm} {rc5 : Int32 → Int32 → Int32 → Mm → Option (Int32 × Mm)} (hrc5 : ∀ a0 a1 a2 τ, Fr W_X3_strikes σ0 τ → FoI W_X3_strikes σ0 (rc5 a0 a1 a2 τ)) {rc23 : Int32 → Int32 → Int32 → Int32 → Mm → Option (Int32 × Mm)} (hrc23 : ∀ a0 a1 a2 a3 τ, Fr W_X3_strikes σ0 τ → FoI W_X3_strikes σ0 (rc23 a0 a1 a2 a3 τ)) {x1 : Int32} {x3 : Int32} {x4 : Int32} {x5 : Int32} {s0 : Int32} {σ : Mm} (hF : Fr W_X3_strikes σ0 σ) : FoI W_X3_strikes σ0 (F_X3_strikes_71 rc5 rc23 x1 x3 x4 x5 s0 σ) := by
  unfold F_X3_strikes_71
  exact (fI_ite (fo_F_X3_strikes_89 hrc5 hrc23 hF) (fI_ite (fI_ite (fo_F_X3_strikes_89 hrc5 hrc23 hF) (fo_F_X3_strikes_89 hrc5 hrc23 hF)) fI_none))
theorem fo_B_X3_strikes_23 {σ0 : Mm} {rc5 : Int32 → Int32 → Int32 → Mm → Option (Int32 × Mm)} (hrc5 : ∀ a0 a1 a2 τ, Fr W_X3_strikes σ0 τ → FoI W_X3_strikes σ0 (rc5 a0 a1 a2 τ)) {rc23 : Int32 → Int32 → Int32 → Int32 → Mm → Option (Int32 × Mm)} (hrc23 : ∀ a0 a1 a2 a3 τ, Fr W_X3_strikes σ0 τ → FoI W_X3_strikes σ0 (rc23 a0 a1 a2 a3 τ)) {x1 : Int32} {x3 : Int32} {x4 : Int32} {x5 : Int32} {σ : Mm} (hF : Fr W_X3_strikes σ0 σ) : FoI W_X3_strikes σ0 (B_X3_strikes_23 rc5 rc23 x1 x3 x4 x5 σ) := by
  unfold B_X3_strikes_23
  exact (fI_ite (fo_F_X3_strikes_95 hrc5 hF) (fI_ite (fo_F_X3_strikes_95 hrc5 hF) (fI_ite (fI_ite (fI_ite (fI_ite (fI_I (Wc := W_X1_bearing) hF rfl (fo_F_X1_bearing Fr_r) (fun _ _ h1 => (fo_F_X3_strikes_71 hrc5 hrc23 h1))) fI_none) fI_none) fI_none) fI_none)))
theorem fo_F_X3_strikes_23 {σ0 : Mm} {rc5 : Int32 → Int32 → Int32 → Mm → Option (Int32 × Mm)} (hrc5 : ∀ a0 a1 a2 τ, Fr W_X3_strikes σ0 τ → FoI W_X3_strikes σ0 (rc5 a0 a1 a2 τ)) (n : Nat) : ∀ {y0 : Int32} {y1 : Int32} {y2 : Int32} {y3 : Int32} {σ : Mm}, Fr W_X3_strikes σ0 σ → FoI W_X3_strikes σ0 (F_X3_strikes_23 rc5 n y0 y1 y2 y3 σ) := by
  induction n with
  | zero => intro y0 y1 y2 y3 σ _; exact fI_none
  | succ n ih => intro y0 y1 y2 y3 σ hF; exact fo_B_X3_strikes_23 hrc5 (fun _ _ _ _ _ h => ih h) hF
theorem fo_B_X3_strikes_5 {σ0 : Mm} {rc5 : Int32 → Int32 → Int32 → Mm → Option (Int32 × Mm)} (hrc5 : ∀ a0 a1 a2 τ, Fr W_X3_strikes σ0 τ → FoI W_X3_strikes σ0 (rc5 a0 a1 a2 τ)) {x1 : Int32} {x3 : Int32} {x4 : Int32} {σ : Mm} (hF : Fr W_X3_strikes σ0 σ) : FoI W_X3_strikes σ0 (B_X3_strikes_5 rc5 x1 x3 x4 σ) := by
  unfold B_X3_strikes_5
  exact (fI_ite (fI_some hF) (fI_ite (fI_some hF) (fo_F_X3_strikes_23 hrc5 FU hF)))
theorem fo_F_X3_strikes_5 {σ0 : Mm} (n : Nat) : ∀ {y0 : Int32} {y1 : Int32} {y2 : Int32} {σ : Mm}, Fr W_X3_strikes σ0 σ → FoI W_X3_strikes σ0 (F_X3_strikes_5  n y0 y1 y2 σ) := by
  induction n with
  | zero => intro y0 y1 y2 σ _; exact fI_none
  | succ n ih => intro y0 y1 y2 σ hF; exact fo_B_X3_strikes_5  (fun _ _ _ _ h => ih h) hF
theorem fo_F_X3_strikes {σ0 : Mm} {x1 : Int32} {σ : Mm} (hF : Fr W_X3_strikes σ0 σ) : FoI W_X3_strikes σ0 (F_X3_strikes x1 σ) := by
  unfold F_X3_strikes
  exact (fo_F_X3_strikes_5  FU hF)
theorem fr_X3_strikes {x1 : Int32} {σ : Mm} : FoI W_X3_strikes σ (F_X3_strikes x1 σ) := fo_F_X3_strikes Fr_r
def W_X11_made : List (Nat × Nat × Nat) := [(0, 25, 0), (0, 26, 999), (0, 27, 999), (0, 28, 0), (0, 28, 1), (0, 31, 999), (0, 41, 999), (0, 42, 999), (1, 10, 6), (1, 15, 999)]
theorem fo_F_X11_made_69 {σ0 : Mm} {s0 : Int32} {σ : Mm} (hF : Fr W_X11_made σ0 σ) : FoI W_X11_made σ0 (F_X11_made_69 s0 σ) := by
  unfold F_X11_made_69
  exact (fI_some hF)
theorem fo_F_X11_made_54 {σ0 : Mm} {x2 : Int32} {σ : Mm} (hF : Fr W_X11_made σ0 σ) : FoI W_X11_made σ0 (F_X11_made_54 x2 σ) := by
  unfold F_X11_made_54
  exact (fI_I (Wc := W_X3_strikes) hF rfl (fo_F_X3_strikes Fr_r) (fun _ _ h1 => (fo_F_X11_made_69  h1)))
theorem fo_F_X11_made_40 {σ0 : Mm} {x1 : Int32} {x2 : Int32} {x3 : Int32} {σ : Mm} (hF : Fr W_X11_made σ0 σ) : FoI W_X11_made σ0 (F_X11_made_40 x1 x2 x3 σ) := by
  unfold F_X11_made_40
  exact (fV_I (Wc := W_X3_make) hF rfl (fo_F_X3_make Fr_r) (fun _ h1 => (fo_F_X11_made_54  h1)))
theorem fo_F_X11_made_22 {σ0 : Mm} {x1 : Int32} {x2 : Int32} {x3 : Int32} {σ : Mm} (hF : Fr W_X11_made σ0 σ) : FoI W_X11_made σ0 (F_X11_made_22 x1 x2 x3 σ) := by
  unfold F_X11_made_22
  exact (fI_ite (fV_I (Wc := W_X10_cover) hF rfl (fo_F_X10_cover Fr_r) (fun _ h1 => (fo_F_X11_made_40  h1))) fI_none)
theorem fo_F_X11_made {σ0 : Mm} {x1 : Int32} {x2 : Int32} {x3 : Int32} {σ : Mm} (hF : Fr W_X11_made σ0 σ) : FoI W_X11_made σ0 (F_X11_made x1 x2 x3 σ) := by
  unfold F_X11_made
  exact (fI_ite (fI_some hF) (fI_ite (fV_I (Wc := W_X6_watch) hF rfl (fo_F_X6_watch Fr_r) (fun _ h1 => (fo_F_X11_made_22  h1))) fI_none))
theorem fr_X11_made {x1 : Int32} {x2 : Int32} {x3 : Int32} {σ : Mm} : FoI W_X11_made σ (F_X11_made x1 x2 x3 σ) := fo_F_X11_made Fr_r
def W_X11_madeAt : List (Nat × Nat × Nat) := [(0, 25, 0), (0, 26, 999), (0, 27, 999), (0, 28, 0), (0, 28, 1), (0, 41, 999), (0, 42, 999), (1, 10, 6), (1, 15, 999)]
theorem fo_F_X11_madeAt_62 {σ0 : Mm} {x4 : Int32} {x5 : Int32} {σ : Mm} (hF : Fr W_X11_madeAt σ0 σ) : FoI W_X11_madeAt σ0 (F_X11_madeAt_62 x4 x5 σ) := by
  unfold F_X11_madeAt_62
  exact (fI_ite (fI_ite (fI_some hF) fI_none) (fI_ite (fI_some hF) fI_none))
theorem fo_F_X11_madeAt_48 {σ0 : Mm} {x1 : Int32} {x2 : Int32} {x3 : Int32} {x4 : Int32} {x5 : Int32} {σ : Mm} (hF : Fr W_X11_madeAt σ0 σ) : FoI W_X11_madeAt σ0 (F_X11_madeAt_48 x1 x2 x3 x4 x5 σ) := by
  unfold F_X11_madeAt_48
  exact (fV_I (Wc := W_X3_make) hF rfl (fo_F_X3_make Fr_r) (fun _ h1 => (fo_F_X11_madeAt_62  h1)))
theorem fo_F_X11_madeAt {σ0 : Mm} {x1 : Int32} {x2 : Int32} {x3 : Int32} {x4 : Int32} {x5 : Int32} {σ : Mm} (hF : Fr W_X11_madeAt σ0 σ) : FoI W_X11_madeAt σ0 (F_X11_madeAt x1 x2 x3 x4 x5 σ) := by
  unfold F_X11_madeAt
  exact (fI_ite (fI_some hF) (fI_ite (fI_some hF) (fI_ite (fI_some hF) (fI_ite (fI_some hF) (fI_ite (fI_ite (fV_I (Wc := W_X6_watch) hF rfl (fo_F_X6_watch Fr_r) (fun _ h1 => (fo_F_X11_madeAt_48  h1))) fI_none) (fI_some hF))))))
theorem fr_X11_madeAt {x1 : Int32} {x2 : Int32} {x3 : Int32} {x4 : Int32} {x5 : Int32} {σ : Mm} : FoI W_X11_madeAt σ (F_X11_madeAt x1 x2 x3 x4 x5 σ) := fo_F_X11_madeAt Fr_r
def W_X11_many : List (Nat × Nat × Nat) := [(0, 15, 0), (0, 15, 8), (0, 16, 999), (0, 17, 999), (0, 18, 999), (0, 19, 999), (0, 20, 999), (0, 21, 999), (0, 22, 999), (0, 23, 999), (0, 24, 999), (0, 25, 0), (0, 26, 999), (0, 27, 999), (0, 28, 0), (0, 28, 1), (0, 29, 5), (0, 30, 999), (0, 31, 999), (0, 32, 999), (0, 35, 999), (0, 36, 999), (1, 10, 6), (1, 15, 999)]
theorem fo_F_X11_many_27 {σ0 : Mm} {s0 : Int32} {σ : Mm} (hF : Fr W_X11_many σ0 σ) : FoI W_X11_many σ0 (F_X11_many_27 s0 σ) := by
  unfold F_X11_many_27
  exact (fI_some hF)
theorem fo_F_X11_many_20 {σ0 : Mm} {σ : Mm} (hF : Fr W_X11_many σ0 σ) : FoI W_X11_many σ0 (F_X11_many_20 σ) := by
  unfold F_X11_many_20
  exact (fI_I (Wc := W_X10_asManyAsUnturned) hF rfl (fo_F_X10_asManyAsUnturned Fr_r) (fun _ _ h1 => (fo_F_X11_many_27  h1)))
theorem fo_F_X11_many {σ0 : Mm} {x1 : Int32} {x2 : Int32} {x3 : Int32} {σ : Mm} (hF : Fr W_X11_many σ0 σ) : FoI W_X11_many σ0 (F_X11_many x1 x2 x3 σ) := by
  unfold F_X11_many
  exact (fI_ite (fI_ite (fI_some hF) (fV_I (Wc := W_X11_turnAll) hF rfl (fo_F_X11_turnAll Fr_r) (fun _ h1 => (fo_F_X11_many_20  h1)))) fI_none)
theorem fr_X11_many {x1 : Int32} {x2 : Int32} {x3 : Int32} {σ : Mm} : FoI W_X11_many σ (F_X11_many x1 x2 x3 σ) := fo_F_X11_many Fr_r
def W_X11_move : List (Nat × Nat × Nat) := [(2, 0, 0), (2, 1, 999), (2, 2, 999), (2, 3, 999), (2, 4, 999), (2, 5, 999)]
theorem fo_F_X11_move_30 {σ0 : Mm} {s0 : Int32} {σ : Mm} (hF : Fr W_X11_move σ0 σ) : FoI W_X11_move σ0 (F_X11_move_30 s0 σ) := by
  unfold F_X11_move_30
  exact (fI_some hF)
theorem fo_F_X11_move {σ0 : Mm} {x1 : Int32} {x2 : Int32} {x3 : Int32} {σ : Mm} (hF : Fr W_X11_move σ0 σ) : FoI W_X11_move σ0 (F_X11_move x1 x2 x3 σ) := by
  unfold F_X11_move
  exact (fI_ite (fI_ite (fI_some hF) (fI_ite (fI_some hF) (fI_I (Wc := W_X7_note) hF rfl (fo_F_X7_note Fr_r) (fun _ _ h1 => (fo_F_X11_move_30  h1))))) fI_none)
theorem fr_X11_move {x1 : Int32} {x2 : Int32} {x3 : Int32} {σ : Mm} : FoI W_X11_move σ (F_X11_move x1 x2 x3 σ) := fo_F_X11_move Fr_r
def W_X11_next : List (Nat × Nat × Nat) := [(0, 15, 0), (0, 15, 8), (0, 16, 999), (0, 17, 999), (0, 18, 999), (0, 19, 999), (0, 20, 999), (0, 21, 999), (0, 22, 999), (0, 23, 999), (0, 24, 999), (0, 25, 0), (0, 26, 999), (0, 27, 999), (0, 28, 0), (0, 28, 1), (1, 10, 6), (1, 15, 999)]
theorem fo_F_X11_next_78 {σ0 : Mm} {rc29 : Int32 → Int32 → Int32 → Int32 → Mm → Option (Int32 × Mm)} (hrc29 : ∀ a0 a1 a2 a3 τ, Fr W_X11_next σ0 τ → FoI W_X11_next σ0 (rc29 a0 a1 a2 a3 τ)) {x1 : Int32} {x4 : Int32} {x5 : Int32} {x6 : Int32} {σ : Mm} (hF : Fr W_X11_next σ0 σ) : FoI W_X11_next σ0 (F_X11_next_78 rc29 x1 x4 x5 x6 σ) := by
  unfold F_X11_next_78
  exact (hrc29 _ _ _ _ _ hF)
theorem fo_F_X11_next_61 {σ0 : Mm} {rc29 : Int32 → Int32 → Int32 → Int32 → Mm → Option (Int32 × Mm)} (hrc29 : ∀ a0 a1 a2 a3 τ, Fr W_X11_next σ0 τ → FoI W_X11_next σ0 (rc29 a0 a1 a2 a3 τ)) {x1 : Int32} {x4 : Int32} {x5 : Int32} {x6 : Int32} {s0 : Int32} {σ : Mm} (hF : Fr W_X11_next σ0 σ) : FoI W_X11_next σ0 (F_X11_next_61 rc29 x1 x4 x5 x6 s0 σ) := by
  unfold F_X11_next_61
  exact (fI_ite (fo_F_X11_next_78 hrc29 hF) (fo_F_X11_next_78 hrc29 hF))
theorem fo_B_X11_next_29 {σ0 : Mm} {rc29 : Int32 → Int32 → Int32 → Int32 → Mm → Option (Int32 × Mm)} (hrc29 : ∀ a0 a1 a2 a3 τ, Fr W_X11_next σ0 τ → FoI W_X11_next σ0 (rc29 a0 a1 a2 a3 τ)) {x1 : Int32} {x4 : Int32} {x5 : Int32} {x6 : Int32} {σ : Mm} (hF : Fr W_X11_next σ0 σ) : FoI W_X11_next σ0 (B_X11_next_29 rc29 x1 x4 x5 x6 σ) := by
  unfold B_X11_next_29
  exact (fI_ite (fI_some hF) (fI_ite (fI_ite (fI_I (Wc := W_X11_hitsOf) hF rfl (fo_F_X11_hitsOf Fr_r) (fun _ _ h1 => (fo_F_X11_next_61 hrc29 h1))) (fo_F_X11_next_78 hrc29 hF)) fI_none))
theorem fo_F_X11_next_29 {σ0 : Mm} (n : Nat) : ∀ {y0 : Int32} {y1 : Int32} {y2 : Int32} {y3 : Int32} {σ : Mm}, Fr W_X11_next σ0 σ → FoI W_X11_next σ0 (F_X11_next_29  n y0 y1 y2 y3 σ) := by
  induction n with
  | zero => intro y0 y1 y2 y3 σ _; exact fI_none
  | succ n ih => intro y0 y1 y2 y3 σ hF; exact fo_B_X11_next_29  (fun _ _ _ _ _ h => ih h) hF
theorem fo_F_X11_next_19 {σ0 : Mm} {x1 : Int32} {σ : Mm} (hF : Fr W_X11_next σ0 σ) : FoI W_X11_next σ0 (F_X11_next_19 x1 σ) := by
  unfold F_X11_next_19
  exact (fo_F_X11_next_29  FU hF)
theorem fo_F_X11_next {σ0 : Mm} {x1 : Int32} {x2 : Int32} {x3 : Int32} {σ : Mm} (hF : Fr W_X11_next σ0 σ) : FoI W_X11_next σ0 (F_X11_next x1 x2 x3 σ) := by
  unfold F_X11_next
  exact (fI_ite (fI_ite (fI_some hF) (fV_I (Wc := W_X11_lookAt) hF rfl (fo_F_X11_lookAt Fr_r) (fun _ h1 => (fo_F_X11_next_19  h1)))) fI_none)
theorem fr_X11_next {x1 : Int32} {x2 : Int32} {x3 : Int32} {σ : Mm} : FoI W_X11_next σ (F_X11_next x1 x2 x3 σ) := fo_F_X11_next Fr_r
def W_X11_odds : List (Nat × Nat × Nat) := [(0, 25, 0), (0, 26, 999), (0, 27, 999), (0, 28, 0), (0, 28, 1), (0, 31, 999), (0, 41, 999), (0, 42, 999), (1, 10, 6), (1, 15, 999)]
theorem fo_F_X11_odds_107 {σ0 : Mm} {rc60 : Int32 → Int32 → Int32 → Int32 → Int32 → Int32 → Int32 → Mm → Option (Int32 × Mm)} (hrc60 : ∀ a0 a1 a2 a3 a4 a5 a6 τ, Fr W_X11_odds σ0 τ → FoI W_X11_odds σ0 (rc60 a0 a1 a2 a3 a4 a5 a6 τ)) {x1 : Int32} {x2 : Int32} {x3 : Int32} {x4 : Int32} {x5 : Int32} {x6 : Int32} {x7 : Int32} {σ : Mm} (hF : Fr W_X11_odds σ0 σ) : FoI W_X11_odds σ0 (F_X11_odds_107 rc60 x1 x2 x3 x4 x5 x6 x7 σ) := by
  unfold F_X11_odds_107
  exact (hrc60 _ _ _ _ _ _ _ _ hF)
theorem fo_F_X11_odds_99 {σ0 : Mm} {rc60 : Int32 → Int32 → Int32 → Int32 → Int32 → Int32 → Int32 → Mm → Option (Int32 × Mm)} (hrc60 : ∀ a0 a1 a2 a3 a4 a5 a6 τ, Fr W_X11_odds σ0 τ → FoI W_X11_odds σ0 (rc60 a0 a1 a2 a3 a4 a5 a6 τ)) {x1 : Int32} {x2 : Int32} {x3 : Int32} {x4 : Int32} {x5 : Int32} {x6 : Int32} {x7 : Int32} {s0 : Int32} {σ : Mm} (hF : Fr W_X11_odds σ0 σ) : FoI W_X11_odds σ0 (F_X11_odds_99 rc60 x1 x2 x3 x4 x5 x6 x7 s0 σ) := by
  unfold F_X11_odds_99
  exact (fI_ite (fo_F_X11_odds_107 hrc60 hF) (fo_F_X11_odds_107 hrc60 hF))
theorem fo_F_X11_odds_84 {σ0 : Mm} {rc60 : Int32 → Int32 → Int32 → Int32 → Int32 → Int32 → Int32 → Mm → Option (Int32 × Mm)} (hrc60 : ∀ a0 a1 a2 a3 a4 a5 a6 τ, Fr W_X11_odds σ0 τ → FoI W_X11_odds σ0 (rc60 a0 a1 a2 a3 a4 a5 a6 τ)) {x1 : Int32} {x2 : Int32} {x3 : Int32} {x4 : Int32} {x5 : Int32} {x6 : Int32} {x7 : Int32} {σ : Mm} (hF : Fr W_X11_odds σ0 σ) : FoI W_X11_odds σ0 (F_X11_odds_84 rc60 x1 x2 x3 x4 x5 x6 x7 σ) := by
  unfold F_X11_odds_84
  exact (fI_I (Wc := W_X3_strikes) hF rfl (fo_F_X3_strikes Fr_r) (fun _ _ h1 => (fo_F_X11_odds_99 hrc60 h1)))
theorem fo_B_X11_odds_60 {σ0 : Mm} {rc60 : Int32 → Int32 → Int32 → Int32 → Int32 → Int32 → Int32 → Mm → Option (Int32 × Mm)} (hrc60 : ∀ a0 a1 a2 a3 a4 a5 a6 τ, Fr W_X11_odds σ0 τ → FoI W_X11_odds σ0 (rc60 a0 a1 a2 a3 a4 a5 a6 τ)) {x1 : Int32} {x2 : Int32} {x3 : Int32} {x4 : Int32} {x5 : Int32} {x6 : Int32} {x7 : Int32} {σ : Mm} (hF : Fr W_X11_odds σ0 σ) : FoI W_X11_odds σ0 (B_X11_odds_60 rc60 x1 x2 x3 x4 x5 x6 x7 σ) := by
  unfold B_X11_odds_60
  exact (fI_ite (fI_some hF) (fV_I (Wc := W_X3_make) hF rfl (fo_F_X3_make Fr_r) (fun _ h1 => (fo_F_X11_odds_84 hrc60 h1))))
theorem fo_F_X11_odds_60 {σ0 : Mm} (n : Nat) : ∀ {y0 : Int32} {y1 : Int32} {y2 : Int32} {y3 : Int32} {y4 : Int32} {y5 : Int32} {y6 : Int32} {σ : Mm}, Fr W_X11_odds σ0 σ → FoI W_X11_odds σ0 (F_X11_odds_60  n y0 y1 y2 y3 y4 y5 y6 σ) := by
  induction n with
  | zero => intro y0 y1 y2 y3 y4 y5 y6 σ _; exact fI_none
  | succ n ih => intro y0 y1 y2 y3 y4 y5 y6 σ hF; exact fo_B_X11_odds_60  (fun _ _ _ _ _ _ _ _ h => ih h) hF
theorem fo_F_X11_odds_54 {σ0 : Mm} {x1 : Int32} {x2 : Int32} {x3 : Int32} {x4 : Int32} {x5 : Int32} {σ : Mm} (hF : Fr W_X11_odds σ0 σ) : FoI W_X11_odds σ0 (F_X11_odds_54 x1 x2 x3 x4 x5 σ) := by
  unfold F_X11_odds_54
  exact (fo_F_X11_odds_60  FU hF)
theorem fo_F_X11_odds_36 {σ0 : Mm} {x1 : Int32} {x2 : Int32} {x3 : Int32} {x4 : Int32} {x5 : Int32} {σ : Mm} (hF : Fr W_X11_odds σ0 σ) : FoI W_X11_odds σ0 (F_X11_odds_36 x1 x2 x3 x4 x5 σ) := by
  unfold F_X11_odds_36
  exact (fI_ite (fV_I (Wc := W_X10_cover) hF rfl (fo_F_X10_cover Fr_r) (fun _ h1 => (fo_F_X11_odds_54  h1))) fI_none)
theorem fo_F_X11_odds {σ0 : Mm} {x1 : Int32} {x2 : Int32} {x3 : Int32} {x4 : Int32} {x5 : Int32} {σ : Mm} (hF : Fr W_X11_odds σ0 σ) : FoI W_X11_odds σ0 (F_X11_odds x1 x2 x3 x4 x5 σ) := by
  unfold F_X11_odds
  exact (fI_ite (fI_some hF) (fI_ite (fI_some hF) (fI_ite (fI_ite (fV_I (Wc := W_X6_watch) hF rfl (fo_F_X6_watch Fr_r) (fun _ h1 => (fo_F_X11_odds_36  h1))) fI_none) (fI_some hF))))
theorem fr_X11_odds {x1 : Int32} {x2 : Int32} {x3 : Int32} {x4 : Int32} {x5 : Int32} {σ : Mm} : FoI W_X11_odds σ (F_X11_odds x1 x2 x3 x4 x5 σ) := fo_F_X11_odds Fr_r
def W_X11_otherwise : List (Nat × Nat × Nat) := [(0, 5, 999), (0, 15, 0), (0, 15, 8), (0, 16, 999), (0, 17, 999), (0, 18, 999), (0, 19, 999), (0, 20, 999), (0, 21, 999), (0, 22, 999), (0, 23, 999), (0, 24, 999), (0, 25, 0), (0, 26, 999), (0, 27, 999), (0, 28, 0), (0, 28, 1), (1, 10, 6), (1, 15, 999)]
theorem fo_F_X11_otherwise_176 {σ0 : Mm} {s0 : Int32} {σ : Mm} (hF : Fr W_X11_otherwise σ0 σ) : FoI W_X11_otherwise σ0 (F_X11_otherwise_176 s0 σ) := by
  unfold F_X11_otherwise_176
  exact (fI_some hF)
theorem fo_F_X11_otherwise_163 {σ0 : Mm} {rc116 : Int32 → Int32 → Mm → Option (Int32 × Mm)} (hrc116 : ∀ a0 a1 τ, Fr W_X11_otherwise σ0 τ → FoI W_X11_otherwise σ0 (rc116 a0 a1 τ)) {x1 : Int32} {x5 : Int32} {σ : Mm} (hF : Fr W_X11_otherwise σ0 σ) : FoI W_X11_otherwise σ0 (F_X11_otherwise_163 rc116 x1 x5 σ) := by
  unfold F_X11_otherwise_163
  exact (hrc116 _ _ _ hF)
theorem fo_F_X11_otherwise_144 {σ0 : Mm} {rc116 : Int32 → Int32 → Mm → Option (Int32 × Mm)} (hrc116 : ∀ a0 a1 τ, Fr W_X11_otherwise σ0 τ → FoI W_X11_otherwise σ0 (rc116 a0 a1 τ)) {x1 : Int32} {x5 : Int32} {s0 : Int32} {σ : Mm} (hF : Fr W_X11_otherwise σ0 σ) : FoI W_X11_otherwise σ0 (F_X11_otherwise_144 rc116 x1 x5 s0 σ) := by
  unfold F_X11_otherwise_144
  exact (fI_ite (fo_F_X11_otherwise_163 hrc116 hF) (fI_ite (fI_ite (fo_F_X11_otherwise_163 hrc116 (Fr.AA hF rfl)) fI_none) fI_none))
theorem fo_B_X11_otherwise_116 {σ0 : Mm} {rc116 : Int32 → Int32 → Mm → Option (Int32 × Mm)} (hrc116 : ∀ a0 a1 τ, Fr W_X11_otherwise σ0 τ → FoI W_X11_otherwise σ0 (rc116 a0 a1 τ)) {x1 : Int32} {x5 : Int32} {σ : Mm} (hF : Fr W_X11_otherwise σ0 σ) : FoI W_X11_otherwise σ0 (B_X11_otherwise_116 rc116 x1 x5 σ) := by
  unfold B_X11_otherwise_116
  exact (fI_ite (fI_I (Wc := W_X11_markedUpTo) hF rfl (fo_F_X11_markedUpTo Fr_r) (fun _ _ h1 => (fo_F_X11_otherwise_176  h1))) (fI_ite (fI_I (Wc := W_X11_strikes) hF rfl (fo_F_X11_strikes Fr_r) (fun _ _ h2 => (fo_F_X11_otherwise_144 hrc116 h2))) fI_none))
theorem fo_F_X11_otherwise_116 {σ0 : Mm} (n : Nat) : ∀ {y0 : Int32} {y1 : Int32} {σ : Mm}, Fr W_X11_otherwise σ0 σ → FoI W_X11_otherwise σ0 (F_X11_otherwise_116  n y0 y1 σ) := by
  induction n with
  | zero => intro y0 y1 σ _; exact fI_none
  | succ n ih => intro y0 y1 σ hF; exact fo_B_X11_otherwise_116  (fun _ _ _ h => ih h) hF
theorem fo_F_X11_otherwise_113 {σ0 : Mm} {x1 : Int32} {σ : Mm} (hF : Fr W_X11_otherwise σ0 σ) : FoI W_X11_otherwise σ0 (F_X11_otherwise_113 x1 σ) := by
  unfold F_X11_otherwise_113
  exact (fo_F_X11_otherwise_116  FU hF)
theorem fo_F_X11_otherwise_99 {σ0 : Mm} {rc56 : Int32 → Int32 → Int32 → Int32 → Mm → Option (Int32 × Mm)} (hrc56 : ∀ a0 a1 a2 a3 τ, Fr W_X11_otherwise σ0 τ → FoI W_X11_otherwise σ0 (rc56 a0 a1 a2 a3 τ)) {x1 : Int32} {x2 : Int32} {x4 : Int32} {x5 : Int32} {σ : Mm} (hF : Fr W_X11_otherwise σ0 σ) : FoI W_X11_otherwise σ0 (F_X11_otherwise_99 rc56 x1 x2 x4 x5 σ) := by
  unfold F_X11_otherwise_99
  exact (hrc56 _ _ _ _ _ hF)
theorem fo_F_X11_otherwise_98 {σ0 : Mm} {rc56 : Int32 → Int32 → Int32 → Int32 → Mm → Option (Int32 × Mm)} (hrc56 : ∀ a0 a1 a2 a3 τ, Fr W_X11_otherwise σ0 τ → FoI W_X11_otherwise σ0 (rc56 a0 a1 a2 a3 τ)) {x1 : Int32} {x2 : Int32} {x4 : Int32} {x5 : Int32} {s0 : Int32} {s1 : Int32} {σ : Mm} (hF : Fr W_X11_otherwise σ0 σ) : FoI W_X11_otherwise σ0 (F_X11_otherwise_98 rc56 x1 x2 x4 x5 s0 s1 σ) := by
  unfold F_X11_otherwise_98
  exact (fI_ite (fo_F_X11_otherwise_99 hrc56 (Fr.AA hF rfl)) fI_none)
theorem fo_B_X11_otherwise_56 {σ0 : Mm} {rc56 : Int32 → Int32 → Int32 → Int32 → Mm → Option (Int32 × Mm)} (hrc56 : ∀ a0 a1 a2 a3 τ, Fr W_X11_otherwise σ0 τ → FoI W_X11_otherwise σ0 (rc56 a0 a1 a2 a3 τ)) {x1 : Int32} {x2 : Int32} {x4 : Int32} {x5 : Int32} {σ : Mm} (hF : Fr W_X11_otherwise σ0 σ) : FoI W_X11_otherwise σ0 (B_X11_otherwise_56 rc56 x1 x2 x4 x5 σ) := by
  unfold B_X11_otherwise_56
  exact (fI_ite (fV_I (Wc := W_X11_lookAt) hF rfl (fo_F_X11_lookAt Fr_r) (fun _ h1 => (fo_F_X11_otherwise_113  h1))) (fI_ite (fI_ite (fI_I (Wc := W_X11_strikes) hF rfl (fo_F_X11_strikes Fr_r) (fun _ _ h2 => (fo_F_X11_otherwise_98 hrc56 h2))) fI_none) fI_none))
theorem fo_F_X11_otherwise_56 {σ0 : Mm} (n : Nat) : ∀ {y0 : Int32} {y1 : Int32} {y2 : Int32} {y3 : Int32} {σ : Mm}, Fr W_X11_otherwise σ0 σ → FoI W_X11_otherwise σ0 (F_X11_otherwise_56  n y0 y1 y2 y3 σ) := by
  induction n with
  | zero => intro y0 y1 y2 y3 σ _; exact fI_none
  | succ n ih => intro y0 y1 y2 y3 σ hF; exact fo_B_X11_otherwise_56  (fun _ _ _ _ _ h => ih h) hF
theorem fo_F_X11_otherwise_47 {σ0 : Mm} {rc31 : Int32 → Int32 → Int32 → Int32 → Mm → Option (Int32 × Mm)} (hrc31 : ∀ a0 a1 a2 a3 τ, Fr W_X11_otherwise σ0 τ → FoI W_X11_otherwise σ0 (rc31 a0 a1 a2 a3 τ)) {x1 : Int32} {x2 : Int32} {x4 : Int32} {x5 : Int32} {σ : Mm} (hF : Fr W_X11_otherwise σ0 σ) : FoI W_X11_otherwise σ0 (F_X11_otherwise_47 rc31 x1 x2 x4 x5 σ) := by
  unfold F_X11_otherwise_47
  exact (hrc31 _ _ _ _ _ hF)
theorem fo_B_X11_otherwise_31 {σ0 : Mm} {rc31 : Int32 → Int32 → Int32 → Int32 → Mm → Option (Int32 × Mm)} (hrc31 : ∀ a0 a1 a2 a3 τ, Fr W_X11_otherwise σ0 τ → FoI W_X11_otherwise σ0 (rc31 a0 a1 a2 a3 τ)) {x1 : Int32} {x2 : Int32} {x4 : Int32} {x5 : Int32} {σ : Mm} (hF : Fr W_X11_otherwise σ0 σ) : FoI W_X11_otherwise σ0 (B_X11_otherwise_31 rc31 x1 x2 x4 x5 σ) := by
  unfold B_X11_otherwise_31
  exact (fI_ite (fo_F_X11_otherwise_56  FU hF) (fI_ite (fo_F_X11_otherwise_47 hrc31 (Fr.AA hF rfl)) fI_none))
theorem fo_F_X11_otherwise_31 {σ0 : Mm} (n : Nat) : ∀ {y0 : Int32} {y1 : Int32} {y2 : Int32} {y3 : Int32} {σ : Mm}, Fr W_X11_otherwise σ0 σ → FoI W_X11_otherwise σ0 (F_X11_otherwise_31  n y0 y1 y2 y3 σ) := by
  induction n with
  | zero => intro y0 y1 y2 y3 σ _; exact fI_none
  | succ n ih => intro y0 y1 y2 y3 σ hF; exact fo_B_X11_otherwise_31  (fun _ _ _ _ _ h => ih h) hF
theorem fo_F_X11_otherwise_28 {σ0 : Mm} {x1 : Int32} {x2 : Int32} {x4 : Int32} {σ : Mm} (hF : Fr W_X11_otherwise σ0 σ) : FoI W_X11_otherwise σ0 (F_X11_otherwise_28 x1 x2 x4 σ) := by
  unfold F_X11_otherwise_28
  exact (fo_F_X11_otherwise_31  FU hF)
theorem fo_F_X11_otherwise {σ0 : Mm} {x1 : Int32} {x2 : Int32} {x3 : Int32} {x4 : Int32} {σ : Mm} (hF : Fr W_X11_otherwise σ0 σ) : FoI W_X11_otherwise σ0 (F_X11_otherwise x1 x2 x3 x4 σ) := by
  unfold F_X11_otherwise
  exact (fI_ite (fI_ite (fI_some hF) (fI_ite (fI_some hF) (fV_I (Wc := W_X11_lookAt) hF rfl (fo_F_X11_lookAt Fr_r) (fun _ h1 => (fo_F_X11_otherwise_28  h1))))) fI_none)
theorem fr_X11_otherwise {x1 : Int32} {x2 : Int32} {x3 : Int32} {x4 : Int32} {σ : Mm} : FoI W_X11_otherwise σ (F_X11_otherwise x1 x2 x3 x4 σ) := fo_F_X11_otherwise Fr_r
def W_X11_pointing : List (Nat × Nat × Nat) := []
theorem fo_F_X11_pointing_40 {σ0 : Mm} {s0 : Int32} {σ : Mm} (hF : Fr W_X11_pointing σ0 σ) : FoI W_X11_pointing σ0 (F_X11_pointing_40 s0 σ) := by
  unfold F_X11_pointing_40
  exact (fI_some hF)
theorem fo_F_X11_pointing_37 {σ0 : Mm} {s1 : Int32} {s2 : Int32} {σ : Mm} (hF : Fr W_X11_pointing σ0 σ) : FoI W_X11_pointing σ0 (F_X11_pointing_37 s1 s2 σ) := by
  unfold F_X11_pointing_37
  exact (fI_I (Wc := W_X11_near_w) hF rfl (fo_F_X11_near_w Fr_r) (fun _ _ h1 => (fo_F_X11_pointing_40  h1)))
def W_X11_pointing_37 : List (Nat × Nat × Nat) := []
theorem fo_F_X11_pointing_37_1 {σ0 : Mm} {s1 : Int32} {s2 : Int32} {σ : Mm} (hF : Fr W_X11_pointing_37 σ0 σ) : FoI W_X11_pointing_37 σ0 (F_X11_pointing_37_1 s1 s2 σ) := by
  unfold F_X11_pointing_37_1
  exact (fI_I (Wc := W_X11_near_l) hF rfl (fo_F_X11_near_l Fr_r) (fun _ _ h1 => (fo_F_X11_pointing_40  h1)))
theorem fo_F_X11_pointing {σ0 : Mm} {x1 : Int32} {x2 : Int32} {x3 : Int32} {σ : Mm} (hF : Fr W_X11_pointing σ0 σ) : FoI W_X11_pointing σ0 (F_X11_pointing x1 x2 x3 σ) := by
  unfold F_X11_pointing
  exact (fI_ite (fI_some hF) (fI_ite (fI_some hF) (fI_ite (fI_ite (fo_F_X11_pointing_37  hF) (fo_F_X11_pointing_37_1  hF)) (fI_some hF))))
theorem fr_X11_pointing {x1 : Int32} {x2 : Int32} {x3 : Int32} {σ : Mm} : FoI W_X11_pointing σ (F_X11_pointing x1 x2 x3 σ) := fo_F_X11_pointing Fr_r
def W_X11_price : List (Nat × Nat × Nat) := [(0, 15, 0), (0, 15, 8), (0, 16, 999), (0, 17, 999), (0, 18, 999), (0, 19, 999), (0, 20, 999), (0, 21, 999), (0, 22, 999), (0, 23, 999), (0, 24, 999), (0, 25, 0), (0, 26, 999), (0, 27, 999), (0, 28, 0), (0, 28, 1), (0, 29, 5), (0, 30, 999), (0, 31, 999), (0, 32, 999), (0, 33, 999), (0, 34, 999), (0, 35, 999), (0, 36, 999), (1, 10, 6), (1, 15, 999)]
theorem fo_F_X11_price_77 {σ0 : Mm} {rc44 : Int32 → Int32 → Mm → Option (Int32 × Mm)} (hrc44 : ∀ a0 a1 τ, Fr W_X11_price σ0 τ → FoI W_X11_price σ0 (rc44 a0 a1 τ)) {x3 : Int32} {x4 : Int32} {σ : Mm} (hF : Fr W_X11_price σ0 σ) : FoI W_X11_price σ0 (F_X11_price_77 rc44 x3 x4 σ) := by
  unfold F_X11_price_77
  exact (hrc44 _ _ _ hF)
theorem fo_B_X11_price_44 {σ0 : Mm} {rc44 : Int32 → Int32 → Mm → Option (Int32 × Mm)} (hrc44 : ∀ a0 a1 τ, Fr W_X11_price σ0 τ → FoI W_X11_price σ0 (rc44 a0 a1 τ)) {x3 : Int32} {x4 : Int32} {σ : Mm} (hF : Fr W_X11_price σ0 σ) : FoI W_X11_price σ0 (B_X11_price_44 rc44 x3 x4 σ) := by
  unfold B_X11_price_44
  exact (fI_ite (fI_some hF) (fI_ite (fI_ite (fI_ite (fo_F_X11_price_77 hrc44 hF) (fo_F_X11_price_77 hrc44 hF)) fI_none) fI_none))
theorem fo_F_X11_price_44 {σ0 : Mm} (n : Nat) : ∀ {y0 : Int32} {y1 : Int32} {σ : Mm}, Fr W_X11_price σ0 σ → FoI W_X11_price σ0 (F_X11_price_44  n y0 y1 σ) := by
  induction n with
  | zero => intro y0 y1 σ _; exact fI_none
  | succ n ih => intro y0 y1 σ hF; exact fo_B_X11_price_44  (fun _ _ _ h => ih h) hF
theorem fo_F_X11_price_39 {σ0 : Mm} {σ : Mm} (hF : Fr W_X11_price σ0 σ) : FoI W_X11_price σ0 (F_X11_price_39 σ) := by
  unfold F_X11_price_39
  exact (fo_F_X11_price_44  FU hF)
theorem fo_F_X11_price_24 {σ0 : Mm} {σ : Mm} (hF : Fr W_X11_price σ0 σ) : FoI W_X11_price σ0 (F_X11_price_24 σ) := by
  unfold F_X11_price_24
  exact (fV_I (Wc := W_X10_tellAfter) hF rfl (fo_F_X10_tellAfter Fr_r) (fun _ h1 => (fo_F_X11_price_39  h1)))
theorem fo_F_X11_price {σ0 : Mm} {x1 : Int32} {x2 : Int32} {σ : Mm} (hF : Fr W_X11_price σ0 σ) : FoI W_X11_price σ0 (F_X11_price x1 x2 σ) := by
  unfold F_X11_price
  exact (fI_ite (fI_some hF) (fI_ite (fI_ite (fI_some hF) (fV_I (Wc := W_X11_lookAt) hF rfl (fo_F_X11_lookAt Fr_r) (fun _ h1 => (fo_F_X11_price_24  h1)))) fI_none))
theorem fr_X11_price {x1 : Int32} {x2 : Int32} {σ : Mm} : FoI W_X11_price σ (F_X11_price x1 x2 σ) := fo_F_X11_price Fr_r
def W_X5_kindHere : List (Nat × Nat × Nat) := []
theorem fo_F_X5_kindHere {σ0 : Mm} {σ : Mm} (hF : Fr W_X5_kindHere σ0 σ) : FoI W_X5_kindHere σ0 (F_X5_kindHere σ) := by
  unfold F_X5_kindHere
  exact (fI_ite (fI_some hF) (fI_ite (fI_some hF) fI_none))
theorem fr_X5_kindHere {σ : Mm} : FoI W_X5_kindHere σ (F_X5_kindHere σ) := fo_F_X5_kindHere Fr_r
def W_X5_stop : List (Nat × Nat × Nat) := [(0, 12, 0), (0, 12, 1)]
theorem fo_F_X5_stop_22 {σ0 : Mm} {σ : Mm} (hF : Fr W_X5_stop σ0 σ) : FoV W_X5_stop σ0 (F_X5_stop_22 σ) := by
  unfold F_X5_stop_22
  exact (fV_ite (fV_some (Fr.A hF rfl)) fV_none)
theorem fo_F_X5_stop {σ0 : Mm} {x1 : Int32} {σ : Mm} (hF : Fr W_X5_stop σ0 σ) : FoV W_X5_stop σ0 (F_X5_stop x1 σ) := by
  unfold F_X5_stop
  exact (fV_ite (fV_ite (fV_some hF) (fo_F_X5_stop_22  (Fr.A hF rfl))) (fV_some hF))
theorem fr_X5_stop {x1 : Int32} {σ : Mm} : FoV W_X5_stop σ (F_X5_stop x1 σ) := fo_F_X5_stop Fr_r
def W_X5_blame : List (Nat × Nat × Nat) := [(0, 12, 5), (0, 12, 6)]
theorem fo_F_X5_blame_23 {σ0 : Mm} {x2 : Int32} {σ : Mm} (hF : Fr W_X5_blame σ0 σ) : FoV W_X5_blame σ0 (F_X5_blame_23 x2 σ) := by
  unfold F_X5_blame_23
  exact (fV_ite (fV_some (Fr.A hF rfl)) fV_none)
theorem fo_F_X5_blame {σ0 : Mm} {x1 : Int32} {x2 : Int32} {σ : Mm} (hF : Fr W_X5_blame σ0 σ) : FoV W_X5_blame σ0 (F_X5_blame x1 x2 σ) := by
  unfold F_X5_blame
  exact (fV_ite (fV_ite (fV_some hF) (fV_ite (fV_some hF) (fo_F_X5_blame_23  (Fr.A hF rfl)))) (fV_some hF))
theorem fr_X5_blame {x1 : Int32} {x2 : Int32} {σ : Mm} : FoV W_X5_blame σ (F_X5_blame x1 x2 σ) := fo_F_X5_blame Fr_r
def W_X5_hasRoom : List (Nat × Nat × Nat) := [(0, 12, 0), (0, 12, 1)]
theorem fo_F_X5_hasRoom_10 {σ0 : Mm} {σ : Mm} (hF : Fr W_X5_hasRoom σ0 σ) : FoI W_X5_hasRoom σ0 (F_X5_hasRoom_10 σ) := by
  unfold F_X5_hasRoom_10
  exact (fI_ite (fI_some hF) (fI_some hF))
theorem fo_F_X5_hasRoom {σ0 : Mm} {x1 : Int32} {x2 : Int32} {σ : Mm} (hF : Fr W_X5_hasRoom σ0 σ) : FoI W_X5_hasRoom σ0 (F_X5_hasRoom x1 x2 σ) := by
  unfold F_X5_hasRoom
  exact (fI_ite (fo_F_X5_hasRoom_10  hF) (fV_I (Wc := W_X5_stop) hF rfl (fo_F_X5_stop Fr_r) (fun _ h1 => (fo_F_X5_hasRoom_10  h1))))
theorem fr_X5_hasRoom {x1 : Int32} {x2 : Int32} {σ : Mm} : FoI W_X5_hasRoom σ (F_X5_hasRoom x1 x2 σ) := fo_F_X5_hasRoom Fr_r
def W_X5_take : List (Nat × Nat × Nat) := [(0, 12, 0), (0, 12, 1), (0, 12, 4)]
theorem fo_F_X5_take_98 {σ0 : Mm} {σ : Mm} (hF : Fr W_X5_take σ0 σ) : FoI W_X5_take σ0 (F_X5_take_98 σ) := by
  unfold F_X5_take_98
  exact (fI_some hF)
theorem fo_F_X5_take_82 {σ0 : Mm} {σ : Mm} (hF : Fr W_X5_take σ0 σ) : FoI W_X5_take σ0 (F_X5_take_82 σ) := by
  unfold F_X5_take_82
  exact (fI_ite (fo_F_X5_take_98  (Fr.A hF rfl)) fI_none)
theorem fo_F_X5_take_79 {σ0 : Mm} {s0 : Int32} {σ : Mm} (hF : Fr W_X5_take σ0 σ) : FoI W_X5_take σ0 (F_X5_take_79 s0 σ) := by
  unfold F_X5_take_79
  exact (fo_F_X5_take_82  (Fr.A hF rfl))
theorem fo_F_X5_take_57 {σ0 : Mm} {x1 : Int32} {σ : Mm} (hF : Fr W_X5_take σ0 σ) : FoI W_X5_take σ0 (F_X5_take_57 x1 σ) := by
  unfold F_X5_take_57
  exact (fI_ite (fI_ite (fo_F_X5_take_79  hF) (fo_F_X5_take_79  hF)) fI_none)
theorem fo_F_X5_take_55 {σ0 : Mm} {σ : Mm} (hF : Fr W_X5_take σ0 σ) : FoI W_X5_take σ0 (F_X5_take_55 σ) := by
  unfold F_X5_take_55
  exact (fI_some hF)
theorem fo_F_X5_take {σ0 : Mm} {x1 : Int32} {σ : Mm} (hF : Fr W_X5_take σ0 σ) : FoI W_X5_take σ0 (F_X5_take x1 σ) := by
  unfold F_X5_take
  exact (fI_ite (fI_ite (fI_ite (fI_ite (fI_ite (fo_F_X5_take_57  hF) (fo_F_X5_take_55  (Fr.A hF rfl))) (fo_F_X5_take_57  hF)) fI_none) (fI_some hF)) (fI_some hF))
theorem fr_X5_take {x1 : Int32} {σ : Mm} : FoI W_X5_take σ (F_X5_take x1 σ) := fo_F_X5_take Fr_r
def W_X5_sum : List (Nat × Nat × Nat) := [(0, 12, 0), (0, 12, 1), (0, 12, 4), (1, 10, 0), (1, 11, 999), (1, 12, 999)]
def W_X5_unit : List (Nat × Nat × Nat) := [(0, 12, 0), (0, 12, 1), (0, 12, 4), (1, 10, 0), (1, 11, 999), (1, 12, 999)]
theorem fo_F_X5_unit_101 {σ0 : Mm} {rcS : Int32 → Mm → Option Mm} (hrcS : ∀ σ0 a τ, Fr W_X5_sum σ0 τ → FoV W_X5_sum σ0 (rcS a τ)) {σ : Mm} (hF : Fr W_X5_unit σ0 σ) : FoV W_X5_unit σ0 (F_X5_unit_101 rcS σ) := by
  unfold F_X5_unit_101
  exact (fV_some hF)
theorem fo_F_X5_unit_78 {σ0 : Mm} {rcS : Int32 → Mm → Option Mm} (hrcS : ∀ σ0 a τ, Fr W_X5_sum σ0 τ → FoV W_X5_sum σ0 (rcS a τ)) {x2 : Int32} {x3 : Int32} {s0 : Int32} {σ : Mm} (hF : Fr W_X5_unit σ0 σ) : FoV W_X5_unit σ0 (F_X5_unit_78 rcS x2 x3 s0 σ) := by
  unfold F_X5_unit_78
  exact (fV_ite (fV_some hF) (fV_ite (fV_ite (fV_V (Wc := W_X0_put) hF rfl (fo_F_X0_put Fr_r) (fun _ h1 => (fo_F_X5_unit_101 hrcS h1))) fV_none) fV_none))
theorem fo_F_X5_unit_73 {σ0 : Mm} {rcS : Int32 → Mm → Option Mm} (hrcS : ∀ σ0 a τ, Fr W_X5_sum σ0 τ → FoV W_X5_sum σ0 (rcS a τ)) {x2 : Int32} {x3 : Int32} {σ : Mm} (hF : Fr W_X5_unit σ0 σ) : FoV W_X5_unit σ0 (F_X5_unit_73 rcS x2 x3 σ) := by
  unfold F_X5_unit_73
  exact (fI_V (Wc := W_X5_take) hF rfl (fo_F_X5_take Fr_r) (fun _ _ h1 => (fo_F_X5_unit_78 hrcS h1)))
theorem fo_F_X5_unit_58 {σ0 : Mm} {rcS : Int32 → Mm → Option Mm} (hrcS : ∀ σ0 a τ, Fr W_X5_sum σ0 τ → FoV W_X5_sum σ0 (rcS a τ)) {s0 : Int32} {σ : Mm} (hF : Fr W_X5_unit σ0 σ) : FoV W_X5_unit σ0 (F_X5_unit_58 rcS s0 σ) := by
  unfold F_X5_unit_58
  exact (fV_some hF)
theorem fo_F_X5_unit_52 {σ0 : Mm} {rcS : Int32 → Mm → Option Mm} (hrcS : ∀ σ0 a τ, Fr W_X5_sum σ0 τ → FoV W_X5_sum σ0 (rcS a τ)) {σ : Mm} (hF : Fr W_X5_unit σ0 σ) : FoV W_X5_unit σ0 (F_X5_unit_52 rcS σ) := by
  unfold F_X5_unit_52
  exact (fI_V (Wc := W_X5_take) hF rfl (fo_F_X5_take Fr_r) (fun _ _ h1 => (fo_F_X5_unit_58 hrcS h1)))
theorem fo_F_X5_unit_42 {σ0 : Mm} {rcS : Int32 → Mm → Option Mm} (hrcS : ∀ σ0 a τ, Fr W_X5_sum σ0 τ → FoV W_X5_sum σ0 (rcS a τ)) {x1 : Int32} {s0 : Int32} {σ : Mm} (hF : Fr W_X5_unit σ0 σ) : FoV W_X5_unit σ0 (F_X5_unit_42 rcS x1 s0 σ) := by
  unfold F_X5_unit_42
  exact (fV_ite (fV_some hF) (fV_V (Wc := W_X5_sum) hF rfl (hrcS _ _ _ Fr_r) (fun _ h1 => (fo_F_X5_unit_52 hrcS h1))))
theorem fo_F_X5_unit_30 {σ0 : Mm} {rcS : Int32 → Mm → Option Mm} (hrcS : ∀ σ0 a τ, Fr W_X5_sum σ0 τ → FoV W_X5_sum σ0 (rcS a τ)) {x1 : Int32} {x2 : Int32} {x3 : Int32} {σ : Mm} (hF : Fr W_X5_unit σ0 σ) : FoV W_X5_unit σ0 (F_X5_unit_30 rcS x1 x2 x3 σ) := by
  unfold F_X5_unit_30
  exact (fV_ite (fI_V (Wc := W_X5_take) hF rfl (fo_F_X5_take Fr_r) (fun _ _ h1 => (fo_F_X5_unit_42 hrcS h1))) (fV_ite (fo_F_X5_unit_73 hrcS hF) (fV_ite (fV_V (Wc := W_X5_stop) hF rfl (fo_F_X5_stop Fr_r) (fun _ h2 => (fV_some h2))) (fo_F_X5_unit_73 hrcS hF))))
theorem fo_F_X5_unit_27 {σ0 : Mm} {rcS : Int32 → Mm → Option Mm} (hrcS : ∀ σ0 a τ, Fr W_X5_sum σ0 τ → FoV W_X5_sum σ0 (rcS a τ)) {σ : Mm} (hF : Fr W_X5_unit σ0 σ) : FoV W_X5_unit σ0 (F_X5_unit_27 rcS σ) := by
  unfold F_X5_unit_27
  exact (fV_some hF)
theorem fo_F_X5_unit_4 {σ0 : Mm} {rcS : Int32 → Mm → Option Mm} (hrcS : ∀ σ0 a τ, Fr W_X5_sum σ0 τ → FoV W_X5_sum σ0 (rcS a τ)) {x1 : Int32} {s0 : Int32} {σ : Mm} (hF : Fr W_X5_unit σ0 σ) : FoV W_X5_unit σ0 (F_X5_unit_4 rcS x1 s0 σ) := by
  unfold F_X5_unit_4
  exact (fV_ite (fV_ite (fo_F_X5_unit_30 hrcS hF) (fV_V (Wc := W_X5_stop) hF rfl (fo_F_X5_stop Fr_r) (fun _ h1 => (fo_F_X5_unit_27 hrcS h1)))) (fo_F_X5_unit_30 hrcS hF))
theorem fo_F_X5_unit {σ0 : Mm} {rcS : Int32 → Mm → Option Mm} (hrcS : ∀ σ0 a τ, Fr W_X5_sum σ0 τ → FoV W_X5_sum σ0 (rcS a τ)) {x1 : Int32} {σ : Mm} (hF : Fr W_X5_unit σ0 σ) : FoV W_X5_unit σ0 (F_X5_unit rcS x1 σ) := by
  unfold F_X5_unit
  exact (fI_V (Wc := W_X5_kindHere) hF rfl (fo_F_X5_kindHere Fr_r) (fun _ _ h1 => (fo_F_X5_unit_4 hrcS h1)))
def W_X5_product : List (Nat × Nat × Nat) := [(0, 12, 0), (0, 12, 1), (0, 12, 4), (1, 10, 0), (1, 11, 999), (1, 12, 999)]
theorem fo_F_X5_product_64 {σ0 : Mm} {rcS : Int32 → Mm → Option Mm} (hrcS : ∀ σ0 a τ, Fr W_X5_sum σ0 τ → FoV W_X5_sum σ0 (rcS a τ)) {rc7 : Int32 → Int32 → Mm → Option (Mm)} (hrc7 : ∀ a0 a1 τ, Fr W_X5_product σ0 τ → FoV W_X5_product σ0 (rc7 a0 a1 τ)) {x1 : Int32} {x2 : Int32} {σ : Mm} (hF : Fr W_X5_product σ0 σ) : FoV W_X5_product σ0 (F_X5_product_64 rcS rc7 x1 x2 σ) := by
  unfold F_X5_product_64
  exact (hrc7 _ _ _ hF)
theorem fo_F_X5_product_52 {σ0 : Mm} {rcS : Int32 → Mm → Option Mm} (hrcS : ∀ σ0 a τ, Fr W_X5_sum σ0 τ → FoV W_X5_sum σ0 (rcS a τ)) {rc7 : Int32 → Int32 → Mm → Option (Mm)} (hrc7 : ∀ a0 a1 τ, Fr W_X5_product σ0 τ → FoV W_X5_product σ0 (rc7 a0 a1 τ)) {x1 : Int32} {x2 : Int32} {x3 : Int32} {σ : Mm} (hF : Fr W_X5_product σ0 σ) : FoV W_X5_product σ0 (F_X5_product_52 rcS rc7 x1 x2 x3 σ) := by
  unfold F_X5_product_52
  exact (fV_ite (fV_V (Wc := W_X0_put) hF rfl (fo_F_X0_put Fr_r) (fun _ h1 => (fo_F_X5_product_64 hrcS hrc7 h1))) fV_none)
theorem fo_F_X5_product_46 {σ0 : Mm} {rcS : Int32 → Mm → Option Mm} (hrcS : ∀ σ0 a τ, Fr W_X5_sum σ0 τ → FoV W_X5_sum σ0 (rcS a τ)) {rc7 : Int32 → Int32 → Mm → Option (Mm)} (hrc7 : ∀ a0 a1 τ, Fr W_X5_product σ0 τ → FoV W_X5_product σ0 (rc7 a0 a1 τ)) {x1 : Int32} {x2 : Int32} {x3 : Int32} {s0 : Int32} {σ : Mm} (hF : Fr W_X5_product σ0 σ) : FoV W_X5_product σ0 (F_X5_product_46 rcS rc7 x1 x2 x3 s0 σ) := by
  unfold F_X5_product_46
  exact (fV_V (Wc := W_X5_unit) hF rfl (fo_F_X5_unit hrcS Fr_r) (fun _ h1 => (fo_F_X5_product_52 hrcS hrc7 h1)))
theorem fo_F_X5_product_41 {σ0 : Mm} {rcS : Int32 → Mm → Option Mm} (hrcS : ∀ σ0 a τ, Fr W_X5_sum σ0 τ → FoV W_X5_sum σ0 (rcS a τ)) {rc7 : Int32 → Int32 → Mm → Option (Mm)} (hrc7 : ∀ a0 a1 τ, Fr W_X5_product σ0 τ → FoV W_X5_product σ0 (rc7 a0 a1 τ)) {x1 : Int32} {x2 : Int32} {x3 : Int32} {σ : Mm} (hF : Fr W_X5_product σ0 σ) : FoV W_X5_product σ0 (F_X5_product_41 rcS rc7 x1 x2 x3 σ) := by
  unfold F_X5_product_41
  exact (fI_V (Wc := W_X5_take) hF rfl (fo_F_X5_take Fr_r) (fun _ _ h1 => (fo_F_X5_product_46 hrcS hrc7 h1)))
theorem fo_F_X5_product_25 {σ0 : Mm} {rcS : Int32 → Mm → Option Mm} (hrcS : ∀ σ0 a τ, Fr W_X5_sum σ0 τ → FoV W_X5_sum σ0 (rcS a τ)) {rc7 : Int32 → Int32 → Mm → Option (Mm)} (hrc7 : ∀ a0 a1 τ, Fr W_X5_product σ0 τ → FoV W_X5_product σ0 (rc7 a0 a1 τ)) {x1 : Int32} {x2 : Int32} {s0 : Int32} {σ : Mm} (hF : Fr W_X5_product σ0 σ) : FoV W_X5_product σ0 (F_X5_product_25 rcS rc7 x1 x2 s0 σ) := by
  unfold F_X5_product_25
  exact (fV_ite (fo_F_X5_product_41 hrcS hrc7 hF) (fV_ite (fo_F_X5_product_41 hrcS hrc7 hF) (fV_some hF)))
theorem fo_B_X5_product_7 {σ0 : Mm} {rcS : Int32 → Mm → Option Mm} (hrcS : ∀ σ0 a τ, Fr W_X5_sum σ0 τ → FoV W_X5_sum σ0 (rcS a τ)) {rc7 : Int32 → Int32 → Mm → Option (Mm)} (hrc7 : ∀ a0 a1 τ, Fr W_X5_product σ0 τ → FoV W_X5_product σ0 (rc7 a0 a1 τ)) {x1 : Int32} {x2 : Int32} {σ : Mm} (hF : Fr W_X5_product σ0 σ) : FoV W_X5_product σ0 (B_X5_product_7 rcS rc7 x1 x2 σ) := by
  unfold B_X5_product_7
  exact (fV_ite (fV_some hF) (fV_ite (fI_V (Wc := W_X5_kindHere) hF rfl (fo_F_X5_kindHere Fr_r) (fun _ _ h1 => (fo_F_X5_product_25 hrcS hrc7 h1))) (fV_some hF)))
theorem fo_F_X5_product_7 {σ0 : Mm} {rcS : Int32 → Mm → Option Mm} (hrcS : ∀ σ0 a τ, Fr W_X5_sum σ0 τ → FoV W_X5_sum σ0 (rcS a τ)) (n : Nat) : ∀ {y0 : Int32} {y1 : Int32} {σ : Mm}, Fr W_X5_product σ0 σ → FoV W_X5_product σ0 (F_X5_product_7 rcS n y0 y1 σ) := by
  induction n with
  | zero => intro y0 y1 σ _; exact fV_none
  | succ n ih => intro y0 y1 σ hF; exact fo_B_X5_product_7 hrcS (fun _ _ _ h => ih h) hF
theorem fo_F_X5_product_5 {σ0 : Mm} {rcS : Int32 → Mm → Option Mm} (hrcS : ∀ σ0 a τ, Fr W_X5_sum σ0 τ → FoV W_X5_sum σ0 (rcS a τ)) {x1 : Int32} {σ : Mm} (hF : Fr W_X5_product σ0 σ) : FoV W_X5_product σ0 (F_X5_product_5 rcS x1 σ) := by
  unfold F_X5_product_5
  exact (fo_F_X5_product_7 hrcS FU hF)
theorem fo_F_X5_product {σ0 : Mm} {rcS : Int32 → Mm → Option Mm} (hrcS : ∀ σ0 a τ, Fr W_X5_sum σ0 τ → FoV W_X5_sum σ0 (rcS a τ)) {x1 : Int32} {σ : Mm} (hF : Fr W_X5_product σ0 σ) : FoV W_X5_product σ0 (F_X5_product rcS x1 σ) := by
  unfold F_X5_product
  exact (fV_V (Wc := W_X5_unit) hF rfl (fo_F_X5_unit hrcS Fr_r) (fun _ h1 => (fo_F_X5_product_5 hrcS h1)))
theorem fo_F_X5_sum_64 {σ0 : Mm} {rcS : Int32 → Mm → Option Mm} (hrcS : ∀ σ0 a τ, Fr W_X5_sum σ0 τ → FoV W_X5_sum σ0 (rcS a τ)) {rc7 : Int32 → Int32 → Mm → Option (Mm)} (hrc7 : ∀ a0 a1 τ, Fr W_X5_sum σ0 τ → FoV W_X5_sum σ0 (rc7 a0 a1 τ)) {x1 : Int32} {x2 : Int32} {σ : Mm} (hF : Fr W_X5_sum σ0 σ) : FoV W_X5_sum σ0 (F_X5_sum_64 rcS rc7 x1 x2 σ) := by
  unfold F_X5_sum_64
  exact (hrc7 _ _ _ hF)
theorem fo_F_X5_sum_52 {σ0 : Mm} {rcS : Int32 → Mm → Option Mm} (hrcS : ∀ σ0 a τ, Fr W_X5_sum σ0 τ → FoV W_X5_sum σ0 (rcS a τ)) {rc7 : Int32 → Int32 → Mm → Option (Mm)} (hrc7 : ∀ a0 a1 τ, Fr W_X5_sum σ0 τ → FoV W_X5_sum σ0 (rc7 a0 a1 τ)) {x1 : Int32} {x2 : Int32} {x3 : Int32} {σ : Mm} (hF : Fr W_X5_sum σ0 σ) : FoV W_X5_sum σ0 (F_X5_sum_52 rcS rc7 x1 x2 x3 σ) := by
  unfold F_X5_sum_52
  exact (fV_ite (fV_V (Wc := W_X0_put) hF rfl (fo_F_X0_put Fr_r) (fun _ h1 => (fo_F_X5_sum_64 hrcS hrc7 h1))) fV_none)
theorem fo_F_X5_sum_46 {σ0 : Mm} {rcS : Int32 → Mm → Option Mm} (hrcS : ∀ σ0 a τ, Fr W_X5_sum σ0 τ → FoV W_X5_sum σ0 (rcS a τ)) {rc7 : Int32 → Int32 → Mm → Option (Mm)} (hrc7 : ∀ a0 a1 τ, Fr W_X5_sum σ0 τ → FoV W_X5_sum σ0 (rc7 a0 a1 τ)) {x1 : Int32} {x2 : Int32} {x3 : Int32} {s0 : Int32} {σ : Mm} (hF : Fr W_X5_sum σ0 σ) : FoV W_X5_sum σ0 (F_X5_sum_46 rcS rc7 x1 x2 x3 s0 σ) := by
  unfold F_X5_sum_46
  exact (fV_V (Wc := W_X5_product) hF rfl (fo_F_X5_product hrcS Fr_r) (fun _ h1 => (fo_F_X5_sum_52 hrcS hrc7 h1)))
theorem fo_F_X5_sum_41 {σ0 : Mm} {rcS : Int32 → Mm → Option Mm} (hrcS : ∀ σ0 a τ, Fr W_X5_sum σ0 τ → FoV W_X5_sum σ0 (rcS a τ)) {rc7 : Int32 → Int32 → Mm → Option (Mm)} (hrc7 : ∀ a0 a1 τ, Fr W_X5_sum σ0 τ → FoV W_X5_sum σ0 (rc7 a0 a1 τ)) {x1 : Int32} {x2 : Int32} {x3 : Int32} {σ : Mm} (hF : Fr W_X5_sum σ0 σ) : FoV W_X5_sum σ0 (F_X5_sum_41 rcS rc7 x1 x2 x3 σ) := by
  unfold F_X5_sum_41
  exact (fI_V (Wc := W_X5_take) hF rfl (fo_F_X5_take Fr_r) (fun _ _ h1 => (fo_F_X5_sum_46 hrcS hrc7 h1)))
theorem fo_F_X5_sum_25 {σ0 : Mm} {rcS : Int32 → Mm → Option Mm} (hrcS : ∀ σ0 a τ, Fr W_X5_sum σ0 τ → FoV W_X5_sum σ0 (rcS a τ)) {rc7 : Int32 → Int32 → Mm → Option (Mm)} (hrc7 : ∀ a0 a1 τ, Fr W_X5_sum σ0 τ → FoV W_X5_sum σ0 (rc7 a0 a1 τ)) {x1 : Int32} {x2 : Int32} {s0 : Int32} {σ : Mm} (hF : Fr W_X5_sum σ0 σ) : FoV W_X5_sum σ0 (F_X5_sum_25 rcS rc7 x1 x2 s0 σ) := by
  unfold F_X5_sum_25
  exact (fV_ite (fo_F_X5_sum_41 hrcS hrc7 hF) (fV_ite (fo_F_X5_sum_41 hrcS hrc7 hF) (fV_some hF)))
theorem fo_B_X5_sum_7 {σ0 : Mm} {rcS : Int32 → Mm → Option Mm} (hrcS : ∀ σ0 a τ, Fr W_X5_sum σ0 τ → FoV W_X5_sum σ0 (rcS a τ)) {rc7 : Int32 → Int32 → Mm → Option (Mm)} (hrc7 : ∀ a0 a1 τ, Fr W_X5_sum σ0 τ → FoV W_X5_sum σ0 (rc7 a0 a1 τ)) {x1 : Int32} {x2 : Int32} {σ : Mm} (hF : Fr W_X5_sum σ0 σ) : FoV W_X5_sum σ0 (B_X5_sum_7 rcS rc7 x1 x2 σ) := by
  unfold B_X5_sum_7
  exact (fV_ite (fV_some hF) (fV_ite (fI_V (Wc := W_X5_kindHere) hF rfl (fo_F_X5_kindHere Fr_r) (fun _ _ h1 => (fo_F_X5_sum_25 hrcS hrc7 h1))) (fV_some hF)))
theorem fo_F_X5_sum_7 {σ0 : Mm} {rcS : Int32 → Mm → Option Mm} (hrcS : ∀ σ0 a τ, Fr W_X5_sum σ0 τ → FoV W_X5_sum σ0 (rcS a τ)) (n : Nat) : ∀ {y0 : Int32} {y1 : Int32} {σ : Mm}, Fr W_X5_sum σ0 σ → FoV W_X5_sum σ0 (F_X5_sum_7 rcS n y0 y1 σ) := by
  induction n with
  | zero => intro y0 y1 σ _; exact fV_none
  | succ n ih => intro y0 y1 σ hF; exact fo_B_X5_sum_7 hrcS (fun _ _ _ h => ih h) hF
theorem fo_F_X5_sum_5 {σ0 : Mm} {rcS : Int32 → Mm → Option Mm} (hrcS : ∀ σ0 a τ, Fr W_X5_sum σ0 τ → FoV W_X5_sum σ0 (rcS a τ)) {x1 : Int32} {σ : Mm} (hF : Fr W_X5_sum σ0 σ) : FoV W_X5_sum σ0 (F_X5_sum_5 rcS x1 σ) := by
  unfold F_X5_sum_5
  exact (fo_F_X5_sum_7 hrcS FU hF)
theorem fo_F_X5_sum {σ0 : Mm} {rcS : Int32 → Mm → Option Mm} (hrcS : ∀ σ0 a τ, Fr W_X5_sum σ0 τ → FoV W_X5_sum σ0 (rcS a τ)) {x1 : Int32} {σ : Mm} (hF : Fr W_X5_sum σ0 σ) : FoV W_X5_sum σ0 (F_X5_sum rcS x1 σ) := by
  unfold F_X5_sum
  exact (fV_V (Wc := W_X5_product) hF rfl (fo_F_X5_product hrcS Fr_r) (fun _ h1 => (fo_F_X5_sum_5 hrcS h1)))
def W_FS : List (Nat × Nat × Nat) := [(0, 12, 0), (0, 12, 1), (0, 12, 4), (1, 10, 0), (1, 11, 999), (1, 12, 999)]
theorem fo_FS : ∀ (n : Nat) {σ0 : Mm} {y0 : Int32} {σ : Mm}, Fr W_FS σ0 σ → FoV W_FS σ0 (FS n y0 σ) := by
  intro n
  induction n with
  | zero => intro σ0 y0 σ _; exact fV_none
  | succ n ih => intro σ0 y0 σ hF; exact fo_F_X5_sum (fun _ _ _ h => ih h) hF
def W_X5_thingNamed : List (Nat × Nat × Nat) := []
theorem fo_B_X5_thingNamed_2 {σ0 : Mm} {rc2 : Int64 → Int32 → Mm → Option (Int32 × Mm)} (hrc2 : ∀ a0 a1 τ, Fr W_X5_thingNamed σ0 τ → FoI W_X5_thingNamed σ0 (rc2 a0 a1 τ)) {x1 : Int64} {x3 : Int32} {σ : Mm} (hF : Fr W_X5_thingNamed σ0 σ) : FoI W_X5_thingNamed σ0 (B_X5_thingNamed_2 rc2 x1 x3 σ) := by
  unfold B_X5_thingNamed_2
  exact (fI_ite (fI_ite (fI_some hF) (fI_ite (fI_ite (fI_some hF) (hrc2 _ _ _ hF)) fI_none)) fI_none)
theorem fo_F_X5_thingNamed_2 {σ0 : Mm} (n : Nat) : ∀ {y0 : Int64} {y1 : Int32} {σ : Mm}, Fr W_X5_thingNamed σ0 σ → FoI W_X5_thingNamed σ0 (F_X5_thingNamed_2  n y0 y1 σ) := by
  induction n with
  | zero => intro y0 y1 σ _; exact fI_none
  | succ n ih => intro y0 y1 σ hF; exact fo_B_X5_thingNamed_2  (fun _ _ _ h => ih h) hF
theorem fo_F_X5_thingNamed {σ0 : Mm} {x1 : Int64} {σ : Mm} (hF : Fr W_X5_thingNamed σ0 σ) : FoI W_X5_thingNamed σ0 (F_X5_thingNamed x1 σ) := by
  unfold F_X5_thingNamed
  exact (fo_F_X5_thingNamed_2  FU hF)
theorem fr_X5_thingNamed {x1 : Int64} {σ : Mm} : FoI W_X5_thingNamed σ (F_X5_thingNamed x1 σ) := fo_F_X5_thingNamed Fr_r
def W_X5_tellDoor : List (Nat × Nat × Nat) := [(0, 12, 0), (0, 12, 1), (0, 12, 4), (0, 12, 5), (0, 12, 6), (1, 0, 6), (1, 5, 999)]
theorem fo_F_X5_tellDoor_150 {σ0 : Mm} {σ : Mm} (hF : Fr W_X5_tellDoor σ0 σ) : FoV W_X5_tellDoor σ0 (F_X5_tellDoor_150 σ) := by
  unfold F_X5_tellDoor_150
  exact (fV_ite (fV_some (Fr.A hF rfl)) fV_none)
theorem fo_F_X5_tellDoor_132 {σ0 : Mm} {σ : Mm} (hF : Fr W_X5_tellDoor σ0 σ) : FoV W_X5_tellDoor σ0 (F_X5_tellDoor_132 σ) := by
  unfold F_X5_tellDoor_132
  exact (fo_F_X5_tellDoor_150  hF)
theorem fo_F_X5_tellDoor_116 {σ0 : Mm} {σ : Mm} (hF : Fr W_X5_tellDoor σ0 σ) : FoV W_X5_tellDoor σ0 (F_X5_tellDoor_116 σ) := by
  unfold F_X5_tellDoor_116
  exact (fo_F_X5_tellDoor_150  hF)
theorem fo_F_X5_tellDoor_100 {σ0 : Mm} {σ : Mm} (hF : Fr W_X5_tellDoor σ0 σ) : FoV W_X5_tellDoor σ0 (F_X5_tellDoor_100 σ) := by
  unfold F_X5_tellDoor_100
  exact (fo_F_X5_tellDoor_150  hF)
theorem fo_F_X5_tellDoor_86 {σ0 : Mm} {x1 : Int32} {x2 : Int32} {s0 : Int32} {σ : Mm} (hF : Fr W_X5_tellDoor σ0 σ) : FoV W_X5_tellDoor σ0 (F_X5_tellDoor_86 x1 x2 s0 σ) := by
  unfold F_X5_tellDoor_86
  exact (fV_ite (fV_V (Wc := W_X5_blame) hF rfl (fo_F_X5_blame Fr_r) (fun _ h1 => (fo_F_X5_tellDoor_100  h1))) (fV_ite (fV_V (Wc := W_X5_blame) hF rfl (fo_F_X5_blame Fr_r) (fun _ h2 => (fo_F_X5_tellDoor_116  h2))) (fV_ite (fV_V (Wc := W_X5_blame) hF rfl (fo_F_X5_blame Fr_r) (fun _ h3 => (fo_F_X5_tellDoor_132  h3))) (fV_ite (fV_ite (fV_ite (fo_F_X5_tellDoor_150  (Fr.AA hF rfl)) fV_none) fV_none) fV_none))))
