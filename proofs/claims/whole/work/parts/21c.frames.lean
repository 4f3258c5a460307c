/-! frames, by program -/
theorem fo_F_X5_tellDoor_70 {σ0 : Mm} {x1 : Int32} {s0 : Int32} {σ : Mm} (hF : Fr W_X5_tellDoor σ0 σ) : FoV W_X5_tellDoor σ0 (F_X5_tellDoor_70 x1 s0 σ) := by
  unfold F_X5_tellDoor_70
  exact (fV_ite (fI_V (Wc := W_X5_thingNamed) hF rfl (fo_F_X5_thingNamed Fr_r) (fun _ _ h1 => (fo_F_X5_tellDoor_86  h1))) fV_none)
theorem fo_F_X5_tellDoor_52 {σ0 : Mm} {x1 : Int32} {s0 : Int32} {σ : Mm} (hF : Fr W_X5_tellDoor σ0 σ) : FoV W_X5_tellDoor σ0 (F_X5_tellDoor_52 x1 s0 σ) := by
  unfold F_X5_tellDoor_52
  exact (fV_ite (fV_some hF) (fV_ite (fI_V (Wc := W_X5_thingNamed) hF rfl (fo_F_X5_thingNamed Fr_r) (fun _ _ h1 => (fo_F_X5_tellDoor_70  h1))) fV_none))
theorem fo_F_X5_tellDoor_44 {σ0 : Mm} {x1 : Int32} {s0 : Int32} {σ : Mm} (hF : Fr W_X5_tellDoor σ0 σ) : FoV W_X5_tellDoor σ0 (F_X5_tellDoor_44 x1 s0 σ) := by
  unfold F_X5_tellDoor_44
  exact (fV_ite (fV_some hF) (fI_V (Wc := W_X5_take) hF rfl (fo_F_X5_take Fr_r) (fun _ _ h1 => (fo_F_X5_tellDoor_52  h1))))
theorem fo_F_X5_tellDoor_36 {σ0 : Mm} {x1 : Int32} {s0 : Int32} {σ : Mm} (hF : Fr W_X5_tellDoor σ0 σ) : FoV W_X5_tellDoor σ0 (F_X5_tellDoor_36 x1 s0 σ) := by
  unfold F_X5_tellDoor_36
  exact (fV_ite (fV_some hF) (fI_V (Wc := W_X5_take) hF rfl (fo_F_X5_take Fr_r) (fun _ _ h1 => (fo_F_X5_tellDoor_44  h1))))
theorem fo_F_X5_tellDoor_28 {σ0 : Mm} {x1 : Int32} {s0 : Int32} {σ : Mm} (hF : Fr W_X5_tellDoor σ0 σ) : FoV W_X5_tellDoor σ0 (F_X5_tellDoor_28 x1 s0 σ) := by
  unfold F_X5_tellDoor_28
  exact (fV_ite (fV_some hF) (fI_V (Wc := W_X5_take) hF rfl (fo_F_X5_take Fr_r) (fun _ _ h1 => (fo_F_X5_tellDoor_36  h1))))
theorem fo_F_X5_tellDoor_18 {σ0 : Mm} {x1 : Int32} {s0 : Int32} {σ : Mm} (hF : Fr W_X5_tellDoor σ0 σ) : FoV W_X5_tellDoor σ0 (F_X5_tellDoor_18 x1 s0 σ) := by
  unfold F_X5_tellDoor_18
  exact (fV_ite (fV_some hF) (fI_V (Wc := W_X5_take) hF rfl (fo_F_X5_take Fr_r) (fun _ _ h1 => (fo_F_X5_tellDoor_28  h1))))
theorem fo_F_X5_tellDoor {σ0 : Mm} {σ : Mm} (hF : Fr W_X5_tellDoor σ0 σ) : FoV W_X5_tellDoor σ0 (F_X5_tellDoor σ) := by
  unfold F_X5_tellDoor
  exact (fV_ite (fI_V (Wc := W_X5_hasRoom) hF rfl (fo_F_X5_hasRoom Fr_r) (fun _ _ h1 => (fo_F_X5_tellDoor_18  h1))) fV_none)
theorem fr_X5_tellDoor {σ : Mm} : FoV W_X5_tellDoor σ (F_X5_tellDoor σ) := fo_F_X5_tellDoor Fr_r
def W_X5_blameAbove : List (Nat × Nat × Nat) := [(0, 12, 5), (0, 12, 6)]
theorem fo_F_X5_blameAbove {σ0 : Mm} {x1 : Int32} {x2 : Int32} {σ : Mm} (hF : Fr W_X5_blameAbove σ0 σ) : FoV W_X5_blameAbove σ0 (F_X5_blameAbove x1 x2 σ) := by
  unfold F_X5_blameAbove
  exact (fV_ite (fV_ite (fV_some hF) (fV_V (Wc := W_X5_blame) hF rfl (fo_F_X5_blame Fr_r) (fun _ h1 => (fV_some h1)))) fV_none)
theorem fr_X5_blameAbove {x1 : Int32} {x2 : Int32} {σ : Mm} : FoV W_X5_blameAbove σ (F_X5_blameAbove x1 x2 σ) := fo_F_X5_blameAbove Fr_r
def W_X5_tellHill : List (Nat × Nat × Nat) := [(0, 12, 0), (0, 12, 1), (0, 12, 4), (0, 12, 5), (0, 12, 6), (1, 0, 8), (1, 6, 999), (1, 7, 999), (1, 8, 999)]
theorem fo_F_X5_tellHill_160 {σ0 : Mm} {σ : Mm} (hF : Fr W_X5_tellHill σ0 σ) : FoV W_X5_tellHill σ0 (F_X5_tellHill_160 σ) := by
  unfold F_X5_tellHill_160
  exact (fV_ite (fV_some (Fr.A hF rfl)) fV_none)
theorem fo_F_X5_tellHill_140 {σ0 : Mm} {x1 : Int32} {x2 : Int32} {σ : Mm} (hF : Fr W_X5_tellHill σ0 σ) : FoV W_X5_tellHill σ0 (F_X5_tellHill_140 x1 x2 σ) := by
  unfold F_X5_tellHill_140
  exact (fV_ite (fV_ite (fV_ite (fo_F_X5_tellHill_160  (Fr.AA hF rfl)) fV_none) fV_none) fV_none)
theorem fo_F_X5_tellHill_120 {σ0 : Mm} {x1 : Int32} {x2 : Int32} {σ : Mm} (hF : Fr W_X5_tellHill σ0 σ) : FoV W_X5_tellHill σ0 (F_X5_tellHill_120 x1 x2 σ) := by
  unfold F_X5_tellHill_120
  exact (fV_ite (fV_ite (fV_ite (fo_F_X5_tellHill_140  (Fr.AA hF rfl)) fV_none) fV_none) fV_none)
theorem fo_F_X5_tellHill_92 {σ0 : Mm} {x1 : Int32} {σ : Mm} (hF : Fr W_X5_tellHill σ0 σ) : FoV W_X5_tellHill σ0 (F_X5_tellHill_92 x1 σ) := by
  unfold F_X5_tellHill_92
  exact (fV_ite (fV_ite (fV_ite (fo_F_X5_tellHill_120  (Fr.AA hF rfl)) fV_none) fV_none) fV_none)
theorem fo_F_X5_tellHill_83 {σ0 : Mm} {x1 : Int32} {σ : Mm} (hF : Fr W_X5_tellHill σ0 σ) : FoV W_X5_tellHill σ0 (F_X5_tellHill_83 x1 σ) := by
  unfold F_X5_tellHill_83
  exact (fV_V (Wc := W_X5_blameAbove) hF rfl (fo_F_X5_blameAbove Fr_r) (fun _ h1 => (fo_F_X5_tellHill_92  h1)))
theorem fo_F_X5_tellHill_73 {σ0 : Mm} {x1 : Int32} {σ : Mm} (hF : Fr W_X5_tellHill σ0 σ) : FoV W_X5_tellHill σ0 (F_X5_tellHill_73 x1 σ) := by
  unfold F_X5_tellHill_73
  exact (fV_V (Wc := W_X5_blameAbove) hF rfl (fo_F_X5_blameAbove Fr_r) (fun _ h1 => (fo_F_X5_tellHill_83  h1)))
theorem fo_F_X5_tellHill_60 {σ0 : Mm} {x1 : Int32} {s0 : Int32} {σ : Mm} (hF : Fr W_X5_tellHill σ0 σ) : FoV W_X5_tellHill σ0 (F_X5_tellHill_60 x1 s0 σ) := by
  unfold F_X5_tellHill_60
  exact (fV_ite (fV_some hF) (fV_V (Wc := W_X5_blameAbove) hF rfl (fo_F_X5_blameAbove Fr_r) (fun _ h1 => (fo_F_X5_tellHill_73  h1))))
theorem fo_F_X5_tellHill_52 {σ0 : Mm} {x1 : Int32} {s0 : Int32} {σ : Mm} (hF : Fr W_X5_tellHill σ0 σ) : FoV W_X5_tellHill σ0 (F_X5_tellHill_52 x1 s0 σ) := by
  unfold F_X5_tellHill_52
  exact (fV_ite (fV_some hF) (fI_V (Wc := W_X5_take) hF rfl (fo_F_X5_take Fr_r) (fun _ _ h1 => (fo_F_X5_tellHill_60  h1))))
theorem fo_F_X5_tellHill_44 {σ0 : Mm} {x1 : Int32} {s0 : Int32} {σ : Mm} (hF : Fr W_X5_tellHill σ0 σ) : FoV W_X5_tellHill σ0 (F_X5_tellHill_44 x1 s0 σ) := by
  unfold F_X5_tellHill_44
  exact (fV_ite (fV_some hF) (fI_V (Wc := W_X5_take) hF rfl (fo_F_X5_take Fr_r) (fun _ _ h1 => (fo_F_X5_tellHill_52  h1))))
theorem fo_F_X5_tellHill_36 {σ0 : Mm} {x1 : Int32} {s0 : Int32} {σ : Mm} (hF : Fr W_X5_tellHill σ0 σ) : FoV W_X5_tellHill σ0 (F_X5_tellHill_36 x1 s0 σ) := by
  unfold F_X5_tellHill_36
  exact (fV_ite (fV_some hF) (fI_V (Wc := W_X5_take) hF rfl (fo_F_X5_take Fr_r) (fun _ _ h1 => (fo_F_X5_tellHill_44  h1))))
theorem fo_F_X5_tellHill_28 {σ0 : Mm} {x1 : Int32} {s0 : Int32} {σ : Mm} (hF : Fr W_X5_tellHill σ0 σ) : FoV W_X5_tellHill σ0 (F_X5_tellHill_28 x1 s0 σ) := by
  unfold F_X5_tellHill_28
  exact (fV_ite (fV_some hF) (fI_V (Wc := W_X5_take) hF rfl (fo_F_X5_take Fr_r) (fun _ _ h1 => (fo_F_X5_tellHill_36  h1))))
theorem fo_F_X5_tellHill_18 {σ0 : Mm} {x1 : Int32} {s0 : Int32} {σ : Mm} (hF : Fr W_X5_tellHill σ0 σ) : FoV W_X5_tellHill σ0 (F_X5_tellHill_18 x1 s0 σ) := by
  unfold F_X5_tellHill_18
  exact (fV_ite (fV_some hF) (fI_V (Wc := W_X5_take) hF rfl (fo_F_X5_take Fr_r) (fun _ _ h1 => (fo_F_X5_tellHill_28  h1))))
theorem fo_F_X5_tellHill {σ0 : Mm} {σ : Mm} (hF : Fr W_X5_tellHill σ0 σ) : FoV W_X5_tellHill σ0 (F_X5_tellHill σ) := by
  unfold F_X5_tellHill
  exact (fV_ite (fI_V (Wc := W_X5_hasRoom) hF rfl (fo_F_X5_hasRoom Fr_r) (fun _ _ h1 => (fo_F_X5_tellHill_18  h1))) fV_none)
theorem fr_X5_tellHill {σ : Mm} : FoV W_X5_tellHill σ (F_X5_tellHill σ) := fo_F_X5_tellHill Fr_r
def W_X5_tellNear : List (Nat × Nat × Nat) := [(0, 12, 0), (0, 12, 1), (0, 12, 4), (0, 12, 5), (0, 12, 6), (1, 0, 0)]
theorem fo_F_X5_tellNear_39 {σ0 : Mm} {x1 : Int32} {σ : Mm} (hF : Fr W_X5_tellNear σ0 σ) : FoV W_X5_tellNear σ0 (F_X5_tellNear_39 x1 σ) := by
  unfold F_X5_tellNear_39
  exact (fV_ite (fV_ite (fV_some (Fr.A hF rfl)) fV_none) fV_none)
theorem fo_F_X5_tellNear_27 {σ0 : Mm} {x1 : Int32} {s0 : Int32} {σ : Mm} (hF : Fr W_X5_tellNear σ0 σ) : FoV W_X5_tellNear σ0 (F_X5_tellNear_27 x1 s0 σ) := by
  unfold F_X5_tellNear_27
  exact (fV_ite (fV_some hF) (fV_V (Wc := W_X5_blameAbove) hF rfl (fo_F_X5_blameAbove Fr_r) (fun _ h1 => (fo_F_X5_tellNear_39  h1))))
theorem fo_F_X5_tellNear_19 {σ0 : Mm} {x1 : Int32} {s0 : Int32} {σ : Mm} (hF : Fr W_X5_tellNear σ0 σ) : FoV W_X5_tellNear σ0 (F_X5_tellNear_19 x1 s0 σ) := by
  unfold F_X5_tellNear_19
  exact (fV_ite (fV_some hF) (fI_V (Wc := W_X5_take) hF rfl (fo_F_X5_take Fr_r) (fun _ _ h1 => (fo_F_X5_tellNear_27  h1))))
theorem fo_F_X5_tellNear_11 {σ0 : Mm} {x1 : Int32} {s0 : Int32} {σ : Mm} (hF : Fr W_X5_tellNear σ0 σ) : FoV W_X5_tellNear σ0 (F_X5_tellNear_11 x1 s0 σ) := by
  unfold F_X5_tellNear_11
  exact (fV_ite (fV_some hF) (fI_V (Wc := W_X5_take) hF rfl (fo_F_X5_take Fr_r) (fun _ _ h1 => (fo_F_X5_tellNear_19  h1))))
theorem fo_F_X5_tellNear {σ0 : Mm} {σ : Mm} (hF : Fr W_X5_tellNear σ0 σ) : FoV W_X5_tellNear σ0 (F_X5_tellNear σ) := by
  unfold F_X5_tellNear
  exact (fI_V (Wc := W_X5_take) hF rfl (fo_F_X5_take Fr_r) (fun _ _ h1 => (fo_F_X5_tellNear_11  h1)))
theorem fr_X5_tellNear {σ : Mm} : FoV W_X5_tellNear σ (F_X5_tellNear σ) := fo_F_X5_tellNear Fr_r
def W_X5_literal : List (Nat × Nat × Nat) := [(0, 12, 0), (0, 12, 1), (0, 12, 4), (1, 10, 0), (1, 11, 999), (1, 12, 999)]
theorem fo_F_X5_literal_95 {σ0 : Mm} {x1 : Int32} {σ : Mm} (hF : Fr W_X5_literal σ0 σ) : FoV W_X5_literal σ0 (F_X5_literal_95 x1 σ) := by
  unfold F_X5_literal_95
  exact (fV_ite (fV_some hF) (fV_ite (fV_V (Wc := W_X0_put) hF rfl (fo_F_X0_put Fr_r) (fun _ h1 => (fV_some h1))) fV_none))
theorem fo_F_X5_literal_83 {σ0 : Mm} {x1 : Int32} {x2 : Int32} {σ : Mm} (hF : Fr W_X5_literal σ0 σ) : FoV W_X5_literal σ0 (F_X5_literal_83 x1 x2 σ) := by
  unfold F_X5_literal_83
  exact (fV_ite (fV_V (Wc := W_X0_put) hF rfl (fo_F_X0_put Fr_r) (fun _ h1 => (fo_F_X5_literal_95  h1))) fV_none)
theorem fo_F_X5_literal_77 {σ0 : Mm} {x1 : Int32} {x2 : Int32} {s0 : Int32} {σ : Mm} (hF : Fr W_X5_literal σ0 σ) : FoV W_X5_literal σ0 (F_X5_literal_77 x1 x2 s0 σ) := by
  unfold F_X5_literal_77
  exact (fV_V (Wc := W_FS) hF rfl (fo_FS 8 Fr_r) (fun _ h1 => (fo_F_X5_literal_83  h1)))
theorem fo_F_X5_literal_72 {σ0 : Mm} {x1 : Int32} {x2 : Int32} {σ : Mm} (hF : Fr W_X5_literal σ0 σ) : FoV W_X5_literal σ0 (F_X5_literal_72 x1 x2 σ) := by
  unfold F_X5_literal_72
  exact (fI_V (Wc := W_X5_take) hF rfl (fo_F_X5_take Fr_r) (fun _ _ h1 => (fo_F_X5_literal_77  h1)))
theorem fo_F_X5_literal_67 {σ0 : Mm} {x1 : Int32} {x2 : Int32} {σ : Mm} (hF : Fr W_X5_literal σ0 σ) : FoV W_X5_literal σ0 (F_X5_literal_67 x1 x2 σ) := by
  unfold F_X5_literal_67
  exact (fV_V (Wc := W_X5_stop) hF rfl (fo_F_X5_stop Fr_r) (fun _ h1 => (fo_F_X5_literal_72  h1)))
theorem fo_F_X5_literal_54 {σ0 : Mm} {x1 : Int32} {s0 : Int32} {σ : Mm} (hF : Fr W_X5_literal σ0 σ) : FoV W_X5_literal σ0 (F_X5_literal_54 x1 s0 σ) := by
  unfold F_X5_literal_54
  exact (fV_ite (fo_F_X5_literal_67  hF) (fV_ite (fo_F_X5_literal_72  hF) (fo_F_X5_literal_67  hF)))
theorem fo_F_X5_literal_50 {σ0 : Mm} {x1 : Int32} {σ : Mm} (hF : Fr W_X5_literal σ0 σ) : FoV W_X5_literal σ0 (F_X5_literal_50 x1 σ) := by
  unfold F_X5_literal_50
  exact (fI_V (Wc := W_X5_kindHere) hF rfl (fo_F_X5_kindHere Fr_r) (fun _ _ h1 => (fo_F_X5_literal_54  h1)))
theorem fo_F_X5_literal_45 {σ0 : Mm} {x1 : Int32} {σ : Mm} (hF : Fr W_X5_literal σ0 σ) : FoV W_X5_literal σ0 (F_X5_literal_45 x1 σ) := by
  unfold F_X5_literal_45
  exact (fV_V (Wc := W_FS) hF rfl (fo_FS 8 Fr_r) (fun _ h1 => (fo_F_X5_literal_50  h1)))
theorem fo_F_X5_literal_38 {σ0 : Mm} {rc4 : Int32 → Int32 → Mm → Option (Mm)} (hrc4 : ∀ a0 a1 τ, Fr W_X5_literal σ0 τ → FoV W_X5_literal σ0 (rc4 a0 a1 τ)) {x2 : Int32} {s0 : Int32} {σ : Mm} (hF : Fr W_X5_literal σ0 σ) : FoV W_X5_literal σ0 (F_X5_literal_38 rc4 x2 s0 σ) := by
  unfold F_X5_literal_38
  exact (hrc4 _ _ _ hF)
theorem fo_F_X5_literal_26 {σ0 : Mm} {rc4 : Int32 → Int32 → Mm → Option (Mm)} (hrc4 : ∀ a0 a1 τ, Fr W_X5_literal σ0 τ → FoV W_X5_literal σ0 (rc4 a0 a1 τ)) {x1 : Int32} {x2 : Int32} {s0 : Int32} {σ : Mm} (hF : Fr W_X5_literal σ0 σ) : FoV W_X5_literal σ0 (F_X5_literal_26 rc4 x1 x2 s0 σ) := by
  unfold F_X5_literal_26
  exact (fV_ite (fo_F_X5_literal_45  hF) (fV_ite (fo_F_X5_literal_38 hrc4 hF) (fo_F_X5_literal_38 hrc4 hF)))
theorem fo_F_X5_literal_15 {σ0 : Mm} {rc4 : Int32 → Int32 → Mm → Option (Mm)} (hrc4 : ∀ a0 a1 τ, Fr W_X5_literal σ0 τ → FoV W_X5_literal σ0 (rc4 a0 a1 τ)) {x1 : Int32} {x2 : Int32} {s0 : Int32} {σ : Mm} (hF : Fr W_X5_literal σ0 σ) : FoV W_X5_literal σ0 (F_X5_literal_15 rc4 x1 x2 s0 σ) := by
  unfold F_X5_literal_15
  exact (fV_ite (fI_V (Wc := W_X5_take) hF rfl (fo_F_X5_take Fr_r) (fun _ _ h1 => (fo_F_X5_literal_26 hrc4 h1))) (fo_F_X5_literal_45  hF))
theorem fo_B_X5_literal_4 {σ0 : Mm} {rc4 : Int32 → Int32 → Mm → Option (Mm)} (hrc4 : ∀ a0 a1 τ, Fr W_X5_literal σ0 τ → FoV W_X5_literal σ0 (rc4 a0 a1 τ)) {x1 : Int32} {x2 : Int32} {σ : Mm} (hF : Fr W_X5_literal σ0 σ) : FoV W_X5_literal σ0 (B_X5_literal_4 rc4 x1 x2 σ) := by
  unfold B_X5_literal_4
  exact (fV_ite (fo_F_X5_literal_45  hF) (fI_V (Wc := W_X5_kindHere) hF rfl (fo_F_X5_kindHere Fr_r) (fun _ _ h1 => (fo_F_X5_literal_15 hrc4 h1))))
theorem fo_F_X5_literal_4 {σ0 : Mm} (n : Nat) : ∀ {y0 : Int32} {y1 : Int32} {σ : Mm}, Fr W_X5_literal σ0 σ → FoV W_X5_literal σ0 (F_X5_literal_4  n y0 y1 σ) := by
  induction n with
  | zero => intro y0 y1 σ _; exact fV_none
  | succ n ih => intro y0 y1 σ hF; exact fo_B_X5_literal_4  (fun _ _ _ h => ih h) hF
theorem fo_F_X5_literal {σ0 : Mm} {σ : Mm} (hF : Fr W_X5_literal σ0 σ) : FoV W_X5_literal σ0 (F_X5_literal σ) := by
  unfold F_X5_literal
  exact (fo_F_X5_literal_4  FU hF)
theorem fr_X5_literal {σ : Mm} : FoV W_X5_literal σ (F_X5_literal σ) := fo_F_X5_literal Fr_r
def W_X5_tellRule : List (Nat × Nat × Nat) := [(0, 12, 0), (0, 12, 1), (0, 12, 4), (1, 0, 14), (1, 10, 0), (1, 11, 999), (1, 12, 999), (1, 13, 999), (1, 14, 999)]
theorem fo_F_X5_tellRule_192 {σ0 : Mm} {s0 : Int32} {σ : Mm} (hF : Fr W_X5_tellRule σ0 σ) : FoV W_X5_tellRule σ0 (F_X5_tellRule_192 s0 σ) := by
  unfold F_X5_tellRule_192
  exact (fV_ite (fV_some (Fr.A hF rfl)) fV_none)
theorem fo_F_X5_tellRule_187 {σ0 : Mm} {σ : Mm} (hF : Fr W_X5_tellRule σ0 σ) : FoV W_X5_tellRule σ0 (F_X5_tellRule_187 σ) := by
  unfold F_X5_tellRule_187
  exact (fI_V (Wc := W_X5_take) hF rfl (fo_F_X5_take Fr_r) (fun _ _ h1 => (fo_F_X5_tellRule_192  h1)))
theorem fo_F_X5_tellRule_176 {σ0 : Mm} {x1 : Int32} {σ : Mm} (hF : Fr W_X5_tellRule σ0 σ) : FoV W_X5_tellRule σ0 (F_X5_tellRule_176 x1 σ) := by
  unfold F_X5_tellRule_176
  exact (fV_ite (fV_V (Wc := W_X0_close) hF rfl (fo_F_X0_close Fr_r) (fun _ h1 => (fo_F_X5_tellRule_187  h1))) fV_none)
theorem fo_F_X5_tellRule_159 {σ0 : Mm} {x1 : Int32} {x2 : Int32} {σ : Mm} (hF : Fr W_X5_tellRule σ0 σ) : FoV W_X5_tellRule σ0 (F_X5_tellRule_159 x1 x2 σ) := by
  unfold F_X5_tellRule_159
  exact (fV_ite (fo_F_X5_tellRule_176  hF) (fV_ite (fV_V (Wc := W_X0_put) hF rfl (fo_F_X0_put Fr_r) (fun _ h1 => (fo_F_X5_tellRule_176  h1))) fV_none))
theorem fo_F_X5_tellRule_153 {σ0 : Mm} {rc60 : Int32 → Int32 → Int32 → Mm → Option (Mm)} (hrc60 : ∀ a0 a1 a2 τ, Fr W_X5_tellRule σ0 τ → FoV W_X5_tellRule σ0 (rc60 a0 a1 a2 τ)) {x1 : Int32} {x2 : Int32} {x3 : Int32} {σ : Mm} (hF : Fr W_X5_tellRule σ0 σ) : FoV W_X5_tellRule σ0 (F_X5_tellRule_153 rc60 x1 x2 x3 σ) := by
  unfold F_X5_tellRule_153
  exact (hrc60 _ _ _ _ hF)
theorem fo_F_X5_tellRule_147 {σ0 : Mm} {rc60 : Int32 → Int32 → Int32 → Mm → Option (Mm)} (hrc60 : ∀ a0 a1 a2 τ, Fr W_X5_tellRule σ0 τ → FoV W_X5_tellRule σ0 (rc60 a0 a1 a2 τ)) {x1 : Int32} {x3 : Int32} {σ : Mm} (hF : Fr W_X5_tellRule σ0 σ) : FoV W_X5_tellRule σ0 (F_X5_tellRule_147 rc60 x1 x3 σ) := by
  unfold F_X5_tellRule_147
  exact (fV_V (Wc := W_X5_literal) hF rfl (fo_F_X5_literal Fr_r) (fun _ h1 => (fo_F_X5_tellRule_153 hrc60 h1)))
theorem fo_F_X5_tellRule_127 {σ0 : Mm} {rc60 : Int32 → Int32 → Int32 → Mm → Option (Mm)} (hrc60 : ∀ a0 a1 a2 τ, Fr W_X5_tellRule σ0 τ → FoV W_X5_tellRule σ0 (rc60 a0 a1 a2 τ)) {x1 : Int32} {x2 : Int32} {x3 : Int32} {s0 : Int32} {σ : Mm} (hF : Fr W_X5_tellRule σ0 σ) : FoV W_X5_tellRule σ0 (F_X5_tellRule_127 rc60 x1 x2 x3 s0 σ) := by
  unfold F_X5_tellRule_127
  exact (fV_ite (fo_F_X5_tellRule_159  hF) (fV_ite (fo_F_X5_tellRule_147 hrc60 hF) (fV_ite (fV_V (Wc := W_X0_put) hF rfl (fo_F_X0_put Fr_r) (fun _ h1 => (fo_F_X5_tellRule_147 hrc60 h1))) fV_none)))
theorem fo_F_X5_tellRule_116 {σ0 : Mm} {rc60 : Int32 → Int32 → Int32 → Mm → Option (Mm)} (hrc60 : ∀ a0 a1 a2 τ, Fr W_X5_tellRule σ0 τ → FoV W_X5_tellRule σ0 (rc60 a0 a1 a2 τ)) {x1 : Int32} {x2 : Int32} {x3 : Int32} {s0 : Int32} {σ : Mm} (hF : Fr W_X5_tellRule σ0 σ) : FoV W_X5_tellRule σ0 (F_X5_tellRule_116 rc60 x1 x2 x3 s0 σ) := by
  unfold F_X5_tellRule_116
  exact (fV_ite (fI_V (Wc := W_X5_take) hF rfl (fo_F_X5_take Fr_r) (fun _ _ h1 => (fo_F_X5_tellRule_127 hrc60 h1))) (fo_F_X5_tellRule_159  hF))
theorem fo_F_X5_tellRule_112 {σ0 : Mm} {rc60 : Int32 → Int32 → Int32 → Mm → Option (Mm)} (hrc60 : ∀ a0 a1 a2 τ, Fr W_X5_tellRule σ0 τ → FoV W_X5_tellRule σ0 (rc60 a0 a1 a2 τ)) {x1 : Int32} {x2 : Int32} {x3 : Int32} {σ : Mm} (hF : Fr W_X5_tellRule σ0 σ) : FoV W_X5_tellRule σ0 (F_X5_tellRule_112 rc60 x1 x2 x3 σ) := by
  unfold F_X5_tellRule_112
  exact (fI_V (Wc := W_X5_kindHere) hF rfl (fo_F_X5_kindHere Fr_r) (fun _ _ h1 => (fo_F_X5_tellRule_116 hrc60 h1)))
theorem fo_F_X5_tellRule_109 {σ0 : Mm} {rc60 : Int32 → Int32 → Int32 → Mm → Option (Mm)} (hrc60 : ∀ a0 a1 a2 τ, Fr W_X5_tellRule σ0 τ → FoV W_X5_tellRule σ0 (rc60 a0 a1 a2 τ)) {x1 : Int32} {x2 : Int32} {x3 : Int32} {σ : Mm} (hF : Fr W_X5_tellRule σ0 σ) : FoV W_X5_tellRule σ0 (F_X5_tellRule_109 rc60 x1 x2 x3 σ) := by
  unfold F_X5_tellRule_109
  exact (fo_F_X5_tellRule_153 hrc60 hF)
theorem fo_F_X5_tellRule_96 {σ0 : Mm} {rc60 : Int32 → Int32 → Int32 → Mm → Option (Mm)} (hrc60 : ∀ a0 a1 a2 τ, Fr W_X5_tellRule σ0 τ → FoV W_X5_tellRule σ0 (rc60 a0 a1 a2 τ)) {x1 : Int32} {x2 : Int32} {x3 : Int32} {σ : Mm} (hF : Fr W_X5_tellRule σ0 σ) : FoV W_X5_tellRule σ0 (F_X5_tellRule_96 rc60 x1 x2 x3 σ) := by
  unfold F_X5_tellRule_96
  exact (fV_ite (fV_V (Wc := W_X0_put) hF rfl (fo_F_X0_put Fr_r) (fun _ h1 => (fo_F_X5_tellRule_109 hrc60 h1))) fV_none)
theorem fo_F_X5_tellRule_89 {σ0 : Mm} {rc60 : Int32 → Int32 → Int32 → Mm → Option (Mm)} (hrc60 : ∀ a0 a1 a2 τ, Fr W_X5_tellRule σ0 τ → FoV W_X5_tellRule σ0 (rc60 a0 a1 a2 τ)) {x1 : Int32} {x2 : Int32} {x3 : Int32} {s0 : Int32} {σ : Mm} (hF : Fr W_X5_tellRule σ0 σ) : FoV W_X5_tellRule σ0 (F_X5_tellRule_89 rc60 x1 x2 x3 s0 σ) := by
  unfold F_X5_tellRule_89
  exact (fV_ite (fo_F_X5_tellRule_112 hrc60 hF) (fV_V (Wc := W_X5_literal) hF rfl (fo_F_X5_literal Fr_r) (fun _ h1 => (fo_F_X5_tellRule_96 hrc60 h1))))
theorem fo_F_X5_tellRule_78 {σ0 : Mm} {rc60 : Int32 → Int32 → Int32 → Mm → Option (Mm)} (hrc60 : ∀ a0 a1 a2 τ, Fr W_X5_tellRule σ0 τ → FoV W_X5_tellRule σ0 (rc60 a0 a1 a2 τ)) {x1 : Int32} {x2 : Int32} {x3 : Int32} {s0 : Int32} {σ : Mm} (hF : Fr W_X5_tellRule σ0 σ) : FoV W_X5_tellRule σ0 (F_X5_tellRule_78 rc60 x1 x2 x3 s0 σ) := by
  unfold F_X5_tellRule_78
  exact (fV_ite (fI_V (Wc := W_X5_take) hF rfl (fo_F_X5_take Fr_r) (fun _ _ h1 => (fo_F_X5_tellRule_89 hrc60 h1))) (fo_F_X5_tellRule_112 hrc60 hF))
theorem fo_B_X5_tellRule_60 {σ0 : Mm} {rc60 : Int32 → Int32 → Int32 → Mm → Option (Mm)} (hrc60 : ∀ a0 a1 a2 τ, Fr W_X5_tellRule σ0 τ → FoV W_X5_tellRule σ0 (rc60 a0 a1 a2 τ)) {x1 : Int32} {x2 : Int32} {x3 : Int32} {σ : Mm} (hF : Fr W_X5_tellRule σ0 σ) : FoV W_X5_tellRule σ0 (B_X5_tellRule_60 rc60 x1 x2 x3 σ) := by
  unfold B_X5_tellRule_60
  exact (fV_ite (fo_F_X5_tellRule_159  hF) (fV_ite (fI_V (Wc := W_X5_kindHere) hF rfl (fo_F_X5_kindHere Fr_r) (fun _ _ h1 => (fo_F_X5_tellRule_78 hrc60 h1))) (fo_F_X5_tellRule_159  hF)))
theorem fo_F_X5_tellRule_60 {σ0 : Mm} (n : Nat) : ∀ {y0 : Int32} {y1 : Int32} {y2 : Int32} {σ : Mm}, Fr W_X5_tellRule σ0 σ → FoV W_X5_tellRule σ0 (F_X5_tellRule_60  n y0 y1 y2 σ) := by
  induction n with
  | zero => intro y0 y1 y2 σ _; exact fV_none
  | succ n ih => intro y0 y1 y2 σ hF; exact fo_B_X5_tellRule_60  (fun _ _ _ _ h => ih h) hF
theorem fo_F_X5_tellRule_56 {σ0 : Mm} {x1 : Int32} {σ : Mm} (hF : Fr W_X5_tellRule σ0 σ) : FoV W_X5_tellRule σ0 (F_X5_tellRule_56 x1 σ) := by
  unfold F_X5_tellRule_56
  exact (fo_F_X5_tellRule_60  FU hF)
theorem fo_F_X5_tellRule_52 {σ0 : Mm} {x1 : Int32} {σ : Mm} (hF : Fr W_X5_tellRule σ0 σ) : FoV W_X5_tellRule σ0 (F_X5_tellRule_52 x1 σ) := by
  unfold F_X5_tellRule_52
  exact (fV_V (Wc := W_X5_literal) hF rfl (fo_F_X5_literal Fr_r) (fun _ h1 => (fo_F_X5_tellRule_56  h1)))
theorem fo_F_X5_tellRule_40 {σ0 : Mm} {x1 : Int32} {s0 : Int32} {σ : Mm} (hF : Fr W_X5_tellRule σ0 σ) : FoV W_X5_tellRule σ0 (F_X5_tellRule_40 x1 s0 σ) := by
  unfold F_X5_tellRule_40
  exact (fV_ite (fV_V (Wc := W_X0_open) hF rfl (fo_F_X0_open Fr_r) (fun _ h1 => (fo_F_X5_tellRule_52  h1))) fV_none)
theorem fo_F_X5_tellRule_33 {σ0 : Mm} {x1 : Int32} {s0 : Int32} {σ : Mm} (hF : Fr W_X5_tellRule σ0 σ) : FoV W_X5_tellRule σ0 (F_X5_tellRule_33 x1 s0 σ) := by
  unfold F_X5_tellRule_33
  exact (fI_V (Wc := W_X5_take) hF rfl (fo_F_X5_take Fr_r) (fun _ _ h1 => (fo_F_X5_tellRule_40  h1)))
theorem fo_F_X5_tellRule_27 {σ0 : Mm} {x1 : Int32} {σ : Mm} (hF : Fr W_X5_tellRule σ0 σ) : FoV W_X5_tellRule σ0 (F_X5_tellRule_27 x1 σ) := by
  unfold F_X5_tellRule_27
  exact (fI_V (Wc := W_X5_take) hF rfl (fo_F_X5_take Fr_r) (fun _ _ h1 => (fo_F_X5_tellRule_33  h1)))
theorem fo_F_X5_tellRule_13 {σ0 : Mm} {s0 : Int32} {σ : Mm} (hF : Fr W_X5_tellRule σ0 σ) : FoV W_X5_tellRule σ0 (F_X5_tellRule_13 s0 σ) := by
  unfold F_X5_tellRule_13
  exact (fV_ite (fV_some hF) (fV_ite (fo_F_X5_tellRule_27  hF) fV_none))
theorem fo_F_X5_tellRule {σ0 : Mm} {σ : Mm} (hF : Fr W_X5_tellRule σ0 σ) : FoV W_X5_tellRule σ0 (F_X5_tellRule σ) := by
  unfold F_X5_tellRule
  exact (fV_ite (fI_V (Wc := W_X5_hasRoom) hF rfl (fo_F_X5_hasRoom Fr_r) (fun _ _ h1 => (fo_F_X5_tellRule_13  h1))) fV_none)
theorem fr_X5_tellRule {σ : Mm} : FoV W_X5_tellRule σ (F_X5_tellRule σ) := fo_F_X5_tellRule Fr_r
def W_X5_blameIfNamed : List (Nat × Nat × Nat) := [(0, 12, 5), (0, 12, 6)]
theorem fo_F_X5_blameIfNamed_64 {σ0 : Mm} {rc25 : Int32 → Int32 → Int32 → Mm → Option (Mm)} (hrc25 : ∀ a0 a1 a2 τ, Fr W_X5_blameIfNamed σ0 τ → FoV W_X5_blameIfNamed σ0 (rc25 a0 a1 a2 τ)) {x1 : Int32} {x3 : Int32} {s0 : Int32} {σ : Mm} (hF : Fr W_X5_blameIfNamed σ0 σ) : FoV W_X5_blameIfNamed σ0 (F_X5_blameIfNamed_64 rc25 x1 x3 s0 σ) := by
  unfold F_X5_blameIfNamed_64
  exact (hrc25 _ _ _ _ hF)
theorem fo_F_X5_blameIfNamed_59 {σ0 : Mm} {rc25 : Int32 → Int32 → Int32 → Mm → Option (Mm)} (hrc25 : ∀ a0 a1 a2 τ, Fr W_X5_blameIfNamed σ0 τ → FoV W_X5_blameIfNamed σ0 (rc25 a0 a1 a2 τ)) {x1 : Int32} {x3 : Int32} {σ : Mm} (hF : Fr W_X5_blameIfNamed σ0 σ) : FoV W_X5_blameIfNamed σ0 (F_X5_blameIfNamed_59 rc25 x1 x3 σ) := by
  unfold F_X5_blameIfNamed_59
  exact (fo_F_X5_blameIfNamed_64 hrc25 hF)
theorem fo_B_X5_blameIfNamed_25 {σ0 : Mm} {rc25 : Int32 → Int32 → Int32 → Mm → Option (Mm)} (hrc25 : ∀ a0 a1 a2 τ, Fr W_X5_blameIfNamed σ0 τ → FoV W_X5_blameIfNamed σ0 (rc25 a0 a1 a2 τ)) {x1 : Int32} {x2 : Int32} {x3 : Int32} {σ : Mm} (hF : Fr W_X5_blameIfNamed σ0 σ) : FoV W_X5_blameIfNamed σ0 (B_X5_blameIfNamed_25 rc25 x1 x2 x3 σ) := by
  unfold B_X5_blameIfNamed_25
  exact (fV_ite (fV_ite (fV_ite (fV_some hF) (fV_V (Wc := W_X5_blame) hF rfl (fo_F_X5_blame Fr_r) (fun _ h1 => (fV_some h1)))) (fV_ite (fV_ite (fV_ite (fV_ite (fo_F_X5_blameIfNamed_59 hrc25 hF) (fo_F_X5_blameIfNamed_64 hrc25 hF)) fV_none) fV_none) (fo_F_X5_blameIfNamed_59 hrc25 hF))) fV_none)
theorem fo_F_X5_blameIfNamed_25 {σ0 : Mm} (n : Nat) : ∀ {y0 : Int32} {y1 : Int32} {y2 : Int32} {σ : Mm}, Fr W_X5_blameIfNamed σ0 σ → FoV W_X5_blameIfNamed σ0 (F_X5_blameIfNamed_25  n y0 y1 y2 σ) := by
  induction n with
  | zero => intro y0 y1 y2 σ _; exact fV_none
  | succ n ih => intro y0 y1 y2 σ hF; exact fo_B_X5_blameIfNamed_25  (fun _ _ _ _ h => ih h) hF
theorem fo_F_X5_blameIfNamed_22 {σ0 : Mm} {x1 : Int32} {s0 : Int32} {σ : Mm} (hF : Fr W_X5_blameIfNamed σ0 σ) : FoV W_X5_blameIfNamed σ0 (F_X5_blameIfNamed_22 x1 s0 σ) := by
  unfold F_X5_blameIfNamed_22
  exact (fo_F_X5_blameIfNamed_25  FU hF)
theorem fo_F_X5_blameIfNamed_13 {σ0 : Mm} {x1 : Int32} {s0 : Int32} {σ : Mm} (hF : Fr W_X5_blameIfNamed σ0 σ) : FoV W_X5_blameIfNamed σ0 (F_X5_blameIfNamed_13 x1 s0 σ) := by
  unfold F_X5_blameIfNamed_13
  exact (fV_ite (fo_F_X5_blameIfNamed_22  hF) (fo_F_X5_blameIfNamed_22  hF))
theorem fo_F_X5_blameIfNamed {σ0 : Mm} {x1 : Int32} {σ : Mm} (hF : Fr W_X5_blameIfNamed σ0 σ) : FoV W_X5_blameIfNamed σ0 (F_X5_blameIfNamed x1 σ) := by
  unfold F_X5_blameIfNamed
  exact (fV_ite (fI_V (Wc := W_X5_thingNamed) hF rfl (fo_F_X5_thingNamed Fr_r) (fun _ _ h1 => (fo_F_X5_blameIfNamed_13  h1))) fV_none)
theorem fr_X5_blameIfNamed {x1 : Int32} {σ : Mm} : FoV W_X5_blameIfNamed σ (F_X5_blameIfNamed x1 σ) := fo_F_X5_blameIfNamed Fr_r
def W_X5_tellSky : List (Nat × Nat × Nat) := [(0, 12, 0), (0, 12, 1), (0, 12, 4), (0, 12, 5), (0, 12, 6), (0, 14, 999), (1, 0, 12), (1, 9, 999), (1, 10, 0), (1, 11, 999), (1, 12, 999), (1, 13, 999), (1, 14, 999)]
theorem fo_F_X5_tellSky_173 {σ0 : Mm} {s0 : Int32} {σ : Mm} (hF : Fr W_X5_tellSky σ0 σ) : FoV W_X5_tellSky σ0 (F_X5_tellSky_173 s0 σ) := by
  unfold F_X5_tellSky_173
  exact (fV_ite (fV_some (Fr.A hF rfl)) fV_none)
theorem fo_F_X5_tellSky_168 {σ0 : Mm} {σ : Mm} (hF : Fr W_X5_tellSky σ0 σ) : FoV W_X5_tellSky σ0 (F_X5_tellSky_168 σ) := by
  unfold F_X5_tellSky_168
  exact (fI_V (Wc := W_X5_take) hF rfl (fo_F_X5_take Fr_r) (fun _ _ h1 => (fo_F_X5_tellSky_173  h1)))
theorem fo_F_X5_tellSky_157 {σ0 : Mm} {x2 : Int32} {σ : Mm} (hF : Fr W_X5_tellSky σ0 σ) : FoV W_X5_tellSky σ0 (F_X5_tellSky_157 x2 σ) := by
  unfold F_X5_tellSky_157
  exact (fV_ite (fV_V (Wc := W_X0_close) hF rfl (fo_F_X0_close Fr_r) (fun _ h1 => (fo_F_X5_tellSky_168  h1))) fV_none)
theorem fo_F_X5_tellSky_152 {σ0 : Mm} {x2 : Int32} {σ : Mm} (hF : Fr W_X5_tellSky σ0 σ) : FoV W_X5_tellSky σ0 (F_X5_tellSky_152 x2 σ) := by
  unfold F_X5_tellSky_152
  exact (fV_V (Wc := W_FS) hF rfl (fo_FS 8 Fr_r) (fun _ h1 => (fo_F_X5_tellSky_157  h1)))
theorem fo_F_X5_tellSky_140 {σ0 : Mm} {x2 : Int32} {s0 : Int32} {σ : Mm} (hF : Fr W_X5_tellSky σ0 σ) : FoV W_X5_tellSky σ0 (F_X5_tellSky_140 x2 s0 σ) := by
  unfold F_X5_tellSky_140
  exact (fV_ite (fV_V (Wc := W_X0_open) hF rfl (fo_F_X0_open Fr_r) (fun _ h1 => (fo_F_X5_tellSky_152  h1))) fV_none)
theorem fo_F_X5_tellSky_135 {σ0 : Mm} {x2 : Int32} {σ : Mm} (hF : Fr W_X5_tellSky σ0 σ) : FoV W_X5_tellSky σ0 (F_X5_tellSky_135 x2 σ) := by
  unfold F_X5_tellSky_135
  exact (fI_V (Wc := W_X5_take) hF rfl (fo_F_X5_take Fr_r) (fun _ _ h1 => (fo_F_X5_tellSky_140  h1)))
theorem fo_F_X5_tellSky_118 {σ0 : Mm} {x1 : Int32} {x2 : Int32} {σ : Mm} (hF : Fr W_X5_tellSky σ0 σ) : FoV W_X5_tellSky σ0 (F_X5_tellSky_118 x1 x2 σ) := by
  unfold F_X5_tellSky_118
  exact (fV_ite (fV_ite (fo_F_X5_tellSky_135  (Fr.LL hF rfl)) fV_none) fV_none)
theorem fo_F_X5_tellSky_98 {σ0 : Mm} {x1 : Int32} {x2 : Int32} {σ : Mm} (hF : Fr W_X5_tellSky σ0 σ) : FoV W_X5_tellSky σ0 (F_X5_tellSky_98 x1 x2 σ) := by
  unfold F_X5_tellSky_98
  exact (fV_ite (fV_ite (fV_ite (fo_F_X5_tellSky_118  (Fr.AA hF rfl)) fV_none) fV_none) fV_none)
theorem fo_F_X5_tellSky_86 {σ0 : Mm} {x1 : Int32} {x2 : Int32} {s0 : Int32} {σ : Mm} (hF : Fr W_X5_tellSky σ0 σ) : FoV W_X5_tellSky σ0 (F_X5_tellSky_86 x1 x2 s0 σ) := by
  unfold F_X5_tellSky_86
  exact (fV_ite (fo_F_X5_tellSky_118  hF) (fV_V (Wc := W_X5_blameAbove) hF rfl (fo_F_X5_blameAbove Fr_r) (fun _ h1 => (fo_F_X5_tellSky_98  h1))))
theorem fo_F_X5_tellSky_78 {σ0 : Mm} {x1 : Int32} {x2 : Int32} {s0 : Int32} {σ : Mm} (hF : Fr W_X5_tellSky σ0 σ) : FoV W_X5_tellSky σ0 (F_X5_tellSky_78 x1 x2 s0 σ) := by
  unfold F_X5_tellSky_78
  exact (fV_ite (fo_F_X5_tellSky_118  hF) (fI_V (Wc := W_X5_take) hF rfl (fo_F_X5_take Fr_r) (fun _ _ h1 => (fo_F_X5_tellSky_86  h1))))
theorem fo_F_X5_tellSky_67 {σ0 : Mm} {x1 : Int32} {x2 : Int32} {s0 : Int32} {σ : Mm} (hF : Fr W_X5_tellSky σ0 σ) : FoV W_X5_tellSky σ0 (F_X5_tellSky_67 x1 x2 s0 σ) := by
  unfold F_X5_tellSky_67
  exact (fV_ite (fI_V (Wc := W_X5_take) hF rfl (fo_F_X5_take Fr_r) (fun _ _ h1 => (fo_F_X5_tellSky_78  h1))) (fo_F_X5_tellSky_118  hF))
theorem fo_F_X5_tellSky_63 {σ0 : Mm} {x1 : Int32} {x2 : Int32} {σ : Mm} (hF : Fr W_X5_tellSky σ0 σ) : FoV W_X5_tellSky σ0 (F_X5_tellSky_63 x1 x2 σ) := by
  unfold F_X5_tellSky_63
  exact (fI_V (Wc := W_X5_kindHere) hF rfl (fo_F_X5_kindHere Fr_r) (fun _ _ h1 => (fo_F_X5_tellSky_67  h1)))
theorem fo_F_X5_tellSky_45 {σ0 : Mm} {x1 : Int32} {σ : Mm} (hF : Fr W_X5_tellSky σ0 σ) : FoV W_X5_tellSky σ0 (F_X5_tellSky_45 x1 σ) := by
  unfold F_X5_tellSky_45
  exact (fV_ite (fV_ite (fo_F_X5_tellSky_63  (Fr.AA hF rfl)) fV_none) fV_none)
theorem fo_F_X5_tellSky_34 {σ0 : Mm} {x1 : Int32} {s0 : Int32} {σ : Mm} (hF : Fr W_X5_tellSky σ0 σ) : FoV W_X5_tellSky σ0 (F_X5_tellSky_34 x1 s0 σ) := by
  unfold F_X5_tellSky_34
  exact (fV_ite (fV_some hF) (fV_V (Wc := W_X5_blameIfNamed) hF rfl (fo_F_X5_blameIfNamed Fr_r) (fun _ h1 => (fo_F_X5_tellSky_45  h1))))
theorem fo_F_X5_tellSky_26 {σ0 : Mm} {x1 : Int32} {s0 : Int32} {σ : Mm} (hF : Fr W_X5_tellSky σ0 σ) : FoV W_X5_tellSky σ0 (F_X5_tellSky_26 x1 s0 σ) := by
  unfold F_X5_tellSky_26
  exact (fV_ite (fV_some hF) (fI_V (Wc := W_X5_take) hF rfl (fo_F_X5_take Fr_r) (fun _ _ h1 => (fo_F_X5_tellSky_34  h1))))
theorem fo_F_X5_tellSky_17 {σ0 : Mm} {x1 : Int32} {s0 : Int32} {σ : Mm} (hF : Fr W_X5_tellSky σ0 σ) : FoV W_X5_tellSky σ0 (F_X5_tellSky_17 x1 s0 σ) := by
  unfold F_X5_tellSky_17
  exact (fV_ite (fV_some hF) (fI_V (Wc := W_X5_take) hF rfl (fo_F_X5_take Fr_r) (fun _ _ h1 => (fo_F_X5_tellSky_26  h1))))
theorem fo_F_X5_tellSky {σ0 : Mm} {σ : Mm} (hF : Fr W_X5_tellSky σ0 σ) : FoV W_X5_tellSky σ0 (F_X5_tellSky σ) := by
  unfold F_X5_tellSky
  exact (fV_ite (fI_V (Wc := W_X5_hasRoom) hF rfl (fo_F_X5_hasRoom Fr_r) (fun _ _ h1 => (fo_F_X5_tellSky_17  h1))) fV_none)
theorem fr_X5_tellSky {σ : Mm} : FoV W_X5_tellSky σ (F_X5_tellSky σ) := fo_F_X5_tellSky Fr_r
def W_X9_isTaken : List (Nat × Nat × Nat) := []
theorem fo_F_X9_isTaken_32 {σ0 : Mm} {rc2 : Nat → Int32 → Int32 → Int32 → Mm → Option (Int32 × Mm)} (hrc2 : ∀ a0 a1 a2 a3 τ, Fr W_X9_isTaken σ0 τ → FoI W_X9_isTaken σ0 (rc2 a0 a1 a2 a3 τ)) {i0 : Nat} {x1 : Int32} {x2 : Int32} {x3 : Int32} {σ : Mm} (hF : Fr W_X9_isTaken σ0 σ) : FoI W_X9_isTaken σ0 (F_X9_isTaken_32 rc2 i0 x1 x2 x3 σ) := by
  unfold F_X9_isTaken_32
  exact (hrc2 _ _ _ _ _ hF)
theorem fo_B_X9_isTaken_2 {σ0 : Mm} {rc2 : Nat → Int32 → Int32 → Int32 → Mm → Option (Int32 × Mm)} (hrc2 : ∀ a0 a1 a2 a3 τ, Fr W_X9_isTaken σ0 τ → FoI W_X9_isTaken σ0 (rc2 a0 a1 a2 a3 τ)) {i0 : Nat} {x1 : Int32} {x2 : Int32} {x3 : Int32} {σ : Mm} (hF : Fr W_X9_isTaken σ0 σ) : FoI W_X9_isTaken σ0 (B_X9_isTaken_2 rc2 i0 x1 x2 x3 σ) := by
  unfold B_X9_isTaken_2
  exact (fI_ite (fI_some hF) (fI_ite (fI_ite (fI_ite (fI_ite (fI_some hF) (fo_F_X9_isTaken_32 hrc2 hF)) fI_none) (fo_F_X9_isTaken_32 hrc2 hF)) fI_none))
theorem fo_F_X9_isTaken_2 {σ0 : Mm} (n : Nat) : ∀ {y0 : Nat} {y1 : Int32} {y2 : Int32} {y3 : Int32} {σ : Mm}, Fr W_X9_isTaken σ0 σ → FoI W_X9_isTaken σ0 (F_X9_isTaken_2  n y0 y1 y2 y3 σ) := by
  induction n with
  | zero => intro y0 y1 y2 y3 σ _; exact fI_none
  | succ n ih => intro y0 y1 y2 y3 σ hF; exact fo_B_X9_isTaken_2  (fun _ _ _ _ _ h => ih h) hF
theorem fo_F_X9_isTaken {σ0 : Mm} {i0 : Nat} {x1 : Int32} {x2 : Int32} {σ : Mm} (hF : Fr W_X9_isTaken σ0 σ) : FoI W_X9_isTaken σ0 (F_X9_isTaken i0 x1 x2 σ) := by
  unfold F_X9_isTaken
  exact (fo_F_X9_isTaken_2  FU hF)
theorem fr_X9_isTaken {i0 : Nat} {x1 : Int32} {x2 : Int32} {σ : Mm} : FoI W_X9_isTaken σ (F_X9_isTaken i0 x1 x2 σ) := fo_F_X9_isTaken Fr_r
def W_X5_tellThing : List (Nat × Nat × Nat) := [(0, 12, 0), (0, 12, 1), (0, 12, 4), (0, 12, 5), (0, 12, 6), (0, 13, 999), (1, 0, 1), (1, 1, 999), (1, 2, 999), (1, 3, 999), (1, 4, 999)]
theorem fo_F_X5_tellThing_242 {σ0 : Mm} {σ : Mm} (hF : Fr W_X5_tellThing σ0 σ) : FoV W_X5_tellThing σ0 (F_X5_tellThing_242 σ) := by
  unfold F_X5_tellThing_242
  exact (fV_ite (fV_some (Fr.A hF rfl)) fV_none)
theorem fo_F_X5_tellThing_241 {σ0 : Mm} {i0 : Nat} {s0 : Int32} {s1 : Int32} {σ : Mm} (hF : Fr W_X5_tellThing σ0 σ) : FoV W_X5_tellThing σ0 (F_X5_tellThing_241 i0 s0 s1 σ) := by
  unfold F_X5_tellThing_241
  exact (fV_ite (fo_F_X5_tellThing_242  (Fr.AA hF rfl)) fV_none)
theorem fo_F_X5_tellThing_222 {σ0 : Mm} {x1 : Int32} {x3 : Int32} {σ : Mm} (hF : Fr W_X5_tellThing σ0 σ) : FoV W_X5_tellThing σ0 (F_X5_tellThing_222 x1 x3 σ) := by
  unfold F_X5_tellThing_222
  exact (fV_ite (fV_ite (fo_F_X5_tellThing_241  hF) (fo_F_X5_tellThing_241  hF)) fV_none)
theorem fo_F_X5_tellThing_202 {σ0 : Mm} {x1 : Int32} {x2 : Int32} {x3 : Int32} {σ : Mm} (hF : Fr W_X5_tellThing σ0 σ) : FoV W_X5_tellThing σ0 (F_X5_tellThing_202 x1 x2 x3 σ) := by
  unfold F_X5_tellThing_202
  exact (fV_ite (fV_ite (fV_ite (fo_F_X5_tellThing_222  (Fr.AA hF rfl)) fV_none) fV_none) fV_none)
theorem fo_F_X5_tellThing_182 {σ0 : Mm} {x1 : Int32} {x2 : Int32} {x3 : Int32} {σ : Mm} (hF : Fr W_X5_tellThing σ0 σ) : FoV W_X5_tellThing σ0 (F_X5_tellThing_182 x1 x2 x3 σ) := by
  unfold F_X5_tellThing_182
  exact (fV_ite (fV_ite (fV_ite (fo_F_X5_tellThing_202  (Fr.AA hF rfl)) fV_none) fV_none) fV_none)
theorem fo_F_X5_tellThing_162 {σ0 : Mm} {x1 : Int32} {x2 : Int32} {x3 : Int32} {σ : Mm} (hF : Fr W_X5_tellThing σ0 σ) : FoV W_X5_tellThing σ0 (F_X5_tellThing_162 x1 x2 x3 σ) := by
  unfold F_X5_tellThing_162
  exact (fV_ite (fV_ite (fV_ite (fo_F_X5_tellThing_182  (Fr.AA hF rfl)) fV_none) fV_none) fV_none)
theorem fo_F_X5_tellThing_137 {σ0 : Mm} {x1 : Int32} {x2 : Int32} {σ : Mm} (hF : Fr W_X5_tellThing σ0 σ) : FoV W_X5_tellThing σ0 (F_X5_tellThing_137 x1 x2 σ) := by
  unfold F_X5_tellThing_137
  exact (fV_ite (fV_ite (fV_ite (fo_F_X5_tellThing_162  (Fr.LL hF rfl)) fV_none) fV_none) fV_none)
theorem fo_F_X5_tellThing_126 {σ0 : Mm} {x1 : Int32} {x2 : Int32} {s0 : Int32} {σ : Mm} (hF : Fr W_X5_tellThing σ0 σ) : FoV W_X5_tellThing σ0 (F_X5_tellThing_126 x1 x2 s0 σ) := by
  unfold F_X5_tellThing_126
  exact (fV_ite (fo_F_X5_tellThing_137  hF) (fV_V (Wc := W_X5_blame) hF rfl (fo_F_X5_blame Fr_r) (fun _ h1 => (fo_F_X5_tellThing_137  h1))))
theorem fo_F_X5_tellThing_97 {σ0 : Mm} {x1 : Int32} {x2 : Int32} {σ : Mm} (hF : Fr W_X5_tellThing σ0 σ) : FoV W_X5_tellThing σ0 (F_X5_tellThing_97 x1 x2 σ) := by
  unfold F_X5_tellThing_97
  exact (fV_ite (fV_ite (fV_ite (fI_V (Wc := W_X9_isTaken) hF rfl (fo_F_X9_isTaken Fr_r) (fun _ _ h1 => (fo_F_X5_tellThing_126  h1))) fV_none) fV_none) fV_none)
theorem fo_F_X5_tellThing_87 {σ0 : Mm} {x1 : Int32} {x2 : Int32} {σ : Mm} (hF : Fr W_X5_tellThing σ0 σ) : FoV W_X5_tellThing σ0 (F_X5_tellThing_87 x1 x2 σ) := by
  unfold F_X5_tellThing_87
  exact (fV_V (Wc := W_X5_blameAbove) hF rfl (fo_F_X5_blameAbove Fr_r) (fun _ h1 => (fo_F_X5_tellThing_97  h1)))
theorem fo_F_X5_tellThing_77 {σ0 : Mm} {x1 : Int32} {x2 : Int32} {σ : Mm} (hF : Fr W_X5_tellThing σ0 σ) : FoV W_X5_tellThing σ0 (F_X5_tellThing_77 x1 x2 σ) := by
  unfold F_X5_tellThing_77
  exact (fV_V (Wc := W_X5_blameAbove) hF rfl (fo_F_X5_blameAbove Fr_r) (fun _ h1 => (fo_F_X5_tellThing_87  h1)))
theorem fo_F_X5_tellThing_67 {σ0 : Mm} {x1 : Int32} {x2 : Int32} {s0 : Int32} {σ : Mm} (hF : Fr W_X5_tellThing σ0 σ) : FoV W_X5_tellThing σ0 (F_X5_tellThing_67 x1 x2 s0 σ) := by
  unfold F_X5_tellThing_67
  exact (fV_ite (fV_some hF) (fV_V (Wc := W_X5_blameIfNamed) hF rfl (fo_F_X5_blameIfNamed Fr_r) (fun _ h1 => (fo_F_X5_tellThing_77  h1))))
theorem fo_F_X5_tellThing_59 {σ0 : Mm} {x1 : Int32} {x2 : Int32} {s0 : Int32} {σ : Mm} (hF : Fr W_X5_tellThing σ0 σ) : FoV W_X5_tellThing σ0 (F_X5_tellThing_59 x1 x2 s0 σ) := by
  unfold F_X5_tellThing_59
  exact (fV_ite (fV_some hF) (fI_V (Wc := W_X5_take) hF rfl (fo_F_X5_take Fr_r) (fun _ _ h1 => (fo_F_X5_tellThing_67  h1))))
theorem fo_F_X5_tellThing_51 {σ0 : Mm} {x1 : Int32} {x2 : Int32} {s0 : Int32} {σ : Mm} (hF : Fr W_X5_tellThing σ0 σ) : FoV W_X5_tellThing σ0 (F_X5_tellThing_51 x1 x2 s0 σ) := by
  unfold F_X5_tellThing_51
  exact (fV_ite (fV_some hF) (fI_V (Wc := W_X5_take) hF rfl (fo_F_X5_take Fr_r) (fun _ _ h1 => (fo_F_X5_tellThing_59  h1))))
theorem fo_F_X5_tellThing_43 {σ0 : Mm} {x1 : Int32} {x2 : Int32} {s0 : Int32} {σ : Mm} (hF : Fr W_X5_tellThing σ0 σ) : FoV W_X5_tellThing σ0 (F_X5_tellThing_43 x1 x2 s0 σ) := by
  unfold F_X5_tellThing_43
  exact (fV_ite (fV_some hF) (fI_V (Wc := W_X5_take) hF rfl (fo_F_X5_take Fr_r) (fun _ _ h1 => (fo_F_X5_tellThing_51  h1))))
theorem fo_F_X5_tellThing_35 {σ0 : Mm} {x1 : Int32} {x2 : Int32} {s0 : Int32} {σ : Mm} (hF : Fr W_X5_tellThing σ0 σ) : FoV W_X5_tellThing σ0 (F_X5_tellThing_35 x1 x2 s0 σ) := by
  unfold F_X5_tellThing_35
  exact (fV_ite (fV_some hF) (fI_V (Wc := W_X5_take) hF rfl (fo_F_X5_take Fr_r) (fun _ _ h1 => (fo_F_X5_tellThing_43  h1))))
theorem fo_F_X5_tellThing_27 {σ0 : Mm} {x1 : Int32} {x2 : Int32} {s0 : Int32} {σ : Mm} (hF : Fr W_X5_tellThing σ0 σ) : FoV W_X5_tellThing σ0 (F_X5_tellThing_27 x1 x2 s0 σ) := by
  unfold F_X5_tellThing_27
  exact (fV_ite (fV_some hF) (fI_V (Wc := W_X5_take) hF rfl (fo_F_X5_take Fr_r) (fun _ _ h1 => (fo_F_X5_tellThing_35  h1))))
theorem fo_F_X5_tellThing_18 {σ0 : Mm} {x1 : Int32} {x2 : Int32} {s0 : Int32} {σ : Mm} (hF : Fr W_X5_tellThing σ0 σ) : FoV W_X5_tellThing σ0 (F_X5_tellThing_18 x1 x2 s0 σ) := by
  unfold F_X5_tellThing_18
  exact (fV_ite (fV_some hF) (fI_V (Wc := W_X5_take) hF rfl (fo_F_X5_take Fr_r) (fun _ _ h1 => (fo_F_X5_tellThing_27  h1))))
theorem fo_F_X5_tellThing {σ0 : Mm} {x1 : Int32} {σ : Mm} (hF : Fr W_X5_tellThing σ0 σ) : FoV W_X5_tellThing σ0 (F_X5_tellThing x1 σ) := by
  unfold F_X5_tellThing
  exact (fV_ite (fI_V (Wc := W_X5_hasRoom) hF rfl (fo_F_X5_hasRoom Fr_r) (fun _ _ h1 => (fo_F_X5_tellThing_18  h1))) fV_none)
theorem fr_X5_tellThing {x1 : Int32} {σ : Mm} : FoV W_X5_tellThing σ (F_X5_tellThing x1 σ) := fo_F_X5_tellThing Fr_r
def W_X5_tellAll : List (Nat × Nat × Nat) := [(0, 12, 0), (0, 12, 1), (0, 12, 4), (0, 12, 5), (0, 12, 6), (0, 13, 999), (0, 14, 999), (1, 0, 0), (1, 0, 1), (1, 0, 6), (1, 0, 8), (1, 0, 12), (1, 0, 14), (1, 1, 999), (1, 2, 999), (1, 3, 999), (1, 4, 999), (1, 5, 999), (1, 6, 999), (1, 7, 999), (1, 8, 999), (1, 9, 999), (1, 10, 0), (1, 11, 999), (1, 12, 999), (1, 13, 999), (1, 14, 999), (9, 2, 0)]
theorem fo_F_X5_tellAll_181 {σ0 : Mm} {σ : Mm} (hF : Fr W_X5_tellAll σ0 σ) : FoV W_X5_tellAll σ0 (F_X5_tellAll_181 σ) := by
  unfold F_X5_tellAll_181
  exact (fV_some (Fr.A hF rfl))
theorem fo_F_X5_tellAll_166 {σ0 : Mm} {σ : Mm} (hF : Fr W_X5_tellAll σ0 σ) : FoV W_X5_tellAll σ0 (F_X5_tellAll_166 σ) := by
  unfold F_X5_tellAll_166
  exact (fV_ite (fo_F_X5_tellAll_181  (Fr.A hF rfl)) (fV_some hF))
theorem fo_F_X5_tellAll_160 {σ0 : Mm} {rc32 : Int32 → Mm → Option (Mm)} (hrc32 : ∀ a0 τ, Fr W_X5_tellAll σ0 τ → FoV W_X5_tellAll σ0 (rc32 a0 τ)) {x2 : Int32} {σ : Mm} (hF : Fr W_X5_tellAll σ0 σ) : FoV W_X5_tellAll σ0 (F_X5_tellAll_160 rc32 x2 σ) := by
  unfold F_X5_tellAll_160
  exact (hrc32 _ _ hF)
theorem fo_F_X5_tellAll_109 {σ0 : Mm} {rc32 : Int32 → Mm → Option (Mm)} (hrc32 : ∀ a0 τ, Fr W_X5_tellAll σ0 τ → FoV W_X5_tellAll σ0 (rc32 a0 τ)) {x2 : Int32} {σ : Mm} (hF : Fr W_X5_tellAll σ0 σ) : FoV W_X5_tellAll σ0 (F_X5_tellAll_109 rc32 x2 σ) := by
  unfold F_X5_tellAll_109
  exact (fo_F_X5_tellAll_160 hrc32 hF)
theorem fo_F_X5_tellAll_117 {σ0 : Mm} {rc32 : Int32 → Mm → Option (Mm)} (hrc32 : ∀ a0 τ, Fr W_X5_tellAll σ0 τ → FoV W_X5_tellAll σ0 (rc32 a0 τ)) {x2 : Int32} {σ : Mm} (hF : Fr W_X5_tellAll σ0 σ) : FoV W_X5_tellAll σ0 (F_X5_tellAll_117 rc32 x2 σ) := by
  unfold F_X5_tellAll_117
  exact (fo_F_X5_tellAll_160 hrc32 hF)
theorem fo_F_X5_tellAll_124 {σ0 : Mm} {rc32 : Int32 → Mm → Option (Mm)} (hrc32 : ∀ a0 τ, Fr W_X5_tellAll σ0 τ → FoV W_X5_tellAll σ0 (rc32 a0 τ)) {x2 : Int32} {σ : Mm} (hF : Fr W_X5_tellAll σ0 σ) : FoV W_X5_tellAll σ0 (F_X5_tellAll_124 rc32 x2 σ) := by
  unfold F_X5_tellAll_124
  exact (fo_F_X5_tellAll_160 hrc32 hF)
theorem fo_F_X5_tellAll_131 {σ0 : Mm} {rc32 : Int32 → Mm → Option (Mm)} (hrc32 : ∀ a0 τ, Fr W_X5_tellAll σ0 τ → FoV W_X5_tellAll σ0 (rc32 a0 τ)) {x2 : Int32} {σ : Mm} (hF : Fr W_X5_tellAll σ0 σ) : FoV W_X5_tellAll σ0 (F_X5_tellAll_131 rc32 x2 σ) := by
  unfold F_X5_tellAll_131
  exact (fo_F_X5_tellAll_160 hrc32 hF)
theorem fo_F_X5_tellAll_138 {σ0 : Mm} {rc32 : Int32 → Mm → Option (Mm)} (hrc32 : ∀ a0 τ, Fr W_X5_tellAll σ0 τ → FoV W_X5_tellAll σ0 (rc32 a0 τ)) {x2 : Int32} {σ : Mm} (hF : Fr W_X5_tellAll σ0 σ) : FoV W_X5_tellAll σ0 (F_X5_tellAll_138 rc32 x2 σ) := by
  unfold F_X5_tellAll_138
  exact (fo_F_X5_tellAll_160 hrc32 hF)
theorem fo_F_X5_tellAll_145 {σ0 : Mm} {rc32 : Int32 → Mm → Option (Mm)} (hrc32 : ∀ a0 τ, Fr W_X5_tellAll σ0 τ → FoV W_X5_tellAll σ0 (rc32 a0 τ)) {x2 : Int32} {σ : Mm} (hF : Fr W_X5_tellAll σ0 σ) : FoV W_X5_tellAll σ0 (F_X5_tellAll_145 rc32 x2 σ) := by
  unfold F_X5_tellAll_145
  exact (fo_F_X5_tellAll_160 hrc32 hF)
theorem fo_F_X5_tellAll_152 {σ0 : Mm} {rc32 : Int32 → Mm → Option (Mm)} (hrc32 : ∀ a0 τ, Fr W_X5_tellAll σ0 τ → FoV W_X5_tellAll σ0 (rc32 a0 τ)) {x2 : Int32} {σ : Mm} (hF : Fr W_X5_tellAll σ0 σ) : FoV W_X5_tellAll σ0 (F_X5_tellAll_152 rc32 x2 σ) := by
  unfold F_X5_tellAll_152
  exact (fo_F_X5_tellAll_160 hrc32 hF)
theorem fo_F_X5_tellAll_50 {σ0 : Mm} {rc32 : Int32 → Mm → Option (Mm)} (hrc32 : ∀ a0 τ, Fr W_X5_tellAll σ0 τ → FoV W_X5_tellAll σ0 (rc32 a0 τ)) {x2 : Int32} {s0 : Int32} {σ : Mm} (hF : Fr W_X5_tellAll σ0 σ) : FoV W_X5_tellAll σ0 (F_X5_tellAll_50 rc32 x2 s0 σ) := by
  unfold F_X5_tellAll_50
  exact (fV_ite (fo_F_X5_tellAll_166  hF) (fV_ite (fV_V (Wc := W_X5_tellThing) hF rfl (fo_F_X5_tellThing Fr_r) (fun _ h1 => (fo_F_X5_tellAll_109 hrc32 h1))) (fV_ite (fV_V (Wc := W_X5_tellThing) hF rfl (fo_F_X5_tellThing Fr_r) (fun _ h2 => (fo_F_X5_tellAll_117 hrc32 h2))) (fV_ite (fV_V (Wc := W_X5_tellDoor) hF rfl (fo_F_X5_tellDoor Fr_r) (fun _ h3 => (fo_F_X5_tellAll_124 hrc32 h3))) (fV_ite (fV_V (Wc := W_X5_tellHill) hF rfl (fo_F_X5_tellHill Fr_r) (fun _ h4 => (fo_F_X5_tellAll_131 hrc32 h4))) (fV_ite (fV_V (Wc := W_X5_tellSky) hF rfl (fo_F_X5_tellSky Fr_r) (fun _ h5 => (fo_F_X5_tellAll_138 hrc32 h5))) (fV_ite (fV_V (Wc := W_X5_stop) hF rfl (fo_F_X5_stop Fr_r) (fun _ h6 => (fo_F_X5_tellAll_160 hrc32 h6))) (fV_ite (fV_V (Wc := W_X5_tellNear) hF rfl (fo_F_X5_tellNear Fr_r) (fun _ h7 => (fo_F_X5_tellAll_145 hrc32 h7))) (fV_ite (fV_V (Wc := W_X5_tellRule) hF rfl (fo_F_X5_tellRule Fr_r) (fun _ h8 => (fo_F_X5_tellAll_152 hrc32 h8))) (fV_V (Wc := W_X5_stop) hF rfl (fo_F_X5_stop Fr_r) (fun _ h9 => (fo_F_X5_tellAll_160 hrc32 h9))))))))))))
theorem fo_B_X5_tellAll_32 {σ0 : Mm} {rc32 : Int32 → Mm → Option (Mm)} (hrc32 : ∀ a0 τ, Fr W_X5_tellAll σ0 τ → FoV W_X5_tellAll σ0 (rc32 a0 τ)) {x2 : Int32} {σ : Mm} (hF : Fr W_X5_tellAll σ0 σ) : FoV W_X5_tellAll σ0 (B_X5_tellAll_32 rc32 x2 σ) := by
  unfold B_X5_tellAll_32
  exact (fV_ite (fo_F_X5_tellAll_166  hF) (fV_ite (fI_V (Wc := W_X5_kindHere) hF rfl (fo_F_X5_kindHere Fr_r) (fun _ _ h1 => (fo_F_X5_tellAll_50 hrc32 h1))) (fo_F_X5_tellAll_166  hF)))
theorem fo_F_X5_tellAll_32 {σ0 : Mm} (n : Nat) : ∀ {y0 : Int32} {σ : Mm}, Fr W_X5_tellAll σ0 σ → FoV W_X5_tellAll σ0 (F_X5_tellAll_32  n y0 σ) := by
  induction n with
  | zero => intro y0 σ _; exact fV_none
  | succ n ih => intro y0 σ hF; exact fo_B_X5_tellAll_32  (fun _ _ h => ih h) hF
theorem fo_F_X5_tellAll_30 {σ0 : Mm} {σ : Mm} (hF : Fr W_X5_tellAll σ0 σ) : FoV W_X5_tellAll σ0 (F_X5_tellAll_30 σ) := by
  unfold F_X5_tellAll_30
  exact (fo_F_X5_tellAll_32  FU hF)
theorem fo_F_X5_tellAll_25 {σ0 : Mm} {σ : Mm} (hF : Fr W_X5_tellAll σ0 σ) : FoV W_X5_tellAll σ0 (F_X5_tellAll_25 σ) := by
  unfold F_X5_tellAll_25
  exact (fo_F_X5_tellAll_30  (Fr.A hF rfl))
theorem fo_F_X5_tellAll_20 {σ0 : Mm} {σ : Mm} (hF : Fr W_X5_tellAll σ0 σ) : FoV W_X5_tellAll σ0 (F_X5_tellAll_20 σ) := by
  unfold F_X5_tellAll_20
  exact (fo_F_X5_tellAll_25  (Fr.A hF rfl))
theorem fo_F_X5_tellAll_15 {σ0 : Mm} {σ : Mm} (hF : Fr W_X5_tellAll σ0 σ) : FoV W_X5_tellAll σ0 (F_X5_tellAll_15 σ) := by
  unfold F_X5_tellAll_15
  exact (fo_F_X5_tellAll_20  (Fr.A hF rfl))
theorem fo_F_X5_tellAll_10 {σ0 : Mm} {σ : Mm} (hF : Fr W_X5_tellAll σ0 σ) : FoV W_X5_tellAll σ0 (F_X5_tellAll_10 σ) := by
  unfold F_X5_tellAll_10
  exact (fo_F_X5_tellAll_15  (Fr.A hF rfl))
theorem fo_F_X5_tellAll_5 {σ0 : Mm} {σ : Mm} (hF : Fr W_X5_tellAll σ0 σ) : FoV W_X5_tellAll σ0 (F_X5_tellAll_5 σ) := by
  unfold F_X5_tellAll_5
  exact (fo_F_X5_tellAll_10  (Fr.A hF rfl))
theorem fo_F_X5_tellAll {σ0 : Mm} {i0 : Nat} {σ : Mm} (hF : Fr W_X5_tellAll σ0 σ) : FoV W_X5_tellAll σ0 (F_X5_tellAll i0 σ) := by
  unfold F_X5_tellAll
  exact (fo_F_X5_tellAll_5  (Fr.P hF rfl))
theorem fr_X5_tellAll {i0 : Nat} {σ : Mm} : FoV W_X5_tellAll σ (F_X5_tellAll i0 σ) := fo_F_X5_tellAll Fr_r
def W_X7_forget : List (Nat × Nat × Nat) := [(2, 0, 0), (2, 0, 1)]
theorem fo_F_X7_forget_5 {σ0 : Mm} {i0 : Nat} {σ : Mm} (hF : Fr W_X7_forget σ0 σ) : FoV W_X7_forget σ0 (F_X7_forget_5 i0 σ) := by
  unfold F_X7_forget_5
  exact (fV_some (Fr.A hF rfl))
theorem fo_F_X7_forget {σ0 : Mm} {i0 : Nat} {σ : Mm} (hF : Fr W_X7_forget σ0 σ) : FoV W_X7_forget σ0 (F_X7_forget i0 σ) := by
  unfold F_X7_forget
  exact (fo_F_X7_forget_5  (Fr.A hF rfl))
theorem fr_X7_forget {i0 : Nat} {σ : Mm} : FoV W_X7_forget σ (F_X7_forget i0 σ) := fo_F_X7_forget Fr_r
def W_X8_sign : List (Nat × Nat × Nat) := []
theorem fo_F_X8_sign {σ0 : Mm} {x1 : Int32} {σ : Mm} (hF : Fr W_X8_sign σ0 σ) : FoI W_X8_sign σ0 (F_X8_sign x1 σ) := by
  unfold F_X8_sign
  exact (fI_ite (fI_some hF) (fI_ite (fI_some hF) (fI_ite (fI_some hF) fI_none)))
theorem fr_X8_sign {x1 : Int32} {σ : Mm} : FoI W_X8_sign σ (F_X8_sign x1 σ) := fo_F_X8_sign Fr_r
def W_X8_behindBlanks : List (Nat × Nat × Nat) := []
theorem fo_F_X8_behindBlanks_42 {σ0 : Mm} {rc2 : Int32 → Mm → Option (Int32 × Mm)} (hrc2 : ∀ a0 τ, Fr W_X8_behindBlanks σ0 τ → FoI W_X8_behindBlanks σ0 (rc2 a0 τ)) {x2 : Int32} {σ : Mm} (hF : Fr W_X8_behindBlanks σ0 σ) : FoI W_X8_behindBlanks σ0 (F_X8_behindBlanks_42 rc2 x2 σ) := by
  unfold F_X8_behindBlanks_42
  exact (hrc2 _ _ hF)
theorem fo_F_X8_behindBlanks_15 {σ0 : Mm} {rc2 : Int32 → Mm → Option (Int32 × Mm)} (hrc2 : ∀ a0 τ, Fr W_X8_behindBlanks σ0 τ → FoI W_X8_behindBlanks σ0 (rc2 a0 τ)) {x2 : Int32} {s0 : Int32} {σ : Mm} (hF : Fr W_X8_behindBlanks σ0 σ) : FoI W_X8_behindBlanks σ0 (F_X8_behindBlanks_15 rc2 x2 s0 σ) := by
  unfold F_X8_behindBlanks_15
  exact (fI_ite (fo_F_X8_behindBlanks_42 hrc2 hF) (fI_ite (fo_F_X8_behindBlanks_42 hrc2 hF) (fI_ite (fo_F_X8_behindBlanks_42 hrc2 hF) (fI_ite (fo_F_X8_behindBlanks_42 hrc2 hF) (fI_some hF)))))
theorem fo_B_X8_behindBlanks_2 {σ0 : Mm} {rc2 : Int32 → Mm → Option (Int32 × Mm)} (hrc2 : ∀ a0 τ, Fr W_X8_behindBlanks σ0 τ → FoI W_X8_behindBlanks σ0 (rc2 a0 τ)) {x2 : Int32} {σ : Mm} (hF : Fr W_X8_behindBlanks σ0 σ) : FoI W_X8_behindBlanks σ0 (B_X8_behindBlanks_2 rc2 x2 σ) := by
  unfold B_X8_behindBlanks_2
  exact (fI_ite (fI_some hF) (fI_I (Wc := W_X8_sign) hF rfl (fo_F_X8_sign Fr_r) (fun _ _ h1 => (fo_F_X8_behindBlanks_15 hrc2 h1))))
theorem fo_F_X8_behindBlanks_2 {σ0 : Mm} (n : Nat) : ∀ {y0 : Int32} {σ : Mm}, Fr W_X8_behindBlanks σ0 σ → FoI W_X8_behindBlanks σ0 (F_X8_behindBlanks_2  n y0 σ) := by
  induction n with
  | zero => intro y0 σ _; exact fI_none
  | succ n ih => intro y0 σ hF; exact fo_B_X8_behindBlanks_2  (fun _ _ h => ih h) hF
theorem fo_F_X8_behindBlanks {σ0 : Mm} {x1 : Int32} {σ : Mm} (hF : Fr W_X8_behindBlanks σ0 σ) : FoI W_X8_behindBlanks σ0 (F_X8_behindBlanks x1 σ) := by
  unfold F_X8_behindBlanks
  exact (fo_F_X8_behindBlanks_2  FU hF)
theorem fr_X8_behindBlanks {x1 : Int32} {σ : Mm} : FoI W_X8_behindBlanks σ (F_X8_behindBlanks x1 σ) := fo_F_X8_behindBlanks Fr_r
def W_X8_cutNumber : List (Nat × Nat × Nat) := [(0, 8, 999), (0, 10, 999)]
theorem fo_F_X8_cutNumber_81 {σ0 : Mm} {x3 : Int32} {σ : Mm} (hF : Fr W_X8_cutNumber σ0 σ) : FoI W_X8_cutNumber σ0 (F_X8_cutNumber_81 x3 σ) := by
  unfold F_X8_cutNumber_81
  exact (fI_some hF)
theorem fo_F_X8_cutNumber_71 {σ0 : Mm} {x2 : Int32} {x3 : Int32} {σ : Mm} (hF : Fr W_X8_cutNumber σ0 σ) : FoI W_X8_cutNumber σ0 (F_X8_cutNumber_71 x2 x3 σ) := by
  unfold F_X8_cutNumber_71
  exact (fI_ite (fo_F_X8_cutNumber_81  (Fr.AA hF rfl)) fI_none)
theorem fo_F_X8_cutNumber_70 {σ0 : Mm} {x2 : Int32} {x3 : Int32} {s0 : Int32} {s1 : Int32} {σ : Mm} (hF : Fr W_X8_cutNumber σ0 σ) : FoI W_X8_cutNumber σ0 (F_X8_cutNumber_70 x2 x3 s0 s1 σ) := by
  unfold F_X8_cutNumber_70
  exact (fI_ite (fo_F_X8_cutNumber_71  (Fr.AA hF rfl)) fI_none)
theorem fo_F_X8_cutNumber_50 {σ0 : Mm} {x1 : Int32} {x2 : Int32} {x3 : Int32} {σ : Mm} (hF : Fr W_X8_cutNumber σ0 σ) : FoI W_X8_cutNumber σ0 (F_X8_cutNumber_50 x1 x2 x3 σ) := by
  unfold F_X8_cutNumber_50
  exact (fI_ite (fo_F_X8_cutNumber_70  hF) (fo_F_X8_cutNumber_70  hF))
theorem fo_F_X8_cutNumber_44 {σ0 : Mm} {rc4 : Int32 → Int32 → Int32 → Mm → Option (Int32 × Mm)} (hrc4 : ∀ a0 a1 a2 τ, Fr W_X8_cutNumber σ0 τ → FoI W_X8_cutNumber σ0 (rc4 a0 a1 a2 τ)) {x1 : Int32} {x2 : Int32} {x3 : Int32} {σ : Mm} (hF : Fr W_X8_cutNumber σ0 σ) : FoI W_X8_cutNumber σ0 (F_X8_cutNumber_44 rc4 x1 x2 x3 σ) := by
  unfold F_X8_cutNumber_44
  exact (hrc4 _ _ _ _ hF)
theorem fo_F_X8_cutNumber_39 {σ0 : Mm} {rc4 : Int32 → Int32 → Int32 → Mm → Option (Int32 × Mm)} (hrc4 : ∀ a0 a1 a2 τ, Fr W_X8_cutNumber σ0 τ → FoI W_X8_cutNumber σ0 (rc4 a0 a1 a2 τ)) {x1 : Int32} {x3 : Int32} {s0 : Int32} {s1 : Int32} {σ : Mm} (hF : Fr W_X8_cutNumber σ0 σ) : FoI W_X8_cutNumber σ0 (F_X8_cutNumber_39 rc4 x1 x3 s0 s1 σ) := by
  unfold F_X8_cutNumber_39
  exact (fo_F_X8_cutNumber_44 hrc4 hF)
theorem fo_F_X8_cutNumber_17 {σ0 : Mm} {rc4 : Int32 → Int32 → Int32 → Mm → Option (Int32 × Mm)} (hrc4 : ∀ a0 a1 a2 τ, Fr W_X8_cutNumber σ0 τ → FoI W_X8_cutNumber σ0 (rc4 a0 a1 a2 τ)) {x1 : Int32} {x2 : Int32} {x3 : Int32} {s0 : Int32} {σ : Mm} (hF : Fr W_X8_cutNumber σ0 σ) : FoI W_X8_cutNumber σ0 (F_X8_cutNumber_17 rc4 x1 x2 x3 s0 σ) := by
  unfold F_X8_cutNumber_17
  exact (fI_ite (fo_F_X8_cutNumber_50  hF) (fI_ite (fo_F_X8_cutNumber_44 hrc4 hF) (fI_I (Wc := W_X8_sign) hF rfl (fo_F_X8_sign Fr_r) (fun _ _ h1 => (fo_F_X8_cutNumber_39 hrc4 h1)))))
theorem fo_B_X8_cutNumber_4 {σ0 : Mm} {rc4 : Int32 → Int32 → Int32 → Mm → Option (Int32 × Mm)} (hrc4 : ∀ a0 a1 a2 τ, Fr W_X8_cutNumber σ0 τ → FoI W_X8_cutNumber σ0 (rc4 a0 a1 a2 τ)) {x1 : Int32} {x2 : Int32} {x3 : Int32} {σ : Mm} (hF : Fr W_X8_cutNumber σ0 σ) : FoI W_X8_cutNumber σ0 (B_X8_cutNumber_4 rc4 x1 x2 x3 σ) := by
  unfold B_X8_cutNumber_4
  exact (fI_ite (fo_F_X8_cutNumber_50  hF) (fI_I (Wc := W_X8_sign) hF rfl (fo_F_X8_sign Fr_r) (fun _ _ h1 => (fo_F_X8_cutNumber_17 hrc4 h1))))
theorem fo_F_X8_cutNumber_4 {σ0 : Mm} (n : Nat) : ∀ {y0 : Int32} {y1 : Int32} {y2 : Int32} {σ : Mm}, Fr W_X8_cutNumber σ0 σ → FoI W_X8_cutNumber σ0 (F_X8_cutNumber_4  n y0 y1 y2 σ) := by
  induction n with
  | zero => intro y0 y1 y2 σ _; exact fI_none
  | succ n ih => intro y0 y1 y2 σ hF; exact fo_B_X8_cutNumber_4  (fun _ _ _ _ h => ih h) hF
theorem fo_F_X8_cutNumber {σ0 : Mm} {x1 : Int32} {σ : Mm} (hF : Fr W_X8_cutNumber σ0 σ) : FoI W_X8_cutNumber σ0 (F_X8_cutNumber x1 σ) := by
  unfold F_X8_cutNumber
  exact (fo_F_X8_cutNumber_4  FU hF)
theorem fr_X8_cutNumber {x1 : Int32} {σ : Mm} : FoI W_X8_cutNumber σ (F_X8_cutNumber x1 σ) := fo_F_X8_cutNumber Fr_r
def W_X8_isWord : List (Nat × Nat × Nat) := []
theorem fo_F_X8_isWord_29 {σ0 : Mm} {rc3 : Int32 → Int32 → Int32 → Int32 → Mm → Option (Int32 × Mm)} (hrc3 : ∀ a0 a1 a2 a3 τ, Fr W_X8_isWord σ0 τ → FoI W_X8_isWord σ0 (rc3 a0 a1 a2 a3 τ)) {x1 : Int32} {x2 : Int32} {x3 : Int32} {x4 : Int32} {s0 : Int32} {σ : Mm} (hF : Fr W_X8_isWord σ0 σ) : FoI W_X8_isWord σ0 (F_X8_isWord_29 rc3 x1 x2 x3 x4 s0 σ) := by
  unfold F_X8_isWord_29
  exact (fI_ite (fI_some hF) (fI_ite (fI_ite (hrc3 _ _ _ _ _ hF) (fI_some hF)) fI_none))
theorem fo_F_X8_isWord_24 {σ0 : Mm} {rc3 : Int32 → Int32 → Int32 → Int32 → Mm → Option (Int32 × Mm)} (hrc3 : ∀ a0 a1 a2 a3 τ, Fr W_X8_isWord σ0 τ → FoI W_X8_isWord σ0 (rc3 a0 a1 a2 a3 τ)) {x1 : Int32} {x2 : Int32} {x3 : Int32} {x4 : Int32} {s0 : Int32} {σ : Mm} (hF : Fr W_X8_isWord σ0 σ) : FoI W_X8_isWord σ0 (F_X8_isWord_24 rc3 x1 x2 x3 x4 s0 σ) := by
  unfold F_X8_isWord_24
  exact (fo_F_X8_isWord_29 hrc3 hF)
theorem fo_B_X8_isWord_3 {σ0 : Mm} {rc3 : Int32 → Int32 → Int32 → Int32 → Mm → Option (Int32 × Mm)} (hrc3 : ∀ a0 a1 a2 a3 τ, Fr W_X8_isWord σ0 τ → FoI W_X8_isWord σ0 (rc3 a0 a1 a2 a3 τ)) {x1 : Int32} {x2 : Int32} {x3 : Int32} {x4 : Int32} {σ : Mm} (hF : Fr W_X8_isWord σ0 σ) : FoI W_X8_isWord σ0 (B_X8_isWord_3 rc3 x1 x2 x3 x4 σ) := by
  unfold B_X8_isWord_3
  exact (fI_ite (fI_some hF) (fI_ite (fo_F_X8_isWord_29 hrc3 hF) (fI_I (Wc := W_X8_sign) hF rfl (fo_F_X8_sign Fr_r) (fun _ _ h1 => (fo_F_X8_isWord_24 hrc3 h1)))))
theorem fo_F_X8_isWord_3 {σ0 : Mm} (n : Nat) : ∀ {y0 : Int32} {y1 : Int32} {y2 : Int32} {y3 : Int32} {σ : Mm}, Fr W_X8_isWord σ0 σ → FoI W_X8_isWord σ0 (F_X8_isWord_3  n y0 y1 y2 y3 σ) := by
  induction n with
  | zero => intro y0 y1 y2 y3 σ _; exact fI_none
  | succ n ih => intro y0 y1 y2 y3 σ hF; exact fo_B_X8_isWord_3  (fun _ _ _ _ _ h => ih h) hF
theorem fo_F_X8_isWord {σ0 : Mm} {x1 : Int32} {x2 : Int32} {x3 : Int32} {σ : Mm} (hF : Fr W_X8_isWord σ0 σ) : FoI W_X8_isWord σ0 (F_X8_isWord x1 x2 x3 σ) := by
  unfold F_X8_isWord
  exact (fo_F_X8_isWord_3  FU hF)
theorem fr_X8_isWord {x1 : Int32} {x2 : Int32} {x3 : Int32} {σ : Mm} : FoI W_X8_isWord σ (F_X8_isWord x1 x2 x3 σ) := fo_F_X8_isWord Fr_r
def W_X8_wordKind : List (Nat × Nat × Nat) := []
theorem fo_F_X8_wordKind_21 {σ0 : Mm} {rc2 : Int32 → Int32 → Int32 → Mm → Option (Int32 × Mm)} (hrc2 : ∀ a0 a1 a2 τ, Fr W_X8_wordKind σ0 τ → FoI W_X8_wordKind σ0 (rc2 a0 a1 a2 τ)) {x1 : Int32} {x2 : Int32} {x3 : Int32} {s0 : Int32} {σ : Mm} (hF : Fr W_X8_wordKind σ0 σ) : FoI W_X8_wordKind σ0 (F_X8_wordKind_21 rc2 x1 x2 x3 s0 σ) := by
  unfold F_X8_wordKind_21
  exact (fI_ite (hrc2 _ _ _ _ hF) (fI_some hF))
theorem fo_B_X8_wordKind_2 {σ0 : Mm} {rc2 : Int32 → Int32 → Int32 → Mm → Option (Int32 × Mm)} (hrc2 : ∀ a0 a1 a2 τ, Fr W_X8_wordKind σ0 τ → FoI W_X8_wordKind σ0 (rc2 a0 a1 a2 τ)) {x1 : Int32} {x2 : Int32} {x3 : Int32} {σ : Mm} (hF : Fr W_X8_wordKind σ0 σ) : FoI W_X8_wordKind σ0 (B_X8_wordKind_2 rc2 x1 x2 x3 σ) := by
  unfold B_X8_wordKind_2
  exact (fI_ite (fI_some hF) (fI_ite (fI_some hF) (fI_I (Wc := W_X8_isWord) hF rfl (fo_F_X8_isWord Fr_r) (fun _ _ h1 => (fo_F_X8_wordKind_21 hrc2 h1)))))
theorem fo_F_X8_wordKind_2 {σ0 : Mm} (n : Nat) : ∀ {y0 : Int32} {y1 : Int32} {y2 : Int32} {σ : Mm}, Fr W_X8_wordKind σ0 σ → FoI W_X8_wordKind σ0 (F_X8_wordKind_2  n y0 y1 y2 σ) := by
  induction n with
  | zero => intro y0 y1 y2 σ _; exact fI_none
  | succ n ih => intro y0 y1 y2 σ hF; exact fo_B_X8_wordKind_2  (fun _ _ _ _ h => ih h) hF
theorem fo_F_X8_wordKind {σ0 : Mm} {x1 : Int32} {x2 : Int32} {σ : Mm} (hF : Fr W_X8_wordKind σ0 σ) : FoI W_X8_wordKind σ0 (F_X8_wordKind x1 x2 σ) := by
  unfold F_X8_wordKind
  exact (fo_F_X8_wordKind_2  FU hF)
theorem fr_X8_wordKind {x1 : Int32} {x2 : Int32} {σ : Mm} : FoI W_X8_wordKind σ (F_X8_wordKind x1 x2 σ) := fo_F_X8_wordKind Fr_r
def W_X8_cutWord : List (Nat × Nat × Nat) := [(0, 8, 999), (0, 11, 999)]
theorem fo_F_X8_cutWord_102 {σ0 : Mm} {x4 : Int32} {σ : Mm} (hF : Fr W_X8_cutWord σ0 σ) : FoI W_X8_cutWord σ0 (F_X8_cutWord_102 x4 σ) := by
  unfold F_X8_cutWord_102
  exact (fI_some hF)
theorem fo_F_X8_cutWord_92 {σ0 : Mm} {x2 : Int64} {x4 : Int32} {σ : Mm} (hF : Fr W_X8_cutWord σ0 σ) : FoI W_X8_cutWord σ0 (F_X8_cutWord_92 x2 x4 σ) := by
  unfold F_X8_cutWord_92
  exact (fI_ite (fo_F_X8_cutWord_102  (Fr.LL hF rfl)) fI_none)
theorem fo_F_X8_cutWord_91 {σ0 : Mm} {x2 : Int64} {x4 : Int32} {s0 : Int32} {s1 : Int32} {σ : Mm} (hF : Fr W_X8_cutWord σ0 σ) : FoI W_X8_cutWord σ0 (F_X8_cutWord_91 x2 x4 s0 s1 σ) := by
  unfold F_X8_cutWord_91
  exact (fI_ite (fo_F_X8_cutWord_92  (Fr.AA hF rfl)) fI_none)
theorem fo_F_X8_cutWord_87 {σ0 : Mm} {x2 : Int64} {x4 : Int32} {s0 : Int32} {s1 : Int32} {σ : Mm} (hF : Fr W_X8_cutWord σ0 σ) : FoI W_X8_cutWord σ0 (F_X8_cutWord_87 x2 x4 s0 s1 σ) := by
  unfold F_X8_cutWord_87
  exact (fo_F_X8_cutWord_91  hF)
theorem fo_F_X8_cutWord_61 {σ0 : Mm} {x1 : Int32} {x2 : Int64} {x4 : Int32} {σ : Mm} (hF : Fr W_X8_cutWord σ0 σ) : FoI W_X8_cutWord σ0 (F_X8_cutWord_61 x1 x2 x4 σ) := by
  unfold F_X8_cutWord_61
  exact (fI_ite (fo_F_X8_cutWord_91  hF) (fI_I (Wc := W_X8_wordKind) hF rfl (fo_F_X8_wordKind Fr_r) (fun _ _ h1 => (fo_F_X8_cutWord_87  h1))))
theorem fo_F_X8_cutWord_55 {σ0 : Mm} {rc5 : Int32 → Int64 → Int32 → Mm → Option (Int32 × Mm)} (hrc5 : ∀ a0 a1 a2 τ, Fr W_X8_cutWord σ0 τ → FoI W_X8_cutWord σ0 (rc5 a0 a1 a2 τ)) {x1 : Int32} {x2 : Int64} {x4 : Int32} {σ : Mm} (hF : Fr W_X8_cutWord σ0 σ) : FoI W_X8_cutWord σ0 (F_X8_cutWord_55 rc5 x1 x2 x4 σ) := by
  unfold F_X8_cutWord_55
  exact (hrc5 _ _ _ _ hF)
theorem fo_F_X8_cutWord_46 {σ0 : Mm} {rc5 : Int32 → Int64 → Int32 → Mm → Option (Int32 × Mm)} (hrc5 : ∀ a0 a1 a2 τ, Fr W_X8_cutWord σ0 τ → FoI W_X8_cutWord σ0 (rc5 a0 a1 a2 τ)) {x1 : Int32} {x4 : Int32} {s0 : Int32} {s1 : Int64} {σ : Mm} (hF : Fr W_X8_cutWord σ0 σ) : FoI W_X8_cutWord σ0 (F_X8_cutWord_46 rc5 x1 x4 s0 s1 σ) := by
  unfold F_X8_cutWord_46
  exact (fo_F_X8_cutWord_55 hrc5 hF)
theorem fo_F_X8_cutWord_20 {σ0 : Mm} {rc5 : Int32 → Int64 → Int32 → Mm → Option (Int32 × Mm)} (hrc5 : ∀ a0 a1 a2 τ, Fr W_X8_cutWord σ0 τ → FoI W_X8_cutWord σ0 (rc5 a0 a1 a2 τ)) {x1 : Int32} {x2 : Int64} {x4 : Int32} {s0 : Int32} {σ : Mm} (hF : Fr W_X8_cutWord σ0 σ) : FoI W_X8_cutWord σ0 (F_X8_cutWord_20 rc5 x1 x2 x4 s0 σ) := by
  unfold F_X8_cutWord_20
  exact (fI_ite (fo_F_X8_cutWord_61  hF) (fI_ite (fo_F_X8_cutWord_55 hrc5 hF) (fI_I (Wc := W_X8_sign) hF rfl (fo_F_X8_sign Fr_r) (fun _ _ h1 => (fo_F_X8_cutWord_46 hrc5 h1)))))
theorem fo_B_X8_cutWord_5 {σ0 : Mm} {rc5 : Int32 → Int64 → Int32 → Mm → Option (Int32 × Mm)} (hrc5 : ∀ a0 a1 a2 τ, Fr W_X8_cutWord σ0 τ → FoI W_X8_cutWord σ0 (rc5 a0 a1 a2 τ)) {x1 : Int32} {x2 : Int64} {x4 : Int32} {σ : Mm} (hF : Fr W_X8_cutWord σ0 σ) : FoI W_X8_cutWord σ0 (B_X8_cutWord_5 rc5 x1 x2 x4 σ) := by
  unfold B_X8_cutWord_5
  exact (fI_ite (fo_F_X8_cutWord_61  hF) (fI_I (Wc := W_X8_sign) hF rfl (fo_F_X8_sign Fr_r) (fun _ _ h1 => (fo_F_X8_cutWord_20 hrc5 h1))))
theorem fo_F_X8_cutWord_5 {σ0 : Mm} (n : Nat) : ∀ {y0 : Int32} {y1 : Int64} {y2 : Int32} {σ : Mm}, Fr W_X8_cutWord σ0 σ → FoI W_X8_cutWord σ0 (F_X8_cutWord_5  n y0 y1 y2 σ) := by
  induction n with
  | zero => intro y0 y1 y2 σ _; exact fI_none
  | succ n ih => intro y0 y1 y2 σ hF; exact fo_B_X8_cutWord_5  (fun _ _ _ _ h => ih h) hF
theorem fo_F_X8_cutWord {σ0 : Mm} {x1 : Int32} {σ : Mm} (hF : Fr W_X8_cutWord σ0 σ) : FoI W_X8_cutWord σ0 (F_X8_cutWord x1 σ) := by
  unfold F_X8_cutWord
  exact (fo_F_X8_cutWord_5  FU hF)
theorem fr_X8_cutWord {x1 : Int32} {σ : Mm} : FoI W_X8_cutWord σ (F_X8_cutWord x1 σ) := fo_F_X8_cutWord Fr_r
def W_X8_cutOne : List (Nat × Nat × Nat) := [(0, 8, 999), (0, 10, 999), (0, 11, 999)]
theorem fo_F_X8_cutOne_115 {σ0 : Mm} {x1 : Int32} {s0 : Int32} {σ : Mm} (hF : Fr W_X8_cutOne σ0 σ) : FoI W_X8_cutOne σ0 (F_X8_cutOne_115 x1 s0 σ) := by
  unfold F_X8_cutOne_115
  exact (fI_ite (fI_some hF) (fI_some hF))
theorem fo_F_X8_cutOne_110 {σ0 : Mm} {x1 : Int32} {σ : Mm} (hF : Fr W_X8_cutOne σ0 σ) : FoI W_X8_cutOne σ0 (F_X8_cutOne_110 x1 σ) := by
  unfold F_X8_cutOne_110
  exact (fo_F_X8_cutOne_115  hF)
theorem fo_F_X8_cutOne_68 {σ0 : Mm} {x1 : Int32} {σ : Mm} (hF : Fr W_X8_cutOne σ0 σ) : FoI W_X8_cutOne σ0 (F_X8_cutOne_68 x1 σ) := by
  unfold F_X8_cutOne_68
  exact (fI_ite (fI_ite (fo_F_X8_cutOne_110  hF) (fI_ite (fI_ite (fo_F_X8_cutOne_110  hF) (fI_ite (fI_ite (fo_F_X8_cutOne_110  hF) (fo_F_X8_cutOne_115  hF)) fI_none)) fI_none)) fI_none)
theorem fo_F_X8_cutOne_64 {σ0 : Mm} {x1 : Int32} {s0 : Int32} {s1 : Int32} {s2 : Int32} {σ : Mm} (hF : Fr W_X8_cutOne σ0 σ) : FoI W_X8_cutOne σ0 (F_X8_cutOne_64 x1 s0 s1 s2 σ) := by
  unfold F_X8_cutOne_64
  exact (fI_ite (fo_F_X8_cutOne_68  (Fr.AA hF rfl)) fI_none)
theorem fo_F_X8_cutOne_54 {σ0 : Mm} {x1 : Int32} {s0 : Int32} {s1 : Int32} {s2 : Int32} {σ : Mm} (hF : Fr W_X8_cutOne σ0 σ) : FoI W_X8_cutOne σ0 (F_X8_cutOne_54 x1 s0 s1 s2 σ) := by
  unfold F_X8_cutOne_54
  exact (fI_ite (fo_F_X8_cutOne_64  hF) (fo_F_X8_cutOne_64  hF))
theorem fo_F_X8_cutOne_47 {σ0 : Mm} {x1 : Int32} {s0 : Int32} {s1 : Int32} {σ : Mm} (hF : Fr W_X8_cutOne σ0 σ) : FoI W_X8_cutOne σ0 (F_X8_cutOne_47 x1 s0 s1 σ) := by
  unfold F_X8_cutOne_47
  exact (fI_I (Wc := W_X8_sign) hF rfl (fo_F_X8_sign Fr_r) (fun _ _ h1 => (fo_F_X8_cutOne_54  h1)))
theorem fo_F_X8_cutOne_33 {σ0 : Mm} {s0 : Int32} {σ : Mm} (hF : Fr W_X8_cutOne σ0 σ) : FoI W_X8_cutOne σ0 (F_X8_cutOne_33 s0 σ) := by
  unfold F_X8_cutOne_33
  exact (fI_some hF)
theorem fo_F_X8_cutOne_22 {σ0 : Mm} {x1 : Int32} {s0 : Int32} {σ : Mm} (hF : Fr W_X8_cutOne σ0 σ) : FoI W_X8_cutOne σ0 (F_X8_cutOne_22 x1 s0 σ) := by
  unfold F_X8_cutOne_22
  exact (fI_ite (fI_I (Wc := W_X8_sign) hF rfl (fo_F_X8_sign Fr_r) (fun _ _ h1 => (fo_F_X8_cutOne_47  h1))) (fI_I (Wc := W_X8_cutNumber) hF rfl (fo_F_X8_cutNumber Fr_r) (fun _ _ h2 => (fo_F_X8_cutOne_33  h2))))
theorem fo_F_X8_cutOne_16 {σ0 : Mm} {s0 : Int32} {σ : Mm} (hF : Fr W_X8_cutOne σ0 σ) : FoI W_X8_cutOne σ0 (F_X8_cutOne_16 s0 σ) := by
  unfold F_X8_cutOne_16
  exact (fI_some hF)
theorem fo_F_X8_cutOne_5 {σ0 : Mm} {x1 : Int32} {s0 : Int32} {σ : Mm} (hF : Fr W_X8_cutOne σ0 σ) : FoI W_X8_cutOne σ0 (F_X8_cutOne_5 x1 s0 σ) := by
  unfold F_X8_cutOne_5
  exact (fI_ite (fI_I (Wc := W_X8_sign) hF rfl (fo_F_X8_sign Fr_r) (fun _ _ h1 => (fo_F_X8_cutOne_22  h1))) (fI_I (Wc := W_X8_cutWord) hF rfl (fo_F_X8_cutWord Fr_r) (fun _ _ h2 => (fo_F_X8_cutOne_16  h2))))
theorem fo_F_X8_cutOne {σ0 : Mm} {x1 : Int32} {σ : Mm} (hF : Fr W_X8_cutOne σ0 σ) : FoI W_X8_cutOne σ0 (F_X8_cutOne x1 σ) := by
  unfold F_X8_cutOne
  exact (fI_I (Wc := W_X8_sign) hF rfl (fo_F_X8_sign Fr_r) (fun _ _ h1 => (fo_F_X8_cutOne_5  h1)))
theorem fr_X8_cutOne {x1 : Int32} {σ : Mm} : FoI W_X8_cutOne σ (F_X8_cutOne x1 σ) := fo_F_X8_cutOne Fr_r
def W_X8_cut : List (Nat × Nat × Nat) := [(0, 6, 2), (0, 8, 999), (0, 9, 999), (0, 10, 999), (0, 11, 999)]
theorem fo_F_X8_cut_75 {σ0 : Mm} {σ : Mm} (hF : Fr W_X8_cut σ0 σ) : FoV W_X8_cut σ0 (F_X8_cut_75 σ) := by
  unfold F_X8_cut_75
  exact (fV_ite (fV_some (Fr.AA hF rfl)) fV_none)
theorem fo_F_X8_cut_65 {σ0 : Mm} {σ : Mm} (hF : Fr W_X8_cut σ0 σ) : FoV W_X8_cut σ0 (F_X8_cut_65 σ) := by
  unfold F_X8_cut_65
  exact (fV_ite (fo_F_X8_cut_75  (Fr.AA hF rfl)) fV_none)
theorem fo_F_X8_cut_59 {σ0 : Mm} {rc9 : Int32 → Int32 → Mm → Option (Mm)} (hrc9 : ∀ a0 a1 τ, Fr W_X8_cut σ0 τ → FoV W_X8_cut σ0 (rc9 a0 a1 τ)) {x1 : Int32} {x2 : Int32} {σ : Mm} (hF : Fr W_X8_cut σ0 σ) : FoV W_X8_cut σ0 (F_X8_cut_59 rc9 x1 x2 σ) := by
  unfold F_X8_cut_59
  exact (hrc9 _ _ _ hF)
theorem fo_F_X8_cut_48 {σ0 : Mm} {rc9 : Int32 → Int32 → Mm → Option (Mm)} (hrc9 : ∀ a0 a1 τ, Fr W_X8_cut σ0 τ → FoV W_X8_cut σ0 (rc9 a0 a1 τ)) {x2 : Int32} {s0 : Int32} {σ : Mm} (hF : Fr W_X8_cut σ0 σ) : FoV W_X8_cut σ0 (F_X8_cut_48 rc9 x2 s0 σ) := by
  unfold F_X8_cut_48
  exact (fo_F_X8_cut_59 hrc9 (Fr.A hF rfl))
theorem fo_F_X8_cut_43 {σ0 : Mm} {rc9 : Int32 → Int32 → Mm → Option (Mm)} (hrc9 : ∀ a0 a1 τ, Fr W_X8_cut σ0 τ → FoV W_X8_cut σ0 (rc9 a0 a1 τ)) {x1 : Int32} {x2 : Int32} {σ : Mm} (hF : Fr W_X8_cut σ0 σ) : FoV W_X8_cut σ0 (F_X8_cut_43 rc9 x1 x2 σ) := by
  unfold F_X8_cut_43
  exact (fI_V (Wc := W_X8_cutOne) hF rfl (fo_F_X8_cutOne Fr_r) (fun _ _ h1 => (fo_F_X8_cut_48 hrc9 h1)))
theorem fo_F_X8_cut_21 {σ0 : Mm} {rc9 : Int32 → Int32 → Mm → Option (Mm)} (hrc9 : ∀ a0 a1 τ, Fr W_X8_cut σ0 τ → FoV W_X8_cut σ0 (rc9 a0 a1 τ)) {x2 : Int32} {s0 : Int32} {σ : Mm} (hF : Fr W_X8_cut σ0 σ) : FoV W_X8_cut σ0 (F_X8_cut_21 rc9 x2 s0 σ) := by
  unfold F_X8_cut_21
  exact (fV_ite (fV_ite (fo_F_X8_cut_43 hrc9 (Fr.AA hF rfl)) fV_none) (fo_F_X8_cut_65  hF))
theorem fo_B_X8_cut_9 {σ0 : Mm} {rc9 : Int32 → Int32 → Mm → Option (Mm)} (hrc9 : ∀ a0 a1 τ, Fr W_X8_cut σ0 τ → FoV W_X8_cut σ0 (rc9 a0 a1 τ)) {x1 : Int32} {x2 : Int32} {σ : Mm} (hF : Fr W_X8_cut σ0 σ) : FoV W_X8_cut σ0 (B_X8_cut_9 rc9 x1 x2 σ) := by
  unfold B_X8_cut_9
  exact (fV_ite (fo_F_X8_cut_65  hF) (fI_V (Wc := W_X8_behindBlanks) hF rfl (fo_F_X8_behindBlanks Fr_r) (fun _ _ h1 => (fo_F_X8_cut_21 hrc9 h1))))
theorem fo_F_X8_cut_9 {σ0 : Mm} (n : Nat) : ∀ {y0 : Int32} {y1 : Int32} {σ : Mm}, Fr W_X8_cut σ0 σ → FoV W_X8_cut σ0 (F_X8_cut_9  n y0 y1 σ) := by
  induction n with
  | zero => intro y0 y1 σ _; exact fV_none
  | succ n ih => intro y0 y1 σ hF; exact fo_B_X8_cut_9  (fun _ _ _ h => ih h) hF
theorem fo_F_X8_cut_5 {σ0 : Mm} {σ : Mm} (hF : Fr W_X8_cut σ0 σ) : FoV W_X8_cut σ0 (F_X8_cut_5 σ) := by
  unfold F_X8_cut_5
  exact (fo_F_X8_cut_9  FU hF)
theorem fo_F_X8_cut {σ0 : Mm} {σ : Mm} (hF : Fr W_X8_cut σ0 σ) : FoV W_X8_cut σ0 (F_X8_cut σ) := by
  unfold F_X8_cut
  exact (fo_F_X8_cut_5  (Fr.A hF rfl))
theorem fr_X8_cut {σ : Mm} : FoV W_X8_cut σ (F_X8_cut σ) := fo_F_X8_cut Fr_r
def W_X9_forget : List (Nat × Nat × Nat) := [(1, 0, 0), (1, 0, 1), (1, 0, 6), (1, 0, 8), (1, 0, 12), (1, 0, 14), (1, 5, 999), (1, 10, 0)]
theorem fo_F_X9_forget_38 {σ0 : Mm} {i0 : Nat} {σ : Mm} (hF : Fr W_X9_forget σ0 σ) : FoV W_X9_forget σ0 (F_X9_forget_38 i0 σ) := by
  unfold F_X9_forget_38
  exact (fV_V (Wc := W_X0_forget) hF rfl (fo_F_X0_forget Fr_r) (fun _ h1 => (fV_some h1)))
theorem fo_F_X9_forget_30 {σ0 : Mm} {i0 : Nat} {σ : Mm} (hF : Fr W_X9_forget σ0 σ) : FoV W_X9_forget σ0 (F_X9_forget_30 i0 σ) := by
  unfold F_X9_forget_30
  exact (fV_V (Wc := W_J7_fill_53178_df) hF rfl (fo_F_J7_fill_53178_df Fr_r) (fun _ h1 => (fo_F_X9_forget_38  h1)))
theorem fo_F_X9_forget_25 {σ0 : Mm} {i0 : Nat} {σ : Mm} (hF : Fr W_X9_forget σ0 σ) : FoV W_X9_forget σ0 (F_X9_forget_25 i0 σ) := by
  unfold F_X9_forget_25
  exact (fo_F_X9_forget_30  (Fr.A hF rfl))
theorem fo_F_X9_forget_20 {σ0 : Mm} {i0 : Nat} {σ : Mm} (hF : Fr W_X9_forget σ0 σ) : FoV W_X9_forget σ0 (F_X9_forget_20 i0 σ) := by
  unfold F_X9_forget_20
  exact (fo_F_X9_forget_25  (Fr.A hF rfl))
theorem fo_F_X9_forget_15 {σ0 : Mm} {i0 : Nat} {σ : Mm} (hF : Fr W_X9_forget σ0 σ) : FoV W_X9_forget σ0 (F_X9_forget_15 i0 σ) := by
  unfold F_X9_forget_15
  exact (fo_F_X9_forget_20  (Fr.A hF rfl))
theorem fo_F_X9_forget_10 {σ0 : Mm} {i0 : Nat} {σ : Mm} (hF : Fr W_X9_forget σ0 σ) : FoV W_X9_forget σ0 (F_X9_forget_10 i0 σ) := by
  unfold F_X9_forget_10
  exact (fo_F_X9_forget_15  (Fr.A hF rfl))
theorem fo_F_X9_forget_5 {σ0 : Mm} {i0 : Nat} {σ : Mm} (hF : Fr W_X9_forget σ0 σ) : FoV W_X9_forget σ0 (F_X9_forget_5 i0 σ) := by
  unfold F_X9_forget_5
  exact (fo_F_X9_forget_10  (Fr.A hF rfl))
theorem fo_F_X9_forget {σ0 : Mm} {i0 : Nat} {σ : Mm} (hF : Fr W_X9_forget σ0 σ) : FoV W_X9_forget σ0 (F_X9_forget i0 σ) := by
  unfold F_X9_forget
  exact (fo_F_X9_forget_5  (Fr.A hF rfl))
theorem fr_X9_forget {i0 : Nat} {σ : Mm} : FoV W_X9_forget σ (F_X9_forget i0 σ) := fo_F_X9_forget Fr_r
def W_X11_read : List (Nat × Nat × Nat) := [(0, 6, 0), (0, 6, 2), (0, 8, 999), (0, 9, 999), (0, 10, 999), (0, 11, 999), (0, 12, 0), (0, 12, 1), (0, 12, 4), (0, 12, 5), (0, 12, 6), (0, 13, 999), (0, 14, 999), (1, 0, 0), (1, 0, 1), (1, 0, 6), (1, 0, 8), (1, 0, 12), (1, 0, 14), (1, 1, 999), (1, 2, 999), (1, 3, 999), (1, 4, 999), (1, 5, 999), (1, 6, 999), (1, 7, 999), (1, 8, 999), (1, 9, 999), (1, 10, 0), (1, 11, 999), (1, 12, 999), (1, 13, 999), (1, 14, 999), (2, 0, 0), (2, 0, 1), (9, 0, 0), (9, 1, 0), (9, 2, 0)]
theorem fo_F_X11_read_68 {σ0 : Mm} {σ : Mm} (hF : Fr W_X11_read σ0 σ) : FoI W_X11_read σ0 (F_X11_read_68 σ) := by
  unfold F_X11_read_68
  exact (fI_some hF)
theorem fo_F_X11_read_61 {σ0 : Mm} {σ : Mm} (hF : Fr W_X11_read σ0 σ) : FoI W_X11_read σ0 (F_X11_read_61 σ) := by
  unfold F_X11_read_61
  exact (fV_I (Wc := W_X7_forget) hF rfl (fo_F_X7_forget Fr_r) (fun _ h1 => (fo_F_X11_read_68  h1)))
theorem fo_F_X11_read_56 {σ0 : Mm} {i0 : Nat} {σ : Mm} (hF : Fr W_X11_read σ0 σ) : FoI W_X11_read σ0 (F_X11_read_56 i0 σ) := by
  unfold F_X11_read_56
  exact (fo_F_X11_read_61  (Fr.P hF rfl))
theorem fo_F_X11_read_33 {σ0 : Mm} {σ : Mm} (hF : Fr W_X11_read σ0 σ) : FoI W_X11_read σ0 (F_X11_read_33 σ) := by
  unfold F_X11_read_33
  exact (fI_ite (fI_ite (fo_F_X11_read_56  (Fr.P hF rfl)) fI_none) (fo_F_X11_read_68  hF))
theorem fo_F_X11_read_22 {σ0 : Mm} {σ : Mm} (hF : Fr W_X11_read σ0 σ) : FoI W_X11_read σ0 (F_X11_read_22 σ) := by
  unfold F_X11_read_22
  exact (fI_ite (fV_I (Wc := W_X5_tellAll) hF rfl (fo_F_X5_tellAll Fr_r) (fun _ h1 => (fo_F_X11_read_33  h1))) fI_none)
theorem fo_F_X11_read_15 {σ0 : Mm} {σ : Mm} (hF : Fr W_X11_read σ0 σ) : FoI W_X11_read σ0 (F_X11_read_15 σ) := by
  unfold F_X11_read_15
  exact (fI_ite (fV_I (Wc := W_X9_forget) hF rfl (fo_F_X9_forget Fr_r) (fun _ h1 => (fo_F_X11_read_22  h1))) fI_none)
theorem fo_F_X11_read_7 {σ0 : Mm} {σ : Mm} (hF : Fr W_X11_read σ0 σ) : FoI W_X11_read σ0 (F_X11_read_7 σ) := by
  unfold F_X11_read_7
  exact (fo_F_X11_read_15  (Fr.A hF rfl))
theorem fo_F_X11_read {σ0 : Mm} {σ : Mm} (hF : Fr W_X11_read σ0 σ) : FoI W_X11_read σ0 (F_X11_read σ) := by
  unfold F_X11_read
  exact (fV_I (Wc := W_X8_cut) hF rfl (fo_F_X8_cut Fr_r) (fun _ h1 => (fo_F_X11_read_7  h1)))
theorem fr_X11_read {σ : Mm} : FoI W_X11_read σ (F_X11_read σ) := fo_F_X11_read Fr_r
def W_X11_rise : List (Nat × Nat × Nat) := [(0, 28, 0), (0, 28, 1), (1, 10, 6), (1, 15, 999)]
theorem fo_F_X11_rise_30 {σ0 : Mm} {s0 : Int32} {σ : Mm} (hF : Fr W_X11_rise σ0 σ) : FoI W_X11_rise σ0 (F_X11_rise_30 s0 σ) := by
  unfold F_X11_rise_30
  exact (fI_some hF)
theorem fo_F_X11_rise {σ0 : Mm} {x1 : Int32} {x2 : Int32} {σ : Mm} (hF : Fr W_X11_rise σ0 σ) : FoI W_X11_rise σ0 (F_X11_rise x1 x2 σ) := by
  unfold F_X11_rise
  exact (fI_ite (fI_ite (fI_some hF) (fI_ite (fI_some hF) (fI_I (Wc := W_X6_rising) hF rfl (fo_F_X6_rising Fr_r) (fun _ _ h1 => (fo_F_X11_rise_30  h1))))) fI_none)
theorem fr_X11_rise {x1 : Int32} {x2 : Int32} {σ : Mm} : FoI W_X11_rise σ (F_X11_rise x1 x2 σ) := fo_F_X11_rise Fr_r
def W_X11_say : List (Nat × Nat × Nat) := [(0, 15, 0), (0, 15, 8), (0, 16, 999), (0, 17, 999), (0, 18, 999), (0, 19, 999), (0, 20, 999), (0, 21, 999), (0, 22, 999), (0, 23, 999), (0, 24, 999), (0, 25, 0), (0, 26, 999), (0, 27, 999), (0, 28, 0), (0, 28, 1), (0, 29, 5), (0, 30, 999), (0, 31, 999), (0, 32, 999), (0, 35, 999), (0, 36, 999), (1, 10, 6), (1, 15, 999)]
theorem fo_F_X11_say_195 {σ0 : Mm} {s0 : Int32} {σ : Mm} (hF : Fr W_X11_say σ0 σ) : FoI W_X11_say σ0 (F_X11_say_195 s0 σ) := by
  unfold F_X11_say_195
  exact (fI_ite (fI_some hF) (fI_some hF))
theorem fo_F_X11_say_186 {σ0 : Mm} {x4 : Int32} {x5 : Int32} {σ : Mm} (hF : Fr W_X11_say σ0 σ) : FoI W_X11_say σ0 (F_X11_say_186 x4 x5 σ) := by
  unfold F_X11_say_186
  exact (fI_I (Wc := W_X11_strikes) hF rfl (fo_F_X11_strikes Fr_r) (fun _ _ h1 => (fo_F_X11_say_195  h1)))
theorem fo_F_X11_say_159 {σ0 : Mm} {x4 : Int32} {x5 : Int32} {σ : Mm} (hF : Fr W_X11_say σ0 σ) : FoI W_X11_say σ0 (F_X11_say_159 x4 x5 σ) := by
  unfold F_X11_say_159
  exact (fI_ite (fI_ite (fI_ite (fI_ite (fI_some hF) (fo_F_X11_say_186  hF)) fI_none) (fo_F_X11_say_186  hF)) fI_none)
theorem fo_F_X11_say_140 {σ0 : Mm} {x1 : Int32} {x4 : Int32} {x5 : Int32} {s0 : Int32} {σ : Mm} (hF : Fr W_X11_say σ0 σ) : FoI W_X11_say σ0 (F_X11_say_140 x1 x4 x5 s0 σ) := by
  unfold F_X11_say_140
  exact (fI_ite (fI_ite (fV_I (Wc := W_X2_describe) hF rfl (fo_F_X2_describe Fr_r) (fun _ h1 => (fo_F_X11_say_159  h1))) fI_none) (fI_some hF))
theorem fo_F_X11_say_133 {σ0 : Mm} {x1 : Int32} {x4 : Int32} {x5 : Int32} {σ : Mm} (hF : Fr W_X11_say σ0 σ) : FoI W_X11_say σ0 (F_X11_say_133 x1 x4 x5 σ) := by
  unfold F_X11_say_133
  exact (fI_I (Wc := W_X10_asManyAsUnturned) hF rfl (fo_F_X10_asManyAsUnturned Fr_r) (fun _ _ h1 => (fo_F_X11_say_140  h1)))
theorem fo_F_X11_say_119 {σ0 : Mm} {x1 : Int32} {x2 : Int32} {x3 : Int32} {x4 : Int32} {x5 : Int32} {s0 : Int32} {σ : Mm} (hF : Fr W_X11_say σ0 σ) : FoI W_X11_say σ0 (F_X11_say_119 x1 x2 x3 x4 x5 s0 σ) := by
  unfold F_X11_say_119
  exact (fI_ite (fI_some hF) (fV_I (Wc := W_X11_turnAll) hF rfl (fo_F_X11_turnAll Fr_r) (fun _ h1 => (fo_F_X11_say_133  h1))))
theorem fo_F_X11_say_110 {σ0 : Mm} {x1 : Int32} {x2 : Int32} {x3 : Int32} {x4 : Int32} {x5 : Int32} {σ : Mm} (hF : Fr W_X11_say σ0 σ) : FoI W_X11_say σ0 (F_X11_say_110 x1 x2 x3 x4 x5 σ) := by
  unfold F_X11_say_110
  exact (fI_I (Wc := W_X11_strikes) hF rfl (fo_F_X11_strikes Fr_r) (fun _ _ h1 => (fo_F_X11_say_119  h1)))
theorem fo_F_X11_say_96 {σ0 : Mm} {x1 : Int32} {x2 : Int32} {x3 : Int32} {x4 : Int32} {s0 : Int32} {σ : Mm} (hF : Fr W_X11_say σ0 σ) : FoI W_X11_say σ0 (F_X11_say_96 x1 x2 x3 x4 s0 σ) := by
  unfold F_X11_say_96
  exact (fI_ite (fV_I (Wc := W_X6_watch) hF rfl (fo_F_X6_watch Fr_r) (fun _ h1 => (fo_F_X11_say_110  h1))) fI_none)
theorem fo_F_X11_say_88 {σ0 : Mm} {x1 : Int32} {x2 : Int32} {x3 : Int32} {x4 : Int32} {σ : Mm} (hF : Fr W_X11_say σ0 σ) : FoI W_X11_say σ0 (F_X11_say_88 x1 x2 x3 x4 σ) := by
  unfold F_X11_say_88
  exact (fI_I (Wc := W_X2_bearingOf) hF rfl (fo_F_X2_bearingOf Fr_r) (fun _ _ h1 => (fo_F_X11_say_96  h1)))
theorem fo_F_X11_say_70 {σ0 : Mm} {x1 : Int32} {x2 : Int32} {x3 : Int32} {s0 : Int32} {σ : Mm} (hF : Fr W_X11_say σ0 σ) : FoI W_X11_say σ0 (F_X11_say_70 x1 x2 x3 s0 σ) := by
  unfold F_X11_say_70
  exact (fI_ite (fI_some hF) (fI_ite (fo_F_X11_say_88  hF) fI_none))
theorem fo_F_X11_say_52 {σ0 : Mm} {x1 : Int32} {x2 : Int32} {x3 : Int32} {s0 : Int32} {σ : Mm} (hF : Fr W_X11_say σ0 σ) : FoI W_X11_say σ0 (F_X11_say_52 x1 x2 x3 s0 σ) := by
  unfold F_X11_say_52
  exact (fI_ite (fI_some hF) (fI_ite (fI_I (Wc := W_X2_holds) hF rfl (fo_F_X2_holds Fr_r) (fun _ _ h1 => (fo_F_X11_say_70  h1))) fI_none))
theorem fo_F_X11_say_44 {σ0 : Mm} {x1 : Int32} {x2 : Int32} {x3 : Int32} {σ : Mm} (hF : Fr W_X11_say σ0 σ) : FoI W_X11_say σ0 (F_X11_say_44 x1 x2 x3 σ) := by
  unfold F_X11_say_44
  exact (fI_I (Wc := W_X2_joins) hF rfl (fo_F_X2_joins Fr_r) (fun _ _ h1 => (fo_F_X11_say_52  h1)))
theorem fo_F_X11_say {σ0 : Mm} {x1 : Int32} {x2 : Int32} {x3 : Int32} {σ : Mm} (hF : Fr W_X11_say σ0 σ) : FoI W_X11_say σ0 (F_X11_say x1 x2 x3 σ) := by
  unfold F_X11_say
  exact (fI_ite (fI_some hF) (fI_ite (fI_some hF) (fI_ite (fI_some hF) (fI_ite (fI_ite (fI_some hF) (fV_I (Wc := W_X2_know) hF rfl (fo_F_X2_know Fr_r) (fun _ h1 => (fo_F_X11_say_44  h1)))) fI_none))))
theorem fr_X11_say {x1 : Int32} {x2 : Int32} {x3 : Int32} {σ : Mm} : FoI W_X11_say σ (F_X11_say x1 x2 x3 σ) := fo_F_X11_say Fr_r
def W_X11_seen : List (Nat × Nat × Nat) := []
theorem fo_F_X11_seen_57 {σ0 : Mm} {s0 : Int64} {σ : Mm} (hF : Fr W_X11_seen σ0 σ) : FoL W_X11_seen σ0 (F_X11_seen_57 s0 σ) := by
  unfold F_X11_seen_57
  exact (fL_some hF)
theorem fo_F_X11_seen {σ0 : Mm} {x1 : Int32} {x2 : Int32} {x3 : Int32} {x4 : Int32} {σ : Mm} (hF : Fr W_X11_seen σ0 σ) : FoL W_X11_seen σ0 (F_X11_seen x1 x2 x3 x4 σ) := by
  unfold F_X11_seen
  exact (fL_ite (fL_some hF) (fL_ite (fL_some hF) (fL_ite (fL_some hF) (fL_ite (fL_some hF) (fL_ite (fL_some hF) (fL_ite (fL_some hF) (fL_ite (fL_some hF) (fL_ite (fL_L (Wc := W_X11_ways) hF rfl (fo_F_X11_ways Fr_r) (fun _ _ h1 => (fo_F_X11_seen_57  h1))) (fL_some hF)))))))))
theorem fr_X11_seen {x1 : Int32} {x2 : Int32} {x3 : Int32} {x4 : Int32} {σ : Mm} : FoL W_X11_seen σ (F_X11_seen x1 x2 x3 x4 σ) := fo_F_X11_seen Fr_r
def W_X11_site : List (Nat × Nat × Nat) := [(0, 0, 12), (0, 3, 999), (0, 4, 999)]
theorem fo_F_X11_site_55 {σ0 : Mm} {σ : Mm} (hF : Fr W_X11_site σ0 σ) : FoI W_X11_site σ0 (F_X11_site_55 σ) := by
  unfold F_X11_site_55
  exact (fI_some hF)
theorem fo_F_X11_site_45 {σ0 : Mm} {σ : Mm} (hF : Fr W_X11_site σ0 σ) : FoI W_X11_site σ0 (F_X11_site_45 σ) := by
  unfold F_X11_site_45
  exact (fo_F_X11_site_55  (Fr.A hF rfl))
theorem fo_F_X11_site_35 {σ0 : Mm} {x2 : Int32} {σ : Mm} (hF : Fr W_X11_site σ0 σ) : FoI W_X11_site σ0 (F_X11_site_35 x2 σ) := by
  unfold F_X11_site_35
  exact (fI_ite (fo_F_X11_site_45  (Fr.AA hF rfl)) fI_none)
theorem fo_F_X11_site {σ0 : Mm} {x1 : Int32} {x2 : Int32} {σ : Mm} (hF : Fr W_X11_site σ0 σ) : FoI W_X11_site σ0 (F_X11_site x1 x2 σ) := by
  unfold F_X11_site
  exact (fI_ite (fI_some hF) (fI_ite (fI_some hF) (fI_ite (fI_some hF) (fI_ite (fo_F_X11_site_35  (Fr.AA hF rfl)) fI_none))))
theorem fr_X11_site {x1 : Int32} {x2 : Int32} {σ : Mm} : FoI W_X11_site σ (F_X11_site x1 x2 σ) := fo_F_X11_site Fr_r
def W_X11_story : List (Nat × Nat × Nat) := [(0, 15, 0), (0, 15, 8), (0, 16, 999), (0, 17, 999), (0, 18, 999), (0, 19, 999), (0, 20, 999), (0, 21, 999), (0, 22, 999), (0, 23, 999), (0, 24, 999), (0, 25, 0), (0, 26, 999), (0, 27, 999), (0, 28, 0), (0, 28, 1), (0, 29, 5), (0, 30, 999), (0, 31, 999), (0, 32, 999), (0, 35, 999), (0, 36, 999), (1, 10, 6), (1, 15, 999)]
theorem fo_F_X11_story_64 {σ0 : Mm} {σ : Mm} (hF : Fr W_X11_story σ0 σ) : FoI W_X11_story σ0 (F_X11_story_64 σ) := by
  unfold F_X11_story_64
  exact (fI_some hF)
theorem fo_F_X11_story_85 {σ0 : Mm} {s0 : Int32} {σ : Mm} (hF : Fr W_X11_story σ0 σ) : FoI W_X11_story σ0 (F_X11_story_85 s0 σ) := by
  unfold F_X11_story_85
  exact (fI_some hF)
theorem fo_F_X11_story_80 {σ0 : Mm} {x2 : Int32} {σ : Mm} (hF : Fr W_X11_story σ0 σ) : FoI W_X11_story σ0 (F_X11_story_80 x2 σ) := by
  unfold F_X11_story_80
  exact (fI_I (Wc := W_X11_hitsNow) hF rfl (fo_F_X11_hitsNow Fr_r) (fun _ _ h1 => (fo_F_X11_story_85  h1)))
theorem fo_F_X11_story_102 {σ0 : Mm} {s0 : Int32} {σ : Mm} (hF : Fr W_X11_story σ0 σ) : FoI W_X11_story σ0 (F_X11_story_102 s0 σ) := by
  unfold F_X11_story_102
  exact (fI_some hF)
theorem fo_F_X11_story_95 {σ0 : Mm} {σ : Mm} (hF : Fr W_X11_story σ0 σ) : FoI W_X11_story σ0 (F_X11_story_95 σ) := by
  unfold F_X11_story_95
  exact (fI_I (Wc := W_X10_asManyAsUnturned) hF rfl (fo_F_X10_asManyAsUnturned Fr_r) (fun _ _ h1 => (fo_F_X11_story_102  h1)))
theorem fo_F_X11_story {σ0 : Mm} {x1 : Int32} {x2 : Int32} {x3 : Int32} {x4 : Int32} {x5 : Int32} {σ : Mm} (hF : Fr W_X11_story σ0 σ) : FoI W_X11_story σ0 (F_X11_story x1 x2 x3 x4 x5 σ) := by
  unfold F_X11_story
  exact (fI_ite (fI_some hF) (fI_ite (fI_ite (fI_some hF) (fI_ite (fI_some hF) (fI_ite (fV_I (Wc := W_X11_lookAt) hF rfl (fo_F_X11_lookAt Fr_r) (fun _ h1 => (fo_F_X11_story_64  h1))) (fI_ite (fV_I (Wc := W_X11_lookAt) hF rfl (fo_F_X11_lookAt Fr_r) (fun _ h2 => (fo_F_X11_story_80  h2))) (fI_ite (fV_I (Wc := W_X11_turnAll) hF rfl (fo_F_X11_turnAll Fr_r) (fun _ h3 => (fo_F_X11_story_95  h3))) (fI_some hF)))))) fI_none))
theorem fr_X11_story {x1 : Int32} {x2 : Int32} {x3 : Int32} {x4 : Int32} {x5 : Int32} {σ : Mm} : FoI W_X11_story σ (F_X11_story x1 x2 x3 x4 x5 σ) := fo_F_X11_story Fr_r
def W_X11_striking : List (Nat × Nat × Nat) := [(0, 15, 0), (0, 15, 8), (0, 16, 999), (0, 17, 999), (0, 18, 999), (0, 19, 999), (0, 20, 999), (0, 21, 999), (0, 22, 999), (0, 23, 999), (0, 24, 999), (0, 25, 0), (0, 26, 999), (0, 27, 999), (0, 28, 0), (0, 28, 1), (0, 29, 5), (0, 30, 999), (0, 31, 999), (0, 32, 999), (0, 33, 999), (0, 34, 999), (0, 35, 999), (0, 36, 999), (1, 10, 6), (1, 15, 999)]
theorem fo_F_X11_striking_46 {σ0 : Mm} {x2 : Int32} {σ : Mm} (hF : Fr W_X11_striking σ0 σ) : FoI W_X11_striking σ0 (F_X11_striking_46 x2 σ) := by
  unfold F_X11_striking_46
  exact (fI_ite (fI_some hF) fI_none)
theorem fo_F_X11_striking_31 {σ0 : Mm} {x2 : Int32} {σ : Mm} (hF : Fr W_X11_striking σ0 σ) : FoI W_X11_striking σ0 (F_X11_striking_31 x2 σ) := by
  unfold F_X11_striking_31
  exact (fV_I (Wc := W_X10_tellAfter) hF rfl (fo_F_X10_tellAfter Fr_r) (fun _ h1 => (fo_F_X11_striking_46  h1)))
theorem fo_F_X11_striking {σ0 : Mm} {x1 : Int32} {x2 : Int32} {x3 : Int32} {σ : Mm} (hF : Fr W_X11_striking σ0 σ) : FoI W_X11_striking σ0 (F_X11_striking x1 x2 x3 σ) := by
  unfold F_X11_striking
  exact (fI_ite (fI_some hF) (fI_ite (fI_some hF) (fI_ite (fI_ite (fI_some hF) (fV_I (Wc := W_X11_lookAt) hF rfl (fo_F_X11_lookAt Fr_r) (fun _ h1 => (fo_F_X11_striking_31  h1)))) fI_none)))
theorem fr_X11_striking {x1 : Int32} {x2 : Int32} {x3 : Int32} {σ : Mm} : FoI W_X11_striking σ (F_X11_striking x1 x2 x3 σ) := fo_F_X11_striking Fr_r
def W_X11_thing : List (Nat × Nat × Nat) := [(0, 15, 0), (0, 16, 999), (0, 17, 999), (0, 18, 999), (0, 19, 999), (0, 20, 999), (0, 21, 999)]
theorem fo_F_X11_thing_34 {σ0 : Mm} {x1 : Int32} {x2 : Int32} {σ : Mm} (hF : Fr W_X11_thing σ0 σ) : FoI W_X11_thing σ0 (F_X11_thing_34 x1 x2 σ) := by
  unfold F_X11_thing_34
  exact (fI_ite (fI_ite (fI_some hF) fI_none) (fI_ite (fI_ite (fI_some hF) fI_none) (fI_ite (fI_ite (fI_some hF) fI_none) (fI_ite (fI_ite (fI_some hF) fI_none) (fI_ite (fI_ite (fI_ite (fI_some hF) (fI_some hF)) fI_none) (fI_some hF))))))
theorem fo_F_X11_thing {σ0 : Mm} {x1 : Int32} {x2 : Int32} {x3 : Int32} {σ : Mm} (hF : Fr W_X11_thing σ0 σ) : FoI W_X11_thing σ0 (F_X11_thing x1 x2 x3 σ) := by
  unfold F_X11_thing
  exact (fI_ite (fI_ite (fI_some hF) (fI_ite (fI_some hF) (fV_I (Wc := W_X2_know) hF rfl (fo_F_X2_know Fr_r) (fun _ h1 => (fo_F_X11_thing_34  h1))))) fI_none)
theorem fr_X11_thing {x1 : Int32} {x2 : Int32} {x3 : Int32} {σ : Mm} : FoI W_X11_thing σ (F_X11_thing x1 x2 x3 σ) := fo_F_X11_thing Fr_r
def W_X12_copy : List (Nat × Nat × Nat) := [(3, 7, 999), (3, 8, 999), (3, 9, 999), (3, 10, 999), (3, 11, 999), (3, 12, 999), (3, 13, 999), (3, 14, 999), (3, 15, 999), (3, 16, 999), (3, 17, 999), (3, 18, 999), (3, 19, 999), (3, 20, 999), (3, 21, 999), (3, 22, 999), (3, 23, 999), (3, 24, 999), (3, 25, 999), (3, 26, 999), (3, 27, 999), (3, 28, 999), (3, 29, 999), (3, 30, 999), (3, 31, 999), (3, 32, 999), (3, 33, 999), (3, 34, 999), (3, 35, 999), (3, 36, 999), (3, 37, 999), (3, 38, 999), (3, 39, 999), (3, 40, 999), (3, 41, 999), (3, 42, 999)]
theorem fo_F_X12_copy_819 {σ0 : Mm} {rc725 : Int32 → Int32 → Int32 → Mm → Option (Mm)} (hrc725 : ∀ a0 a1 a2 τ, Fr W_X12_copy σ0 τ → FoV W_X12_copy σ0 (rc725 a0 a1 a2 τ)) {x1 : Int32} {x2 : Int32} {x3 : Int32} {σ : Mm} (hF : Fr W_X12_copy σ0 σ) : FoV W_X12_copy σ0 (F_X12_copy_819 rc725 x1 x2 x3 σ) := by
  unfold F_X12_copy_819
  exact (hrc725 _ _ _ _ hF)
theorem fo_F_X12_copy_797 {σ0 : Mm} {rc725 : Int32 → Int32 → Int32 → Mm → Option (Mm)} (hrc725 : ∀ a0 a1 a2 τ, Fr W_X12_copy σ0 τ → FoV W_X12_copy σ0 (rc725 a0 a1 a2 τ)) {x1 : Int32} {x2 : Int32} {x3 : Int32} {σ : Mm} (hF : Fr W_X12_copy σ0 σ) : FoV W_X12_copy σ0 (F_X12_copy_797 rc725 x1 x2 x3 σ) := by
  unfold F_X12_copy_797
  exact (fV_ite (fV_ite (fo_F_X12_copy_819 hrc725 (Fr.AA hF rfl)) fV_none) fV_none)
theorem fo_F_X12_copy_775 {σ0 : Mm} {rc725 : Int32 → Int32 → Int32 → Mm → Option (Mm)} (hrc725 : ∀ a0 a1 a2 τ, Fr W_X12_copy σ0 τ → FoV W_X12_copy σ0 (rc725 a0 a1 a2 τ)) {x1 : Int32} {x2 : Int32} {x3 : Int32} {σ : Mm} (hF : Fr W_X12_copy σ0 σ) : FoV W_X12_copy σ0 (F_X12_copy_775 rc725 x1 x2 x3 σ) := by
  unfold F_X12_copy_775
  exact (fV_ite (fV_ite (fo_F_X12_copy_797 hrc725 (Fr.AA hF rfl)) fV_none) fV_none)
theorem fo_F_X12_copy_753 {σ0 : Mm} {rc725 : Int32 → Int32 → Int32 → Mm → Option (Mm)} (hrc725 : ∀ a0 a1 a2 τ, Fr W_X12_copy σ0 τ → FoV W_X12_copy σ0 (rc725 a0 a1 a2 τ)) {x1 : Int32} {x2 : Int32} {x3 : Int32} {σ : Mm} (hF : Fr W_X12_copy σ0 σ) : FoV W_X12_copy σ0 (F_X12_copy_753 rc725 x1 x2 x3 σ) := by
  unfold F_X12_copy_753
  exact (fV_ite (fV_ite (fo_F_X12_copy_775 hrc725 (Fr.AA hF rfl)) fV_none) fV_none)
theorem fo_B_X12_copy_725 {σ0 : Mm} {rc725 : Int32 → Int32 → Int32 → Mm → Option (Mm)} (hrc725 : ∀ a0 a1 a2 τ, Fr W_X12_copy σ0 τ → FoV W_X12_copy σ0 (rc725 a0 a1 a2 τ)) {x1 : Int32} {x2 : Int32} {x3 : Int32} {σ : Mm} (hF : Fr W_X12_copy σ0 σ) : FoV W_X12_copy σ0 (B_X12_copy_725 rc725 x1 x2 x3 σ) := by
  unfold B_X12_copy_725
  exact (fV_ite (fV_some hF) (fV_ite (fV_ite (fo_F_X12_copy_753 hrc725 (Fr.AA hF rfl)) fV_none) fV_none))
theorem fo_F_X12_copy_725 {σ0 : Mm} (n : Nat) : ∀ {y0 : Int32} {y1 : Int32} {y2 : Int32} {σ : Mm}, Fr W_X12_copy σ0 σ → FoV W_X12_copy σ0 (F_X12_copy_725  n y0 y1 y2 σ) := by
  induction n with
  | zero => intro y0 y1 y2 σ _; exact fV_none
  | succ n ih => intro y0 y1 y2 σ hF; exact fo_B_X12_copy_725  (fun _ _ _ _ h => ih h) hF
theorem fo_F_X12_copy_717 {σ0 : Mm} {rc566 : Int32 → Int32 → Int32 → Mm → Option (Mm)} (hrc566 : ∀ a0 a1 a2 τ, Fr W_X12_copy σ0 τ → FoV W_X12_copy σ0 (rc566 a0 a1 a2 τ)) {x1 : Int32} {x2 : Int32} {x3 : Int32} {σ : Mm} (hF : Fr W_X12_copy σ0 σ) : FoV W_X12_copy σ0 (F_X12_copy_717 rc566 x1 x2 x3 σ) := by
  unfold F_X12_copy_717
  exact (hrc566 _ _ _ _ hF)
theorem fo_F_X12_copy_693 {σ0 : Mm} {rc566 : Int32 → Int32 → Int32 → Mm → Option (Mm)} (hrc566 : ∀ a0 a1 a2 τ, Fr W_X12_copy σ0 τ → FoV W_X12_copy σ0 (rc566 a0 a1 a2 τ)) {x1 : Int32} {x2 : Int32} {x3 : Int32} {σ : Mm} (hF : Fr W_X12_copy σ0 σ) : FoV W_X12_copy σ0 (F_X12_copy_693 rc566 x1 x2 x3 σ) := by
  unfold F_X12_copy_693
  exact (fV_ite (fV_ite (fo_F_X12_copy_717 hrc566 (Fr.AA hF rfl)) fV_none) fV_none)
theorem fo_F_X12_copy_669 {σ0 : Mm} {rc566 : Int32 → Int32 → Int32 → Mm → Option (Mm)} (hrc566 : ∀ a0 a1 a2 τ, Fr W_X12_copy σ0 τ → FoV W_X12_copy σ0 (rc566 a0 a1 a2 τ)) {x1 : Int32} {x2 : Int32} {x3 : Int32} {σ : Mm} (hF : Fr W_X12_copy σ0 σ) : FoV W_X12_copy σ0 (F_X12_copy_669 rc566 x1 x2 x3 σ) := by
  unfold F_X12_copy_669
  exact (fV_ite (fV_ite (fo_F_X12_copy_693 hrc566 (Fr.AA hF rfl)) fV_none) fV_none)
theorem fo_F_X12_copy_645 {σ0 : Mm} {rc566 : Int32 → Int32 → Int32 → Mm → Option (Mm)} (hrc566 : ∀ a0 a1 a2 τ, Fr W_X12_copy σ0 τ → FoV W_X12_copy σ0 (rc566 a0 a1 a2 τ)) {x1 : Int32} {x2 : Int32} {x3 : Int32} {σ : Mm} (hF : Fr W_X12_copy σ0 σ) : FoV W_X12_copy σ0 (F_X12_copy_645 rc566 x1 x2 x3 σ) := by
  unfold F_X12_copy_645
  exact (fV_ite (fV_ite (fo_F_X12_copy_669 hrc566 (Fr.AA hF rfl)) fV_none) fV_none)
theorem fo_F_X12_copy_621 {σ0 : Mm} {rc566 : Int32 → Int32 → Int32 → Mm → Option (Mm)} (hrc566 : ∀ a0 a1 a2 τ, Fr W_X12_copy σ0 τ → FoV W_X12_copy σ0 (rc566 a0 a1 a2 τ)) {x1 : Int32} {x2 : Int32} {x3 : Int32} {σ : Mm} (hF : Fr W_X12_copy σ0 σ) : FoV W_X12_copy σ0 (F_X12_copy_621 rc566 x1 x2 x3 σ) := by
  unfold F_X12_copy_621
  exact (fV_ite (fV_ite (fo_F_X12_copy_645 hrc566 (Fr.AA hF rfl)) fV_none) fV_none)
theorem fo_F_X12_copy_597 {σ0 : Mm} {rc566 : Int32 → Int32 → Int32 → Mm → Option (Mm)} (hrc566 : ∀ a0 a1 a2 τ, Fr W_X12_copy σ0 τ → FoV W_X12_copy σ0 (rc566 a0 a1 a2 τ)) {x1 : Int32} {x2 : Int32} {x3 : Int32} {σ : Mm} (hF : Fr W_X12_copy σ0 σ) : FoV W_X12_copy σ0 (F_X12_copy_597 rc566 x1 x2 x3 σ) := by
  unfold F_X12_copy_597
  exact (fV_ite (fV_ite (fo_F_X12_copy_621 hrc566 (Fr.AA hF rfl)) fV_none) fV_none)
theorem fo_B_X12_copy_566 {σ0 : Mm} {rc566 : Int32 → Int32 → Int32 → Mm → Option (Mm)} (hrc566 : ∀ a0 a1 a2 τ, Fr W_X12_copy σ0 τ → FoV W_X12_copy σ0 (rc566 a0 a1 a2 τ)) {x1 : Int32} {x2 : Int32} {x3 : Int32} {σ : Mm} (hF : Fr W_X12_copy σ0 σ) : FoV W_X12_copy σ0 (B_X12_copy_566 rc566 x1 x2 x3 σ) := by
  unfold B_X12_copy_566
  exact (fV_ite (fo_F_X12_copy_725  FU hF) (fV_ite (fV_ite (fo_F_X12_copy_597 hrc566 (Fr.AA hF rfl)) fV_none) fV_none))
theorem fo_F_X12_copy_566 {σ0 : Mm} (n : Nat) : ∀ {y0 : Int32} {y1 : Int32} {y2 : Int32} {σ : Mm}, Fr W_X12_copy σ0 σ → FoV W_X12_copy σ0 (F_X12_copy_566  n y0 y1 y2 σ) := by
  induction n with
  | zero => intro y0 y1 y2 σ _; exact fV_none
  | succ n ih => intro y0 y1 y2 σ hF; exact fo_B_X12_copy_566  (fun _ _ _ _ h => ih h) hF
theorem fo_F_X12_copy_558 {σ0 : Mm} {rc503 : Int32 → Int32 → Int32 → Mm → Option (Mm)} (hrc503 : ∀ a0 a1 a2 τ, Fr W_X12_copy σ0 τ → FoV W_X12_copy σ0 (rc503 a0 a1 a2 τ)) {x1 : Int32} {x2 : Int32} {x3 : Int32} {σ : Mm} (hF : Fr W_X12_copy σ0 σ) : FoV W_X12_copy σ0 (F_X12_copy_558 rc503 x1 x2 x3 σ) := by
  unfold F_X12_copy_558
  exact (hrc503 _ _ _ _ hF)
theorem fo_F_X12_copy_534 {σ0 : Mm} {rc503 : Int32 → Int32 → Int32 → Mm → Option (Mm)} (hrc503 : ∀ a0 a1 a2 τ, Fr W_X12_copy σ0 τ → FoV W_X12_copy σ0 (rc503 a0 a1 a2 τ)) {x1 : Int32} {x2 : Int32} {x3 : Int32} {σ : Mm} (hF : Fr W_X12_copy σ0 σ) : FoV W_X12_copy σ0 (F_X12_copy_534 rc503 x1 x2 x3 σ) := by
  unfold F_X12_copy_534
  exact (fV_ite (fV_ite (fo_F_X12_copy_558 hrc503 (Fr.AA hF rfl)) fV_none) fV_none)
theorem fo_B_X12_copy_503 {σ0 : Mm} {rc503 : Int32 → Int32 → Int32 → Mm → Option (Mm)} (hrc503 : ∀ a0 a1 a2 τ, Fr W_X12_copy σ0 τ → FoV W_X12_copy σ0 (rc503 a0 a1 a2 τ)) {x1 : Int32} {x2 : Int32} {x3 : Int32} {σ : Mm} (hF : Fr W_X12_copy σ0 σ) : FoV W_X12_copy σ0 (B_X12_copy_503 rc503 x1 x2 x3 σ) := by
  unfold B_X12_copy_503
  exact (fV_ite (fo_F_X12_copy_566  FU hF) (fV_ite (fV_ite (fo_F_X12_copy_534 hrc503 (Fr.AA hF rfl)) fV_none) fV_none))
theorem fo_F_X12_copy_503 {σ0 : Mm} (n : Nat) : ∀ {y0 : Int32} {y1 : Int32} {y2 : Int32} {σ : Mm}, Fr W_X12_copy σ0 σ → FoV W_X12_copy σ0 (F_X12_copy_503  n y0 y1 y2 σ) := by
  induction n with
  | zero => intro y0 y1 y2 σ _; exact fV_none
  | succ n ih => intro y0 y1 y2 σ hF; exact fo_B_X12_copy_503  (fun _ _ _ _ h => ih h) hF
theorem fo_F_X12_copy_495 {σ0 : Mm} {rc445 : Int32 → Int32 → Int32 → Mm → Option (Mm)} (hrc445 : ∀ a0 a1 a2 τ, Fr W_X12_copy σ0 τ → FoV W_X12_copy σ0 (rc445 a0 a1 a2 τ)) {x1 : Int32} {x2 : Int32} {x3 : Int32} {σ : Mm} (hF : Fr W_X12_copy σ0 σ) : FoV W_X12_copy σ0 (F_X12_copy_495 rc445 x1 x2 x3 σ) := by
  unfold F_X12_copy_495
  exact (hrc445 _ _ _ _ hF)
theorem fo_F_X12_copy_473 {σ0 : Mm} {rc445 : Int32 → Int32 → Int32 → Mm → Option (Mm)} (hrc445 : ∀ a0 a1 a2 τ, Fr W_X12_copy σ0 τ → FoV W_X12_copy σ0 (rc445 a0 a1 a2 τ)) {x1 : Int32} {x2 : Int32} {x3 : Int32} {σ : Mm} (hF : Fr W_X12_copy σ0 σ) : FoV W_X12_copy σ0 (F_X12_copy_473 rc445 x1 x2 x3 σ) := by
  unfold F_X12_copy_473
  exact (fV_ite (fV_ite (fo_F_X12_copy_495 hrc445 (Fr.AA hF rfl)) fV_none) fV_none)
theorem fo_B_X12_copy_445 {σ0 : Mm} {rc445 : Int32 → Int32 → Int32 → Mm → Option (Mm)} (hrc445 : ∀ a0 a1 a2 τ, Fr W_X12_copy σ0 τ → FoV W_X12_copy σ0 (rc445 a0 a1 a2 τ)) {x1 : Int32} {x2 : Int32} {x3 : Int32} {σ : Mm} (hF : Fr W_X12_copy σ0 σ) : FoV W_X12_copy σ0 (B_X12_copy_445 rc445 x1 x2 x3 σ) := by
  unfold B_X12_copy_445
  exact (fV_ite (fo_F_X12_copy_503  FU hF) (fV_ite (fV_ite (fo_F_X12_copy_473 hrc445 (Fr.AA hF rfl)) fV_none) fV_none))
theorem fo_F_X12_copy_445 {σ0 : Mm} (n : Nat) : ∀ {y0 : Int32} {y1 : Int32} {y2 : Int32} {σ : Mm}, Fr W_X12_copy σ0 σ → FoV W_X12_copy σ0 (F_X12_copy_445  n y0 y1 y2 σ) := by
  induction n with
  | zero => intro y0 y1 y2 σ _; exact fV_none
  | succ n ih => intro y0 y1 y2 σ hF; exact fo_B_X12_copy_445  (fun _ _ _ _ h => ih h) hF
theorem fo_F_X12_copy_437 {σ0 : Mm} {rc372 : Int32 → Int32 → Int32 → Mm → Option (Mm)} (hrc372 : ∀ a0 a1 a2 τ, Fr W_X12_copy σ0 τ → FoV W_X12_copy σ0 (rc372 a0 a1 a2 τ)) {x1 : Int32} {x2 : Int32} {x3 : Int32} {σ : Mm} (hF : Fr W_X12_copy σ0 σ) : FoV W_X12_copy σ0 (F_X12_copy_437 rc372 x1 x2 x3 σ) := by
  unfold F_X12_copy_437
  exact (hrc372 _ _ _ _ hF)
theorem fo_F_X12_copy_417 {σ0 : Mm} {rc372 : Int32 → Int32 → Int32 → Mm → Option (Mm)} (hrc372 : ∀ a0 a1 a2 τ, Fr W_X12_copy σ0 τ → FoV W_X12_copy σ0 (rc372 a0 a1 a2 τ)) {x1 : Int32} {x2 : Int32} {x3 : Int32} {σ : Mm} (hF : Fr W_X12_copy σ0 σ) : FoV W_X12_copy σ0 (F_X12_copy_417 rc372 x1 x2 x3 σ) := by
  unfold F_X12_copy_417
  exact (fV_ite (fV_ite (fo_F_X12_copy_437 hrc372 (Fr.AA hF rfl)) fV_none) fV_none)
theorem fo_F_X12_copy_397 {σ0 : Mm} {rc372 : Int32 → Int32 → Int32 → Mm → Option (Mm)} (hrc372 : ∀ a0 a1 a2 τ, Fr W_X12_copy σ0 τ → FoV W_X12_copy σ0 (rc372 a0 a1 a2 τ)) {x1 : Int32} {x2 : Int32} {x3 : Int32} {σ : Mm} (hF : Fr W_X12_copy σ0 σ) : FoV W_X12_copy σ0 (F_X12_copy_397 rc372 x1 x2 x3 σ) := by
  unfold F_X12_copy_397
  exact (fV_ite (fV_ite (fo_F_X12_copy_417 hrc372 (Fr.AA hF rfl)) fV_none) fV_none)
theorem fo_B_X12_copy_372 {σ0 : Mm} {rc372 : Int32 → Int32 → Int32 → Mm → Option (Mm)} (hrc372 : ∀ a0 a1 a2 τ, Fr W_X12_copy σ0 τ → FoV W_X12_copy σ0 (rc372 a0 a1 a2 τ)) {x1 : Int32} {x2 : Int32} {x3 : Int32} {σ : Mm} (hF : Fr W_X12_copy σ0 σ) : FoV W_X12_copy σ0 (B_X12_copy_372 rc372 x1 x2 x3 σ) := by
  unfold B_X12_copy_372
  exact (fV_ite (fo_F_X12_copy_445  FU hF) (fV_ite (fV_ite (fo_F_X12_copy_397 hrc372 (Fr.AA hF rfl)) fV_none) fV_none))
theorem fo_F_X12_copy_372 {σ0 : Mm} (n : Nat) : ∀ {y0 : Int32} {y1 : Int32} {y2 : Int32} {σ : Mm}, Fr W_X12_copy σ0 σ → FoV W_X12_copy σ0 (F_X12_copy_372  n y0 y1 y2 σ) := by
  induction n with
  | zero => intro y0 y1 y2 σ _; exact fV_none
  | succ n ih => intro y0 y1 y2 σ hF; exact fo_B_X12_copy_372  (fun _ _ _ _ h => ih h) hF
theorem fo_F_X12_copy_364 {σ0 : Mm} {rc292 : Int32 → Int32 → Int32 → Mm → Option (Mm)} (hrc292 : ∀ a0 a1 a2 τ, Fr W_X12_copy σ0 τ → FoV W_X12_copy σ0 (rc292 a0 a1 a2 τ)) {x1 : Int32} {x2 : Int32} {x3 : Int32} {σ : Mm} (hF : Fr W_X12_copy σ0 σ) : FoV W_X12_copy σ0 (F_X12_copy_364 rc292 x1 x2 x3 σ) := by
  unfold F_X12_copy_364
  exact (hrc292 _ _ _ _ hF)
theorem fo_F_X12_copy_342 {σ0 : Mm} {rc292 : Int32 → Int32 → Int32 → Mm → Option (Mm)} (hrc292 : ∀ a0 a1 a2 τ, Fr W_X12_copy σ0 τ → FoV W_X12_copy σ0 (rc292 a0 a1 a2 τ)) {x1 : Int32} {x2 : Int32} {x3 : Int32} {σ : Mm} (hF : Fr W_X12_copy σ0 σ) : FoV W_X12_copy σ0 (F_X12_copy_342 rc292 x1 x2 x3 σ) := by
  unfold F_X12_copy_342
  exact (fV_ite (fV_ite (fo_F_X12_copy_364 hrc292 (Fr.AA hF rfl)) fV_none) fV_none)
theorem fo_F_X12_copy_320 {σ0 : Mm} {rc292 : Int32 → Int32 → Int32 → Mm → Option (Mm)} (hrc292 : ∀ a0 a1 a2 τ, Fr W_X12_copy σ0 τ → FoV W_X12_copy σ0 (rc292 a0 a1 a2 τ)) {x1 : Int32} {x2 : Int32} {x3 : Int32} {σ : Mm} (hF : Fr W_X12_copy σ0 σ) : FoV W_X12_copy σ0 (F_X12_copy_320 rc292 x1 x2 x3 σ) := by
  unfold F_X12_copy_320
  exact (fV_ite (fV_ite (fo_F_X12_copy_342 hrc292 (Fr.AA hF rfl)) fV_none) fV_none)
theorem fo_B_X12_copy_292 {σ0 : Mm} {rc292 : Int32 → Int32 → Int32 → Mm → Option (Mm)} (hrc292 : ∀ a0 a1 a2 τ, Fr W_X12_copy σ0 τ → FoV W_X12_copy σ0 (rc292 a0 a1 a2 τ)) {x1 : Int32} {x2 : Int32} {x3 : Int32} {σ : Mm} (hF : Fr W_X12_copy σ0 σ) : FoV W_X12_copy σ0 (B_X12_copy_292 rc292 x1 x2 x3 σ) := by
  unfold B_X12_copy_292
  exact (fV_ite (fo_F_X12_copy_372  FU hF) (fV_ite (fV_ite (fo_F_X12_copy_320 hrc292 (Fr.AA hF rfl)) fV_none) fV_none))
theorem fo_F_X12_copy_292 {σ0 : Mm} (n : Nat) : ∀ {y0 : Int32} {y1 : Int32} {y2 : Int32} {σ : Mm}, Fr W_X12_copy σ0 σ → FoV W_X12_copy σ0 (F_X12_copy_292  n y0 y1 y2 σ) := by
  induction n with
  | zero => intro y0 y1 y2 σ _; exact fV_none
  | succ n ih => intro y0 y1 y2 σ hF; exact fo_B_X12_copy_292  (fun _ _ _ _ h => ih h) hF
theorem fo_F_X12_copy_284 {σ0 : Mm} {rc234 : Int32 → Int32 → Int32 → Mm → Option (Mm)} (hrc234 : ∀ a0 a1 a2 τ, Fr W_X12_copy σ0 τ → FoV W_X12_copy σ0 (rc234 a0 a1 a2 τ)) {x1 : Int32} {x2 : Int32} {x3 : Int32} {σ : Mm} (hF : Fr W_X12_copy σ0 σ) : FoV W_X12_copy σ0 (F_X12_copy_284 rc234 x1 x2 x3 σ) := by
  unfold F_X12_copy_284
  exact (hrc234 _ _ _ _ hF)
theorem fo_F_X12_copy_262 {σ0 : Mm} {rc234 : Int32 → Int32 → Int32 → Mm → Option (Mm)} (hrc234 : ∀ a0 a1 a2 τ, Fr W_X12_copy σ0 τ → FoV W_X12_copy σ0 (rc234 a0 a1 a2 τ)) {x1 : Int32} {x2 : Int32} {x3 : Int32} {σ : Mm} (hF : Fr W_X12_copy σ0 σ) : FoV W_X12_copy σ0 (F_X12_copy_262 rc234 x1 x2 x3 σ) := by
  unfold F_X12_copy_262
  exact (fV_ite (fV_ite (fo_F_X12_copy_284 hrc234 (Fr.AA hF rfl)) fV_none) fV_none)
theorem fo_B_X12_copy_234 {σ0 : Mm} {rc234 : Int32 → Int32 → Int32 → Mm → Option (Mm)} (hrc234 : ∀ a0 a1 a2 τ, Fr W_X12_copy σ0 τ → FoV W_X12_copy σ0 (rc234 a0 a1 a2 τ)) {x1 : Int32} {x2 : Int32} {x3 : Int32} {σ : Mm} (hF : Fr W_X12_copy σ0 σ) : FoV W_X12_copy σ0 (B_X12_copy_234 rc234 x1 x2 x3 σ) := by
  unfold B_X12_copy_234
  exact (fV_ite (fo_F_X12_copy_292  FU hF) (fV_ite (fV_ite (fo_F_X12_copy_262 hrc234 (Fr.AA hF rfl)) fV_none) fV_none))
theorem fo_F_X12_copy_234 {σ0 : Mm} (n : Nat) : ∀ {y0 : Int32} {y1 : Int32} {y2 : Int32} {σ : Mm}, Fr W_X12_copy σ0 σ → FoV W_X12_copy σ0 (F_X12_copy_234  n y0 y1 y2 σ) := by
  induction n with
  | zero => intro y0 y1 y2 σ _; exact fV_none
  | succ n ih => intro y0 y1 y2 σ hF; exact fo_B_X12_copy_234  (fun _ _ _ _ h => ih h) hF
theorem fo_F_X12_copy_226 {σ0 : Mm} {rc110 : Int32 → Int32 → Int32 → Mm → Option (Mm)} (hrc110 : ∀ a0 a1 a2 τ, Fr W_X12_copy σ0 τ → FoV W_X12_copy σ0 (rc110 a0 a1 a2 τ)) {x1 : Int32} {x2 : Int32} {x3 : Int32} {σ : Mm} (hF : Fr W_X12_copy σ0 σ) : FoV W_X12_copy σ0 (F_X12_copy_226 rc110 x1 x2 x3 σ) := by
  unfold F_X12_copy_226
  exact (hrc110 _ _ _ _ hF)
theorem fo_F_X12_copy_204 {σ0 : Mm} {rc110 : Int32 → Int32 → Int32 → Mm → Option (Mm)} (hrc110 : ∀ a0 a1 a2 τ, Fr W_X12_copy σ0 τ → FoV W_X12_copy σ0 (rc110 a0 a1 a2 τ)) {x1 : Int32} {x2 : Int32} {x3 : Int32} {σ : Mm} (hF : Fr W_X12_copy σ0 σ) : FoV W_X12_copy σ0 (F_X12_copy_204 rc110 x1 x2 x3 σ) := by
  unfold F_X12_copy_204
  exact (fV_ite (fV_ite (fo_F_X12_copy_226 hrc110 (Fr.AA hF rfl)) fV_none) fV_none)
theorem fo_F_X12_copy_182 {σ0 : Mm} {rc110 : Int32 → Int32 → Int32 → Mm → Option (Mm)} (hrc110 : ∀ a0 a1 a2 τ, Fr W_X12_copy σ0 τ → FoV W_X12_copy σ0 (rc110 a0 a1 a2 τ)) {x1 : Int32} {x2 : Int32} {x3 : Int32} {σ : Mm} (hF : Fr W_X12_copy σ0 σ) : FoV W_X12_copy σ0 (F_X12_copy_182 rc110 x1 x2 x3 σ) := by
  unfold F_X12_copy_182
  exact (fV_ite (fV_ite (fo_F_X12_copy_204 hrc110 (Fr.AA hF rfl)) fV_none) fV_none)
theorem fo_F_X12_copy_160 {σ0 : Mm} {rc110 : Int32 → Int32 → Int32 → Mm → Option (Mm)} (hrc110 : ∀ a0 a1 a2 τ, Fr W_X12_copy σ0 τ → FoV W_X12_copy σ0 (rc110 a0 a1 a2 τ)) {x1 : Int32} {x2 : Int32} {x3 : Int32} {σ : Mm} (hF : Fr W_X12_copy σ0 σ) : FoV W_X12_copy σ0 (F_X12_copy_160 rc110 x1 x2 x3 σ) := by
  unfold F_X12_copy_160
  exact (fV_ite (fV_ite (fo_F_X12_copy_182 hrc110 (Fr.AA hF rfl)) fV_none) fV_none)
theorem fo_F_X12_copy_138 {σ0 : Mm} {rc110 : Int32 → Int32 → Int32 → Mm → Option (Mm)} (hrc110 : ∀ a0 a1 a2 τ, Fr W_X12_copy σ0 τ → FoV W_X12_copy σ0 (rc110 a0 a1 a2 τ)) {x1 : Int32} {x2 : Int32} {x3 : Int32} {σ : Mm} (hF : Fr W_X12_copy σ0 σ) : FoV W_X12_copy σ0 (F_X12_copy_138 rc110 x1 x2 x3 σ) := by
  unfold F_X12_copy_138
  exact (fV_ite (fV_ite (fo_F_X12_copy_160 hrc110 (Fr.AA hF rfl)) fV_none) fV_none)
theorem fo_B_X12_copy_110 {σ0 : Mm} {rc110 : Int32 → Int32 → Int32 → Mm → Option (Mm)} (hrc110 : ∀ a0 a1 a2 τ, Fr W_X12_copy σ0 τ → FoV W_X12_copy σ0 (rc110 a0 a1 a2 τ)) {x1 : Int32} {x2 : Int32} {x3 : Int32} {σ : Mm} (hF : Fr W_X12_copy σ0 σ) : FoV W_X12_copy σ0 (B_X12_copy_110 rc110 x1 x2 x3 σ) := by
  unfold B_X12_copy_110
  exact (fV_ite (fo_F_X12_copy_234  FU hF) (fV_ite (fV_ite (fo_F_X12_copy_138 hrc110 (Fr.AA hF rfl)) fV_none) fV_none))
theorem fo_F_X12_copy_110 {σ0 : Mm} (n : Nat) : ∀ {y0 : Int32} {y1 : Int32} {y2 : Int32} {σ : Mm}, Fr W_X12_copy σ0 σ → FoV W_X12_copy σ0 (F_X12_copy_110  n y0 y1 y2 σ) := by
  induction n with
  | zero => intro y0 y1 y2 σ _; exact fV_none
  | succ n ih => intro y0 y1 y2 σ hF; exact fo_B_X12_copy_110  (fun _ _ _ _ h => ih h) hF
theorem fo_F_X12_copy_108 {σ0 : Mm} {x1 : Int32} {x2 : Int32} {σ : Mm} (hF : Fr W_X12_copy σ0 σ) : FoV W_X12_copy σ0 (F_X12_copy_108 x1 x2 σ) := by
  unfold F_X12_copy_108
  exact (fo_F_X12_copy_110  FU hF)
theorem fo_F_X12_copy_96 {σ0 : Mm} {x1 : Int32} {x2 : Int32} {σ : Mm} (hF : Fr W_X12_copy σ0 σ) : FoV W_X12_copy σ0 (F_X12_copy_96 x1 x2 σ) := by
  unfold F_X12_copy_96
  exact (fV_ite (fV_ite (fo_F_X12_copy_108  (Fr.AA hF rfl)) fV_none) fV_none)
theorem fo_F_X12_copy_84 {σ0 : Mm} {x1 : Int32} {x2 : Int32} {σ : Mm} (hF : Fr W_X12_copy σ0 σ) : FoV W_X12_copy σ0 (F_X12_copy_84 x1 x2 σ) := by
  unfold F_X12_copy_84
  exact (fV_ite (fV_ite (fo_F_X12_copy_96  (Fr.AA hF rfl)) fV_none) fV_none)
theorem fo_F_X12_copy_72 {σ0 : Mm} {x1 : Int32} {x2 : Int32} {σ : Mm} (hF : Fr W_X12_copy σ0 σ) : FoV W_X12_copy σ0 (F_X12_copy_72 x1 x2 σ) := by
  unfold F_X12_copy_72
  exact (fV_ite (fV_ite (fo_F_X12_copy_84  (Fr.AA hF rfl)) fV_none) fV_none)
theorem fo_F_X12_copy_60 {σ0 : Mm} {x1 : Int32} {x2 : Int32} {σ : Mm} (hF : Fr W_X12_copy σ0 σ) : FoV W_X12_copy σ0 (F_X12_copy_60 x1 x2 σ) := by
  unfold F_X12_copy_60
  exact (fV_ite (fV_ite (fo_F_X12_copy_72  (Fr.AA hF rfl)) fV_none) fV_none)
theorem fo_F_X12_copy_48 {σ0 : Mm} {x1 : Int32} {x2 : Int32} {σ : Mm} (hF : Fr W_X12_copy σ0 σ) : FoV W_X12_copy σ0 (F_X12_copy_48 x1 x2 σ) := by
  unfold F_X12_copy_48
  exact (fV_ite (fV_ite (fo_F_X12_copy_60  (Fr.AA hF rfl)) fV_none) fV_none)
theorem fo_F_X12_copy_36 {σ0 : Mm} {x1 : Int32} {x2 : Int32} {σ : Mm} (hF : Fr W_X12_copy σ0 σ) : FoV W_X12_copy σ0 (F_X12_copy_36 x1 x2 σ) := by
  unfold F_X12_copy_36
  exact (fV_ite (fV_ite (fo_F_X12_copy_48  (Fr.AA hF rfl)) fV_none) fV_none)
theorem fo_F_X12_copy_24 {σ0 : Mm} {x1 : Int32} {x2 : Int32} {σ : Mm} (hF : Fr W_X12_copy σ0 σ) : FoV W_X12_copy σ0 (F_X12_copy_24 x1 x2 σ) := by
  unfold F_X12_copy_24
  exact (fV_ite (fV_ite (fo_F_X12_copy_36  (Fr.AA hF rfl)) fV_none) fV_none)
theorem fo_F_X12_copy_12 {σ0 : Mm} {x1 : Int32} {x2 : Int32} {σ : Mm} (hF : Fr W_X12_copy σ0 σ) : FoV W_X12_copy σ0 (F_X12_copy_12 x1 x2 σ) := by
  unfold F_X12_copy_12
  exact (fV_ite (fV_ite (fo_F_X12_copy_24  (Fr.AA hF rfl)) fV_none) fV_none)
theorem fo_F_X12_copy {σ0 : Mm} {x1 : Int32} {x2 : Int32} {σ : Mm} (hF : Fr W_X12_copy σ0 σ) : FoV W_X12_copy σ0 (F_X12_copy x1 x2 σ) := by
  unfold F_X12_copy
  exact (fV_ite (fV_ite (fo_F_X12_copy_12  (Fr.AA hF rfl)) fV_none) fV_none)
theorem fr_X12_copy {x1 : Int32} {x2 : Int32} {σ : Mm} : FoV W_X12_copy σ (F_X12_copy x1 x2 σ) := fo_F_X12_copy Fr_r
def W_X12_again : List (Nat × Nat × Nat) := [(3, 7, 999), (3, 8, 999), (3, 9, 999), (3, 10, 999), (3, 11, 999), (3, 12, 999), (3, 13, 999), (3, 14, 999), (3, 15, 999), (3, 16, 999), (3, 17, 999), (3, 18, 999), (3, 19, 999), (3, 20, 999), (3, 21, 999), (3, 22, 999), (3, 23, 999), (3, 24, 999), (3, 25, 999), (3, 26, 999), (3, 27, 999), (3, 28, 999), (3, 29, 999), (3, 30, 999), (3, 31, 999), (3, 32, 999), (3, 33, 999), (3, 34, 999), (3, 35, 999), (3, 36, 999), (3, 37, 999), (3, 38, 999), (3, 39, 999), (3, 40, 999), (3, 41, 999), (3, 42, 999)]
theorem fo_F_X12_again_30 {σ0 : Mm} {σ : Mm} (hF : Fr W_X12_again σ0 σ) : FoI W_X12_again σ0 (F_X12_again_30 σ) := by
  unfold F_X12_again_30
  exact (fI_some hF)
theorem fo_F_X12_again {σ0 : Mm} {x1 : Int32} {σ : Mm} (hF : Fr W_X12_again σ0 σ) : FoI W_X12_again σ0 (F_X12_again x1 σ) := by
  unfold F_X12_again
  exact (fI_ite (fI_some hF) (fI_ite (fI_some hF) (fI_ite (fI_ite (fI_some hF) (fV_I (Wc := W_X12_copy) hF rfl (fo_F_X12_copy Fr_r) (fun _ h1 => (fo_F_X12_again_30  h1)))) fI_none)))
theorem fr_X12_again {x1 : Int32} {σ : Mm} : FoI W_X12_again σ (F_X12_again x1 σ) := fo_F_X12_again Fr_r
def W_X12_hitBy : List (Nat × Nat × Nat) := []
theorem fo_F_X12_hitBy_65 {σ0 : Mm} {rc6 : Int32 → Int32 → Int32 → Int32 → Int32 → Mm → Option (Int32 × Mm)} (hrc6 : ∀ a0 a1 a2 a3 a4 τ, Fr W_X12_hitBy σ0 τ → FoI W_X12_hitBy σ0 (rc6 a0 a1 a2 a3 a4 τ)) {x1 : Int32} {x2 : Int32} {x3 : Int32} {x4 : Int32} {x5 : Int32} {σ : Mm} (hF : Fr W_X12_hitBy σ0 σ) : FoI W_X12_hitBy σ0 (F_X12_hitBy_65 rc6 x1 x2 x3 x4 x5 σ) := by
  unfold F_X12_hitBy_65
  exact (hrc6 _ _ _ _ _ _ hF)
theorem fo_F_X12_hitBy_53 {σ0 : Mm} {rc6 : Int32 → Int32 → Int32 → Int32 → Int32 → Mm → Option (Int32 × Mm)} (hrc6 : ∀ a0 a1 a2 a3 a4 τ, Fr W_X12_hitBy σ0 τ → FoI W_X12_hitBy σ0 (rc6 a0 a1 a2 a3 a4 τ)) {x1 : Int32} {x2 : Int32} {x3 : Int32} {x4 : Int32} {x5 : Int32} {s0 : Int32} {s1 : Int32} {σ : Mm} (hF : Fr W_X12_hitBy σ0 σ) : FoI W_X12_hitBy σ0 (F_X12_hitBy_53 rc6 x1 x2 x3 x4 x5 s0 s1 σ) := by
  unfold F_X12_hitBy_53
  exact (fI_ite (fo_F_X12_hitBy_65 hrc6 hF) (fo_F_X12_hitBy_65 hrc6 hF))
theorem fo_B_X12_hitBy_6 {σ0 : Mm} {rc6 : Int32 → Int32 → Int32 → Int32 → Int32 → Mm → Option (Int32 × Mm)} (hrc6 : ∀ a0 a1 a2 a3 a4 τ, Fr W_X12_hitBy σ0 τ → FoI W_X12_hitBy σ0 (rc6 a0 a1 a2 a3 a4 τ)) {x1 : Int32} {x2 : Int32} {x3 : Int32} {x4 : Int32} {x5 : Int32} {σ : Mm} (hF : Fr W_X12_hitBy σ0 σ) : FoI W_X12_hitBy σ0 (B_X12_hitBy_6 rc6 x1 x2 x3 x4 x5 σ) := by
  unfold B_X12_hitBy_6
  exact (fI_ite (fI_ite (fI_some hF) (fI_ite (fI_ite (fI_ite (fo_F_X12_hitBy_53 hrc6 hF) fI_none) (fI_ite (fo_F_X12_hitBy_53 hrc6 hF) fI_none)) fI_none)) fI_none)
theorem fo_F_X12_hitBy_6 {σ0 : Mm} (n : Nat) : ∀ {y0 : Int32} {y1 : Int32} {y2 : Int32} {y3 : Int32} {y4 : Int32} {σ : Mm}, Fr W_X12_hitBy σ0 σ → FoI W_X12_hitBy σ0 (F_X12_hitBy_6  n y0 y1 y2 y3 y4 σ) := by
  induction n with
  | zero => intro y0 y1 y2 y3 y4 σ _; exact fI_none
  | succ n ih => intro y0 y1 y2 y3 y4 σ hF; exact fo_B_X12_hitBy_6  (fun _ _ _ _ _ _ h => ih h) hF
theorem fo_F_X12_hitBy {σ0 : Mm} {x1 : Int32} {x2 : Int32} {x3 : Int32} {σ : Mm} (hF : Fr W_X12_hitBy σ0 σ) : FoI W_X12_hitBy σ0 (F_X12_hitBy x1 x2 x3 σ) := by
  unfold F_X12_hitBy
  exact (fo_F_X12_hitBy_6  FU hF)
theorem fr_X12_hitBy {x1 : Int32} {x2 : Int32} {x3 : Int32} {σ : Mm} : FoI W_X12_hitBy σ (F_X12_hitBy x1 x2 x3 σ) := fo_F_X12_hitBy Fr_r
def W_X12_hitsOf : List (Nat × Nat × Nat) := []
theorem fo_F_X12_hitsOf_54 {σ0 : Mm} {rc6 : Int32 → Int32 → Int32 → Int32 → Int32 → Mm → Option (Int32 × Mm)} (hrc6 : ∀ a0 a1 a2 a3 a4 τ, Fr W_X12_hitsOf σ0 τ → FoI W_X12_hitsOf σ0 (rc6 a0 a1 a2 a3 a4 τ)) {x1 : Int32} {x2 : Int32} {x3 : Int32} {x4 : Int32} {x5 : Int32} {σ : Mm} (hF : Fr W_X12_hitsOf σ0 σ) : FoI W_X12_hitsOf σ0 (F_X12_hitsOf_54 rc6 x1 x2 x3 x4 x5 σ) := by
  unfold F_X12_hitsOf_54
  exact (hrc6 _ _ _ _ _ _ hF)
theorem fo_F_X12_hitsOf_46 {σ0 : Mm} {rc6 : Int32 → Int32 → Int32 → Int32 → Int32 → Mm → Option (Int32 × Mm)} (hrc6 : ∀ a0 a1 a2 a3 a4 τ, Fr W_X12_hitsOf σ0 τ → FoI W_X12_hitsOf σ0 (rc6 a0 a1 a2 a3 a4 τ)) {x1 : Int32} {x2 : Int32} {x3 : Int32} {x4 : Int32} {x5 : Int32} {s0 : Int32} {σ : Mm} (hF : Fr W_X12_hitsOf σ0 σ) : FoI W_X12_hitsOf σ0 (F_X12_hitsOf_46 rc6 x1 x2 x3 x4 x5 s0 σ) := by
  unfold F_X12_hitsOf_46
  exact (fI_ite (fo_F_X12_hitsOf_54 hrc6 hF) (fo_F_X12_hitsOf_54 hrc6 hF))
theorem fo_B_X12_hitsOf_6 {σ0 : Mm} {rc6 : Int32 → Int32 → Int32 → Int32 → Int32 → Mm → Option (Int32 × Mm)} (hrc6 : ∀ a0 a1 a2 a3 a4 τ, Fr W_X12_hitsOf σ0 τ → FoI W_X12_hitsOf σ0 (rc6 a0 a1 a2 a3 a4 τ)) {x1 : Int32} {x2 : Int32} {x3 : Int32} {x4 : Int32} {x5 : Int32} {σ : Mm} (hF : Fr W_X12_hitsOf σ0 σ) : FoI W_X12_hitsOf σ0 (B_X12_hitsOf_6 rc6 x1 x2 x3 x4 x5 σ) := by
  unfold B_X12_hitsOf_6
  exact (fI_ite (fI_some hF) (fI_ite (fI_ite (fo_F_X12_hitsOf_54 hrc6 hF) (fI_ite (fI_ite (fI_I (Wc := W_X12_hitBy) hF rfl (fo_F_X12_hitBy Fr_r) (fun _ _ h1 => (fo_F_X12_hitsOf_46 hrc6 h1))) fI_none) fI_none)) fI_none))
theorem fo_F_X12_hitsOf_6 {σ0 : Mm} (n : Nat) : ∀ {y0 : Int32} {y1 : Int32} {y2 : Int32} {y3 : Int32} {y4 : Int32} {σ : Mm}, Fr W_X12_hitsOf σ0 σ → FoI W_X12_hitsOf σ0 (F_X12_hitsOf_6  n y0 y1 y2 y3 y4 σ) := by
  induction n with
  | zero => intro y0 y1 y2 y3 y4 σ _; exact fI_none
  | succ n ih => intro y0 y1 y2 y3 y4 σ hF; exact fo_B_X12_hitsOf_6  (fun _ _ _ _ _ _ h => ih h) hF
theorem fo_F_X12_hitsOf {σ0 : Mm} {x1 : Int32} {x2 : Int32} {x3 : Int32} {σ : Mm} (hF : Fr W_X12_hitsOf σ0 σ) : FoI W_X12_hitsOf σ0 (F_X12_hitsOf x1 x2 x3 σ) := by
  unfold F_X12_hitsOf
  exact (fo_F_X12_hitsOf_6  FU hF)
theorem fr_X12_hitsOf {x1 : Int32} {x2 : Int32} {x3 : Int32} {σ : Mm} : FoI W_X12_hitsOf σ (F_X12_hitsOf x1 x2 x3 σ) := fo_F_X12_hitsOf Fr_r
def W_X12_isKnown : List (Nat × Nat × Nat) := []
theorem fo_F_X12_isKnown {σ0 : Mm} {x1 : Int32} {σ : Mm} (hF : Fr W_X12_isKnown σ0 σ) : FoI W_X12_isKnown σ0 (F_X12_isKnown x1 σ) := by
  unfold F_X12_isKnown
  exact (fI_ite (fI_some hF) (fI_ite (fI_ite (fI_some hF) (fI_some hF)) fI_none))
theorem fr_X12_isKnown {x1 : Int32} {σ : Mm} : FoI W_X12_isKnown σ (F_X12_isKnown x1 σ) := fo_F_X12_isKnown Fr_r
def W_X12_isSet : List (Nat × Nat × Nat) := []
theorem fo_F_X12_isSet_28 {σ0 : Mm} {s0 : Int32} {σ : Mm} (hF : Fr W_X12_isSet σ0 σ) : FoI W_X12_isSet σ0 (F_X12_isSet_28 s0 σ) := by
  unfold F_X12_isSet_28
  exact (fI_ite (fI_some hF) (fI_some hF))
theorem fo_F_X12_isSet {σ0 : Mm} {x1 : Int32} {x2 : Int32} {x3 : Int32} {σ : Mm} (hF : Fr W_X12_isSet σ0 σ) : FoI W_X12_isSet σ0 (F_X12_isSet x1 x2 x3 σ) := by
  unfold F_X12_isSet
  exact (fI_ite (fI_some hF) (fI_ite (fI_ite (fI_some hF) (fI_ite (fI_some hF) (fI_I (Wc := W_X12_isKnown) hF rfl (fo_F_X12_isKnown Fr_r) (fun _ _ h1 => (fo_F_X12_isSet_28  h1))))) fI_none))
theorem fr_X12_isSet {x1 : Int32} {x2 : Int32} {x3 : Int32} {σ : Mm} : FoI W_X12_isSet σ (F_X12_isSet x1 x2 x3 σ) := fo_F_X12_isSet Fr_r
def W_X12_degreeOf : List (Nat × Nat × Nat) := []
theorem fo_F_X12_degreeOf_129 {σ0 : Mm} {s0 : Int32} {σ : Mm} (hF : Fr W_X12_degreeOf σ0 σ) : FoI W_X12_degreeOf σ0 (F_X12_degreeOf_129 s0 σ) := by
  unfold F_X12_degreeOf_129
  exact (fI_ite (fI_some hF) (fI_some hF))
theorem fo_F_X12_degreeOf_60 {σ0 : Mm} {x0 : Int32} {x1 : Int32} {x2 : Int32} {x3 : Int32} {x4 : Int32} {σ : Mm} (hF : Fr W_X12_degreeOf σ0 σ) : FoI W_X12_degreeOf σ0 (F_X12_degreeOf_60 x0 x1 x2 x3 x4 σ) := by
  unfold F_X12_degreeOf_60
  exact (fI_ite (fI_ite (fI_ite (fo_F_X12_degreeOf_129  hF) (fo_F_X12_degreeOf_129  hF)) (fI_ite (fI_some hF) (fI_some hF))) (fI_ite (fI_some hF) (fI_some hF)))
theorem fo_F_X12_degreeOf_33 {σ0 : Mm} {x0 : Int32} {x1 : Int32} {x2 : Int32} {x3 : Int32} {s0 : Int32} {s1 : Int32} {σ : Mm} (hF : Fr W_X12_degreeOf σ0 σ) : FoI W_X12_degreeOf σ0 (F_X12_degreeOf_33 x0 x1 x2 x3 s0 s1 σ) := by
  unfold F_X12_degreeOf_33
  exact (fI_ite (fI_ite (fo_F_X12_degreeOf_60  hF) (fI_ite (fo_F_X12_degreeOf_60  hF) (fI_ite (fI_some hF) (fI_some hF)))) fI_none)
theorem fo_F_X12_degreeOf_22 {σ0 : Mm} {x0 : Int32} {x1 : Int32} {x2 : Int32} {x3 : Int32} {s0 : Int32} {s1 : Int32} {σ : Mm} (hF : Fr W_X12_degreeOf σ0 σ) : FoI W_X12_degreeOf σ0 (F_X12_degreeOf_22 x0 x1 x2 x3 s0 s1 σ) := by
  unfold F_X12_degreeOf_22
  exact (fI_ite (fo_F_X12_degreeOf_33  hF) (fo_F_X12_degreeOf_33  hF))
theorem fo_F_X12_degreeOf {σ0 : Mm} {x0 : Int32} {x1 : Int32} {σ : Mm} (hF : Fr W_X12_degreeOf σ0 σ) : FoI W_X12_degreeOf σ0 (F_X12_degreeOf x0 x1 σ) := by
  unfold F_X12_degreeOf
  exact (fI_ite (fo_F_X12_degreeOf_22  hF) (fo_F_X12_degreeOf_22  hF))
theorem fr_X12_degreeOf {x0 : Int32} {x1 : Int32} {σ : Mm} : FoI W_X12_degreeOf σ (F_X12_degreeOf x0 x1 σ) := fo_F_X12_degreeOf Fr_r
def W_X12_sum : List (Nat × Nat × Nat) := [(3, 0, 69), (3, 57, 999)]
theorem fo_F_X12_sum_166 {σ0 : Mm} {rc10 : Int32 → Int32 → Int32 → Mm → Option (Int32 × Mm)} (hrc10 : ∀ a0 a1 a2 τ, Fr W_X12_sum σ0 τ → FoI W_X12_sum σ0 (rc10 a0 a1 a2 τ)) {x2 : Int32} {x3 : Int32} {x4 : Int32} {σ : Mm} (hF : Fr W_X12_sum σ0 σ) : FoI W_X12_sum σ0 (F_X12_sum_166 rc10 x2 x3 x4 σ) := by
  unfold F_X12_sum_166
  exact (hrc10 _ _ _ _ hF)
theorem fo_F_X12_sum_165 {σ0 : Mm} {rc10 : Int32 → Int32 → Int32 → Mm → Option (Int32 × Mm)} (hrc10 : ∀ a0 a1 a2 τ, Fr W_X12_sum σ0 τ → FoI W_X12_sum σ0 (rc10 a0 a1 a2 τ)) {x2 : Int32} {x3 : Int32} {x4 : Int32} {s0 : Int32} {s1 : Int32} {σ : Mm} (hF : Fr W_X12_sum σ0 σ) : FoI W_X12_sum σ0 (F_X12_sum_165 rc10 x2 x3 x4 s0 s1 σ) := by
  unfold F_X12_sum_165
  exact (fI_ite (fo_F_X12_sum_166 hrc10 (Fr.AA hF rfl)) fI_none)
theorem fo_F_X12_sum_111 {σ0 : Mm} {rc10 : Int32 → Int32 → Int32 → Mm → Option (Int32 × Mm)} (hrc10 : ∀ a0 a1 a2 τ, Fr W_X12_sum σ0 τ → FoI W_X12_sum σ0 (rc10 a0 a1 a2 τ)) {x2 : Int32} {x3 : Int32} {x4 : Int32} {x5 : Int32} {x6 : Int32} {x7 : Int32} {σ : Mm} (hF : Fr W_X12_sum σ0 σ) : FoI W_X12_sum σ0 (F_X12_sum_111 rc10 x2 x3 x4 x5 x6 x7 σ) := by
  unfold F_X12_sum_111
  exact (fI_ite (fo_F_X12_sum_165 hrc10 hF) (fI_ite (fo_F_X12_sum_165 hrc10 hF) (fI_ite (fo_F_X12_sum_165 hrc10 hF) (fI_ite (fo_F_X12_sum_165 hrc10 hF) fI_none))))
theorem fo_F_X12_sum_109 {σ0 : Mm} {σ : Mm} (hF : Fr W_X12_sum σ0 σ) : FoI W_X12_sum σ0 (F_X12_sum_109 σ) := by
  unfold F_X12_sum_109
  exact (fI_some hF)
theorem fo_F_X12_sum_90 {σ0 : Mm} {rc10 : Int32 → Int32 → Int32 → Mm → Option (Int32 × Mm)} (hrc10 : ∀ a0 a1 a2 τ, Fr W_X12_sum σ0 τ → FoI W_X12_sum σ0 (rc10 a0 a1 a2 τ)) {x2 : Int32} {x3 : Int32} {x4 : Int32} {x5 : Int32} {x6 : Int32} {x7 : Int32} {σ : Mm} (hF : Fr W_X12_sum σ0 σ) : FoI W_X12_sum σ0 (F_X12_sum_90 rc10 x2 x3 x4 x5 x6 x7 σ) := by
  unfold F_X12_sum_90
  exact (fI_ite (fI_ite (fo_F_X12_sum_109  (Fr.A hF rfl)) (fo_F_X12_sum_111 hrc10 hF)) (fo_F_X12_sum_111 hrc10 hF))
theorem fo_F_X12_sum_80 {σ0 : Mm} {rc10 : Int32 → Int32 → Int32 → Mm → Option (Int32 × Mm)} (hrc10 : ∀ a0 a1 a2 τ, Fr W_X12_sum σ0 τ → FoI W_X12_sum σ0 (rc10 a0 a1 a2 τ)) {x2 : Int32} {x3 : Int32} {x4 : Int32} {x5 : Int32} {x6 : Int32} {σ : Mm} (hF : Fr W_X12_sum σ0 σ) : FoI W_X12_sum σ0 (F_X12_sum_80 rc10 x2 x3 x4 x5 x6 σ) := by
  unfold F_X12_sum_80
  exact (fI_ite (fo_F_X12_sum_90 hrc10 hF) fI_none)
