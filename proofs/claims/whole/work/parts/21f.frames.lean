/-! frames, by program -/
theorem fo_F_X12_parses {σ0 : Mm} {σ : Mm} (hF : Fr W_X12_parses σ0 σ) : FoI W_X12_parses σ0 (F_X12_parses σ) := by
  unfold F_X12_parses
  exact (fo_F_X12_parses_5  FU (Fr.A hF rfl))
theorem fr_X12_parses {σ : Mm} : FoI W_X12_parses σ (F_X12_parses σ) := fo_F_X12_parses Fr_r
def W_X12_pointing : List (Nat × Nat × Nat) := []
theorem fo_F_X12_pointing_28 {σ0 : Mm} {s0 : Int32} {σ : Mm} (hF : Fr W_X12_pointing σ0 σ) : FoI W_X12_pointing σ0 (F_X12_pointing_28 s0 σ) := by
  unfold F_X12_pointing_28
  exact (fI_some hF)
theorem fo_F_X12_pointing {σ0 : Mm} {x1 : Int32} {x2 : Int32} {x3 : Int32} {σ : Mm} (hF : Fr W_X12_pointing σ0 σ) : FoI W_X12_pointing σ0 (F_X12_pointing x1 x2 x3 σ) := by
  unfold F_X12_pointing
  exact (fI_ite (fI_some hF) (fI_ite (fI_some hF) (fI_I (Wc := W_X12_pointed) hF rfl (fo_F_X12_pointed Fr_r) (fun _ _ h1 => (fo_F_X12_pointing_28  h1)))))
theorem fr_X12_pointing {x1 : Int32} {x2 : Int32} {x3 : Int32} {σ : Mm} : FoI W_X12_pointing σ (F_X12_pointing x1 x2 x3 σ) := fo_F_X12_pointing Fr_r
def W_X12_strikeBy : List (Nat × Nat × Nat) := [(3, 61, 999), (3, 62, 999), (3, 63, 999)]
theorem fo_F_X12_strikeBy_171 {σ0 : Mm} {rc127 : Int32 → Mm → Option (Mm)} (hrc127 : ∀ a0 τ, Fr W_X12_strikeBy σ0 τ → FoV W_X12_strikeBy σ0 (rc127 a0 τ)) {x2 : Int32} {σ : Mm} (hF : Fr W_X12_strikeBy σ0 σ) : FoV W_X12_strikeBy σ0 (F_X12_strikeBy_171 rc127 x2 σ) := by
  unfold F_X12_strikeBy_171
  exact (hrc127 _ _ hF)
theorem fo_B_X12_strikeBy_127 {σ0 : Mm} {rc127 : Int32 → Mm → Option (Mm)} (hrc127 : ∀ a0 τ, Fr W_X12_strikeBy σ0 τ → FoV W_X12_strikeBy σ0 (rc127 a0 τ)) {x2 : Int32} {σ : Mm} (hF : Fr W_X12_strikeBy σ0 σ) : FoV W_X12_strikeBy σ0 (B_X12_strikeBy_127 rc127 x2 σ) := by
  unfold B_X12_strikeBy_127
  exact (fV_ite (fV_some hF) (fV_ite (fV_ite (fV_ite (fV_ite (fo_F_X12_strikeBy_171 hrc127 hF) (fV_ite (fV_ite (fV_ite (fo_F_X12_strikeBy_171 hrc127 (Fr.AA hF rfl)) fV_none) fV_none) fV_none)) fV_none) fV_none) fV_none))
theorem fo_F_X12_strikeBy_127 {σ0 : Mm} (n : Nat) : ∀ {y0 : Int32} {σ : Mm}, Fr W_X12_strikeBy σ0 σ → FoV W_X12_strikeBy σ0 (F_X12_strikeBy_127  n y0 σ) := by
  induction n with
  | zero => intro y0 σ _; exact fV_none
  | succ n ih => intro y0 σ hF; exact fo_B_X12_strikeBy_127  (fun _ _ h => ih h) hF
theorem fo_F_X12_strikeBy_119 {σ0 : Mm} {rc98 : Int32 → Mm → Option (Mm)} (hrc98 : ∀ a0 τ, Fr W_X12_strikeBy σ0 τ → FoV W_X12_strikeBy σ0 (rc98 a0 τ)) {x2 : Int32} {σ : Mm} (hF : Fr W_X12_strikeBy σ0 σ) : FoV W_X12_strikeBy σ0 (F_X12_strikeBy_119 rc98 x2 σ) := by
  unfold F_X12_strikeBy_119
  exact (hrc98 _ _ hF)
theorem fo_B_X12_strikeBy_98 {σ0 : Mm} {rc98 : Int32 → Mm → Option (Mm)} (hrc98 : ∀ a0 τ, Fr W_X12_strikeBy σ0 τ → FoV W_X12_strikeBy σ0 (rc98 a0 τ)) {x2 : Int32} {σ : Mm} (hF : Fr W_X12_strikeBy σ0 σ) : FoV W_X12_strikeBy σ0 (B_X12_strikeBy_98 rc98 x2 σ) := by
  unfold B_X12_strikeBy_98
  exact (fV_ite (fo_F_X12_strikeBy_127  FU hF) (fV_ite (fV_ite (fV_ite (fo_F_X12_strikeBy_119 hrc98 (Fr.AA hF rfl)) fV_none) fV_none) fV_none))
theorem fo_F_X12_strikeBy_98 {σ0 : Mm} (n : Nat) : ∀ {y0 : Int32} {σ : Mm}, Fr W_X12_strikeBy σ0 σ → FoV W_X12_strikeBy σ0 (F_X12_strikeBy_98  n y0 σ) := by
  induction n with
  | zero => intro y0 σ _; exact fV_none
  | succ n ih => intro y0 σ hF; exact fo_B_X12_strikeBy_98  (fun _ _ h => ih h) hF
theorem fo_F_X12_strikeBy_88 {σ0 : Mm} {rc24 : Int32 → Int32 → Mm → Option (Mm)} (hrc24 : ∀ a0 a1 τ, Fr W_X12_strikeBy σ0 τ → FoV W_X12_strikeBy σ0 (rc24 a0 a1 τ)) {x1 : Int32} {x2 : Int32} {σ : Mm} (hF : Fr W_X12_strikeBy σ0 σ) : FoV W_X12_strikeBy σ0 (F_X12_strikeBy_88 rc24 x1 x2 σ) := by
  unfold F_X12_strikeBy_88
  exact (hrc24 _ _ _ hF)
theorem fo_F_X12_strikeBy_78 {σ0 : Mm} {rc24 : Int32 → Int32 → Mm → Option (Mm)} (hrc24 : ∀ a0 a1 τ, Fr W_X12_strikeBy σ0 τ → FoV W_X12_strikeBy σ0 (rc24 a0 a1 τ)) {x1 : Int32} {x2 : Int32} {x3 : Int32} {σ : Mm} (hF : Fr W_X12_strikeBy σ0 σ) : FoV W_X12_strikeBy σ0 (F_X12_strikeBy_78 rc24 x1 x2 x3 σ) := by
  unfold F_X12_strikeBy_78
  exact (fV_ite (fV_ite (fo_F_X12_strikeBy_88 hrc24 (Fr.AA hF rfl)) fV_none) fV_none)
theorem fo_F_X12_strikeBy_65 {σ0 : Mm} {rc24 : Int32 → Int32 → Mm → Option (Mm)} (hrc24 : ∀ a0 a1 τ, Fr W_X12_strikeBy σ0 τ → FoV W_X12_strikeBy σ0 (rc24 a0 a1 τ)) {rc36 : Int32 → Int32 → Int32 → Int32 → Mm → Option (Mm)} (hrc36 : ∀ a0 a1 a2 a3 τ, Fr W_X12_strikeBy σ0 τ → FoV W_X12_strikeBy σ0 (rc36 a0 a1 a2 a3 τ)) {x1 : Int32} {x2 : Int32} {x3 : Int32} {x4 : Int32} {σ : Mm} (hF : Fr W_X12_strikeBy σ0 σ) : FoV W_X12_strikeBy σ0 (F_X12_strikeBy_65 rc24 rc36 x1 x2 x3 x4 σ) := by
  unfold F_X12_strikeBy_65
  exact (hrc36 _ _ _ _ _ hF)
theorem fo_B_X12_strikeBy_36 {σ0 : Mm} {rc24 : Int32 → Int32 → Mm → Option (Mm)} (hrc24 : ∀ a0 a1 τ, Fr W_X12_strikeBy σ0 τ → FoV W_X12_strikeBy σ0 (rc24 a0 a1 τ)) {rc36 : Int32 → Int32 → Int32 → Int32 → Mm → Option (Mm)} (hrc36 : ∀ a0 a1 a2 a3 τ, Fr W_X12_strikeBy σ0 τ → FoV W_X12_strikeBy σ0 (rc36 a0 a1 a2 a3 τ)) {x1 : Int32} {x2 : Int32} {x3 : Int32} {x4 : Int32} {σ : Mm} (hF : Fr W_X12_strikeBy σ0 σ) : FoV W_X12_strikeBy σ0 (B_X12_strikeBy_36 rc24 rc36 x1 x2 x3 x4 σ) := by
  unfold B_X12_strikeBy_36
  exact (fV_ite (fV_ite (fo_F_X12_strikeBy_78 hrc24 (Fr.AA hF rfl)) fV_none) (fV_ite (fV_ite (fo_F_X12_strikeBy_65 hrc24 hrc36 hF) (fo_F_X12_strikeBy_65 hrc24 hrc36 hF)) fV_none))
theorem fo_F_X12_strikeBy_36 {σ0 : Mm} {rc24 : Int32 → Int32 → Mm → Option (Mm)} (hrc24 : ∀ a0 a1 τ, Fr W_X12_strikeBy σ0 τ → FoV W_X12_strikeBy σ0 (rc24 a0 a1 τ)) (n : Nat) : ∀ {y0 : Int32} {y1 : Int32} {y2 : Int32} {y3 : Int32} {σ : Mm}, Fr W_X12_strikeBy σ0 σ → FoV W_X12_strikeBy σ0 (F_X12_strikeBy_36 rc24 n y0 y1 y2 y3 σ) := by
  induction n with
  | zero => intro y0 y1 y2 y3 σ _; exact fV_none
  | succ n ih => intro y0 y1 y2 y3 σ hF; exact fo_B_X12_strikeBy_36 hrc24 (fun _ _ _ _ _ h => ih h) hF
theorem fo_B_X12_strikeBy_24 {σ0 : Mm} {rc24 : Int32 → Int32 → Mm → Option (Mm)} (hrc24 : ∀ a0 a1 τ, Fr W_X12_strikeBy σ0 τ → FoV W_X12_strikeBy σ0 (rc24 a0 a1 τ)) {x1 : Int32} {x2 : Int32} {σ : Mm} (hF : Fr W_X12_strikeBy σ0 σ) : FoV W_X12_strikeBy σ0 (B_X12_strikeBy_24 rc24 x1 x2 σ) := by
  unfold B_X12_strikeBy_24
  exact (fV_ite (fo_F_X12_strikeBy_98  FU hF) (fo_F_X12_strikeBy_36 hrc24 FU hF))
theorem fo_F_X12_strikeBy_24 {σ0 : Mm} (n : Nat) : ∀ {y0 : Int32} {y1 : Int32} {σ : Mm}, Fr W_X12_strikeBy σ0 σ → FoV W_X12_strikeBy σ0 (F_X12_strikeBy_24  n y0 y1 σ) := by
  induction n with
  | zero => intro y0 y1 σ _; exact fV_none
  | succ n ih => intro y0 y1 σ hF; exact fo_B_X12_strikeBy_24  (fun _ _ _ h => ih h) hF
theorem fo_F_X12_strikeBy_16 {σ0 : Mm} {rc2 : Int32 → Int32 → Mm → Option (Mm)} (hrc2 : ∀ a0 a1 τ, Fr W_X12_strikeBy σ0 τ → FoV W_X12_strikeBy σ0 (rc2 a0 a1 τ)) {x1 : Int32} {x2 : Int32} {σ : Mm} (hF : Fr W_X12_strikeBy σ0 σ) : FoV W_X12_strikeBy σ0 (F_X12_strikeBy_16 rc2 x1 x2 σ) := by
  unfold F_X12_strikeBy_16
  exact (hrc2 _ _ _ hF)
theorem fo_B_X12_strikeBy_2 {σ0 : Mm} {rc2 : Int32 → Int32 → Mm → Option (Mm)} (hrc2 : ∀ a0 a1 τ, Fr W_X12_strikeBy σ0 τ → FoV W_X12_strikeBy σ0 (rc2 a0 a1 τ)) {x1 : Int32} {x2 : Int32} {σ : Mm} (hF : Fr W_X12_strikeBy σ0 σ) : FoV W_X12_strikeBy σ0 (B_X12_strikeBy_2 rc2 x1 x2 σ) := by
  unfold B_X12_strikeBy_2
  exact (fV_ite (fo_F_X12_strikeBy_24  FU hF) (fV_ite (fo_F_X12_strikeBy_16 hrc2 (Fr.AA hF rfl)) fV_none))
theorem fo_F_X12_strikeBy_2 {σ0 : Mm} (n : Nat) : ∀ {y0 : Int32} {y1 : Int32} {σ : Mm}, Fr W_X12_strikeBy σ0 σ → FoV W_X12_strikeBy σ0 (F_X12_strikeBy_2  n y0 y1 σ) := by
  induction n with
  | zero => intro y0 y1 σ _; exact fV_none
  | succ n ih => intro y0 y1 σ hF; exact fo_B_X12_strikeBy_2  (fun _ _ _ h => ih h) hF
theorem fo_F_X12_strikeBy {σ0 : Mm} {x1 : Int32} {σ : Mm} (hF : Fr W_X12_strikeBy σ0 σ) : FoV W_X12_strikeBy σ0 (F_X12_strikeBy x1 σ) := by
  unfold F_X12_strikeBy
  exact (fo_F_X12_strikeBy_2  FU hF)
theorem fr_X12_strikeBy {x1 : Int32} {σ : Mm} : FoV W_X12_strikeBy σ (F_X12_strikeBy x1 σ) := fo_F_X12_strikeBy Fr_r
def W_X12_strike : List (Nat × Nat × Nat) := [(3, 61, 999), (3, 62, 999), (3, 63, 999), (3, 64, 999)]
theorem fo_F_X12_strike_121 {σ0 : Mm} {rc26 : Int32 → Mm → Option (Mm)} (hrc26 : ∀ a0 τ, Fr W_X12_strike σ0 τ → FoV W_X12_strike σ0 (rc26 a0 τ)) {rc104 : Int32 → Int32 → Mm → Option (Mm)} (hrc104 : ∀ a0 a1 τ, Fr W_X12_strike σ0 τ → FoV W_X12_strike σ0 (rc104 a0 a1 τ)) {x1 : Int32} {x2 : Int32} {σ : Mm} (hF : Fr W_X12_strike σ0 σ) : FoV W_X12_strike σ0 (F_X12_strike_121 rc26 rc104 x1 x2 σ) := by
  unfold F_X12_strike_121
  exact (hrc104 _ _ _ hF)
theorem fo_B_X12_strike_104 {σ0 : Mm} {rc26 : Int32 → Mm → Option (Mm)} (hrc26 : ∀ a0 τ, Fr W_X12_strike σ0 τ → FoV W_X12_strike σ0 (rc26 a0 τ)) {rc104 : Int32 → Int32 → Mm → Option (Mm)} (hrc104 : ∀ a0 a1 τ, Fr W_X12_strike σ0 τ → FoV W_X12_strike σ0 (rc104 a0 a1 τ)) {x1 : Int32} {x2 : Int32} {σ : Mm} (hF : Fr W_X12_strike σ0 σ) : FoV W_X12_strike σ0 (B_X12_strike_104 rc26 rc104 x1 x2 σ) := by
  unfold B_X12_strike_104
  exact (fV_ite (fV_ite (hrc26 _ _ hF) (fV_V (Wc := W_X12_strikeBy) hF rfl (fo_F_X12_strikeBy Fr_r) (fun _ h1 => (fo_F_X12_strike_121 hrc26 hrc104 h1)))) fV_none)
theorem fo_F_X12_strike_104 {σ0 : Mm} {rc26 : Int32 → Mm → Option (Mm)} (hrc26 : ∀ a0 τ, Fr W_X12_strike σ0 τ → FoV W_X12_strike σ0 (rc26 a0 τ)) (n : Nat) : ∀ {y0 : Int32} {y1 : Int32} {σ : Mm}, Fr W_X12_strike σ0 σ → FoV W_X12_strike σ0 (F_X12_strike_104 rc26 n y0 y1 σ) := by
  induction n with
  | zero => intro y0 y1 σ _; exact fV_none
  | succ n ih => intro y0 y1 σ hF; exact fo_B_X12_strike_104 hrc26 (fun _ _ _ h => ih h) hF
theorem fo_F_X12_strike_90 {σ0 : Mm} {rc26 : Int32 → Mm → Option (Mm)} (hrc26 : ∀ a0 τ, Fr W_X12_strike σ0 τ → FoV W_X12_strike σ0 (rc26 a0 τ)) {rc33 : Int32 → Int32 → Mm → Option (Mm)} (hrc33 : ∀ a0 a1 τ, Fr W_X12_strike σ0 τ → FoV W_X12_strike σ0 (rc33 a0 a1 τ)) {rc42 : Int32 → Int32 → Int32 → Mm → Option (Mm)} (hrc42 : ∀ a0 a1 a2 τ, Fr W_X12_strike σ0 τ → FoV W_X12_strike σ0 (rc42 a0 a1 a2 τ)) {x1 : Int32} {x2 : Int32} {x3 : Int32} {σ : Mm} (hF : Fr W_X12_strike σ0 σ) : FoV W_X12_strike σ0 (F_X12_strike_90 rc26 rc33 rc42 x1 x2 x3 σ) := by
  unfold F_X12_strike_90
  exact (hrc42 _ _ _ _ hF)
theorem fo_F_X12_strike_89 {σ0 : Mm} {rc26 : Int32 → Mm → Option (Mm)} (hrc26 : ∀ a0 τ, Fr W_X12_strike σ0 τ → FoV W_X12_strike σ0 (rc26 a0 τ)) {rc33 : Int32 → Int32 → Mm → Option (Mm)} (hrc33 : ∀ a0 a1 τ, Fr W_X12_strike σ0 τ → FoV W_X12_strike σ0 (rc33 a0 a1 τ)) {rc42 : Int32 → Int32 → Int32 → Mm → Option (Mm)} (hrc42 : ∀ a0 a1 a2 τ, Fr W_X12_strike σ0 τ → FoV W_X12_strike σ0 (rc42 a0 a1 a2 τ)) {x1 : Int32} {x2 : Int32} {x3 : Int32} {s0 : Int32} {s1 : Int32} {σ : Mm} (hF : Fr W_X12_strike σ0 σ) : FoV W_X12_strike σ0 (F_X12_strike_89 rc26 rc33 rc42 x1 x2 x3 s0 s1 σ) := by
  unfold F_X12_strike_89
  exact (fV_ite (fo_F_X12_strike_90 hrc26 hrc33 hrc42 (Fr.AA hF rfl)) fV_none)
theorem fo_F_X12_strike_85 {σ0 : Mm} {rc26 : Int32 → Mm → Option (Mm)} (hrc26 : ∀ a0 τ, Fr W_X12_strike σ0 τ → FoV W_X12_strike σ0 (rc26 a0 τ)) {rc33 : Int32 → Int32 → Mm → Option (Mm)} (hrc33 : ∀ a0 a1 τ, Fr W_X12_strike σ0 τ → FoV W_X12_strike σ0 (rc33 a0 a1 τ)) {rc42 : Int32 → Int32 → Int32 → Mm → Option (Mm)} (hrc42 : ∀ a0 a1 a2 τ, Fr W_X12_strike σ0 τ → FoV W_X12_strike σ0 (rc42 a0 a1 a2 τ)) {x1 : Int32} {x2 : Int32} {x3 : Int32} {s0 : Int32} {s1 : Int32} {σ : Mm} (hF : Fr W_X12_strike σ0 σ) : FoV W_X12_strike σ0 (F_X12_strike_85 rc26 rc33 rc42 x1 x2 x3 s0 s1 σ) := by
  unfold F_X12_strike_85
  exact (fo_F_X12_strike_89 hrc26 hrc33 hrc42 hF)
theorem fo_B_X12_strike_42 {σ0 : Mm} {rc26 : Int32 → Mm → Option (Mm)} (hrc26 : ∀ a0 τ, Fr W_X12_strike σ0 τ → FoV W_X12_strike σ0 (rc26 a0 τ)) {rc33 : Int32 → Int32 → Mm → Option (Mm)} (hrc33 : ∀ a0 a1 τ, Fr W_X12_strike σ0 τ → FoV W_X12_strike σ0 (rc33 a0 a1 τ)) {rc42 : Int32 → Int32 → Int32 → Mm → Option (Mm)} (hrc42 : ∀ a0 a1 a2 τ, Fr W_X12_strike σ0 τ → FoV W_X12_strike σ0 (rc42 a0 a1 a2 τ)) {x1 : Int32} {x2 : Int32} {x3 : Int32} {σ : Mm} (hF : Fr W_X12_strike σ0 σ) : FoV W_X12_strike σ0 (B_X12_strike_42 rc26 rc33 rc42 x1 x2 x3 σ) := by
  unfold B_X12_strike_42
  exact (fV_ite (hrc33 _ _ _ hF) (fV_ite (fV_ite (fo_F_X12_strike_89 hrc26 hrc33 hrc42 hF) (fV_ite (fI_V (Wc := W_X12_hitBy) hF rfl (fo_F_X12_hitBy Fr_r) (fun _ _ h1 => (fo_F_X12_strike_85 hrc26 hrc33 hrc42 h1))) fV_none)) fV_none))
theorem fo_F_X12_strike_42 {σ0 : Mm} {rc26 : Int32 → Mm → Option (Mm)} (hrc26 : ∀ a0 τ, Fr W_X12_strike σ0 τ → FoV W_X12_strike σ0 (rc26 a0 τ)) {rc33 : Int32 → Int32 → Mm → Option (Mm)} (hrc33 : ∀ a0 a1 τ, Fr W_X12_strike σ0 τ → FoV W_X12_strike σ0 (rc33 a0 a1 τ)) (n : Nat) : ∀ {y0 : Int32} {y1 : Int32} {y2 : Int32} {σ : Mm}, Fr W_X12_strike σ0 σ → FoV W_X12_strike σ0 (F_X12_strike_42 rc26 rc33 n y0 y1 y2 σ) := by
  induction n with
  | zero => intro y0 y1 y2 σ _; exact fV_none
  | succ n ih => intro y0 y1 y2 σ hF; exact fo_B_X12_strike_42 hrc26 hrc33 (fun _ _ _ _ h => ih h) hF
theorem fo_B_X12_strike_33 {σ0 : Mm} {rc26 : Int32 → Mm → Option (Mm)} (hrc26 : ∀ a0 τ, Fr W_X12_strike σ0 τ → FoV W_X12_strike σ0 (rc26 a0 τ)) {rc33 : Int32 → Int32 → Mm → Option (Mm)} (hrc33 : ∀ a0 a1 τ, Fr W_X12_strike σ0 τ → FoV W_X12_strike σ0 (rc33 a0 a1 τ)) {x1 : Int32} {x2 : Int32} {σ : Mm} (hF : Fr W_X12_strike σ0 σ) : FoV W_X12_strike σ0 (B_X12_strike_33 rc26 rc33 x1 x2 σ) := by
  unfold B_X12_strike_33
  exact (fV_ite (fo_F_X12_strike_104 hrc26 FU hF) (fo_F_X12_strike_42 hrc26 hrc33 FU hF))
theorem fo_F_X12_strike_33 {σ0 : Mm} {rc26 : Int32 → Mm → Option (Mm)} (hrc26 : ∀ a0 τ, Fr W_X12_strike σ0 τ → FoV W_X12_strike σ0 (rc26 a0 τ)) (n : Nat) : ∀ {y0 : Int32} {y1 : Int32} {σ : Mm}, Fr W_X12_strike σ0 σ → FoV W_X12_strike σ0 (F_X12_strike_33 rc26 n y0 y1 σ) := by
  induction n with
  | zero => intro y0 y1 σ _; exact fV_none
  | succ n ih => intro y0 y1 σ hF; exact fo_B_X12_strike_33 hrc26 (fun _ _ _ h => ih h) hF
theorem fo_B_X12_strike_26 {σ0 : Mm} {rc26 : Int32 → Mm → Option (Mm)} (hrc26 : ∀ a0 τ, Fr W_X12_strike σ0 τ → FoV W_X12_strike σ0 (rc26 a0 τ)) {x1 : Int32} {σ : Mm} (hF : Fr W_X12_strike σ0 σ) : FoV W_X12_strike σ0 (B_X12_strike_26 rc26 x1 σ) := by
  unfold B_X12_strike_26
  exact (fV_ite (fV_some hF) (fo_F_X12_strike_33 hrc26 FU hF))
theorem fo_F_X12_strike_26 {σ0 : Mm} (n : Nat) : ∀ {y0 : Int32} {σ : Mm}, Fr W_X12_strike σ0 σ → FoV W_X12_strike σ0 (F_X12_strike_26  n y0 σ) := by
  induction n with
  | zero => intro y0 σ _; exact fV_none
  | succ n ih => intro y0 σ hF; exact fo_B_X12_strike_26  (fun _ _ h => ih h) hF
theorem fo_F_X12_strike_18 {σ0 : Mm} {rc2 : Int32 → Mm → Option (Mm)} (hrc2 : ∀ a0 τ, Fr W_X12_strike σ0 τ → FoV W_X12_strike σ0 (rc2 a0 τ)) {x1 : Int32} {σ : Mm} (hF : Fr W_X12_strike σ0 σ) : FoV W_X12_strike σ0 (F_X12_strike_18 rc2 x1 σ) := by
  unfold F_X12_strike_18
  exact (hrc2 _ _ hF)
theorem fo_B_X12_strike_2 {σ0 : Mm} {rc2 : Int32 → Mm → Option (Mm)} (hrc2 : ∀ a0 τ, Fr W_X12_strike σ0 τ → FoV W_X12_strike σ0 (rc2 a0 τ)) {x1 : Int32} {σ : Mm} (hF : Fr W_X12_strike σ0 σ) : FoV W_X12_strike σ0 (B_X12_strike_2 rc2 x1 σ) := by
  unfold B_X12_strike_2
  exact (fV_ite (fo_F_X12_strike_26  FU hF) (fV_ite (fo_F_X12_strike_18 hrc2 (Fr.AA hF rfl)) fV_none))
theorem fo_F_X12_strike_2 {σ0 : Mm} (n : Nat) : ∀ {y0 : Int32} {σ : Mm}, Fr W_X12_strike σ0 σ → FoV W_X12_strike σ0 (F_X12_strike_2  n y0 σ) := by
  induction n with
  | zero => intro y0 σ _; exact fV_none
  | succ n ih => intro y0 σ hF; exact fo_B_X12_strike_2  (fun _ _ h => ih h) hF
theorem fo_F_X12_strike {σ0 : Mm} {σ : Mm} (hF : Fr W_X12_strike σ0 σ) : FoV W_X12_strike σ0 (F_X12_strike σ) := by
  unfold F_X12_strike
  exact (fo_F_X12_strike_2  FU hF)
theorem fr_X12_strike {σ : Mm} : FoV W_X12_strike σ (F_X12_strike σ) := fo_F_X12_strike Fr_r
def W_X12_price : List (Nat × Nat × Nat) := [(3, 0, 69), (3, 48, 999), (3, 49, 999), (3, 50, 999), (3, 51, 999), (3, 52, 999), (3, 53, 999), (3, 54, 999), (3, 55, 999), (3, 56, 999), (3, 57, 999), (3, 58, 999), (3, 61, 999), (3, 62, 999), (3, 63, 999), (3, 64, 999)]
theorem fo_F_X12_price_62 {σ0 : Mm} {rc32 : Int32 → Int32 → Mm → Option (Int32 × Mm)} (hrc32 : ∀ a0 a1 τ, Fr W_X12_price σ0 τ → FoI W_X12_price σ0 (rc32 a0 a1 τ)) {x4 : Int32} {s0 : Int32} {s1 : Int32} {σ : Mm} (hF : Fr W_X12_price σ0 σ) : FoI W_X12_price σ0 (F_X12_price_62 rc32 x4 s0 s1 σ) := by
  unfold F_X12_price_62
  exact (hrc32 _ _ _ hF)
theorem fo_B_X12_price_32 {σ0 : Mm} {rc32 : Int32 → Int32 → Mm → Option (Int32 × Mm)} (hrc32 : ∀ a0 a1 τ, Fr W_X12_price σ0 τ → FoI W_X12_price σ0 (rc32 a0 a1 τ)) {x3 : Int32} {x4 : Int32} {σ : Mm} (hF : Fr W_X12_price σ0 σ) : FoI W_X12_price σ0 (B_X12_price_32 rc32 x3 x4 σ) := by
  unfold B_X12_price_32
  exact (fI_ite (fI_some hF) (fI_ite (fI_ite (fI_ite (fo_F_X12_price_62 hrc32 hF) (fo_F_X12_price_62 hrc32 hF)) fI_none) fI_none))
theorem fo_F_X12_price_32 {σ0 : Mm} (n : Nat) : ∀ {y0 : Int32} {y1 : Int32} {σ : Mm}, Fr W_X12_price σ0 σ → FoI W_X12_price σ0 (F_X12_price_32  n y0 y1 σ) := by
  induction n with
  | zero => intro y0 y1 σ _; exact fI_none
  | succ n ih => intro y0 y1 σ hF; exact fo_B_X12_price_32  (fun _ _ _ h => ih h) hF
theorem fo_F_X12_price_27 {σ0 : Mm} {σ : Mm} (hF : Fr W_X12_price σ0 σ) : FoI W_X12_price σ0 (F_X12_price_27 σ) := by
  unfold F_X12_price_27
  exact (fo_F_X12_price_32  FU hF)
theorem fo_F_X12_price_23 {σ0 : Mm} {σ : Mm} (hF : Fr W_X12_price σ0 σ) : FoI W_X12_price σ0 (F_X12_price_23 σ) := by
  unfold F_X12_price_23
  exact (fV_I (Wc := W_X12_strike) hF rfl (fo_F_X12_strike Fr_r) (fun _ h1 => (fo_F_X12_price_27  h1)))
theorem fo_F_X12_price_12 {σ0 : Mm} {x1 : Int32} {x2 : Int32} {s0 : Int32} {σ : Mm} (hF : Fr W_X12_price σ0 σ) : FoI W_X12_price σ0 (F_X12_price_12 x1 x2 s0 σ) := by
  unfold F_X12_price_12
  exact (fI_ite (fI_some hF) (fV_I (Wc := W_X12_layAll) hF rfl (fo_F_X12_layAll Fr_r) (fun _ h1 => (fo_F_X12_price_23  h1))))
theorem fo_F_X12_price {σ0 : Mm} {x1 : Int32} {x2 : Int32} {σ : Mm} (hF : Fr W_X12_price σ0 σ) : FoI W_X12_price σ0 (F_X12_price x1 x2 σ) := by
  unfold F_X12_price
  exact (fI_ite (fI_some hF) (fI_I (Wc := W_X12_isKnown) hF rfl (fo_F_X12_isKnown Fr_r) (fun _ _ h1 => (fo_F_X12_price_12  h1))))
theorem fr_X12_price {x1 : Int32} {x2 : Int32} {σ : Mm} : FoI W_X12_price σ (F_X12_price x1 x2 σ) := fo_F_X12_price Fr_r
def W_X12_signAt : List (Nat × Nat × Nat) := []
theorem fo_F_X12_signAt_120 {σ0 : Mm} {x2 : Int32} {σ : Mm} (hF : Fr W_X12_signAt σ0 σ) : FoI W_X12_signAt σ0 (F_X12_signAt_120 x2 σ) := by
  unfold F_X12_signAt_120
  exact (fI_some hF)
theorem fo_F_X12_signAt_23 {σ0 : Mm} {x2 : Int32} {s0 : Int32} {σ : Mm} (hF : Fr W_X12_signAt σ0 σ) : FoI W_X12_signAt σ0 (F_X12_signAt_23 x2 s0 σ) := by
  unfold F_X12_signAt_23
  exact (fI_ite (fI_ite (fI_some hF) (fI_some hF)) (fI_ite (fI_ite (fI_some hF) (fI_some hF)) (fI_ite (fI_ite (fI_some hF) (fI_some hF)) (fI_ite (fo_F_X12_signAt_120  hF) (fI_ite (fo_F_X12_signAt_120  hF) (fI_ite (fo_F_X12_signAt_120  hF) (fI_ite (fo_F_X12_signAt_120  hF) (fI_ite (fo_F_X12_signAt_120  hF) (fI_ite (fo_F_X12_signAt_120  hF) (fI_ite (fo_F_X12_signAt_120  hF) (fI_some hF)))))))))))
theorem fo_F_X12_signAt_13 {σ0 : Mm} {x2 : Int32} {s0 : Int32} {σ : Mm} (hF : Fr W_X12_signAt σ0 σ) : FoI W_X12_signAt σ0 (F_X12_signAt_13 x2 s0 σ) := by
  unfold F_X12_signAt_13
  exact (fI_ite (fo_F_X12_signAt_23  hF) (fo_F_X12_signAt_23  hF))
theorem fo_F_X12_signAt_5 {σ0 : Mm} {x1 : Int32} {s0 : Int32} {σ : Mm} (hF : Fr W_X12_signAt σ0 σ) : FoI W_X12_signAt σ0 (F_X12_signAt_5 x1 s0 σ) := by
  unfold F_X12_signAt_5
  exact (fI_I (Wc := W_X12_byteAt) hF rfl (fo_F_X12_byteAt Fr_r) (fun _ _ h1 => (fo_F_X12_signAt_13  h1)))
theorem fo_F_X12_signAt {σ0 : Mm} {x1 : Int32} {σ : Mm} (hF : Fr W_X12_signAt σ0 σ) : FoI W_X12_signAt σ0 (F_X12_signAt x1 σ) := by
  unfold F_X12_signAt
  exact (fI_I (Wc := W_X12_byteAt) hF rfl (fo_F_X12_byteAt Fr_r) (fun _ _ h1 => (fo_F_X12_signAt_5  h1)))
theorem fr_X12_signAt {x1 : Int32} {σ : Mm} : FoI W_X12_signAt σ (F_X12_signAt x1 σ) := fo_F_X12_signAt Fr_r
def W_X12_token : List (Nat × Nat × Nat) := [(3, 0, 2), (3, 2, 999), (3, 3, 999), (3, 4, 999)]
theorem fo_F_X12_token_30 {σ0 : Mm} {σ : Mm} (hF : Fr W_X12_token σ0 σ) : FoV W_X12_token σ0 (F_X12_token_30 σ) := by
  unfold F_X12_token_30
  exact (fV_some (Fr.A hF rfl))
theorem fo_F_X12_token_20 {σ0 : Mm} {x3 : Int32} {σ : Mm} (hF : Fr W_X12_token σ0 σ) : FoV W_X12_token σ0 (F_X12_token_20 x3 σ) := by
  unfold F_X12_token_20
  exact (fV_ite (fo_F_X12_token_30  (Fr.AA hF rfl)) fV_none)
theorem fo_F_X12_token_10 {σ0 : Mm} {x2 : Int32} {x3 : Int32} {σ : Mm} (hF : Fr W_X12_token σ0 σ) : FoV W_X12_token σ0 (F_X12_token_10 x2 x3 σ) := by
  unfold F_X12_token_10
  exact (fV_ite (fo_F_X12_token_20  (Fr.AA hF rfl)) fV_none)
theorem fo_F_X12_token {σ0 : Mm} {x1 : Int32} {x2 : Int32} {x3 : Int32} {σ : Mm} (hF : Fr W_X12_token σ0 σ) : FoV W_X12_token σ0 (F_X12_token x1 x2 x3 σ) := by
  unfold F_X12_token
  exact (fV_ite (fo_F_X12_token_10  (Fr.AA hF rfl)) fV_none)
theorem fr_X12_token {x1 : Int32} {x2 : Int32} {x3 : Int32} {σ : Mm} : FoV W_X12_token σ (F_X12_token x1 x2 x3 σ) := fo_F_X12_token Fr_r
def W_X12_scan : List (Nat × Nat × Nat) := [(3, 0, 2), (3, 2, 999), (3, 3, 999), (3, 4, 999), (3, 5, 999)]
theorem fo_F_X12_scan_196 {σ0 : Mm} {x1 : Int32} {x3 : Int32} {σ : Mm} (hF : Fr W_X12_scan σ0 σ) : FoI W_X12_scan σ0 (F_X12_scan_196 x1 x3 σ) := by
  unfold F_X12_scan_196
  exact (fI_ite (fI_some hF) (fI_some hF))
theorem fo_F_X12_scan_191 {σ0 : Mm} {x1 : Int32} {x3 : Int32} {s0 : Int32} {σ : Mm} (hF : Fr W_X12_scan σ0 σ) : FoI W_X12_scan σ0 (F_X12_scan_191 x1 x3 s0 σ) := by
  unfold F_X12_scan_191
  exact (fV_I (Wc := W_X12_token) hF rfl (fo_F_X12_token Fr_r) (fun _ h1 => (fo_F_X12_scan_196  h1)))
theorem fo_F_X12_scan_180 {σ0 : Mm} {x1 : Int32} {s0 : Int32} {σ : Mm} (hF : Fr W_X12_scan σ0 σ) : FoI W_X12_scan σ0 (F_X12_scan_180 x1 s0 σ) := by
  unfold F_X12_scan_180
  exact (fI_ite (fo_F_X12_scan_191  hF) (fo_F_X12_scan_191  hF))
theorem fo_F_X12_scan_173 {σ0 : Mm} {x2 : Int32} {σ : Mm} (hF : Fr W_X12_scan σ0 σ) : FoI W_X12_scan σ0 (F_X12_scan_173 x2 σ) := by
  unfold F_X12_scan_173
  exact (fI_some hF)
theorem fo_F_X12_scan_168 {σ0 : Mm} {x1 : Int32} {x2 : Int32} {x3 : Int32} {s0 : Int32} {σ : Mm} (hF : Fr W_X12_scan σ0 σ) : FoI W_X12_scan σ0 (F_X12_scan_168 x1 x2 x3 s0 σ) := by
  unfold F_X12_scan_168
  exact (fV_I (Wc := W_X12_token) hF rfl (fo_F_X12_token Fr_r) (fun _ h1 => (fo_F_X12_scan_173  h1)))
theorem fo_F_X12_scan_149 {σ0 : Mm} {rc120 : Int32 → Int32 → Int32 → Mm → Option (Int32 × Mm)} (hrc120 : ∀ a0 a1 a2 τ, Fr W_X12_scan σ0 τ → FoI W_X12_scan σ0 (rc120 a0 a1 a2 τ)) {x1 : Int32} {x2 : Int32} {x3 : Int32} {σ : Mm} (hF : Fr W_X12_scan σ0 σ) : FoI W_X12_scan σ0 (F_X12_scan_149 rc120 x1 x2 x3 σ) := by
  unfold F_X12_scan_149
  exact (hrc120 _ _ _ _ hF)
theorem fo_F_X12_scan_144 {σ0 : Mm} {rc120 : Int32 → Int32 → Int32 → Mm → Option (Int32 × Mm)} (hrc120 : ∀ a0 a1 a2 τ, Fr W_X12_scan σ0 τ → FoI W_X12_scan σ0 (rc120 a0 a1 a2 τ)) {x1 : Int32} {x2 : Int32} {s0 : Int32} {s1 : Int32} {σ : Mm} (hF : Fr W_X12_scan σ0 σ) : FoI W_X12_scan σ0 (F_X12_scan_144 rc120 x1 x2 s0 s1 σ) := by
  unfold F_X12_scan_144
  exact (fo_F_X12_scan_149 hrc120 hF)
theorem fo_F_X12_scan_125 {σ0 : Mm} {rc120 : Int32 → Int32 → Int32 → Mm → Option (Int32 × Mm)} (hrc120 : ∀ a0 a1 a2 τ, Fr W_X12_scan σ0 τ → FoI W_X12_scan σ0 (rc120 a0 a1 a2 τ)) {x1 : Int32} {x2 : Int32} {x3 : Int32} {s0 : Int32} {σ : Mm} (hF : Fr W_X12_scan σ0 σ) : FoI W_X12_scan σ0 (F_X12_scan_125 rc120 x1 x2 x3 s0 σ) := by
  unfold F_X12_scan_125
  exact (fI_ite (fI_ite (fo_F_X12_scan_168  hF) (fo_F_X12_scan_168  hF)) (fI_ite (fo_F_X12_scan_149 hrc120 hF) (fI_I (Wc := W_X12_byteAt) hF rfl (fo_F_X12_byteAt Fr_r) (fun _ _ h1 => (fo_F_X12_scan_144 hrc120 h1)))))
theorem fo_B_X12_scan_120 {σ0 : Mm} {rc120 : Int32 → Int32 → Int32 → Mm → Option (Int32 × Mm)} (hrc120 : ∀ a0 a1 a2 τ, Fr W_X12_scan σ0 τ → FoI W_X12_scan σ0 (rc120 a0 a1 a2 τ)) {x1 : Int32} {x2 : Int32} {x3 : Int32} {σ : Mm} (hF : Fr W_X12_scan σ0 σ) : FoI W_X12_scan σ0 (B_X12_scan_120 rc120 x1 x2 x3 σ) := by
  unfold B_X12_scan_120
  exact (fI_I (Wc := W_X12_isDigit) hF rfl (fo_F_X12_isDigit Fr_r) (fun _ _ h1 => (fo_F_X12_scan_125 hrc120 h1)))
theorem fo_F_X12_scan_120 {σ0 : Mm} (n : Nat) : ∀ {y0 : Int32} {y1 : Int32} {y2 : Int32} {σ : Mm}, Fr W_X12_scan σ0 σ → FoI W_X12_scan σ0 (F_X12_scan_120  n y0 y1 y2 σ) := by
  induction n with
  | zero => intro y0 y1 y2 σ _; exact fI_none
  | succ n ih => intro y0 y1 y2 σ hF; exact fo_B_X12_scan_120  (fun _ _ _ _ h => ih h) hF
theorem fo_F_X12_scan_115 {σ0 : Mm} {x1 : Int32} {x2 : Int32} {s0 : Int32} {σ : Mm} (hF : Fr W_X12_scan σ0 σ) : FoI W_X12_scan σ0 (F_X12_scan_115 x1 x2 s0 σ) := by
  unfold F_X12_scan_115
  exact (fI_ite (fI_I (Wc := W_X12_signAt) hF rfl (fo_F_X12_signAt Fr_r) (fun _ _ h1 => (fo_F_X12_scan_180  h1))) (fo_F_X12_scan_120  FU hF))
theorem fo_F_X12_scan_108 {σ0 : Mm} {x2 : Int32} {σ : Mm} (hF : Fr W_X12_scan σ0 σ) : FoI W_X12_scan σ0 (F_X12_scan_108 x2 σ) := by
  unfold F_X12_scan_108
  exact (fI_some hF)
theorem fo_F_X12_scan_102 {σ0 : Mm} {x1 : Int32} {x2 : Int32} {x5 : Int32} {s0 : Int32} {σ : Mm} (hF : Fr W_X12_scan σ0 σ) : FoI W_X12_scan σ0 (F_X12_scan_102 x1 x2 x5 s0 σ) := by
  unfold F_X12_scan_102
  exact (fV_I (Wc := W_X12_token) hF rfl (fo_F_X12_token Fr_r) (fun _ h1 => (fo_F_X12_scan_108  h1)))
theorem fo_F_X12_scan_79 {σ0 : Mm} {x1 : Int32} {x2 : Int32} {x5 : Int32} {σ : Mm} (hF : Fr W_X12_scan σ0 σ) : FoI W_X12_scan σ0 (F_X12_scan_79 x1 x2 x5 σ) := by
  unfold F_X12_scan_79
  exact (fI_ite (fI_ite (fo_F_X12_scan_102  hF) (fo_F_X12_scan_102  hF)) (fo_F_X12_scan_102  hF))
theorem fo_F_X12_scan_67 {σ0 : Mm} {x1 : Int32} {x2 : Int32} {x3 : Int64} {s0 : Int32} {σ : Mm} (hF : Fr W_X12_scan σ0 σ) : FoI W_X12_scan σ0 (F_X12_scan_67 x1 x2 x3 s0 σ) := by
  unfold F_X12_scan_67
  exact (fI_ite (fo_F_X12_scan_79  (Fr.LL hF rfl)) fI_none)
theorem fo_F_X12_scan_45 {σ0 : Mm} {rc12 : Int32 → Int32 → Int64 → Mm → Option (Int32 × Mm)} (hrc12 : ∀ a0 a1 a2 τ, Fr W_X12_scan σ0 τ → FoI W_X12_scan σ0 (rc12 a0 a1 a2 τ)) {x1 : Int32} {x2 : Int32} {x3 : Int64} {σ : Mm} (hF : Fr W_X12_scan σ0 σ) : FoI W_X12_scan σ0 (F_X12_scan_45 rc12 x1 x2 x3 σ) := by
  unfold F_X12_scan_45
  exact (hrc12 _ _ _ _ hF)
theorem fo_F_X12_scan_38 {σ0 : Mm} {rc12 : Int32 → Int32 → Int64 → Mm → Option (Int32 × Mm)} (hrc12 : ∀ a0 a1 a2 τ, Fr W_X12_scan σ0 τ → FoI W_X12_scan σ0 (rc12 a0 a1 a2 τ)) {x1 : Int32} {x2 : Int32} {s0 : Int32} {s1 : Int64} {σ : Mm} (hF : Fr W_X12_scan σ0 σ) : FoI W_X12_scan σ0 (F_X12_scan_38 rc12 x1 x2 s0 s1 σ) := by
  unfold F_X12_scan_38
  exact (fo_F_X12_scan_45 hrc12 hF)
theorem fo_F_X12_scan_17 {σ0 : Mm} {rc12 : Int32 → Int32 → Int64 → Mm → Option (Int32 × Mm)} (hrc12 : ∀ a0 a1 a2 τ, Fr W_X12_scan σ0 τ → FoI W_X12_scan σ0 (rc12 a0 a1 a2 τ)) {x1 : Int32} {x2 : Int32} {x3 : Int64} {s0 : Int32} {σ : Mm} (hF : Fr W_X12_scan σ0 σ) : FoI W_X12_scan σ0 (F_X12_scan_17 rc12 x1 x2 x3 s0 σ) := by
  unfold F_X12_scan_17
  exact (fI_ite (fI_ite (fo_F_X12_scan_67  hF) (fo_F_X12_scan_67  hF)) (fI_ite (fo_F_X12_scan_45 hrc12 hF) (fI_I (Wc := W_X12_byteAt) hF rfl (fo_F_X12_byteAt Fr_r) (fun _ _ h1 => (fo_F_X12_scan_38 hrc12 h1)))))
theorem fo_B_X12_scan_12 {σ0 : Mm} {rc12 : Int32 → Int32 → Int64 → Mm → Option (Int32 × Mm)} (hrc12 : ∀ a0 a1 a2 τ, Fr W_X12_scan σ0 τ → FoI W_X12_scan σ0 (rc12 a0 a1 a2 τ)) {x1 : Int32} {x2 : Int32} {x3 : Int64} {σ : Mm} (hF : Fr W_X12_scan σ0 σ) : FoI W_X12_scan σ0 (B_X12_scan_12 rc12 x1 x2 x3 σ) := by
  unfold B_X12_scan_12
  exact (fI_I (Wc := W_X12_isLetter) hF rfl (fo_F_X12_isLetter Fr_r) (fun _ _ h1 => (fo_F_X12_scan_17 hrc12 h1)))
theorem fo_F_X12_scan_12 {σ0 : Mm} (n : Nat) : ∀ {y0 : Int32} {y1 : Int32} {y2 : Int64} {σ : Mm}, Fr W_X12_scan σ0 σ → FoI W_X12_scan σ0 (F_X12_scan_12  n y0 y1 y2 σ) := by
  induction n with
  | zero => intro y0 y1 y2 σ _; exact fI_none
  | succ n ih => intro y0 y1 y2 σ hF; exact fo_B_X12_scan_12  (fun _ _ _ _ h => ih h) hF
theorem fo_F_X12_scan_7 {σ0 : Mm} {x1 : Int32} {x2 : Int32} {s0 : Int32} {σ : Mm} (hF : Fr W_X12_scan σ0 σ) : FoI W_X12_scan σ0 (F_X12_scan_7 x1 x2 s0 σ) := by
  unfold F_X12_scan_7
  exact (fI_ite (fI_I (Wc := W_X12_isDigit) hF rfl (fo_F_X12_isDigit Fr_r) (fun _ _ h1 => (fo_F_X12_scan_115  h1))) (fo_F_X12_scan_12  FU hF))
theorem fo_F_X12_scan {σ0 : Mm} {x1 : Int32} {σ : Mm} (hF : Fr W_X12_scan σ0 σ) : FoI W_X12_scan σ0 (F_X12_scan x1 σ) := by
  unfold F_X12_scan
  exact (fI_I (Wc := W_X12_isLetter) hF rfl (fo_F_X12_isLetter Fr_r) (fun _ _ h1 => (fo_F_X12_scan_7  h1)))
theorem fr_X12_scan {x1 : Int32} {σ : Mm} : FoI W_X12_scan σ (F_X12_scan x1 σ) := fo_F_X12_scan Fr_r
def W_X12_scanAll : List (Nat × Nat × Nat) := [(3, 0, 2), (3, 2, 999), (3, 3, 999), (3, 4, 999), (3, 5, 999)]
theorem fo_F_X12_scanAll_87 {σ0 : Mm} {x2 : Int32} {σ : Mm} (hF : Fr W_X12_scanAll σ0 σ) : FoV W_X12_scanAll σ0 (F_X12_scanAll_87 x2 σ) := by
  unfold F_X12_scanAll_87
  exact (fV_ite (fV_some hF) (fV_V (Wc := W_X12_token) hF rfl (fo_F_X12_token Fr_r) (fun _ h1 => (fV_some h1))))
theorem fo_F_X12_scanAll_51 {σ0 : Mm} {rc9 : Int32 → Int32 → Mm → Option (Mm)} (hrc9 : ∀ a0 a1 τ, Fr W_X12_scanAll σ0 τ → FoV W_X12_scanAll σ0 (rc9 a0 a1 τ)) {x1 : Int32} {x2 : Int32} {σ : Mm} (hF : Fr W_X12_scanAll σ0 σ) : FoV W_X12_scanAll σ0 (F_X12_scanAll_51 rc9 x1 x2 σ) := by
  unfold F_X12_scanAll_51
  exact (hrc9 _ _ _ hF)
theorem fo_F_X12_scanAll_83 {σ0 : Mm} {rc9 : Int32 → Int32 → Mm → Option (Mm)} (hrc9 : ∀ a0 a1 τ, Fr W_X12_scanAll σ0 τ → FoV W_X12_scanAll σ0 (rc9 a0 a1 τ)) {x1 : Int32} {s0 : Int32} {σ : Mm} (hF : Fr W_X12_scanAll σ0 σ) : FoV W_X12_scanAll σ0 (F_X12_scanAll_83 rc9 x1 s0 σ) := by
  unfold F_X12_scanAll_83
  exact (hrc9 _ _ _ hF)
theorem fo_F_X12_scanAll_62 {σ0 : Mm} {rc9 : Int32 → Int32 → Mm → Option (Mm)} (hrc9 : ∀ a0 a1 τ, Fr W_X12_scanAll σ0 τ → FoV W_X12_scanAll σ0 (rc9 a0 a1 τ)) {s0 : Int32} {σ : Mm} (hF : Fr W_X12_scanAll σ0 σ) : FoV W_X12_scanAll σ0 (F_X12_scanAll_62 rc9 s0 σ) := by
  unfold F_X12_scanAll_62
  exact (fV_ite (fV_ite (fo_F_X12_scanAll_83 hrc9 hF) (fo_F_X12_scanAll_83 hrc9 hF)) fV_none)
theorem fo_F_X12_scanAll_26 {σ0 : Mm} {rc9 : Int32 → Int32 → Mm → Option (Mm)} (hrc9 : ∀ a0 a1 τ, Fr W_X12_scanAll σ0 τ → FoV W_X12_scanAll σ0 (rc9 a0 a1 τ)) {x1 : Int32} {x2 : Int32} {s0 : Int32} {σ : Mm} (hF : Fr W_X12_scanAll σ0 σ) : FoV W_X12_scanAll σ0 (F_X12_scanAll_26 rc9 x1 x2 s0 σ) := by
  unfold F_X12_scanAll_26
  exact (fV_ite (fo_F_X12_scanAll_51 hrc9 hF) (fV_ite (fo_F_X12_scanAll_51 hrc9 hF) (fV_ite (fo_F_X12_scanAll_51 hrc9 hF) (fV_ite (fo_F_X12_scanAll_51 hrc9 hF) (fI_V (Wc := W_X12_scan) hF rfl (fo_F_X12_scan Fr_r) (fun _ _ h1 => (fo_F_X12_scanAll_62 hrc9 h1)))))))
theorem fo_B_X12_scanAll_9 {σ0 : Mm} {rc9 : Int32 → Int32 → Mm → Option (Mm)} (hrc9 : ∀ a0 a1 τ, Fr W_X12_scanAll σ0 τ → FoV W_X12_scanAll σ0 (rc9 a0 a1 τ)) {x1 : Int32} {x2 : Int32} {σ : Mm} (hF : Fr W_X12_scanAll σ0 σ) : FoV W_X12_scanAll σ0 (B_X12_scanAll_9 rc9 x1 x2 σ) := by
  unfold B_X12_scanAll_9
  exact (fV_ite (fo_F_X12_scanAll_87  hF) (fV_ite (fo_F_X12_scanAll_87  hF) (fI_V (Wc := W_X12_byteAt) hF rfl (fo_F_X12_byteAt Fr_r) (fun _ _ h1 => (fo_F_X12_scanAll_26 hrc9 h1)))))
theorem fo_F_X12_scanAll_9 {σ0 : Mm} (n : Nat) : ∀ {y0 : Int32} {y1 : Int32} {σ : Mm}, Fr W_X12_scanAll σ0 σ → FoV W_X12_scanAll σ0 (F_X12_scanAll_9  n y0 y1 σ) := by
  induction n with
  | zero => intro y0 y1 σ _; exact fV_none
  | succ n ih => intro y0 y1 σ hF; exact fo_B_X12_scanAll_9  (fun _ _ _ h => ih h) hF
theorem fo_F_X12_scanAll_5 {σ0 : Mm} {σ : Mm} (hF : Fr W_X12_scanAll σ0 σ) : FoV W_X12_scanAll σ0 (F_X12_scanAll_5 σ) := by
  unfold F_X12_scanAll_5
  exact (fo_F_X12_scanAll_9  FU hF)
theorem fo_F_X12_scanAll {σ0 : Mm} {σ : Mm} (hF : Fr W_X12_scanAll σ0 σ) : FoV W_X12_scanAll σ0 (F_X12_scanAll σ) := by
  unfold F_X12_scanAll
  exact (fo_F_X12_scanAll_5  (Fr.A hF rfl))
theorem fr_X12_scanAll {σ : Mm} : FoV W_X12_scanAll σ (F_X12_scanAll σ) := fo_F_X12_scanAll Fr_r
def W_X12_read : List (Nat × Nat × Nat) := [(3, 0, 0), (3, 0, 2), (3, 0, 7), (3, 0, 8), (3, 0, 9), (3, 0, 10), (3, 0, 11), (3, 0, 49), (3, 0, 55), (3, 0, 56), (3, 0, 58), (3, 0, 59), (3, 2, 999), (3, 3, 999), (3, 4, 999), (3, 5, 999), (3, 7, 999), (3, 8, 999), (3, 9, 999), (3, 10, 999), (3, 11, 999), (3, 12, 999), (3, 13, 999), (3, 14, 999), (3, 15, 999), (3, 16, 999), (3, 17, 999), (3, 18, 999), (3, 19, 999), (3, 20, 999), (3, 21, 999), (3, 22, 999), (3, 23, 999), (3, 24, 999), (3, 25, 999), (3, 26, 999), (3, 27, 999), (3, 28, 999), (3, 29, 999), (3, 30, 999), (3, 31, 999), (3, 32, 999), (3, 33, 999), (3, 34, 999), (3, 35, 999), (3, 36, 999), (3, 37, 999), (3, 38, 999), (3, 39, 999), (3, 40, 999), (3, 41, 999), (3, 42, 999), (3, 43, 999), (3, 44, 999), (3, 47, 999)]
theorem fo_F_X12_read_72 {σ0 : Mm} {σ : Mm} (hF : Fr W_X12_read σ0 σ) : FoI W_X12_read σ0 (F_X12_read_72 σ) := by
  unfold F_X12_read_72
  exact (fI_some hF)
theorem fo_F_X12_read_59 {σ0 : Mm} {σ : Mm} (hF : Fr W_X12_read σ0 σ) : FoI W_X12_read σ0 (F_X12_read_59 σ) := by
  unfold F_X12_read_59
  exact (fI_ite (fV_I (Wc := W_X12_copy) hF rfl (fo_F_X12_copy Fr_r) (fun _ h1 => (fo_F_X12_read_72  h1))) (fo_F_X12_read_72  hF))
theorem fo_F_X12_read_54 {σ0 : Mm} {σ : Mm} (hF : Fr W_X12_read σ0 σ) : FoI W_X12_read σ0 (F_X12_read_54 σ) := by
  unfold F_X12_read_54
  exact (fo_F_X12_read_59  (Fr.A hF rfl))
theorem fo_F_X12_read_46 {σ0 : Mm} {σ : Mm} (hF : Fr W_X12_read σ0 σ) : FoI W_X12_read σ0 (F_X12_read_46 σ) := by
  unfold F_X12_read_46
  exact (fo_F_X12_read_54  (Fr.A hF rfl))
theorem fo_F_X12_read_28 {σ0 : Mm} {s0 : Int32} {σ : Mm} (hF : Fr W_X12_read σ0 σ) : FoI W_X12_read σ0 (F_X12_read_28 s0 σ) := by
  unfold F_X12_read_28
  exact (fI_ite (fo_F_X12_read_54  hF) (fI_ite (fo_F_X12_read_54  hF) (fo_F_X12_read_46  (Fr.A hF rfl))))
theorem fo_F_X12_read_24 {σ0 : Mm} {σ : Mm} (hF : Fr W_X12_read σ0 σ) : FoI W_X12_read σ0 (F_X12_read_24 σ) := by
  unfold F_X12_read_24
  exact (fI_I (Wc := W_X12_parses) hF rfl (fo_F_X12_parses Fr_r) (fun _ _ h1 => (fo_F_X12_read_28  h1)))
theorem fo_F_X12_read_19 {σ0 : Mm} {σ : Mm} (hF : Fr W_X12_read σ0 σ) : FoI W_X12_read σ0 (F_X12_read_19 σ) := by
  unfold F_X12_read_19
  exact (fV_I (Wc := W_X12_begin) hF rfl (fo_F_X12_begin Fr_r) (fun _ h1 => (fo_F_X12_read_24  h1)))
theorem fo_F_X12_read_14 {σ0 : Mm} {σ : Mm} (hF : Fr W_X12_read σ0 σ) : FoI W_X12_read σ0 (F_X12_read_14 σ) := by
  unfold F_X12_read_14
  exact (fo_F_X12_read_19  (Fr.A hF rfl))
theorem fo_F_X12_read_9 {σ0 : Mm} {σ : Mm} (hF : Fr W_X12_read σ0 σ) : FoI W_X12_read σ0 (F_X12_read_9 σ) := by
  unfold F_X12_read_9
  exact (fo_F_X12_read_14  (Fr.A hF rfl))
theorem fo_F_X12_read_4 {σ0 : Mm} {σ : Mm} (hF : Fr W_X12_read σ0 σ) : FoI W_X12_read σ0 (F_X12_read_4 σ) := by
  unfold F_X12_read_4
  exact (fo_F_X12_read_9  (Fr.A hF rfl))
theorem fo_F_X12_read {σ0 : Mm} {σ : Mm} (hF : Fr W_X12_read σ0 σ) : FoI W_X12_read σ0 (F_X12_read σ) := by
  unfold F_X12_read
  exact (fV_I (Wc := W_X12_scanAll) hF rfl (fo_F_X12_scanAll Fr_r) (fun _ h1 => (fo_F_X12_read_4  h1)))
theorem fr_X12_read {σ : Mm} : FoI W_X12_read σ (F_X12_read σ) := fo_F_X12_read Fr_r
def W_X12_rise : List (Nat × Nat × Nat) := [(3, 0, 69), (3, 56, 999), (3, 57, 999)]
theorem fo_F_X12_rise_27 {σ0 : Mm} {s0 : Int32} {σ : Mm} (hF : Fr W_X12_rise σ0 σ) : FoI W_X12_rise σ0 (F_X12_rise_27 s0 σ) := by
  unfold F_X12_rise_27
  exact (fI_some hF)
theorem fo_F_X12_rise {σ0 : Mm} {x1 : Int32} {x2 : Int32} {σ : Mm} (hF : Fr W_X12_rise σ0 σ) : FoI W_X12_rise σ0 (F_X12_rise x1 x2 σ) := by
  unfold F_X12_rise
  exact (fI_ite (fI_some hF) (fI_ite (fI_ite (fI_some hF) (fI_ite (fI_some hF) (fI_I (Wc := W_X12_riseOf) hF rfl (fo_F_X12_riseOf Fr_r) (fun _ _ h1 => (fo_F_X12_rise_27  h1))))) fI_none))
theorem fr_X12_rise {x1 : Int32} {x2 : Int32} {σ : Mm} : FoI W_X12_rise σ (F_X12_rise x1 x2 σ) := fo_F_X12_rise Fr_r
def W_X12_say : List (Nat × Nat × Nat) := [(3, 0, 69), (3, 48, 999), (3, 49, 999), (3, 50, 999), (3, 51, 999), (3, 52, 999), (3, 53, 999), (3, 54, 999), (3, 55, 999), (3, 56, 999), (3, 57, 999), (3, 58, 999)]
theorem fo_F_X12_say_148 {σ0 : Mm} {s0 : Int32} {σ : Mm} (hF : Fr W_X12_say σ0 σ) : FoI W_X12_say σ0 (F_X12_say_148 s0 σ) := by
  unfold F_X12_say_148
  exact (fI_ite (fI_some hF) (fI_some hF))
theorem fo_F_X12_say_131 {σ0 : Mm} {x1 : Int32} {σ : Mm} (hF : Fr W_X12_say σ0 σ) : FoI W_X12_say σ0 (F_X12_say_131 x1 σ) := by
  unfold F_X12_say_131
  exact (fI_ite (fI_ite (fI_I (Wc := W_X12_hitBy) hF rfl (fo_F_X12_hitBy Fr_r) (fun _ _ h1 => (fo_F_X12_say_148  h1))) fI_none) fI_none)
theorem fo_F_X12_say_126 {σ0 : Mm} {x1 : Int32} {s0 : Int32} {σ : Mm} (hF : Fr W_X12_say σ0 σ) : FoI W_X12_say σ0 (F_X12_say_126 x1 s0 σ) := by
  unfold F_X12_say_126
  exact (fI_ite (fI_some hF) (fo_F_X12_say_131  hF))
theorem fo_F_X12_say_111 {σ0 : Mm} {x1 : Int32} {s0 : Int32} {σ : Mm} (hF : Fr W_X12_say σ0 σ) : FoI W_X12_say σ0 (F_X12_say_111 x1 s0 σ) := by
  unfold F_X12_say_111
  exact (fI_ite (fI_I (Wc := W_X12_isDoor) hF rfl (fo_F_X12_isDoor Fr_r) (fun _ _ h1 => (fo_F_X12_say_126  h1))) (fo_F_X12_say_131  hF))
theorem fo_F_X12_say_92 {σ0 : Mm} {x1 : Int32} {s0 : Int32} {σ : Mm} (hF : Fr W_X12_say σ0 σ) : FoI W_X12_say σ0 (F_X12_say_92 x1 s0 σ) := by
  unfold F_X12_say_92
  exact (fI_ite (fI_I (Wc := W_X12_isDoor) hF rfl (fo_F_X12_isDoor Fr_r) (fun _ _ h1 => (fo_F_X12_say_111  h1))) (fI_some hF))
theorem fo_F_X12_say_73 {σ0 : Mm} {x1 : Int32} {s0 : Int32} {σ : Mm} (hF : Fr W_X12_say σ0 σ) : FoI W_X12_say σ0 (F_X12_say_73 x1 s0 σ) := by
  unfold F_X12_say_73
  exact (fI_ite (fI_some hF) (fI_ite (fI_I (Wc := W_X12_asMany) hF rfl (fo_F_X12_asMany Fr_r) (fun _ _ h1 => (fo_F_X12_say_92  h1))) fI_none))
theorem fo_F_X12_say_34 {σ0 : Mm} {x1 : Int32} {σ : Mm} (hF : Fr W_X12_say σ0 σ) : FoI W_X12_say σ0 (F_X12_say_34 x1 σ) := by
  unfold F_X12_say_34
  exact (fI_ite (fI_ite (fI_some hF) (fI_ite (fI_ite (fI_some hF) (fI_ite (fI_ite (fI_I (Wc := W_X12_hitBy) hF rfl (fo_F_X12_hitBy Fr_r) (fun _ _ h1 => (fo_F_X12_say_73  h1))) fI_none) fI_none)) fI_none)) fI_none)
theorem fo_F_X12_say_23 {σ0 : Mm} {x1 : Int32} {x2 : Int32} {x3 : Int32} {s0 : Int32} {σ : Mm} (hF : Fr W_X12_say σ0 σ) : FoI W_X12_say σ0 (F_X12_say_23 x1 x2 x3 s0 σ) := by
  unfold F_X12_say_23
  exact (fI_ite (fI_some hF) (fV_I (Wc := W_X12_layAll) hF rfl (fo_F_X12_layAll Fr_r) (fun _ h1 => (fo_F_X12_say_34  h1))))
theorem fo_F_X12_say {σ0 : Mm} {x1 : Int32} {x2 : Int32} {x3 : Int32} {σ : Mm} (hF : Fr W_X12_say σ0 σ) : FoI W_X12_say σ0 (F_X12_say x1 x2 x3 σ) := by
  unfold F_X12_say
  exact (fI_ite (fI_some hF) (fI_ite (fI_some hF) (fI_I (Wc := W_X12_isKnown) hF rfl (fo_F_X12_isKnown Fr_r) (fun _ _ h1 => (fo_F_X12_say_23  h1)))))
theorem fr_X12_say {x1 : Int32} {x2 : Int32} {x3 : Int32} {σ : Mm} : FoI W_X12_say σ (F_X12_say x1 x2 x3 σ) := fo_F_X12_say Fr_r
def W_X12_seen : List (Nat × Nat × Nat) := []
theorem fo_F_X12_seen_49 {σ0 : Mm} {s0 : Int64} {σ : Mm} (hF : Fr W_X12_seen σ0 σ) : FoL W_X12_seen σ0 (F_X12_seen_49 s0 σ) := by
  unfold F_X12_seen_49
  exact (fL_some hF)
theorem fo_F_X12_seen {σ0 : Mm} {x1 : Int32} {x2 : Int32} {x3 : Int32} {x4 : Int32} {σ : Mm} (hF : Fr W_X12_seen σ0 σ) : FoL W_X12_seen σ0 (F_X12_seen x1 x2 x3 x4 σ) := by
  unfold F_X12_seen
  exact (fL_ite (fL_some hF) (fL_ite (fL_some hF) (fL_ite (fL_some hF) (fL_ite (fL_some hF) (fL_L (Wc := W_X12_rows) hF rfl (fo_F_X12_rows Fr_r) (fun _ _ h1 => (fo_F_X12_seen_49  h1)))))))
theorem fr_X12_seen {x1 : Int32} {x2 : Int32} {x3 : Int32} {x4 : Int32} {σ : Mm} : FoL W_X12_seen σ (F_X12_seen x1 x2 x3 x4 σ) := fo_F_X12_seen Fr_r
def W_X12_site : List (Nat × Nat × Nat) := [(3, 0, 52), (3, 45, 999), (3, 46, 999)]
theorem fo_F_X12_site_63 {σ0 : Mm} {σ : Mm} (hF : Fr W_X12_site σ0 σ) : FoI W_X12_site σ0 (F_X12_site_63 σ) := by
  unfold F_X12_site_63
  exact (fI_some hF)
theorem fo_F_X12_site_53 {σ0 : Mm} {σ : Mm} (hF : Fr W_X12_site σ0 σ) : FoI W_X12_site σ0 (F_X12_site_53 σ) := by
  unfold F_X12_site_53
  exact (fo_F_X12_site_63  (Fr.A hF rfl))
theorem fo_F_X12_site_43 {σ0 : Mm} {x2 : Int32} {σ : Mm} (hF : Fr W_X12_site σ0 σ) : FoI W_X12_site σ0 (F_X12_site_43 x2 σ) := by
  unfold F_X12_site_43
  exact (fI_ite (fo_F_X12_site_53  (Fr.AA hF rfl)) fI_none)
theorem fo_F_X12_site {σ0 : Mm} {x1 : Int32} {x2 : Int32} {σ : Mm} (hF : Fr W_X12_site σ0 σ) : FoI W_X12_site σ0 (F_X12_site x1 x2 σ) := by
  unfold F_X12_site
  exact (fI_ite (fI_some hF) (fI_ite (fI_some hF) (fI_ite (fI_some hF) (fI_ite (fo_F_X12_site_43  (Fr.AA hF rfl)) fI_none))))
theorem fr_X12_site {x1 : Int32} {x2 : Int32} {σ : Mm} : FoI W_X12_site σ (F_X12_site x1 x2 σ) := fo_F_X12_site Fr_r
def W_X12_story : List (Nat × Nat × Nat) := [(3, 0, 69), (3, 48, 999), (3, 49, 999), (3, 50, 999), (3, 51, 999), (3, 52, 999), (3, 53, 999), (3, 54, 999), (3, 55, 999), (3, 56, 999), (3, 57, 999), (3, 58, 999)]
theorem fo_F_X12_story_161 {σ0 : Mm} {s0 : Int32} {σ : Mm} (hF : Fr W_X12_story σ0 σ) : FoI W_X12_story σ0 (F_X12_story_161 s0 σ) := by
  unfold F_X12_story_161
  exact (fI_some hF)
theorem fo_F_X12_story_153 {σ0 : Mm} {s0 : Int32} {σ : Mm} (hF : Fr W_X12_story σ0 σ) : FoI W_X12_story σ0 (F_X12_story_153 s0 σ) := by
  unfold F_X12_story_153
  exact (fI_some hF)
theorem fo_F_X12_story_130 {σ0 : Mm} {x2 : Int32} {x5 : Int32} {x6 : Int32} {σ : Mm} (hF : Fr W_X12_story σ0 σ) : FoI W_X12_story σ0 (F_X12_story_130 x2 x5 x6 σ) := by
  unfold F_X12_story_130
  exact (fI_ite (fI_some hF) (fI_ite (fI_I (Wc := W_X12_hitsOf) hF rfl (fo_F_X12_hitsOf Fr_r) (fun _ _ h1 => (fo_F_X12_story_153  h1))) (fI_I (Wc := W_X12_asMany) hF rfl (fo_F_X12_asMany Fr_r) (fun _ _ h2 => (fo_F_X12_story_161  h2)))))
theorem fo_F_X12_story_119 {σ0 : Mm} {rc49 : Int32 → Int32 → Int32 → Int32 → Int32 → Int32 → Mm → Option (Int32 × Mm)} (hrc49 : ∀ a0 a1 a2 a3 a4 a5 τ, Fr W_X12_story σ0 τ → FoI W_X12_story σ0 (rc49 a0 a1 a2 a3 a4 a5 τ)) {x1 : Int32} {x2 : Int32} {x3 : Int32} {x5 : Int32} {x6 : Int32} {x7 : Int32} {σ : Mm} (hF : Fr W_X12_story σ0 σ) : FoI W_X12_story σ0 (F_X12_story_119 rc49 x1 x2 x3 x5 x6 x7 σ) := by
  unfold F_X12_story_119
  exact (hrc49 _ _ _ _ _ _ _ hF)
theorem fo_F_X12_story_116 {σ0 : Mm} {rc49 : Int32 → Int32 → Int32 → Int32 → Int32 → Int32 → Mm → Option (Int32 × Mm)} (hrc49 : ∀ a0 a1 a2 a3 a4 a5 τ, Fr W_X12_story σ0 τ → FoI W_X12_story σ0 (rc49 a0 a1 a2 a3 a4 a5 τ)) {x1 : Int32} {x2 : Int32} {x3 : Int32} {x5 : Int32} {x7 : Int32} {s0 : Int32} {s1 : Int32} {σ : Mm} (hF : Fr W_X12_story σ0 σ) : FoI W_X12_story σ0 (F_X12_story_116 rc49 x1 x2 x3 x5 x7 s0 s1 σ) := by
  unfold F_X12_story_116
  exact (fo_F_X12_story_119 hrc49 hF)
theorem fo_F_X12_story_99 {σ0 : Mm} {rc49 : Int32 → Int32 → Int32 → Int32 → Int32 → Int32 → Mm → Option (Int32 × Mm)} (hrc49 : ∀ a0 a1 a2 a3 a4 a5 τ, Fr W_X12_story σ0 τ → FoI W_X12_story σ0 (rc49 a0 a1 a2 a3 a4 a5 τ)) {x1 : Int32} {x2 : Int32} {x3 : Int32} {x5 : Int32} {x6 : Int32} {x7 : Int32} {σ : Mm} (hF : Fr W_X12_story σ0 σ) : FoI W_X12_story σ0 (F_X12_story_99 rc49 x1 x2 x3 x5 x6 x7 σ) := by
  unfold F_X12_story_99
  exact (fI_ite (fI_ite (fo_F_X12_story_116 hrc49 hF) (fo_F_X12_story_116 hrc49 hF)) fI_none)
theorem fo_F_X12_story_98 {σ0 : Mm} {rc49 : Int32 → Int32 → Int32 → Int32 → Int32 → Int32 → Mm → Option (Int32 × Mm)} (hrc49 : ∀ a0 a1 a2 a3 a4 a5 τ, Fr W_X12_story σ0 τ → FoI W_X12_story σ0 (rc49 a0 a1 a2 a3 a4 a5 τ)) {x1 : Int32} {x2 : Int32} {x3 : Int32} {x5 : Int32} {x6 : Int32} {x7 : Int32} {s0 : Int32} {s1 : Int32} {σ : Mm} (hF : Fr W_X12_story σ0 σ) : FoI W_X12_story σ0 (F_X12_story_98 rc49 x1 x2 x3 x5 x6 x7 s0 s1 σ) := by
  unfold F_X12_story_98
  exact (fI_ite (fo_F_X12_story_99 hrc49 (Fr.AA hF rfl)) fI_none)
theorem fo_F_X12_story_76 {σ0 : Mm} {rc49 : Int32 → Int32 → Int32 → Int32 → Int32 → Int32 → Mm → Option (Int32 × Mm)} (hrc49 : ∀ a0 a1 a2 a3 a4 a5 τ, Fr W_X12_story σ0 τ → FoI W_X12_story σ0 (rc49 a0 a1 a2 a3 a4 a5 τ)) {x1 : Int32} {x2 : Int32} {x3 : Int32} {x5 : Int32} {x6 : Int32} {x7 : Int32} {σ : Mm} (hF : Fr W_X12_story σ0 σ) : FoI W_X12_story σ0 (F_X12_story_76 rc49 x1 x2 x3 x5 x6 x7 σ) := by
  unfold F_X12_story_76
  exact (fI_ite (fI_ite (fI_I (Wc := W_X12_isHeld) hF rfl (fo_F_X12_isHeld Fr_r) (fun _ _ h1 => (fo_F_X12_story_98 hrc49 h1))) fI_none) fI_none)
theorem fo_B_X12_story_49 {σ0 : Mm} {rc49 : Int32 → Int32 → Int32 → Int32 → Int32 → Int32 → Mm → Option (Int32 × Mm)} (hrc49 : ∀ a0 a1 a2 a3 a4 a5 τ, Fr W_X12_story σ0 τ → FoI W_X12_story σ0 (rc49 a0 a1 a2 a3 a4 a5 τ)) {x1 : Int32} {x2 : Int32} {x3 : Int32} {x5 : Int32} {x6 : Int32} {x7 : Int32} {σ : Mm} (hF : Fr W_X12_story σ0 σ) : FoI W_X12_story σ0 (B_X12_story_49 rc49 x1 x2 x3 x5 x6 x7 σ) := by
  unfold B_X12_story_49
  exact (fI_ite (fV_I (Wc := W_X12_laySky) hF rfl (fo_F_X12_laySky Fr_r) (fun _ h1 => (fo_F_X12_story_130  h1))) (fI_ite (fI_ite (fo_F_X12_story_119 hrc49 hF) (fV_I (Wc := W_X12_look) hF rfl (fo_F_X12_look Fr_r) (fun _ h2 => (fo_F_X12_story_76 hrc49 h2)))) fI_none))
theorem fo_F_X12_story_49 {σ0 : Mm} (n : Nat) : ∀ {y0 : Int32} {y1 : Int32} {y2 : Int32} {y3 : Int32} {y4 : Int32} {y5 : Int32} {σ : Mm}, Fr W_X12_story σ0 σ → FoI W_X12_story σ0 (F_X12_story_49  n y0 y1 y2 y3 y4 y5 σ) := by
  induction n with
  | zero => intro y0 y1 y2 y3 y4 y5 σ _; exact fI_none
  | succ n ih => intro y0 y1 y2 y3 y4 y5 σ hF; exact fo_B_X12_story_49  (fun _ _ _ _ _ _ _ h => ih h) hF
theorem fo_F_X12_story_43 {σ0 : Mm} {x1 : Int32} {x2 : Int32} {x3 : Int32} {x5 : Int32} {σ : Mm} (hF : Fr W_X12_story σ0 σ) : FoI W_X12_story σ0 (F_X12_story_43 x1 x2 x3 x5 σ) := by
  unfold F_X12_story_43
  exact (fo_F_X12_story_49  FU hF)
theorem fo_F_X12_story_22 {σ0 : Mm} {x1 : Int32} {x2 : Int32} {x3 : Int32} {x4 : Int32} {x5 : Int32} {s0 : Int32} {σ : Mm} (hF : Fr W_X12_story σ0 σ) : FoI W_X12_story σ0 (F_X12_story_22 x1 x2 x3 x4 x5 s0 σ) := by
  unfold F_X12_story_22
  exact (fI_ite (fI_some hF) (fI_ite (fI_some hF) (fV_I (Wc := W_X12_lay) hF rfl (fo_F_X12_lay Fr_r) (fun _ h1 => (fo_F_X12_story_43  h1)))))
theorem fo_F_X12_story {σ0 : Mm} {x1 : Int32} {x2 : Int32} {x3 : Int32} {x4 : Int32} {x5 : Int32} {σ : Mm} (hF : Fr W_X12_story σ0 σ) : FoI W_X12_story σ0 (F_X12_story x1 x2 x3 x4 x5 σ) := by
  unfold F_X12_story
  exact (fI_ite (fI_some hF) (fI_ite (fI_ite (fI_some hF) (fI_I (Wc := W_X12_isSet) hF rfl (fo_F_X12_isSet Fr_r) (fun _ _ h1 => (fo_F_X12_story_22  h1)))) fI_none))
theorem fr_X12_story {x1 : Int32} {x2 : Int32} {x3 : Int32} {x4 : Int32} {x5 : Int32} {σ : Mm} : FoI W_X12_story σ (F_X12_story x1 x2 x3 x4 x5 σ) := fo_F_X12_story Fr_r
def W_X12_striking : List (Nat × Nat × Nat) := [(3, 0, 69), (3, 48, 999), (3, 49, 999), (3, 50, 999), (3, 51, 999), (3, 52, 999), (3, 53, 999), (3, 54, 999), (3, 55, 999), (3, 56, 999), (3, 57, 999), (3, 58, 999), (3, 61, 999), (3, 62, 999), (3, 63, 999), (3, 64, 999)]
theorem fo_F_X12_striking_38 {σ0 : Mm} {x2 : Int32} {σ : Mm} (hF : Fr W_X12_striking σ0 σ) : FoI W_X12_striking σ0 (F_X12_striking_38 x2 σ) := by
  unfold F_X12_striking_38
  exact (fI_ite (fI_some hF) fI_none)
theorem fo_F_X12_striking_34 {σ0 : Mm} {x2 : Int32} {σ : Mm} (hF : Fr W_X12_striking σ0 σ) : FoI W_X12_striking σ0 (F_X12_striking_34 x2 σ) := by
  unfold F_X12_striking_34
  exact (fV_I (Wc := W_X12_strike) hF rfl (fo_F_X12_strike Fr_r) (fun _ h1 => (fo_F_X12_striking_38  h1)))
theorem fo_F_X12_striking_23 {σ0 : Mm} {x1 : Int32} {x2 : Int32} {x3 : Int32} {s0 : Int32} {σ : Mm} (hF : Fr W_X12_striking σ0 σ) : FoI W_X12_striking σ0 (F_X12_striking_23 x1 x2 x3 s0 σ) := by
  unfold F_X12_striking_23
  exact (fI_ite (fI_some hF) (fV_I (Wc := W_X12_layAll) hF rfl (fo_F_X12_layAll Fr_r) (fun _ h1 => (fo_F_X12_striking_34  h1))))
theorem fo_F_X12_striking {σ0 : Mm} {x1 : Int32} {x2 : Int32} {x3 : Int32} {σ : Mm} (hF : Fr W_X12_striking σ0 σ) : FoI W_X12_striking σ0 (F_X12_striking x1 x2 x3 σ) := by
  unfold F_X12_striking
  exact (fI_ite (fI_some hF) (fI_ite (fI_some hF) (fI_I (Wc := W_X12_isKnown) hF rfl (fo_F_X12_isKnown Fr_r) (fun _ _ h1 => (fo_F_X12_striking_23  h1)))))
theorem fr_X12_striking {x1 : Int32} {x2 : Int32} {x3 : Int32} {σ : Mm} : FoI W_X12_striking σ (F_X12_striking x1 x2 x3 σ) := fo_F_X12_striking Fr_r
def W_X12_thing : List (Nat × Nat × Nat) := [(3, 48, 999), (3, 49, 999), (3, 50, 999), (3, 51, 999)]
theorem fo_F_X12_thing_32 {σ0 : Mm} {x1 : Int32} {x2 : Int32} {σ : Mm} (hF : Fr W_X12_thing σ0 σ) : FoI W_X12_thing σ0 (F_X12_thing_32 x1 x2 σ) := by
  unfold F_X12_thing_32
  exact (fI_ite (fI_ite (fI_some hF) fI_none) (fI_ite (fI_ite (fI_some hF) fI_none) (fI_ite (fI_ite (fI_some hF) fI_none) (fI_ite (fI_ite (fI_ite (fI_some hF) (fI_some hF)) fI_none) (fI_ite (fI_ite (fI_some hF) (fI_some hF)) fI_none)))))
theorem fo_F_X12_thing_22 {σ0 : Mm} {x1 : Int32} {x2 : Int32} {x3 : Int32} {s0 : Int32} {σ : Mm} (hF : Fr W_X12_thing σ0 σ) : FoI W_X12_thing σ0 (F_X12_thing_22 x1 x2 x3 s0 σ) := by
  unfold F_X12_thing_22
  exact (fI_ite (fI_some hF) (fV_I (Wc := W_X12_layThings) hF rfl (fo_F_X12_layThings Fr_r) (fun _ h1 => (fo_F_X12_thing_32  h1))))
theorem fo_F_X12_thing_5 {σ0 : Mm} {x1 : Int32} {x2 : Int32} {x3 : Int32} {s0 : Int32} {σ : Mm} (hF : Fr W_X12_thing σ0 σ) : FoI W_X12_thing σ0 (F_X12_thing_5 x1 x2 x3 s0 σ) := by
  unfold F_X12_thing_5
  exact (fI_ite (fI_some hF) (fI_ite (fI_some hF) (fI_I (Wc := W_X12_isKnown) hF rfl (fo_F_X12_isKnown Fr_r) (fun _ _ h1 => (fo_F_X12_thing_22  h1)))))
theorem fo_F_X12_thing {σ0 : Mm} {x1 : Int32} {x2 : Int32} {x3 : Int32} {σ : Mm} (hF : Fr W_X12_thing σ0 σ) : FoI W_X12_thing σ0 (F_X12_thing x1 x2 x3 σ) := by
  unfold F_X12_thing
  exact (fI_I (Wc := W_X12_isThing) hF rfl (fo_F_X12_isThing Fr_r) (fun _ _ h1 => (fo_F_X12_thing_5  h1)))
theorem fr_X12_thing {x1 : Int32} {x2 : Int32} {x3 : Int32} {σ : Mm} : FoI W_X12_thing σ (F_X12_thing x1 x2 x3 σ) := fo_F_X12_thing Fr_r
