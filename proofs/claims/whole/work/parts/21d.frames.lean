/-! frames, by program -/
theorem fo_F_X12_sum_64 {σ0 : Mm} {rc10 : Int32 → Int32 → Int32 → Mm → Option (Int32 × Mm)} (hrc10 : ∀ a0 a1 a2 τ, Fr W_X12_sum σ0 τ → FoI W_X12_sum σ0 (rc10 a0 a1 a2 τ)) {x2 : Int32} {x3 : Int32} {x4 : Int32} {σ : Mm} (hF : Fr W_X12_sum σ0 σ) : FoI W_X12_sum σ0 (F_X12_sum_64 rc10 x2 x3 x4 σ) := by
  unfold F_X12_sum_64
  exact (fo_F_X12_sum_166 hrc10 hF)
theorem fo_F_X12_sum_63 {σ0 : Mm} {rc10 : Int32 → Int32 → Int32 → Mm → Option (Int32 × Mm)} (hrc10 : ∀ a0 a1 a2 τ, Fr W_X12_sum σ0 τ → FoI W_X12_sum σ0 (rc10 a0 a1 a2 τ)) {x2 : Int32} {x3 : Int32} {x4 : Int32} {s0 : Int32} {s1 : Int32} {σ : Mm} (hF : Fr W_X12_sum σ0 σ) : FoI W_X12_sum σ0 (F_X12_sum_63 rc10 x2 x3 x4 s0 s1 σ) := by
  unfold F_X12_sum_63
  exact (fI_ite (fo_F_X12_sum_64 hrc10 (Fr.AA hF rfl)) fI_none)
theorem fo_B_X12_sum_10 {σ0 : Mm} {rc10 : Int32 → Int32 → Int32 → Mm → Option (Int32 × Mm)} (hrc10 : ∀ a0 a1 a2 τ, Fr W_X12_sum σ0 τ → FoI W_X12_sum σ0 (rc10 a0 a1 a2 τ)) {x2 : Int32} {x3 : Int32} {x4 : Int32} {σ : Mm} (hF : Fr W_X12_sum σ0 σ) : FoI W_X12_sum σ0 (B_X12_sum_10 rc10 x2 x3 x4 σ) := by
  unfold B_X12_sum_10
  exact (fI_ite (fI_ite (fI_some hF) fI_none) (fI_ite (fI_ite (fI_ite (fo_F_X12_sum_80 hrc10 hF) fI_none) (fI_ite (fI_ite (fo_F_X12_sum_63 hrc10 hF) fI_none) (fI_ite (fI_ite (fo_F_X12_sum_63 hrc10 hF) fI_none) fI_none))) fI_none))
theorem fo_F_X12_sum_10 {σ0 : Mm} (n : Nat) : ∀ {y0 : Int32} {y1 : Int32} {y2 : Int32} {σ : Mm}, Fr W_X12_sum σ0 σ → FoI W_X12_sum σ0 (F_X12_sum_10  n y0 y1 y2 σ) := by
  induction n with
  | zero => intro y0 y1 y2 σ _; exact fI_none
  | succ n ih => intro y0 y1 y2 σ hF; exact fo_B_X12_sum_10  (fun _ _ _ _ h => ih h) hF
theorem fo_F_X12_sum_7 {σ0 : Mm} {x1 : Int32} {x2 : Int32} {x3 : Int32} {σ : Mm} (hF : Fr W_X12_sum σ0 σ) : FoI W_X12_sum σ0 (F_X12_sum_7 x1 x2 x3 σ) := by
  unfold F_X12_sum_7
  exact (fo_F_X12_sum_10  FU hF)
theorem fo_F_X12_sum {σ0 : Mm} {x1 : Int32} {x2 : Int32} {σ : Mm} (hF : Fr W_X12_sum σ0 σ) : FoI W_X12_sum σ0 (F_X12_sum x1 x2 σ) := by
  unfold F_X12_sum
  exact (fo_F_X12_sum_7  (Fr.A hF rfl))
theorem fr_X12_sum {x1 : Int32} {x2 : Int32} {σ : Mm} : FoI W_X12_sum σ (F_X12_sum x1 x2 σ) := fo_F_X12_sum Fr_r
def W_X12_isLit : List (Nat × Nat × Nat) := [(3, 0, 69), (3, 57, 999)]
theorem fo_F_X12_isLit_147 {σ0 : Mm} {x1 : Int32} {s0 : Int32} {σ : Mm} (hF : Fr W_X12_isLit σ0 σ) : FoI W_X12_isLit σ0 (F_X12_isLit_147 x1 s0 σ) := by
  unfold F_X12_isLit_147
  exact (fI_ite (fI_ite (fI_some hF) (fI_some hF)) fI_none)
theorem fo_F_X12_isLit_47 {σ0 : Mm} {x1 : Int32} {x2 : Int32} {s0 : Int32} {σ : Mm} (hF : Fr W_X12_isLit σ0 σ) : FoI W_X12_isLit σ0 (F_X12_isLit_47 x1 x2 s0 σ) := by
  unfold F_X12_isLit_47
  exact (fI_ite (fI_ite (fI_ite (fI_ite (fo_F_X12_isLit_147  hF) (fo_F_X12_isLit_147  hF)) (fI_ite (fI_ite (fI_ite (fo_F_X12_isLit_147  hF) (fo_F_X12_isLit_147  hF)) (fI_ite (fI_ite (fI_ite (fo_F_X12_isLit_147  hF) (fo_F_X12_isLit_147  hF)) (fI_ite (fo_F_X12_isLit_147  hF) (fo_F_X12_isLit_147  hF))) fI_none)) fI_none)) fI_none) (fI_ite (fI_ite (fI_some hF) fI_none) fI_none))
theorem fo_F_X12_isLit_16 {σ0 : Mm} {x1 : Int32} {s0 : Int32} {σ : Mm} (hF : Fr W_X12_isLit σ0 σ) : FoI W_X12_isLit σ0 (F_X12_isLit_16 x1 s0 σ) := by
  unfold F_X12_isLit_16
  exact (fI_ite (fI_ite (fI_ite (fI_I (Wc := W_X12_sum) hF rfl (fo_F_X12_sum Fr_r) (fun _ _ h1 => (fo_F_X12_isLit_47  h1))) fI_none) fI_none) (fI_ite (fI_ite (fI_some hF) fI_none) fI_none))
theorem fo_F_X12_isLit {σ0 : Mm} {x1 : Int32} {σ : Mm} (hF : Fr W_X12_isLit σ0 σ) : FoI W_X12_isLit σ0 (F_X12_isLit x1 σ) := by
  unfold F_X12_isLit
  exact (fI_ite (fI_ite (fI_I (Wc := W_X12_sum) hF rfl (fo_F_X12_sum Fr_r) (fun _ _ h1 => (fo_F_X12_isLit_16  h1))) fI_none) fI_none)
theorem fr_X12_isLit {x1 : Int32} {σ : Mm} : FoI W_X12_isLit σ (F_X12_isLit x1 σ) := fo_F_X12_isLit Fr_r
def W_X12_isHeld : List (Nat × Nat × Nat) := [(3, 0, 69), (3, 57, 999)]
theorem fo_F_X12_isHeld_52 {σ0 : Mm} {rc2 : Int32 → Int32 → Mm → Option (Int32 × Mm)} (hrc2 : ∀ a0 a1 τ, Fr W_X12_isHeld σ0 τ → FoI W_X12_isHeld σ0 (rc2 a0 a1 τ)) {x2 : Int32} {x3 : Int32} {x5 : Int32} {σ : Mm} (hF : Fr W_X12_isHeld σ0 σ) : FoI W_X12_isHeld σ0 (F_X12_isHeld_52 rc2 x2 x3 x5 σ) := by
  unfold F_X12_isHeld_52
  exact (fI_ite (hrc2 _ _ _ hF) (fI_some hF))
theorem fo_F_X12_isHeld_46 {σ0 : Mm} {rc2 : Int32 → Int32 → Mm → Option (Int32 × Mm)} (hrc2 : ∀ a0 a1 τ, Fr W_X12_isHeld σ0 τ → FoI W_X12_isHeld σ0 (rc2 a0 a1 τ)) {rc18 : Int32 → Int32 → Int32 → Int32 → Mm → Option (Int32 × Mm)} (hrc18 : ∀ a0 a1 a2 a3 τ, Fr W_X12_isHeld σ0 τ → FoI W_X12_isHeld σ0 (rc18 a0 a1 a2 a3 τ)) {x2 : Int32} {x3 : Int32} {x4 : Int32} {x5 : Int32} {σ : Mm} (hF : Fr W_X12_isHeld σ0 σ) : FoI W_X12_isHeld σ0 (F_X12_isHeld_46 rc2 rc18 x2 x3 x4 x5 σ) := by
  unfold F_X12_isHeld_46
  exact (hrc18 _ _ _ _ _ hF)
theorem fo_F_X12_isHeld_44 {σ0 : Mm} {rc2 : Int32 → Int32 → Mm → Option (Int32 × Mm)} (hrc2 : ∀ a0 a1 τ, Fr W_X12_isHeld σ0 τ → FoI W_X12_isHeld σ0 (rc2 a0 a1 τ)) {rc18 : Int32 → Int32 → Int32 → Int32 → Mm → Option (Int32 × Mm)} (hrc18 : ∀ a0 a1 a2 a3 τ, Fr W_X12_isHeld σ0 τ → FoI W_X12_isHeld σ0 (rc18 a0 a1 a2 a3 τ)) {x2 : Int32} {x3 : Int32} {x4 : Int32} {s0 : Int32} {σ : Mm} (hF : Fr W_X12_isHeld σ0 σ) : FoI W_X12_isHeld σ0 (F_X12_isHeld_44 rc2 rc18 x2 x3 x4 s0 σ) := by
  unfold F_X12_isHeld_44
  exact (fo_F_X12_isHeld_46 hrc2 hrc18 hF)
theorem fo_B_X12_isHeld_18 {σ0 : Mm} {rc2 : Int32 → Int32 → Mm → Option (Int32 × Mm)} (hrc2 : ∀ a0 a1 τ, Fr W_X12_isHeld σ0 τ → FoI W_X12_isHeld σ0 (rc2 a0 a1 τ)) {rc18 : Int32 → Int32 → Int32 → Int32 → Mm → Option (Int32 × Mm)} (hrc18 : ∀ a0 a1 a2 a3 τ, Fr W_X12_isHeld σ0 τ → FoI W_X12_isHeld σ0 (rc18 a0 a1 a2 a3 τ)) {x2 : Int32} {x3 : Int32} {x4 : Int32} {x5 : Int32} {σ : Mm} (hF : Fr W_X12_isHeld σ0 σ) : FoI W_X12_isHeld σ0 (B_X12_isHeld_18 rc2 rc18 x2 x3 x4 x5 σ) := by
  unfold B_X12_isHeld_18
  exact (fI_ite (fo_F_X12_isHeld_52 hrc2 hF) (fI_ite (fI_ite (fI_ite (fo_F_X12_isHeld_46 hrc2 hrc18 hF) (fI_I (Wc := W_X12_isLit) hF rfl (fo_F_X12_isLit Fr_r) (fun _ _ h1 => (fo_F_X12_isHeld_44 hrc2 hrc18 h1)))) (fo_F_X12_isHeld_52 hrc2 hF)) fI_none))
theorem fo_F_X12_isHeld_18 {σ0 : Mm} {rc2 : Int32 → Int32 → Mm → Option (Int32 × Mm)} (hrc2 : ∀ a0 a1 τ, Fr W_X12_isHeld σ0 τ → FoI W_X12_isHeld σ0 (rc2 a0 a1 τ)) (n : Nat) : ∀ {y0 : Int32} {y1 : Int32} {y2 : Int32} {y3 : Int32} {σ : Mm}, Fr W_X12_isHeld σ0 σ → FoI W_X12_isHeld σ0 (F_X12_isHeld_18 rc2 n y0 y1 y2 y3 σ) := by
  induction n with
  | zero => intro y0 y1 y2 y3 σ _; exact fI_none
  | succ n ih => intro y0 y1 y2 y3 σ hF; exact fo_B_X12_isHeld_18 hrc2 (fun _ _ _ _ _ h => ih h) hF
theorem fo_B_X12_isHeld_2 {σ0 : Mm} {rc2 : Int32 → Int32 → Mm → Option (Int32 × Mm)} (hrc2 : ∀ a0 a1 τ, Fr W_X12_isHeld σ0 τ → FoI W_X12_isHeld σ0 (rc2 a0 a1 τ)) {x2 : Int32} {x3 : Int32} {σ : Mm} (hF : Fr W_X12_isHeld σ0 σ) : FoI W_X12_isHeld σ0 (B_X12_isHeld_2 rc2 x2 x3 σ) := by
  unfold B_X12_isHeld_2
  exact (fI_ite (fI_some hF) (fI_ite (fo_F_X12_isHeld_18 hrc2 FU hF) fI_none))
theorem fo_F_X12_isHeld_2 {σ0 : Mm} (n : Nat) : ∀ {y0 : Int32} {y1 : Int32} {σ : Mm}, Fr W_X12_isHeld σ0 σ → FoI W_X12_isHeld σ0 (F_X12_isHeld_2  n y0 y1 σ) := by
  induction n with
  | zero => intro y0 y1 σ _; exact fI_none
  | succ n ih => intro y0 y1 σ hF; exact fo_B_X12_isHeld_2  (fun _ _ _ h => ih h) hF
theorem fo_F_X12_isHeld {σ0 : Mm} {x1 : Int32} {x2 : Int32} {σ : Mm} (hF : Fr W_X12_isHeld σ0 σ) : FoI W_X12_isHeld σ0 (F_X12_isHeld x1 x2 σ) := by
  unfold F_X12_isHeld
  exact (fo_F_X12_isHeld_2  FU hF)
theorem fr_X12_isHeld {x1 : Int32} {x2 : Int32} {σ : Mm} : FoI W_X12_isHeld σ (F_X12_isHeld x1 x2 σ) := fo_F_X12_isHeld Fr_r
def W_X12_isLive : List (Nat × Nat × Nat) := []
theorem fo_F_X12_isLive_38 {σ0 : Mm} {rc11 : Int32 → Int32 → Int32 → Mm → Option (Int32 × Mm)} (hrc11 : ∀ a0 a1 a2 τ, Fr W_X12_isLive σ0 τ → FoI W_X12_isLive σ0 (rc11 a0 a1 a2 τ)) {x1 : Int32} {x2 : Int32} {x3 : Int32} {σ : Mm} (hF : Fr W_X12_isLive σ0 σ) : FoI W_X12_isLive σ0 (F_X12_isLive_38 rc11 x1 x2 x3 σ) := by
  unfold F_X12_isLive_38
  exact (hrc11 _ _ _ _ hF)
theorem fo_B_X12_isLive_11 {σ0 : Mm} {rc11 : Int32 → Int32 → Int32 → Mm → Option (Int32 × Mm)} (hrc11 : ∀ a0 a1 a2 τ, Fr W_X12_isLive σ0 τ → FoI W_X12_isLive σ0 (rc11 a0 a1 a2 τ)) {x1 : Int32} {x2 : Int32} {x3 : Int32} {σ : Mm} (hF : Fr W_X12_isLive σ0 σ) : FoI W_X12_isLive σ0 (B_X12_isLive_11 rc11 x1 x2 x3 σ) := by
  unfold B_X12_isLive_11
  exact (fI_ite (fI_some hF) (fI_ite (fI_ite (fI_ite (fI_ite (fI_some hF) (fo_F_X12_isLive_38 hrc11 hF)) fI_none) (fo_F_X12_isLive_38 hrc11 hF)) fI_none))
theorem fo_F_X12_isLive_11 {σ0 : Mm} (n : Nat) : ∀ {y0 : Int32} {y1 : Int32} {y2 : Int32} {σ : Mm}, Fr W_X12_isLive σ0 σ → FoI W_X12_isLive σ0 (F_X12_isLive_11  n y0 y1 y2 σ) := by
  induction n with
  | zero => intro y0 y1 y2 σ _; exact fI_none
  | succ n ih => intro y0 y1 y2 σ hF; exact fo_B_X12_isLive_11  (fun _ _ _ _ h => ih h) hF
theorem fo_F_X12_isLive {σ0 : Mm} {x1 : Int32} {x2 : Int32} {σ : Mm} (hF : Fr W_X12_isLive σ0 σ) : FoI W_X12_isLive σ0 (F_X12_isLive x1 x2 σ) := by
  unfold F_X12_isLive
  exact (fI_ite (fo_F_X12_isLive_11  FU hF) (fI_some hF))
theorem fr_X12_isLive {x1 : Int32} {x2 : Int32} {σ : Mm} : FoI W_X12_isLive σ (F_X12_isLive x1 x2 σ) := fo_F_X12_isLive Fr_r
def W_X12_lastOf : List (Nat × Nat × Nat) := []
theorem fo_F_X12_lastOf_45 {σ0 : Mm} {rc5 : Int32 → Int32 → Int32 → Int32 → Mm → Option (Int32 × Mm)} (hrc5 : ∀ a0 a1 a2 a3 τ, Fr W_X12_lastOf σ0 τ → FoI W_X12_lastOf σ0 (rc5 a0 a1 a2 a3 τ)) {x1 : Int32} {x2 : Int32} {x3 : Int32} {x4 : Int32} {σ : Mm} (hF : Fr W_X12_lastOf σ0 σ) : FoI W_X12_lastOf σ0 (F_X12_lastOf_45 rc5 x1 x2 x3 x4 σ) := by
  unfold F_X12_lastOf_45
  exact (hrc5 _ _ _ _ _ hF)
theorem fo_F_X12_lastOf_39 {σ0 : Mm} {rc5 : Int32 → Int32 → Int32 → Int32 → Mm → Option (Int32 × Mm)} (hrc5 : ∀ a0 a1 a2 a3 τ, Fr W_X12_lastOf σ0 τ → FoI W_X12_lastOf σ0 (rc5 a0 a1 a2 a3 τ)) {x1 : Int32} {x2 : Int32} {x3 : Int32} {x4 : Int32} {s0 : Int32} {σ : Mm} (hF : Fr W_X12_lastOf σ0 σ) : FoI W_X12_lastOf σ0 (F_X12_lastOf_39 rc5 x1 x2 x3 x4 s0 σ) := by
  unfold F_X12_lastOf_39
  exact (fI_ite (fo_F_X12_lastOf_45 hrc5 hF) (fI_some hF))
theorem fo_B_X12_lastOf_5 {σ0 : Mm} {rc5 : Int32 → Int32 → Int32 → Int32 → Mm → Option (Int32 × Mm)} (hrc5 : ∀ a0 a1 a2 a3 τ, Fr W_X12_lastOf σ0 τ → FoI W_X12_lastOf σ0 (rc5 a0 a1 a2 a3 τ)) {x1 : Int32} {x2 : Int32} {x3 : Int32} {x4 : Int32} {σ : Mm} (hF : Fr W_X12_lastOf σ0 σ) : FoI W_X12_lastOf σ0 (B_X12_lastOf_5 rc5 x1 x2 x3 x4 σ) := by
  unfold B_X12_lastOf_5
  exact (fI_ite (fI_some hF) (fI_ite (fI_ite (fI_ite (fI_ite (fI_I (Wc := W_X12_isLive) hF rfl (fo_F_X12_isLive Fr_r) (fun _ _ h1 => (fo_F_X12_lastOf_39 hrc5 h1))) (fo_F_X12_lastOf_45 hrc5 hF)) fI_none) (fo_F_X12_lastOf_45 hrc5 hF)) fI_none))
theorem fo_F_X12_lastOf_5 {σ0 : Mm} (n : Nat) : ∀ {y0 : Int32} {y1 : Int32} {y2 : Int32} {y3 : Int32} {σ : Mm}, Fr W_X12_lastOf σ0 σ → FoI W_X12_lastOf σ0 (F_X12_lastOf_5  n y0 y1 y2 y3 σ) := by
  induction n with
  | zero => intro y0 y1 y2 y3 σ _; exact fI_none
  | succ n ih => intro y0 y1 y2 y3 σ hF; exact fo_B_X12_lastOf_5  (fun _ _ _ _ _ h => ih h) hF
theorem fo_F_X12_lastOf {σ0 : Mm} {x1 : Int32} {x2 : Int32} {x3 : Int32} {σ : Mm} (hF : Fr W_X12_lastOf σ0 σ) : FoI W_X12_lastOf σ0 (F_X12_lastOf x1 x2 x3 σ) := by
  unfold F_X12_lastOf
  exact (fo_F_X12_lastOf_5  FU hF)
theorem fr_X12_lastOf {x1 : Int32} {x2 : Int32} {x3 : Int32} {σ : Mm} : FoI W_X12_lastOf σ (F_X12_lastOf x1 x2 x3 σ) := fo_F_X12_lastOf Fr_r
def W_X12_layThings : List (Nat × Nat × Nat) := [(3, 48, 999), (3, 49, 999), (3, 50, 999), (3, 51, 999)]
theorem fo_F_X12_layThings_150 {σ0 : Mm} {rc2 : Int32 → Int32 → Mm → Option (Mm)} (hrc2 : ∀ a0 a1 τ, Fr W_X12_layThings σ0 τ → FoV W_X12_layThings σ0 (rc2 a0 a1 τ)) {x1 : Int32} {x2 : Int32} {σ : Mm} (hF : Fr W_X12_layThings σ0 σ) : FoV W_X12_layThings σ0 (F_X12_layThings_150 rc2 x1 x2 σ) := by
  unfold F_X12_layThings_150
  exact (hrc2 _ _ _ hF)
theorem fo_F_X12_layThings_149 {σ0 : Mm} {rc2 : Int32 → Int32 → Mm → Option (Mm)} (hrc2 : ∀ a0 a1 τ, Fr W_X12_layThings σ0 τ → FoV W_X12_layThings σ0 (rc2 a0 a1 τ)) {x1 : Int32} {x2 : Int32} {s0 : Int32} {s1 : Int32} {σ : Mm} (hF : Fr W_X12_layThings σ0 σ) : FoV W_X12_layThings σ0 (F_X12_layThings_149 rc2 x1 x2 s0 s1 σ) := by
  unfold F_X12_layThings_149
  exact (fV_ite (fo_F_X12_layThings_150 hrc2 (Fr.AA hF rfl)) fV_none)
theorem fo_F_X12_layThings_144 {σ0 : Mm} {rc2 : Int32 → Int32 → Mm → Option (Mm)} (hrc2 : ∀ a0 a1 τ, Fr W_X12_layThings σ0 τ → FoV W_X12_layThings σ0 (rc2 a0 a1 τ)) {x1 : Int32} {x2 : Int32} {s0 : Int32} {σ : Mm} (hF : Fr W_X12_layThings σ0 σ) : FoV W_X12_layThings σ0 (F_X12_layThings_144 rc2 x1 x2 s0 σ) := by
  unfold F_X12_layThings_144
  exact (fo_F_X12_layThings_149 hrc2 hF)
theorem fo_F_X12_layThings_148 {σ0 : Mm} {rc2 : Int32 → Int32 → Mm → Option (Mm)} (hrc2 : ∀ a0 a1 τ, Fr W_X12_layThings σ0 τ → FoV W_X12_layThings σ0 (rc2 a0 a1 τ)) {x1 : Int32} {x2 : Int32} {s0 : Int32} {σ : Mm} (hF : Fr W_X12_layThings σ0 σ) : FoV W_X12_layThings σ0 (F_X12_layThings_148 rc2 x1 x2 s0 σ) := by
  unfold F_X12_layThings_148
  exact (fo_F_X12_layThings_149 hrc2 hF)
theorem fo_F_X12_layThings_141 {σ0 : Mm} {rc2 : Int32 → Int32 → Mm → Option (Mm)} (hrc2 : ∀ a0 a1 τ, Fr W_X12_layThings σ0 τ → FoV W_X12_layThings σ0 (rc2 a0 a1 τ)) {x1 : Int32} {x2 : Int32} {s0 : Int32} {s1 : Int32} {σ : Mm} (hF : Fr W_X12_layThings σ0 σ) : FoV W_X12_layThings σ0 (F_X12_layThings_141 rc2 x1 x2 s0 s1 σ) := by
  unfold F_X12_layThings_141
  exact (fV_ite (fo_F_X12_layThings_144 hrc2 hF) (fo_F_X12_layThings_148 hrc2 hF))
theorem fo_F_X12_layThings_118 {σ0 : Mm} {rc2 : Int32 → Int32 → Mm → Option (Mm)} (hrc2 : ∀ a0 a1 τ, Fr W_X12_layThings σ0 τ → FoV W_X12_layThings σ0 (rc2 a0 a1 τ)) {x1 : Int32} {x2 : Int32} {s0 : Int32} {s1 : Int32} {σ : Mm} (hF : Fr W_X12_layThings σ0 σ) : FoV W_X12_layThings σ0 (F_X12_layThings_118 rc2 x1 x2 s0 s1 σ) := by
  unfold F_X12_layThings_118
  exact (fV_ite (fo_F_X12_layThings_144 hrc2 hF) (fV_ite (fV_ite (fo_F_X12_layThings_148 hrc2 hF) (fV_ite (fI_V (Wc := W_X12_isLive) hF rfl (fo_F_X12_isLive Fr_r) (fun _ _ h1 => (fo_F_X12_layThings_141 hrc2 h1))) fV_none)) fV_none))
theorem fo_F_X12_layThings_106 {σ0 : Mm} {rc2 : Int32 → Int32 → Mm → Option (Mm)} (hrc2 : ∀ a0 a1 τ, Fr W_X12_layThings σ0 τ → FoV W_X12_layThings σ0 (rc2 a0 a1 τ)) {x1 : Int32} {x2 : Int32} {σ : Mm} (hF : Fr W_X12_layThings σ0 σ) : FoV W_X12_layThings σ0 (F_X12_layThings_106 rc2 x1 x2 σ) := by
  unfold F_X12_layThings_106
  exact (fI_V (Wc := W_X12_lastOf) hF rfl (fo_F_X12_lastOf Fr_r) (fun _ _ h1 => (fo_F_X12_layThings_118 hrc2 h1)))
theorem fo_F_X12_layThings_105 {σ0 : Mm} {rc2 : Int32 → Int32 → Mm → Option (Mm)} (hrc2 : ∀ a0 a1 τ, Fr W_X12_layThings σ0 τ → FoV W_X12_layThings σ0 (rc2 a0 a1 τ)) {x1 : Int32} {x2 : Int32} {s0 : Int32} {s1 : Int32} {σ : Mm} (hF : Fr W_X12_layThings σ0 σ) : FoV W_X12_layThings σ0 (F_X12_layThings_105 rc2 x1 x2 s0 s1 σ) := by
  unfold F_X12_layThings_105
  exact (fV_ite (fo_F_X12_layThings_106 hrc2 (Fr.AA hF rfl)) fV_none)
theorem fo_F_X12_layThings_77 {σ0 : Mm} {rc2 : Int32 → Int32 → Mm → Option (Mm)} (hrc2 : ∀ a0 a1 τ, Fr W_X12_layThings σ0 τ → FoV W_X12_layThings σ0 (rc2 a0 a1 τ)) {x1 : Int32} {x2 : Int32} {s0 : Int32} {σ : Mm} (hF : Fr W_X12_layThings σ0 σ) : FoV W_X12_layThings σ0 (F_X12_layThings_77 rc2 x1 x2 s0 σ) := by
  unfold F_X12_layThings_77
  exact (fV_ite (fV_ite (fo_F_X12_layThings_105 hrc2 hF) fV_none) (fV_ite (fo_F_X12_layThings_105 hrc2 hF) fV_none))
theorem fo_F_X12_layThings_70 {σ0 : Mm} {rc2 : Int32 → Int32 → Mm → Option (Mm)} (hrc2 : ∀ a0 a1 τ, Fr W_X12_layThings σ0 τ → FoV W_X12_layThings σ0 (rc2 a0 a1 τ)) {x1 : Int32} {x2 : Int32} {σ : Mm} (hF : Fr W_X12_layThings σ0 σ) : FoV W_X12_layThings σ0 (F_X12_layThings_70 rc2 x1 x2 σ) := by
  unfold F_X12_layThings_70
  exact (fI_V (Wc := W_X12_lastOf) hF rfl (fo_F_X12_lastOf Fr_r) (fun _ _ h1 => (fo_F_X12_layThings_77 hrc2 h1)))
theorem fo_F_X12_layThings_69 {σ0 : Mm} {rc2 : Int32 → Int32 → Mm → Option (Mm)} (hrc2 : ∀ a0 a1 τ, Fr W_X12_layThings σ0 τ → FoV W_X12_layThings σ0 (rc2 a0 a1 τ)) {x1 : Int32} {x2 : Int32} {s0 : Int32} {s1 : Int32} {σ : Mm} (hF : Fr W_X12_layThings σ0 σ) : FoV W_X12_layThings σ0 (F_X12_layThings_69 rc2 x1 x2 s0 s1 σ) := by
  unfold F_X12_layThings_69
  exact (fV_ite (fo_F_X12_layThings_70 hrc2 (Fr.AA hF rfl)) fV_none)
theorem fo_F_X12_layThings_45 {σ0 : Mm} {rc2 : Int32 → Int32 → Mm → Option (Mm)} (hrc2 : ∀ a0 a1 τ, Fr W_X12_layThings σ0 τ → FoV W_X12_layThings σ0 (rc2 a0 a1 τ)) {x1 : Int32} {x2 : Int32} {x3 : Int32} {σ : Mm} (hF : Fr W_X12_layThings σ0 σ) : FoV W_X12_layThings σ0 (F_X12_layThings_45 rc2 x1 x2 x3 σ) := by
  unfold F_X12_layThings_45
  exact (fV_ite (fV_ite (fo_F_X12_layThings_69 hrc2 hF) fV_none) (fV_ite (fo_F_X12_layThings_69 hrc2 hF) fV_none))
theorem fo_F_X12_layThings_44 {σ0 : Mm} {rc2 : Int32 → Int32 → Mm → Option (Mm)} (hrc2 : ∀ a0 a1 τ, Fr W_X12_layThings σ0 τ → FoV W_X12_layThings σ0 (rc2 a0 a1 τ)) {x1 : Int32} {x2 : Int32} {x3 : Int32} {s0 : Int32} {s1 : Int32} {σ : Mm} (hF : Fr W_X12_layThings σ0 σ) : FoV W_X12_layThings σ0 (F_X12_layThings_44 rc2 x1 x2 x3 s0 s1 σ) := by
  unfold F_X12_layThings_44
  exact (fV_ite (fo_F_X12_layThings_45 hrc2 (Fr.AA hF rfl)) fV_none)
theorem fo_F_X12_layThings_19 {σ0 : Mm} {rc2 : Int32 → Int32 → Mm → Option (Mm)} (hrc2 : ∀ a0 a1 τ, Fr W_X12_layThings σ0 τ → FoV W_X12_layThings σ0 (rc2 a0 a1 τ)) {x1 : Int32} {x2 : Int32} {s0 : Int32} {σ : Mm} (hF : Fr W_X12_layThings σ0 σ) : FoV W_X12_layThings σ0 (F_X12_layThings_19 rc2 x1 x2 s0 σ) := by
  unfold F_X12_layThings_19
  exact (fV_ite (fV_ite (fo_F_X12_layThings_44 hrc2 hF) fV_none) (fV_ite (fo_F_X12_layThings_44 hrc2 hF) fV_none))
theorem fo_B_X12_layThings_2 {σ0 : Mm} {rc2 : Int32 → Int32 → Mm → Option (Mm)} (hrc2 : ∀ a0 a1 τ, Fr W_X12_layThings σ0 τ → FoV W_X12_layThings σ0 (rc2 a0 a1 τ)) {x1 : Int32} {x2 : Int32} {σ : Mm} (hF : Fr W_X12_layThings σ0 σ) : FoV W_X12_layThings σ0 (B_X12_layThings_2 rc2 x1 x2 σ) := by
  unfold B_X12_layThings_2
  exact (fV_ite (fV_ite (fV_some hF) (fI_V (Wc := W_X12_lastOf) hF rfl (fo_F_X12_lastOf Fr_r) (fun _ _ h1 => (fo_F_X12_layThings_19 hrc2 h1)))) fV_none)
theorem fo_F_X12_layThings_2 {σ0 : Mm} (n : Nat) : ∀ {y0 : Int32} {y1 : Int32} {σ : Mm}, Fr W_X12_layThings σ0 σ → FoV W_X12_layThings σ0 (F_X12_layThings_2  n y0 y1 σ) := by
  induction n with
  | zero => intro y0 y1 σ _; exact fV_none
  | succ n ih => intro y0 y1 σ hF; exact fo_B_X12_layThings_2  (fun _ _ _ h => ih h) hF
theorem fo_F_X12_layThings {σ0 : Mm} {x1 : Int32} {σ : Mm} (hF : Fr W_X12_layThings σ0 σ) : FoV W_X12_layThings σ0 (F_X12_layThings x1 σ) := by
  unfold F_X12_layThings
  exact (fo_F_X12_layThings_2  FU hF)
theorem fr_X12_layThings {x1 : Int32} {σ : Mm} : FoV W_X12_layThings σ (F_X12_layThings x1 σ) := fo_F_X12_layThings Fr_r
def W_X12_isDoor : List (Nat × Nat × Nat) := []
theorem fo_F_X12_isDoor_34 {σ0 : Mm} {rc2 : Int32 → Int32 → Int32 → Mm → Option (Int32 × Mm)} (hrc2 : ∀ a0 a1 a2 τ, Fr W_X12_isDoor σ0 τ → FoI W_X12_isDoor σ0 (rc2 a0 a1 a2 τ)) {x1 : Int32} {x2 : Int32} {x3 : Int32} {σ : Mm} (hF : Fr W_X12_isDoor σ0 σ) : FoI W_X12_isDoor σ0 (F_X12_isDoor_34 rc2 x1 x2 x3 σ) := by
  unfold F_X12_isDoor_34
  exact (hrc2 _ _ _ _ hF)
theorem fo_B_X12_isDoor_2 {σ0 : Mm} {rc2 : Int32 → Int32 → Int32 → Mm → Option (Int32 × Mm)} (hrc2 : ∀ a0 a1 a2 τ, Fr W_X12_isDoor σ0 τ → FoI W_X12_isDoor σ0 (rc2 a0 a1 a2 τ)) {x1 : Int32} {x2 : Int32} {x3 : Int32} {σ : Mm} (hF : Fr W_X12_isDoor σ0 σ) : FoI W_X12_isDoor σ0 (B_X12_isDoor_2 rc2 x1 x2 x3 σ) := by
  unfold B_X12_isDoor_2
  exact (fI_ite (fI_ite (fI_some hF) (fI_ite (fI_ite (fI_ite (fI_ite (fI_some hF) (fo_F_X12_isDoor_34 hrc2 hF)) fI_none) (fo_F_X12_isDoor_34 hrc2 hF)) fI_none)) fI_none)
theorem fo_F_X12_isDoor_2 {σ0 : Mm} (n : Nat) : ∀ {y0 : Int32} {y1 : Int32} {y2 : Int32} {σ : Mm}, Fr W_X12_isDoor σ0 σ → FoI W_X12_isDoor σ0 (F_X12_isDoor_2  n y0 y1 y2 σ) := by
  induction n with
  | zero => intro y0 y1 y2 σ _; exact fI_none
  | succ n ih => intro y0 y1 y2 σ hF; exact fo_B_X12_isDoor_2  (fun _ _ _ _ h => ih h) hF
theorem fo_F_X12_isDoor {σ0 : Mm} {x1 : Int32} {x2 : Int32} {σ : Mm} (hF : Fr W_X12_isDoor σ0 σ) : FoI W_X12_isDoor σ0 (F_X12_isDoor x1 x2 σ) := by
  unfold F_X12_isDoor
  exact (fo_F_X12_isDoor_2  FU hF)
theorem fr_X12_isDoor {x1 : Int32} {x2 : Int32} {σ : Mm} : FoI W_X12_isDoor σ (F_X12_isDoor x1 x2 σ) := fo_F_X12_isDoor Fr_r
def W_X12_lineOf : List (Nat × Nat × Nat) := []
theorem fo_F_X12_lineOf_116 {σ0 : Mm} {s0 : Int32} {σ : Mm} (hF : Fr W_X12_lineOf σ0 σ) : FoI W_X12_lineOf σ0 (F_X12_lineOf_116 s0 σ) := by
  unfold F_X12_lineOf_116
  exact (fI_ite (fI_some hF) (fI_some hF))
theorem fo_F_X12_lineOf_94 {σ0 : Mm} {s0 : Int32} {σ : Mm} (hF : Fr W_X12_lineOf σ0 σ) : FoI W_X12_lineOf σ0 (F_X12_lineOf_94 s0 σ) := by
  unfold F_X12_lineOf_94
  exact (fI_ite (fI_some hF) (fI_some hF))
theorem fo_F_X12_lineOf_65 {σ0 : Mm} {x4 : Int32} {s0 : Int32} {σ : Mm} (hF : Fr W_X12_lineOf σ0 σ) : FoI W_X12_lineOf σ0 (F_X12_lineOf_65 x4 s0 σ) := by
  unfold F_X12_lineOf_65
  exact (fI_ite (fI_ite (fI_some hF) (fI_some hF)) fI_none)
theorem fo_F_X12_lineOf_11 {σ0 : Mm} {x1 : Int32} {x2 : Int32} {x3 : Int32} {x4 : Int32} {σ : Mm} (hF : Fr W_X12_lineOf σ0 σ) : FoI W_X12_lineOf σ0 (F_X12_lineOf_11 x1 x2 x3 x4 σ) := by
  unfold F_X12_lineOf_11
  exact (fI_ite (fI_ite (fI_ite (fI_some hF) fI_none) fI_none) (fI_ite (fI_ite (fI_some hF) fI_none) (fI_ite (fI_ite (fI_ite (fo_F_X12_lineOf_65  hF) (fo_F_X12_lineOf_65  hF)) fI_none) (fI_ite (fI_I (Wc := W_X12_isDoor) hF rfl (fo_F_X12_isDoor Fr_r) (fun _ _ h1 => (fo_F_X12_lineOf_94  h1))) (fI_ite (fI_I (Wc := W_X12_isDoor) hF rfl (fo_F_X12_isDoor Fr_r) (fun _ _ h2 => (fo_F_X12_lineOf_116  h2))) (fI_ite (fI_ite (fI_ite (fI_ite (fI_ite (fI_some hF) fI_none) (fI_ite (fI_some hF) fI_none)) fI_none) fI_none) (fI_ite (fI_ite (fI_some hF) fI_none) (fI_some hF))))))))
theorem fo_F_X12_lineOf {σ0 : Mm} {x1 : Int32} {x2 : Int32} {σ : Mm} (hF : Fr W_X12_lineOf σ0 σ) : FoI W_X12_lineOf σ0 (F_X12_lineOf x1 x2 σ) := by
  unfold F_X12_lineOf
  exact (fo_F_X12_lineOf_11  hF)
theorem fr_X12_lineOf {x1 : Int32} {x2 : Int32} {σ : Mm} : FoI W_X12_lineOf σ (F_X12_lineOf x1 x2 σ) := fo_F_X12_lineOf Fr_r
def W_X12_look : List (Nat × Nat × Nat) := [(3, 56, 999)]
theorem fo_F_X12_look_20 {σ0 : Mm} {rc2 : Int32 → Int32 → Mm → Option (Mm)} (hrc2 : ∀ a0 a1 τ, Fr W_X12_look σ0 τ → FoV W_X12_look σ0 (rc2 a0 a1 τ)) {x1 : Int32} {x2 : Int32} {σ : Mm} (hF : Fr W_X12_look σ0 σ) : FoV W_X12_look σ0 (F_X12_look_20 rc2 x1 x2 σ) := by
  unfold F_X12_look_20
  exact (hrc2 _ _ _ hF)
theorem fo_F_X12_look_19 {σ0 : Mm} {rc2 : Int32 → Int32 → Mm → Option (Mm)} (hrc2 : ∀ a0 a1 τ, Fr W_X12_look σ0 τ → FoV W_X12_look σ0 (rc2 a0 a1 τ)) {x1 : Int32} {x2 : Int32} {s0 : Int32} {s1 : Int32} {σ : Mm} (hF : Fr W_X12_look σ0 σ) : FoV W_X12_look σ0 (F_X12_look_19 rc2 x1 x2 s0 s1 σ) := by
  unfold F_X12_look_19
  exact (fV_ite (fo_F_X12_look_20 hrc2 (Fr.AA hF rfl)) fV_none)
theorem fo_B_X12_look_2 {σ0 : Mm} {rc2 : Int32 → Int32 → Mm → Option (Mm)} (hrc2 : ∀ a0 a1 τ, Fr W_X12_look σ0 τ → FoV W_X12_look σ0 (rc2 a0 a1 τ)) {x1 : Int32} {x2 : Int32} {σ : Mm} (hF : Fr W_X12_look σ0 σ) : FoV W_X12_look σ0 (B_X12_look_2 rc2 x1 x2 σ) := by
  unfold B_X12_look_2
  exact (fV_ite (fV_some hF) (fI_V (Wc := W_X12_lineOf) hF rfl (fo_F_X12_lineOf Fr_r) (fun _ _ h1 => (fo_F_X12_look_19 hrc2 h1))))
theorem fo_F_X12_look_2 {σ0 : Mm} (n : Nat) : ∀ {y0 : Int32} {y1 : Int32} {σ : Mm}, Fr W_X12_look σ0 σ → FoV W_X12_look σ0 (F_X12_look_2  n y0 y1 σ) := by
  induction n with
  | zero => intro y0 y1 σ _; exact fV_none
  | succ n ih => intro y0 y1 σ hF; exact fo_B_X12_look_2  (fun _ _ _ h => ih h) hF
theorem fo_F_X12_look {σ0 : Mm} {x1 : Int32} {σ : Mm} (hF : Fr W_X12_look σ0 σ) : FoV W_X12_look σ0 (F_X12_look x1 σ) := by
  unfold F_X12_look
  exact (fo_F_X12_look_2  FU hF)
theorem fr_X12_look {x1 : Int32} {σ : Mm} : FoV W_X12_look σ (F_X12_look x1 σ) := fo_F_X12_look Fr_r
def W_X12_lay : List (Nat × Nat × Nat) := [(3, 0, 69), (3, 48, 999), (3, 49, 999), (3, 50, 999), (3, 51, 999), (3, 52, 999), (3, 53, 999), (3, 54, 999), (3, 55, 999), (3, 56, 999), (3, 57, 999)]
theorem fo_F_X12_lay_288 {σ0 : Mm} {rc7 : Int32 → Mm → Option (Mm)} (hrc7 : ∀ a0 τ, Fr W_X12_lay σ0 τ → FoV W_X12_lay σ0 (rc7 a0 τ)) {x2 : Int32} {σ : Mm} (hF : Fr W_X12_lay σ0 σ) : FoV W_X12_lay σ0 (F_X12_lay_288 rc7 x2 σ) := by
  unfold F_X12_lay_288
  exact (hrc7 _ _ hF)
theorem fo_F_X12_lay_282 {σ0 : Mm} {rc7 : Int32 → Mm → Option (Mm)} (hrc7 : ∀ a0 τ, Fr W_X12_lay σ0 τ → FoV W_X12_lay σ0 (rc7 a0 τ)) {rc238 : Int32 → Int32 → Mm → Option (Mm)} (hrc238 : ∀ a0 a1 τ, Fr W_X12_lay σ0 τ → FoV W_X12_lay σ0 (rc238 a0 a1 τ)) {x2 : Int32} {x7 : Int32} {σ : Mm} (hF : Fr W_X12_lay σ0 σ) : FoV W_X12_lay σ0 (F_X12_lay_282 rc7 rc238 x2 x7 σ) := by
  unfold F_X12_lay_282
  exact (hrc238 _ _ _ hF)
theorem fo_F_X12_lay_281 {σ0 : Mm} {rc7 : Int32 → Mm → Option (Mm)} (hrc7 : ∀ a0 τ, Fr W_X12_lay σ0 τ → FoV W_X12_lay σ0 (rc7 a0 τ)) {rc238 : Int32 → Int32 → Mm → Option (Mm)} (hrc238 : ∀ a0 a1 τ, Fr W_X12_lay σ0 τ → FoV W_X12_lay σ0 (rc238 a0 a1 τ)) {x2 : Int32} {x7 : Int32} {s0 : Int32} {s1 : Int32} {σ : Mm} (hF : Fr W_X12_lay σ0 σ) : FoV W_X12_lay σ0 (F_X12_lay_281 rc7 rc238 x2 x7 s0 s1 σ) := by
  unfold F_X12_lay_281
  exact (fV_ite (fo_F_X12_lay_282 hrc7 hrc238 (Fr.AA hF rfl)) fV_none)
theorem fo_B_X12_lay_238 {σ0 : Mm} {rc7 : Int32 → Mm → Option (Mm)} (hrc7 : ∀ a0 τ, Fr W_X12_lay σ0 τ → FoV W_X12_lay σ0 (rc7 a0 τ)) {rc238 : Int32 → Int32 → Mm → Option (Mm)} (hrc238 : ∀ a0 a1 τ, Fr W_X12_lay σ0 τ → FoV W_X12_lay σ0 (rc238 a0 a1 τ)) {x2 : Int32} {x7 : Int32} {σ : Mm} (hF : Fr W_X12_lay σ0 σ) : FoV W_X12_lay σ0 (B_X12_lay_238 rc7 rc238 x2 x7 σ) := by
  unfold B_X12_lay_238
  exact (fV_ite (fV_ite (fo_F_X12_lay_288 hrc7 hF) (fV_ite (fV_ite (fV_ite (fV_ite (fI_V (Wc := W_X12_isHeld) hF rfl (fo_F_X12_isHeld Fr_r) (fun _ _ h1 => (fo_F_X12_lay_281 hrc7 hrc238 h1))) fV_none) fV_none) (fo_F_X12_lay_288 hrc7 hF)) fV_none)) fV_none)
theorem fo_F_X12_lay_238 {σ0 : Mm} {rc7 : Int32 → Mm → Option (Mm)} (hrc7 : ∀ a0 τ, Fr W_X12_lay σ0 τ → FoV W_X12_lay σ0 (rc7 a0 τ)) (n : Nat) : ∀ {y0 : Int32} {y1 : Int32} {σ : Mm}, Fr W_X12_lay σ0 σ → FoV W_X12_lay σ0 (F_X12_lay_238 rc7 n y0 y1 σ) := by
  induction n with
  | zero => intro y0 y1 σ _; exact fV_none
  | succ n ih => intro y0 y1 σ hF; exact fo_B_X12_lay_238 hrc7 (fun _ _ _ h => ih h) hF
theorem fo_F_X12_lay_235 {σ0 : Mm} {rc7 : Int32 → Mm → Option (Mm)} (hrc7 : ∀ a0 τ, Fr W_X12_lay σ0 τ → FoV W_X12_lay σ0 (rc7 a0 τ)) {x2 : Int32} {σ : Mm} (hF : Fr W_X12_lay σ0 σ) : FoV W_X12_lay σ0 (F_X12_lay_235 rc7 x2 σ) := by
  unfold F_X12_lay_235
  exact (fo_F_X12_lay_238 hrc7 FU hF)
theorem fo_F_X12_lay_230 {σ0 : Mm} {rc7 : Int32 → Mm → Option (Mm)} (hrc7 : ∀ a0 τ, Fr W_X12_lay σ0 τ → FoV W_X12_lay σ0 (rc7 a0 τ)) {x2 : Int32} {σ : Mm} (hF : Fr W_X12_lay σ0 σ) : FoV W_X12_lay σ0 (F_X12_lay_230 rc7 x2 σ) := by
  unfold F_X12_lay_230
  exact (fV_V (Wc := W_X12_look) hF rfl (fo_F_X12_look Fr_r) (fun _ h1 => (fo_F_X12_lay_235 hrc7 h1)))
theorem fo_F_X12_lay_229 {σ0 : Mm} {rc7 : Int32 → Mm → Option (Mm)} (hrc7 : ∀ a0 τ, Fr W_X12_lay σ0 τ → FoV W_X12_lay σ0 (rc7 a0 τ)) {x2 : Int32} {s0 : Int32} {s1 : Int32} {σ : Mm} (hF : Fr W_X12_lay σ0 σ) : FoV W_X12_lay σ0 (F_X12_lay_229 rc7 x2 s0 s1 σ) := by
  unfold F_X12_lay_229
  exact (fV_ite (fo_F_X12_lay_230 hrc7 (Fr.AA hF rfl)) fV_none)
theorem fo_F_X12_lay_210 {σ0 : Mm} {rc7 : Int32 → Mm → Option (Mm)} (hrc7 : ∀ a0 τ, Fr W_X12_lay σ0 τ → FoV W_X12_lay σ0 (rc7 a0 τ)) {x2 : Int32} {σ : Mm} (hF : Fr W_X12_lay σ0 σ) : FoV W_X12_lay σ0 (F_X12_lay_210 rc7 x2 σ) := by
  unfold F_X12_lay_210
  exact (fV_ite (fV_ite (fo_F_X12_lay_229 hrc7 hF) (fo_F_X12_lay_229 hrc7 hF)) fV_none)
theorem fo_F_X12_lay_209 {σ0 : Mm} {rc7 : Int32 → Mm → Option (Mm)} (hrc7 : ∀ a0 τ, Fr W_X12_lay σ0 τ → FoV W_X12_lay σ0 (rc7 a0 τ)) {x2 : Int32} {s0 : Int32} {s1 : Int32} {σ : Mm} (hF : Fr W_X12_lay σ0 σ) : FoV W_X12_lay σ0 (F_X12_lay_209 rc7 x2 s0 s1 σ) := by
  unfold F_X12_lay_209
  exact (fV_ite (fo_F_X12_lay_210 hrc7 (Fr.AA hF rfl)) fV_none)
theorem fo_F_X12_lay_178 {σ0 : Mm} {rc7 : Int32 → Mm → Option (Mm)} (hrc7 : ∀ a0 τ, Fr W_X12_lay σ0 τ → FoV W_X12_lay σ0 (rc7 a0 τ)) {x2 : Int32} {x5 : Int32} {x6 : Int32} {σ : Mm} (hF : Fr W_X12_lay σ0 σ) : FoV W_X12_lay σ0 (F_X12_lay_178 rc7 x2 x5 x6 σ) := by
  unfold F_X12_lay_178
  exact (fV_ite (fo_F_X12_lay_209 hrc7 hF) (fo_F_X12_lay_209 hrc7 hF))
theorem fo_F_X12_lay_177 {σ0 : Mm} {rc7 : Int32 → Mm → Option (Mm)} (hrc7 : ∀ a0 τ, Fr W_X12_lay σ0 τ → FoV W_X12_lay σ0 (rc7 a0 τ)) {x2 : Int32} {x5 : Int32} {x6 : Int32} {s0 : Int32} {s1 : Int32} {σ : Mm} (hF : Fr W_X12_lay σ0 σ) : FoV W_X12_lay σ0 (F_X12_lay_177 rc7 x2 x5 x6 s0 s1 σ) := by
  unfold F_X12_lay_177
  exact (fV_ite (fo_F_X12_lay_178 hrc7 (Fr.AA hF rfl)) fV_none)
theorem fo_F_X12_lay_165 {σ0 : Mm} {rc7 : Int32 → Mm → Option (Mm)} (hrc7 : ∀ a0 τ, Fr W_X12_lay σ0 τ → FoV W_X12_lay σ0 (rc7 a0 τ)) {x2 : Int32} {x5 : Int32} {x6 : Int32} {σ : Mm} (hF : Fr W_X12_lay σ0 σ) : FoV W_X12_lay σ0 (F_X12_lay_165 rc7 x2 x5 x6 σ) := by
  unfold F_X12_lay_165
  exact (fI_V (Wc := W_X12_degreeOf) hF rfl (fo_F_X12_degreeOf Fr_r) (fun _ _ h1 => (fo_F_X12_lay_177 hrc7 h1)))
theorem fo_F_X12_lay_149 {σ0 : Mm} {rc7 : Int32 → Mm → Option (Mm)} (hrc7 : ∀ a0 τ, Fr W_X12_lay σ0 τ → FoV W_X12_lay σ0 (rc7 a0 τ)) {x2 : Int32} {x3 : Int32} {x4 : Int32} {x5 : Int32} {σ : Mm} (hF : Fr W_X12_lay σ0 σ) : FoV W_X12_lay σ0 (F_X12_lay_149 rc7 x2 x3 x4 x5 σ) := by
  unfold F_X12_lay_149
  exact (fV_ite (fV_ite (fo_F_X12_lay_165 hrc7 hF) fV_none) fV_none)
theorem fo_F_X12_lay_121 {σ0 : Mm} {rc7 : Int32 → Mm → Option (Mm)} (hrc7 : ∀ a0 τ, Fr W_X12_lay σ0 τ → FoV W_X12_lay σ0 (rc7 a0 τ)) {x2 : Int32} {x3 : Int32} {x4 : Int32} {σ : Mm} (hF : Fr W_X12_lay σ0 σ) : FoV W_X12_lay σ0 (F_X12_lay_121 rc7 x2 x3 x4 σ) := by
  unfold F_X12_lay_121
  exact (fV_ite (fV_ite (fo_F_X12_lay_288 hrc7 hF) (fV_ite (fV_ite (fo_F_X12_lay_149 hrc7 hF) fV_none) fV_none)) fV_none)
theorem fo_F_X12_lay_114 {σ0 : Mm} {rc7 : Int32 → Mm → Option (Mm)} (hrc7 : ∀ a0 τ, Fr W_X12_lay σ0 τ → FoV W_X12_lay σ0 (rc7 a0 τ)) {x2 : Int32} {x3 : Int32} {x4 : Int32} {σ : Mm} (hF : Fr W_X12_lay σ0 σ) : FoV W_X12_lay σ0 (F_X12_lay_114 rc7 x2 x3 x4 σ) := by
  unfold F_X12_lay_114
  exact (fV_ite (fo_F_X12_lay_121 hrc7 (Fr.AA hF rfl)) fV_none)
theorem fo_F_X12_lay_113 {σ0 : Mm} {rc7 : Int32 → Mm → Option (Mm)} (hrc7 : ∀ a0 τ, Fr W_X12_lay σ0 τ → FoV W_X12_lay σ0 (rc7 a0 τ)) {x2 : Int32} {x3 : Int32} {x4 : Int32} {s0 : Int32} {s1 : Int32} {σ : Mm} (hF : Fr W_X12_lay σ0 σ) : FoV W_X12_lay σ0 (F_X12_lay_113 rc7 x2 x3 x4 s0 s1 σ) := by
  unfold F_X12_lay_113
  exact (fV_ite (fo_F_X12_lay_114 hrc7 (Fr.AA hF rfl)) fV_none)
theorem fo_F_X12_lay_112 {σ0 : Mm} {rc7 : Int32 → Mm → Option (Mm)} (hrc7 : ∀ a0 τ, Fr W_X12_lay σ0 τ → FoV W_X12_lay σ0 (rc7 a0 τ)) {x2 : Int32} {x3 : Int32} {x4 : Int32} {s0 : Int32} {σ : Mm} (hF : Fr W_X12_lay σ0 σ) : FoV W_X12_lay σ0 (F_X12_lay_112 rc7 x2 x3 x4 s0 σ) := by
  unfold F_X12_lay_112
  exact (fo_F_X12_lay_113 hrc7 hF)
theorem fo_F_X12_lay_108 {σ0 : Mm} {rc7 : Int32 → Mm → Option (Mm)} (hrc7 : ∀ a0 τ, Fr W_X12_lay σ0 τ → FoV W_X12_lay σ0 (rc7 a0 τ)) {x2 : Int32} {x3 : Int32} {x4 : Int32} {s0 : Int32} {σ : Mm} (hF : Fr W_X12_lay σ0 σ) : FoV W_X12_lay σ0 (F_X12_lay_108 rc7 x2 x3 x4 s0 σ) := by
  unfold F_X12_lay_108
  exact (fo_F_X12_lay_113 hrc7 hF)
theorem fo_F_X12_lay_25 {σ0 : Mm} {rc7 : Int32 → Mm → Option (Mm)} (hrc7 : ∀ a0 τ, Fr W_X12_lay σ0 τ → FoV W_X12_lay σ0 (rc7 a0 τ)) {x2 : Int32} {x3 : Int32} {x4 : Int32} {σ : Mm} (hF : Fr W_X12_lay σ0 σ) : FoV W_X12_lay σ0 (F_X12_lay_25 rc7 x2 x3 x4 σ) := by
  unfold F_X12_lay_25
  exact (fV_ite (fo_F_X12_lay_112 hrc7 hF) (fV_ite (fV_ite (fo_F_X12_lay_112 hrc7 hF) (fV_ite (fV_ite (fo_F_X12_lay_112 hrc7 hF) (fV_ite (fV_ite (fV_ite (fV_ite (fV_ite (fV_ite (fV_ite (fV_ite (fV_ite (fV_ite (fo_F_X12_lay_112 hrc7 hF) (fo_F_X12_lay_108 hrc7 hF)) fV_none) fV_none) (fo_F_X12_lay_108 hrc7 hF)) fV_none) fV_none) (fo_F_X12_lay_112 hrc7 hF)) fV_none) (fo_F_X12_lay_112 hrc7 hF)) fV_none)) fV_none)) fV_none))
theorem fo_B_X12_lay_7 {σ0 : Mm} {rc7 : Int32 → Mm → Option (Mm)} (hrc7 : ∀ a0 τ, Fr W_X12_lay σ0 τ → FoV W_X12_lay σ0 (rc7 a0 τ)) {x2 : Int32} {σ : Mm} (hF : Fr W_X12_lay σ0 σ) : FoV W_X12_lay σ0 (B_X12_lay_7 rc7 x2 σ) := by
  unfold B_X12_lay_7
  exact (fV_ite (fV_some hF) (fo_F_X12_lay_25 hrc7 hF))
theorem fo_F_X12_lay_7 {σ0 : Mm} (n : Nat) : ∀ {y0 : Int32} {σ : Mm}, Fr W_X12_lay σ0 σ → FoV W_X12_lay σ0 (F_X12_lay_7  n y0 σ) := by
  induction n with
  | zero => intro y0 σ _; exact fV_none
  | succ n ih => intro y0 σ hF; exact fo_B_X12_lay_7  (fun _ _ h => ih h) hF
theorem fo_F_X12_lay_5 {σ0 : Mm} {σ : Mm} (hF : Fr W_X12_lay σ0 σ) : FoV W_X12_lay σ0 (F_X12_lay_5 σ) := by
  unfold F_X12_lay_5
  exact (fo_F_X12_lay_7  FU hF)
theorem fo_F_X12_lay {σ0 : Mm} {x1 : Int32} {σ : Mm} (hF : Fr W_X12_lay σ0 σ) : FoV W_X12_lay σ0 (F_X12_lay x1 σ) := by
  unfold F_X12_lay
  exact (fV_V (Wc := W_X12_layThings) hF rfl (fo_F_X12_layThings Fr_r) (fun _ h1 => (fo_F_X12_lay_5  h1)))
theorem fr_X12_lay {x1 : Int32} {σ : Mm} : FoV W_X12_lay σ (F_X12_lay x1 σ) := fo_F_X12_lay Fr_r
def W_X12_heightOf : List (Nat × Nat × Nat) := []
theorem fo_F_X12_heightOf_81 {σ0 : Mm} {rc9 : Int32 → Int32 → Mm → Option (Int32 × Mm)} (hrc9 : ∀ a0 a1 τ, Fr W_X12_heightOf σ0 τ → FoI W_X12_heightOf σ0 (rc9 a0 a1 τ)) {x1 : Int32} {x2 : Int32} {s0 : Int32} {σ : Mm} (hF : Fr W_X12_heightOf σ0 σ) : FoI W_X12_heightOf σ0 (F_X12_heightOf_81 rc9 x1 x2 s0 σ) := by
  unfold F_X12_heightOf_81
  exact (fI_ite (hrc9 _ _ _ hF) (fI_ite (fI_some hF) fI_none))
theorem fo_F_X12_heightOf_76 {σ0 : Mm} {rc9 : Int32 → Int32 → Mm → Option (Int32 × Mm)} (hrc9 : ∀ a0 a1 τ, Fr W_X12_heightOf σ0 τ → FoI W_X12_heightOf σ0 (rc9 a0 a1 τ)) {x1 : Int32} {x2 : Int32} {σ : Mm} (hF : Fr W_X12_heightOf σ0 σ) : FoI W_X12_heightOf σ0 (F_X12_heightOf_76 rc9 x1 x2 σ) := by
  unfold F_X12_heightOf_76
  exact (fo_F_X12_heightOf_81 hrc9 hF)
theorem fo_F_X12_heightOf_52 {σ0 : Mm} {rc9 : Int32 → Int32 → Mm → Option (Int32 × Mm)} (hrc9 : ∀ a0 a1 τ, Fr W_X12_heightOf σ0 τ → FoI W_X12_heightOf σ0 (rc9 a0 a1 τ)) {x1 : Int32} {x2 : Int32} {σ : Mm} (hF : Fr W_X12_heightOf σ0 σ) : FoI W_X12_heightOf σ0 (F_X12_heightOf_52 rc9 x1 x2 σ) := by
  unfold F_X12_heightOf_52
  exact (fo_F_X12_heightOf_81 hrc9 hF)
theorem fo_B_X12_heightOf_9 {σ0 : Mm} {rc9 : Int32 → Int32 → Mm → Option (Int32 × Mm)} (hrc9 : ∀ a0 a1 τ, Fr W_X12_heightOf σ0 τ → FoI W_X12_heightOf σ0 (rc9 a0 a1 τ)) {x1 : Int32} {x2 : Int32} {σ : Mm} (hF : Fr W_X12_heightOf σ0 σ) : FoI W_X12_heightOf σ0 (B_X12_heightOf_9 rc9 x1 x2 σ) := by
  unfold B_X12_heightOf_9
  exact (fI_ite (fI_some hF) (fI_ite (fI_ite (fI_ite (fI_ite (fI_ite (fo_F_X12_heightOf_76 hrc9 hF) (fI_ite (fI_ite (fo_F_X12_heightOf_81 hrc9 hF) (fo_F_X12_heightOf_76 hrc9 hF)) fI_none)) fI_none) (fI_ite (fI_ite (fo_F_X12_heightOf_52 hrc9 hF) (fI_ite (fI_ite (fo_F_X12_heightOf_52 hrc9 hF) (fo_F_X12_heightOf_81 hrc9 hF)) fI_none)) fI_none)) fI_none) fI_none))
theorem fo_F_X12_heightOf_9 {σ0 : Mm} (n : Nat) : ∀ {y0 : Int32} {y1 : Int32} {σ : Mm}, Fr W_X12_heightOf σ0 σ → FoI W_X12_heightOf σ0 (F_X12_heightOf_9  n y0 y1 σ) := by
  induction n with
  | zero => intro y0 y1 σ _; exact fI_none
  | succ n ih => intro y0 y1 σ hF; exact fo_B_X12_heightOf_9  (fun _ _ _ h => ih h) hF
theorem fo_F_X12_heightOf {σ0 : Mm} {x1 : Int32} {σ : Mm} (hF : Fr W_X12_heightOf σ0 σ) : FoI W_X12_heightOf σ0 (F_X12_heightOf x1 σ) := by
  unfold F_X12_heightOf
  exact (fI_ite (fo_F_X12_heightOf_9  FU hF) fI_none)
theorem fr_X12_heightOf {x1 : Int32} {σ : Mm} : FoI W_X12_heightOf σ (F_X12_heightOf x1 σ) := fo_F_X12_heightOf Fr_r
def W_X12_skyAt : List (Nat × Nat × Nat) := [(3, 0, 69), (3, 56, 999), (3, 57, 999)]
theorem fo_F_X12_skyAt_60 {σ0 : Mm} {x4 : Int32} {σ : Mm} (hF : Fr W_X12_skyAt σ0 σ) : FoI W_X12_skyAt σ0 (F_X12_skyAt_60 x4 σ) := by
  unfold F_X12_skyAt_60
  exact (fI_ite (fI_some hF) (fI_some hF))
theorem fo_F_X12_skyAt_54 {σ0 : Mm} {s0 : Int32} {σ : Mm} (hF : Fr W_X12_skyAt σ0 σ) : FoI W_X12_skyAt σ0 (F_X12_skyAt_54 s0 σ) := by
  unfold F_X12_skyAt_54
  exact (fo_F_X12_skyAt_60  hF)
theorem fo_F_X12_skyAt_38 {σ0 : Mm} {x1 : Int32} {σ : Mm} (hF : Fr W_X12_skyAt σ0 σ) : FoI W_X12_skyAt σ0 (F_X12_skyAt_38 x1 σ) := by
  unfold F_X12_skyAt_38
  exact (fI_ite (fI_ite (fI_I (Wc := W_X12_sum) hF rfl (fo_F_X12_sum Fr_r) (fun _ _ h1 => (fo_F_X12_skyAt_54  h1))) fI_none) fI_none)
theorem fo_F_X12_skyAt_31 {σ0 : Mm} {x1 : Int32} {x3 : Int32} {σ : Mm} (hF : Fr W_X12_skyAt σ0 σ) : FoI W_X12_skyAt σ0 (F_X12_skyAt_31 x1 x3 σ) := by
  unfold F_X12_skyAt_31
  exact (fI_ite (fo_F_X12_skyAt_38  (Fr.AA hF rfl)) fI_none)
theorem fo_F_X12_skyAt_18 {σ0 : Mm} {rc3 : Int32 → Int32 → Int32 → Int32 → Mm → Option (Int32 × Mm)} (hrc3 : ∀ a0 a1 a2 a3 τ, Fr W_X12_skyAt σ0 τ → FoI W_X12_skyAt σ0 (rc3 a0 a1 a2 a3 τ)) {x1 : Int32} {x2 : Int32} {x3 : Int32} {x4 : Int32} {σ : Mm} (hF : Fr W_X12_skyAt σ0 σ) : FoI W_X12_skyAt σ0 (F_X12_skyAt_18 rc3 x1 x2 x3 x4 σ) := by
  unfold F_X12_skyAt_18
  exact (hrc3 _ _ _ _ _ hF)
theorem fo_B_X12_skyAt_3 {σ0 : Mm} {rc3 : Int32 → Int32 → Int32 → Int32 → Mm → Option (Int32 × Mm)} (hrc3 : ∀ a0 a1 a2 a3 τ, Fr W_X12_skyAt σ0 τ → FoI W_X12_skyAt σ0 (rc3 a0 a1 a2 a3 τ)) {x1 : Int32} {x2 : Int32} {x3 : Int32} {x4 : Int32} {σ : Mm} (hF : Fr W_X12_skyAt σ0 σ) : FoI W_X12_skyAt σ0 (B_X12_skyAt_3 rc3 x1 x2 x3 x4 σ) := by
  unfold B_X12_skyAt_3
  exact (fI_ite (fI_ite (fo_F_X12_skyAt_31  (Fr.AA hF rfl)) fI_none) (fI_ite (fo_F_X12_skyAt_18 hrc3 (Fr.AA hF rfl)) fI_none))
theorem fo_F_X12_skyAt_3 {σ0 : Mm} (n : Nat) : ∀ {y0 : Int32} {y1 : Int32} {y2 : Int32} {y3 : Int32} {σ : Mm}, Fr W_X12_skyAt σ0 σ → FoI W_X12_skyAt σ0 (F_X12_skyAt_3  n y0 y1 y2 y3 σ) := by
  induction n with
  | zero => intro y0 y1 y2 y3 σ _; exact fI_none
  | succ n ih => intro y0 y1 y2 y3 σ hF; exact fo_B_X12_skyAt_3  (fun _ _ _ _ _ h => ih h) hF
theorem fo_F_X12_skyAt {σ0 : Mm} {x1 : Int32} {x2 : Int32} {x3 : Int32} {σ : Mm} (hF : Fr W_X12_skyAt σ0 σ) : FoI W_X12_skyAt σ0 (F_X12_skyAt x1 x2 x3 σ) := by
  unfold F_X12_skyAt
  exact (fo_F_X12_skyAt_3  FU hF)
theorem fr_X12_skyAt {x1 : Int32} {x2 : Int32} {x3 : Int32} {σ : Mm} : FoI W_X12_skyAt σ (F_X12_skyAt x1 x2 x3 σ) := fo_F_X12_skyAt Fr_r
def W_X12_riseOf : List (Nat × Nat × Nat) := [(3, 0, 69), (3, 56, 999), (3, 57, 999)]
theorem fo_F_X12_riseOf_19 {σ0 : Mm} {s0 : Int32} {σ : Mm} (hF : Fr W_X12_riseOf σ0 σ) : FoI W_X12_riseOf σ0 (F_X12_riseOf_19 s0 σ) := by
  unfold F_X12_riseOf_19
  exact (fI_some hF)
theorem fo_F_X12_riseOf_16 {σ0 : Mm} {s0 : Int32} {s1 : Int32} {s2 : Int32} {σ : Mm} (hF : Fr W_X12_riseOf σ0 σ) : FoI W_X12_riseOf σ0 (F_X12_riseOf_16 s0 s1 s2 σ) := by
  unfold F_X12_riseOf_16
  exact (fI_I (Wc := W_X12_skyAt) hF rfl (fo_F_X12_skyAt Fr_r) (fun _ _ h1 => (fo_F_X12_riseOf_19  h1)))
theorem fo_F_X12_riseOf_7 {σ0 : Mm} {x1 : Int32} {x2 : Int32} {s0 : Int32} {σ : Mm} (hF : Fr W_X12_riseOf σ0 σ) : FoI W_X12_riseOf σ0 (F_X12_riseOf_7 x1 x2 s0 σ) := by
  unfold F_X12_riseOf_7
  exact (fI_I (Wc := W_X12_heightOf) hF rfl (fo_F_X12_heightOf Fr_r) (fun _ _ h1 => (fo_F_X12_riseOf_16  h1)))
theorem fo_F_X12_riseOf {σ0 : Mm} {x1 : Int32} {x2 : Int32} {σ : Mm} (hF : Fr W_X12_riseOf σ0 σ) : FoI W_X12_riseOf σ0 (F_X12_riseOf x1 x2 σ) := by
  unfold F_X12_riseOf
  exact (fI_I (Wc := W_X12_skyAt) hF rfl (fo_F_X12_skyAt Fr_r) (fun _ _ h1 => (fo_F_X12_riseOf_7  h1)))
theorem fr_X12_riseOf {x1 : Int32} {x2 : Int32} {σ : Mm} : FoI W_X12_riseOf σ (F_X12_riseOf x1 x2 σ) := fo_F_X12_riseOf Fr_r
def W_X12_laySky : List (Nat × Nat × Nat) := [(3, 0, 69), (3, 56, 999), (3, 57, 999), (3, 58, 999)]
theorem fo_F_X12_laySky_24 {σ0 : Mm} {rc2 : Int32 → Int32 → Mm → Option (Mm)} (hrc2 : ∀ a0 a1 τ, Fr W_X12_laySky σ0 τ → FoV W_X12_laySky σ0 (rc2 a0 a1 τ)) {x1 : Int32} {x2 : Int32} {σ : Mm} (hF : Fr W_X12_laySky σ0 σ) : FoV W_X12_laySky σ0 (F_X12_laySky_24 rc2 x1 x2 σ) := by
  unfold F_X12_laySky_24
  exact (hrc2 _ _ _ hF)
theorem fo_F_X12_laySky_23 {σ0 : Mm} {rc2 : Int32 → Int32 → Mm → Option (Mm)} (hrc2 : ∀ a0 a1 τ, Fr W_X12_laySky σ0 τ → FoV W_X12_laySky σ0 (rc2 a0 a1 τ)) {x1 : Int32} {x2 : Int32} {s0 : Int32} {s1 : Int32} {σ : Mm} (hF : Fr W_X12_laySky σ0 σ) : FoV W_X12_laySky σ0 (F_X12_laySky_23 rc2 x1 x2 s0 s1 σ) := by
  unfold F_X12_laySky_23
  exact (fV_ite (fo_F_X12_laySky_24 hrc2 (Fr.AA hF rfl)) fV_none)
theorem fo_B_X12_laySky_2 {σ0 : Mm} {rc2 : Int32 → Int32 → Mm → Option (Mm)} (hrc2 : ∀ a0 a1 τ, Fr W_X12_laySky σ0 τ → FoV W_X12_laySky σ0 (rc2 a0 a1 τ)) {x1 : Int32} {x2 : Int32} {σ : Mm} (hF : Fr W_X12_laySky σ0 σ) : FoV W_X12_laySky σ0 (B_X12_laySky_2 rc2 x1 x2 σ) := by
  unfold B_X12_laySky_2
  exact (fV_ite (fV_ite (fV_some hF) (fI_V (Wc := W_X12_riseOf) hF rfl (fo_F_X12_riseOf Fr_r) (fun _ _ h1 => (fo_F_X12_laySky_23 hrc2 h1)))) fV_none)
theorem fo_F_X12_laySky_2 {σ0 : Mm} (n : Nat) : ∀ {y0 : Int32} {y1 : Int32} {σ : Mm}, Fr W_X12_laySky σ0 σ → FoV W_X12_laySky σ0 (F_X12_laySky_2  n y0 y1 σ) := by
  induction n with
  | zero => intro y0 y1 σ _; exact fV_none
  | succ n ih => intro y0 y1 σ hF; exact fo_B_X12_laySky_2  (fun _ _ _ h => ih h) hF
theorem fo_F_X12_laySky {σ0 : Mm} {x1 : Int32} {σ : Mm} (hF : Fr W_X12_laySky σ0 σ) : FoV W_X12_laySky σ0 (F_X12_laySky x1 σ) := by
  unfold F_X12_laySky
  exact (fo_F_X12_laySky_2  FU hF)
theorem fr_X12_laySky {x1 : Int32} {σ : Mm} : FoV W_X12_laySky σ (F_X12_laySky x1 σ) := fo_F_X12_laySky Fr_r
def W_X12_layAll : List (Nat × Nat × Nat) := [(3, 0, 69), (3, 48, 999), (3, 49, 999), (3, 50, 999), (3, 51, 999), (3, 52, 999), (3, 53, 999), (3, 54, 999), (3, 55, 999), (3, 56, 999), (3, 57, 999), (3, 58, 999)]
theorem fo_F_X12_layAll_5 {σ0 : Mm} {x1 : Int32} {σ : Mm} (hF : Fr W_X12_layAll σ0 σ) : FoV W_X12_layAll σ0 (F_X12_layAll_5 x1 σ) := by
  unfold F_X12_layAll_5
  exact (fV_V (Wc := W_X12_laySky) hF rfl (fo_F_X12_laySky Fr_r) (fun _ h1 => (fV_some h1)))
theorem fo_F_X12_layAll {σ0 : Mm} {x1 : Int32} {x2 : Int32} {σ : Mm} (hF : Fr W_X12_layAll σ0 σ) : FoV W_X12_layAll σ0 (F_X12_layAll x1 x2 σ) := by
  unfold F_X12_layAll
  exact (fV_V (Wc := W_X12_lay) hF rfl (fo_F_X12_lay Fr_r) (fun _ h1 => (fo_F_X12_layAll_5  h1)))
theorem fr_X12_layAll {x1 : Int32} {x2 : Int32} {σ : Mm} : FoV W_X12_layAll σ (F_X12_layAll x1 x2 σ) := fo_F_X12_layAll Fr_r
def W_X12_allHits : List (Nat × Nat × Nat) := [(3, 0, 69), (3, 48, 999), (3, 49, 999), (3, 50, 999), (3, 51, 999), (3, 52, 999), (3, 53, 999), (3, 54, 999), (3, 55, 999), (3, 56, 999), (3, 57, 999), (3, 58, 999)]
theorem fo_F_X12_allHits_42 {σ0 : Mm} {rc24 : Int32 → Int32 → Int32 → Mm → Option (Int32 × Mm)} (hrc24 : ∀ a0 a1 a2 τ, Fr W_X12_allHits σ0 τ → FoI W_X12_allHits σ0 (rc24 a0 a1 a2 τ)) {x1 : Int32} {x5 : Int32} {s0 : Int32} {s1 : Int32} {σ : Mm} (hF : Fr W_X12_allHits σ0 σ) : FoI W_X12_allHits σ0 (F_X12_allHits_42 rc24 x1 x5 s0 s1 σ) := by
  unfold F_X12_allHits_42
  exact (hrc24 _ _ _ _ hF)
theorem fo_B_X12_allHits_24 {σ0 : Mm} {rc24 : Int32 → Int32 → Int32 → Mm → Option (Int32 × Mm)} (hrc24 : ∀ a0 a1 a2 τ, Fr W_X12_allHits σ0 τ → FoI W_X12_allHits σ0 (rc24 a0 a1 a2 τ)) {x1 : Int32} {x4 : Int32} {x5 : Int32} {σ : Mm} (hF : Fr W_X12_allHits σ0 σ) : FoI W_X12_allHits σ0 (B_X12_allHits_24 rc24 x1 x4 x5 σ) := by
  unfold B_X12_allHits_24
  exact (fI_ite (fI_some hF) (fI_I (Wc := W_X12_hitsOf) hF rfl (fo_F_X12_hitsOf Fr_r) (fun _ _ h1 => (fo_F_X12_allHits_42 hrc24 h1))))
theorem fo_F_X12_allHits_24 {σ0 : Mm} (n : Nat) : ∀ {y0 : Int32} {y1 : Int32} {y2 : Int32} {σ : Mm}, Fr W_X12_allHits σ0 σ → FoI W_X12_allHits σ0 (F_X12_allHits_24  n y0 y1 y2 σ) := by
  induction n with
  | zero => intro y0 y1 y2 σ _; exact fI_none
  | succ n ih => intro y0 y1 y2 σ hF; exact fo_B_X12_allHits_24  (fun _ _ _ _ h => ih h) hF
theorem fo_F_X12_allHits_18 {σ0 : Mm} {x1 : Int32} {σ : Mm} (hF : Fr W_X12_allHits σ0 σ) : FoI W_X12_allHits σ0 (F_X12_allHits_18 x1 σ) := by
  unfold F_X12_allHits_18
  exact (fo_F_X12_allHits_24  FU hF)
theorem fo_F_X12_allHits_7 {σ0 : Mm} {x1 : Int32} {x2 : Int32} {x3 : Int32} {s0 : Int32} {σ : Mm} (hF : Fr W_X12_allHits σ0 σ) : FoI W_X12_allHits σ0 (F_X12_allHits_7 x1 x2 x3 s0 σ) := by
  unfold F_X12_allHits_7
  exact (fI_ite (fI_some hF) (fV_I (Wc := W_X12_layAll) hF rfl (fo_F_X12_layAll Fr_r) (fun _ h1 => (fo_F_X12_allHits_18  h1))))
theorem fo_F_X12_allHits {σ0 : Mm} {x1 : Int32} {x2 : Int32} {x3 : Int32} {σ : Mm} (hF : Fr W_X12_allHits σ0 σ) : FoI W_X12_allHits σ0 (F_X12_allHits x1 x2 x3 σ) := by
  unfold F_X12_allHits
  exact (fI_I (Wc := W_X12_isSet) hF rfl (fo_F_X12_isSet Fr_r) (fun _ _ h1 => (fo_F_X12_allHits_7  h1)))
theorem fr_X12_allHits {x1 : Int32} {x2 : Int32} {x3 : Int32} {σ : Mm} : FoI W_X12_allHits σ (F_X12_allHits x1 x2 x3 σ) := fo_F_X12_allHits Fr_r
def W_X12_alone : List (Nat × Nat × Nat) := [(3, 0, 69), (3, 48, 999), (3, 49, 999), (3, 50, 999), (3, 51, 999), (3, 52, 999), (3, 53, 999), (3, 54, 999), (3, 55, 999), (3, 56, 999), (3, 57, 999), (3, 58, 999), (3, 59, 999), (3, 60, 999)]
theorem fo_F_X12_alone_286 {σ0 : Mm} {rc155 : Int32 → Int32 → Mm → Option (Int32 × Mm)} (hrc155 : ∀ a0 a1 τ, Fr W_X12_alone σ0 τ → FoI W_X12_alone σ0 (rc155 a0 a1 τ)) {x4 : Int32} {x5 : Int32} {σ : Mm} (hF : Fr W_X12_alone σ0 σ) : FoI W_X12_alone σ0 (F_X12_alone_286 rc155 x4 x5 σ) := by
  unfold F_X12_alone_286
  exact (hrc155 _ _ _ hF)
theorem fo_F_X12_alone_271 {σ0 : Mm} {rc155 : Int32 → Int32 → Mm → Option (Int32 × Mm)} (hrc155 : ∀ a0 a1 τ, Fr W_X12_alone σ0 τ → FoI W_X12_alone σ0 (rc155 a0 a1 τ)) {rc207 : Int32 → Int32 → Int32 → Int32 → Int32 → Int32 → Mm → Option (Int32 × Mm)} (hrc207 : ∀ a0 a1 a2 a3 a4 a5 τ, Fr W_X12_alone σ0 τ → FoI W_X12_alone σ0 (rc207 a0 a1 a2 a3 a4 a5 τ)) {x4 : Int32} {x5 : Int32} {x6 : Int32} {x7 : Int32} {x8 : Int32} {x9 : Int32} {σ : Mm} (hF : Fr W_X12_alone σ0 σ) : FoI W_X12_alone σ0 (F_X12_alone_271 rc155 rc207 x4 x5 x6 x7 x8 x9 σ) := by
  unfold F_X12_alone_271
  exact (hrc207 _ _ _ _ _ _ _ hF)
theorem fo_F_X12_alone_260 {σ0 : Mm} {rc155 : Int32 → Int32 → Mm → Option (Int32 × Mm)} (hrc155 : ∀ a0 a1 τ, Fr W_X12_alone σ0 τ → FoI W_X12_alone σ0 (rc155 a0 a1 τ)) {rc207 : Int32 → Int32 → Int32 → Int32 → Int32 → Int32 → Mm → Option (Int32 × Mm)} (hrc207 : ∀ a0 a1 a2 a3 a4 a5 τ, Fr W_X12_alone σ0 τ → FoI W_X12_alone σ0 (rc207 a0 a1 a2 a3 a4 a5 τ)) {x4 : Int32} {x5 : Int32} {x6 : Int32} {x7 : Int32} {x8 : Int32} {x9 : Int32} {x10 : Int32} {σ : Mm} (hF : Fr W_X12_alone σ0 σ) : FoI W_X12_alone σ0 (F_X12_alone_260 rc155 rc207 x4 x5 x6 x7 x8 x9 x10 σ) := by
  unfold F_X12_alone_260
  exact (fI_ite (fo_F_X12_alone_271 hrc155 hrc207 hF) (fo_F_X12_alone_271 hrc155 hrc207 hF))
theorem fo_B_X12_alone_207 {σ0 : Mm} {rc155 : Int32 → Int32 → Mm → Option (Int32 × Mm)} (hrc155 : ∀ a0 a1 τ, Fr W_X12_alone σ0 τ → FoI W_X12_alone σ0 (rc155 a0 a1 τ)) {rc207 : Int32 → Int32 → Int32 → Int32 → Int32 → Int32 → Mm → Option (Int32 × Mm)} (hrc207 : ∀ a0 a1 a2 a3 a4 a5 τ, Fr W_X12_alone σ0 τ → FoI W_X12_alone σ0 (rc207 a0 a1 a2 a3 a4 a5 τ)) {x4 : Int32} {x5 : Int32} {x6 : Int32} {x7 : Int32} {x8 : Int32} {x9 : Int32} {σ : Mm} (hF : Fr W_X12_alone σ0 σ) : FoI W_X12_alone σ0 (B_X12_alone_207 rc155 rc207 x4 x5 x6 x7 x8 x9 σ) := by
  unfold B_X12_alone_207
  exact (fI_ite (fI_ite (fo_F_X12_alone_286 hrc155 (Fr.AA hF rfl)) fI_none) (fI_ite (fo_F_X12_alone_271 hrc155 hrc207 hF) (fI_ite (fI_ite (fo_F_X12_alone_271 hrc155 hrc207 hF) (fI_ite (fo_F_X12_alone_260 hrc155 hrc207 hF) fI_none)) fI_none)))
theorem fo_F_X12_alone_207 {σ0 : Mm} {rc155 : Int32 → Int32 → Mm → Option (Int32 × Mm)} (hrc155 : ∀ a0 a1 τ, Fr W_X12_alone σ0 τ → FoI W_X12_alone σ0 (rc155 a0 a1 τ)) (n : Nat) : ∀ {y0 : Int32} {y1 : Int32} {y2 : Int32} {y3 : Int32} {y4 : Int32} {y5 : Int32} {σ : Mm}, Fr W_X12_alone σ0 σ → FoI W_X12_alone σ0 (F_X12_alone_207 rc155 n y0 y1 y2 y3 y4 y5 σ) := by
  induction n with
  | zero => intro y0 y1 y2 y3 y4 y5 σ _; exact fI_none
  | succ n ih => intro y0 y1 y2 y3 y4 y5 σ hF; exact fo_B_X12_alone_207 hrc155 (fun _ _ _ _ _ _ _ h => ih h) hF
theorem fo_F_X12_alone_192 {σ0 : Mm} {rc155 : Int32 → Int32 → Mm → Option (Int32 × Mm)} (hrc155 : ∀ a0 a1 τ, Fr W_X12_alone σ0 τ → FoI W_X12_alone σ0 (rc155 a0 a1 τ)) {x4 : Int32} {x5 : Int32} {x6 : Int32} {x7 : Int32} {σ : Mm} (hF : Fr W_X12_alone σ0 σ) : FoI W_X12_alone σ0 (F_X12_alone_192 rc155 x4 x5 x6 x7 σ) := by
  unfold F_X12_alone_192
  exact (fI_ite (fo_F_X12_alone_207 hrc155 FU hF) fI_none)
theorem fo_B_X12_alone_165 {σ0 : Mm} {rc155 : Int32 → Int32 → Mm → Option (Int32 × Mm)} (hrc155 : ∀ a0 a1 τ, Fr W_X12_alone σ0 τ → FoI W_X12_alone σ0 (rc155 a0 a1 τ)) {rc165 : Int32 → Int32 → Int32 → Mm → Option (Int32 × Mm)} (hrc165 : ∀ a0 a1 a2 τ, Fr W_X12_alone σ0 τ → FoI W_X12_alone σ0 (rc165 a0 a1 a2 τ)) {x4 : Int32} {x5 : Int32} {x6 : Int32} {σ : Mm} (hF : Fr W_X12_alone σ0 σ) : FoI W_X12_alone σ0 (B_X12_alone_165 rc155 rc165 x4 x5 x6 σ) := by
  unfold B_X12_alone_165
  exact (fI_ite (hrc165 _ _ _ _ hF) (fo_F_X12_alone_192 hrc155 hF))
theorem fo_F_X12_alone_165 {σ0 : Mm} {rc155 : Int32 → Int32 → Mm → Option (Int32 × Mm)} (hrc155 : ∀ a0 a1 τ, Fr W_X12_alone σ0 τ → FoI W_X12_alone σ0 (rc155 a0 a1 τ)) (n : Nat) : ∀ {y0 : Int32} {y1 : Int32} {y2 : Int32} {σ : Mm}, Fr W_X12_alone σ0 σ → FoI W_X12_alone σ0 (F_X12_alone_165 rc155 n y0 y1 y2 σ) := by
  induction n with
  | zero => intro y0 y1 y2 σ _; exact fI_none
  | succ n ih => intro y0 y1 y2 σ hF; exact fo_B_X12_alone_165 hrc155 (fun _ _ _ _ h => ih h) hF
theorem fo_B_X12_alone_155 {σ0 : Mm} {rc155 : Int32 → Int32 → Mm → Option (Int32 × Mm)} (hrc155 : ∀ a0 a1 τ, Fr W_X12_alone σ0 τ → FoI W_X12_alone σ0 (rc155 a0 a1 τ)) {x4 : Int32} {x5 : Int32} {σ : Mm} (hF : Fr W_X12_alone σ0 σ) : FoI W_X12_alone σ0 (B_X12_alone_155 rc155 x4 x5 σ) := by
  unfold B_X12_alone_155
  exact (fI_ite (fI_ite (fI_some hF) fI_none) (fo_F_X12_alone_165 hrc155 FU hF))
theorem fo_F_X12_alone_155 {σ0 : Mm} (n : Nat) : ∀ {y0 : Int32} {y1 : Int32} {σ : Mm}, Fr W_X12_alone σ0 σ → FoI W_X12_alone σ0 (F_X12_alone_155  n y0 y1 σ) := by
  induction n with
  | zero => intro y0 y1 σ _; exact fI_none
  | succ n ih => intro y0 y1 σ hF; exact fo_B_X12_alone_155  (fun _ _ _ h => ih h) hF
theorem fo_F_X12_alone_152 {σ0 : Mm} {x4 : Int32} {σ : Mm} (hF : Fr W_X12_alone σ0 σ) : FoI W_X12_alone σ0 (F_X12_alone_152 x4 σ) := by
  unfold F_X12_alone_152
  exact (fo_F_X12_alone_155  FU hF)
theorem fo_F_X12_alone_145 {σ0 : Mm} {x4 : Int32} {σ : Mm} (hF : Fr W_X12_alone σ0 σ) : FoI W_X12_alone σ0 (F_X12_alone_145 x4 σ) := by
  unfold F_X12_alone_145
  exact (fI_ite (fo_F_X12_alone_152  (Fr.AA hF rfl)) fI_none)
theorem fo_F_X12_alone_129 {σ0 : Mm} {rc45 : Int32 → Int32 → Mm → Option (Int32 × Mm)} (hrc45 : ∀ a0 a1 τ, Fr W_X12_alone σ0 τ → FoI W_X12_alone σ0 (rc45 a0 a1 τ)) {x1 : Int32} {x4 : Int32} {σ : Mm} (hF : Fr W_X12_alone σ0 σ) : FoI W_X12_alone σ0 (F_X12_alone_129 rc45 x1 x4 σ) := by
  unfold F_X12_alone_129
  exact (hrc45 _ _ _ hF)
theorem fo_F_X12_alone_109 {σ0 : Mm} {rc45 : Int32 → Int32 → Mm → Option (Int32 × Mm)} (hrc45 : ∀ a0 a1 τ, Fr W_X12_alone σ0 τ → FoI W_X12_alone σ0 (rc45 a0 a1 τ)) {x1 : Int32} {x4 : Int32} {σ : Mm} (hF : Fr W_X12_alone σ0 σ) : FoI W_X12_alone σ0 (F_X12_alone_109 rc45 x1 x4 σ) := by
  unfold F_X12_alone_109
  exact (fI_ite (fI_ite (fo_F_X12_alone_129 hrc45 (Fr.AA hF rfl)) fI_none) fI_none)
theorem fo_F_X12_alone_81 {σ0 : Mm} {rc45 : Int32 → Int32 → Mm → Option (Int32 × Mm)} (hrc45 : ∀ a0 a1 τ, Fr W_X12_alone σ0 τ → FoI W_X12_alone σ0 (rc45 a0 a1 τ)) {x1 : Int32} {x4 : Int32} {s0 : Int32} {σ : Mm} (hF : Fr W_X12_alone σ0 σ) : FoI W_X12_alone σ0 (F_X12_alone_81 rc45 x1 x4 s0 σ) := by
  unfold F_X12_alone_81
  exact (fI_ite (fo_F_X12_alone_129 hrc45 hF) (fI_ite (fI_ite (fo_F_X12_alone_109 hrc45 (Fr.AA hF rfl)) fI_none) fI_none))
theorem fo_B_X12_alone_45 {σ0 : Mm} {rc45 : Int32 → Int32 → Mm → Option (Int32 × Mm)} (hrc45 : ∀ a0 a1 τ, Fr W_X12_alone σ0 τ → FoI W_X12_alone σ0 (rc45 a0 a1 τ)) {x1 : Int32} {x4 : Int32} {σ : Mm} (hF : Fr W_X12_alone σ0 σ) : FoI W_X12_alone σ0 (B_X12_alone_45 rc45 x1 x4 σ) := by
  unfold B_X12_alone_45
  exact (fI_ite (fI_ite (fo_F_X12_alone_145  hF) fI_none) (fI_ite (fI_ite (fo_F_X12_alone_129 hrc45 hF) (fI_ite (fI_ite (fI_I (Wc := W_X12_hitBy) hF rfl (fo_F_X12_hitBy Fr_r) (fun _ _ h1 => (fo_F_X12_alone_81 hrc45 h1))) fI_none) fI_none)) fI_none))
theorem fo_F_X12_alone_45 {σ0 : Mm} (n : Nat) : ∀ {y0 : Int32} {y1 : Int32} {σ : Mm}, Fr W_X12_alone σ0 σ → FoI W_X12_alone σ0 (F_X12_alone_45  n y0 y1 σ) := by
  induction n with
  | zero => intro y0 y1 σ _; exact fI_none
  | succ n ih => intro y0 y1 σ hF; exact fo_B_X12_alone_45  (fun _ _ _ h => ih h) hF
theorem fo_F_X12_alone_36 {σ0 : Mm} {rc21 : Int32 → Int32 → Mm → Option (Int32 × Mm)} (hrc21 : ∀ a0 a1 τ, Fr W_X12_alone σ0 τ → FoI W_X12_alone σ0 (rc21 a0 a1 τ)) {x1 : Int32} {x4 : Int32} {σ : Mm} (hF : Fr W_X12_alone σ0 σ) : FoI W_X12_alone σ0 (F_X12_alone_36 rc21 x1 x4 σ) := by
  unfold F_X12_alone_36
  exact (hrc21 _ _ _ hF)
theorem fo_B_X12_alone_21 {σ0 : Mm} {rc21 : Int32 → Int32 → Mm → Option (Int32 × Mm)} (hrc21 : ∀ a0 a1 τ, Fr W_X12_alone σ0 τ → FoI W_X12_alone σ0 (rc21 a0 a1 τ)) {x1 : Int32} {x4 : Int32} {σ : Mm} (hF : Fr W_X12_alone σ0 σ) : FoI W_X12_alone σ0 (B_X12_alone_21 rc21 x1 x4 σ) := by
  unfold B_X12_alone_21
  exact (fI_ite (fo_F_X12_alone_45  FU hF) (fI_ite (fo_F_X12_alone_36 hrc21 (Fr.AA hF rfl)) fI_none))
theorem fo_F_X12_alone_21 {σ0 : Mm} (n : Nat) : ∀ {y0 : Int32} {y1 : Int32} {σ : Mm}, Fr W_X12_alone σ0 σ → FoI W_X12_alone σ0 (F_X12_alone_21  n y0 y1 σ) := by
  induction n with
  | zero => intro y0 y1 σ _; exact fI_none
  | succ n ih => intro y0 y1 σ hF; exact fo_B_X12_alone_21  (fun _ _ _ h => ih h) hF
theorem fo_F_X12_alone_18 {σ0 : Mm} {x1 : Int32} {σ : Mm} (hF : Fr W_X12_alone σ0 σ) : FoI W_X12_alone σ0 (F_X12_alone_18 x1 σ) := by
  unfold F_X12_alone_18
  exact (fo_F_X12_alone_21  FU hF)
theorem fo_F_X12_alone_7 {σ0 : Mm} {x1 : Int32} {x2 : Int32} {x3 : Int32} {s0 : Int32} {σ : Mm} (hF : Fr W_X12_alone σ0 σ) : FoI W_X12_alone σ0 (F_X12_alone_7 x1 x2 x3 s0 σ) := by
  unfold F_X12_alone_7
  exact (fI_ite (fI_some hF) (fV_I (Wc := W_X12_layAll) hF rfl (fo_F_X12_layAll Fr_r) (fun _ h1 => (fo_F_X12_alone_18  h1))))
theorem fo_F_X12_alone {σ0 : Mm} {x1 : Int32} {x2 : Int32} {x3 : Int32} {σ : Mm} (hF : Fr W_X12_alone σ0 σ) : FoI W_X12_alone σ0 (F_X12_alone x1 x2 x3 σ) := by
  unfold F_X12_alone
  exact (fI_I (Wc := W_X12_isSet) hF rfl (fo_F_X12_isSet Fr_r) (fun _ _ h1 => (fo_F_X12_alone_7  h1)))
theorem fr_X12_alone {x1 : Int32} {x2 : Int32} {x3 : Int32} {σ : Mm} : FoI W_X12_alone σ (F_X12_alone x1 x2 x3 σ) := fo_F_X12_alone Fr_r
def W_X12_fact : List (Nat × Nat × Nat) := [(3, 38, 999), (3, 39, 999), (3, 40, 999), (3, 41, 999), (3, 42, 999)]
theorem fo_F_X12_fact_64 {σ0 : Mm} {x5 : Int32} {σ : Mm} (hF : Fr W_X12_fact σ0 σ) : FoI W_X12_fact σ0 (F_X12_fact_64 x5 σ) := by
  unfold F_X12_fact_64
  exact (fI_some hF)
theorem fo_F_X12_fact_54 {σ0 : Mm} {x5 : Int32} {σ : Mm} (hF : Fr W_X12_fact σ0 σ) : FoI W_X12_fact σ0 (F_X12_fact_54 x5 σ) := by
  unfold F_X12_fact_54
  exact (fI_ite (fI_ite (fo_F_X12_fact_64  (Fr.AA hF rfl)) fI_none) fI_none)
theorem fo_F_X12_fact_45 {σ0 : Mm} {x4 : Int32} {x5 : Int32} {σ : Mm} (hF : Fr W_X12_fact σ0 σ) : FoI W_X12_fact σ0 (F_X12_fact_45 x4 x5 σ) := by
  unfold F_X12_fact_45
  exact (fI_ite (fo_F_X12_fact_54  (Fr.AA hF rfl)) fI_none)
theorem fo_F_X12_fact_37 {σ0 : Mm} {x3 : Int32} {x4 : Int32} {x5 : Int32} {σ : Mm} (hF : Fr W_X12_fact σ0 σ) : FoI W_X12_fact σ0 (F_X12_fact_37 x3 x4 x5 σ) := by
  unfold F_X12_fact_37
  exact (fI_ite (fo_F_X12_fact_45  (Fr.AA hF rfl)) fI_none)
theorem fo_F_X12_fact_29 {σ0 : Mm} {x2 : Int32} {x3 : Int32} {x4 : Int32} {x5 : Int32} {σ : Mm} (hF : Fr W_X12_fact σ0 σ) : FoI W_X12_fact σ0 (F_X12_fact_29 x2 x3 x4 x5 σ) := by
  unfold F_X12_fact_29
  exact (fI_ite (fo_F_X12_fact_37  (Fr.AA hF rfl)) fI_none)
theorem fo_F_X12_fact_21 {σ0 : Mm} {x1 : Int32} {x2 : Int32} {x3 : Int32} {x4 : Int32} {x5 : Int32} {σ : Mm} (hF : Fr W_X12_fact σ0 σ) : FoI W_X12_fact σ0 (F_X12_fact_21 x1 x2 x3 x4 x5 σ) := by
  unfold F_X12_fact_21
  exact (fI_ite (fo_F_X12_fact_29  (Fr.AA hF rfl)) fI_none)
theorem fo_F_X12_fact {σ0 : Mm} {x1 : Int32} {x2 : Int32} {x3 : Int32} {x4 : Int32} {σ : Mm} (hF : Fr W_X12_fact σ0 σ) : FoI W_X12_fact σ0 (F_X12_fact x1 x2 x3 x4 σ) := by
  unfold F_X12_fact
  exact (fI_ite (fI_ite (fI_some hF) (fI_ite (fo_F_X12_fact_21  hF) fI_none)) fI_none)
theorem fr_X12_fact {x1 : Int32} {x2 : Int32} {x3 : Int32} {x4 : Int32} {σ : Mm} : FoI W_X12_fact σ (F_X12_fact x1 x2 x3 x4 σ) := fo_F_X12_fact Fr_r
def W_X12_annul : List (Nat × Nat × Nat) := [(3, 38, 999), (3, 39, 999), (3, 40, 999), (3, 41, 999), (3, 42, 999)]
theorem fo_F_X12_annul_34 {σ0 : Mm} {s0 : Int32} {σ : Mm} (hF : Fr W_X12_annul σ0 σ) : FoI W_X12_annul σ0 (F_X12_annul_34 s0 σ) := by
  unfold F_X12_annul_34
  exact (fI_some hF)
theorem fo_F_X12_annul {σ0 : Mm} {x1 : Int32} {σ : Mm} (hF : Fr W_X12_annul σ0 σ) : FoI W_X12_annul σ0 (F_X12_annul x1 σ) := by
  unfold F_X12_annul
  exact (fI_ite (fI_ite (fI_some hF) (fI_ite (fI_ite (fI_some hF) (fI_I (Wc := W_X12_fact) hF rfl (fo_F_X12_fact Fr_r) (fun _ _ h1 => (fo_F_X12_annul_34  h1)))) fI_none)) fI_none)
theorem fr_X12_annul {x1 : Int32} {σ : Mm} : FoI W_X12_annul σ (F_X12_annul x1 σ) := fo_F_X12_annul Fr_r
def W_X12_anything : List (Nat × Nat × Nat) := []
theorem fo_F_X12_anything_137 {σ0 : Mm} {rc61 : Int32 → Int32 → Int32 → Int32 → Int32 → Int32 → Int32 → Mm → Option (Int32 × Mm)} (hrc61 : ∀ a0 a1 a2 a3 a4 a5 a6 τ, Fr W_X12_anything σ0 τ → FoI W_X12_anything σ0 (rc61 a0 a1 a2 a3 a4 a5 a6 τ)) {x1 : Int32} {x2 : Int32} {x3 : Int32} {x4 : Int32} {x5 : Int32} {x7 : Int32} {s0 : Int32} {s1 : Int32} {σ : Mm} (hF : Fr W_X12_anything σ0 σ) : FoI W_X12_anything σ0 (F_X12_anything_137 rc61 x1 x2 x3 x4 x5 x7 s0 s1 σ) := by
  unfold F_X12_anything_137
  exact (hrc61 _ _ _ _ _ _ _ _ hF)
theorem fo_F_X12_anything_125 {σ0 : Mm} {rc61 : Int32 → Int32 → Int32 → Int32 → Int32 → Int32 → Int32 → Mm → Option (Int32 × Mm)} (hrc61 : ∀ a0 a1 a2 a3 a4 a5 a6 τ, Fr W_X12_anything σ0 τ → FoI W_X12_anything σ0 (rc61 a0 a1 a2 a3 a4 a5 a6 τ)) {x1 : Int32} {x2 : Int32} {x3 : Int32} {x4 : Int32} {x5 : Int32} {x6 : Int32} {x7 : Int32} {x8 : Int32} {σ : Mm} (hF : Fr W_X12_anything σ0 σ) : FoI W_X12_anything σ0 (F_X12_anything_125 rc61 x1 x2 x3 x4 x5 x6 x7 x8 σ) := by
  unfold F_X12_anything_125
  exact (fI_ite (fo_F_X12_anything_137 hrc61 hF) (fo_F_X12_anything_137 hrc61 hF))
theorem fo_F_X12_anything_119 {σ0 : Mm} {rc61 : Int32 → Int32 → Int32 → Int32 → Int32 → Int32 → Int32 → Mm → Option (Int32 × Mm)} (hrc61 : ∀ a0 a1 a2 a3 a4 a5 a6 τ, Fr W_X12_anything σ0 τ → FoI W_X12_anything σ0 (rc61 a0 a1 a2 a3 a4 a5 a6 τ)) {rc74 : Int32 → Int32 → Int32 → Int32 → Int32 → Int32 → Int32 → Int32 → Int32 → Mm → Option (Int32 × Mm)} (hrc74 : ∀ a0 a1 a2 a3 a4 a5 a6 a7 a8 τ, Fr W_X12_anything σ0 τ → FoI W_X12_anything σ0 (rc74 a0 a1 a2 a3 a4 a5 a6 a7 a8 τ)) {x1 : Int32} {x2 : Int32} {x3 : Int32} {x4 : Int32} {x5 : Int32} {x6 : Int32} {x7 : Int32} {x8 : Int32} {x9 : Int32} {σ : Mm} (hF : Fr W_X12_anything σ0 σ) : FoI W_X12_anything σ0 (F_X12_anything_119 rc61 rc74 x1 x2 x3 x4 x5 x6 x7 x8 x9 σ) := by
  unfold F_X12_anything_119
  exact (hrc74 _ _ _ _ _ _ _ _ _ _ hF)
theorem fo_F_X12_anything_113 {σ0 : Mm} {rc61 : Int32 → Int32 → Int32 → Int32 → Int32 → Int32 → Int32 → Mm → Option (Int32 × Mm)} (hrc61 : ∀ a0 a1 a2 a3 a4 a5 a6 τ, Fr W_X12_anything σ0 τ → FoI W_X12_anything σ0 (rc61 a0 a1 a2 a3 a4 a5 a6 τ)) {rc74 : Int32 → Int32 → Int32 → Int32 → Int32 → Int32 → Int32 → Int32 → Int32 → Mm → Option (Int32 × Mm)} (hrc74 : ∀ a0 a1 a2 a3 a4 a5 a6 a7 a8 τ, Fr W_X12_anything σ0 τ → FoI W_X12_anything σ0 (rc74 a0 a1 a2 a3 a4 a5 a6 a7 a8 τ)) {rc88 : Int32 → Int32 → Int32 → Int32 → Int32 → Int32 → Int32 → Int32 → Int32 → Int32 → Mm → Option (Int32 × Mm)} (hrc88 : ∀ a0 a1 a2 a3 a4 a5 a6 a7 a8 a9 τ, Fr W_X12_anything σ0 τ → FoI W_X12_anything σ0 (rc88 a0 a1 a2 a3 a4 a5 a6 a7 a8 a9 τ)) {x1 : Int32} {x2 : Int32} {x3 : Int32} {x4 : Int32} {x5 : Int32} {x6 : Int32} {x7 : Int32} {x8 : Int32} {x9 : Int32} {x10 : Int32} {σ : Mm} (hF : Fr W_X12_anything σ0 σ) : FoI W_X12_anything σ0 (F_X12_anything_113 rc61 rc74 rc88 x1 x2 x3 x4 x5 x6 x7 x8 x9 x10 σ) := by
  unfold F_X12_anything_113
  exact (hrc88 _ _ _ _ _ _ _ _ _ _ _ hF)
theorem fo_B_X12_anything_88 {σ0 : Mm} {rc61 : Int32 → Int32 → Int32 → Int32 → Int32 → Int32 → Int32 → Mm → Option (Int32 × Mm)} (hrc61 : ∀ a0 a1 a2 a3 a4 a5 a6 τ, Fr W_X12_anything σ0 τ → FoI W_X12_anything σ0 (rc61 a0 a1 a2 a3 a4 a5 a6 τ)) {rc74 : Int32 → Int32 → Int32 → Int32 → Int32 → Int32 → Int32 → Int32 → Int32 → Mm → Option (Int32 × Mm)} (hrc74 : ∀ a0 a1 a2 a3 a4 a5 a6 a7 a8 τ, Fr W_X12_anything σ0 τ → FoI W_X12_anything σ0 (rc74 a0 a1 a2 a3 a4 a5 a6 a7 a8 τ)) {rc88 : Int32 → Int32 → Int32 → Int32 → Int32 → Int32 → Int32 → Int32 → Int32 → Int32 → Mm → Option (Int32 × Mm)} (hrc88 : ∀ a0 a1 a2 a3 a4 a5 a6 a7 a8 a9 τ, Fr W_X12_anything σ0 τ → FoI W_X12_anything σ0 (rc88 a0 a1 a2 a3 a4 a5 a6 a7 a8 a9 τ)) {x1 : Int32} {x2 : Int32} {x3 : Int32} {x4 : Int32} {x5 : Int32} {x6 : Int32} {x7 : Int32} {x8 : Int32} {x9 : Int32} {x10 : Int32} {σ : Mm} (hF : Fr W_X12_anything σ0 σ) : FoI W_X12_anything σ0 (B_X12_anything_88 rc61 rc74 rc88 x1 x2 x3 x4 x5 x6 x7 x8 x9 x10 σ) := by
  unfold B_X12_anything_88
  exact (fI_ite (fo_F_X12_anything_119 hrc61 hrc74 hF) (fI_ite (fo_F_X12_anything_113 hrc61 hrc74 hrc88 hF) (fo_F_X12_anything_119 hrc61 hrc74 hF)))
theorem fo_F_X12_anything_88 {σ0 : Mm} {rc61 : Int32 → Int32 → Int32 → Int32 → Int32 → Int32 → Int32 → Mm → Option (Int32 × Mm)} (hrc61 : ∀ a0 a1 a2 a3 a4 a5 a6 τ, Fr W_X12_anything σ0 τ → FoI W_X12_anything σ0 (rc61 a0 a1 a2 a3 a4 a5 a6 τ)) {rc74 : Int32 → Int32 → Int32 → Int32 → Int32 → Int32 → Int32 → Int32 → Int32 → Mm → Option (Int32 × Mm)} (hrc74 : ∀ a0 a1 a2 a3 a4 a5 a6 a7 a8 τ, Fr W_X12_anything σ0 τ → FoI W_X12_anything σ0 (rc74 a0 a1 a2 a3 a4 a5 a6 a7 a8 τ)) (n : Nat) : ∀ {y0 : Int32} {y1 : Int32} {y2 : Int32} {y3 : Int32} {y4 : Int32} {y5 : Int32} {y6 : Int32} {y7 : Int32} {y8 : Int32} {y9 : Int32} {σ : Mm}, Fr W_X12_anything σ0 σ → FoI W_X12_anything σ0 (F_X12_anything_88 rc61 rc74 n y0 y1 y2 y3 y4 y5 y6 y7 y8 y9 σ) := by
  induction n with
  | zero => intro y0 y1 y2 y3 y4 y5 y6 y7 y8 y9 σ _; exact fI_none
  | succ n ih => intro y0 y1 y2 y3 y4 y5 y6 y7 y8 y9 σ hF; exact fo_B_X12_anything_88 hrc61 hrc74 (fun _ _ _ _ _ _ _ _ _ _ _ h => ih h) hF
theorem fo_B_X12_anything_74 {σ0 : Mm} {rc61 : Int32 → Int32 → Int32 → Int32 → Int32 → Int32 → Int32 → Mm → Option (Int32 × Mm)} (hrc61 : ∀ a0 a1 a2 a3 a4 a5 a6 τ, Fr W_X12_anything σ0 τ → FoI W_X12_anything σ0 (rc61 a0 a1 a2 a3 a4 a5 a6 τ)) {rc74 : Int32 → Int32 → Int32 → Int32 → Int32 → Int32 → Int32 → Int32 → Int32 → Mm → Option (Int32 × Mm)} (hrc74 : ∀ a0 a1 a2 a3 a4 a5 a6 a7 a8 τ, Fr W_X12_anything σ0 τ → FoI W_X12_anything σ0 (rc74 a0 a1 a2 a3 a4 a5 a6 a7 a8 τ)) {x1 : Int32} {x2 : Int32} {x3 : Int32} {x4 : Int32} {x5 : Int32} {x6 : Int32} {x7 : Int32} {x8 : Int32} {x9 : Int32} {σ : Mm} (hF : Fr W_X12_anything σ0 σ) : FoI W_X12_anything σ0 (B_X12_anything_74 rc61 rc74 x1 x2 x3 x4 x5 x6 x7 x8 x9 σ) := by
  unfold B_X12_anything_74
  exact (fI_ite (fo_F_X12_anything_125 hrc61 hF) (fI_ite (fo_F_X12_anything_88 hrc61 hrc74 FU hF) (fo_F_X12_anything_125 hrc61 hF)))
theorem fo_F_X12_anything_74 {σ0 : Mm} {rc61 : Int32 → Int32 → Int32 → Int32 → Int32 → Int32 → Int32 → Mm → Option (Int32 × Mm)} (hrc61 : ∀ a0 a1 a2 a3 a4 a5 a6 τ, Fr W_X12_anything σ0 τ → FoI W_X12_anything σ0 (rc61 a0 a1 a2 a3 a4 a5 a6 τ)) (n : Nat) : ∀ {y0 : Int32} {y1 : Int32} {y2 : Int32} {y3 : Int32} {y4 : Int32} {y5 : Int32} {y6 : Int32} {y7 : Int32} {y8 : Int32} {σ : Mm}, Fr W_X12_anything σ0 σ → FoI W_X12_anything σ0 (F_X12_anything_74 rc61 n y0 y1 y2 y3 y4 y5 y6 y7 y8 σ) := by
  induction n with
  | zero => intro y0 y1 y2 y3 y4 y5 y6 y7 y8 σ _; exact fI_none
  | succ n ih => intro y0 y1 y2 y3 y4 y5 y6 y7 y8 σ hF; exact fo_B_X12_anything_74 hrc61 (fun _ _ _ _ _ _ _ _ _ _ h => ih h) hF
theorem fo_B_X12_anything_61 {σ0 : Mm} {rc61 : Int32 → Int32 → Int32 → Int32 → Int32 → Int32 → Int32 → Mm → Option (Int32 × Mm)} (hrc61 : ∀ a0 a1 a2 a3 a4 a5 a6 τ, Fr W_X12_anything σ0 τ → FoI W_X12_anything σ0 (rc61 a0 a1 a2 a3 a4 a5 a6 τ)) {x1 : Int32} {x2 : Int32} {x3 : Int32} {x4 : Int32} {x5 : Int32} {x6 : Int32} {x7 : Int32} {σ : Mm} (hF : Fr W_X12_anything σ0 σ) : FoI W_X12_anything σ0 (B_X12_anything_61 rc61 x1 x2 x3 x4 x5 x6 x7 σ) := by
  unfold B_X12_anything_61
  exact (fI_ite (fI_some hF) (fo_F_X12_anything_74 hrc61 FU hF))
theorem fo_F_X12_anything_61 {σ0 : Mm} (n : Nat) : ∀ {y0 : Int32} {y1 : Int32} {y2 : Int32} {y3 : Int32} {y4 : Int32} {y5 : Int32} {y6 : Int32} {σ : Mm}, Fr W_X12_anything σ0 σ → FoI W_X12_anything σ0 (F_X12_anything_61  n y0 y1 y2 y3 y4 y5 y6 σ) := by
  induction n with
  | zero => intro y0 y1 y2 y3 y4 y5 y6 σ _; exact fI_none
  | succ n ih => intro y0 y1 y2 y3 y4 y5 y6 σ hF; exact fo_B_X12_anything_61  (fun _ _ _ _ _ _ _ _ h => ih h) hF
theorem fo_F_X12_anything {σ0 : Mm} {x1 : Int32} {x2 : Int32} {x3 : Int32} {x4 : Int32} {x5 : Int32} {σ : Mm} (hF : Fr W_X12_anything σ0 σ) : FoI W_X12_anything σ0 (F_X12_anything x1 x2 x3 x4 x5 σ) := by
  unfold F_X12_anything
  exact (fI_ite (fI_some hF) (fI_ite (fI_some hF) (fI_ite (fI_some hF) (fI_ite (fI_some hF) (fI_ite (fI_some hF) (fo_F_X12_anything_61  FU hF))))))
theorem fr_X12_anything {x1 : Int32} {x2 : Int32} {x3 : Int32} {x4 : Int32} {x5 : Int32} {σ : Mm} : FoI W_X12_anything σ (F_X12_anything x1 x2 x3 x4 x5 σ) := fo_F_X12_anything Fr_r
def W_X12_asMany : List (Nat × Nat × Nat) := []
theorem fo_F_X12_asMany_39 {σ0 : Mm} {rc13 : Int32 → Int32 → Int32 → Int32 → Mm → Option (Int32 × Mm)} (hrc13 : ∀ a0 a1 a2 a3 τ, Fr W_X12_asMany σ0 τ → FoI W_X12_asMany σ0 (rc13 a0 a1 a2 a3 τ)) {x1 : Int32} {x2 : Int32} {x4 : Int32} {s0 : Int32} {s1 : Int32} {σ : Mm} (hF : Fr W_X12_asMany σ0 σ) : FoI W_X12_asMany σ0 (F_X12_asMany_39 rc13 x1 x2 x4 s0 s1 σ) := by
  unfold F_X12_asMany_39
  exact (hrc13 _ _ _ _ _ hF)
theorem fo_F_X12_asMany_30 {σ0 : Mm} {rc13 : Int32 → Int32 → Int32 → Int32 → Mm → Option (Int32 × Mm)} (hrc13 : ∀ a0 a1 a2 a3 τ, Fr W_X12_asMany σ0 τ → FoI W_X12_asMany σ0 (rc13 a0 a1 a2 a3 τ)) {x1 : Int32} {x2 : Int32} {x4 : Int32} {s0 : Int32} {s1 : Int32} {σ : Mm} (hF : Fr W_X12_asMany σ0 σ) : FoI W_X12_asMany σ0 (F_X12_asMany_30 rc13 x1 x2 x4 s0 s1 σ) := by
  unfold F_X12_asMany_30
  exact (fI_ite (fo_F_X12_asMany_39 hrc13 hF) (fo_F_X12_asMany_39 hrc13 hF))
theorem fo_B_X12_asMany_13 {σ0 : Mm} {rc13 : Int32 → Int32 → Int32 → Int32 → Mm → Option (Int32 × Mm)} (hrc13 : ∀ a0 a1 a2 a3 τ, Fr W_X12_asMany σ0 τ → FoI W_X12_asMany σ0 (rc13 a0 a1 a2 a3 τ)) {x1 : Int32} {x2 : Int32} {x3 : Int32} {x4 : Int32} {σ : Mm} (hF : Fr W_X12_asMany σ0 σ) : FoI W_X12_asMany σ0 (B_X12_asMany_13 rc13 x1 x2 x3 x4 σ) := by
  unfold B_X12_asMany_13
  exact (fI_ite (fI_some hF) (fI_I (Wc := W_X12_hitsOf) hF rfl (fo_F_X12_hitsOf Fr_r) (fun _ _ h1 => (fo_F_X12_asMany_30 hrc13 h1))))
theorem fo_F_X12_asMany_13 {σ0 : Mm} (n : Nat) : ∀ {y0 : Int32} {y1 : Int32} {y2 : Int32} {y3 : Int32} {σ : Mm}, Fr W_X12_asMany σ0 σ → FoI W_X12_asMany σ0 (F_X12_asMany_13  n y0 y1 y2 y3 σ) := by
  induction n with
  | zero => intro y0 y1 y2 y3 σ _; exact fI_none
  | succ n ih => intro y0 y1 y2 y3 σ hF; exact fo_B_X12_asMany_13  (fun _ _ _ _ _ h => ih h) hF
theorem fo_F_X12_asMany_7 {σ0 : Mm} {x1 : Int32} {s0 : Int32} {σ : Mm} (hF : Fr W_X12_asMany σ0 σ) : FoI W_X12_asMany σ0 (F_X12_asMany_7 x1 s0 σ) := by
  unfold F_X12_asMany_7
  exact (fo_F_X12_asMany_13  FU hF)
theorem fo_F_X12_asMany {σ0 : Mm} {x1 : Int32} {σ : Mm} (hF : Fr W_X12_asMany σ0 σ) : FoI W_X12_asMany σ0 (F_X12_asMany x1 σ) := by
  unfold F_X12_asMany
  exact (fI_I (Wc := W_X12_hitsOf) hF rfl (fo_F_X12_hitsOf Fr_r) (fun _ _ h1 => (fo_F_X12_asMany_7  h1)))
theorem fr_X12_asMany {x1 : Int32} {σ : Mm} : FoI W_X12_asMany σ (F_X12_asMany x1 σ) := fo_F_X12_asMany Fr_r
def W_X12_await : List (Nat × Nat × Nat) := [(3, 0, 56), (3, 47, 999)]
theorem fo_F_X12_await_10 {σ0 : Mm} {σ : Mm} (hF : Fr W_X12_await σ0 σ) : FoV W_X12_await σ0 (F_X12_await_10 σ) := by
  unfold F_X12_await_10
  exact (fV_some (Fr.A hF rfl))
theorem fo_F_X12_await {σ0 : Mm} {x1 : Int32} {σ : Mm} (hF : Fr W_X12_await σ0 σ) : FoV W_X12_await σ0 (F_X12_await x1 σ) := by
  unfold F_X12_await
  exact (fV_ite (fo_F_X12_await_10  (Fr.AA hF rfl)) fV_none)
theorem fr_X12_await {x1 : Int32} {σ : Mm} : FoV W_X12_await σ (F_X12_await x1 σ) := fo_F_X12_await Fr_r
def W_X12_back : List (Nat × Nat × Nat) := [(3, 0, 0)]
theorem fo_F_X12_back_24 {σ0 : Mm} {σ : Mm} (hF : Fr W_X12_back σ0 σ) : FoI W_X12_back σ0 (F_X12_back_24 σ) := by
  unfold F_X12_back_24
  exact (fI_some hF)
theorem fo_F_X12_back {σ0 : Mm} {x1 : Int32} {σ : Mm} (hF : Fr W_X12_back σ0 σ) : FoI W_X12_back σ0 (F_X12_back x1 σ) := by
  unfold F_X12_back
  exact (fI_ite (fI_some hF) (fI_ite (fo_F_X12_back_24  (Fr.A hF rfl)) (fI_some hF)))
theorem fr_X12_back {x1 : Int32} {σ : Mm} : FoI W_X12_back σ (F_X12_back x1 σ) := fo_F_X12_back Fr_r
def W_X12_begin : List (Nat × Nat × Nat) := [(3, 0, 49), (3, 7, 999), (3, 8, 999), (3, 14, 999), (3, 17, 999), (3, 21, 999), (3, 25, 999), (3, 28, 999), (3, 31, 999), (3, 38, 999)]
theorem fo_F_X12_begin_63 {σ0 : Mm} {σ : Mm} (hF : Fr W_X12_begin σ0 σ) : FoV W_X12_begin σ0 (F_X12_begin_63 σ) := by
  unfold F_X12_begin_63
  exact (fV_some (Fr.A hF rfl))
theorem fo_F_X12_begin_56 {σ0 : Mm} {x1 : Int32} {σ : Mm} (hF : Fr W_X12_begin σ0 σ) : FoV W_X12_begin σ0 (F_X12_begin_56 x1 σ) := by
  unfold F_X12_begin_56
  exact (fV_ite (fo_F_X12_begin_63  (Fr.AA hF rfl)) fV_none)
theorem fo_F_X12_begin_49 {σ0 : Mm} {x1 : Int32} {σ : Mm} (hF : Fr W_X12_begin σ0 σ) : FoV W_X12_begin σ0 (F_X12_begin_49 x1 σ) := by
  unfold F_X12_begin_49
  exact (fV_ite (fo_F_X12_begin_56  (Fr.AA hF rfl)) fV_none)
theorem fo_F_X12_begin_42 {σ0 : Mm} {x1 : Int32} {σ : Mm} (hF : Fr W_X12_begin σ0 σ) : FoV W_X12_begin σ0 (F_X12_begin_42 x1 σ) := by
  unfold F_X12_begin_42
  exact (fV_ite (fo_F_X12_begin_49  (Fr.AA hF rfl)) fV_none)
theorem fo_F_X12_begin_35 {σ0 : Mm} {x1 : Int32} {σ : Mm} (hF : Fr W_X12_begin σ0 σ) : FoV W_X12_begin σ0 (F_X12_begin_35 x1 σ) := by
  unfold F_X12_begin_35
  exact (fV_ite (fo_F_X12_begin_42  (Fr.AA hF rfl)) fV_none)
theorem fo_F_X12_begin_28 {σ0 : Mm} {x1 : Int32} {σ : Mm} (hF : Fr W_X12_begin σ0 σ) : FoV W_X12_begin σ0 (F_X12_begin_28 x1 σ) := by
  unfold F_X12_begin_28
  exact (fV_ite (fo_F_X12_begin_35  (Fr.AA hF rfl)) fV_none)
theorem fo_F_X12_begin_21 {σ0 : Mm} {x1 : Int32} {σ : Mm} (hF : Fr W_X12_begin σ0 σ) : FoV W_X12_begin σ0 (F_X12_begin_21 x1 σ) := by
  unfold F_X12_begin_21
  exact (fV_ite (fo_F_X12_begin_28  (Fr.AA hF rfl)) fV_none)
theorem fo_F_X12_begin_14 {σ0 : Mm} {x1 : Int32} {σ : Mm} (hF : Fr W_X12_begin σ0 σ) : FoV W_X12_begin σ0 (F_X12_begin_14 x1 σ) := by
  unfold F_X12_begin_14
  exact (fV_ite (fo_F_X12_begin_21  (Fr.AA hF rfl)) fV_none)
theorem fo_F_X12_begin_7 {σ0 : Mm} {x1 : Int32} {σ : Mm} (hF : Fr W_X12_begin σ0 σ) : FoV W_X12_begin σ0 (F_X12_begin_7 x1 σ) := by
  unfold F_X12_begin_7
  exact (fV_ite (fo_F_X12_begin_14  (Fr.AA hF rfl)) fV_none)
theorem fo_F_X12_begin {σ0 : Mm} {x1 : Int32} {σ : Mm} (hF : Fr W_X12_begin σ0 σ) : FoV W_X12_begin σ0 (F_X12_begin x1 σ) := by
  unfold F_X12_begin
  exact (fV_ite (fo_F_X12_begin_7  (Fr.AA hF rfl)) fV_none)
theorem fr_X12_begin {x1 : Int32} {σ : Mm} : FoV W_X12_begin σ (F_X12_begin x1 σ) := fo_F_X12_begin Fr_r
def W_X12_byteAt : List (Nat × Nat × Nat) := []
theorem fo_F_X12_byteAt {σ0 : Mm} {x1 : Int32} {σ : Mm} (hF : Fr W_X12_byteAt σ0 σ) : FoI W_X12_byteAt σ0 (F_X12_byteAt x1 σ) := by
  unfold F_X12_byteAt
  exact (fI_ite (fI_some hF) (fI_ite (fI_some hF) fI_none))
theorem fr_X12_byteAt {x1 : Int32} {σ : Mm} : FoI W_X12_byteAt σ (F_X12_byteAt x1 σ) := fo_F_X12_byteAt Fr_r
def W_X12_pointed : List (Nat × Nat × Nat) := []
theorem fo_F_X12_pointed_51 {σ0 : Mm} {rc6 : Int32 → Int32 → Int32 → Int32 → Int32 → Mm → Option (Int32 × Mm)} (hrc6 : ∀ a0 a1 a2 a3 a4 τ, Fr W_X12_pointed σ0 τ → FoI W_X12_pointed σ0 (rc6 a0 a1 a2 a3 a4 τ)) {x1 : Int32} {x2 : Int32} {x3 : Int32} {x5 : Int32} {s0 : Int32} {s1 : Int32} {σ : Mm} (hF : Fr W_X12_pointed σ0 σ) : FoI W_X12_pointed σ0 (F_X12_pointed_51 rc6 x1 x2 x3 x5 s0 s1 σ) := by
  unfold F_X12_pointed_51
  exact (hrc6 _ _ _ _ _ _ hF)
theorem fo_F_X12_pointed_38 {σ0 : Mm} {rc6 : Int32 → Int32 → Int32 → Int32 → Int32 → Mm → Option (Int32 × Mm)} (hrc6 : ∀ a0 a1 a2 a3 a4 τ, Fr W_X12_pointed σ0 τ → FoI W_X12_pointed σ0 (rc6 a0 a1 a2 a3 a4 τ)) {x1 : Int32} {x2 : Int32} {x3 : Int32} {x5 : Int32} {s0 : Int32} {s1 : Int32} {σ : Mm} (hF : Fr W_X12_pointed σ0 σ) : FoI W_X12_pointed σ0 (F_X12_pointed_38 rc6 x1 x2 x3 x5 s0 s1 σ) := by
  unfold F_X12_pointed_38
  exact (fI_ite (fo_F_X12_pointed_51 hrc6 hF) (fo_F_X12_pointed_51 hrc6 hF))
theorem fo_B_X12_pointed_6 {σ0 : Mm} {rc6 : Int32 → Int32 → Int32 → Int32 → Int32 → Mm → Option (Int32 × Mm)} (hrc6 : ∀ a0 a1 a2 a3 a4 τ, Fr W_X12_pointed σ0 τ → FoI W_X12_pointed σ0 (rc6 a0 a1 a2 a3 a4 τ)) {x1 : Int32} {x2 : Int32} {x3 : Int32} {x4 : Int32} {x5 : Int32} {σ : Mm} (hF : Fr W_X12_pointed σ0 σ) : FoI W_X12_pointed σ0 (B_X12_pointed_6 rc6 x1 x2 x3 x4 x5 σ) := by
  unfold B_X12_pointed_6
  exact (fI_ite (fI_some hF) (fI_ite (fI_ite (fo_F_X12_pointed_38 hrc6 hF) fI_none) (fI_ite (fo_F_X12_pointed_38 hrc6 hF) fI_none)))
theorem fo_F_X12_pointed_6 {σ0 : Mm} (n : Nat) : ∀ {y0 : Int32} {y1 : Int32} {y2 : Int32} {y3 : Int32} {y4 : Int32} {σ : Mm}, Fr W_X12_pointed σ0 σ → FoI W_X12_pointed σ0 (F_X12_pointed_6  n y0 y1 y2 y3 y4 σ) := by
  induction n with
  | zero => intro y0 y1 y2 y3 y4 σ _; exact fI_none
  | succ n ih => intro y0 y1 y2 y3 y4 σ hF; exact fo_B_X12_pointed_6  (fun _ _ _ _ _ _ h => ih h) hF
theorem fo_F_X12_pointed {σ0 : Mm} {x1 : Int32} {x2 : Int32} {x3 : Int32} {σ : Mm} (hF : Fr W_X12_pointed σ0 σ) : FoI W_X12_pointed σ0 (F_X12_pointed x1 x2 x3 σ) := by
  unfold F_X12_pointed
  exact (fo_F_X12_pointed_6  FU hF)
theorem fr_X12_pointed {x1 : Int32} {x2 : Int32} {x3 : Int32} {σ : Mm} : FoI W_X12_pointed σ (F_X12_pointed x1 x2 x3 σ) := fo_F_X12_pointed Fr_r
def W_X12_chosen : List (Nat × Nat × Nat) := []
theorem fo_F_X12_chosen_25 {σ0 : Mm} {rc5 : Int32 → Int32 → Int64 → Int32 → Mm → Option (Int64 × Mm)} (hrc5 : ∀ a0 a1 a2 a3 τ, Fr W_X12_chosen σ0 τ → FoL W_X12_chosen σ0 (rc5 a0 a1 a2 a3 τ)) {x0 : Int32} {x1 : Int32} {x2 : Int64} {x4 : Int32} {σ : Mm} (hF : Fr W_X12_chosen σ0 σ) : FoL W_X12_chosen σ0 (F_X12_chosen_25 rc5 x0 x1 x2 x4 σ) := by
  unfold F_X12_chosen_25
  exact (hrc5 _ _ _ _ _ hF)
theorem fo_B_X12_chosen_5 {σ0 : Mm} {rc5 : Int32 → Int32 → Int64 → Int32 → Mm → Option (Int64 × Mm)} (hrc5 : ∀ a0 a1 a2 a3 τ, Fr W_X12_chosen σ0 τ → FoL W_X12_chosen σ0 (rc5 a0 a1 a2 a3 τ)) {x0 : Int32} {x1 : Int32} {x2 : Int64} {x4 : Int32} {σ : Mm} (hF : Fr W_X12_chosen σ0 σ) : FoL W_X12_chosen σ0 (B_X12_chosen_5 rc5 x0 x1 x2 x4 σ) := by
  unfold B_X12_chosen_5
  exact (fL_ite (fL_some hF) (fL_ite (fo_F_X12_chosen_25 hrc5 hF) fL_none))
theorem fo_F_X12_chosen_5 {σ0 : Mm} (n : Nat) : ∀ {y0 : Int32} {y1 : Int32} {y2 : Int64} {y3 : Int32} {σ : Mm}, Fr W_X12_chosen σ0 σ → FoL W_X12_chosen σ0 (F_X12_chosen_5  n y0 y1 y2 y3 σ) := by
  induction n with
  | zero => intro y0 y1 y2 y3 σ _; exact fL_none
  | succ n ih => intro y0 y1 y2 y3 σ hF; exact fo_B_X12_chosen_5  (fun _ _ _ _ _ h => ih h) hF
theorem fo_F_X12_chosen {σ0 : Mm} {x0 : Int32} {x1 : Int32} {σ : Mm} (hF : Fr W_X12_chosen σ0 σ) : FoL W_X12_chosen σ0 (F_X12_chosen x0 x1 σ) := by
  unfold F_X12_chosen
  exact (fo_F_X12_chosen_5  FU hF)
theorem fr_X12_chosen {x0 : Int32} {x1 : Int32} {σ : Mm} : FoL W_X12_chosen σ (F_X12_chosen x0 x1 σ) := fo_F_X12_chosen Fr_r
def W_X12_power : List (Nat × Nat × Nat) := []
theorem fo_B_X12_power_5 {σ0 : Mm} {rc5 : Int32 → Int32 → Int64 → Int32 → Mm → Option (Int64 × Mm)} (hrc5 : ∀ a0 a1 a2 a3 τ, Fr W_X12_power σ0 τ → FoL W_X12_power σ0 (rc5 a0 a1 a2 a3 τ)) {x0 : Int32} {x1 : Int32} {x2 : Int64} {x4 : Int32} {σ : Mm} (hF : Fr W_X12_power σ0 σ) : FoL W_X12_power σ0 (B_X12_power_5 rc5 x0 x1 x2 x4 σ) := by
  unfold B_X12_power_5
  exact (fL_ite (fL_some hF) (hrc5 _ _ _ _ _ hF))
theorem fo_F_X12_power_5 {σ0 : Mm} (n : Nat) : ∀ {y0 : Int32} {y1 : Int32} {y2 : Int64} {y3 : Int32} {σ : Mm}, Fr W_X12_power σ0 σ → FoL W_X12_power σ0 (F_X12_power_5  n y0 y1 y2 y3 σ) := by
  induction n with
  | zero => intro y0 y1 y2 y3 σ _; exact fL_none
  | succ n ih => intro y0 y1 y2 y3 σ hF; exact fo_B_X12_power_5  (fun _ _ _ _ _ h => ih h) hF
theorem fo_F_X12_power {σ0 : Mm} {x0 : Int32} {x1 : Int32} {σ : Mm} (hF : Fr W_X12_power σ0 σ) : FoL W_X12_power σ0 (F_X12_power x0 x1 σ) := by
  unfold F_X12_power
  exact (fo_F_X12_power_5  FU hF)
theorem fr_X12_power {x0 : Int32} {x1 : Int32} {σ : Mm} : FoL W_X12_power σ (F_X12_power x0 x1 σ) := fo_F_X12_power Fr_r
def W_X12_rows : List (Nat × Nat × Nat) := []
theorem fo_F_X12_rows_37 {σ0 : Mm} {rc6 : Int32 → Int32 → Int32 → Int64 → Int32 → Mm → Option (Int64 × Mm)} (hrc6 : ∀ a0 a1 a2 a3 a4 τ, Fr W_X12_rows σ0 τ → FoL W_X12_rows σ0 (rc6 a0 a1 a2 a3 a4 τ)) {x0 : Int32} {x2 : Int32} {x3 : Int32} {x6 : Int32} {s0 : Int64} {s1 : Int64} {s2 : Int64} {σ : Mm} (hF : Fr W_X12_rows σ0 σ) : FoL W_X12_rows σ0 (F_X12_rows_37 rc6 x0 x2 x3 x6 s0 s1 s2 σ) := by
  unfold F_X12_rows_37
  exact (hrc6 _ _ _ _ _ _ hF)
theorem fo_F_X12_rows_26 {σ0 : Mm} {rc6 : Int32 → Int32 → Int32 → Int64 → Int32 → Mm → Option (Int64 × Mm)} (hrc6 : ∀ a0 a1 a2 a3 a4 τ, Fr W_X12_rows σ0 τ → FoL W_X12_rows σ0 (rc6 a0 a1 a2 a3 a4 τ)) {x0 : Int32} {x2 : Int32} {x3 : Int32} {x6 : Int32} {s0 : Int64} {s1 : Int64} {s2 : Int64} {σ : Mm} (hF : Fr W_X12_rows σ0 σ) : FoL W_X12_rows σ0 (F_X12_rows_26 rc6 x0 x2 x3 x6 s0 s1 s2 σ) := by
  unfold F_X12_rows_26
  exact (fL_L (Wc := W_X12_power) hF rfl (fo_F_X12_power Fr_r) (fun _ _ h1 => (fo_F_X12_rows_37 hrc6 h1)))
theorem fo_F_X12_rows_20 {σ0 : Mm} {rc6 : Int32 → Int32 → Int32 → Int64 → Int32 → Mm → Option (Int64 × Mm)} (hrc6 : ∀ a0 a1 a2 a3 a4 τ, Fr W_X12_rows σ0 τ → FoL W_X12_rows σ0 (rc6 a0 a1 a2 a3 a4 τ)) {x0 : Int32} {x2 : Int32} {x3 : Int32} {x6 : Int32} {s0 : Int64} {s1 : Int64} {σ : Mm} (hF : Fr W_X12_rows σ0 σ) : FoL W_X12_rows σ0 (F_X12_rows_20 rc6 x0 x2 x3 x6 s0 s1 σ) := by
  unfold F_X12_rows_20
  exact (fL_L (Wc := W_X12_power) hF rfl (fo_F_X12_power Fr_r) (fun _ _ h1 => (fo_F_X12_rows_26 hrc6 h1)))
theorem fo_B_X12_rows_6 {σ0 : Mm} {rc6 : Int32 → Int32 → Int32 → Int64 → Int32 → Mm → Option (Int64 × Mm)} (hrc6 : ∀ a0 a1 a2 a3 a4 τ, Fr W_X12_rows σ0 τ → FoL W_X12_rows σ0 (rc6 a0 a1 a2 a3 a4 τ)) {x0 : Int32} {x2 : Int32} {x3 : Int32} {x4 : Int64} {x6 : Int32} {σ : Mm} (hF : Fr W_X12_rows σ0 σ) : FoL W_X12_rows σ0 (B_X12_rows_6 rc6 x0 x2 x3 x4 x6 σ) := by
  unfold B_X12_rows_6
  exact (fL_ite (fL_some hF) (fL_L (Wc := W_X12_chosen) hF rfl (fo_F_X12_chosen Fr_r) (fun _ _ h1 => (fo_F_X12_rows_20 hrc6 h1))))
theorem fo_F_X12_rows_6 {σ0 : Mm} (n : Nat) : ∀ {y0 : Int32} {y1 : Int32} {y2 : Int32} {y3 : Int64} {y4 : Int32} {σ : Mm}, Fr W_X12_rows σ0 σ → FoL W_X12_rows σ0 (F_X12_rows_6  n y0 y1 y2 y3 y4 σ) := by
  induction n with
  | zero => intro y0 y1 y2 y3 y4 σ _; exact fL_none
  | succ n ih => intro y0 y1 y2 y3 y4 σ hF; exact fo_B_X12_rows_6  (fun _ _ _ _ _ _ h => ih h) hF
theorem fo_F_X12_rows {σ0 : Mm} {x0 : Int32} {x1 : Int32} {x2 : Int32} {x3 : Int32} {σ : Mm} (hF : Fr W_X12_rows σ0 σ) : FoL W_X12_rows σ0 (F_X12_rows x0 x1 x2 x3 σ) := by
  unfold F_X12_rows
  exact (fo_F_X12_rows_6  FU hF)
theorem fr_X12_rows {x0 : Int32} {x1 : Int32} {x2 : Int32} {x3 : Int32} {σ : Mm} : FoL W_X12_rows σ (F_X12_rows x0 x1 x2 x3 σ) := fo_F_X12_rows Fr_r
def W_X12_chance : List (Nat × Nat × Nat) := []
theorem fo_F_X12_chance_43 {σ0 : Mm} {s0 : Int64} {σ : Mm} (hF : Fr W_X12_chance σ0 σ) : FoL W_X12_chance σ0 (F_X12_chance_43 s0 σ) := by
  unfold F_X12_chance_43
  exact (fL_some hF)
theorem fo_F_X12_chance_32 {σ0 : Mm} {x2 : Int32} {s0 : Int32} {s1 : Int32} {σ : Mm} (hF : Fr W_X12_chance σ0 σ) : FoL W_X12_chance σ0 (F_X12_chance_32 x2 s0 s1 σ) := by
  unfold F_X12_chance_32
  exact (fL_L (Wc := W_X12_rows) hF rfl (fo_F_X12_rows Fr_r) (fun _ _ h1 => (fo_F_X12_chance_43  h1)))
theorem fo_F_X12_chance {σ0 : Mm} {x1 : Int32} {x2 : Int32} {σ : Mm} (hF : Fr W_X12_chance σ0 σ) : FoL W_X12_chance σ0 (F_X12_chance x1 x2 σ) := by
  unfold F_X12_chance
  exact (fL_ite (fL_some hF) (fL_ite (fL_some hF) (fI_L (Wc := W_X12_pointed) hF rfl (fo_F_X12_pointed Fr_r) (fun _ _ h1 => (fo_F_X12_chance_32  h1)))))
theorem fr_X12_chance {x1 : Int32} {x2 : Int32} {σ : Mm} : FoL W_X12_chance σ (F_X12_chance x1 x2 σ) := fo_F_X12_chance Fr_r
def W_X12_clear : List (Nat × Nat × Nat) := [(3, 0, 52)]
theorem fo_F_X12_clear_10 {σ0 : Mm} {x1 : Int32} {σ : Mm} (hF : Fr W_X12_clear σ0 σ) : FoI W_X12_clear σ0 (F_X12_clear_10 x1 σ) := by
  unfold F_X12_clear_10
  exact (fI_some hF)
theorem fo_F_X12_clear {σ0 : Mm} {σ : Mm} (hF : Fr W_X12_clear σ0 σ) : FoI W_X12_clear σ0 (F_X12_clear σ) := by
  unfold F_X12_clear
  exact (fo_F_X12_clear_10  (Fr.A hF rfl))
theorem fr_X12_clear {σ : Mm} : FoI W_X12_clear σ (F_X12_clear σ) := fo_F_X12_clear Fr_r
def W_X12_emit : List (Nat × Nat × Nat) := [(3, 28, 999), (3, 29, 999), (3, 30, 999)]
theorem fo_F_X12_emit_32 {σ0 : Mm} {σ : Mm} (hF : Fr W_X12_emit σ0 σ) : FoV W_X12_emit σ0 (F_X12_emit_32 σ) := by
  unfold F_X12_emit_32
  exact (fV_ite (fV_ite (fV_some (Fr.AA hF rfl)) fV_none) fV_none)
theorem fo_F_X12_emit_16 {σ0 : Mm} {x2 : Int32} {σ : Mm} (hF : Fr W_X12_emit σ0 σ) : FoV W_X12_emit σ0 (F_X12_emit_16 x2 σ) := by
  unfold F_X12_emit_16
  exact (fV_ite (fV_ite (fo_F_X12_emit_32  (Fr.AA hF rfl)) fV_none) fV_none)
theorem fo_F_X12_emit {σ0 : Mm} {x1 : Int32} {x2 : Int32} {σ : Mm} (hF : Fr W_X12_emit σ0 σ) : FoV W_X12_emit σ0 (F_X12_emit x1 x2 σ) := by
  unfold F_X12_emit
  exact (fV_ite (fV_ite (fo_F_X12_emit_16  (Fr.AA hF rfl)) fV_none) fV_none)
theorem fr_X12_emit {x1 : Int32} {x2 : Int32} {σ : Mm} : FoV W_X12_emit σ (F_X12_emit x1 x2 σ) := fo_F_X12_emit Fr_r
def W_X12_isSign : List (Nat × Nat × Nat) := []
theorem fo_F_X12_isSign {σ0 : Mm} {x1 : Int32} {σ : Mm} (hF : Fr W_X12_isSign σ0 σ) : FoI W_X12_isSign σ0 (F_X12_isSign x1 σ) := by
  unfold F_X12_isSign
  exact (fI_ite (fI_ite (fI_ite (fI_ite (fI_some hF) (fI_some hF)) fI_none) (fI_some hF)) fI_none)
theorem fr_X12_isSign {x1 : Int32} {σ : Mm} : FoI W_X12_isSign σ (F_X12_isSign x1 σ) := fo_F_X12_isSign Fr_r
def W_X12_wrong : List (Nat × Nat × Nat) := [(3, 0, 8), (3, 0, 9)]
theorem fo_F_X12_wrong_18 {σ0 : Mm} {σ : Mm} (hF : Fr W_X12_wrong σ0 σ) : FoI W_X12_wrong σ0 (F_X12_wrong_18 σ) := by
  unfold F_X12_wrong_18
  exact (fI_some hF)
theorem fo_F_X12_wrong_5 {σ0 : Mm} {σ : Mm} (hF : Fr W_X12_wrong σ0 σ) : FoI W_X12_wrong σ0 (F_X12_wrong_5 σ) := by
  unfold F_X12_wrong_5
  exact (fI_ite (fo_F_X12_wrong_18  (Fr.A hF rfl)) fI_none)
theorem fo_F_X12_wrong {σ0 : Mm} {x1 : Int32} {σ : Mm} (hF : Fr W_X12_wrong σ0 σ) : FoI W_X12_wrong σ0 (F_X12_wrong x1 σ) := by
  unfold F_X12_wrong
  exact (fo_F_X12_wrong_5  (Fr.A hF rfl))
theorem fr_X12_wrong {x1 : Int32} {σ : Mm} : FoI W_X12_wrong σ (F_X12_wrong x1 σ) := fo_F_X12_wrong Fr_r
def W_X12_pass : List (Nat × Nat × Nat) := [(3, 0, 7), (3, 0, 8), (3, 0, 9)]
theorem fo_F_X12_pass_26 {σ0 : Mm} {σ : Mm} (hF : Fr W_X12_pass σ0 σ) : FoI W_X12_pass σ0 (F_X12_pass_26 σ) := by
  unfold F_X12_pass_26
  exact (fI_some hF)
theorem fo_F_X12_pass_15 {σ0 : Mm} {s0 : Int32} {σ : Mm} (hF : Fr W_X12_pass σ0 σ) : FoI W_X12_pass σ0 (F_X12_pass_15 s0 σ) := by
  unfold F_X12_pass_15
  exact (fI_ite (fI_some hF) fI_none)
theorem fo_F_X12_pass {σ0 : Mm} {σ : Mm} (hF : Fr W_X12_pass σ0 σ) : FoI W_X12_pass σ0 (F_X12_pass σ) := by
  unfold F_X12_pass
  exact (fI_ite (fo_F_X12_pass_26  (Fr.A hF rfl)) (fI_I (Wc := W_X12_wrong) hF rfl (fo_F_X12_wrong Fr_r) (fun _ _ h1 => (fo_F_X12_pass_15  h1))))
theorem fr_X12_pass {σ : Mm} : FoI W_X12_pass σ (F_X12_pass σ) := fo_F_X12_pass Fr_r
def W_X12_reduce : List (Nat × Nat × Nat) := [(3, 0, 56), (3, 28, 999), (3, 29, 999), (3, 30, 999)]
theorem fo_F_X12_reduce_50 {σ0 : Mm} {rc0 : Int32 → Int32 → Mm → Option (Mm)} (hrc0 : ∀ a0 a1 τ, Fr W_X12_reduce σ0 τ → FoV W_X12_reduce σ0 (rc0 a0 a1 τ)) {x1 : Int32} {x2 : Int32} {σ : Mm} (hF : Fr W_X12_reduce σ0 σ) : FoV W_X12_reduce σ0 (F_X12_reduce_50 rc0 x1 x2 σ) := by
  unfold F_X12_reduce_50
  exact (hrc0 _ _ _ hF)
theorem fo_F_X12_reduce_36 {σ0 : Mm} {rc0 : Int32 → Int32 → Mm → Option (Mm)} (hrc0 : ∀ a0 a1 τ, Fr W_X12_reduce σ0 τ → FoV W_X12_reduce σ0 (rc0 a0 a1 τ)) {x1 : Int32} {x2 : Int32} {σ : Mm} (hF : Fr W_X12_reduce σ0 σ) : FoV W_X12_reduce σ0 (F_X12_reduce_36 rc0 x1 x2 σ) := by
  unfold F_X12_reduce_36
  exact (fV_ite (fV_V (Wc := W_X12_emit) hF rfl (fo_F_X12_emit Fr_r) (fun _ h1 => (fo_F_X12_reduce_50 hrc0 h1))) fV_none)
def W_X12_reduce_0L : List (Nat × Nat × Nat) := [(3, 0, 56), (3, 28, 999), (3, 29, 999), (3, 30, 999)]
theorem fo_B_X12_reduce_0L {σ0 : Mm} {rc0 : Int32 → Int32 → Mm → Option (Mm)} (hrc0 : ∀ a0 a1 τ, Fr W_X12_reduce_0L σ0 τ → FoV W_X12_reduce_0L σ0 (rc0 a0 a1 τ)) {x1 : Int32} {x2 : Int32} {σ : Mm} (hF : Fr W_X12_reduce_0L σ0 σ) : FoV W_X12_reduce_0L σ0 (B_X12_reduce_0L rc0 x1 x2 σ) := by
  unfold B_X12_reduce_0L
  exact (fV_ite (fV_some hF) (fV_ite (fV_ite (fV_some hF) (fo_F_X12_reduce_36 hrc0 (Fr.A hF rfl))) fV_none))
theorem fo_F_X12_reduce_0L {σ0 : Mm} (n : Nat) : ∀ {y0 : Int32} {y1 : Int32} {σ : Mm}, Fr W_X12_reduce_0L σ0 σ → FoV W_X12_reduce_0L σ0 (F_X12_reduce_0L  n y0 y1 σ) := by
  induction n with
  | zero => intro y0 y1 σ _; exact fV_none
  | succ n ih => intro y0 y1 σ hF; exact fo_B_X12_reduce_0L  (fun _ _ _ h => ih h) hF
theorem fo_F_X12_reduce {σ0 : Mm} {x1 : Int32} {x2 : Int32} {σ : Mm} (hF : Fr W_X12_reduce σ0 σ) : FoV W_X12_reduce σ0 (F_X12_reduce x1 x2 σ) := by
  unfold F_X12_reduce
  exact (fo_F_X12_reduce_0L  FU hF)
theorem fr_X12_reduce {x1 : Int32} {x2 : Int32} {σ : Mm} : FoV W_X12_reduce σ (F_X12_reduce x1 x2 σ) := fo_F_X12_reduce Fr_r
def W_X12_expr : List (Nat × Nat × Nat) := [(3, 0, 7), (3, 0, 8), (3, 0, 9), (3, 0, 56), (3, 0, 58), (3, 28, 999), (3, 29, 999), (3, 30, 999), (3, 47, 999)]
theorem fo_F_X12_expr_345 {σ0 : Mm} {σ : Mm} (hF : Fr W_X12_expr σ0 σ) : FoI W_X12_expr σ0 (F_X12_expr_345 σ) := by
  unfold F_X12_expr_345
  exact (fI_some hF)
theorem fo_F_X12_expr_218 {σ0 : Mm} {rc21 : Int32 → Int32 → Int32 → Mm → Option (Int32 × Mm)} (hrc21 : ∀ a0 a1 a2 τ, Fr W_X12_expr σ0 τ → FoI W_X12_expr σ0 (rc21 a0 a1 a2 τ)) {x1 : Int32} {x3 : Int32} {s0 : Int32} {σ : Mm} (hF : Fr W_X12_expr σ0 σ) : FoI W_X12_expr σ0 (F_X12_expr_218 rc21 x1 x3 s0 σ) := by
  unfold F_X12_expr_218
  exact (fI_ite (fI_some hF) (hrc21 _ _ _ _ hF))
theorem fo_F_X12_expr_214 {σ0 : Mm} {rc21 : Int32 → Int32 → Int32 → Mm → Option (Int32 × Mm)} (hrc21 : ∀ a0 a1 a2 τ, Fr W_X12_expr σ0 τ → FoI W_X12_expr σ0 (rc21 a0 a1 a2 τ)) {x1 : Int32} {x3 : Int32} {σ : Mm} (hF : Fr W_X12_expr σ0 σ) : FoI W_X12_expr σ0 (F_X12_expr_214 rc21 x1 x3 σ) := by
  unfold F_X12_expr_214
  exact (fI_I (Wc := W_X12_pass) hF rfl (fo_F_X12_pass Fr_r) (fun _ _ h1 => (fo_F_X12_expr_218 hrc21 h1)))
theorem fo_F_X12_expr_211 {σ0 : Mm} {rc21 : Int32 → Int32 → Int32 → Mm → Option (Int32 × Mm)} (hrc21 : ∀ a0 a1 a2 τ, Fr W_X12_expr σ0 τ → FoI W_X12_expr σ0 (rc21 a0 a1 a2 τ)) {x1 : Int32} {x3 : Int32} {s0 : Int32} {σ : Mm} (hF : Fr W_X12_expr σ0 σ) : FoI W_X12_expr σ0 (F_X12_expr_211 rc21 x1 x3 s0 σ) := by
  unfold F_X12_expr_211
  exact (fV_I (Wc := W_X12_await) hF rfl (fo_F_X12_await Fr_r) (fun _ h1 => (fo_F_X12_expr_214 hrc21 h1)))
theorem fo_F_X12_expr_203 {σ0 : Mm} {rc21 : Int32 → Int32 → Int32 → Mm → Option (Int32 × Mm)} (hrc21 : ∀ a0 a1 a2 τ, Fr W_X12_expr σ0 τ → FoI W_X12_expr σ0 (rc21 a0 a1 a2 τ)) {x1 : Int32} {x3 : Int32} {s0 : Int32} {σ : Mm} (hF : Fr W_X12_expr σ0 σ) : FoI W_X12_expr σ0 (F_X12_expr_203 rc21 x1 x3 s0 σ) := by
  unfold F_X12_expr_203
  exact (fI_ite (fo_F_X12_expr_211 hrc21 hF) (fo_F_X12_expr_211 hrc21 hF))
theorem fo_F_X12_expr_196 {σ0 : Mm} {rc21 : Int32 → Int32 → Int32 → Mm → Option (Int32 × Mm)} (hrc21 : ∀ a0 a1 a2 τ, Fr W_X12_expr σ0 τ → FoI W_X12_expr σ0 (rc21 a0 a1 a2 τ)) {x1 : Int32} {x3 : Int32} {σ : Mm} (hF : Fr W_X12_expr σ0 σ) : FoI W_X12_expr σ0 (F_X12_expr_196 rc21 x1 x3 σ) := by
  unfold F_X12_expr_196
  exact (fI_I (Wc := W_X12_isSign) hF rfl (fo_F_X12_isSign Fr_r) (fun _ _ h1 => (fo_F_X12_expr_203 hrc21 h1)))
theorem fo_F_X12_expr_190 {σ0 : Mm} {rc21 : Int32 → Int32 → Int32 → Mm → Option (Int32 × Mm)} (hrc21 : ∀ a0 a1 a2 τ, Fr W_X12_expr σ0 τ → FoI W_X12_expr σ0 (rc21 a0 a1 a2 τ)) {x1 : Int32} {x3 : Int32} {σ : Mm} (hF : Fr W_X12_expr σ0 σ) : FoI W_X12_expr σ0 (F_X12_expr_190 rc21 x1 x3 σ) := by
  unfold F_X12_expr_190
  exact (fV_I (Wc := W_X12_reduce) hF rfl (fo_F_X12_reduce Fr_r) (fun _ h1 => (fo_F_X12_expr_196 hrc21 h1)))
theorem fo_F_X12_expr_274 {σ0 : Mm} {rc21 : Int32 → Int32 → Int32 → Mm → Option (Int32 × Mm)} (hrc21 : ∀ a0 a1 a2 τ, Fr W_X12_expr σ0 τ → FoI W_X12_expr σ0 (rc21 a0 a1 a2 τ)) {x1 : Int32} {x3 : Int32} {s0 : Int32} {σ : Mm} (hF : Fr W_X12_expr σ0 σ) : FoI W_X12_expr σ0 (F_X12_expr_274 rc21 x1 x3 s0 σ) := by
  unfold F_X12_expr_274
  exact (fI_ite (fI_some hF) (hrc21 _ _ _ _ hF))
theorem fo_F_X12_expr_270 {σ0 : Mm} {rc21 : Int32 → Int32 → Int32 → Mm → Option (Int32 × Mm)} (hrc21 : ∀ a0 a1 a2 τ, Fr W_X12_expr σ0 τ → FoI W_X12_expr σ0 (rc21 a0 a1 a2 τ)) {x1 : Int32} {x3 : Int32} {σ : Mm} (hF : Fr W_X12_expr σ0 σ) : FoI W_X12_expr σ0 (F_X12_expr_270 rc21 x1 x3 σ) := by
  unfold F_X12_expr_270
  exact (fI_I (Wc := W_X12_pass) hF rfl (fo_F_X12_pass Fr_r) (fun _ _ h1 => (fo_F_X12_expr_274 hrc21 h1)))
theorem fo_F_X12_expr_267 {σ0 : Mm} {rc21 : Int32 → Int32 → Int32 → Mm → Option (Int32 × Mm)} (hrc21 : ∀ a0 a1 a2 τ, Fr W_X12_expr σ0 τ → FoI W_X12_expr σ0 (rc21 a0 a1 a2 τ)) {x1 : Int32} {x3 : Int32} {s0 : Int32} {σ : Mm} (hF : Fr W_X12_expr σ0 σ) : FoI W_X12_expr σ0 (F_X12_expr_267 rc21 x1 x3 s0 σ) := by
  unfold F_X12_expr_267
  exact (fV_I (Wc := W_X12_await) hF rfl (fo_F_X12_await Fr_r) (fun _ h1 => (fo_F_X12_expr_270 hrc21 h1)))
theorem fo_F_X12_expr_259 {σ0 : Mm} {rc21 : Int32 → Int32 → Int32 → Mm → Option (Int32 × Mm)} (hrc21 : ∀ a0 a1 a2 τ, Fr W_X12_expr σ0 τ → FoI W_X12_expr σ0 (rc21 a0 a1 a2 τ)) {x1 : Int32} {x3 : Int32} {s0 : Int32} {σ : Mm} (hF : Fr W_X12_expr σ0 σ) : FoI W_X12_expr σ0 (F_X12_expr_259 rc21 x1 x3 s0 σ) := by
  unfold F_X12_expr_259
  exact (fI_ite (fo_F_X12_expr_267 hrc21 hF) (fo_F_X12_expr_267 hrc21 hF))
theorem fo_F_X12_expr_252 {σ0 : Mm} {rc21 : Int32 → Int32 → Int32 → Mm → Option (Int32 × Mm)} (hrc21 : ∀ a0 a1 a2 τ, Fr W_X12_expr σ0 τ → FoI W_X12_expr σ0 (rc21 a0 a1 a2 τ)) {x1 : Int32} {x3 : Int32} {σ : Mm} (hF : Fr W_X12_expr σ0 σ) : FoI W_X12_expr σ0 (F_X12_expr_252 rc21 x1 x3 σ) := by
  unfold F_X12_expr_252
  exact (fI_I (Wc := W_X12_isSign) hF rfl (fo_F_X12_isSign Fr_r) (fun _ _ h1 => (fo_F_X12_expr_259 hrc21 h1)))
theorem fo_F_X12_expr_246 {σ0 : Mm} {rc21 : Int32 → Int32 → Int32 → Mm → Option (Int32 × Mm)} (hrc21 : ∀ a0 a1 a2 τ, Fr W_X12_expr σ0 τ → FoI W_X12_expr σ0 (rc21 a0 a1 a2 τ)) {x1 : Int32} {x3 : Int32} {σ : Mm} (hF : Fr W_X12_expr σ0 σ) : FoI W_X12_expr σ0 (F_X12_expr_246 rc21 x1 x3 σ) := by
  unfold F_X12_expr_246
  exact (fV_I (Wc := W_X12_reduce) hF rfl (fo_F_X12_reduce Fr_r) (fun _ h1 => (fo_F_X12_expr_252 hrc21 h1)))
theorem fo_F_X12_expr_328 {σ0 : Mm} {rc21 : Int32 → Int32 → Int32 → Mm → Option (Int32 × Mm)} (hrc21 : ∀ a0 a1 a2 τ, Fr W_X12_expr σ0 τ → FoI W_X12_expr σ0 (rc21 a0 a1 a2 τ)) {x1 : Int32} {x2 : Int32} {x3 : Int32} {σ : Mm} (hF : Fr W_X12_expr σ0 σ) : FoI W_X12_expr σ0 (F_X12_expr_328 rc21 x1 x2 x3 σ) := by
  unfold F_X12_expr_328
  exact (hrc21 _ _ _ _ hF)
theorem fo_F_X12_expr_318 {σ0 : Mm} {rc21 : Int32 → Int32 → Int32 → Mm → Option (Int32 × Mm)} (hrc21 : ∀ a0 a1 a2 τ, Fr W_X12_expr σ0 τ → FoI W_X12_expr σ0 (rc21 a0 a1 a2 τ)) {x1 : Int32} {x2 : Int32} {x3 : Int32} {σ : Mm} (hF : Fr W_X12_expr σ0 σ) : FoI W_X12_expr σ0 (F_X12_expr_318 rc21 x1 x2 x3 σ) := by
  unfold F_X12_expr_318
  exact (fo_F_X12_expr_328 hrc21 (Fr.A hF rfl))
theorem fo_F_X12_expr_307 {σ0 : Mm} {rc21 : Int32 → Int32 → Int32 → Mm → Option (Int32 × Mm)} (hrc21 : ∀ a0 a1 a2 τ, Fr W_X12_expr σ0 τ → FoI W_X12_expr σ0 (rc21 a0 a1 a2 τ)) {x1 : Int32} {x2 : Int32} {x3 : Int32} {s0 : Int32} {σ : Mm} (hF : Fr W_X12_expr σ0 σ) : FoI W_X12_expr σ0 (F_X12_expr_307 rc21 x1 x2 x3 s0 σ) := by
  unfold F_X12_expr_307
  exact (fI_ite (fI_some hF) (fV_I (Wc := W_X12_reduce) hF rfl (fo_F_X12_reduce Fr_r) (fun _ h1 => (fo_F_X12_expr_318 hrc21 h1))))
theorem fo_F_X12_expr_302 {σ0 : Mm} {s0 : Int32} {σ : Mm} (hF : Fr W_X12_expr σ0 σ) : FoI W_X12_expr σ0 (F_X12_expr_302 s0 σ) := by
  unfold F_X12_expr_302
  exact (fI_ite (fI_some hF) fI_none)
theorem fo_F_X12_expr_294 {σ0 : Mm} {rc21 : Int32 → Int32 → Int32 → Mm → Option (Int32 × Mm)} (hrc21 : ∀ a0 a1 a2 τ, Fr W_X12_expr σ0 τ → FoI W_X12_expr σ0 (rc21 a0 a1 a2 τ)) {x1 : Int32} {x2 : Int32} {x3 : Int32} {s0 : Int32} {σ : Mm} (hF : Fr W_X12_expr σ0 σ) : FoI W_X12_expr σ0 (F_X12_expr_294 rc21 x1 x2 x3 s0 σ) := by
  unfold F_X12_expr_294
  exact (fI_ite (fI_I (Wc := W_X12_wrong) hF rfl (fo_F_X12_wrong Fr_r) (fun _ _ h1 => (fo_F_X12_expr_302  h1))) (fI_I (Wc := W_X12_pass) hF rfl (fo_F_X12_pass Fr_r) (fun _ _ h2 => (fo_F_X12_expr_307 hrc21 h2))))
theorem fo_F_X12_expr_243 {σ0 : Mm} {rc21 : Int32 → Int32 → Int32 → Mm → Option (Int32 × Mm)} (hrc21 : ∀ a0 a1 a2 τ, Fr W_X12_expr σ0 τ → FoI W_X12_expr σ0 (rc21 a0 a1 a2 τ)) {x1 : Int32} {x2 : Int32} {x3 : Int32} {s0 : Int32} {σ : Mm} (hF : Fr W_X12_expr σ0 σ) : FoI W_X12_expr σ0 (F_X12_expr_243 rc21 x1 x2 x3 s0 σ) := by
  unfold F_X12_expr_243
  exact (fI_ite (fI_ite (hrc21 _ _ _ _ hF) (fI_I (Wc := W_X12_isSign) hF rfl (fo_F_X12_isSign Fr_r) (fun _ _ h1 => (fo_F_X12_expr_294 hrc21 h1)))) (fo_F_X12_expr_246 hrc21 hF))
theorem fo_F_X12_expr_234 {σ0 : Mm} {rc21 : Int32 → Int32 → Int32 → Mm → Option (Int32 × Mm)} (hrc21 : ∀ a0 a1 a2 τ, Fr W_X12_expr σ0 τ → FoI W_X12_expr σ0 (rc21 a0 a1 a2 τ)) {x1 : Int32} {x2 : Int32} {x3 : Int32} {s0 : Int32} {σ : Mm} (hF : Fr W_X12_expr σ0 σ) : FoI W_X12_expr σ0 (F_X12_expr_234 rc21 x1 x2 x3 s0 σ) := by
  unfold F_X12_expr_234
  exact (fI_ite (fI_I (Wc := W_X12_isSign) hF rfl (fo_F_X12_isSign Fr_r) (fun _ _ h1 => (fo_F_X12_expr_243 hrc21 h1))) (fo_F_X12_expr_246 hrc21 hF))
theorem fo_F_X12_expr_187 {σ0 : Mm} {rc21 : Int32 → Int32 → Int32 → Mm → Option (Int32 × Mm)} (hrc21 : ∀ a0 a1 a2 τ, Fr W_X12_expr σ0 τ → FoI W_X12_expr σ0 (rc21 a0 a1 a2 τ)) {x1 : Int32} {x2 : Int32} {x3 : Int32} {s0 : Int32} {σ : Mm} (hF : Fr W_X12_expr σ0 σ) : FoI W_X12_expr σ0 (F_X12_expr_187 rc21 x1 x2 x3 s0 σ) := by
  unfold F_X12_expr_187
  exact (fI_ite (fI_I (Wc := W_X12_isSign) hF rfl (fo_F_X12_isSign Fr_r) (fun _ _ h1 => (fo_F_X12_expr_234 hrc21 h1))) (fo_F_X12_expr_190 hrc21 hF))
theorem fo_F_X12_expr_178 {σ0 : Mm} {rc21 : Int32 → Int32 → Int32 → Mm → Option (Int32 × Mm)} (hrc21 : ∀ a0 a1 a2 τ, Fr W_X12_expr σ0 τ → FoI W_X12_expr σ0 (rc21 a0 a1 a2 τ)) {x1 : Int32} {x2 : Int32} {x3 : Int32} {s0 : Int32} {σ : Mm} (hF : Fr W_X12_expr σ0 σ) : FoI W_X12_expr σ0 (F_X12_expr_178 rc21 x1 x2 x3 s0 σ) := by
  unfold F_X12_expr_178
  exact (fI_ite (fI_I (Wc := W_X12_isSign) hF rfl (fo_F_X12_isSign Fr_r) (fun _ _ h1 => (fo_F_X12_expr_187 hrc21 h1))) (fo_F_X12_expr_190 hrc21 hF))
theorem fo_F_X12_expr_162 {σ0 : Mm} {rc21 : Int32 → Int32 → Int32 → Mm → Option (Int32 × Mm)} (hrc21 : ∀ a0 a1 a2 τ, Fr W_X12_expr σ0 τ → FoI W_X12_expr σ0 (rc21 a0 a1 a2 τ)) {x1 : Int32} {x3 : Int32} {s0 : Int32} {σ : Mm} (hF : Fr W_X12_expr σ0 σ) : FoI W_X12_expr σ0 (F_X12_expr_162 rc21 x1 x3 s0 σ) := by
  unfold F_X12_expr_162
  exact (fI_ite (fI_some hF) (hrc21 _ _ _ _ hF))
theorem fo_F_X12_expr_158 {σ0 : Mm} {rc21 : Int32 → Int32 → Int32 → Mm → Option (Int32 × Mm)} (hrc21 : ∀ a0 a1 a2 τ, Fr W_X12_expr σ0 τ → FoI W_X12_expr σ0 (rc21 a0 a1 a2 τ)) {x1 : Int32} {x3 : Int32} {σ : Mm} (hF : Fr W_X12_expr σ0 σ) : FoI W_X12_expr σ0 (F_X12_expr_158 rc21 x1 x3 σ) := by
  unfold F_X12_expr_158
  exact (fI_I (Wc := W_X12_pass) hF rfl (fo_F_X12_pass Fr_r) (fun _ _ h1 => (fo_F_X12_expr_162 hrc21 h1)))
theorem fo_F_X12_expr_155 {σ0 : Mm} {rc21 : Int32 → Int32 → Int32 → Mm → Option (Int32 × Mm)} (hrc21 : ∀ a0 a1 a2 τ, Fr W_X12_expr σ0 τ → FoI W_X12_expr σ0 (rc21 a0 a1 a2 τ)) {x1 : Int32} {x3 : Int32} {s0 : Int32} {s1 : Int32} {σ : Mm} (hF : Fr W_X12_expr σ0 σ) : FoI W_X12_expr σ0 (F_X12_expr_155 rc21 x1 x3 s0 s1 σ) := by
  unfold F_X12_expr_155
  exact (fV_I (Wc := W_X12_emit) hF rfl (fo_F_X12_emit Fr_r) (fun _ h1 => (fo_F_X12_expr_158 hrc21 h1)))
theorem fo_F_X12_expr_136 {σ0 : Mm} {rc21 : Int32 → Int32 → Int32 → Mm → Option (Int32 × Mm)} (hrc21 : ∀ a0 a1 a2 τ, Fr W_X12_expr σ0 τ → FoI W_X12_expr σ0 (rc21 a0 a1 a2 τ)) {x1 : Int32} {x3 : Int32} {x4 : Int32} {s0 : Int32} {σ : Mm} (hF : Fr W_X12_expr σ0 σ) : FoI W_X12_expr σ0 (F_X12_expr_136 rc21 x1 x3 x4 s0 σ) := by
  unfold F_X12_expr_136
  exact (fI_ite (fo_F_X12_expr_155 hrc21 hF) (fI_ite (fo_F_X12_expr_155 hrc21 hF) fI_none))
theorem fo_F_X12_expr_125 {σ0 : Mm} {rc21 : Int32 → Int32 → Int32 → Mm → Option (Int32 × Mm)} (hrc21 : ∀ a0 a1 a2 τ, Fr W_X12_expr σ0 τ → FoI W_X12_expr σ0 (rc21 a0 a1 a2 τ)) {x1 : Int32} {x3 : Int32} {x4 : Int32} {σ : Mm} (hF : Fr W_X12_expr σ0 σ) : FoI W_X12_expr σ0 (F_X12_expr_125 rc21 x1 x3 x4 σ) := by
  unfold F_X12_expr_125
  exact (fI_ite (fo_F_X12_expr_136 hrc21 hF) (fo_F_X12_expr_136 hrc21 hF))
theorem fo_F_X12_expr_124 {σ0 : Mm} {s0 : Int32} {σ : Mm} (hF : Fr W_X12_expr σ0 σ) : FoI W_X12_expr σ0 (F_X12_expr_124 s0 σ) := by
  unfold F_X12_expr_124
  exact (fI_ite (fI_some hF) fI_none)
theorem fo_F_X12_expr_99 {σ0 : Mm} {rc21 : Int32 → Int32 → Int32 → Mm → Option (Int32 × Mm)} (hrc21 : ∀ a0 a1 a2 τ, Fr W_X12_expr σ0 τ → FoI W_X12_expr σ0 (rc21 a0 a1 a2 τ)) {x1 : Int32} {x3 : Int32} {s0 : Int32} {σ : Mm} (hF : Fr W_X12_expr σ0 σ) : FoI W_X12_expr σ0 (F_X12_expr_99 rc21 x1 x3 s0 σ) := by
  unfold F_X12_expr_99
  exact (fI_ite (fI_ite (fo_F_X12_expr_125 hrc21 hF) (fI_ite (fo_F_X12_expr_125 hrc21 hF) (fI_I (Wc := W_X12_wrong) hF rfl (fo_F_X12_wrong Fr_r) (fun _ _ h1 => (fo_F_X12_expr_124  h1))))) fI_none)
theorem fo_F_X12_expr_67 {σ0 : Mm} {rc21 : Int32 → Int32 → Int32 → Mm → Option (Int32 × Mm)} (hrc21 : ∀ a0 a1 a2 τ, Fr W_X12_expr σ0 τ → FoI W_X12_expr σ0 (rc21 a0 a1 a2 τ)) {x1 : Int32} {x2 : Int32} {x3 : Int32} {σ : Mm} (hF : Fr W_X12_expr σ0 σ) : FoI W_X12_expr σ0 (F_X12_expr_67 rc21 x1 x2 x3 σ) := by
  unfold F_X12_expr_67
  exact (hrc21 _ _ _ _ hF)
theorem fo_F_X12_expr_54 {σ0 : Mm} {rc21 : Int32 → Int32 → Int32 → Mm → Option (Int32 × Mm)} (hrc21 : ∀ a0 a1 a2 τ, Fr W_X12_expr σ0 τ → FoI W_X12_expr σ0 (rc21 a0 a1 a2 τ)) {x1 : Int32} {x2 : Int32} {x3 : Int32} {s0 : Int32} {σ : Mm} (hF : Fr W_X12_expr σ0 σ) : FoI W_X12_expr σ0 (F_X12_expr_54 rc21 x1 x2 x3 s0 σ) := by
  unfold F_X12_expr_54
  exact (fI_ite (fI_some hF) (fV_I (Wc := W_X12_await) hF rfl (fo_F_X12_await Fr_r) (fun _ h1 => (fo_F_X12_expr_67 hrc21 h1))))
theorem fo_F_X12_expr_49 {σ0 : Mm} {s0 : Int32} {σ : Mm} (hF : Fr W_X12_expr σ0 σ) : FoI W_X12_expr σ0 (F_X12_expr_49 s0 σ) := by
  unfold F_X12_expr_49
  exact (fI_ite (fI_some hF) fI_none)
theorem fo_F_X12_expr_35 {σ0 : Mm} {rc21 : Int32 → Int32 → Int32 → Mm → Option (Int32 × Mm)} (hrc21 : ∀ a0 a1 a2 τ, Fr W_X12_expr σ0 τ → FoI W_X12_expr σ0 (rc21 a0 a1 a2 τ)) {x1 : Int32} {x2 : Int32} {x3 : Int32} {s0 : Int32} {σ : Mm} (hF : Fr W_X12_expr σ0 σ) : FoI W_X12_expr σ0 (F_X12_expr_35 rc21 x1 x2 x3 s0 σ) := by
  unfold F_X12_expr_35
  exact (fI_ite (fI_ite (fI_ite (fI_ite (fo_F_X12_expr_99 hrc21 hF) fI_none) (fo_F_X12_expr_99 hrc21 hF)) fI_none) (fI_ite (fI_I (Wc := W_X12_wrong) hF rfl (fo_F_X12_wrong Fr_r) (fun _ _ h1 => (fo_F_X12_expr_49  h1))) (fI_I (Wc := W_X12_pass) hF rfl (fo_F_X12_pass Fr_r) (fun _ _ h2 => (fo_F_X12_expr_54 hrc21 h2)))))
theorem fo_B_X12_expr_21 {σ0 : Mm} {rc21 : Int32 → Int32 → Int32 → Mm → Option (Int32 × Mm)} (hrc21 : ∀ a0 a1 a2 τ, Fr W_X12_expr σ0 τ → FoI W_X12_expr σ0 (rc21 a0 a1 a2 τ)) {x1 : Int32} {x2 : Int32} {x3 : Int32} {σ : Mm} (hF : Fr W_X12_expr σ0 σ) : FoI W_X12_expr σ0 (B_X12_expr_21 rc21 x1 x2 x3 σ) := by
  unfold B_X12_expr_21
  exact (fI_ite (fV_I (Wc := W_X12_reduce) hF rfl (fo_F_X12_reduce Fr_r) (fun _ h1 => (fo_F_X12_expr_345  h1))) (fI_ite (fI_I (Wc := W_X12_isSign) hF rfl (fo_F_X12_isSign Fr_r) (fun _ _ h2 => (fo_F_X12_expr_178 hrc21 h2))) (fI_I (Wc := W_X12_isSign) hF rfl (fo_F_X12_isSign Fr_r) (fun _ _ h3 => (fo_F_X12_expr_35 hrc21 h3)))))
theorem fo_F_X12_expr_21 {σ0 : Mm} (n : Nat) : ∀ {y0 : Int32} {y1 : Int32} {y2 : Int32} {σ : Mm}, Fr W_X12_expr σ0 σ → FoI W_X12_expr σ0 (F_X12_expr_21  n y0 y1 y2 σ) := by
  induction n with
  | zero => intro y0 y1 y2 σ _; exact fI_none
  | succ n ih => intro y0 y1 y2 σ hF; exact fo_B_X12_expr_21  (fun _ _ _ _ h => ih h) hF
theorem fo_F_X12_expr_15 {σ0 : Mm} {σ : Mm} (hF : Fr W_X12_expr σ0 σ) : FoI W_X12_expr σ0 (F_X12_expr_15 σ) := by
  unfold F_X12_expr_15
  exact (fo_F_X12_expr_21  FU hF)
theorem fo_F_X12_expr_10 {σ0 : Mm} {σ : Mm} (hF : Fr W_X12_expr σ0 σ) : FoI W_X12_expr σ0 (F_X12_expr_10 σ) := by
  unfold F_X12_expr_10
  exact (fo_F_X12_expr_15  (Fr.A hF rfl))
theorem fo_F_X12_expr {σ0 : Mm} {σ : Mm} (hF : Fr W_X12_expr σ0 σ) : FoI W_X12_expr σ0 (F_X12_expr σ) := by
  unfold F_X12_expr
  exact (fI_ite (fo_F_X12_expr_10  (Fr.A hF rfl)) fI_none)
theorem fr_X12_expr {σ : Mm} : FoI W_X12_expr σ (F_X12_expr σ) := fo_F_X12_expr Fr_r
def W_X12_isWord : List (Nat × Nat × Nat) := []
theorem fo_F_X12_isWord {σ0 : Mm} {x1 : Int32} {σ : Mm} (hF : Fr W_X12_isWord σ0 σ) : FoI W_X12_isWord σ0 (F_X12_isWord x1 σ) := by
  unfold F_X12_isWord
  exact (fI_ite (fI_ite (fI_ite (fI_ite (fI_some hF) (fI_some hF)) fI_none) (fI_some hF)) fI_none)
theorem fr_X12_isWord {x1 : Int32} {σ : Mm} : FoI W_X12_isWord σ (F_X12_isWord x1 σ) := fo_F_X12_isWord Fr_r
def W_X12_cond : List (Nat × Nat × Nat) := [(3, 0, 7), (3, 0, 8), (3, 0, 9), (3, 0, 56), (3, 0, 58), (3, 0, 59), (3, 28, 999), (3, 29, 999), (3, 30, 999), (3, 31, 999), (3, 32, 999), (3, 33, 999), (3, 34, 999), (3, 35, 999), (3, 36, 999), (3, 37, 999), (3, 47, 999)]
theorem fo_F_X12_cond_270 {σ0 : Mm} {rc14 : Int32 → Int32 → Mm → Option (Int32 × Mm)} (hrc14 : ∀ a0 a1 τ, Fr W_X12_cond σ0 τ → FoI W_X12_cond σ0 (rc14 a0 a1 τ)) {x1 : Int32} {x2 : Int32} {σ : Mm} (hF : Fr W_X12_cond σ0 σ) : FoI W_X12_cond σ0 (F_X12_cond_270 rc14 x1 x2 σ) := by
  unfold F_X12_cond_270
  exact (hrc14 _ _ _ hF)
theorem fo_F_X12_cond_265 {σ0 : Mm} {rc14 : Int32 → Int32 → Mm → Option (Int32 × Mm)} (hrc14 : ∀ a0 a1 τ, Fr W_X12_cond σ0 τ → FoI W_X12_cond σ0 (rc14 a0 a1 τ)) {x1 : Int32} {x2 : Int32} {s0 : Int32} {σ : Mm} (hF : Fr W_X12_cond σ0 σ) : FoI W_X12_cond σ0 (F_X12_cond_265 rc14 x1 x2 s0 σ) := by
  unfold F_X12_cond_265
  exact (fI_ite (fI_some hF) (fo_F_X12_cond_270 hrc14 hF))
theorem fo_F_X12_cond_257 {σ0 : Mm} {rc14 : Int32 → Int32 → Mm → Option (Int32 × Mm)} (hrc14 : ∀ a0 a1 τ, Fr W_X12_cond σ0 τ → FoI W_X12_cond σ0 (rc14 a0 a1 τ)) {x1 : Int32} {x2 : Int32} {σ : Mm} (hF : Fr W_X12_cond σ0 σ) : FoI W_X12_cond σ0 (F_X12_cond_257 rc14 x1 x2 σ) := by
  unfold F_X12_cond_257
  exact (fI_ite (fo_F_X12_cond_270 hrc14 hF) (fI_I (Wc := W_X12_pass) hF rfl (fo_F_X12_pass Fr_r) (fun _ _ h1 => (fo_F_X12_cond_265 hrc14 h1))))
theorem fo_F_X12_cond_251 {σ0 : Mm} {rc14 : Int32 → Int32 → Mm → Option (Int32 × Mm)} (hrc14 : ∀ a0 a1 τ, Fr W_X12_cond σ0 τ → FoI W_X12_cond σ0 (rc14 a0 a1 τ)) {x1 : Int32} {x2 : Int32} {s0 : Int32} {σ : Mm} (hF : Fr W_X12_cond σ0 σ) : FoI W_X12_cond σ0 (F_X12_cond_251 rc14 x1 x2 s0 σ) := by
  unfold F_X12_cond_251
  exact (fI_ite (fo_F_X12_cond_257 hrc14 hF) (fo_F_X12_cond_257 hrc14 hF))
theorem fo_F_X12_cond_244 {σ0 : Mm} {rc14 : Int32 → Int32 → Mm → Option (Int32 × Mm)} (hrc14 : ∀ a0 a1 τ, Fr W_X12_cond σ0 τ → FoI W_X12_cond σ0 (rc14 a0 a1 τ)) {x1 : Int32} {s0 : Int32} {σ : Mm} (hF : Fr W_X12_cond σ0 σ) : FoI W_X12_cond σ0 (F_X12_cond_244 rc14 x1 s0 σ) := by
  unfold F_X12_cond_244
  exact (fI_I (Wc := W_X12_isWord) hF rfl (fo_F_X12_isWord Fr_r) (fun _ _ h1 => (fo_F_X12_cond_251 hrc14 h1)))
theorem fo_F_X12_cond_239 {σ0 : Mm} {rc14 : Int32 → Int32 → Mm → Option (Int32 × Mm)} (hrc14 : ∀ a0 a1 τ, Fr W_X12_cond σ0 τ → FoI W_X12_cond σ0 (rc14 a0 a1 τ)) {x1 : Int32} {σ : Mm} (hF : Fr W_X12_cond σ0 σ) : FoI W_X12_cond σ0 (F_X12_cond_239 rc14 x1 σ) := by
  unfold F_X12_cond_239
  exact (fo_F_X12_cond_244 hrc14 hF)
theorem fo_F_X12_cond_236 {σ0 : Mm} {rc14 : Int32 → Int32 → Mm → Option (Int32 × Mm)} (hrc14 : ∀ a0 a1 τ, Fr W_X12_cond σ0 τ → FoI W_X12_cond σ0 (rc14 a0 a1 τ)) {x1 : Int32} {s0 : Int32} {σ : Mm} (hF : Fr W_X12_cond σ0 σ) : FoI W_X12_cond σ0 (F_X12_cond_236 rc14 x1 s0 σ) := by
  unfold F_X12_cond_236
  exact (fI_ite (fo_F_X12_cond_244 hrc14 hF) (fo_F_X12_cond_239 hrc14 hF))
theorem fo_F_X12_cond_227 {σ0 : Mm} {rc14 : Int32 → Int32 → Mm → Option (Int32 × Mm)} (hrc14 : ∀ a0 a1 τ, Fr W_X12_cond σ0 τ → FoI W_X12_cond σ0 (rc14 a0 a1 τ)) {x1 : Int32} {s0 : Int32} {σ : Mm} (hF : Fr W_X12_cond σ0 σ) : FoI W_X12_cond σ0 (F_X12_cond_227 rc14 x1 s0 σ) := by
  unfold F_X12_cond_227
  exact (fI_ite (fI_I (Wc := W_X12_isWord) hF rfl (fo_F_X12_isWord Fr_r) (fun _ _ h1 => (fo_F_X12_cond_236 hrc14 h1))) (fo_F_X12_cond_239 hrc14 hF))
theorem fo_F_X12_cond_221 {σ0 : Mm} {rc14 : Int32 → Int32 → Mm → Option (Int32 × Mm)} (hrc14 : ∀ a0 a1 τ, Fr W_X12_cond σ0 τ → FoI W_X12_cond σ0 (rc14 a0 a1 τ)) {x1 : Int32} {σ : Mm} (hF : Fr W_X12_cond σ0 σ) : FoI W_X12_cond σ0 (F_X12_cond_221 rc14 x1 σ) := by
  unfold F_X12_cond_221
  exact (fI_I (Wc := W_X12_isWord) hF rfl (fo_F_X12_isWord Fr_r) (fun _ _ h1 => (fo_F_X12_cond_227 hrc14 h1)))
theorem fo_F_X12_cond_211 {σ0 : Mm} {rc14 : Int32 → Int32 → Mm → Option (Int32 × Mm)} (hrc14 : ∀ a0 a1 τ, Fr W_X12_cond σ0 τ → FoI W_X12_cond σ0 (rc14 a0 a1 τ)) {x1 : Int32} {σ : Mm} (hF : Fr W_X12_cond σ0 σ) : FoI W_X12_cond σ0 (F_X12_cond_211 rc14 x1 σ) := by
  unfold F_X12_cond_211
  exact (fI_ite (fI_ite (fo_F_X12_cond_221 hrc14 (Fr.AA hF rfl)) fI_none) fI_none)
theorem fo_F_X12_cond_204 {σ0 : Mm} {rc14 : Int32 → Int32 → Mm → Option (Int32 × Mm)} (hrc14 : ∀ a0 a1 τ, Fr W_X12_cond σ0 τ → FoI W_X12_cond σ0 (rc14 a0 a1 τ)) {x1 : Int32} {x3 : Int32} {σ : Mm} (hF : Fr W_X12_cond σ0 σ) : FoI W_X12_cond σ0 (F_X12_cond_204 rc14 x1 x3 σ) := by
  unfold F_X12_cond_204
  exact (fI_ite (fo_F_X12_cond_211 hrc14 (Fr.AA hF rfl)) fI_none)
theorem fo_F_X12_cond_196 {σ0 : Mm} {rc14 : Int32 → Int32 → Mm → Option (Int32 × Mm)} (hrc14 : ∀ a0 a1 τ, Fr W_X12_cond σ0 τ → FoI W_X12_cond σ0 (rc14 a0 a1 τ)) {x1 : Int32} {x3 : Int32} {x4 : Int32} {σ : Mm} (hF : Fr W_X12_cond σ0 σ) : FoI W_X12_cond σ0 (F_X12_cond_196 rc14 x1 x3 x4 σ) := by
  unfold F_X12_cond_196
  exact (fI_ite (fo_F_X12_cond_204 hrc14 (Fr.AA hF rfl)) fI_none)
theorem fo_F_X12_cond_179 {σ0 : Mm} {rc14 : Int32 → Int32 → Mm → Option (Int32 × Mm)} (hrc14 : ∀ a0 a1 τ, Fr W_X12_cond σ0 τ → FoI W_X12_cond σ0 (rc14 a0 a1 τ)) {x1 : Int32} {x3 : Int32} {x4 : Int32} {s0 : Int32} {σ : Mm} (hF : Fr W_X12_cond σ0 σ) : FoI W_X12_cond σ0 (F_X12_cond_179 rc14 x1 x3 x4 s0 σ) := by
  unfold F_X12_cond_179
  exact (fI_ite (fI_some hF) (fI_ite (fI_ite (fo_F_X12_cond_196 hrc14 (Fr.AA hF rfl)) fI_none) fI_none))
theorem fo_F_X12_cond_172 {σ0 : Mm} {rc14 : Int32 → Int32 → Mm → Option (Int32 × Mm)} (hrc14 : ∀ a0 a1 τ, Fr W_X12_cond σ0 τ → FoI W_X12_cond σ0 (rc14 a0 a1 τ)) {x1 : Int32} {x3 : Int32} {x4 : Int32} {s0 : Int32} {σ : Mm} (hF : Fr W_X12_cond σ0 σ) : FoI W_X12_cond σ0 (F_X12_cond_172 rc14 x1 x3 x4 s0 σ) := by
  unfold F_X12_cond_172
  exact (fI_ite (fI_some hF) (fI_I (Wc := W_X12_expr) hF rfl (fo_F_X12_expr Fr_r) (fun _ _ h1 => (fo_F_X12_cond_179 hrc14 h1))))
theorem fo_F_X12_cond_168 {σ0 : Mm} {rc14 : Int32 → Int32 → Mm → Option (Int32 × Mm)} (hrc14 : ∀ a0 a1 τ, Fr W_X12_cond σ0 τ → FoI W_X12_cond σ0 (rc14 a0 a1 τ)) {x1 : Int32} {x3 : Int32} {x4 : Int32} {σ : Mm} (hF : Fr W_X12_cond σ0 σ) : FoI W_X12_cond σ0 (F_X12_cond_168 rc14 x1 x3 x4 σ) := by
  unfold F_X12_cond_168
  exact (fI_I (Wc := W_X12_pass) hF rfl (fo_F_X12_pass Fr_r) (fun _ _ h1 => (fo_F_X12_cond_172 hrc14 h1)))
theorem fo_F_X12_cond_152 {σ0 : Mm} {s0 : Int32} {σ : Mm} (hF : Fr W_X12_cond σ0 σ) : FoI W_X12_cond σ0 (F_X12_cond_152 s0 σ) := by
  unfold F_X12_cond_152
  exact (fI_ite (fI_some hF) fI_none)
theorem fo_F_X12_cond_140 {σ0 : Mm} {rc14 : Int32 → Int32 → Mm → Option (Int32 × Mm)} (hrc14 : ∀ a0 a1 τ, Fr W_X12_cond σ0 τ → FoI W_X12_cond σ0 (rc14 a0 a1 τ)) {x1 : Int32} {x3 : Int32} {x4 : Int32} {s0 : Int32} {σ : Mm} (hF : Fr W_X12_cond σ0 σ) : FoI W_X12_cond σ0 (F_X12_cond_140 rc14 x1 x3 x4 s0 σ) := by
  unfold F_X12_cond_140
  exact (fI_ite (fI_I (Wc := W_X12_wrong) hF rfl (fo_F_X12_wrong Fr_r) (fun _ _ h1 => (fo_F_X12_cond_152  h1))) (fI_ite (fI_ite (fo_F_X12_cond_168 hrc14 (Fr.AA hF rfl)) fI_none) fI_none))
theorem fo_F_X12_cond_135 {σ0 : Mm} {rc14 : Int32 → Int32 → Mm → Option (Int32 × Mm)} (hrc14 : ∀ a0 a1 τ, Fr W_X12_cond σ0 τ → FoI W_X12_cond σ0 (rc14 a0 a1 τ)) {x1 : Int32} {x3 : Int32} {x4 : Int32} {σ : Mm} (hF : Fr W_X12_cond σ0 σ) : FoI W_X12_cond σ0 (F_X12_cond_135 rc14 x1 x3 x4 σ) := by
  unfold F_X12_cond_135
  exact (fo_F_X12_cond_140 hrc14 hF)
theorem fo_F_X12_cond_132 {σ0 : Mm} {rc14 : Int32 → Int32 → Mm → Option (Int32 × Mm)} (hrc14 : ∀ a0 a1 τ, Fr W_X12_cond σ0 τ → FoI W_X12_cond σ0 (rc14 a0 a1 τ)) {x1 : Int32} {x3 : Int32} {x4 : Int32} {s0 : Int32} {σ : Mm} (hF : Fr W_X12_cond σ0 σ) : FoI W_X12_cond σ0 (F_X12_cond_132 rc14 x1 x3 x4 s0 σ) := by
  unfold F_X12_cond_132
  exact (fI_ite (fo_F_X12_cond_140 hrc14 hF) (fo_F_X12_cond_135 hrc14 hF))
theorem fo_F_X12_cond_123 {σ0 : Mm} {rc14 : Int32 → Int32 → Mm → Option (Int32 × Mm)} (hrc14 : ∀ a0 a1 τ, Fr W_X12_cond σ0 τ → FoI W_X12_cond σ0 (rc14 a0 a1 τ)) {x1 : Int32} {x3 : Int32} {x4 : Int32} {s0 : Int32} {σ : Mm} (hF : Fr W_X12_cond σ0 σ) : FoI W_X12_cond σ0 (F_X12_cond_123 rc14 x1 x3 x4 s0 σ) := by
  unfold F_X12_cond_123
  exact (fI_ite (fI_I (Wc := W_X12_isSign) hF rfl (fo_F_X12_isSign Fr_r) (fun _ _ h1 => (fo_F_X12_cond_132 hrc14 h1))) (fo_F_X12_cond_135 hrc14 hF))
theorem fo_F_X12_cond_113 {σ0 : Mm} {rc14 : Int32 → Int32 → Mm → Option (Int32 × Mm)} (hrc14 : ∀ a0 a1 τ, Fr W_X12_cond σ0 τ → FoI W_X12_cond σ0 (rc14 a0 a1 τ)) {x1 : Int32} {x3 : Int32} {x4 : Int32} {s0 : Int32} {σ : Mm} (hF : Fr W_X12_cond σ0 σ) : FoI W_X12_cond σ0 (F_X12_cond_113 rc14 x1 x3 x4 s0 σ) := by
  unfold F_X12_cond_113
  exact (fI_ite (fI_I (Wc := W_X12_isSign) hF rfl (fo_F_X12_isSign Fr_r) (fun _ _ h1 => (fo_F_X12_cond_123 hrc14 h1))) (fo_F_X12_cond_135 hrc14 hF))
theorem fo_F_X12_cond_103 {σ0 : Mm} {rc14 : Int32 → Int32 → Mm → Option (Int32 × Mm)} (hrc14 : ∀ a0 a1 τ, Fr W_X12_cond σ0 τ → FoI W_X12_cond σ0 (rc14 a0 a1 τ)) {x1 : Int32} {x3 : Int32} {x4 : Int32} {s0 : Int32} {σ : Mm} (hF : Fr W_X12_cond σ0 σ) : FoI W_X12_cond σ0 (F_X12_cond_103 rc14 x1 x3 x4 s0 σ) := by
  unfold F_X12_cond_103
  exact (fI_ite (fI_I (Wc := W_X12_isSign) hF rfl (fo_F_X12_isSign Fr_r) (fun _ _ h1 => (fo_F_X12_cond_113 hrc14 h1))) (fo_F_X12_cond_135 hrc14 hF))
theorem fo_F_X12_cond_96 {σ0 : Mm} {rc14 : Int32 → Int32 → Mm → Option (Int32 × Mm)} (hrc14 : ∀ a0 a1 τ, Fr W_X12_cond σ0 τ → FoI W_X12_cond σ0 (rc14 a0 a1 τ)) {x1 : Int32} {x3 : Int32} {x4 : Int32} {σ : Mm} (hF : Fr W_X12_cond σ0 σ) : FoI W_X12_cond σ0 (F_X12_cond_96 rc14 x1 x3 x4 σ) := by
  unfold F_X12_cond_96
  exact (fI_I (Wc := W_X12_isSign) hF rfl (fo_F_X12_isSign Fr_r) (fun _ _ h1 => (fo_F_X12_cond_103 hrc14 h1)))
