/-! frames, by program -/
theorem fo_F_X12_cond_84 {σ0 : Mm} {rc14 : Int32 → Int32 → Mm → Option (Int32 × Mm)} (hrc14 : ∀ a0 a1 τ, Fr W_X12_cond σ0 τ → FoI W_X12_cond σ0 (rc14 a0 a1 τ)) {x1 : Int32} {x3 : Int32} {x4 : Int32} {σ : Mm} (hF : Fr W_X12_cond σ0 σ) : FoI W_X12_cond σ0 (F_X12_cond_84 rc14 x1 x3 x4 σ) := by
  unfold F_X12_cond_84
  exact (fI_ite (fI_ite (fo_F_X12_cond_96 hrc14 (Fr.AA hF rfl)) fI_none) fI_none)
theorem fo_F_X12_cond_69 {σ0 : Mm} {rc14 : Int32 → Int32 → Mm → Option (Int32 × Mm)} (hrc14 : ∀ a0 a1 τ, Fr W_X12_cond σ0 τ → FoI W_X12_cond σ0 (rc14 a0 a1 τ)) {x1 : Int32} {x3 : Int32} {x4 : Int32} {s0 : Int32} {σ : Mm} (hF : Fr W_X12_cond σ0 σ) : FoI W_X12_cond σ0 (F_X12_cond_69 rc14 x1 x3 x4 s0 σ) := by
  unfold F_X12_cond_69
  exact (fI_ite (fI_some hF) (fI_ite (fo_F_X12_cond_84 hrc14 (Fr.AA hF rfl)) fI_none))
theorem fo_F_X12_cond_60 {σ0 : Mm} {rc14 : Int32 → Int32 → Mm → Option (Int32 × Mm)} (hrc14 : ∀ a0 a1 τ, Fr W_X12_cond σ0 τ → FoI W_X12_cond σ0 (rc14 a0 a1 τ)) {rc32 : Int32 → Int32 → Int32 → Mm → Option (Int32 × Mm)} (hrc32 : ∀ a0 a1 a2 τ, Fr W_X12_cond σ0 τ → FoI W_X12_cond σ0 (rc32 a0 a1 a2 τ)) {x1 : Int32} {x3 : Int32} {s0 : Int32} {σ : Mm} (hF : Fr W_X12_cond σ0 σ) : FoI W_X12_cond σ0 (F_X12_cond_60 rc14 rc32 x1 x3 s0 σ) := by
  unfold F_X12_cond_60
  exact (hrc32 _ _ _ _ hF)
theorem fo_F_X12_cond_45 {σ0 : Mm} {rc14 : Int32 → Int32 → Mm → Option (Int32 × Mm)} (hrc14 : ∀ a0 a1 τ, Fr W_X12_cond σ0 τ → FoI W_X12_cond σ0 (rc14 a0 a1 τ)) {rc32 : Int32 → Int32 → Int32 → Mm → Option (Int32 × Mm)} (hrc32 : ∀ a0 a1 a2 τ, Fr W_X12_cond σ0 τ → FoI W_X12_cond σ0 (rc32 a0 a1 a2 τ)) {x1 : Int32} {x3 : Int32} {x4 : Int32} {s0 : Int32} {σ : Mm} (hF : Fr W_X12_cond σ0 σ) : FoI W_X12_cond σ0 (F_X12_cond_45 rc14 rc32 x1 x3 x4 s0 σ) := by
  unfold F_X12_cond_45
  exact (fI_ite (fI_some hF) (fI_ite (fo_F_X12_cond_60 hrc14 hrc32 hF) (fo_F_X12_cond_60 hrc14 hrc32 hF)))
theorem fo_F_X12_cond_38 {σ0 : Mm} {rc14 : Int32 → Int32 → Mm → Option (Int32 × Mm)} (hrc14 : ∀ a0 a1 τ, Fr W_X12_cond σ0 τ → FoI W_X12_cond σ0 (rc14 a0 a1 τ)) {rc32 : Int32 → Int32 → Int32 → Mm → Option (Int32 × Mm)} (hrc32 : ∀ a0 a1 a2 τ, Fr W_X12_cond σ0 τ → FoI W_X12_cond σ0 (rc32 a0 a1 a2 τ)) {x1 : Int32} {x3 : Int32} {x4 : Int32} {s0 : Int32} {σ : Mm} (hF : Fr W_X12_cond σ0 σ) : FoI W_X12_cond σ0 (F_X12_cond_38 rc14 rc32 x1 x3 x4 s0 σ) := by
  unfold F_X12_cond_38
  exact (fI_ite (fI_I (Wc := W_X12_expr) hF rfl (fo_F_X12_expr Fr_r) (fun _ _ h1 => (fo_F_X12_cond_69 hrc14 h1))) (fI_I (Wc := W_X12_pass) hF rfl (fo_F_X12_pass Fr_r) (fun _ _ h2 => (fo_F_X12_cond_45 hrc14 hrc32 h2))))
theorem fo_B_X12_cond_32 {σ0 : Mm} {rc14 : Int32 → Int32 → Mm → Option (Int32 × Mm)} (hrc14 : ∀ a0 a1 τ, Fr W_X12_cond σ0 τ → FoI W_X12_cond σ0 (rc14 a0 a1 τ)) {rc32 : Int32 → Int32 → Int32 → Mm → Option (Int32 × Mm)} (hrc32 : ∀ a0 a1 a2 τ, Fr W_X12_cond σ0 τ → FoI W_X12_cond σ0 (rc32 a0 a1 a2 τ)) {x1 : Int32} {x3 : Int32} {x4 : Int32} {σ : Mm} (hF : Fr W_X12_cond σ0 σ) : FoI W_X12_cond σ0 (B_X12_cond_32 rc14 rc32 x1 x3 x4 σ) := by
  unfold B_X12_cond_32
  exact (fI_I (Wc := W_X12_isWord) hF rfl (fo_F_X12_isWord Fr_r) (fun _ _ h1 => (fo_F_X12_cond_38 hrc14 hrc32 h1)))
theorem fo_F_X12_cond_32 {σ0 : Mm} {rc14 : Int32 → Int32 → Mm → Option (Int32 × Mm)} (hrc14 : ∀ a0 a1 τ, Fr W_X12_cond σ0 τ → FoI W_X12_cond σ0 (rc14 a0 a1 τ)) (n : Nat) : ∀ {y0 : Int32} {y1 : Int32} {y2 : Int32} {σ : Mm}, Fr W_X12_cond σ0 σ → FoI W_X12_cond σ0 (F_X12_cond_32 rc14 n y0 y1 y2 σ) := by
  induction n with
  | zero => intro y0 y1 y2 σ _; exact fI_none
  | succ n ih => intro y0 y1 y2 σ hF; exact fo_B_X12_cond_32 hrc14 (fun _ _ _ _ h => ih h) hF
theorem fo_F_X12_cond_29 {σ0 : Mm} {rc14 : Int32 → Int32 → Mm → Option (Int32 × Mm)} (hrc14 : ∀ a0 a1 τ, Fr W_X12_cond σ0 τ → FoI W_X12_cond σ0 (rc14 a0 a1 τ)) {x1 : Int32} {x3 : Int32} {σ : Mm} (hF : Fr W_X12_cond σ0 σ) : FoI W_X12_cond σ0 (F_X12_cond_29 rc14 x1 x3 σ) := by
  unfold F_X12_cond_29
  exact (fo_F_X12_cond_32 hrc14 FU hF)
theorem fo_B_X12_cond_14 {σ0 : Mm} {rc14 : Int32 → Int32 → Mm → Option (Int32 × Mm)} (hrc14 : ∀ a0 a1 τ, Fr W_X12_cond σ0 τ → FoI W_X12_cond σ0 (rc14 a0 a1 τ)) {x1 : Int32} {x2 : Int32} {σ : Mm} (hF : Fr W_X12_cond σ0 σ) : FoI W_X12_cond σ0 (B_X12_cond_14 rc14 x1 x2 σ) := by
  unfold B_X12_cond_14
  exact (fI_ite (fI_some hF) (fI_ite (fo_F_X12_cond_29 hrc14 hF) fI_none))
theorem fo_F_X12_cond_14 {σ0 : Mm} (n : Nat) : ∀ {y0 : Int32} {y1 : Int32} {σ : Mm}, Fr W_X12_cond σ0 σ → FoI W_X12_cond σ0 (F_X12_cond_14  n y0 y1 σ) := by
  induction n with
  | zero => intro y0 y1 σ _; exact fI_none
  | succ n ih => intro y0 y1 σ hF; exact fo_B_X12_cond_14  (fun _ _ _ h => ih h) hF
theorem fo_F_X12_cond_10 {σ0 : Mm} {σ : Mm} (hF : Fr W_X12_cond σ0 σ) : FoI W_X12_cond σ0 (F_X12_cond_10 σ) := by
  unfold F_X12_cond_10
  exact (fo_F_X12_cond_14  FU hF)
theorem fo_F_X12_cond {σ0 : Mm} {σ : Mm} (hF : Fr W_X12_cond σ0 σ) : FoI W_X12_cond σ0 (F_X12_cond σ) := by
  unfold F_X12_cond
  exact (fI_ite (fo_F_X12_cond_10  (Fr.A hF rfl)) fI_none)
theorem fr_X12_cond {σ : Mm} : FoI W_X12_cond σ (F_X12_cond σ) := fo_F_X12_cond Fr_r
def W_X12_count : List (Nat × Nat × Nat) := []
theorem fo_F_X12_count_143 {σ0 : Mm} {s0 : Int32} {s1 : Int32} {σ : Mm} (hF : Fr W_X12_count σ0 σ) : FoI W_X12_count σ0 (F_X12_count_143 s0 s1 σ) := by
  unfold F_X12_count_143
  exact (fI_ite (fI_ite (fI_some hF) (fI_some hF)) fI_none)
theorem fo_F_X12_count_129 {σ0 : Mm} {s0 : Int32} {σ : Mm} (hF : Fr W_X12_count σ0 σ) : FoI W_X12_count σ0 (F_X12_count_129 s0 σ) := by
  unfold F_X12_count_129
  exact (fI_ite (fI_ite (fo_F_X12_count_143  hF) (fo_F_X12_count_143  hF)) fI_none)
theorem fo_F_X12_count {σ0 : Mm} {x1 : Int32} {σ : Mm} (hF : Fr W_X12_count σ0 σ) : FoI W_X12_count σ0 (F_X12_count x1 σ) := by
  unfold F_X12_count
  exact (fI_ite (fI_ite (fI_some hF) fI_none) (fI_ite (fI_ite (fI_some hF) fI_none) (fI_ite (fI_ite (fI_some hF) fI_none) (fI_ite (fI_ite (fI_some hF) fI_none) (fI_ite (fI_ite (fI_some hF) fI_none) (fI_ite (fI_ite (fI_some hF) fI_none) (fI_ite (fI_ite (fI_some hF) fI_none) (fI_ite (fI_some hF) (fI_ite (fI_some hF) (fI_ite (fI_ite (fI_ite (fo_F_X12_count_129  hF) (fo_F_X12_count_129  hF)) fI_none) (fI_some hF)))))))))))
theorem fr_X12_count {x1 : Int32} {σ : Mm} : FoI W_X12_count σ (F_X12_count x1 σ) := fo_F_X12_count Fr_r
def W_X12_isThing : List (Nat × Nat × Nat) := []
theorem fo_F_X12_isThing {σ0 : Mm} {x1 : Int32} {σ : Mm} (hF : Fr W_X12_isThing σ0 σ) : FoI W_X12_isThing σ0 (F_X12_isThing x1 σ) := by
  unfold F_X12_isThing
  exact (fI_ite (fI_some hF) (fI_ite (fI_ite (fI_some hF) (fI_some hF)) fI_none))
theorem fr_X12_isThing {x1 : Int32} {σ : Mm} : FoI W_X12_isThing σ (F_X12_isThing x1 σ) := fo_F_X12_isThing Fr_r
def W_X12_date : List (Nat × Nat × Nat) := [(3, 38, 999), (3, 39, 999), (3, 40, 999), (3, 41, 999), (3, 42, 999)]
theorem fo_F_X12_date_27 {σ0 : Mm} {s0 : Int32} {σ : Mm} (hF : Fr W_X12_date σ0 σ) : FoI W_X12_date σ0 (F_X12_date_27 s0 σ) := by
  unfold F_X12_date_27
  exact (fI_some hF)
theorem fo_F_X12_date_5 {σ0 : Mm} {x1 : Int32} {x2 : Int32} {s0 : Int32} {σ : Mm} (hF : Fr W_X12_date σ0 σ) : FoI W_X12_date σ0 (F_X12_date_5 x1 x2 s0 σ) := by
  unfold F_X12_date_5
  exact (fI_ite (fI_some hF) (fI_ite (fI_some hF) (fI_I (Wc := W_X12_fact) hF rfl (fo_F_X12_fact Fr_r) (fun _ _ h1 => (fo_F_X12_date_27  h1)))))
theorem fo_F_X12_date {σ0 : Mm} {x1 : Int32} {x2 : Int32} {σ : Mm} (hF : Fr W_X12_date σ0 σ) : FoI W_X12_date σ0 (F_X12_date x1 x2 σ) := by
  unfold F_X12_date
  exact (fI_I (Wc := W_X12_isThing) hF rfl (fo_F_X12_isThing Fr_r) (fun _ _ h1 => (fo_F_X12_date_5  h1)))
theorem fr_X12_date {x1 : Int32} {x2 : Int32} {σ : Mm} : FoI W_X12_date σ (F_X12_date x1 x2 σ) := fo_F_X12_date Fr_r
def W_X12_degree : List (Nat × Nat × Nat) := []
theorem fo_F_X12_degree_34 {σ0 : Mm} {σ : Mm} (hF : Fr W_X12_degree σ0 σ) : FoI W_X12_degree σ0 (F_X12_degree_34 σ) := by
  unfold F_X12_degree_34
  exact (fI_some hF)
theorem fo_F_X12_degree_43 {σ0 : Mm} {s0 : Int32} {σ : Mm} (hF : Fr W_X12_degree σ0 σ) : FoI W_X12_degree σ0 (F_X12_degree_43 s0 σ) := by
  unfold F_X12_degree_43
  exact (fI_some hF)
theorem fo_F_X12_degree_38 {σ0 : Mm} {x1 : Int32} {x2 : Int32} {σ : Mm} (hF : Fr W_X12_degree σ0 σ) : FoI W_X12_degree σ0 (F_X12_degree_38 x1 x2 σ) := by
  unfold F_X12_degree_38
  exact (fI_I (Wc := W_X12_degreeOf) hF rfl (fo_F_X12_degreeOf Fr_r) (fun _ _ h1 => (fo_F_X12_degree_43  h1)))
theorem fo_F_X12_degree {σ0 : Mm} {x1 : Int32} {x2 : Int32} {σ : Mm} (hF : Fr W_X12_degree σ0 σ) : FoI W_X12_degree σ0 (F_X12_degree x1 x2 σ) := by
  unfold F_X12_degree
  exact (fI_ite (fo_F_X12_degree_34  hF) (fI_ite (fo_F_X12_degree_34  hF) (fI_ite (fI_ite (fo_F_X12_degree_34  hF) (fo_F_X12_degree_38  hF)) (fo_F_X12_degree_38  hF))))
theorem fr_X12_degree {x1 : Int32} {x2 : Int32} {σ : Mm} : FoI W_X12_degree σ (F_X12_degree x1 x2 σ) := fo_F_X12_degree Fr_r
def W_X12_typed : List (Nat × Nat × Nat) := [(3, 0, 0), (3, 1, 999)]
theorem fo_F_X12_typed_39 {σ0 : Mm} {rc2 : Int32 → Int32 → Mm → Option (Mm)} (hrc2 : ∀ a0 a1 τ, Fr W_X12_typed σ0 τ → FoV W_X12_typed σ0 (rc2 a0 a1 τ)) {x1 : Int32} {x2 : Int32} {σ : Mm} (hF : Fr W_X12_typed σ0 σ) : FoV W_X12_typed σ0 (F_X12_typed_39 rc2 x1 x2 σ) := by
  unfold F_X12_typed_39
  exact (hrc2 _ _ _ hF)
theorem fo_F_X12_typed_29 {σ0 : Mm} {rc2 : Int32 → Int32 → Mm → Option (Mm)} (hrc2 : ∀ a0 a1 τ, Fr W_X12_typed σ0 τ → FoV W_X12_typed σ0 (rc2 a0 a1 τ)) {x1 : Int32} {x2 : Int32} {σ : Mm} (hF : Fr W_X12_typed σ0 σ) : FoV W_X12_typed σ0 (F_X12_typed_29 rc2 x1 x2 σ) := by
  unfold F_X12_typed_29
  exact (fo_F_X12_typed_39 hrc2 (Fr.A hF rfl))
theorem fo_B_X12_typed_2 {σ0 : Mm} {rc2 : Int32 → Int32 → Mm → Option (Mm)} (hrc2 : ∀ a0 a1 τ, Fr W_X12_typed σ0 τ → FoV W_X12_typed σ0 (rc2 a0 a1 τ)) {x1 : Int32} {x2 : Int32} {σ : Mm} (hF : Fr W_X12_typed σ0 σ) : FoV W_X12_typed σ0 (B_X12_typed_2 rc2 x1 x2 σ) := by
  unfold B_X12_typed_2
  exact (fV_ite (fV_some hF) (fV_ite (fo_F_X12_typed_29 hrc2 (Fr.AA hF rfl)) fV_none))
theorem fo_F_X12_typed_2 {σ0 : Mm} (n : Nat) : ∀ {y0 : Int32} {y1 : Int32} {σ : Mm}, Fr W_X12_typed σ0 σ → FoV W_X12_typed σ0 (F_X12_typed_2  n y0 y1 σ) := by
  induction n with
  | zero => intro y0 y1 σ _; exact fV_none
  | succ n ih => intro y0 y1 σ hF; exact fo_B_X12_typed_2  (fun _ _ _ h => ih h) hF
theorem fo_F_X12_typed {σ0 : Mm} {x1 : Int32} {σ : Mm} (hF : Fr W_X12_typed σ0 σ) : FoV W_X12_typed σ0 (F_X12_typed x1 σ) := by
  unfold F_X12_typed
  exact (fo_F_X12_typed_2  FU hF)
theorem fr_X12_typed {x1 : Int32} {σ : Mm} : FoV W_X12_typed σ (F_X12_typed x1 σ) := fo_F_X12_typed Fr_r
def W_X12_feed : List (Nat × Nat × Nat) := [(3, 0, 0), (3, 1, 999)]
theorem fo_F_X12_feed_42 {σ0 : Mm} {σ : Mm} (hF : Fr W_X12_feed σ0 σ) : FoI W_X12_feed σ0 (F_X12_feed_42 σ) := by
  unfold F_X12_feed_42
  exact (fI_some hF)
theorem fo_F_X12_feed_36 {σ0 : Mm} {x5 : Int32} {σ : Mm} (hF : Fr W_X12_feed σ0 σ) : FoI W_X12_feed σ0 (F_X12_feed_36 x5 σ) := by
  unfold F_X12_feed_36
  exact (fV_I (Wc := W_X12_typed) hF rfl (fo_F_X12_typed Fr_r) (fun _ h1 => (fo_F_X12_feed_42  h1)))
theorem fo_F_X12_feed_30 {σ0 : Mm} {x4 : Int32} {x5 : Int32} {σ : Mm} (hF : Fr W_X12_feed σ0 σ) : FoI W_X12_feed σ0 (F_X12_feed_30 x4 x5 σ) := by
  unfold F_X12_feed_30
  exact (fV_I (Wc := W_X12_typed) hF rfl (fo_F_X12_typed Fr_r) (fun _ h1 => (fo_F_X12_feed_36  h1)))
theorem fo_F_X12_feed_25 {σ0 : Mm} {x3 : Int32} {x4 : Int32} {x5 : Int32} {σ : Mm} (hF : Fr W_X12_feed σ0 σ) : FoI W_X12_feed σ0 (F_X12_feed_25 x3 x4 x5 σ) := by
  unfold F_X12_feed_25
  exact (fV_I (Wc := W_X12_typed) hF rfl (fo_F_X12_typed Fr_r) (fun _ h1 => (fo_F_X12_feed_30  h1)))
theorem fo_F_X12_feed_20 {σ0 : Mm} {x2 : Int32} {x3 : Int32} {x4 : Int32} {x5 : Int32} {σ : Mm} (hF : Fr W_X12_feed σ0 σ) : FoI W_X12_feed σ0 (F_X12_feed_20 x2 x3 x4 x5 σ) := by
  unfold F_X12_feed_20
  exact (fV_I (Wc := W_X12_typed) hF rfl (fo_F_X12_typed Fr_r) (fun _ h1 => (fo_F_X12_feed_25  h1)))
theorem fo_F_X12_feed {σ0 : Mm} {x1 : Int32} {x2 : Int32} {x3 : Int32} {x4 : Int32} {x5 : Int32} {σ : Mm} (hF : Fr W_X12_feed σ0 σ) : FoI W_X12_feed σ0 (F_X12_feed x1 x2 x3 x4 x5 σ) := by
  unfold F_X12_feed
  exact (fI_ite (fV_I (Wc := W_X12_typed) hF rfl (fo_F_X12_typed Fr_r) (fun _ h1 => (fo_F_X12_feed_20  h1))) (fI_some hF))
theorem fr_X12_feed {x1 : Int32} {x2 : Int32} {x3 : Int32} {x4 : Int32} {x5 : Int32} {σ : Mm} : FoI W_X12_feed σ (F_X12_feed x1 x2 x3 x4 x5 σ) := fo_F_X12_feed Fr_r
def W_X12_found : List (Nat × Nat × Nat) := [(3, 8, 999), (3, 9, 999), (3, 10, 999), (3, 11, 999), (3, 12, 999), (3, 13, 999), (3, 38, 999), (3, 39, 999), (3, 40, 999), (3, 41, 999), (3, 42, 999)]
theorem fo_F_X12_found_123 {σ0 : Mm} {x4 : Int32} {σ : Mm} (hF : Fr W_X12_found σ0 σ) : FoI W_X12_found σ0 (F_X12_found_123 x4 σ) := by
  unfold F_X12_found_123
  exact (fI_some hF)
theorem fo_F_X12_found_113 {σ0 : Mm} {x4 : Int32} {σ : Mm} (hF : Fr W_X12_found σ0 σ) : FoI W_X12_found σ0 (F_X12_found_113 x4 σ) := by
  unfold F_X12_found_113
  exact (fI_ite (fI_ite (fo_F_X12_found_123  (Fr.AA hF rfl)) fI_none) fI_none)
theorem fo_F_X12_found_105 {σ0 : Mm} {x3 : Int32} {x4 : Int32} {σ : Mm} (hF : Fr W_X12_found σ0 σ) : FoI W_X12_found σ0 (F_X12_found_105 x3 x4 σ) := by
  unfold F_X12_found_105
  exact (fI_ite (fo_F_X12_found_113  (Fr.AA hF rfl)) fI_none)
theorem fo_F_X12_found_97 {σ0 : Mm} {x2 : Int32} {x3 : Int32} {x4 : Int32} {σ : Mm} (hF : Fr W_X12_found σ0 σ) : FoI W_X12_found σ0 (F_X12_found_97 x2 x3 x4 σ) := by
  unfold F_X12_found_97
  exact (fI_ite (fo_F_X12_found_105  (Fr.AA hF rfl)) fI_none)
theorem fo_F_X12_found_89 {σ0 : Mm} {x1 : Int32} {x2 : Int32} {x3 : Int32} {x4 : Int32} {σ : Mm} (hF : Fr W_X12_found σ0 σ) : FoI W_X12_found σ0 (F_X12_found_89 x1 x2 x3 x4 σ) := by
  unfold F_X12_found_89
  exact (fI_ite (fo_F_X12_found_97  (Fr.AA hF rfl)) fI_none)
theorem fo_F_X12_found_81 {σ0 : Mm} {x1 : Int32} {x2 : Int32} {x3 : Int32} {x4 : Int32} {σ : Mm} (hF : Fr W_X12_found σ0 σ) : FoI W_X12_found σ0 (F_X12_found_81 x1 x2 x3 x4 σ) := by
  unfold F_X12_found_81
  exact (fI_ite (fo_F_X12_found_89  (Fr.AA hF rfl)) fI_none)
theorem fo_F_X12_found_80 {σ0 : Mm} {x1 : Int32} {x2 : Int32} {x3 : Int32} {x4 : Int32} {s0 : Int32} {s1 : Int32} {σ : Mm} (hF : Fr W_X12_found σ0 σ) : FoI W_X12_found σ0 (F_X12_found_80 x1 x2 x3 x4 s0 s1 σ) := by
  unfold F_X12_found_80
  exact (fI_ite (fo_F_X12_found_81  (Fr.AA hF rfl)) fI_none)
theorem fo_F_X12_found_65 {σ0 : Mm} {x1 : Int32} {x2 : Int32} {x3 : Int32} {x4 : Int32} {σ : Mm} (hF : Fr W_X12_found σ0 σ) : FoI W_X12_found σ0 (F_X12_found_65 x1 x2 x3 x4 σ) := by
  unfold F_X12_found_65
  exact (fI_I (Wc := W_X12_fact) hF rfl (fo_F_X12_fact Fr_r) (fun _ _ h1 => (fo_F_X12_found_80  h1)))
theorem fo_F_X12_found {σ0 : Mm} {x1 : Int32} {x2 : Int32} {x3 : Int32} {σ : Mm} (hF : Fr W_X12_found σ0 σ) : FoI W_X12_found σ0 (F_X12_found x1 x2 x3 σ) := by
  unfold F_X12_found
  exact (fI_ite (fI_ite (fI_some hF) (fI_ite (fI_ite (fI_some hF) (fI_ite (fI_some hF) (fI_ite (fI_some hF) (fI_ite (fI_some hF) (fI_ite (fo_F_X12_found_65  hF) fI_none))))) fI_none)) fI_none)
theorem fr_X12_found {x1 : Int32} {x2 : Int32} {x3 : Int32} {σ : Mm} : FoI W_X12_found σ (F_X12_found x1 x2 x3 σ) := fo_F_X12_found Fr_r
def W_X12_isSpan : List (Nat × Nat × Nat) := []
theorem fo_F_X12_isSpan_7 {σ0 : Mm} {x3 : Int32} {x4 : Int32} {x5 : Int32} {s0 : Int32} {σ : Mm} (hF : Fr W_X12_isSpan σ0 σ) : FoI W_X12_isSpan σ0 (F_X12_isSpan_7 x3 x4 x5 s0 σ) := by
  unfold F_X12_isSpan_7
  exact (fI_ite (fI_some hF) (fI_ite (fI_some hF) (fI_ite (fI_some hF) (fI_ite (fI_some hF) (fI_some hF)))))
theorem fo_F_X12_isSpan {σ0 : Mm} {x1 : Int32} {x2 : Int32} {x3 : Int32} {x4 : Int32} {x5 : Int32} {σ : Mm} (hF : Fr W_X12_isSpan σ0 σ) : FoI W_X12_isSpan σ0 (F_X12_isSpan x1 x2 x3 x4 x5 σ) := by
  unfold F_X12_isSpan
  exact (fI_I (Wc := W_X12_isSet) hF rfl (fo_F_X12_isSet Fr_r) (fun _ _ h1 => (fo_F_X12_isSpan_7  h1)))
theorem fr_X12_isSpan {x1 : Int32} {x2 : Int32} {x3 : Int32} {x4 : Int32} {x5 : Int32} {σ : Mm} : FoI W_X12_isSpan σ (F_X12_isSpan x1 x2 x3 x4 x5 σ) := fo_F_X12_isSpan Fr_r
def W_X12_free : List (Nat × Nat × Nat) := [(3, 0, 69), (3, 48, 999), (3, 49, 999), (3, 50, 999), (3, 51, 999), (3, 52, 999), (3, 53, 999), (3, 54, 999), (3, 55, 999), (3, 56, 999), (3, 57, 999), (3, 58, 999)]
theorem fo_F_X12_free_80 {σ0 : Mm} {rc30 : Int32 → Int32 → Int32 → Int32 → Int32 → Int32 → Int32 → Mm → Option (Int32 × Mm)} (hrc30 : ∀ a0 a1 a2 a3 a4 a5 a6 τ, Fr W_X12_free σ0 τ → FoI W_X12_free σ0 (rc30 a0 a1 a2 a3 a4 a5 a6 τ)) {x1 : Int32} {x3 : Int32} {x4 : Int32} {x5 : Int32} {x6 : Int32} {x7 : Int32} {x8 : Int32} {σ : Mm} (hF : Fr W_X12_free σ0 σ) : FoI W_X12_free σ0 (F_X12_free_80 rc30 x1 x3 x4 x5 x6 x7 x8 σ) := by
  unfold F_X12_free_80
  exact (hrc30 _ _ _ _ _ _ _ _ hF)
theorem fo_F_X12_free_55 {σ0 : Mm} {rc30 : Int32 → Int32 → Int32 → Int32 → Int32 → Int32 → Int32 → Mm → Option (Int32 × Mm)} (hrc30 : ∀ a0 a1 a2 a3 a4 a5 a6 τ, Fr W_X12_free σ0 τ → FoI W_X12_free σ0 (rc30 a0 a1 a2 a3 a4 a5 a6 τ)) {x1 : Int32} {x3 : Int32} {x4 : Int32} {x5 : Int32} {x6 : Int32} {x7 : Int32} {x8 : Int32} {s0 : Int32} {σ : Mm} (hF : Fr W_X12_free σ0 σ) : FoI W_X12_free σ0 (F_X12_free_55 rc30 x1 x3 x4 x5 x6 x7 x8 s0 σ) := by
  unfold F_X12_free_55
  exact (fI_ite (fo_F_X12_free_80 hrc30 hF) (fo_F_X12_free_80 hrc30 hF))
theorem fo_F_X12_free_48 {σ0 : Mm} {rc30 : Int32 → Int32 → Int32 → Int32 → Int32 → Int32 → Int32 → Mm → Option (Int32 × Mm)} (hrc30 : ∀ a0 a1 a2 a3 a4 a5 a6 τ, Fr W_X12_free σ0 τ → FoI W_X12_free σ0 (rc30 a0 a1 a2 a3 a4 a5 a6 τ)) {x1 : Int32} {x3 : Int32} {x4 : Int32} {x5 : Int32} {x6 : Int32} {x7 : Int32} {x8 : Int32} {σ : Mm} (hF : Fr W_X12_free σ0 σ) : FoI W_X12_free σ0 (F_X12_free_48 rc30 x1 x3 x4 x5 x6 x7 x8 σ) := by
  unfold F_X12_free_48
  exact (fI_I (Wc := W_X12_hitsOf) hF rfl (fo_F_X12_hitsOf Fr_r) (fun _ _ h1 => (fo_F_X12_free_55 hrc30 h1)))
theorem fo_B_X12_free_30 {σ0 : Mm} {rc30 : Int32 → Int32 → Int32 → Int32 → Int32 → Int32 → Int32 → Mm → Option (Int32 × Mm)} (hrc30 : ∀ a0 a1 a2 a3 a4 a5 a6 τ, Fr W_X12_free σ0 τ → FoI W_X12_free σ0 (rc30 a0 a1 a2 a3 a4 a5 a6 τ)) {x1 : Int32} {x3 : Int32} {x4 : Int32} {x5 : Int32} {x6 : Int32} {x7 : Int32} {x8 : Int32} {σ : Mm} (hF : Fr W_X12_free σ0 σ) : FoI W_X12_free σ0 (B_X12_free_30 rc30 x1 x3 x4 x5 x6 x7 x8 σ) := by
  unfold B_X12_free_30
  exact (fI_ite (fI_some hF) (fV_I (Wc := W_X12_laySky) hF rfl (fo_F_X12_laySky Fr_r) (fun _ h1 => (fo_F_X12_free_48 hrc30 h1))))
theorem fo_F_X12_free_30 {σ0 : Mm} (n : Nat) : ∀ {y0 : Int32} {y1 : Int32} {y2 : Int32} {y3 : Int32} {y4 : Int32} {y5 : Int32} {y6 : Int32} {σ : Mm}, Fr W_X12_free σ0 σ → FoI W_X12_free σ0 (F_X12_free_30  n y0 y1 y2 y3 y4 y5 y6 σ) := by
  induction n with
  | zero => intro y0 y1 y2 y3 y4 y5 y6 σ _; exact fI_none
  | succ n ih => intro y0 y1 y2 y3 y4 y5 y6 σ hF; exact fo_B_X12_free_30  (fun _ _ _ _ _ _ _ _ h => ih h) hF
theorem fo_F_X12_free_21 {σ0 : Mm} {x1 : Int32} {x3 : Int32} {x4 : Int32} {x5 : Int32} {σ : Mm} (hF : Fr W_X12_free σ0 σ) : FoI W_X12_free σ0 (F_X12_free_21 x1 x3 x4 x5 σ) := by
  unfold F_X12_free_21
  exact (fo_F_X12_free_30  FU hF)
theorem fo_F_X12_free_11 {σ0 : Mm} {x1 : Int32} {x2 : Int32} {x3 : Int32} {x4 : Int32} {x5 : Int32} {s0 : Int32} {σ : Mm} (hF : Fr W_X12_free σ0 σ) : FoI W_X12_free σ0 (F_X12_free_11 x1 x2 x3 x4 x5 s0 σ) := by
  unfold F_X12_free_11
  exact (fI_ite (fI_some hF) (fV_I (Wc := W_X12_lay) hF rfl (fo_F_X12_lay Fr_r) (fun _ h1 => (fo_F_X12_free_21  h1))))
theorem fo_F_X12_free {σ0 : Mm} {x1 : Int32} {x2 : Int32} {x3 : Int32} {x4 : Int32} {x5 : Int32} {σ : Mm} (hF : Fr W_X12_free σ0 σ) : FoI W_X12_free σ0 (F_X12_free x1 x2 x3 x4 x5 σ) := by
  unfold F_X12_free
  exact (fI_I (Wc := W_X12_isSpan) hF rfl (fo_F_X12_isSpan Fr_r) (fun _ _ h1 => (fo_F_X12_free_11  h1)))
theorem fr_X12_free {x1 : Int32} {x2 : Int32} {x3 : Int32} {x4 : Int32} {x5 : Int32} {σ : Mm} : FoI W_X12_free σ (F_X12_free x1 x2 x3 x4 x5 σ) := fo_F_X12_free Fr_r
def W_X12_freer : List (Nat × Nat × Nat) := [(3, 0, 69), (3, 48, 999), (3, 49, 999), (3, 50, 999), (3, 51, 999), (3, 52, 999), (3, 53, 999), (3, 54, 999), (3, 55, 999), (3, 56, 999), (3, 57, 999), (3, 58, 999)]
theorem fo_F_X12_freer_83 {σ0 : Mm} {rc46 : Int32 → Int32 → Int32 → Int32 → Int32 → Int32 → Int32 → Mm → Option (Int32 × Mm)} (hrc46 : ∀ a0 a1 a2 a3 a4 a5 a6 τ, Fr W_X12_freer σ0 τ → FoI W_X12_freer σ0 (rc46 a0 a1 a2 a3 a4 a5 a6 τ)) {x1 : Int32} {x3 : Int32} {x4 : Int32} {x5 : Int32} {x7 : Int32} {x9 : Int32} {s0 : Int32} {s1 : Int32} {σ : Mm} (hF : Fr W_X12_freer σ0 σ) : FoI W_X12_freer σ0 (F_X12_freer_83 rc46 x1 x3 x4 x5 x7 x9 s0 s1 σ) := by
  unfold F_X12_freer_83
  exact (hrc46 _ _ _ _ _ _ _ _ hF)
theorem fo_F_X12_freer_73 {σ0 : Mm} {rc46 : Int32 → Int32 → Int32 → Int32 → Int32 → Int32 → Int32 → Mm → Option (Int32 × Mm)} (hrc46 : ∀ a0 a1 a2 a3 a4 a5 a6 τ, Fr W_X12_freer σ0 τ → FoI W_X12_freer σ0 (rc46 a0 a1 a2 a3 a4 a5 a6 τ)) {x1 : Int32} {x3 : Int32} {x4 : Int32} {x5 : Int32} {x7 : Int32} {x9 : Int32} {s0 : Int32} {s1 : Int32} {σ : Mm} (hF : Fr W_X12_freer σ0 σ) : FoI W_X12_freer σ0 (F_X12_freer_73 rc46 x1 x3 x4 x5 x7 x9 s0 s1 σ) := by
  unfold F_X12_freer_73
  exact (fI_ite (fo_F_X12_freer_83 hrc46 hF) (fo_F_X12_freer_83 hrc46 hF))
theorem fo_F_X12_freer_64 {σ0 : Mm} {rc46 : Int32 → Int32 → Int32 → Int32 → Int32 → Int32 → Int32 → Mm → Option (Int32 × Mm)} (hrc46 : ∀ a0 a1 a2 a3 a4 a5 a6 τ, Fr W_X12_freer σ0 τ → FoI W_X12_freer σ0 (rc46 a0 a1 a2 a3 a4 a5 a6 τ)) {x1 : Int32} {x3 : Int32} {x4 : Int32} {x5 : Int32} {x7 : Int32} {x8 : Int32} {x9 : Int32} {σ : Mm} (hF : Fr W_X12_freer σ0 σ) : FoI W_X12_freer σ0 (F_X12_freer_64 rc46 x1 x3 x4 x5 x7 x8 x9 σ) := by
  unfold F_X12_freer_64
  exact (fI_I (Wc := W_X12_hitsOf) hF rfl (fo_F_X12_hitsOf Fr_r) (fun _ _ h1 => (fo_F_X12_freer_73 hrc46 h1)))
theorem fo_B_X12_freer_46 {σ0 : Mm} {rc46 : Int32 → Int32 → Int32 → Int32 → Int32 → Int32 → Int32 → Mm → Option (Int32 × Mm)} (hrc46 : ∀ a0 a1 a2 a3 a4 a5 a6 τ, Fr W_X12_freer σ0 τ → FoI W_X12_freer σ0 (rc46 a0 a1 a2 a3 a4 a5 a6 τ)) {x1 : Int32} {x3 : Int32} {x4 : Int32} {x5 : Int32} {x7 : Int32} {x8 : Int32} {x9 : Int32} {σ : Mm} (hF : Fr W_X12_freer σ0 σ) : FoI W_X12_freer σ0 (B_X12_freer_46 rc46 x1 x3 x4 x5 x7 x8 x9 σ) := by
  unfold B_X12_freer_46
  exact (fI_ite (fI_some hF) (fV_I (Wc := W_X12_laySky) hF rfl (fo_F_X12_laySky Fr_r) (fun _ h1 => (fo_F_X12_freer_64 hrc46 h1))))
theorem fo_F_X12_freer_46 {σ0 : Mm} (n : Nat) : ∀ {y0 : Int32} {y1 : Int32} {y2 : Int32} {y3 : Int32} {y4 : Int32} {y5 : Int32} {y6 : Int32} {σ : Mm}, Fr W_X12_freer σ0 σ → FoI W_X12_freer σ0 (F_X12_freer_46  n y0 y1 y2 y3 y4 y5 y6 σ) := by
  induction n with
  | zero => intro y0 y1 y2 y3 y4 y5 y6 σ _; exact fI_none
  | succ n ih => intro y0 y1 y2 y3 y4 y5 y6 σ hF; exact fo_B_X12_freer_46  (fun _ _ _ _ _ _ _ _ h => ih h) hF
theorem fo_F_X12_freer_38 {σ0 : Mm} {x1 : Int32} {x3 : Int32} {x4 : Int32} {x5 : Int32} {s0 : Int32} {σ : Mm} (hF : Fr W_X12_freer σ0 σ) : FoI W_X12_freer σ0 (F_X12_freer_38 x1 x3 x4 x5 s0 σ) := by
  unfold F_X12_freer_38
  exact (fo_F_X12_freer_46  FU hF)
theorem fo_F_X12_freer_31 {σ0 : Mm} {x1 : Int32} {x3 : Int32} {x4 : Int32} {x5 : Int32} {σ : Mm} (hF : Fr W_X12_freer σ0 σ) : FoI W_X12_freer σ0 (F_X12_freer_31 x1 x3 x4 x5 σ) := by
  unfold F_X12_freer_31
  exact (fI_I (Wc := W_X12_hitsOf) hF rfl (fo_F_X12_hitsOf Fr_r) (fun _ _ h1 => (fo_F_X12_freer_38  h1)))
theorem fo_F_X12_freer_11 {σ0 : Mm} {x1 : Int32} {x2 : Int32} {x3 : Int32} {x4 : Int32} {x5 : Int32} {x6 : Int32} {s0 : Int32} {σ : Mm} (hF : Fr W_X12_freer σ0 σ) : FoI W_X12_freer σ0 (F_X12_freer_11 x1 x2 x3 x4 x5 x6 s0 σ) := by
  unfold F_X12_freer_11
  exact (fI_ite (fI_some hF) (fI_ite (fI_some hF) (fV_I (Wc := W_X12_layAll) hF rfl (fo_F_X12_layAll Fr_r) (fun _ h1 => (fo_F_X12_freer_31  h1)))))
theorem fo_F_X12_freer {σ0 : Mm} {x1 : Int32} {x2 : Int32} {x3 : Int32} {x4 : Int32} {x5 : Int32} {x6 : Int32} {σ : Mm} (hF : Fr W_X12_freer σ0 σ) : FoI W_X12_freer σ0 (F_X12_freer x1 x2 x3 x4 x5 x6 σ) := by
  unfold F_X12_freer
  exact (fI_I (Wc := W_X12_isSpan) hF rfl (fo_F_X12_isSpan Fr_r) (fun _ _ h1 => (fo_F_X12_freer_11  h1)))
theorem fr_X12_freer {x1 : Int32} {x2 : Int32} {x3 : Int32} {x4 : Int32} {x5 : Int32} {x6 : Int32} {σ : Mm} : FoI W_X12_freer σ (F_X12_freer x1 x2 x3 x4 x5 x6 σ) := fo_F_X12_freer Fr_r
def W_X12_gone : List (Nat × Nat × Nat) := [(3, 38, 999), (3, 39, 999), (3, 40, 999), (3, 41, 999), (3, 42, 999)]
theorem fo_F_X12_gone_16 {σ0 : Mm} {s0 : Int32} {σ : Mm} (hF : Fr W_X12_gone σ0 σ) : FoI W_X12_gone σ0 (F_X12_gone_16 s0 σ) := by
  unfold F_X12_gone_16
  exact (fI_some hF)
theorem fo_F_X12_gone_5 {σ0 : Mm} {x1 : Int32} {s0 : Int32} {σ : Mm} (hF : Fr W_X12_gone σ0 σ) : FoI W_X12_gone σ0 (F_X12_gone_5 x1 s0 σ) := by
  unfold F_X12_gone_5
  exact (fI_ite (fI_some hF) (fI_I (Wc := W_X12_fact) hF rfl (fo_F_X12_fact Fr_r) (fun _ _ h1 => (fo_F_X12_gone_16  h1))))
theorem fo_F_X12_gone {σ0 : Mm} {x1 : Int32} {σ : Mm} (hF : Fr W_X12_gone σ0 σ) : FoI W_X12_gone σ0 (F_X12_gone x1 σ) := by
  unfold F_X12_gone
  exact (fI_I (Wc := W_X12_isThing) hF rfl (fo_F_X12_isThing Fr_r) (fun _ _ h1 => (fo_F_X12_gone_5  h1)))
theorem fr_X12_gone {x1 : Int32} {σ : Mm} : FoI W_X12_gone σ (F_X12_gone x1 σ) := fo_F_X12_gone Fr_r
def W_X12_height : List (Nat × Nat × Nat) := []
theorem fo_F_X12_height_16 {σ0 : Mm} {s0 : Int32} {σ : Mm} (hF : Fr W_X12_height σ0 σ) : FoI W_X12_height σ0 (F_X12_height_16 s0 σ) := by
  unfold F_X12_height_16
  exact (fI_some hF)
theorem fo_F_X12_height {σ0 : Mm} {x1 : Int32} {σ : Mm} (hF : Fr W_X12_height σ0 σ) : FoI W_X12_height σ0 (F_X12_height x1 σ) := by
  unfold F_X12_height
  exact (fI_ite (fI_some hF) (fI_I (Wc := W_X12_heightOf) hF rfl (fo_F_X12_heightOf Fr_r) (fun _ _ h1 => (fo_F_X12_height_16  h1))))
theorem fr_X12_height {x1 : Int32} {σ : Mm} : FoI W_X12_height σ (F_X12_height x1 σ) := fo_F_X12_height Fr_r
def W_X12_hit : List (Nat × Nat × Nat) := [(3, 0, 69), (3, 48, 999), (3, 49, 999), (3, 50, 999), (3, 51, 999), (3, 52, 999), (3, 53, 999), (3, 54, 999), (3, 55, 999), (3, 56, 999), (3, 57, 999), (3, 58, 999)]
theorem fo_F_X12_hit_109 {σ0 : Mm} {x2 : Int32} {s0 : Int32} {σ : Mm} (hF : Fr W_X12_hit σ0 σ) : FoI W_X12_hit σ0 (F_X12_hit_109 x2 s0 σ) := by
  unfold F_X12_hit_109
  exact (fI_some hF)
theorem fo_F_X12_hit_82 {σ0 : Mm} {x1 : Int32} {x2 : Int32} {s0 : Int32} {σ : Mm} (hF : Fr W_X12_hit σ0 σ) : FoI W_X12_hit σ0 (F_X12_hit_82 x1 x2 s0 σ) := by
  unfold F_X12_hit_82
  exact (fI_ite (fI_some hF) (fI_ite (fI_ite (fI_I (Wc := W_X12_hitBy) hF rfl (fo_F_X12_hitBy Fr_r) (fun _ _ h1 => (fo_F_X12_hit_109  h1))) fI_none) fI_none))
theorem fo_F_X12_hit_54 {σ0 : Mm} {x1 : Int32} {x2 : Int32} {σ : Mm} (hF : Fr W_X12_hit σ0 σ) : FoI W_X12_hit σ0 (F_X12_hit_54 x1 x2 σ) := by
  unfold F_X12_hit_54
  exact (fI_ite (fI_ite (fI_some hF) (fI_ite (fI_ite (fI_I (Wc := W_X12_hitBy) hF rfl (fo_F_X12_hitBy Fr_r) (fun _ _ h1 => (fo_F_X12_hit_82  h1))) fI_none) fI_none)) fI_none)
theorem fo_F_X12_hit_49 {σ0 : Mm} {x1 : Int32} {x2 : Int32} {x3 : Int32} {σ : Mm} (hF : Fr W_X12_hit σ0 σ) : FoI W_X12_hit σ0 (F_X12_hit_49 x1 x2 x3 σ) := by
  unfold F_X12_hit_49
  exact (fV_I (Wc := W_X12_laySky) hF rfl (fo_F_X12_laySky Fr_r) (fun _ h1 => (fo_F_X12_hit_54  h1)))
theorem fo_F_X12_hit_38 {σ0 : Mm} {x1 : Int32} {x2 : Int32} {x3 : Int32} {x4 : Int32} {s0 : Int32} {σ : Mm} (hF : Fr W_X12_hit σ0 σ) : FoI W_X12_hit σ0 (F_X12_hit_38 x1 x2 x3 x4 s0 σ) := by
  unfold F_X12_hit_38
  exact (fI_ite (fI_some hF) (fV_I (Wc := W_X12_lay) hF rfl (fo_F_X12_lay Fr_r) (fun _ h1 => (fo_F_X12_hit_49  h1))))
theorem fo_F_X12_hit {σ0 : Mm} {x1 : Int32} {x2 : Int32} {x3 : Int32} {x4 : Int32} {σ : Mm} (hF : Fr W_X12_hit σ0 σ) : FoI W_X12_hit σ0 (F_X12_hit x1 x2 x3 x4 σ) := by
  unfold F_X12_hit
  exact (fI_ite (fI_some hF) (fI_ite (fI_some hF) (fI_ite (fI_ite (fI_some hF) (fI_ite (fI_some hF) (fI_I (Wc := W_X12_isKnown) hF rfl (fo_F_X12_isKnown Fr_r) (fun _ _ h1 => (fo_F_X12_hit_38  h1))))) fI_none)))
theorem fr_X12_hit {x1 : Int32} {x2 : Int32} {x3 : Int32} {x4 : Int32} {σ : Mm} : FoI W_X12_hit σ (F_X12_hit x1 x2 x3 x4 σ) := fo_F_X12_hit Fr_r
def W_X12_hitAt : List (Nat × Nat × Nat) := [(3, 0, 69), (3, 48, 999), (3, 49, 999), (3, 50, 999), (3, 51, 999), (3, 52, 999), (3, 53, 999), (3, 54, 999), (3, 55, 999), (3, 56, 999), (3, 57, 999), (3, 58, 999)]
theorem fo_F_X12_hitAt_83 {σ0 : Mm} {rc26 : Int32 → Int32 → Int32 → Int32 → Int32 → Mm → Option (Int32 × Mm)} (hrc26 : ∀ a0 a1 a2 a3 a4 τ, Fr W_X12_hitAt σ0 τ → FoI W_X12_hitAt σ0 (rc26 a0 a1 a2 a3 a4 τ)) {x1 : Int32} {x3 : Int32} {x5 : Int32} {x6 : Int32} {x7 : Int32} {σ : Mm} (hF : Fr W_X12_hitAt σ0 σ) : FoI W_X12_hitAt σ0 (F_X12_hitAt_83 rc26 x1 x3 x5 x6 x7 σ) := by
  unfold F_X12_hitAt_83
  exact (hrc26 _ _ _ _ _ _ hF)
theorem fo_F_X12_hitAt_62 {σ0 : Mm} {rc26 : Int32 → Int32 → Int32 → Int32 → Int32 → Mm → Option (Int32 × Mm)} (hrc26 : ∀ a0 a1 a2 a3 a4 τ, Fr W_X12_hitAt σ0 τ → FoI W_X12_hitAt σ0 (rc26 a0 a1 a2 a3 a4 τ)) {x1 : Int32} {x3 : Int32} {x5 : Int32} {x6 : Int32} {x7 : Int32} {s0 : Int32} {σ : Mm} (hF : Fr W_X12_hitAt σ0 σ) : FoI W_X12_hitAt σ0 (F_X12_hitAt_62 rc26 x1 x3 x5 x6 x7 s0 σ) := by
  unfold F_X12_hitAt_62
  exact (fI_ite (fo_F_X12_hitAt_83 hrc26 hF) (fI_ite (fI_some hF) (fo_F_X12_hitAt_83 hrc26 hF)))
theorem fo_B_X12_hitAt_26 {σ0 : Mm} {rc26 : Int32 → Int32 → Int32 → Int32 → Int32 → Mm → Option (Int32 × Mm)} (hrc26 : ∀ a0 a1 a2 a3 a4 τ, Fr W_X12_hitAt σ0 τ → FoI W_X12_hitAt σ0 (rc26 a0 a1 a2 a3 a4 τ)) {x1 : Int32} {x3 : Int32} {x5 : Int32} {x6 : Int32} {x7 : Int32} {σ : Mm} (hF : Fr W_X12_hitAt σ0 σ) : FoI W_X12_hitAt σ0 (B_X12_hitAt_26 rc26 x1 x3 x5 x6 x7 σ) := by
  unfold B_X12_hitAt_26
  exact (fI_ite (fI_some hF) (fI_ite (fI_ite (fo_F_X12_hitAt_83 hrc26 hF) (fI_ite (fI_ite (fI_I (Wc := W_X12_hitBy) hF rfl (fo_F_X12_hitBy Fr_r) (fun _ _ h1 => (fo_F_X12_hitAt_62 hrc26 h1))) fI_none) fI_none)) fI_none))
theorem fo_F_X12_hitAt_26 {σ0 : Mm} (n : Nat) : ∀ {y0 : Int32} {y1 : Int32} {y2 : Int32} {y3 : Int32} {y4 : Int32} {σ : Mm}, Fr W_X12_hitAt σ0 σ → FoI W_X12_hitAt σ0 (F_X12_hitAt_26  n y0 y1 y2 y3 y4 σ) := by
  induction n with
  | zero => intro y0 y1 y2 y3 y4 σ _; exact fI_none
  | succ n ih => intro y0 y1 y2 y3 y4 σ hF; exact fo_B_X12_hitAt_26  (fun _ _ _ _ _ _ h => ih h) hF
theorem fo_F_X12_hitAt_20 {σ0 : Mm} {x1 : Int32} {x3 : Int32} {x5 : Int32} {σ : Mm} (hF : Fr W_X12_hitAt σ0 σ) : FoI W_X12_hitAt σ0 (F_X12_hitAt_20 x1 x3 x5 σ) := by
  unfold F_X12_hitAt_20
  exact (fo_F_X12_hitAt_26  FU hF)
theorem fo_F_X12_hitAt_8 {σ0 : Mm} {x1 : Int32} {x2 : Int32} {x3 : Int32} {x4 : Int32} {x5 : Int32} {s0 : Int32} {σ : Mm} (hF : Fr W_X12_hitAt σ0 σ) : FoI W_X12_hitAt σ0 (F_X12_hitAt_8 x1 x2 x3 x4 x5 s0 σ) := by
  unfold F_X12_hitAt_8
  exact (fI_ite (fI_some hF) (fV_I (Wc := W_X12_layAll) hF rfl (fo_F_X12_layAll Fr_r) (fun _ h1 => (fo_F_X12_hitAt_20  h1))))
theorem fo_F_X12_hitAt {σ0 : Mm} {x1 : Int32} {x2 : Int32} {x3 : Int32} {x4 : Int32} {x5 : Int32} {σ : Mm} (hF : Fr W_X12_hitAt σ0 σ) : FoI W_X12_hitAt σ0 (F_X12_hitAt x1 x2 x3 x4 x5 σ) := by
  unfold F_X12_hitAt
  exact (fI_I (Wc := W_X12_isSet) hF rfl (fo_F_X12_isSet Fr_r) (fun _ _ h1 => (fo_F_X12_hitAt_8  h1)))
theorem fr_X12_hitAt {x1 : Int32} {x2 : Int32} {x3 : Int32} {x4 : Int32} {x5 : Int32} {σ : Mm} : FoI W_X12_hitAt σ (F_X12_hitAt x1 x2 x3 x4 x5 σ) := fo_F_X12_hitAt Fr_r
def W_X12_hits : List (Nat × Nat × Nat) := [(3, 0, 69), (3, 48, 999), (3, 49, 999), (3, 50, 999), (3, 51, 999), (3, 52, 999), (3, 53, 999), (3, 54, 999), (3, 55, 999), (3, 56, 999), (3, 57, 999), (3, 58, 999)]
theorem fo_F_X12_hits_39 {σ0 : Mm} {s0 : Int32} {σ : Mm} (hF : Fr W_X12_hits σ0 σ) : FoI W_X12_hits σ0 (F_X12_hits_39 s0 σ) := by
  unfold F_X12_hits_39
  exact (fI_some hF)
theorem fo_F_X12_hits_31 {σ0 : Mm} {x1 : Int32} {x3 : Int32} {x4 : Int32} {σ : Mm} (hF : Fr W_X12_hits σ0 σ) : FoI W_X12_hits σ0 (F_X12_hits_31 x1 x3 x4 σ) := by
  unfold F_X12_hits_31
  exact (fI_I (Wc := W_X12_hitsOf) hF rfl (fo_F_X12_hitsOf Fr_r) (fun _ _ h1 => (fo_F_X12_hits_39  h1)))
theorem fo_F_X12_hits_8 {σ0 : Mm} {x1 : Int32} {x2 : Int32} {x3 : Int32} {x4 : Int32} {x5 : Int32} {s0 : Int32} {σ : Mm} (hF : Fr W_X12_hits σ0 σ) : FoI W_X12_hits σ0 (F_X12_hits_8 x1 x2 x3 x4 x5 s0 σ) := by
  unfold F_X12_hits_8
  exact (fI_ite (fI_some hF) (fI_ite (fI_some hF) (fV_I (Wc := W_X12_layAll) hF rfl (fo_F_X12_layAll Fr_r) (fun _ h1 => (fo_F_X12_hits_31  h1)))))
theorem fo_F_X12_hits {σ0 : Mm} {x1 : Int32} {x2 : Int32} {x3 : Int32} {x4 : Int32} {x5 : Int32} {σ : Mm} (hF : Fr W_X12_hits σ0 σ) : FoI W_X12_hits σ0 (F_X12_hits x1 x2 x3 x4 x5 σ) := by
  unfold F_X12_hits
  exact (fI_I (Wc := W_X12_isSet) hF rfl (fo_F_X12_isSet Fr_r) (fun _ _ h1 => (fo_F_X12_hits_8  h1)))
theorem fr_X12_hits {x1 : Int32} {x2 : Int32} {x3 : Int32} {x4 : Int32} {x5 : Int32} {σ : Mm} : FoI W_X12_hits σ (F_X12_hits x1 x2 x3 x4 x5 σ) := fo_F_X12_hits Fr_r
def W_X12_hold : List (Nat × Nat × Nat) := [(3, 6, 999), (3, 7, 999), (3, 8, 999), (3, 9, 999), (3, 10, 999), (3, 11, 999), (3, 12, 999), (3, 13, 999), (3, 14, 999), (3, 15, 999), (3, 16, 999), (3, 17, 999), (3, 18, 999), (3, 19, 999), (3, 20, 999), (3, 21, 999), (3, 22, 999), (3, 23, 999), (3, 24, 999), (3, 25, 999), (3, 26, 999), (3, 27, 999), (3, 28, 999), (3, 29, 999), (3, 30, 999), (3, 31, 999), (3, 32, 999), (3, 33, 999), (3, 34, 999), (3, 35, 999), (3, 36, 999), (3, 37, 999), (3, 38, 999), (3, 39, 999), (3, 40, 999), (3, 41, 999), (3, 42, 999)]
theorem fo_F_X12_hold_28 {σ0 : Mm} {σ : Mm} (hF : Fr W_X12_hold σ0 σ) : FoI W_X12_hold σ0 (F_X12_hold_28 σ) := by
  unfold F_X12_hold_28
  exact (fI_some hF)
theorem fo_F_X12_hold_19 {σ0 : Mm} {x1 : Int32} {σ : Mm} (hF : Fr W_X12_hold σ0 σ) : FoI W_X12_hold σ0 (F_X12_hold_19 x1 σ) := by
  unfold F_X12_hold_19
  exact (fI_ite (fo_F_X12_hold_28  (Fr.AA hF rfl)) fI_none)
theorem fo_F_X12_hold {σ0 : Mm} {x1 : Int32} {σ : Mm} (hF : Fr W_X12_hold σ0 σ) : FoI W_X12_hold σ0 (F_X12_hold x1 σ) := by
  unfold F_X12_hold
  exact (fI_ite (fI_some hF) (fI_ite (fV_I (Wc := W_X12_copy) hF rfl (fo_F_X12_copy Fr_r) (fun _ h1 => (fo_F_X12_hold_19  h1))) (fI_some hF)))
theorem fr_X12_hold {x1 : Int32} {σ : Mm} : FoI W_X12_hold σ (F_X12_hold x1 σ) := fo_F_X12_hold Fr_r
def W_X12_isDigit : List (Nat × Nat × Nat) := []
theorem fo_F_X12_isDigit_15 {σ0 : Mm} {s0 : Int32} {σ : Mm} (hF : Fr W_X12_isDigit σ0 σ) : FoI W_X12_isDigit σ0 (F_X12_isDigit_15 s0 σ) := by
  unfold F_X12_isDigit_15
  exact (fI_ite (fI_some hF) (fI_some hF))
theorem fo_F_X12_isDigit_5 {σ0 : Mm} {x1 : Int32} {s0 : Int32} {σ : Mm} (hF : Fr W_X12_isDigit σ0 σ) : FoI W_X12_isDigit σ0 (F_X12_isDigit_5 x1 s0 σ) := by
  unfold F_X12_isDigit_5
  exact (fI_ite (fI_some hF) (fI_I (Wc := W_X12_byteAt) hF rfl (fo_F_X12_byteAt Fr_r) (fun _ _ h1 => (fo_F_X12_isDigit_15  h1))))
theorem fo_F_X12_isDigit {σ0 : Mm} {x1 : Int32} {σ : Mm} (hF : Fr W_X12_isDigit σ0 σ) : FoI W_X12_isDigit σ0 (F_X12_isDigit x1 σ) := by
  unfold F_X12_isDigit
  exact (fI_I (Wc := W_X12_byteAt) hF rfl (fo_F_X12_byteAt Fr_r) (fun _ _ h1 => (fo_F_X12_isDigit_5  h1)))
theorem fr_X12_isDigit {x1 : Int32} {σ : Mm} : FoI W_X12_isDigit σ (F_X12_isDigit x1 σ) := fo_F_X12_isDigit Fr_r
def W_X12_isLetter : List (Nat × Nat × Nat) := []
theorem fo_F_X12_isLetter_15 {σ0 : Mm} {s0 : Int32} {σ : Mm} (hF : Fr W_X12_isLetter σ0 σ) : FoI W_X12_isLetter σ0 (F_X12_isLetter_15 s0 σ) := by
  unfold F_X12_isLetter_15
  exact (fI_ite (fI_some hF) (fI_some hF))
theorem fo_F_X12_isLetter_5 {σ0 : Mm} {x1 : Int32} {s0 : Int32} {σ : Mm} (hF : Fr W_X12_isLetter σ0 σ) : FoI W_X12_isLetter σ0 (F_X12_isLetter_5 x1 s0 σ) := by
  unfold F_X12_isLetter_5
  exact (fI_ite (fI_some hF) (fI_I (Wc := W_X12_byteAt) hF rfl (fo_F_X12_byteAt Fr_r) (fun _ _ h1 => (fo_F_X12_isLetter_15  h1))))
theorem fo_F_X12_isLetter {σ0 : Mm} {x1 : Int32} {σ : Mm} (hF : Fr W_X12_isLetter σ0 σ) : FoI W_X12_isLetter σ0 (F_X12_isLetter x1 σ) := by
  unfold F_X12_isLetter
  exact (fI_I (Wc := W_X12_byteAt) hF rfl (fo_F_X12_byteAt Fr_r) (fun _ _ h1 => (fo_F_X12_isLetter_5  h1)))
theorem fr_X12_isLetter {x1 : Int32} {σ : Mm} : FoI W_X12_isLetter σ (F_X12_isLetter x1 σ) := fo_F_X12_isLetter Fr_r
def W_X12_life : List (Nat × Nat × Nat) := []
theorem fo_F_X12_life_70 {σ0 : Mm} {rc46 : Int32 → Int32 → Int32 → Int32 → Int32 → Int32 → Mm → Option (Int32 × Mm)} (hrc46 : ∀ a0 a1 a2 a3 a4 a5 τ, Fr W_X12_life σ0 τ → FoI W_X12_life σ0 (rc46 a0 a1 a2 a3 a4 a5 τ)) {x1 : Int32} {x2 : Int32} {x3 : Int32} {x4 : Int32} {x6 : Int32} {s0 : Int32} {s1 : Int32} {σ : Mm} (hF : Fr W_X12_life σ0 σ) : FoI W_X12_life σ0 (F_X12_life_70 rc46 x1 x2 x3 x4 x6 s0 s1 σ) := by
  unfold F_X12_life_70
  exact (hrc46 _ _ _ _ _ _ _ hF)
theorem fo_B_X12_life_46 {σ0 : Mm} {rc46 : Int32 → Int32 → Int32 → Int32 → Int32 → Int32 → Mm → Option (Int32 × Mm)} (hrc46 : ∀ a0 a1 a2 a3 a4 a5 τ, Fr W_X12_life σ0 τ → FoI W_X12_life σ0 (rc46 a0 a1 a2 a3 a4 a5 τ)) {x1 : Int32} {x2 : Int32} {x3 : Int32} {x4 : Int32} {x5 : Int32} {x6 : Int32} {σ : Mm} (hF : Fr W_X12_life σ0 σ) : FoI W_X12_life σ0 (B_X12_life_46 rc46 x1 x2 x3 x4 x5 x6 σ) := by
  unfold B_X12_life_46
  exact (fI_ite (fI_some hF) (fI_ite (fI_ite (fo_F_X12_life_70 hrc46 hF) (fo_F_X12_life_70 hrc46 hF)) fI_none))
theorem fo_F_X12_life_46 {σ0 : Mm} (n : Nat) : ∀ {y0 : Int32} {y1 : Int32} {y2 : Int32} {y3 : Int32} {y4 : Int32} {y5 : Int32} {σ : Mm}, Fr W_X12_life σ0 σ → FoI W_X12_life σ0 (F_X12_life_46  n y0 y1 y2 y3 y4 y5 σ) := by
  induction n with
  | zero => intro y0 y1 y2 y3 y4 y5 σ _; exact fI_none
  | succ n ih => intro y0 y1 y2 y3 y4 y5 σ hF; exact fo_B_X12_life_46  (fun _ _ _ _ _ _ _ h => ih h) hF
theorem fo_F_X12_life {σ0 : Mm} {x1 : Int32} {x2 : Int32} {x3 : Int32} {x4 : Int32} {σ : Mm} (hF : Fr W_X12_life σ0 σ) : FoI W_X12_life σ0 (F_X12_life x1 x2 x3 x4 σ) := by
  unfold F_X12_life
  exact (fI_ite (fI_some hF) (fI_ite (fI_some hF) (fI_ite (fI_some hF) (fI_ite (fI_some hF) (fI_ite (fo_F_X12_life_46  FU hF) (fI_some hF))))))
theorem fr_X12_life {x1 : Int32} {x2 : Int32} {x3 : Int32} {x4 : Int32} {σ : Mm} : FoI W_X12_life σ (F_X12_life x1 x2 x3 x4 σ) := fo_F_X12_life Fr_r
def W_X12_line : List (Nat × Nat × Nat) := [(3, 0, 69), (3, 48, 999), (3, 49, 999), (3, 50, 999), (3, 51, 999), (3, 52, 999), (3, 53, 999), (3, 54, 999), (3, 55, 999), (3, 56, 999), (3, 57, 999)]
theorem fo_F_X12_line_85 {σ0 : Mm} {s0 : Int32} {σ : Mm} (hF : Fr W_X12_line σ0 σ) : FoI W_X12_line σ0 (F_X12_line_85 s0 σ) := by
  unfold F_X12_line_85
  exact (fI_some hF)
theorem fo_F_X12_line_82 {σ0 : Mm} {s0 : Int32} {s1 : Int32} {σ : Mm} (hF : Fr W_X12_line σ0 σ) : FoI W_X12_line σ0 (F_X12_line_82 s0 s1 σ) := by
  unfold F_X12_line_82
  exact (fI_I (Wc := W_X12_lineOf) hF rfl (fo_F_X12_lineOf Fr_r) (fun _ _ h1 => (fo_F_X12_line_85  h1)))
theorem fo_F_X12_line_36 {σ0 : Mm} {x1 : Int32} {x2 : Int32} {σ : Mm} (hF : Fr W_X12_line σ0 σ) : FoI W_X12_line σ0 (F_X12_line_36 x1 x2 σ) := by
  unfold F_X12_line_36
  exact (fI_ite (fI_ite (fI_some hF) (fI_ite (fI_ite (fI_ite (fI_some hF) (fI_some hF)) fI_none) (fI_ite (fo_F_X12_line_82  hF) (fo_F_X12_line_82  hF)))) fI_none)
theorem fo_F_X12_line_26 {σ0 : Mm} {x1 : Int32} {x2 : Int32} {x3 : Int32} {s0 : Int32} {σ : Mm} (hF : Fr W_X12_line σ0 σ) : FoI W_X12_line σ0 (F_X12_line_26 x1 x2 x3 s0 σ) := by
  unfold F_X12_line_26
  exact (fI_ite (fI_some hF) (fV_I (Wc := W_X12_lay) hF rfl (fo_F_X12_lay Fr_r) (fun _ h1 => (fo_F_X12_line_36  h1))))
theorem fo_F_X12_line {σ0 : Mm} {x1 : Int32} {x2 : Int32} {x3 : Int32} {σ : Mm} (hF : Fr W_X12_line σ0 σ) : FoI W_X12_line σ0 (F_X12_line x1 x2 x3 σ) := by
  unfold F_X12_line
  exact (fI_ite (fI_some hF) (fI_ite (fI_some hF) (fI_I (Wc := W_X12_isKnown) hF rfl (fo_F_X12_isKnown Fr_r) (fun _ _ h1 => (fo_F_X12_line_26  h1)))))
theorem fr_X12_line {x1 : Int32} {x2 : Int32} {x3 : Int32} {σ : Mm} : FoI W_X12_line σ (F_X12_line x1 x2 x3 σ) := fo_F_X12_line Fr_r
def W_X12_lines : List (Nat × Nat × Nat) := [(3, 0, 69), (3, 48, 999), (3, 49, 999), (3, 50, 999), (3, 51, 999), (3, 52, 999), (3, 53, 999), (3, 54, 999), (3, 55, 999), (3, 56, 999), (3, 57, 999)]
theorem fo_F_X12_lines_66 {σ0 : Mm} {rc20 : Int32 → Int32 → Int32 → Mm → Option (Int32 × Mm)} (hrc20 : ∀ a0 a1 a2 τ, Fr W_X12_lines σ0 τ → FoI W_X12_lines σ0 (rc20 a0 a1 a2 τ)) {x1 : Int32} {x4 : Int32} {s0 : Int32} {s1 : Int32} {σ : Mm} (hF : Fr W_X12_lines σ0 σ) : FoI W_X12_lines σ0 (F_X12_lines_66 rc20 x1 x4 s0 s1 σ) := by
  unfold F_X12_lines_66
  exact (hrc20 _ _ _ _ hF)
theorem fo_B_X12_lines_20 {σ0 : Mm} {rc20 : Int32 → Int32 → Int32 → Mm → Option (Int32 × Mm)} (hrc20 : ∀ a0 a1 a2 τ, Fr W_X12_lines σ0 τ → FoI W_X12_lines σ0 (rc20 a0 a1 a2 τ)) {x1 : Int32} {x3 : Int32} {x4 : Int32} {σ : Mm} (hF : Fr W_X12_lines σ0 σ) : FoI W_X12_lines σ0 (B_X12_lines_20 rc20 x1 x3 x4 σ) := by
  unfold B_X12_lines_20
  exact (fI_ite (fI_some hF) (fI_ite (fI_ite (fI_ite (fo_F_X12_lines_66 hrc20 hF) (fo_F_X12_lines_66 hrc20 hF)) fI_none) (fI_ite (fI_ite (fo_F_X12_lines_66 hrc20 hF) (fo_F_X12_lines_66 hrc20 hF)) fI_none)))
theorem fo_F_X12_lines_20 {σ0 : Mm} (n : Nat) : ∀ {y0 : Int32} {y1 : Int32} {y2 : Int32} {σ : Mm}, Fr W_X12_lines σ0 σ → FoI W_X12_lines σ0 (F_X12_lines_20  n y0 y1 y2 σ) := by
  induction n with
  | zero => intro y0 y1 y2 σ _; exact fI_none
  | succ n ih => intro y0 y1 y2 σ hF; exact fo_B_X12_lines_20  (fun _ _ _ _ h => ih h) hF
theorem fo_F_X12_lines_15 {σ0 : Mm} {x1 : Int32} {σ : Mm} (hF : Fr W_X12_lines σ0 σ) : FoI W_X12_lines σ0 (F_X12_lines_15 x1 σ) := by
  unfold F_X12_lines_15
  exact (fo_F_X12_lines_20  FU hF)
theorem fo_F_X12_lines_5 {σ0 : Mm} {x1 : Int32} {x2 : Int32} {s0 : Int32} {σ : Mm} (hF : Fr W_X12_lines σ0 σ) : FoI W_X12_lines σ0 (F_X12_lines_5 x1 x2 s0 σ) := by
  unfold F_X12_lines_5
  exact (fI_ite (fI_some hF) (fV_I (Wc := W_X12_lay) hF rfl (fo_F_X12_lay Fr_r) (fun _ h1 => (fo_F_X12_lines_15  h1))))
theorem fo_F_X12_lines {σ0 : Mm} {x1 : Int32} {x2 : Int32} {σ : Mm} (hF : Fr W_X12_lines σ0 σ) : FoI W_X12_lines σ0 (F_X12_lines x1 x2 σ) := by
  unfold F_X12_lines
  exact (fI_I (Wc := W_X12_isKnown) hF rfl (fo_F_X12_isKnown Fr_r) (fun _ _ h1 => (fo_F_X12_lines_5  h1)))
theorem fr_X12_lines {x1 : Int32} {x2 : Int32} {σ : Mm} : FoI W_X12_lines σ (F_X12_lines x1 x2 σ) := fo_F_X12_lines Fr_r
def W_X12_lot : List (Nat × Nat × Nat) := []
theorem fo_F_X12_lot {σ0 : Mm} {x0 : Int32} {x1 : Int32} {x2 : Int32} {σ : Mm} (hF : Fr W_X12_lot σ0 σ) : FoI W_X12_lot σ0 (F_X12_lot x0 x1 x2 σ) := by
  unfold F_X12_lot
  exact (fI_ite (fI_some hF) fI_none)
theorem fr_X12_lot {x0 : Int32} {x1 : Int32} {x2 : Int32} {σ : Mm} : FoI W_X12_lot σ (F_X12_lot x0 x1 x2 σ) := fo_F_X12_lot Fr_r
def W_X12_make : List (Nat × Nat × Nat) := [(3, 0, 69), (3, 56, 999), (3, 57, 999), (3, 58, 999), (3, 66, 999), (3, 67, 999)]
theorem fo_F_X12_make_197 {σ0 : Mm} {rc8 : Int32 → Int32 → Int32 → Int32 → Mm → Option (Mm)} (hrc8 : ∀ a0 a1 a2 a3 τ, Fr W_X12_make σ0 τ → FoV W_X12_make σ0 (rc8 a0 a1 a2 a3 τ)) {x1 : Int32} {x2 : Int32} {x3 : Int32} {x4 : Int32} {σ : Mm} (hF : Fr W_X12_make σ0 σ) : FoV W_X12_make σ0 (F_X12_make_197 rc8 x1 x2 x3 x4 σ) := by
  unfold F_X12_make_197
  exact (hrc8 _ _ _ _ _ hF)
theorem fo_F_X12_make_167 {σ0 : Mm} {rc8 : Int32 → Int32 → Int32 → Int32 → Mm → Option (Mm)} (hrc8 : ∀ a0 a1 a2 a3 τ, Fr W_X12_make σ0 τ → FoV W_X12_make σ0 (rc8 a0 a1 a2 a3 τ)) {x1 : Int32} {x2 : Int32} {x3 : Int32} {x4 : Int32} {x5 : Int32} {x6 : Int32} {σ : Mm} (hF : Fr W_X12_make σ0 σ) : FoV W_X12_make σ0 (F_X12_make_167 rc8 x1 x2 x3 x4 x5 x6 σ) := by
  unfold F_X12_make_167
  exact (fV_ite (fV_ite (fo_F_X12_make_197 hrc8 (Fr.AA hF rfl)) fV_none) fV_none)
theorem fo_F_X12_make_137 {σ0 : Mm} {rc8 : Int32 → Int32 → Int32 → Int32 → Mm → Option (Mm)} (hrc8 : ∀ a0 a1 a2 a3 τ, Fr W_X12_make σ0 τ → FoV W_X12_make σ0 (rc8 a0 a1 a2 a3 τ)) {x1 : Int32} {x2 : Int32} {x3 : Int32} {x4 : Int32} {x5 : Int32} {x6 : Int32} {σ : Mm} (hF : Fr W_X12_make σ0 σ) : FoV W_X12_make σ0 (F_X12_make_137 rc8 x1 x2 x3 x4 x5 x6 σ) := by
  unfold F_X12_make_137
  exact (fV_ite (fV_ite (fo_F_X12_make_167 hrc8 (Fr.AA hF rfl)) fV_none) fV_none)
theorem fo_F_X12_make_135 {σ0 : Mm} {rc8 : Int32 → Int32 → Int32 → Int32 → Mm → Option (Mm)} (hrc8 : ∀ a0 a1 a2 a3 τ, Fr W_X12_make σ0 τ → FoV W_X12_make σ0 (rc8 a0 a1 a2 a3 τ)) {x1 : Int32} {x2 : Int32} {x3 : Int32} {x4 : Int32} {x5 : Int32} {x6 : Int32} {s0 : Int32} {s1 : Int32} {s2 : Int32} {σ : Mm} (hF : Fr W_X12_make σ0 σ) : FoV W_X12_make σ0 (F_X12_make_135 rc8 x1 x2 x3 x4 x5 x6 s0 s1 s2 σ) := by
  unfold F_X12_make_135
  exact (fV_ite (fo_F_X12_make_137 hrc8 (Fr.AA hF rfl)) fV_none)
theorem fo_F_X12_make_110 {σ0 : Mm} {rc8 : Int32 → Int32 → Int32 → Int32 → Mm → Option (Mm)} (hrc8 : ∀ a0 a1 a2 a3 τ, Fr W_X12_make σ0 τ → FoV W_X12_make σ0 (rc8 a0 a1 a2 a3 τ)) {x1 : Int32} {x2 : Int32} {x3 : Int32} {x4 : Int32} {x5 : Int32} {x6 : Int32} {σ : Mm} (hF : Fr W_X12_make σ0 σ) : FoV W_X12_make σ0 (F_X12_make_110 rc8 x1 x2 x3 x4 x5 x6 σ) := by
  unfold F_X12_make_110
  exact (fI_V (Wc := W_X12_lot) hF rfl (fo_F_X12_lot Fr_r) (fun _ _ h1 => (fo_F_X12_make_135 hrc8 h1)))
theorem fo_F_X12_make_108 {σ0 : Mm} {rc8 : Int32 → Int32 → Int32 → Int32 → Mm → Option (Mm)} (hrc8 : ∀ a0 a1 a2 a3 τ, Fr W_X12_make σ0 τ → FoV W_X12_make σ0 (rc8 a0 a1 a2 a3 τ)) {x1 : Int32} {x2 : Int32} {x3 : Int32} {x4 : Int32} {x5 : Int32} {x6 : Int32} {s0 : Int32} {s1 : Int32} {s2 : Int32} {σ : Mm} (hF : Fr W_X12_make σ0 σ) : FoV W_X12_make σ0 (F_X12_make_108 rc8 x1 x2 x3 x4 x5 x6 s0 s1 s2 σ) := by
  unfold F_X12_make_108
  exact (fV_ite (fo_F_X12_make_110 hrc8 (Fr.AA hF rfl)) fV_none)
theorem fo_F_X12_make_85 {σ0 : Mm} {rc8 : Int32 → Int32 → Int32 → Int32 → Mm → Option (Mm)} (hrc8 : ∀ a0 a1 a2 a3 τ, Fr W_X12_make σ0 τ → FoV W_X12_make σ0 (rc8 a0 a1 a2 a3 τ)) {x1 : Int32} {x2 : Int32} {x3 : Int32} {x4 : Int32} {x5 : Int32} {x6 : Int32} {σ : Mm} (hF : Fr W_X12_make σ0 σ) : FoV W_X12_make σ0 (F_X12_make_85 rc8 x1 x2 x3 x4 x5 x6 σ) := by
  unfold F_X12_make_85
  exact (fI_V (Wc := W_X12_lot) hF rfl (fo_F_X12_lot Fr_r) (fun _ _ h1 => (fo_F_X12_make_108 hrc8 h1)))
theorem fo_F_X12_make_82 {σ0 : Mm} {rc8 : Int32 → Int32 → Int32 → Int32 → Mm → Option (Mm)} (hrc8 : ∀ a0 a1 a2 a3 τ, Fr W_X12_make σ0 τ → FoV W_X12_make σ0 (rc8 a0 a1 a2 a3 τ)) {x1 : Int32} {x2 : Int32} {x3 : Int32} {x4 : Int32} {x5 : Int32} {s0 : Int32} {σ : Mm} (hF : Fr W_X12_make σ0 σ) : FoV W_X12_make σ0 (F_X12_make_82 rc8 x1 x2 x3 x4 x5 s0 σ) := by
  unfold F_X12_make_82
  exact (fV_ite (fo_F_X12_make_85 hrc8 hF) fV_none)
theorem fo_F_X12_make_44 {σ0 : Mm} {rc8 : Int32 → Int32 → Int32 → Int32 → Mm → Option (Mm)} (hrc8 : ∀ a0 a1 a2 a3 τ, Fr W_X12_make σ0 τ → FoV W_X12_make σ0 (rc8 a0 a1 a2 a3 τ)) {x1 : Int32} {x2 : Int32} {x3 : Int32} {x4 : Int32} {x5 : Int32} {s0 : Int32} {σ : Mm} (hF : Fr W_X12_make σ0 σ) : FoV W_X12_make σ0 (F_X12_make_44 rc8 x1 x2 x3 x4 x5 s0 σ) := by
  unfold F_X12_make_44
  exact (fV_ite (fo_F_X12_make_85 hrc8 hF) (fV_ite (fV_ite (fo_F_X12_make_85 hrc8 hF) (fV_ite (fI_V (Wc := W_X12_lot) hF rfl (fo_F_X12_lot Fr_r) (fun _ _ h1 => (fo_F_X12_make_82 hrc8 h1))) fV_none)) fV_none))
theorem fo_F_X12_make_27 {σ0 : Mm} {rc8 : Int32 → Int32 → Int32 → Int32 → Mm → Option (Mm)} (hrc8 : ∀ a0 a1 a2 a3 τ, Fr W_X12_make σ0 τ → FoV W_X12_make σ0 (rc8 a0 a1 a2 a3 τ)) {x1 : Int32} {x2 : Int32} {x3 : Int32} {x4 : Int32} {s0 : Int32} {s1 : Int32} {σ : Mm} (hF : Fr W_X12_make σ0 σ) : FoV W_X12_make σ0 (F_X12_make_27 rc8 x1 x2 x3 x4 s0 s1 σ) := by
  unfold F_X12_make_27
  exact (fI_V (Wc := W_X12_lot) hF rfl (fo_F_X12_lot Fr_r) (fun _ _ h1 => (fo_F_X12_make_44 hrc8 h1)))
theorem fo_B_X12_make_8 {σ0 : Mm} {rc8 : Int32 → Int32 → Int32 → Int32 → Mm → Option (Mm)} (hrc8 : ∀ a0 a1 a2 a3 τ, Fr W_X12_make σ0 τ → FoV W_X12_make σ0 (rc8 a0 a1 a2 a3 τ)) {x1 : Int32} {x2 : Int32} {x3 : Int32} {x4 : Int32} {σ : Mm} (hF : Fr W_X12_make σ0 σ) : FoV W_X12_make σ0 (B_X12_make_8 rc8 x1 x2 x3 x4 σ) := by
  unfold B_X12_make_8
  exact (fV_ite (fV_some hF) (fI_V (Wc := W_X12_lot) hF rfl (fo_F_X12_lot Fr_r) (fun _ _ h1 => (fo_F_X12_make_27 hrc8 h1))))
theorem fo_F_X12_make_8 {σ0 : Mm} (n : Nat) : ∀ {y0 : Int32} {y1 : Int32} {y2 : Int32} {y3 : Int32} {σ : Mm}, Fr W_X12_make σ0 σ → FoV W_X12_make σ0 (F_X12_make_8  n y0 y1 y2 y3 σ) := by
  induction n with
  | zero => intro y0 y1 y2 y3 σ _; exact fV_none
  | succ n ih => intro y0 y1 y2 y3 σ hF; exact fo_B_X12_make_8  (fun _ _ _ _ _ h => ih h) hF
theorem fo_F_X12_make_5 {σ0 : Mm} {x1 : Int32} {x2 : Int32} {x3 : Int32} {σ : Mm} (hF : Fr W_X12_make σ0 σ) : FoV W_X12_make σ0 (F_X12_make_5 x1 x2 x3 σ) := by
  unfold F_X12_make_5
  exact (fo_F_X12_make_8  FU hF)
theorem fo_F_X12_make {σ0 : Mm} {x1 : Int32} {x2 : Int32} {x3 : Int32} {σ : Mm} (hF : Fr W_X12_make σ0 σ) : FoV W_X12_make σ0 (F_X12_make x1 x2 x3 σ) := by
  unfold F_X12_make
  exact (fV_V (Wc := W_X12_laySky) hF rfl (fo_F_X12_laySky Fr_r) (fun _ h1 => (fo_F_X12_make_5  h1)))
theorem fr_X12_make {x1 : Int32} {x2 : Int32} {x3 : Int32} {σ : Mm} : FoV W_X12_make σ (F_X12_make x1 x2 x3 σ) := fo_F_X12_make Fr_r
def W_X12_madeHits : List (Nat × Nat × Nat) := [(3, 0, 69), (3, 56, 999), (3, 57, 999), (3, 58, 999), (3, 66, 999), (3, 67, 999)]
theorem fo_F_X12_madeHits_103 {σ0 : Mm} {rc13 : Int32 → Int32 → Int32 → Mm → Option (Int32 × Mm)} (hrc13 : ∀ a0 a1 a2 τ, Fr W_X12_madeHits σ0 τ → FoI W_X12_madeHits σ0 (rc13 a0 a1 a2 τ)) {rc24 : Int32 → Int32 → Int32 → Int32 → Mm → Option (Int32 × Mm)} (hrc24 : ∀ a0 a1 a2 a3 τ, Fr W_X12_madeHits σ0 τ → FoI W_X12_madeHits σ0 (rc24 a0 a1 a2 a3 τ)) {x2 : Int32} {x4 : Int32} {x5 : Int32} {x6 : Int32} {σ : Mm} (hF : Fr W_X12_madeHits σ0 σ) : FoI W_X12_madeHits σ0 (F_X12_madeHits_103 rc13 rc24 x2 x4 x5 x6 σ) := by
  unfold F_X12_madeHits_103
  exact (hrc24 _ _ _ _ _ hF)
theorem fo_F_X12_madeHits_97 {σ0 : Mm} {rc13 : Int32 → Int32 → Int32 → Mm → Option (Int32 × Mm)} (hrc13 : ∀ a0 a1 a2 τ, Fr W_X12_madeHits σ0 τ → FoI W_X12_madeHits σ0 (rc13 a0 a1 a2 τ)) {rc24 : Int32 → Int32 → Int32 → Int32 → Mm → Option (Int32 × Mm)} (hrc24 : ∀ a0 a1 a2 a3 τ, Fr W_X12_madeHits σ0 τ → FoI W_X12_madeHits σ0 (rc24 a0 a1 a2 a3 τ)) {x2 : Int32} {x4 : Int32} {x5 : Int32} {x6 : Int32} {s0 : Int32} {σ : Mm} (hF : Fr W_X12_madeHits σ0 σ) : FoI W_X12_madeHits σ0 (F_X12_madeHits_97 rc13 rc24 x2 x4 x5 x6 s0 σ) := by
  unfold F_X12_madeHits_97
  exact (fI_ite (fo_F_X12_madeHits_103 hrc13 hrc24 hF) (fo_F_X12_madeHits_103 hrc13 hrc24 hF))
theorem fo_F_X12_madeHits_87 {σ0 : Mm} {rc13 : Int32 → Int32 → Int32 → Mm → Option (Int32 × Mm)} (hrc13 : ∀ a0 a1 a2 τ, Fr W_X12_madeHits σ0 τ → FoI W_X12_madeHits σ0 (rc13 a0 a1 a2 τ)) {rc24 : Int32 → Int32 → Int32 → Int32 → Mm → Option (Int32 × Mm)} (hrc24 : ∀ a0 a1 a2 a3 τ, Fr W_X12_madeHits σ0 τ → FoI W_X12_madeHits σ0 (rc24 a0 a1 a2 a3 τ)) {x2 : Int32} {x4 : Int32} {x5 : Int32} {x6 : Int32} {s0 : Int32} {σ : Mm} (hF : Fr W_X12_madeHits σ0 σ) : FoI W_X12_madeHits σ0 (F_X12_madeHits_87 rc13 rc24 x2 x4 x5 x6 s0 σ) := by
  unfold F_X12_madeHits_87
  exact (fI_ite (fI_I (Wc := W_X12_hitBy) hF rfl (fo_F_X12_hitBy Fr_r) (fun _ _ h1 => (fo_F_X12_madeHits_97 hrc13 hrc24 h1))) fI_none)
theorem fo_F_X12_madeHits_79 {σ0 : Mm} {rc13 : Int32 → Int32 → Int32 → Mm → Option (Int32 × Mm)} (hrc13 : ∀ a0 a1 a2 τ, Fr W_X12_madeHits σ0 τ → FoI W_X12_madeHits σ0 (rc13 a0 a1 a2 τ)) {rc24 : Int32 → Int32 → Int32 → Int32 → Mm → Option (Int32 × Mm)} (hrc24 : ∀ a0 a1 a2 a3 τ, Fr W_X12_madeHits σ0 τ → FoI W_X12_madeHits σ0 (rc24 a0 a1 a2 a3 τ)) {x2 : Int32} {x4 : Int32} {x5 : Int32} {x6 : Int32} {x7 : Int32} {x8 : Int32} {σ : Mm} (hF : Fr W_X12_madeHits σ0 σ) : FoI W_X12_madeHits σ0 (F_X12_madeHits_79 rc13 rc24 x2 x4 x5 x6 x7 x8 σ) := by
  unfold F_X12_madeHits_79
  exact (fI_I (Wc := W_X12_degreeOf) hF rfl (fo_F_X12_degreeOf Fr_r) (fun _ _ h1 => (fo_F_X12_madeHits_87 hrc13 hrc24 h1)))
theorem fo_F_X12_madeHits_66 {σ0 : Mm} {rc13 : Int32 → Int32 → Int32 → Mm → Option (Int32 × Mm)} (hrc13 : ∀ a0 a1 a2 τ, Fr W_X12_madeHits σ0 τ → FoI W_X12_madeHits σ0 (rc13 a0 a1 a2 τ)) {rc24 : Int32 → Int32 → Int32 → Int32 → Mm → Option (Int32 × Mm)} (hrc24 : ∀ a0 a1 a2 a3 τ, Fr W_X12_madeHits σ0 τ → FoI W_X12_madeHits σ0 (rc24 a0 a1 a2 a3 τ)) {x2 : Int32} {x4 : Int32} {x5 : Int32} {x6 : Int32} {x7 : Int32} {x8 : Int32} {σ : Mm} (hF : Fr W_X12_madeHits σ0 σ) : FoI W_X12_madeHits σ0 (F_X12_madeHits_66 rc13 rc24 x2 x4 x5 x6 x7 x8 σ) := by
  unfold F_X12_madeHits_66
  exact (fI_ite (fI_ite (fo_F_X12_madeHits_103 hrc13 hrc24 hF) (fo_F_X12_madeHits_79 hrc13 hrc24 hF)) (fo_F_X12_madeHits_79 hrc13 hrc24 hF))
theorem fo_F_X12_madeHits_49 {σ0 : Mm} {rc13 : Int32 → Int32 → Int32 → Mm → Option (Int32 × Mm)} (hrc13 : ∀ a0 a1 a2 τ, Fr W_X12_madeHits σ0 τ → FoI W_X12_madeHits σ0 (rc13 a0 a1 a2 τ)) {rc24 : Int32 → Int32 → Int32 → Int32 → Mm → Option (Int32 × Mm)} (hrc24 : ∀ a0 a1 a2 a3 τ, Fr W_X12_madeHits σ0 τ → FoI W_X12_madeHits σ0 (rc24 a0 a1 a2 a3 τ)) {x2 : Int32} {x4 : Int32} {x5 : Int32} {x6 : Int32} {x7 : Int32} {σ : Mm} (hF : Fr W_X12_madeHits σ0 σ) : FoI W_X12_madeHits σ0 (F_X12_madeHits_49 rc13 rc24 x2 x4 x5 x6 x7 σ) := by
  unfold F_X12_madeHits_49
  exact (fI_ite (fI_ite (fo_F_X12_madeHits_66 hrc13 hrc24 hF) fI_none) fI_none)
theorem fo_B_X12_madeHits_24 {σ0 : Mm} {rc13 : Int32 → Int32 → Int32 → Mm → Option (Int32 × Mm)} (hrc13 : ∀ a0 a1 a2 τ, Fr W_X12_madeHits σ0 τ → FoI W_X12_madeHits σ0 (rc13 a0 a1 a2 τ)) {rc24 : Int32 → Int32 → Int32 → Int32 → Mm → Option (Int32 × Mm)} (hrc24 : ∀ a0 a1 a2 a3 τ, Fr W_X12_madeHits σ0 τ → FoI W_X12_madeHits σ0 (rc24 a0 a1 a2 a3 τ)) {x2 : Int32} {x4 : Int32} {x5 : Int32} {x6 : Int32} {σ : Mm} (hF : Fr W_X12_madeHits σ0 σ) : FoI W_X12_madeHits σ0 (B_X12_madeHits_24 rc13 rc24 x2 x4 x5 x6 σ) := by
  unfold B_X12_madeHits_24
  exact (fI_ite (hrc13 _ _ _ _ hF) (fI_ite (fI_ite (fo_F_X12_madeHits_49 hrc13 hrc24 hF) fI_none) fI_none))
theorem fo_F_X12_madeHits_24 {σ0 : Mm} {rc13 : Int32 → Int32 → Int32 → Mm → Option (Int32 × Mm)} (hrc13 : ∀ a0 a1 a2 τ, Fr W_X12_madeHits σ0 τ → FoI W_X12_madeHits σ0 (rc13 a0 a1 a2 τ)) (n : Nat) : ∀ {y0 : Int32} {y1 : Int32} {y2 : Int32} {y3 : Int32} {σ : Mm}, Fr W_X12_madeHits σ0 σ → FoI W_X12_madeHits σ0 (F_X12_madeHits_24 rc13 n y0 y1 y2 y3 σ) := by
  induction n with
  | zero => intro y0 y1 y2 y3 σ _; exact fI_none
  | succ n ih => intro y0 y1 y2 y3 σ hF; exact fo_B_X12_madeHits_24 hrc13 (fun _ _ _ _ _ h => ih h) hF
theorem fo_B_X12_madeHits_13 {σ0 : Mm} {rc13 : Int32 → Int32 → Int32 → Mm → Option (Int32 × Mm)} (hrc13 : ∀ a0 a1 a2 τ, Fr W_X12_madeHits σ0 τ → FoI W_X12_madeHits σ0 (rc13 a0 a1 a2 τ)) {x2 : Int32} {x4 : Int32} {x5 : Int32} {σ : Mm} (hF : Fr W_X12_madeHits σ0 σ) : FoI W_X12_madeHits σ0 (B_X12_madeHits_13 rc13 x2 x4 x5 σ) := by
  unfold B_X12_madeHits_13
  exact (fI_ite (fI_some hF) (fo_F_X12_madeHits_24 hrc13 FU hF))
theorem fo_F_X12_madeHits_13 {σ0 : Mm} (n : Nat) : ∀ {y0 : Int32} {y1 : Int32} {y2 : Int32} {σ : Mm}, Fr W_X12_madeHits σ0 σ → FoI W_X12_madeHits σ0 (F_X12_madeHits_13  n y0 y1 y2 σ) := by
  induction n with
  | zero => intro y0 y1 y2 σ _; exact fI_none
  | succ n ih => intro y0 y1 y2 σ hF; exact fo_B_X12_madeHits_13  (fun _ _ _ _ h => ih h) hF
theorem fo_F_X12_madeHits_7 {σ0 : Mm} {x2 : Int32} {σ : Mm} (hF : Fr W_X12_madeHits σ0 σ) : FoI W_X12_madeHits σ0 (F_X12_madeHits_7 x2 σ) := by
  unfold F_X12_madeHits_7
  exact (fo_F_X12_madeHits_13  FU hF)
theorem fo_F_X12_madeHits {σ0 : Mm} {x1 : Int32} {x2 : Int32} {x3 : Int32} {σ : Mm} (hF : Fr W_X12_madeHits σ0 σ) : FoI W_X12_madeHits σ0 (F_X12_madeHits x1 x2 x3 σ) := by
  unfold F_X12_madeHits
  exact (fV_I (Wc := W_X12_make) hF rfl (fo_F_X12_make Fr_r) (fun _ h1 => (fo_F_X12_madeHits_7  h1)))
theorem fr_X12_madeHits {x1 : Int32} {x2 : Int32} {x3 : Int32} {σ : Mm} : FoI W_X12_madeHits σ (F_X12_madeHits x1 x2 x3 σ) := fo_F_X12_madeHits Fr_r
def W_X12_made : List (Nat × Nat × Nat) := [(3, 0, 69), (3, 56, 999), (3, 57, 999), (3, 58, 999), (3, 66, 999), (3, 67, 999)]
theorem fo_F_X12_made_15 {σ0 : Mm} {s0 : Int32} {σ : Mm} (hF : Fr W_X12_made σ0 σ) : FoI W_X12_made σ0 (F_X12_made_15 s0 σ) := by
  unfold F_X12_made_15
  exact (fI_some hF)
theorem fo_F_X12_made {σ0 : Mm} {x1 : Int32} {x2 : Int32} {x3 : Int32} {σ : Mm} (hF : Fr W_X12_made σ0 σ) : FoI W_X12_made σ0 (F_X12_made x1 x2 x3 σ) := by
  unfold F_X12_made
  exact (fI_ite (fI_some hF) (fI_I (Wc := W_X12_madeHits) hF rfl (fo_F_X12_madeHits Fr_r) (fun _ _ h1 => (fo_F_X12_made_15  h1))))
theorem fr_X12_made {x1 : Int32} {x2 : Int32} {x3 : Int32} {σ : Mm} : FoI W_X12_made σ (F_X12_made x1 x2 x3 σ) := fo_F_X12_made Fr_r
def W_X12_madeAt : List (Nat × Nat × Nat) := [(3, 0, 69), (3, 56, 999), (3, 57, 999), (3, 58, 999), (3, 66, 999), (3, 67, 999)]
theorem fo_F_X12_madeAt_42 {σ0 : Mm} {x4 : Int32} {x5 : Int32} {σ : Mm} (hF : Fr W_X12_madeAt σ0 σ) : FoI W_X12_madeAt σ0 (F_X12_madeAt_42 x4 x5 σ) := by
  unfold F_X12_madeAt_42
  exact (fI_ite (fI_ite (fI_some hF) fI_none) (fI_ite (fI_some hF) fI_none))
theorem fo_F_X12_madeAt {σ0 : Mm} {x1 : Int32} {x2 : Int32} {x3 : Int32} {x4 : Int32} {x5 : Int32} {σ : Mm} (hF : Fr W_X12_madeAt σ0 σ) : FoI W_X12_madeAt σ0 (F_X12_madeAt x1 x2 x3 x4 x5 σ) := by
  unfold F_X12_madeAt
  exact (fI_ite (fI_some hF) (fI_ite (fI_some hF) (fI_ite (fI_some hF) (fI_ite (fI_some hF) (fV_I (Wc := W_X12_make) hF rfl (fo_F_X12_make Fr_r) (fun _ h1 => (fo_F_X12_madeAt_42  h1)))))))
theorem fr_X12_madeAt {x1 : Int32} {x2 : Int32} {x3 : Int32} {x4 : Int32} {x5 : Int32} {σ : Mm} : FoI W_X12_madeAt σ (F_X12_madeAt x1 x2 x3 x4 x5 σ) := fo_F_X12_madeAt Fr_r
def W_X12_many : List (Nat × Nat × Nat) := [(3, 0, 69), (3, 48, 999), (3, 49, 999), (3, 50, 999), (3, 51, 999), (3, 52, 999), (3, 53, 999), (3, 54, 999), (3, 55, 999), (3, 56, 999), (3, 57, 999), (3, 58, 999)]
theorem fo_F_X12_many_23 {σ0 : Mm} {s0 : Int32} {σ : Mm} (hF : Fr W_X12_many σ0 σ) : FoI W_X12_many σ0 (F_X12_many_23 s0 σ) := by
  unfold F_X12_many_23
  exact (fI_some hF)
theorem fo_F_X12_many_18 {σ0 : Mm} {x1 : Int32} {σ : Mm} (hF : Fr W_X12_many σ0 σ) : FoI W_X12_many σ0 (F_X12_many_18 x1 σ) := by
  unfold F_X12_many_18
  exact (fI_I (Wc := W_X12_asMany) hF rfl (fo_F_X12_asMany Fr_r) (fun _ _ h1 => (fo_F_X12_many_23  h1)))
theorem fo_F_X12_many_7 {σ0 : Mm} {x1 : Int32} {x2 : Int32} {x3 : Int32} {s0 : Int32} {σ : Mm} (hF : Fr W_X12_many σ0 σ) : FoI W_X12_many σ0 (F_X12_many_7 x1 x2 x3 s0 σ) := by
  unfold F_X12_many_7
  exact (fI_ite (fI_some hF) (fV_I (Wc := W_X12_layAll) hF rfl (fo_F_X12_layAll Fr_r) (fun _ h1 => (fo_F_X12_many_18  h1))))
theorem fo_F_X12_many {σ0 : Mm} {x1 : Int32} {x2 : Int32} {x3 : Int32} {σ : Mm} (hF : Fr W_X12_many σ0 σ) : FoI W_X12_many σ0 (F_X12_many x1 x2 x3 σ) := by
  unfold F_X12_many
  exact (fI_I (Wc := W_X12_isSet) hF rfl (fo_F_X12_isSet Fr_r) (fun _ _ h1 => (fo_F_X12_many_7  h1)))
theorem fr_X12_many {x1 : Int32} {x2 : Int32} {x3 : Int32} {σ : Mm} : FoI W_X12_many σ (F_X12_many x1 x2 x3 σ) := fo_F_X12_many Fr_r
def W_X12_move : List (Nat × Nat × Nat) := [(3, 38, 999), (3, 39, 999), (3, 40, 999), (3, 41, 999), (3, 42, 999)]
theorem fo_F_X12_move_38 {σ0 : Mm} {s0 : Int32} {σ : Mm} (hF : Fr W_X12_move σ0 σ) : FoI W_X12_move σ0 (F_X12_move_38 s0 σ) := by
  unfold F_X12_move_38
  exact (fI_some hF)
theorem fo_F_X12_move_5 {σ0 : Mm} {x1 : Int32} {x2 : Int32} {x3 : Int32} {s0 : Int32} {σ : Mm} (hF : Fr W_X12_move σ0 σ) : FoI W_X12_move σ0 (F_X12_move_5 x1 x2 x3 s0 σ) := by
  unfold F_X12_move_5
  exact (fI_ite (fI_some hF) (fI_ite (fI_some hF) (fI_ite (fI_some hF) (fI_I (Wc := W_X12_fact) hF rfl (fo_F_X12_fact Fr_r) (fun _ _ h1 => (fo_F_X12_move_38  h1))))))
theorem fo_F_X12_move {σ0 : Mm} {x1 : Int32} {x2 : Int32} {x3 : Int32} {σ : Mm} (hF : Fr W_X12_move σ0 σ) : FoI W_X12_move σ0 (F_X12_move x1 x2 x3 σ) := by
  unfold F_X12_move
  exact (fI_I (Wc := W_X12_isThing) hF rfl (fo_F_X12_isThing Fr_r) (fun _ _ h1 => (fo_F_X12_move_5  h1)))
theorem fr_X12_move {x1 : Int32} {x2 : Int32} {x3 : Int32} {σ : Mm} : FoI W_X12_move σ (F_X12_move x1 x2 x3 σ) := fo_F_X12_move Fr_r
def W_X12_takes : List (Nat × Nat × Nat) := [(3, 0, 7), (3, 0, 8), (3, 0, 9)]
theorem fo_F_X12_takes_25 {σ0 : Mm} {s0 : Int32} {σ : Mm} (hF : Fr W_X12_takes σ0 σ) : FoI W_X12_takes σ0 (F_X12_takes_25 s0 σ) := by
  unfold F_X12_takes_25
  exact (fI_ite (fI_some hF) fI_none)
theorem fo_F_X12_takes_17 {σ0 : Mm} {s0 : Int32} {σ : Mm} (hF : Fr W_X12_takes σ0 σ) : FoI W_X12_takes σ0 (F_X12_takes_17 s0 σ) := by
  unfold F_X12_takes_17
  exact (fI_ite (fI_some hF) fI_none)
theorem fo_F_X12_takes {σ0 : Mm} {x1 : Int32} {σ : Mm} (hF : Fr W_X12_takes σ0 σ) : FoI W_X12_takes σ0 (F_X12_takes x1 σ) := by
  unfold F_X12_takes
  exact (fI_ite (fI_ite (fI_I (Wc := W_X12_pass) hF rfl (fo_F_X12_pass Fr_r) (fun _ _ h1 => (fo_F_X12_takes_17  h1))) (fI_I (Wc := W_X12_wrong) hF rfl (fo_F_X12_wrong Fr_r) (fun _ _ h2 => (fo_F_X12_takes_25  h2)))) fI_none)
theorem fr_X12_takes {x1 : Int32} {σ : Mm} : FoI W_X12_takes σ (F_X12_takes x1 σ) := fo_F_X12_takes Fr_r
def W_X12_tells : List (Nat × Nat × Nat) := [(3, 0, 10), (3, 0, 11)]
theorem fo_F_X12_tells_44 {σ0 : Mm} {x3 : Int32} {σ : Mm} (hF : Fr W_X12_tells σ0 σ) : FoV W_X12_tells σ0 (F_X12_tells_44 x3 σ) := by
  unfold F_X12_tells_44
  exact (fV_some (Fr.A hF rfl))
theorem fo_F_X12_tells_39 {σ0 : Mm} {x1 : Int32} {x3 : Int32} {σ : Mm} (hF : Fr W_X12_tells σ0 σ) : FoV W_X12_tells σ0 (F_X12_tells_39 x1 x3 σ) := by
  unfold F_X12_tells_39
  exact (fo_F_X12_tells_44  (Fr.A hF rfl))
theorem fo_F_X12_tells {σ0 : Mm} {x1 : Int32} {x2 : Int32} {σ : Mm} (hF : Fr W_X12_tells σ0 σ) : FoV W_X12_tells σ0 (F_X12_tells x1 x2 σ) := by
  unfold F_X12_tells
  exact (fV_ite (fV_ite (fo_F_X12_tells_39  hF) (fV_ite (fV_some hF) (fV_ite (fV_ite (fo_F_X12_tells_39  hF) (fV_some hF)) (fo_F_X12_tells_39  hF)))) fV_none)
theorem fr_X12_tells {x1 : Int32} {x2 : Int32} {σ : Mm} : FoV W_X12_tells σ (F_X12_tells x1 x2 σ) := fo_F_X12_tells Fr_r
def W_X12_names : List (Nat × Nat × Nat) := [(3, 0, 7), (3, 0, 8), (3, 0, 9), (3, 0, 10), (3, 0, 11), (3, 0, 49), (3, 43, 999), (3, 44, 999)]
theorem fo_F_X12_names_88 {σ0 : Mm} {σ : Mm} (hF : Fr W_X12_names σ0 σ) : FoI W_X12_names σ0 (F_X12_names_88 σ) := by
  unfold F_X12_names_88
  exact (fI_some hF)
theorem fo_F_X12_names_78 {σ0 : Mm} {σ : Mm} (hF : Fr W_X12_names σ0 σ) : FoI W_X12_names σ0 (F_X12_names_78 σ) := by
  unfold F_X12_names_78
  exact (fo_F_X12_names_88  (Fr.A hF rfl))
theorem fo_F_X12_names_68 {σ0 : Mm} {x1 : Int32} {σ : Mm} (hF : Fr W_X12_names σ0 σ) : FoI W_X12_names σ0 (F_X12_names_68 x1 σ) := by
  unfold F_X12_names_68
  exact (fI_ite (fo_F_X12_names_78  (Fr.AA hF rfl)) fI_none)
theorem fo_F_X12_names_47 {σ0 : Mm} {rc17 : Int32 → Int32 → Int32 → Mm → Option (Int32 × Mm)} (hrc17 : ∀ a0 a1 a2 τ, Fr W_X12_names σ0 τ → FoI W_X12_names σ0 (rc17 a0 a1 a2 τ)) {x1 : Int32} {x2 : Int32} {x3 : Int32} {σ : Mm} (hF : Fr W_X12_names σ0 σ) : FoI W_X12_names σ0 (F_X12_names_47 rc17 x1 x2 x3 σ) := by
  unfold F_X12_names_47
  exact (hrc17 _ _ _ _ hF)
theorem fo_B_X12_names_17 {σ0 : Mm} {rc17 : Int32 → Int32 → Int32 → Mm → Option (Int32 × Mm)} (hrc17 : ∀ a0 a1 a2 τ, Fr W_X12_names σ0 τ → FoI W_X12_names σ0 (rc17 a0 a1 a2 τ)) {x1 : Int32} {x2 : Int32} {x3 : Int32} {σ : Mm} (hF : Fr W_X12_names σ0 σ) : FoI W_X12_names σ0 (B_X12_names_17 rc17 x1 x2 x3 σ) := by
  unfold B_X12_names_17
  exact (fI_ite (fI_ite (fI_ite (fo_F_X12_names_68  (Fr.LL hF rfl)) fI_none) fI_none) (fI_ite (fI_ite (fI_ite (fV_I (Wc := W_X12_tells) hF rfl (fo_F_X12_tells Fr_r) (fun _ h1 => (fo_F_X12_names_47 hrc17 h1))) (fo_F_X12_names_47 hrc17 hF)) fI_none) fI_none))
theorem fo_F_X12_names_17 {σ0 : Mm} (n : Nat) : ∀ {y0 : Int32} {y1 : Int32} {y2 : Int32} {σ : Mm}, Fr W_X12_names σ0 σ → FoI W_X12_names σ0 (F_X12_names_17  n y0 y1 y2 σ) := by
  induction n with
  | zero => intro y0 y1 y2 σ _; exact fI_none
  | succ n ih => intro y0 y1 y2 σ hF; exact fo_B_X12_names_17  (fun _ _ _ _ h => ih h) hF
theorem fo_F_X12_names_10 {σ0 : Mm} {x1 : Int32} {x2 : Int32} {s0 : Int32} {σ : Mm} (hF : Fr W_X12_names σ0 σ) : FoI W_X12_names σ0 (F_X12_names_10 x1 x2 s0 σ) := by
  unfold F_X12_names_10
  exact (fI_ite (fI_some hF) (fo_F_X12_names_17  FU hF))
theorem fo_F_X12_names {σ0 : Mm} {x1 : Int32} {σ : Mm} (hF : Fr W_X12_names σ0 σ) : FoI W_X12_names σ0 (F_X12_names x1 σ) := by
  unfold F_X12_names
  exact (fI_I (Wc := W_X12_takes) hF rfl (fo_F_X12_takes Fr_r) (fun _ _ h1 => (fo_F_X12_names_10  h1)))
theorem fr_X12_names {x1 : Int32} {σ : Mm} : FoI W_X12_names σ (F_X12_names x1 σ) := fo_F_X12_names Fr_r
def W_X12_next : List (Nat × Nat × Nat) := [(3, 0, 69), (3, 48, 999), (3, 49, 999), (3, 50, 999), (3, 51, 999), (3, 52, 999), (3, 53, 999), (3, 54, 999), (3, 55, 999), (3, 56, 999), (3, 57, 999), (3, 58, 999)]
theorem fo_F_X12_next_151 {σ0 : Mm} {rc28 : Int32 → Int32 → Int32 → Int32 → Mm → Option (Int32 × Mm)} (hrc28 : ∀ a0 a1 a2 a3 τ, Fr W_X12_next σ0 τ → FoI W_X12_next σ0 (rc28 a0 a1 a2 a3 τ)) {x1 : Int32} {x4 : Int32} {x5 : Int32} {x6 : Int32} {σ : Mm} (hF : Fr W_X12_next σ0 σ) : FoI W_X12_next σ0 (F_X12_next_151 rc28 x1 x4 x5 x6 σ) := by
  unfold F_X12_next_151
  exact (hrc28 _ _ _ _ _ hF)
theorem fo_F_X12_next_143 {σ0 : Mm} {rc28 : Int32 → Int32 → Int32 → Int32 → Mm → Option (Int32 × Mm)} (hrc28 : ∀ a0 a1 a2 a3 τ, Fr W_X12_next σ0 τ → FoI W_X12_next σ0 (rc28 a0 a1 a2 a3 τ)) {x1 : Int32} {x6 : Int32} {x7 : Int32} {σ : Mm} (hF : Fr W_X12_next σ0 σ) : FoI W_X12_next σ0 (F_X12_next_143 rc28 x1 x6 x7 σ) := by
  unfold F_X12_next_143
  exact (fo_F_X12_next_151 hrc28 hF)
theorem fo_F_X12_next_122 {σ0 : Mm} {rc28 : Int32 → Int32 → Int32 → Int32 → Mm → Option (Int32 × Mm)} (hrc28 : ∀ a0 a1 a2 a3 τ, Fr W_X12_next σ0 τ → FoI W_X12_next σ0 (rc28 a0 a1 a2 a3 τ)) {rc58 : Int32 → Int32 → Int32 → Int32 → Int32 → Int32 → Mm → Option (Int32 × Mm)} (hrc58 : ∀ a0 a1 a2 a3 a4 a5 τ, Fr W_X12_next σ0 τ → FoI W_X12_next σ0 (rc58 a0 a1 a2 a3 a4 a5 τ)) {x1 : Int32} {x4 : Int32} {x5 : Int32} {x6 : Int32} {x7 : Int32} {x8 : Int32} {σ : Mm} (hF : Fr W_X12_next σ0 σ) : FoI W_X12_next σ0 (F_X12_next_122 rc28 rc58 x1 x4 x5 x6 x7 x8 σ) := by
  unfold F_X12_next_122
  exact (hrc58 _ _ _ _ _ _ _ hF)
theorem fo_F_X12_next_114 {σ0 : Mm} {rc28 : Int32 → Int32 → Int32 → Int32 → Mm → Option (Int32 × Mm)} (hrc28 : ∀ a0 a1 a2 a3 τ, Fr W_X12_next σ0 τ → FoI W_X12_next σ0 (rc28 a0 a1 a2 a3 τ)) {rc58 : Int32 → Int32 → Int32 → Int32 → Int32 → Int32 → Mm → Option (Int32 × Mm)} (hrc58 : ∀ a0 a1 a2 a3 a4 a5 τ, Fr W_X12_next σ0 τ → FoI W_X12_next σ0 (rc58 a0 a1 a2 a3 a4 a5 τ)) {x1 : Int32} {x4 : Int32} {x5 : Int32} {x6 : Int32} {x7 : Int32} {x8 : Int32} {s0 : Int32} {σ : Mm} (hF : Fr W_X12_next σ0 σ) : FoI W_X12_next σ0 (F_X12_next_114 rc28 rc58 x1 x4 x5 x6 x7 x8 s0 σ) := by
  unfold F_X12_next_114
  exact (fI_ite (fo_F_X12_next_122 hrc28 hrc58 hF) (fo_F_X12_next_122 hrc28 hrc58 hF))
theorem fo_F_X12_next_86 {σ0 : Mm} {rc28 : Int32 → Int32 → Int32 → Int32 → Mm → Option (Int32 × Mm)} (hrc28 : ∀ a0 a1 a2 a3 τ, Fr W_X12_next σ0 τ → FoI W_X12_next σ0 (rc28 a0 a1 a2 a3 τ)) {rc58 : Int32 → Int32 → Int32 → Int32 → Int32 → Int32 → Mm → Option (Int32 × Mm)} (hrc58 : ∀ a0 a1 a2 a3 a4 a5 τ, Fr W_X12_next σ0 τ → FoI W_X12_next σ0 (rc58 a0 a1 a2 a3 a4 a5 τ)) {x1 : Int32} {x4 : Int32} {x5 : Int32} {x6 : Int32} {x7 : Int32} {x8 : Int32} {σ : Mm} (hF : Fr W_X12_next σ0 σ) : FoI W_X12_next σ0 (F_X12_next_86 rc28 rc58 x1 x4 x5 x6 x7 x8 σ) := by
  unfold F_X12_next_86
  exact (fI_ite (fI_ite (fo_F_X12_next_122 hrc28 hrc58 hF) (fI_ite (fI_ite (fI_I (Wc := W_X12_hitBy) hF rfl (fo_F_X12_hitBy Fr_r) (fun _ _ h1 => (fo_F_X12_next_114 hrc28 hrc58 h1))) fI_none) fI_none)) fI_none)
theorem fo_B_X12_next_58 {σ0 : Mm} {rc28 : Int32 → Int32 → Int32 → Int32 → Mm → Option (Int32 × Mm)} (hrc28 : ∀ a0 a1 a2 a3 τ, Fr W_X12_next σ0 τ → FoI W_X12_next σ0 (rc28 a0 a1 a2 a3 τ)) {rc58 : Int32 → Int32 → Int32 → Int32 → Int32 → Int32 → Mm → Option (Int32 × Mm)} (hrc58 : ∀ a0 a1 a2 a3 a4 a5 τ, Fr W_X12_next σ0 τ → FoI W_X12_next σ0 (rc58 a0 a1 a2 a3 a4 a5 τ)) {x1 : Int32} {x4 : Int32} {x5 : Int32} {x6 : Int32} {x7 : Int32} {x8 : Int32} {σ : Mm} (hF : Fr W_X12_next σ0 σ) : FoI W_X12_next σ0 (B_X12_next_58 rc28 rc58 x1 x4 x5 x6 x7 x8 σ) := by
  unfold B_X12_next_58
  exact (fI_ite (fI_ite (fo_F_X12_next_143 hrc28 hF) (fI_ite (fo_F_X12_next_143 hrc28 hF) (fo_F_X12_next_151 hrc28 hF))) (fI_ite (fo_F_X12_next_86 hrc28 hrc58 hF) (fI_ite (fo_F_X12_next_86 hrc28 hrc58 hF) (fo_F_X12_next_122 hrc28 hrc58 hF))))
theorem fo_F_X12_next_58 {σ0 : Mm} {rc28 : Int32 → Int32 → Int32 → Int32 → Mm → Option (Int32 × Mm)} (hrc28 : ∀ a0 a1 a2 a3 τ, Fr W_X12_next σ0 τ → FoI W_X12_next σ0 (rc28 a0 a1 a2 a3 τ)) (n : Nat) : ∀ {y0 : Int32} {y1 : Int32} {y2 : Int32} {y3 : Int32} {y4 : Int32} {y5 : Int32} {σ : Mm}, Fr W_X12_next σ0 σ → FoI W_X12_next σ0 (F_X12_next_58 rc28 n y0 y1 y2 y3 y4 y5 σ) := by
  induction n with
  | zero => intro y0 y1 y2 y3 y4 y5 σ _; exact fI_none
  | succ n ih => intro y0 y1 y2 y3 y4 y5 σ hF; exact fo_B_X12_next_58 hrc28 (fun _ _ _ _ _ _ _ h => ih h) hF
theorem fo_B_X12_next_28 {σ0 : Mm} {rc28 : Int32 → Int32 → Int32 → Int32 → Mm → Option (Int32 × Mm)} (hrc28 : ∀ a0 a1 a2 a3 τ, Fr W_X12_next σ0 τ → FoI W_X12_next σ0 (rc28 a0 a1 a2 a3 τ)) {x1 : Int32} {x4 : Int32} {x5 : Int32} {x6 : Int32} {σ : Mm} (hF : Fr W_X12_next σ0 σ) : FoI W_X12_next σ0 (B_X12_next_28 rc28 x1 x4 x5 x6 σ) := by
  unfold B_X12_next_28
  exact (fI_ite (fI_ite (fI_some hF) (fI_ite (fI_ite (fo_F_X12_next_58 hrc28 FU hF) (fo_F_X12_next_151 hrc28 hF)) fI_none)) fI_none)
theorem fo_F_X12_next_28 {σ0 : Mm} (n : Nat) : ∀ {y0 : Int32} {y1 : Int32} {y2 : Int32} {y3 : Int32} {σ : Mm}, Fr W_X12_next σ0 σ → FoI W_X12_next σ0 (F_X12_next_28  n y0 y1 y2 y3 σ) := by
  induction n with
  | zero => intro y0 y1 y2 y3 σ _; exact fI_none
  | succ n ih => intro y0 y1 y2 y3 σ hF; exact fo_B_X12_next_28  (fun _ _ _ _ _ h => ih h) hF
theorem fo_F_X12_next_18 {σ0 : Mm} {x1 : Int32} {σ : Mm} (hF : Fr W_X12_next σ0 σ) : FoI W_X12_next σ0 (F_X12_next_18 x1 σ) := by
  unfold F_X12_next_18
  exact (fo_F_X12_next_28  FU hF)
theorem fo_F_X12_next_7 {σ0 : Mm} {x1 : Int32} {x2 : Int32} {x3 : Int32} {s0 : Int32} {σ : Mm} (hF : Fr W_X12_next σ0 σ) : FoI W_X12_next σ0 (F_X12_next_7 x1 x2 x3 s0 σ) := by
  unfold F_X12_next_7
  exact (fI_ite (fI_some hF) (fV_I (Wc := W_X12_layAll) hF rfl (fo_F_X12_layAll Fr_r) (fun _ h1 => (fo_F_X12_next_18  h1))))
theorem fo_F_X12_next {σ0 : Mm} {x1 : Int32} {x2 : Int32} {x3 : Int32} {σ : Mm} (hF : Fr W_X12_next σ0 σ) : FoI W_X12_next σ0 (F_X12_next x1 x2 x3 σ) := by
  unfold F_X12_next
  exact (fI_I (Wc := W_X12_isSet) hF rfl (fo_F_X12_isSet Fr_r) (fun _ _ h1 => (fo_F_X12_next_7  h1)))
theorem fr_X12_next {x1 : Int32} {x2 : Int32} {x3 : Int32} {σ : Mm} : FoI W_X12_next σ (F_X12_next x1 x2 x3 σ) := fo_F_X12_next Fr_r
def W_X12_odds : List (Nat × Nat × Nat) := [(3, 0, 69), (3, 56, 999), (3, 57, 999), (3, 58, 999), (3, 66, 999), (3, 67, 999)]
theorem fo_F_X12_odds_57 {σ0 : Mm} {rc28 : Int32 → Int32 → Int32 → Int32 → Int32 → Int32 → Int32 → Mm → Option (Int32 × Mm)} (hrc28 : ∀ a0 a1 a2 a3 a4 a5 a6 τ, Fr W_X12_odds σ0 τ → FoI W_X12_odds σ0 (rc28 a0 a1 a2 a3 a4 a5 a6 τ)) {x1 : Int32} {x2 : Int32} {x3 : Int32} {x4 : Int32} {x5 : Int32} {x7 : Int32} {s0 : Int32} {s1 : Int32} {σ : Mm} (hF : Fr W_X12_odds σ0 σ) : FoI W_X12_odds σ0 (F_X12_odds_57 rc28 x1 x2 x3 x4 x5 x7 s0 s1 σ) := by
  unfold F_X12_odds_57
  exact (hrc28 _ _ _ _ _ _ _ _ hF)
theorem fo_F_X12_odds_47 {σ0 : Mm} {rc28 : Int32 → Int32 → Int32 → Int32 → Int32 → Int32 → Int32 → Mm → Option (Int32 × Mm)} (hrc28 : ∀ a0 a1 a2 a3 a4 a5 a6 τ, Fr W_X12_odds σ0 τ → FoI W_X12_odds σ0 (rc28 a0 a1 a2 a3 a4 a5 a6 τ)) {x1 : Int32} {x2 : Int32} {x3 : Int32} {x4 : Int32} {x5 : Int32} {x7 : Int32} {s0 : Int32} {s1 : Int32} {σ : Mm} (hF : Fr W_X12_odds σ0 σ) : FoI W_X12_odds σ0 (F_X12_odds_47 rc28 x1 x2 x3 x4 x5 x7 s0 s1 σ) := by
  unfold F_X12_odds_47
  exact (fI_ite (fo_F_X12_odds_57 hrc28 hF) (fo_F_X12_odds_57 hrc28 hF))
theorem fo_B_X12_odds_28 {σ0 : Mm} {rc28 : Int32 → Int32 → Int32 → Int32 → Int32 → Int32 → Int32 → Mm → Option (Int32 × Mm)} (hrc28 : ∀ a0 a1 a2 a3 a4 a5 a6 τ, Fr W_X12_odds σ0 τ → FoI W_X12_odds σ0 (rc28 a0 a1 a2 a3 a4 a5 a6 τ)) {x1 : Int32} {x2 : Int32} {x3 : Int32} {x4 : Int32} {x5 : Int32} {x6 : Int32} {x7 : Int32} {σ : Mm} (hF : Fr W_X12_odds σ0 σ) : FoI W_X12_odds σ0 (B_X12_odds_28 rc28 x1 x2 x3 x4 x5 x6 x7 σ) := by
  unfold B_X12_odds_28
  exact (fI_ite (fI_some hF) (fI_I (Wc := W_X12_madeHits) hF rfl (fo_F_X12_madeHits Fr_r) (fun _ _ h1 => (fo_F_X12_odds_47 hrc28 h1))))
theorem fo_F_X12_odds_28 {σ0 : Mm} (n : Nat) : ∀ {y0 : Int32} {y1 : Int32} {y2 : Int32} {y3 : Int32} {y4 : Int32} {y5 : Int32} {y6 : Int32} {σ : Mm}, Fr W_X12_odds σ0 σ → FoI W_X12_odds σ0 (F_X12_odds_28  n y0 y1 y2 y3 y4 y5 y6 σ) := by
  induction n with
  | zero => intro y0 y1 y2 y3 y4 y5 y6 σ _; exact fI_none
  | succ n ih => intro y0 y1 y2 y3 y4 y5 y6 σ hF; exact fo_B_X12_odds_28  (fun _ _ _ _ _ _ _ _ h => ih h) hF
theorem fo_F_X12_odds {σ0 : Mm} {x1 : Int32} {x2 : Int32} {x3 : Int32} {x4 : Int32} {x5 : Int32} {σ : Mm} (hF : Fr W_X12_odds σ0 σ) : FoI W_X12_odds σ0 (F_X12_odds x1 x2 x3 x4 x5 σ) := by
  unfold F_X12_odds
  exact (fI_ite (fI_some hF) (fI_ite (fI_some hF) (fo_F_X12_odds_28  FU hF)))
theorem fr_X12_odds {x1 : Int32} {x2 : Int32} {x3 : Int32} {x4 : Int32} {x5 : Int32} {σ : Mm} : FoI W_X12_odds σ (F_X12_odds x1 x2 x3 x4 x5 σ) := fo_F_X12_odds Fr_r
def W_X12_otherwise : List (Nat × Nat × Nat) := [(3, 0, 69), (3, 48, 999), (3, 49, 999), (3, 50, 999), (3, 51, 999), (3, 52, 999), (3, 53, 999), (3, 54, 999), (3, 55, 999), (3, 56, 999), (3, 57, 999), (3, 58, 999), (3, 65, 999)]
theorem fo_F_X12_otherwise_155 {σ0 : Mm} {rc101 : Int32 → Int32 → Int32 → Mm → Option (Int32 × Mm)} (hrc101 : ∀ a0 a1 a2 τ, Fr W_X12_otherwise σ0 τ → FoI W_X12_otherwise σ0 (rc101 a0 a1 a2 τ)) {x1 : Int32} {x5 : Int32} {x6 : Int32} {σ : Mm} (hF : Fr W_X12_otherwise σ0 σ) : FoI W_X12_otherwise σ0 (F_X12_otherwise_155 rc101 x1 x5 x6 σ) := by
  unfold F_X12_otherwise_155
  exact (hrc101 _ _ _ _ hF)
theorem fo_F_X12_otherwise_152 {σ0 : Mm} {rc101 : Int32 → Int32 → Int32 → Mm → Option (Int32 × Mm)} (hrc101 : ∀ a0 a1 a2 τ, Fr W_X12_otherwise σ0 τ → FoI W_X12_otherwise σ0 (rc101 a0 a1 a2 τ)) {x1 : Int32} {x5 : Int32} {x6 : Int32} {σ : Mm} (hF : Fr W_X12_otherwise σ0 σ) : FoI W_X12_otherwise σ0 (F_X12_otherwise_152 rc101 x1 x5 x6 σ) := by
  unfold F_X12_otherwise_152
  exact (fo_F_X12_otherwise_155 hrc101 hF)
theorem fo_F_X12_otherwise_147 {σ0 : Mm} {rc101 : Int32 → Int32 → Int32 → Mm → Option (Int32 × Mm)} (hrc101 : ∀ a0 a1 a2 τ, Fr W_X12_otherwise σ0 τ → FoI W_X12_otherwise σ0 (rc101 a0 a1 a2 τ)) {x1 : Int32} {x5 : Int32} {x6 : Int32} {s0 : Int32} {σ : Mm} (hF : Fr W_X12_otherwise σ0 σ) : FoI W_X12_otherwise σ0 (F_X12_otherwise_147 rc101 x1 x5 x6 s0 σ) := by
  unfold F_X12_otherwise_147
  exact (fI_ite (fo_F_X12_otherwise_152 hrc101 hF) (fo_F_X12_otherwise_155 hrc101 hF))
theorem fo_B_X12_otherwise_101 {σ0 : Mm} {rc101 : Int32 → Int32 → Int32 → Mm → Option (Int32 × Mm)} (hrc101 : ∀ a0 a1 a2 τ, Fr W_X12_otherwise σ0 τ → FoI W_X12_otherwise σ0 (rc101 a0 a1 a2 τ)) {x1 : Int32} {x5 : Int32} {x6 : Int32} {σ : Mm} (hF : Fr W_X12_otherwise σ0 σ) : FoI W_X12_otherwise σ0 (B_X12_otherwise_101 rc101 x1 x5 x6 σ) := by
  unfold B_X12_otherwise_101
  exact (fI_ite (fI_some hF) (fI_ite (fI_ite (fo_F_X12_otherwise_155 hrc101 hF) (fI_ite (fI_ite (fo_F_X12_otherwise_152 hrc101 hF) (fI_ite (fI_ite (fI_I (Wc := W_X12_hitBy) hF rfl (fo_F_X12_hitBy Fr_r) (fun _ _ h1 => (fo_F_X12_otherwise_147 hrc101 h1))) fI_none) fI_none)) fI_none)) fI_none))
theorem fo_F_X12_otherwise_101 {σ0 : Mm} (n : Nat) : ∀ {y0 : Int32} {y1 : Int32} {y2 : Int32} {σ : Mm}, Fr W_X12_otherwise σ0 σ → FoI W_X12_otherwise σ0 (F_X12_otherwise_101  n y0 y1 y2 σ) := by
  induction n with
  | zero => intro y0 y1 y2 σ _; exact fI_none
  | succ n ih => intro y0 y1 y2 σ hF; exact fo_B_X12_otherwise_101  (fun _ _ _ _ h => ih h) hF
theorem fo_F_X12_otherwise_95 {σ0 : Mm} {x1 : Int32} {σ : Mm} (hF : Fr W_X12_otherwise σ0 σ) : FoI W_X12_otherwise σ0 (F_X12_otherwise_95 x1 σ) := by
  unfold F_X12_otherwise_95
  exact (fo_F_X12_otherwise_101  FU hF)
theorem fo_F_X12_otherwise_83 {σ0 : Mm} {rc30 : Int32 → Int32 → Int32 → Mm → Option (Int32 × Mm)} (hrc30 : ∀ a0 a1 a2 τ, Fr W_X12_otherwise σ0 τ → FoI W_X12_otherwise σ0 (rc30 a0 a1 a2 τ)) {x1 : Int32} {x4 : Int32} {x5 : Int32} {σ : Mm} (hF : Fr W_X12_otherwise σ0 σ) : FoI W_X12_otherwise σ0 (F_X12_otherwise_83 rc30 x1 x4 x5 σ) := by
  unfold F_X12_otherwise_83
  exact (hrc30 _ _ _ _ hF)
theorem fo_F_X12_otherwise_82 {σ0 : Mm} {rc30 : Int32 → Int32 → Int32 → Mm → Option (Int32 × Mm)} (hrc30 : ∀ a0 a1 a2 τ, Fr W_X12_otherwise σ0 τ → FoI W_X12_otherwise σ0 (rc30 a0 a1 a2 τ)) {x1 : Int32} {x4 : Int32} {x5 : Int32} {s0 : Int32} {s1 : Int32} {σ : Mm} (hF : Fr W_X12_otherwise σ0 σ) : FoI W_X12_otherwise σ0 (F_X12_otherwise_82 rc30 x1 x4 x5 s0 s1 σ) := by
  unfold F_X12_otherwise_82
  exact (fI_ite (fo_F_X12_otherwise_83 hrc30 (Fr.AA hF rfl)) fI_none)
theorem fo_F_X12_otherwise_81 {σ0 : Mm} {rc30 : Int32 → Int32 → Int32 → Mm → Option (Int32 × Mm)} (hrc30 : ∀ a0 a1 a2 τ, Fr W_X12_otherwise σ0 τ → FoI W_X12_otherwise σ0 (rc30 a0 a1 a2 τ)) {x1 : Int32} {x4 : Int32} {x5 : Int32} {s0 : Int32} {σ : Mm} (hF : Fr W_X12_otherwise σ0 σ) : FoI W_X12_otherwise σ0 (F_X12_otherwise_81 rc30 x1 x4 x5 s0 σ) := by
  unfold F_X12_otherwise_81
  exact (fo_F_X12_otherwise_82 hrc30 hF)
theorem fo_F_X12_otherwise_72 {σ0 : Mm} {rc30 : Int32 → Int32 → Int32 → Mm → Option (Int32 × Mm)} (hrc30 : ∀ a0 a1 a2 τ, Fr W_X12_otherwise σ0 τ → FoI W_X12_otherwise σ0 (rc30 a0 a1 a2 τ)) {x1 : Int32} {x4 : Int32} {x5 : Int32} {s0 : Int32} {s1 : Int32} {σ : Mm} (hF : Fr W_X12_otherwise σ0 σ) : FoI W_X12_otherwise σ0 (F_X12_otherwise_72 rc30 x1 x4 x5 s0 s1 σ) := by
  unfold F_X12_otherwise_72
  exact (fI_ite (fo_F_X12_otherwise_81 hrc30 hF) (fo_F_X12_otherwise_82 hrc30 hF))
theorem fo_B_X12_otherwise_30 {σ0 : Mm} {rc30 : Int32 → Int32 → Int32 → Mm → Option (Int32 × Mm)} (hrc30 : ∀ a0 a1 a2 τ, Fr W_X12_otherwise σ0 τ → FoI W_X12_otherwise σ0 (rc30 a0 a1 a2 τ)) {x1 : Int32} {x4 : Int32} {x5 : Int32} {σ : Mm} (hF : Fr W_X12_otherwise σ0 σ) : FoI W_X12_otherwise σ0 (B_X12_otherwise_30 rc30 x1 x4 x5 σ) := by
  unfold B_X12_otherwise_30
  exact (fI_ite (fV_I (Wc := W_X12_lay) hF rfl (fo_F_X12_lay Fr_r) (fun _ h1 => (fo_F_X12_otherwise_95  h1))) (fI_ite (fI_ite (fo_F_X12_otherwise_81 hrc30 hF) (fI_ite (fI_ite (fI_I (Wc := W_X12_hitBy) hF rfl (fo_F_X12_hitBy Fr_r) (fun _ _ h2 => (fo_F_X12_otherwise_72 hrc30 h2))) fI_none) fI_none)) fI_none))
theorem fo_F_X12_otherwise_30 {σ0 : Mm} (n : Nat) : ∀ {y0 : Int32} {y1 : Int32} {y2 : Int32} {σ : Mm}, Fr W_X12_otherwise σ0 σ → FoI W_X12_otherwise σ0 (F_X12_otherwise_30  n y0 y1 y2 σ) := by
  induction n with
  | zero => intro y0 y1 y2 σ _; exact fI_none
  | succ n ih => intro y0 y1 y2 σ hF; exact fo_B_X12_otherwise_30  (fun _ _ _ _ h => ih h) hF
theorem fo_F_X12_otherwise_27 {σ0 : Mm} {x1 : Int32} {x4 : Int32} {σ : Mm} (hF : Fr W_X12_otherwise σ0 σ) : FoI W_X12_otherwise σ0 (F_X12_otherwise_27 x1 x4 σ) := by
  unfold F_X12_otherwise_27
  exact (fo_F_X12_otherwise_30  FU hF)
theorem fo_F_X12_otherwise_16 {σ0 : Mm} {x1 : Int32} {x2 : Int32} {x3 : Int32} {x4 : Int32} {s0 : Int32} {σ : Mm} (hF : Fr W_X12_otherwise σ0 σ) : FoI W_X12_otherwise σ0 (F_X12_otherwise_16 x1 x2 x3 x4 s0 σ) := by
  unfold F_X12_otherwise_16
  exact (fI_ite (fI_some hF) (fV_I (Wc := W_X12_layAll) hF rfl (fo_F_X12_layAll Fr_r) (fun _ h1 => (fo_F_X12_otherwise_27  h1))))
theorem fo_F_X12_otherwise_7 {σ0 : Mm} {x1 : Int32} {x2 : Int32} {x3 : Int32} {x4 : Int32} {s0 : Int32} {σ : Mm} (hF : Fr W_X12_otherwise σ0 σ) : FoI W_X12_otherwise σ0 (F_X12_otherwise_7 x1 x2 x3 x4 s0 σ) := by
  unfold F_X12_otherwise_7
  exact (fI_ite (fI_some hF) (fI_I (Wc := W_X12_isKnown) hF rfl (fo_F_X12_isKnown Fr_r) (fun _ _ h1 => (fo_F_X12_otherwise_16  h1))))
theorem fo_F_X12_otherwise {σ0 : Mm} {x1 : Int32} {x2 : Int32} {x3 : Int32} {x4 : Int32} {σ : Mm} (hF : Fr W_X12_otherwise σ0 σ) : FoI W_X12_otherwise σ0 (F_X12_otherwise x1 x2 x3 x4 σ) := by
  unfold F_X12_otherwise
  exact (fI_I (Wc := W_X12_isSet) hF rfl (fo_F_X12_isSet Fr_r) (fun _ _ h1 => (fo_F_X12_otherwise_7  h1)))
theorem fr_X12_otherwise {x1 : Int32} {x2 : Int32} {x3 : Int32} {x4 : Int32} {σ : Mm} : FoI W_X12_otherwise σ (F_X12_otherwise x1 x2 x3 x4 σ) := fo_F_X12_otherwise Fr_r
def W_X12_takesInt : List (Nat × Nat × Nat) := [(3, 0, 7), (3, 0, 8), (3, 0, 9), (3, 0, 10), (3, 0, 11), (3, 0, 55)]
theorem fo_F_X12_takesInt_47 {σ0 : Mm} {σ : Mm} (hF : Fr W_X12_takesInt σ0 σ) : FoI W_X12_takesInt σ0 (F_X12_takesInt_47 σ) := by
  unfold F_X12_takesInt_47
  exact (fI_some hF)
theorem fo_F_X12_takesInt_41 {σ0 : Mm} {x3 : Int32} {σ : Mm} (hF : Fr W_X12_takesInt σ0 σ) : FoI W_X12_takesInt σ0 (F_X12_takesInt_41 x3 σ) := by
  unfold F_X12_takesInt_41
  exact (fV_I (Wc := W_X12_tells) hF rfl (fo_F_X12_tells Fr_r) (fun _ h1 => (fo_F_X12_takesInt_47  h1)))
theorem fo_F_X12_takesInt_25 {σ0 : Mm} {x1 : Int32} {x2 : Int32} {x3 : Int32} {σ : Mm} (hF : Fr W_X12_takesInt σ0 σ) : FoI W_X12_takesInt σ0 (F_X12_takesInt_25 x1 x2 x3 σ) := by
  unfold F_X12_takesInt_25
  exact (fI_ite (fo_F_X12_takesInt_41  hF) (fI_ite (fI_some hF) (fo_F_X12_takesInt_41  hF)))
theorem fo_F_X12_takesInt_10 {σ0 : Mm} {x1 : Int32} {x2 : Int32} {x3 : Int32} {s0 : Int32} {σ : Mm} (hF : Fr W_X12_takesInt σ0 σ) : FoI W_X12_takesInt σ0 (F_X12_takesInt_10 x1 x2 x3 s0 σ) := by
  unfold F_X12_takesInt_10
  exact (fI_ite (fI_some hF) (fI_ite (fo_F_X12_takesInt_25  (Fr.A hF rfl)) fI_none))
theorem fo_F_X12_takesInt {σ0 : Mm} {x1 : Int32} {x2 : Int32} {σ : Mm} (hF : Fr W_X12_takesInt σ0 σ) : FoI W_X12_takesInt σ0 (F_X12_takesInt x1 x2 σ) := by
  unfold F_X12_takesInt
  exact (fI_I (Wc := W_X12_takes) hF rfl (fo_F_X12_takes Fr_r) (fun _ _ h1 => (fo_F_X12_takesInt_10  h1)))
theorem fr_X12_takesInt {x1 : Int32} {x2 : Int32} {σ : Mm} : FoI W_X12_takesInt σ (F_X12_takesInt x1 x2 σ) := fo_F_X12_takesInt Fr_r
def W_X12_thingAt : List (Nat × Nat × Nat) := [(3, 0, 10), (3, 0, 11)]
theorem fo_F_X12_thingAt_54 {σ0 : Mm} {σ : Mm} (hF : Fr W_X12_thingAt σ0 σ) : FoI W_X12_thingAt σ0 (F_X12_thingAt_54 σ) := by
  unfold F_X12_thingAt_54
  exact (fI_some hF)
theorem fo_F_X12_thingAt_42 {σ0 : Mm} {rc2 : Int32 → Int32 → Mm → Option (Int32 × Mm)} (hrc2 : ∀ a0 a1 τ, Fr W_X12_thingAt σ0 τ → FoI W_X12_thingAt σ0 (rc2 a0 a1 τ)) {x1 : Int32} {x2 : Int32} {σ : Mm} (hF : Fr W_X12_thingAt σ0 σ) : FoI W_X12_thingAt σ0 (F_X12_thingAt_42 rc2 x1 x2 σ) := by
  unfold F_X12_thingAt_42
  exact (hrc2 _ _ _ hF)
theorem fo_B_X12_thingAt_2 {σ0 : Mm} {rc2 : Int32 → Int32 → Mm → Option (Int32 × Mm)} (hrc2 : ∀ a0 a1 τ, Fr W_X12_thingAt σ0 τ → FoI W_X12_thingAt σ0 (rc2 a0 a1 τ)) {x1 : Int32} {x2 : Int32} {σ : Mm} (hF : Fr W_X12_thingAt σ0 σ) : FoI W_X12_thingAt σ0 (B_X12_thingAt_2 rc2 x1 x2 σ) := by
  unfold B_X12_thingAt_2
  exact (fI_ite (fV_I (Wc := W_X12_tells) hF rfl (fo_F_X12_tells Fr_r) (fun _ h1 => (fo_F_X12_thingAt_54  h1))) (fI_ite (fI_ite (fI_ite (fI_ite (fI_ite (fo_F_X12_thingAt_42 hrc2 hF) (fI_ite (fI_some hF) fI_none)) fI_none) (fo_F_X12_thingAt_42 hrc2 hF)) fI_none) fI_none))
theorem fo_F_X12_thingAt_2 {σ0 : Mm} (n : Nat) : ∀ {y0 : Int32} {y1 : Int32} {σ : Mm}, Fr W_X12_thingAt σ0 σ → FoI W_X12_thingAt σ0 (F_X12_thingAt_2  n y0 y1 σ) := by
  induction n with
  | zero => intro y0 y1 σ _; exact fI_none
  | succ n ih => intro y0 y1 σ hF; exact fo_B_X12_thingAt_2  (fun _ _ _ h => ih h) hF
theorem fo_F_X12_thingAt {σ0 : Mm} {x1 : Int32} {σ : Mm} (hF : Fr W_X12_thingAt σ0 σ) : FoI W_X12_thingAt σ0 (F_X12_thingAt x1 σ) := by
  unfold F_X12_thingAt
  exact (fo_F_X12_thingAt_2  FU hF)
theorem fr_X12_thingAt {x1 : Int32} {σ : Mm} : FoI W_X12_thingAt σ (F_X12_thingAt x1 σ) := fo_F_X12_thingAt Fr_r
def W_X12_tellDoor : List (Nat × Nat × Nat) := [(3, 0, 7), (3, 0, 8), (3, 0, 9), (3, 0, 10), (3, 0, 11), (3, 14, 999), (3, 15, 999), (3, 16, 999)]
theorem fo_F_X12_tellDoor_128 {σ0 : Mm} {σ : Mm} (hF : Fr W_X12_tellDoor σ0 σ) : FoI W_X12_tellDoor σ0 (F_X12_tellDoor_128 σ) := by
  unfold F_X12_tellDoor_128
  exact (fI_some hF)
theorem fo_F_X12_tellDoor_118 {σ0 : Mm} {σ : Mm} (hF : Fr W_X12_tellDoor σ0 σ) : FoI W_X12_tellDoor σ0 (F_X12_tellDoor_118 σ) := by
  unfold F_X12_tellDoor_118
  exact (fI_ite (fI_ite (fo_F_X12_tellDoor_128  (Fr.AA hF rfl)) fI_none) fI_none)
theorem fo_F_X12_tellDoor_83 {σ0 : Mm} {x1 : Int32} {x2 : Int32} {σ : Mm} (hF : Fr W_X12_tellDoor σ0 σ) : FoI W_X12_tellDoor σ0 (F_X12_tellDoor_83 x1 x2 σ) := by
  unfold F_X12_tellDoor_83
  exact (fI_ite (fI_ite (fo_F_X12_tellDoor_118  hF) (fI_ite (fI_ite (fI_ite (fV_I (Wc := W_X12_tells) hF rfl (fo_F_X12_tells Fr_r) (fun _ h1 => (fo_F_X12_tellDoor_118  h1))) (fo_F_X12_tellDoor_118  hF)) fI_none) fI_none)) fI_none)
theorem fo_F_X12_tellDoor_82 {σ0 : Mm} {x1 : Int32} {x2 : Int32} {s0 : Int32} {s1 : Int32} {σ : Mm} (hF : Fr W_X12_tellDoor σ0 σ) : FoI W_X12_tellDoor σ0 (F_X12_tellDoor_82 x1 x2 s0 s1 σ) := by
  unfold F_X12_tellDoor_82
  exact (fI_ite (fo_F_X12_tellDoor_83  (Fr.AA hF rfl)) fI_none)
theorem fo_F_X12_tellDoor_70 {σ0 : Mm} {x1 : Int32} {x2 : Int32} {σ : Mm} (hF : Fr W_X12_tellDoor σ0 σ) : FoI W_X12_tellDoor σ0 (F_X12_tellDoor_70 x1 x2 σ) := by
  unfold F_X12_tellDoor_70
  exact (fI_I (Wc := W_X12_thingAt) hF rfl (fo_F_X12_thingAt Fr_r) (fun _ _ h1 => (fo_F_X12_tellDoor_82  h1)))
theorem fo_F_X12_tellDoor_69 {σ0 : Mm} {x1 : Int32} {x2 : Int32} {s0 : Int32} {s1 : Int32} {σ : Mm} (hF : Fr W_X12_tellDoor σ0 σ) : FoI W_X12_tellDoor σ0 (F_X12_tellDoor_69 x1 x2 s0 s1 σ) := by
  unfold F_X12_tellDoor_69
  exact (fI_ite (fo_F_X12_tellDoor_70  (Fr.AA hF rfl)) fI_none)
theorem fo_F_X12_tellDoor_59 {σ0 : Mm} {x1 : Int32} {x2 : Int32} {σ : Mm} (hF : Fr W_X12_tellDoor σ0 σ) : FoI W_X12_tellDoor σ0 (F_X12_tellDoor_59 x1 x2 σ) := by
  unfold F_X12_tellDoor_59
  exact (fI_I (Wc := W_X12_thingAt) hF rfl (fo_F_X12_thingAt Fr_r) (fun _ _ h1 => (fo_F_X12_tellDoor_69  h1)))
theorem fo_F_X12_tellDoor_44 {σ0 : Mm} {x1 : Int32} {s0 : Int32} {σ : Mm} (hF : Fr W_X12_tellDoor σ0 σ) : FoI W_X12_tellDoor σ0 (F_X12_tellDoor_44 x1 s0 σ) := by
  unfold F_X12_tellDoor_44
  exact (fI_ite (fI_some hF) (fI_ite (fo_F_X12_tellDoor_59  hF) fI_none))
theorem fo_F_X12_tellDoor_36 {σ0 : Mm} {x1 : Int32} {s0 : Int32} {σ : Mm} (hF : Fr W_X12_tellDoor σ0 σ) : FoI W_X12_tellDoor σ0 (F_X12_tellDoor_36 x1 s0 σ) := by
  unfold F_X12_tellDoor_36
  exact (fI_ite (fI_some hF) (fI_I (Wc := W_X12_takes) hF rfl (fo_F_X12_takes Fr_r) (fun _ _ h1 => (fo_F_X12_tellDoor_44  h1))))
theorem fo_F_X12_tellDoor_28 {σ0 : Mm} {x1 : Int32} {s0 : Int32} {σ : Mm} (hF : Fr W_X12_tellDoor σ0 σ) : FoI W_X12_tellDoor σ0 (F_X12_tellDoor_28 x1 s0 σ) := by
  unfold F_X12_tellDoor_28
  exact (fI_ite (fI_some hF) (fI_I (Wc := W_X12_takes) hF rfl (fo_F_X12_takes Fr_r) (fun _ _ h1 => (fo_F_X12_tellDoor_36  h1))))
theorem fo_F_X12_tellDoor_16 {σ0 : Mm} {s0 : Int32} {σ : Mm} (hF : Fr W_X12_tellDoor σ0 σ) : FoI W_X12_tellDoor σ0 (F_X12_tellDoor_16 s0 σ) := by
  unfold F_X12_tellDoor_16
  exact (fI_ite (fI_some hF) fI_none)
theorem fo_F_X12_tellDoor {σ0 : Mm} {σ : Mm} (hF : Fr W_X12_tellDoor σ0 σ) : FoI W_X12_tellDoor σ0 (F_X12_tellDoor σ) := by
  unfold F_X12_tellDoor
  exact (fI_ite (fI_ite (fI_I (Wc := W_X12_wrong) hF rfl (fo_F_X12_wrong Fr_r) (fun _ _ h1 => (fo_F_X12_tellDoor_16  h1))) (fI_I (Wc := W_X12_pass) hF rfl (fo_F_X12_pass Fr_r) (fun _ _ h2 => (fo_F_X12_tellDoor_28  h2)))) fI_none)
theorem fr_X12_tellDoor {σ : Mm} : FoI W_X12_tellDoor σ (F_X12_tellDoor σ) := fo_F_X12_tellDoor Fr_r
def W_X12_tellHill : List (Nat × Nat × Nat) := [(3, 0, 7), (3, 0, 8), (3, 0, 9), (3, 0, 10), (3, 0, 11), (3, 0, 55), (3, 17, 999), (3, 18, 999), (3, 19, 999), (3, 20, 999)]
theorem fo_F_X12_tellHill_112 {σ0 : Mm} {σ : Mm} (hF : Fr W_X12_tellHill σ0 σ) : FoI W_X12_tellHill σ0 (F_X12_tellHill_112 σ) := by
  unfold F_X12_tellHill_112
  exact (fI_some hF)
theorem fo_F_X12_tellHill_102 {σ0 : Mm} {σ : Mm} (hF : Fr W_X12_tellHill σ0 σ) : FoI W_X12_tellHill σ0 (F_X12_tellHill_102 σ) := by
  unfold F_X12_tellHill_102
  exact (fI_ite (fI_ite (fo_F_X12_tellHill_112  (Fr.AA hF rfl)) fI_none) fI_none)
theorem fo_F_X12_tellHill_87 {σ0 : Mm} {x1 : Int32} {s0 : Int32} {σ : Mm} (hF : Fr W_X12_tellHill σ0 σ) : FoI W_X12_tellHill σ0 (F_X12_tellHill_87 x1 s0 σ) := by
  unfold F_X12_tellHill_87
  exact (fI_ite (fI_some hF) (fI_ite (fo_F_X12_tellHill_102  (Fr.AA hF rfl)) fI_none))
theorem fo_F_X12_tellHill_80 {σ0 : Mm} {x1 : Int32} {σ : Mm} (hF : Fr W_X12_tellHill σ0 σ) : FoI W_X12_tellHill σ0 (F_X12_tellHill_80 x1 σ) := by
  unfold F_X12_tellHill_80
  exact (fI_I (Wc := W_X12_takesInt) hF rfl (fo_F_X12_takesInt Fr_r) (fun _ _ h1 => (fo_F_X12_tellHill_87  h1)))
theorem fo_F_X12_tellHill_65 {σ0 : Mm} {x1 : Int32} {s0 : Int32} {σ : Mm} (hF : Fr W_X12_tellHill σ0 σ) : FoI W_X12_tellHill σ0 (F_X12_tellHill_65 x1 s0 σ) := by
  unfold F_X12_tellHill_65
  exact (fI_ite (fI_some hF) (fI_ite (fo_F_X12_tellHill_80  (Fr.AA hF rfl)) fI_none))
theorem fo_F_X12_tellHill_57 {σ0 : Mm} {x1 : Int32} {σ : Mm} (hF : Fr W_X12_tellHill σ0 σ) : FoI W_X12_tellHill σ0 (F_X12_tellHill_57 x1 σ) := by
  unfold F_X12_tellHill_57
  exact (fI_I (Wc := W_X12_takesInt) hF rfl (fo_F_X12_takesInt Fr_r) (fun _ _ h1 => (fo_F_X12_tellHill_65  h1)))
theorem fo_F_X12_tellHill_42 {σ0 : Mm} {x1 : Int32} {s0 : Int32} {σ : Mm} (hF : Fr W_X12_tellHill σ0 σ) : FoI W_X12_tellHill σ0 (F_X12_tellHill_42 x1 s0 σ) := by
  unfold F_X12_tellHill_42
  exact (fI_ite (fI_some hF) (fI_ite (fo_F_X12_tellHill_57  (Fr.AA hF rfl)) fI_none))
theorem fo_F_X12_tellHill_31 {σ0 : Mm} {x1 : Int32} {s0 : Int32} {σ : Mm} (hF : Fr W_X12_tellHill σ0 σ) : FoI W_X12_tellHill σ0 (F_X12_tellHill_31 x1 s0 σ) := by
  unfold F_X12_tellHill_31
  exact (fI_ite (fI_some hF) (fI_I (Wc := W_X12_takesInt) hF rfl (fo_F_X12_takesInt Fr_r) (fun _ _ h1 => (fo_F_X12_tellHill_42  h1))))
theorem fo_F_X12_tellHill_27 {σ0 : Mm} {x1 : Int32} {σ : Mm} (hF : Fr W_X12_tellHill σ0 σ) : FoI W_X12_tellHill σ0 (F_X12_tellHill_27 x1 σ) := by
  unfold F_X12_tellHill_27
  exact (fI_I (Wc := W_X12_pass) hF rfl (fo_F_X12_pass Fr_r) (fun _ _ h1 => (fo_F_X12_tellHill_31  h1)))
theorem fo_F_X12_tellHill_16 {σ0 : Mm} {s0 : Int32} {σ : Mm} (hF : Fr W_X12_tellHill σ0 σ) : FoI W_X12_tellHill σ0 (F_X12_tellHill_16 s0 σ) := by
  unfold F_X12_tellHill_16
  exact (fI_ite (fI_some hF) fI_none)
theorem fo_F_X12_tellHill {σ0 : Mm} {σ : Mm} (hF : Fr W_X12_tellHill σ0 σ) : FoI W_X12_tellHill σ0 (F_X12_tellHill σ) := by
  unfold F_X12_tellHill
  exact (fI_ite (fI_ite (fI_I (Wc := W_X12_wrong) hF rfl (fo_F_X12_wrong Fr_r) (fun _ _ h1 => (fo_F_X12_tellHill_16  h1))) (fI_ite (fo_F_X12_tellHill_27  hF) fI_none)) fI_none)
theorem fr_X12_tellHill {σ : Mm} : FoI W_X12_tellHill σ (F_X12_tellHill σ) := fo_F_X12_tellHill Fr_r
def W_X12_tellRule : List (Nat × Nat × Nat) := [(3, 0, 7), (3, 0, 8), (3, 0, 9), (3, 0, 56), (3, 0, 58), (3, 0, 59), (3, 25, 999), (3, 26, 999), (3, 27, 999), (3, 28, 999), (3, 29, 999), (3, 30, 999), (3, 31, 999), (3, 32, 999), (3, 33, 999), (3, 34, 999), (3, 35, 999), (3, 36, 999), (3, 37, 999), (3, 47, 999)]
theorem fo_F_X12_tellRule_105 {σ0 : Mm} {σ : Mm} (hF : Fr W_X12_tellRule σ0 σ) : FoI W_X12_tellRule σ0 (F_X12_tellRule_105 σ) := by
  unfold F_X12_tellRule_105
  exact (fI_some hF)
theorem fo_F_X12_tellRule_95 {σ0 : Mm} {σ : Mm} (hF : Fr W_X12_tellRule σ0 σ) : FoI W_X12_tellRule σ0 (F_X12_tellRule_95 σ) := by
  unfold F_X12_tellRule_95
  exact (fI_ite (fI_ite (fo_F_X12_tellRule_105  (Fr.AA hF rfl)) fI_none) fI_none)
theorem fo_F_X12_tellRule_75 {σ0 : Mm} {σ : Mm} (hF : Fr W_X12_tellRule σ0 σ) : FoI W_X12_tellRule σ0 (F_X12_tellRule_75 σ) := by
  unfold F_X12_tellRule_75
  exact (fI_ite (fI_ite (fI_ite (fo_F_X12_tellRule_95  (Fr.AA hF rfl)) fI_none) fI_none) fI_none)
theorem fo_F_X12_tellRule_52 {σ0 : Mm} {s0 : Int32} {σ : Mm} (hF : Fr W_X12_tellRule σ0 σ) : FoI W_X12_tellRule σ0 (F_X12_tellRule_52 s0 σ) := by
  unfold F_X12_tellRule_52
  exact (fI_ite (fI_some hF) (fI_ite (fI_ite (fo_F_X12_tellRule_75  (Fr.AA hF rfl)) fI_none) fI_none))
theorem fo_F_X12_tellRule_45 {σ0 : Mm} {s0 : Int32} {σ : Mm} (hF : Fr W_X12_tellRule σ0 σ) : FoI W_X12_tellRule σ0 (F_X12_tellRule_45 s0 σ) := by
  unfold F_X12_tellRule_45
  exact (fI_ite (fI_some hF) (fI_I (Wc := W_X12_cond) hF rfl (fo_F_X12_cond Fr_r) (fun _ _ h1 => (fo_F_X12_tellRule_52  h1))))
theorem fo_F_X12_tellRule_40 {σ0 : Mm} {s0 : Int32} {σ : Mm} (hF : Fr W_X12_tellRule σ0 σ) : FoI W_X12_tellRule σ0 (F_X12_tellRule_40 s0 σ) := by
  unfold F_X12_tellRule_40
  exact (fI_ite (fI_some hF) fI_none)
theorem fo_F_X12_tellRule_32 {σ0 : Mm} {s0 : Int32} {σ : Mm} (hF : Fr W_X12_tellRule σ0 σ) : FoI W_X12_tellRule σ0 (F_X12_tellRule_32 s0 σ) := by
  unfold F_X12_tellRule_32
  exact (fI_ite (fI_I (Wc := W_X12_wrong) hF rfl (fo_F_X12_wrong Fr_r) (fun _ _ h1 => (fo_F_X12_tellRule_40  h1))) (fI_I (Wc := W_X12_pass) hF rfl (fo_F_X12_pass Fr_r) (fun _ _ h2 => (fo_F_X12_tellRule_45  h2))))
theorem fo_F_X12_tellRule_21 {σ0 : Mm} {s0 : Int32} {σ : Mm} (hF : Fr W_X12_tellRule σ0 σ) : FoI W_X12_tellRule σ0 (F_X12_tellRule_21 s0 σ) := by
  unfold F_X12_tellRule_21
  exact (fI_ite (fI_some hF) (fI_I (Wc := W_X12_isWord) hF rfl (fo_F_X12_isWord Fr_r) (fun _ _ h1 => (fo_F_X12_tellRule_32  h1))))
theorem fo_F_X12_tellRule_16 {σ0 : Mm} {s0 : Int32} {σ : Mm} (hF : Fr W_X12_tellRule σ0 σ) : FoI W_X12_tellRule σ0 (F_X12_tellRule_16 s0 σ) := by
  unfold F_X12_tellRule_16
  exact (fI_ite (fI_some hF) fI_none)
theorem fo_F_X12_tellRule {σ0 : Mm} {σ : Mm} (hF : Fr W_X12_tellRule σ0 σ) : FoI W_X12_tellRule σ0 (F_X12_tellRule σ) := by
  unfold F_X12_tellRule
  exact (fI_ite (fI_ite (fI_I (Wc := W_X12_wrong) hF rfl (fo_F_X12_wrong Fr_r) (fun _ _ h1 => (fo_F_X12_tellRule_16  h1))) (fI_I (Wc := W_X12_pass) hF rfl (fo_F_X12_pass Fr_r) (fun _ _ h2 => (fo_F_X12_tellRule_21  h2)))) fI_none)
theorem fr_X12_tellRule {σ : Mm} : FoI W_X12_tellRule σ (F_X12_tellRule σ) := fo_F_X12_tellRule Fr_r
def W_X12_tellSky : List (Nat × Nat × Nat) := [(3, 0, 7), (3, 0, 8), (3, 0, 9), (3, 0, 10), (3, 0, 11), (3, 0, 49), (3, 0, 55), (3, 0, 56), (3, 0, 58), (3, 21, 999), (3, 22, 999), (3, 23, 999), (3, 24, 999), (3, 28, 999), (3, 29, 999), (3, 30, 999), (3, 43, 999), (3, 44, 999), (3, 47, 999)]
theorem fo_F_X12_tellSky_149 {σ0 : Mm} {σ : Mm} (hF : Fr W_X12_tellSky σ0 σ) : FoI W_X12_tellSky σ0 (F_X12_tellSky_149 σ) := by
  unfold F_X12_tellSky_149
  exact (fI_some hF)
theorem fo_F_X12_tellSky_139 {σ0 : Mm} {σ : Mm} (hF : Fr W_X12_tellSky σ0 σ) : FoI W_X12_tellSky σ0 (F_X12_tellSky_139 σ) := by
  unfold F_X12_tellSky_139
  exact (fI_ite (fI_ite (fo_F_X12_tellSky_149  (Fr.AA hF rfl)) fI_none) fI_none)
theorem fo_F_X12_tellSky_127 {σ0 : Mm} {x1 : Int32} {σ : Mm} (hF : Fr W_X12_tellSky σ0 σ) : FoI W_X12_tellSky σ0 (F_X12_tellSky_127 x1 σ) := by
  unfold F_X12_tellSky_127
  exact (fI_ite (fI_ite (fo_F_X12_tellSky_139  (Fr.AA hF rfl)) fI_none) fI_none)
theorem fo_F_X12_tellSky_112 {σ0 : Mm} {x1 : Int32} {s0 : Int32} {σ : Mm} (hF : Fr W_X12_tellSky σ0 σ) : FoI W_X12_tellSky σ0 (F_X12_tellSky_112 x1 s0 σ) := by
  unfold F_X12_tellSky_112
  exact (fI_ite (fI_some hF) (fI_ite (fo_F_X12_tellSky_127  (Fr.AA hF rfl)) fI_none))
theorem fo_F_X12_tellSky_105 {σ0 : Mm} {x1 : Int32} {s0 : Int32} {σ : Mm} (hF : Fr W_X12_tellSky σ0 σ) : FoI W_X12_tellSky σ0 (F_X12_tellSky_105 x1 s0 σ) := by
  unfold F_X12_tellSky_105
  exact (fI_ite (fI_some hF) (fI_I (Wc := W_X12_expr) hF rfl (fo_F_X12_expr Fr_r) (fun _ _ h1 => (fo_F_X12_tellSky_112  h1))))
theorem fo_F_X12_tellSky_100 {σ0 : Mm} {s0 : Int32} {σ : Mm} (hF : Fr W_X12_tellSky σ0 σ) : FoI W_X12_tellSky σ0 (F_X12_tellSky_100 s0 σ) := by
  unfold F_X12_tellSky_100
  exact (fI_ite (fI_some hF) fI_none)
theorem fo_F_X12_tellSky_92 {σ0 : Mm} {x1 : Int32} {s0 : Int32} {σ : Mm} (hF : Fr W_X12_tellSky σ0 σ) : FoI W_X12_tellSky σ0 (F_X12_tellSky_92 x1 s0 σ) := by
  unfold F_X12_tellSky_92
  exact (fI_ite (fI_I (Wc := W_X12_wrong) hF rfl (fo_F_X12_wrong Fr_r) (fun _ _ h1 => (fo_F_X12_tellSky_100  h1))) (fI_I (Wc := W_X12_pass) hF rfl (fo_F_X12_pass Fr_r) (fun _ _ h2 => (fo_F_X12_tellSky_105  h2))))
theorem fo_F_X12_tellSky_86 {σ0 : Mm} {x1 : Int32} {σ : Mm} (hF : Fr W_X12_tellSky σ0 σ) : FoI W_X12_tellSky σ0 (F_X12_tellSky_86 x1 σ) := by
  unfold F_X12_tellSky_86
  exact (fI_I (Wc := W_X12_isSign) hF rfl (fo_F_X12_isSign Fr_r) (fun _ _ h1 => (fo_F_X12_tellSky_92  h1)))
theorem fo_F_X12_tellSky_71 {σ0 : Mm} {x1 : Int32} {s0 : Int32} {σ : Mm} (hF : Fr W_X12_tellSky σ0 σ) : FoI W_X12_tellSky σ0 (F_X12_tellSky_71 x1 s0 σ) := by
  unfold F_X12_tellSky_71
  exact (fI_ite (fI_some hF) (fI_ite (fo_F_X12_tellSky_86  (Fr.AA hF rfl)) fI_none))
theorem fo_F_X12_tellSky_61 {σ0 : Mm} {x1 : Int32} {s0 : Int32} {σ : Mm} (hF : Fr W_X12_tellSky σ0 σ) : FoI W_X12_tellSky σ0 (F_X12_tellSky_61 x1 s0 σ) := by
  unfold F_X12_tellSky_61
  exact (fI_ite (fI_some hF) (fI_I (Wc := W_X12_takesInt) hF rfl (fo_F_X12_takesInt Fr_r) (fun _ _ h1 => (fo_F_X12_tellSky_71  h1))))
theorem fo_F_X12_tellSky_54 {σ0 : Mm} {x1 : Int32} {s0 : Int32} {σ : Mm} (hF : Fr W_X12_tellSky σ0 σ) : FoI W_X12_tellSky σ0 (F_X12_tellSky_54 x1 s0 σ) := by
  unfold F_X12_tellSky_54
  exact (fI_ite (fo_F_X12_tellSky_86  hF) (fI_I (Wc := W_X12_pass) hF rfl (fo_F_X12_pass Fr_r) (fun _ _ h1 => (fo_F_X12_tellSky_61  h1))))
theorem fo_F_X12_tellSky_49 {σ0 : Mm} {x1 : Int32} {σ : Mm} (hF : Fr W_X12_tellSky σ0 σ) : FoI W_X12_tellSky σ0 (F_X12_tellSky_49 x1 σ) := by
  unfold F_X12_tellSky_49
  exact (fI_I (Wc := W_X12_isWord) hF rfl (fo_F_X12_isWord Fr_r) (fun _ _ h1 => (fo_F_X12_tellSky_54  h1)))
theorem fo_F_X12_tellSky_37 {σ0 : Mm} {x1 : Int32} {s0 : Int32} {σ : Mm} (hF : Fr W_X12_tellSky σ0 σ) : FoI W_X12_tellSky σ0 (F_X12_tellSky_37 x1 s0 σ) := by
  unfold F_X12_tellSky_37
  exact (fI_ite (fI_some hF) (fI_ite (fo_F_X12_tellSky_49  (Fr.AA hF rfl)) fI_none))
theorem fo_F_X12_tellSky_29 {σ0 : Mm} {x1 : Int32} {s0 : Int32} {σ : Mm} (hF : Fr W_X12_tellSky σ0 σ) : FoI W_X12_tellSky σ0 (F_X12_tellSky_29 x1 s0 σ) := by
  unfold F_X12_tellSky_29
  exact (fI_ite (fI_some hF) (fI_I (Wc := W_X12_names) hF rfl (fo_F_X12_names Fr_r) (fun _ _ h1 => (fo_F_X12_tellSky_37  h1))))
theorem fo_F_X12_tellSky_25 {σ0 : Mm} {x1 : Int32} {σ : Mm} (hF : Fr W_X12_tellSky σ0 σ) : FoI W_X12_tellSky σ0 (F_X12_tellSky_25 x1 σ) := by
  unfold F_X12_tellSky_25
  exact (fI_I (Wc := W_X12_pass) hF rfl (fo_F_X12_pass Fr_r) (fun _ _ h1 => (fo_F_X12_tellSky_29  h1)))
theorem fo_F_X12_tellSky_15 {σ0 : Mm} {s0 : Int32} {σ : Mm} (hF : Fr W_X12_tellSky σ0 σ) : FoI W_X12_tellSky σ0 (F_X12_tellSky_15 s0 σ) := by
  unfold F_X12_tellSky_15
  exact (fI_ite (fI_some hF) fI_none)
theorem fo_F_X12_tellSky {σ0 : Mm} {σ : Mm} (hF : Fr W_X12_tellSky σ0 σ) : FoI W_X12_tellSky σ0 (F_X12_tellSky σ) := by
  unfold F_X12_tellSky
  exact (fI_ite (fI_ite (fI_I (Wc := W_X12_wrong) hF rfl (fo_F_X12_wrong Fr_r) (fun _ _ h1 => (fo_F_X12_tellSky_15  h1))) (fI_ite (fo_F_X12_tellSky_25  hF) fI_none)) fI_none)
theorem fr_X12_tellSky {σ : Mm} : FoI W_X12_tellSky σ (F_X12_tellSky σ) := fo_F_X12_tellSky Fr_r
def W_X12_tellThing : List (Nat × Nat × Nat) := [(3, 0, 7), (3, 0, 8), (3, 0, 9), (3, 0, 10), (3, 0, 11), (3, 0, 49), (3, 0, 55), (3, 8, 999), (3, 9, 999), (3, 10, 999), (3, 11, 999), (3, 12, 999), (3, 13, 999), (3, 43, 999), (3, 44, 999)]
theorem fo_F_X12_tellThing_201 {σ0 : Mm} {σ : Mm} (hF : Fr W_X12_tellThing σ0 σ) : FoI W_X12_tellThing σ0 (F_X12_tellThing_201 σ) := by
  unfold F_X12_tellThing_201
  exact (fI_some hF)
theorem fo_F_X12_tellThing_191 {σ0 : Mm} {σ : Mm} (hF : Fr W_X12_tellThing σ0 σ) : FoI W_X12_tellThing σ0 (F_X12_tellThing_191 σ) := by
  unfold F_X12_tellThing_191
  exact (fI_ite (fI_ite (fo_F_X12_tellThing_201  (Fr.AA hF rfl)) fI_none) fI_none)
theorem fo_F_X12_tellThing_184 {σ0 : Mm} {x2 : Int32} {σ : Mm} (hF : Fr W_X12_tellThing σ0 σ) : FoI W_X12_tellThing σ0 (F_X12_tellThing_184 x2 σ) := by
  unfold F_X12_tellThing_184
  exact (fI_ite (fo_F_X12_tellThing_191  (Fr.AA hF rfl)) fI_none)
theorem fo_F_X12_tellThing_177 {σ0 : Mm} {x1 : Int32} {x2 : Int32} {σ : Mm} (hF : Fr W_X12_tellThing σ0 σ) : FoI W_X12_tellThing σ0 (F_X12_tellThing_177 x1 x2 σ) := by
  unfold F_X12_tellThing_177
  exact (fI_ite (fo_F_X12_tellThing_184  (Fr.AA hF rfl)) fI_none)
theorem fo_F_X12_tellThing_162 {σ0 : Mm} {x1 : Int32} {x2 : Int32} {s0 : Int32} {σ : Mm} (hF : Fr W_X12_tellThing σ0 σ) : FoI W_X12_tellThing σ0 (F_X12_tellThing_162 x1 x2 s0 σ) := by
  unfold F_X12_tellThing_162
  exact (fI_ite (fI_some hF) (fI_ite (fo_F_X12_tellThing_177  (Fr.AA hF rfl)) fI_none))
theorem fo_F_X12_tellThing_148 {σ0 : Mm} {rc104 : Int32 → Int32 → Int32 → Int32 → Mm → Option (Int32 × Mm)} (hrc104 : ∀ a0 a1 a2 a3 τ, Fr W_X12_tellThing σ0 τ → FoI W_X12_tellThing σ0 (rc104 a0 a1 a2 a3 τ)) {x1 : Int32} {x2 : Int32} {x3 : Int32} {x4 : Int32} {σ : Mm} (hF : Fr W_X12_tellThing σ0 σ) : FoI W_X12_tellThing σ0 (F_X12_tellThing_148 rc104 x1 x2 x3 x4 σ) := by
  unfold F_X12_tellThing_148
  exact (hrc104 _ _ _ _ _ hF)
theorem fo_B_X12_tellThing_104 {σ0 : Mm} {rc104 : Int32 → Int32 → Int32 → Int32 → Mm → Option (Int32 × Mm)} (hrc104 : ∀ a0 a1 a2 a3 τ, Fr W_X12_tellThing σ0 τ → FoI W_X12_tellThing σ0 (rc104 a0 a1 a2 a3 τ)) {x1 : Int32} {x2 : Int32} {x3 : Int32} {x4 : Int32} {σ : Mm} (hF : Fr W_X12_tellThing σ0 σ) : FoI W_X12_tellThing σ0 (B_X12_tellThing_104 rc104 x1 x2 x3 x4 σ) := by
  unfold B_X12_tellThing_104
  exact (fI_ite (fI_I (Wc := W_X12_takesInt) hF rfl (fo_F_X12_takesInt Fr_r) (fun _ _ h1 => (fo_F_X12_tellThing_162  h1))) (fI_ite (fI_ite (fI_ite (fI_ite (fI_ite (fI_ite (fV_I (Wc := W_X12_tells) hF rfl (fo_F_X12_tells Fr_r) (fun _ h2 => (fo_F_X12_tellThing_148 hrc104 h2))) (fo_F_X12_tellThing_148 hrc104 hF)) fI_none) fI_none) (fo_F_X12_tellThing_148 hrc104 hF)) fI_none) fI_none))
theorem fo_F_X12_tellThing_104 {σ0 : Mm} (n : Nat) : ∀ {y0 : Int32} {y1 : Int32} {y2 : Int32} {y3 : Int32} {σ : Mm}, Fr W_X12_tellThing σ0 σ → FoI W_X12_tellThing σ0 (F_X12_tellThing_104  n y0 y1 y2 y3 σ) := by
  induction n with
  | zero => intro y0 y1 y2 y3 σ _; exact fI_none
  | succ n ih => intro y0 y1 y2 y3 σ hF; exact fo_B_X12_tellThing_104  (fun _ _ _ _ _ h => ih h) hF
theorem fo_F_X12_tellThing_100 {σ0 : Mm} {x1 : Int32} {x2 : Int32} {x3 : Int32} {σ : Mm} (hF : Fr W_X12_tellThing σ0 σ) : FoI W_X12_tellThing σ0 (F_X12_tellThing_100 x1 x2 x3 σ) := by
  unfold F_X12_tellThing_100
  exact (fo_F_X12_tellThing_104  FU hF)
theorem fo_F_X12_tellThing_85 {σ0 : Mm} {x1 : Int32} {x2 : Int32} {x3 : Int32} {s0 : Int32} {σ : Mm} (hF : Fr W_X12_tellThing σ0 σ) : FoI W_X12_tellThing σ0 (F_X12_tellThing_85 x1 x2 x3 s0 σ) := by
  unfold F_X12_tellThing_85
  exact (fI_ite (fI_some hF) (fI_ite (fo_F_X12_tellThing_100  (Fr.AA hF rfl)) fI_none))
theorem fo_F_X12_tellThing_72 {σ0 : Mm} {x1 : Int32} {x2 : Int32} {σ : Mm} (hF : Fr W_X12_tellThing σ0 σ) : FoI W_X12_tellThing σ0 (F_X12_tellThing_72 x1 x2 σ) := by
  unfold F_X12_tellThing_72
  exact (fI_I (Wc := W_X12_takesInt) hF rfl (fo_F_X12_takesInt Fr_r) (fun _ _ h1 => (fo_F_X12_tellThing_85  h1)))
theorem fo_F_X12_tellThing_57 {σ0 : Mm} {x1 : Int32} {x2 : Int32} {s0 : Int32} {σ : Mm} (hF : Fr W_X12_tellThing σ0 σ) : FoI W_X12_tellThing σ0 (F_X12_tellThing_57 x1 x2 s0 σ) := by
  unfold F_X12_tellThing_57
  exact (fI_ite (fI_some hF) (fI_ite (fo_F_X12_tellThing_72  (Fr.AA hF rfl)) fI_none))
theorem fo_F_X12_tellThing_44 {σ0 : Mm} {x1 : Int32} {x2 : Int32} {s0 : Int32} {σ : Mm} (hF : Fr W_X12_tellThing σ0 σ) : FoI W_X12_tellThing σ0 (F_X12_tellThing_44 x1 x2 s0 σ) := by
  unfold F_X12_tellThing_44
  exact (fI_ite (fI_some hF) (fI_I (Wc := W_X12_takesInt) hF rfl (fo_F_X12_takesInt Fr_r) (fun _ _ h1 => (fo_F_X12_tellThing_57  h1))))
theorem fo_F_X12_tellThing_31 {σ0 : Mm} {x1 : Int32} {x2 : Int32} {s0 : Int32} {σ : Mm} (hF : Fr W_X12_tellThing σ0 σ) : FoI W_X12_tellThing σ0 (F_X12_tellThing_31 x1 x2 s0 σ) := by
  unfold F_X12_tellThing_31
  exact (fI_ite (fI_some hF) (fI_ite (fI_I (Wc := W_X12_names) hF rfl (fo_F_X12_names Fr_r) (fun _ _ h1 => (fo_F_X12_tellThing_44  h1))) fI_none))
theorem fo_F_X12_tellThing_27 {σ0 : Mm} {x1 : Int32} {x2 : Int32} {σ : Mm} (hF : Fr W_X12_tellThing σ0 σ) : FoI W_X12_tellThing σ0 (F_X12_tellThing_27 x1 x2 σ) := by
  unfold F_X12_tellThing_27
  exact (fI_I (Wc := W_X12_pass) hF rfl (fo_F_X12_pass Fr_r) (fun _ _ h1 => (fo_F_X12_tellThing_31  h1)))
theorem fo_F_X12_tellThing_16 {σ0 : Mm} {s0 : Int32} {σ : Mm} (hF : Fr W_X12_tellThing σ0 σ) : FoI W_X12_tellThing σ0 (F_X12_tellThing_16 s0 σ) := by
  unfold F_X12_tellThing_16
  exact (fI_ite (fI_some hF) fI_none)
theorem fo_F_X12_tellThing {σ0 : Mm} {x1 : Int32} {σ : Mm} (hF : Fr W_X12_tellThing σ0 σ) : FoI W_X12_tellThing σ0 (F_X12_tellThing x1 σ) := by
  unfold F_X12_tellThing
  exact (fI_ite (fI_ite (fI_I (Wc := W_X12_wrong) hF rfl (fo_F_X12_wrong Fr_r) (fun _ _ h1 => (fo_F_X12_tellThing_16  h1))) (fI_ite (fo_F_X12_tellThing_27  hF) fI_none)) fI_none)
theorem fr_X12_tellThing {x1 : Int32} {σ : Mm} : FoI W_X12_tellThing σ (F_X12_tellThing x1 σ) := fo_F_X12_tellThing Fr_r
def W_X12_tell : List (Nat × Nat × Nat) := [(3, 0, 7), (3, 0, 8), (3, 0, 9), (3, 0, 10), (3, 0, 11), (3, 0, 49), (3, 0, 55), (3, 0, 56), (3, 0, 58), (3, 0, 59), (3, 7, 999), (3, 8, 999), (3, 9, 999), (3, 10, 999), (3, 11, 999), (3, 12, 999), (3, 13, 999), (3, 14, 999), (3, 15, 999), (3, 16, 999), (3, 17, 999), (3, 18, 999), (3, 19, 999), (3, 20, 999), (3, 21, 999), (3, 22, 999), (3, 23, 999), (3, 24, 999), (3, 25, 999), (3, 26, 999), (3, 27, 999), (3, 28, 999), (3, 29, 999), (3, 30, 999), (3, 31, 999), (3, 32, 999), (3, 33, 999), (3, 34, 999), (3, 35, 999), (3, 36, 999), (3, 37, 999), (3, 43, 999), (3, 44, 999), (3, 47, 999)]
theorem fo_F_X12_tell_49 {σ0 : Mm} {s0 : Int32} {σ : Mm} (hF : Fr W_X12_tell σ0 σ) : FoI W_X12_tell σ0 (F_X12_tell_49 s0 σ) := by
  unfold F_X12_tell_49
  exact (fI_ite (fI_some hF) fI_none)
theorem fo_F_X12_tell_46 {σ0 : Mm} {s0 : Int32} {σ : Mm} (hF : Fr W_X12_tell σ0 σ) : FoI W_X12_tell σ0 (F_X12_tell_46 s0 σ) := by
  unfold F_X12_tell_46
  exact (fI_I (Wc := W_X12_tellThing) hF rfl (fo_F_X12_tellThing Fr_r) (fun _ _ h1 => (fo_F_X12_tell_49  h1)))
theorem fo_F_X12_tell_36 {σ0 : Mm} {x1 : Int32} {σ : Mm} (hF : Fr W_X12_tell σ0 σ) : FoI W_X12_tell σ0 (F_X12_tell_36 x1 σ) := by
  unfold F_X12_tell_36
  exact (fI_ite (fo_F_X12_tell_46  hF) (fo_F_X12_tell_46  hF))
theorem fo_F_X12_tell_132 {σ0 : Mm} {σ : Mm} (hF : Fr W_X12_tell σ0 σ) : FoI W_X12_tell σ0 (F_X12_tell_132 σ) := by
  unfold F_X12_tell_132
  exact (fI_some hF)
theorem fo_F_X12_tell_117 {σ0 : Mm} {s0 : Int32} {σ : Mm} (hF : Fr W_X12_tell σ0 σ) : FoI W_X12_tell σ0 (F_X12_tell_117 s0 σ) := by
  unfold F_X12_tell_117
  exact (fI_ite (fI_some hF) (fI_ite (fo_F_X12_tell_132  (Fr.AA hF rfl)) fI_none))
theorem fo_F_X12_tell_107 {σ0 : Mm} {s0 : Int32} {σ : Mm} (hF : Fr W_X12_tell σ0 σ) : FoI W_X12_tell σ0 (F_X12_tell_107 s0 σ) := by
  unfold F_X12_tell_107
  exact (fI_ite (fI_some hF) (fI_I (Wc := W_X12_takesInt) hF rfl (fo_F_X12_takesInt Fr_r) (fun _ _ h1 => (fo_F_X12_tell_117  h1))))
theorem fo_F_X12_tell_102 {σ0 : Mm} {s0 : Int32} {σ : Mm} (hF : Fr W_X12_tell σ0 σ) : FoI W_X12_tell σ0 (F_X12_tell_102 s0 σ) := by
  unfold F_X12_tell_102
  exact (fI_ite (fI_some hF) fI_none)
theorem fo_F_X12_tell_90 {σ0 : Mm} {s0 : Int32} {σ : Mm} (hF : Fr W_X12_tell σ0 σ) : FoI W_X12_tell σ0 (F_X12_tell_90 s0 σ) := by
  unfold F_X12_tell_90
  exact (fI_ite (fI_some hF) fI_none)
theorem fo_F_X12_tell_79 {σ0 : Mm} {s0 : Int32} {σ : Mm} (hF : Fr W_X12_tell σ0 σ) : FoI W_X12_tell σ0 (F_X12_tell_79 s0 σ) := by
  unfold F_X12_tell_79
  exact (fI_ite (fI_some hF) fI_none)
theorem fo_F_X12_tell_69 {σ0 : Mm} {s0 : Int32} {σ : Mm} (hF : Fr W_X12_tell σ0 σ) : FoI W_X12_tell σ0 (F_X12_tell_69 s0 σ) := by
  unfold F_X12_tell_69
  exact (fI_ite (fI_some hF) fI_none)
theorem fo_F_X12_tell_59 {σ0 : Mm} {s0 : Int32} {σ : Mm} (hF : Fr W_X12_tell σ0 σ) : FoI W_X12_tell σ0 (F_X12_tell_59 s0 σ) := by
  unfold F_X12_tell_59
  exact (fI_ite (fI_some hF) fI_none)
theorem fo_F_X12_tell_26 {σ0 : Mm} {s0 : Int32} {σ : Mm} (hF : Fr W_X12_tell σ0 σ) : FoI W_X12_tell σ0 (F_X12_tell_26 s0 σ) := by
  unfold F_X12_tell_26
  exact (fI_ite (fo_F_X12_tell_36  hF) (fI_ite (fo_F_X12_tell_36  hF) (fI_ite (fI_I (Wc := W_X12_tellDoor) hF rfl (fo_F_X12_tellDoor Fr_r) (fun _ _ h1 => (fo_F_X12_tell_59  h1))) (fI_ite (fI_I (Wc := W_X12_tellHill) hF rfl (fo_F_X12_tellHill Fr_r) (fun _ _ h2 => (fo_F_X12_tell_69  h2))) (fI_ite (fI_I (Wc := W_X12_tellSky) hF rfl (fo_F_X12_tellSky Fr_r) (fun _ _ h3 => (fo_F_X12_tell_79  h3))) (fI_ite (fI_I (Wc := W_X12_tellRule) hF rfl (fo_F_X12_tellRule Fr_r) (fun _ _ h4 => (fo_F_X12_tell_90  h4))) (fI_ite (fI_I (Wc := W_X12_pass) hF rfl (fo_F_X12_pass Fr_r) (fun _ _ h5 => (fo_F_X12_tell_107  h5))) (fI_I (Wc := W_X12_wrong) hF rfl (fo_F_X12_wrong Fr_r) (fun _ _ h6 => (fo_F_X12_tell_102  h6))))))))))
theorem fo_F_X12_tell {σ0 : Mm} {σ : Mm} (hF : Fr W_X12_tell σ0 σ) : FoI W_X12_tell σ0 (F_X12_tell σ) := by
  unfold F_X12_tell
  exact (fI_ite (fI_ite (fI_ite (fo_F_X12_tell_26  hF) fI_none) (fo_F_X12_tell_26  hF)) fI_none)
theorem fr_X12_tell {σ : Mm} : FoI W_X12_tell σ (F_X12_tell σ) := fo_F_X12_tell Fr_r
def W_X12_parses : List (Nat × Nat × Nat) := [(3, 0, 7), (3, 0, 8), (3, 0, 9), (3, 0, 10), (3, 0, 11), (3, 0, 49), (3, 0, 55), (3, 0, 56), (3, 0, 58), (3, 0, 59), (3, 7, 999), (3, 8, 999), (3, 9, 999), (3, 10, 999), (3, 11, 999), (3, 12, 999), (3, 13, 999), (3, 14, 999), (3, 15, 999), (3, 16, 999), (3, 17, 999), (3, 18, 999), (3, 19, 999), (3, 20, 999), (3, 21, 999), (3, 22, 999), (3, 23, 999), (3, 24, 999), (3, 25, 999), (3, 26, 999), (3, 27, 999), (3, 28, 999), (3, 29, 999), (3, 30, 999), (3, 31, 999), (3, 32, 999), (3, 33, 999), (3, 34, 999), (3, 35, 999), (3, 36, 999), (3, 37, 999), (3, 43, 999), (3, 44, 999), (3, 47, 999)]
theorem fo_F_X12_parses_46 {σ0 : Mm} {rc5 : Mm → Option (Int32 × Mm)} (hrc5 : ∀ τ, Fr W_X12_parses σ0 τ → FoI W_X12_parses σ0 (rc5 τ)) {s0 : Int32} {σ : Mm} (hF : Fr W_X12_parses σ0 σ) : FoI W_X12_parses σ0 (F_X12_parses_46 rc5 s0 σ) := by
  unfold F_X12_parses_46
  exact (fI_ite (fI_some hF) (hrc5  _ hF))
theorem fo_F_X12_parses_41 {σ0 : Mm} {s0 : Int32} {σ : Mm} (hF : Fr W_X12_parses σ0 σ) : FoI W_X12_parses σ0 (F_X12_parses_41 s0 σ) := by
  unfold F_X12_parses_41
  exact (fI_ite (fI_some hF) fI_none)
theorem fo_F_X12_parses_33 {σ0 : Mm} {rc5 : Mm → Option (Int32 × Mm)} (hrc5 : ∀ τ, Fr W_X12_parses σ0 τ → FoI W_X12_parses σ0 (rc5 τ)) {s0 : Int32} {σ : Mm} (hF : Fr W_X12_parses σ0 σ) : FoI W_X12_parses σ0 (F_X12_parses_33 rc5 s0 σ) := by
  unfold F_X12_parses_33
  exact (fI_ite (fI_I (Wc := W_X12_wrong) hF rfl (fo_F_X12_wrong Fr_r) (fun _ _ h1 => (fo_F_X12_parses_41  h1))) (fI_I (Wc := W_X12_pass) hF rfl (fo_F_X12_pass Fr_r) (fun _ _ h2 => (fo_F_X12_parses_46 hrc5 h2))))
theorem fo_F_X12_parses_22 {σ0 : Mm} {rc5 : Mm → Option (Int32 × Mm)} (hrc5 : ∀ τ, Fr W_X12_parses σ0 τ → FoI W_X12_parses σ0 (rc5 τ)) {s0 : Int32} {σ : Mm} (hF : Fr W_X12_parses σ0 σ) : FoI W_X12_parses σ0 (F_X12_parses_22 rc5 s0 σ) := by
  unfold F_X12_parses_22
  exact (fI_ite (fI_some hF) (fI_I (Wc := W_X12_isSign) hF rfl (fo_F_X12_isSign Fr_r) (fun _ _ h1 => (fo_F_X12_parses_33 hrc5 h1))))
theorem fo_B_X12_parses_5 {σ0 : Mm} {rc5 : Mm → Option (Int32 × Mm)} (hrc5 : ∀ τ, Fr W_X12_parses σ0 τ → FoI W_X12_parses σ0 (rc5 τ)) {σ : Mm} (hF : Fr W_X12_parses σ0 σ) : FoI W_X12_parses σ0 (B_X12_parses_5 rc5 σ) := by
  unfold B_X12_parses_5
  exact (fI_ite (fI_ite (fI_some hF) (fI_I (Wc := W_X12_tell) hF rfl (fo_F_X12_tell Fr_r) (fun _ _ h1 => (fo_F_X12_parses_22 hrc5 h1)))) fI_none)
theorem fo_F_X12_parses_5 {σ0 : Mm} (n : Nat) : ∀  {σ : Mm}, Fr W_X12_parses σ0 σ → FoI W_X12_parses σ0 (F_X12_parses_5  n  σ) := by
  induction n with
  | zero => intro  σ _; exact fI_none
  | succ n ih => intro  σ hF; exact fo_B_X12_parses_5  (fun  _ h => ih h) hF
