/-! frames, by program -/
def W_J7_fill_53178_lk : List (Nat × Nat × Nat) := [(0, 30, 999)]
theorem fo_F_J7_fill_53178_lk_14 {σ0 : Mm} {rc5 : Int32 → Int32 → Int32 → Mm → Option (Mm)} (hrc5 : ∀ a0 a1 a2 τ, Fr W_J7_fill_53178_lk σ0 τ → FoV W_J7_fill_53178_lk σ0 (rc5 a0 a1 a2 τ)) {x1 : Int32} {x2 : Int32} {x3 : Int32} {σ : Mm} (hF : Fr W_J7_fill_53178_lk σ0 σ) : FoV W_J7_fill_53178_lk σ0 (F_J7_fill_53178_lk_14 rc5 x1 x2 x3 σ) := by
  unfold F_J7_fill_53178_lk_14
  exact (hrc5 _ _ _ _ hF)
theorem fo_B_J7_fill_53178_lk_5 {σ0 : Mm} {rc5 : Int32 → Int32 → Int32 → Mm → Option (Mm)} (hrc5 : ∀ a0 a1 a2 τ, Fr W_J7_fill_53178_lk σ0 τ → FoV W_J7_fill_53178_lk σ0 (rc5 a0 a1 a2 τ)) {x1 : Int32} {x2 : Int32} {x3 : Int32} {σ : Mm} (hF : Fr W_J7_fill_53178_lk σ0 σ) : FoV W_J7_fill_53178_lk σ0 (B_J7_fill_53178_lk_5 rc5 x1 x2 x3 σ) := by
  unfold B_J7_fill_53178_lk_5
  exact (fV_ite (fV_some hF) (fV_ite (fo_F_J7_fill_53178_lk_14 hrc5 (Fr.AA hF rfl)) fV_none))
theorem fo_F_J7_fill_53178_lk_5 {σ0 : Mm} (n : Nat) : ∀ {y0 : Int32} {y1 : Int32} {y2 : Int32} {σ : Mm}, Fr W_J7_fill_53178_lk σ0 σ → FoV W_J7_fill_53178_lk σ0 (F_J7_fill_53178_lk_5  n y0 y1 y2 σ) := by
  induction n with
  | zero => intro y0 y1 y2 σ _; exact fV_none
  | succ n ih => intro y0 y1 y2 σ hF; exact fo_B_J7_fill_53178_lk_5  (fun _ _ _ _ h => ih h) hF
theorem fo_F_J7_fill_53178_lk {σ0 : Mm} {x1 : Int32} {σ : Mm} (hF : Fr W_J7_fill_53178_lk σ0 σ) : FoV W_J7_fill_53178_lk σ0 (F_J7_fill_53178_lk x1 σ) := by
  unfold F_J7_fill_53178_lk
  exact (fo_F_J7_fill_53178_lk_5  FU hF)
theorem fr_J7_fill_53178_lk {x1 : Int32} {σ : Mm} : FoV W_J7_fill_53178_lk σ (F_J7_fill_53178_lk x1 σ) := fo_F_J7_fill_53178_lk Fr_r
def W_J7_fill_53178_le : List (Nat × Nat × Nat) := [(0, 33, 999)]
theorem fo_F_J7_fill_53178_le_14 {σ0 : Mm} {rc5 : Int32 → Int32 → Int32 → Mm → Option (Mm)} (hrc5 : ∀ a0 a1 a2 τ, Fr W_J7_fill_53178_le σ0 τ → FoV W_J7_fill_53178_le σ0 (rc5 a0 a1 a2 τ)) {x1 : Int32} {x2 : Int32} {x3 : Int32} {σ : Mm} (hF : Fr W_J7_fill_53178_le σ0 σ) : FoV W_J7_fill_53178_le σ0 (F_J7_fill_53178_le_14 rc5 x1 x2 x3 σ) := by
  unfold F_J7_fill_53178_le_14
  exact (hrc5 _ _ _ _ hF)
theorem fo_B_J7_fill_53178_le_5 {σ0 : Mm} {rc5 : Int32 → Int32 → Int32 → Mm → Option (Mm)} (hrc5 : ∀ a0 a1 a2 τ, Fr W_J7_fill_53178_le σ0 τ → FoV W_J7_fill_53178_le σ0 (rc5 a0 a1 a2 τ)) {x1 : Int32} {x2 : Int32} {x3 : Int32} {σ : Mm} (hF : Fr W_J7_fill_53178_le σ0 σ) : FoV W_J7_fill_53178_le σ0 (B_J7_fill_53178_le_5 rc5 x1 x2 x3 σ) := by
  unfold B_J7_fill_53178_le_5
  exact (fV_ite (fV_some hF) (fV_ite (fo_F_J7_fill_53178_le_14 hrc5 (Fr.AA hF rfl)) fV_none))
theorem fo_F_J7_fill_53178_le_5 {σ0 : Mm} (n : Nat) : ∀ {y0 : Int32} {y1 : Int32} {y2 : Int32} {σ : Mm}, Fr W_J7_fill_53178_le σ0 σ → FoV W_J7_fill_53178_le σ0 (F_J7_fill_53178_le_5  n y0 y1 y2 σ) := by
  induction n with
  | zero => intro y0 y1 y2 σ _; exact fV_none
  | succ n ih => intro y0 y1 y2 σ hF; exact fo_B_J7_fill_53178_le_5  (fun _ _ _ _ h => ih h) hF
theorem fo_F_J7_fill_53178_le {σ0 : Mm} {x1 : Int32} {σ : Mm} (hF : Fr W_J7_fill_53178_le σ0 σ) : FoV W_J7_fill_53178_le σ0 (F_J7_fill_53178_le x1 σ) := by
  unfold F_J7_fill_53178_le
  exact (fo_F_J7_fill_53178_le_5  FU hF)
theorem fr_J7_fill_53178_le {x1 : Int32} {σ : Mm} : FoV W_J7_fill_53178_le σ (F_J7_fill_53178_le x1 σ) := fo_F_J7_fill_53178_le Fr_r
def W_J7_fill_53178_ta : List (Nat × Nat × Nat) := [(0, 34, 999)]
theorem fo_F_J7_fill_53178_ta_14 {σ0 : Mm} {rc5 : Int32 → Int32 → Int32 → Mm → Option (Mm)} (hrc5 : ∀ a0 a1 a2 τ, Fr W_J7_fill_53178_ta σ0 τ → FoV W_J7_fill_53178_ta σ0 (rc5 a0 a1 a2 τ)) {x1 : Int32} {x2 : Int32} {x3 : Int32} {σ : Mm} (hF : Fr W_J7_fill_53178_ta σ0 σ) : FoV W_J7_fill_53178_ta σ0 (F_J7_fill_53178_ta_14 rc5 x1 x2 x3 σ) := by
  unfold F_J7_fill_53178_ta_14
  exact (hrc5 _ _ _ _ hF)
theorem fo_B_J7_fill_53178_ta_5 {σ0 : Mm} {rc5 : Int32 → Int32 → Int32 → Mm → Option (Mm)} (hrc5 : ∀ a0 a1 a2 τ, Fr W_J7_fill_53178_ta σ0 τ → FoV W_J7_fill_53178_ta σ0 (rc5 a0 a1 a2 τ)) {x1 : Int32} {x2 : Int32} {x3 : Int32} {σ : Mm} (hF : Fr W_J7_fill_53178_ta σ0 σ) : FoV W_J7_fill_53178_ta σ0 (B_J7_fill_53178_ta_5 rc5 x1 x2 x3 σ) := by
  unfold B_J7_fill_53178_ta_5
  exact (fV_ite (fV_some hF) (fV_ite (fo_F_J7_fill_53178_ta_14 hrc5 (Fr.AA hF rfl)) fV_none))
theorem fo_F_J7_fill_53178_ta_5 {σ0 : Mm} (n : Nat) : ∀ {y0 : Int32} {y1 : Int32} {y2 : Int32} {σ : Mm}, Fr W_J7_fill_53178_ta σ0 σ → FoV W_J7_fill_53178_ta σ0 (F_J7_fill_53178_ta_5  n y0 y1 y2 σ) := by
  induction n with
  | zero => intro y0 y1 y2 σ _; exact fV_none
  | succ n ih => intro y0 y1 y2 σ hF; exact fo_B_J7_fill_53178_ta_5  (fun _ _ _ _ h => ih h) hF
theorem fo_F_J7_fill_53178_ta {σ0 : Mm} {x1 : Int32} {σ : Mm} (hF : Fr W_J7_fill_53178_ta σ0 σ) : FoV W_J7_fill_53178_ta σ0 (F_J7_fill_53178_ta x1 σ) := by
  unfold F_J7_fill_53178_ta
  exact (fo_F_J7_fill_53178_ta_5  FU hF)
theorem fr_J7_fill_53178_ta {x1 : Int32} {σ : Mm} : FoV W_J7_fill_53178_ta σ (F_J7_fill_53178_ta x1 σ) := fo_F_J7_fill_53178_ta Fr_r
def W_J7_fill_53178_jo : List (Nat × Nat × Nat) := [(0, 38, 999)]
theorem fo_F_J7_fill_53178_jo_14 {σ0 : Mm} {rc5 : Int32 → Int32 → Int32 → Mm → Option (Mm)} (hrc5 : ∀ a0 a1 a2 τ, Fr W_J7_fill_53178_jo σ0 τ → FoV W_J7_fill_53178_jo σ0 (rc5 a0 a1 a2 τ)) {x1 : Int32} {x2 : Int32} {x3 : Int32} {σ : Mm} (hF : Fr W_J7_fill_53178_jo σ0 σ) : FoV W_J7_fill_53178_jo σ0 (F_J7_fill_53178_jo_14 rc5 x1 x2 x3 σ) := by
  unfold F_J7_fill_53178_jo_14
  exact (hrc5 _ _ _ _ hF)
theorem fo_B_J7_fill_53178_jo_5 {σ0 : Mm} {rc5 : Int32 → Int32 → Int32 → Mm → Option (Mm)} (hrc5 : ∀ a0 a1 a2 τ, Fr W_J7_fill_53178_jo σ0 τ → FoV W_J7_fill_53178_jo σ0 (rc5 a0 a1 a2 τ)) {x1 : Int32} {x2 : Int32} {x3 : Int32} {σ : Mm} (hF : Fr W_J7_fill_53178_jo σ0 σ) : FoV W_J7_fill_53178_jo σ0 (B_J7_fill_53178_jo_5 rc5 x1 x2 x3 σ) := by
  unfold B_J7_fill_53178_jo_5
  exact (fV_ite (fV_some hF) (fV_ite (fo_F_J7_fill_53178_jo_14 hrc5 (Fr.AA hF rfl)) fV_none))
theorem fo_F_J7_fill_53178_jo_5 {σ0 : Mm} (n : Nat) : ∀ {y0 : Int32} {y1 : Int32} {y2 : Int32} {σ : Mm}, Fr W_J7_fill_53178_jo σ0 σ → FoV W_J7_fill_53178_jo σ0 (F_J7_fill_53178_jo_5  n y0 y1 y2 σ) := by
  induction n with
  | zero => intro y0 y1 y2 σ _; exact fV_none
  | succ n ih => intro y0 y1 y2 σ hF; exact fo_B_J7_fill_53178_jo_5  (fun _ _ _ _ h => ih h) hF
theorem fo_F_J7_fill_53178_jo {σ0 : Mm} {x1 : Int32} {σ : Mm} (hF : Fr W_J7_fill_53178_jo σ0 σ) : FoV W_J7_fill_53178_jo σ0 (F_J7_fill_53178_jo x1 σ) := by
  unfold F_J7_fill_53178_jo
  exact (fo_F_J7_fill_53178_jo_5  FU hF)
theorem fr_J7_fill_53178_jo {x1 : Int32} {σ : Mm} : FoV W_J7_fill_53178_jo σ (F_J7_fill_53178_jo x1 σ) := fo_F_J7_fill_53178_jo Fr_r
def W_J7_fill_53178_df : List (Nat × Nat × Nat) := [(1, 5, 999)]
theorem fo_F_J7_fill_53178_df_14 {σ0 : Mm} {rc5 : Nat → Int32 → Int32 → Int32 → Mm → Option (Mm)} (hrc5 : ∀ a0 a1 a2 a3 τ, Fr W_J7_fill_53178_df σ0 τ → FoV W_J7_fill_53178_df σ0 (rc5 a0 a1 a2 a3 τ)) {i0 : Nat} {x1 : Int32} {x2 : Int32} {x3 : Int32} {σ : Mm} (hF : Fr W_J7_fill_53178_df σ0 σ) : FoV W_J7_fill_53178_df σ0 (F_J7_fill_53178_df_14 rc5 i0 x1 x2 x3 σ) := by
  unfold F_J7_fill_53178_df_14
  exact (hrc5 _ _ _ _ _ hF)
theorem fo_B_J7_fill_53178_df_5 {σ0 : Mm} {rc5 : Nat → Int32 → Int32 → Int32 → Mm → Option (Mm)} (hrc5 : ∀ a0 a1 a2 a3 τ, Fr W_J7_fill_53178_df σ0 τ → FoV W_J7_fill_53178_df σ0 (rc5 a0 a1 a2 a3 τ)) {i0 : Nat} {x1 : Int32} {x2 : Int32} {x3 : Int32} {σ : Mm} (hF : Fr W_J7_fill_53178_df σ0 σ) : FoV W_J7_fill_53178_df σ0 (B_J7_fill_53178_df_5 rc5 i0 x1 x2 x3 σ) := by
  unfold B_J7_fill_53178_df_5
  exact (fV_ite (fV_some hF) (fV_ite (fo_F_J7_fill_53178_df_14 hrc5 (Fr.AA hF rfl)) fV_none))
theorem fo_F_J7_fill_53178_df_5 {σ0 : Mm} (n : Nat) : ∀ {y0 : Nat} {y1 : Int32} {y2 : Int32} {y3 : Int32} {σ : Mm}, Fr W_J7_fill_53178_df σ0 σ → FoV W_J7_fill_53178_df σ0 (F_J7_fill_53178_df_5  n y0 y1 y2 y3 σ) := by
  induction n with
  | zero => intro y0 y1 y2 y3 σ _; exact fV_none
  | succ n ih => intro y0 y1 y2 y3 σ hF; exact fo_B_J7_fill_53178_df_5  (fun _ _ _ _ _ h => ih h) hF
theorem fo_F_J7_fill_53178_df {σ0 : Mm} {i0 : Nat} {x1 : Int32} {σ : Mm} (hF : Fr W_J7_fill_53178_df σ0 σ) : FoV W_J7_fill_53178_df σ0 (F_J7_fill_53178_df i0 x1 σ) := by
  unfold F_J7_fill_53178_df
  exact (fo_F_J7_fill_53178_df_5  FU hF)
theorem fr_J7_fill_53178_df {i0 : Nat} {x1 : Int32} {σ : Mm} : FoV W_J7_fill_53178_df σ (F_J7_fill_53178_df i0 x1 σ) := fo_F_J7_fill_53178_df Fr_r
def W_J9_floorMod_7cf53 : List (Nat × Nat × Nat) := []
theorem fo_F_J9_floorMod_7cf53 {σ0 : Mm} {x0 : Int32} {x1 : Int32} {σ : Mm} (hF : Fr W_J9_floorMod_7cf53 σ0 σ) : FoI W_J9_floorMod_7cf53 σ0 (F_J9_floorMod_7cf53 x0 x1 σ) := by
  unfold F_J9_floorMod_7cf53
  exact (fI_ite (fI_ite (fI_some hF) (fI_ite (fI_some hF) (fI_some hF))) fI_none)
theorem fr_J9_floorMod_7cf53 {x0 : Int32} {x1 : Int32} {σ : Mm} : FoI W_J9_floorMod_7cf53 σ (F_J9_floorMod_7cf53 x0 x1 σ) := fo_F_J9_floorMod_7cf53 Fr_r
def W_X0_close : List (Nat × Nat × Nat) := [(1, 14, 999)]
theorem fo_F_X0_close {σ0 : Mm} {i0 : Nat} {x1 : Int32} {σ : Mm} (hF : Fr W_X0_close σ0 σ) : FoV W_X0_close σ0 (F_X0_close i0 x1 σ) := by
  unfold F_X0_close
  exact (fV_ite (fV_some hF) (fV_ite (fV_some hF) (fV_ite (fV_some (Fr.AA hF rfl)) fV_none)))
theorem fr_X0_close {i0 : Nat} {x1 : Int32} {σ : Mm} : FoV W_X0_close σ (F_X0_close i0 x1 σ) := fo_F_X0_close Fr_r
def W_X0_compared : List (Nat × Nat × Nat) := [(1, 10, 6)]
theorem fo_F_X0_compared_120 {σ0 : Mm} {x4 : Int32} {σ : Mm} (hF : Fr W_X0_compared σ0 σ) : FoI W_X0_compared σ0 (F_X0_compared_120 x4 σ) := by
  unfold F_X0_compared_120
  exact (fI_ite (fI_some hF) (fI_some hF))
theorem fo_F_X0_compared_113 {σ0 : Mm} {i0 : Nat} {s0 : Int32} {σ : Mm} (hF : Fr W_X0_compared σ0 σ) : FoI W_X0_compared σ0 (F_X0_compared_113 i0 s0 σ) := by
  unfold F_X0_compared_113
  exact (fo_F_X0_compared_120  (Fr.A hF rfl))
theorem fo_F_X0_compared_112 {σ0 : Mm} {i0 : Nat} {σ : Mm} (hF : Fr W_X0_compared σ0 σ) : FoI W_X0_compared σ0 (F_X0_compared_112 i0 σ) := by
  unfold F_X0_compared_112
  exact (fo_F_X0_compared_113  hF)
theorem fo_F_X0_compared_96 {σ0 : Mm} {i0 : Nat} {x4 : Int32} {σ : Mm} (hF : Fr W_X0_compared σ0 σ) : FoI W_X0_compared σ0 (F_X0_compared_96 i0 x4 σ) := by
  unfold F_X0_compared_96
  exact (fI_ite (fo_F_X0_compared_112  hF) (fI_ite (fo_F_X0_compared_113  hF) (fo_F_X0_compared_112  hF)))
theorem fo_F_X0_compared_46 {σ0 : Mm} {i0 : Nat} {s0 : Int32} {σ : Mm} (hF : Fr W_X0_compared σ0 σ) : FoI W_X0_compared σ0 (F_X0_compared_46 i0 s0 σ) := by
  unfold F_X0_compared_46
  exact (fo_F_X0_compared_96  hF)
theorem fo_F_X0_compared_61 {σ0 : Mm} {i0 : Nat} {s0 : Int32} {σ : Mm} (hF : Fr W_X0_compared σ0 σ) : FoI W_X0_compared σ0 (F_X0_compared_61 i0 s0 σ) := by
  unfold F_X0_compared_61
  exact (fo_F_X0_compared_96  hF)
theorem fo_F_X0_compared_76 {σ0 : Mm} {i0 : Nat} {s0 : Int32} {σ : Mm} (hF : Fr W_X0_compared σ0 σ) : FoI W_X0_compared σ0 (F_X0_compared_76 i0 s0 σ) := by
  unfold F_X0_compared_76
  exact (fo_F_X0_compared_96  hF)
theorem fo_F_X0_compared_91 {σ0 : Mm} {i0 : Nat} {s0 : Int32} {σ : Mm} (hF : Fr W_X0_compared σ0 σ) : FoI W_X0_compared σ0 (F_X0_compared_91 i0 s0 σ) := by
  unfold F_X0_compared_91
  exact (fo_F_X0_compared_96  hF)
theorem fo_F_X0_compared {σ0 : Mm} {i0 : Nat} {x1 : Int32} {x2 : Int32} {x3 : Int32} {σ : Mm} (hF : Fr W_X0_compared σ0 σ) : FoI W_X0_compared σ0 (F_X0_compared i0 x1 x2 x3 σ) := by
  unfold F_X0_compared
  exact (fI_ite (fI_ite (fo_F_X0_compared_46  hF) (fo_F_X0_compared_46  hF)) (fI_ite (fI_ite (fo_F_X0_compared_61  hF) (fo_F_X0_compared_61  hF)) (fI_ite (fI_ite (fo_F_X0_compared_76  hF) (fo_F_X0_compared_76  hF)) (fI_ite (fI_ite (fo_F_X0_compared_91  hF) (fo_F_X0_compared_91  hF)) (fo_F_X0_compared_96  hF)))))
theorem fr_X0_compared {i0 : Nat} {x1 : Int32} {x2 : Int32} {x3 : Int32} {σ : Mm} : FoI W_X0_compared σ (F_X0_compared i0 x1 x2 x3 σ) := fo_F_X0_compared Fr_r
def W_X0_copy : List (Nat × Nat × Nat) := [(1, 10, 0), (1, 11, 999), (1, 12, 999), (1, 13, 999), (1, 14, 999)]
theorem fo_F_X0_copy_55 {σ0 : Mm} {i0 : Nat} {i1 : Nat} {σ : Mm} (hF : Fr W_X0_copy σ0 σ) : FoV W_X0_copy σ0 (F_X0_copy_55 i0 i1 σ) := by
  unfold F_X0_copy_55
  exact (fV_some (Fr.AA hF rfl))
theorem fo_F_X0_copy_40 {σ0 : Mm} {i0 : Nat} {i1 : Nat} {σ : Mm} (hF : Fr W_X0_copy σ0 σ) : FoV W_X0_copy σ0 (F_X0_copy_40 i0 i1 σ) := by
  unfold F_X0_copy_40
  exact (fo_F_X0_copy_55  (Fr.AA hF rfl))
theorem fo_F_X0_copy_24 {σ0 : Mm} {i0 : Nat} {i1 : Nat} {σ : Mm} (hF : Fr W_X0_copy σ0 σ) : FoV W_X0_copy σ0 (F_X0_copy_24 i0 i1 σ) := by
  unfold F_X0_copy_24
  exact (fo_F_X0_copy_40  (Fr.AA hF rfl))
theorem fo_F_X0_copy_8 {σ0 : Mm} {i0 : Nat} {i1 : Nat} {σ : Mm} (hF : Fr W_X0_copy σ0 σ) : FoV W_X0_copy σ0 (F_X0_copy_8 i0 i1 σ) := by
  unfold F_X0_copy_8
  exact (fo_F_X0_copy_24  (Fr.AA hF rfl))
theorem fo_F_X0_copy {σ0 : Mm} {i0 : Nat} {i1 : Nat} {σ : Mm} (hF : Fr W_X0_copy σ0 σ) : FoV W_X0_copy σ0 (F_X0_copy i0 i1 σ) := by
  unfold F_X0_copy
  exact (fo_F_X0_copy_8  (Fr.A hF rfl))
theorem fr_X0_copy {i0 : Nat} {i1 : Nat} {σ : Mm} : FoV W_X0_copy σ (F_X0_copy i0 i1 σ) := fo_F_X0_copy Fr_r
def W_X0_forget : List (Nat × Nat × Nat) := [(1, 10, 0)]
theorem fo_F_X0_forget {σ0 : Mm} {i0 : Nat} {σ : Mm} (hF : Fr W_X0_forget σ0 σ) : FoV W_X0_forget σ0 (F_X0_forget i0 σ) := by
  unfold F_X0_forget
  exact (fV_some (Fr.A hF rfl))
theorem fr_X0_forget {i0 : Nat} {σ : Mm} : FoV W_X0_forget σ (F_X0_forget i0 σ) := fo_F_X0_forget Fr_r
def W_X0_joined : List (Nat × Nat × Nat) := [(1, 10, 6)]
theorem fo_F_X0_joined_89 {σ0 : Mm} {σ : Mm} (hF : Fr W_X0_joined σ0 σ) : FoI W_X0_joined σ0 (F_X0_joined_89 σ) := by
  unfold F_X0_joined_89
  exact (fI_some hF)
theorem fo_F_X0_joined_102 {σ0 : Mm} {s0 : Int32} {σ : Mm} (hF : Fr W_X0_joined σ0 σ) : FoI W_X0_joined σ0 (F_X0_joined_102 s0 σ) := by
  unfold F_X0_joined_102
  exact (fI_some hF)
theorem fo_F_X0_joined {σ0 : Mm} {i0 : Nat} {x1 : Int32} {x2 : Int32} {x3 : Int32} {σ : Mm} (hF : Fr W_X0_joined σ0 σ) : FoI W_X0_joined σ0 (F_X0_joined i0 x1 x2 x3 σ) := by
  unfold F_X0_joined
  exact (fI_ite (fI_some hF) (fI_ite (fI_some hF) (fI_ite (fI_some hF) (fI_ite (fI_ite (fo_F_X0_joined_89  (Fr.A hF rfl)) (fI_ite (fI_some hF) fI_none)) (fI_ite (fI_some hF) (fI_ite (fI_some hF) (fI_I (Wc := W_X0_compared) hF rfl (fo_F_X0_compared Fr_r) (fun _ _ h1 => (fo_F_X0_joined_102  h1)))))))))
theorem fr_X0_joined {i0 : Nat} {x1 : Int32} {x2 : Int32} {x3 : Int32} {σ : Mm} : FoI W_X0_joined σ (F_X0_joined i0 x1 x2 x3 σ) := fo_F_X0_joined Fr_r
def W_X0_open : List (Nat × Nat × Nat) := [(1, 13, 999), (1, 14, 999)]
theorem fo_F_X0_open_20 {σ0 : Mm} {i0 : Nat} {x1 : Int32} {σ : Mm} (hF : Fr W_X0_open σ0 σ) : FoV W_X0_open σ0 (F_X0_open_20 i0 x1 σ) := by
  unfold F_X0_open_20
  exact (fV_ite (fV_some (Fr.AA hF rfl)) fV_none)
theorem fo_F_X0_open {σ0 : Mm} {i0 : Nat} {x1 : Int32} {σ : Mm} (hF : Fr W_X0_open σ0 σ) : FoV W_X0_open σ0 (F_X0_open i0 x1 σ) := by
  unfold F_X0_open
  exact (fV_ite (fV_some hF) (fV_ite (fV_some hF) (fV_ite (fo_F_X0_open_20  (Fr.AA hF rfl)) fV_none)))
theorem fr_X0_open {i0 : Nat} {x1 : Int32} {σ : Mm} : FoV W_X0_open σ (F_X0_open i0 x1 σ) := fo_F_X0_open Fr_r
def W_X0_put : List (Nat × Nat × Nat) := [(1, 10, 0), (1, 11, 999), (1, 12, 999)]
theorem fo_F_X0_put_30 {σ0 : Mm} {i0 : Nat} {σ : Mm} (hF : Fr W_X0_put σ0 σ) : FoV W_X0_put σ0 (F_X0_put_30 i0 σ) := by
  unfold F_X0_put_30
  exact (fV_some (Fr.A hF rfl))
theorem fo_F_X0_put_20 {σ0 : Mm} {i0 : Nat} {x2 : Int32} {σ : Mm} (hF : Fr W_X0_put σ0 σ) : FoV W_X0_put σ0 (F_X0_put_20 i0 x2 σ) := by
  unfold F_X0_put_20
  exact (fV_ite (fo_F_X0_put_30  (Fr.AA hF rfl)) fV_none)
theorem fo_F_X0_put {σ0 : Mm} {i0 : Nat} {x1 : Int32} {x2 : Int32} {σ : Mm} (hF : Fr W_X0_put σ0 σ) : FoV W_X0_put σ0 (F_X0_put i0 x1 x2 σ) := by
  unfold F_X0_put
  exact (fV_ite (fV_some hF) (fV_ite (fo_F_X0_put_20  (Fr.AA hF rfl)) fV_none))
theorem fr_X0_put {i0 : Nat} {x1 : Int32} {x2 : Int32} {σ : Mm} : FoV W_X0_put σ (F_X0_put i0 x1 x2 σ) := fo_F_X0_put Fr_r
def W_X0_work_g : List (Nat × Nat × Nat) := [(1, 10, 6), (1, 15, 999)]
theorem fo_F_X0_work_g_214 {σ0 : Mm} {σ : Mm} (hF : Fr W_X0_work_g σ0 σ) : FoI W_X0_work_g σ0 (F_X0_work_g_214 σ) := by
  unfold F_X0_work_g_214
  exact (fI_some hF)
theorem fo_F_X0_work_g_202 {σ0 : Mm} {i0 : Nat} {x3 : Int32} {σ : Mm} (hF : Fr W_X0_work_g σ0 σ) : FoI W_X0_work_g σ0 (F_X0_work_g_202 i0 x3 σ) := by
  unfold F_X0_work_g_202
  exact (fI_ite (fI_ite (fI_ite (fI_some hF) fI_none) (fo_F_X0_work_g_214  hF)) (fo_F_X0_work_g_214  hF))
theorem fo_F_X0_work_g_196 {σ0 : Mm} {rc27 : Nat → Int32 → Int32 → Int32 → Mm → Option (Int32 × Mm)} (hrc27 : ∀ a0 a1 a2 a3 τ, Fr W_X0_work_g σ0 τ → FoI W_X0_work_g σ0 (rc27 a0 a1 a2 a3 τ)) {i0 : Nat} {x1 : Int32} {x3 : Int32} {x4 : Int32} {σ : Mm} (hF : Fr W_X0_work_g σ0 σ) : FoI W_X0_work_g σ0 (F_X0_work_g_196 rc27 i0 x1 x3 x4 σ) := by
  unfold F_X0_work_g_196
  exact (hrc27 _ _ _ _ _ hF)
theorem fo_F_X0_work_g_195 {σ0 : Mm} {rc27 : Nat → Int32 → Int32 → Int32 → Mm → Option (Int32 × Mm)} (hrc27 : ∀ a0 a1 a2 a3 τ, Fr W_X0_work_g σ0 τ → FoI W_X0_work_g σ0 (rc27 a0 a1 a2 a3 τ)) {i0 : Nat} {x1 : Int32} {x3 : Int32} {x4 : Int32} {s0 : Int32} {s1 : Int32} {σ : Mm} (hF : Fr W_X0_work_g σ0 σ) : FoI W_X0_work_g σ0 (F_X0_work_g_195 rc27 i0 x1 x3 x4 s0 s1 σ) := by
  unfold F_X0_work_g_195
  exact (fI_ite (fo_F_X0_work_g_196 hrc27 (Fr.AA hF rfl)) fI_none)
theorem fo_F_X0_work_g_160 {σ0 : Mm} {rc27 : Nat → Int32 → Int32 → Int32 → Mm → Option (Int32 × Mm)} (hrc27 : ∀ a0 a1 a2 a3 τ, Fr W_X0_work_g σ0 τ → FoI W_X0_work_g σ0 (rc27 a0 a1 a2 a3 τ)) {i0 : Nat} {x1 : Int32} {x3 : Int32} {x4 : Int32} {x5 : Int32} {σ : Mm} (hF : Fr W_X0_work_g σ0 σ) : FoI W_X0_work_g σ0 (F_X0_work_g_160 rc27 i0 x1 x3 x4 x5 σ) := by
  unfold F_X0_work_g_160
  exact (fI_ite (fo_F_X0_work_g_196 hrc27 hF) (fI_ite (fI_ite (fI_I (Wc := W_X0_joined) hF rfl (fo_F_X0_joined Fr_r) (fun _ _ h1 => (fo_F_X0_work_g_195 hrc27 h1))) fI_none) fI_none))
theorem fo_F_X0_work_g_154 {σ0 : Mm} {rc27 : Nat → Int32 → Int32 → Int32 → Mm → Option (Int32 × Mm)} (hrc27 : ∀ a0 a1 a2 a3 τ, Fr W_X0_work_g σ0 τ → FoI W_X0_work_g σ0 (rc27 a0 a1 a2 a3 τ)) {i0 : Nat} {x1 : Int32} {x3 : Int32} {x4 : Int32} {σ : Mm} (hF : Fr W_X0_work_g σ0 σ) : FoI W_X0_work_g σ0 (F_X0_work_g_154 rc27 i0 x1 x3 x4 σ) := by
  unfold F_X0_work_g_154
  exact (fo_F_X0_work_g_196 hrc27 hF)
theorem fo_F_X0_work_g_118 {σ0 : Mm} {rc27 : Nat → Int32 → Int32 → Int32 → Mm → Option (Int32 × Mm)} (hrc27 : ∀ a0 a1 a2 a3 τ, Fr W_X0_work_g σ0 τ → FoI W_X0_work_g σ0 (rc27 a0 a1 a2 a3 τ)) {i0 : Nat} {x1 : Int32} {x3 : Int32} {x4 : Int32} {x5 : Int32} {σ : Mm} (hF : Fr W_X0_work_g σ0 σ) : FoI W_X0_work_g σ0 (F_X0_work_g_118 rc27 i0 x1 x3 x4 x5 σ) := by
  unfold F_X0_work_g_118
  exact (fI_ite (fo_F_X0_work_g_160 hrc27 hF) (fI_ite (fo_F_X0_work_g_160 hrc27 hF) (fI_ite (fo_F_X0_work_g_160 hrc27 hF) (fI_ite (fI_ite (fo_F_X0_work_g_154 hrc27 (Fr.AA hF rfl)) fI_none) fI_none))))
theorem fo_F_X0_work_g_112 {σ0 : Mm} {rc27 : Nat → Int32 → Int32 → Int32 → Mm → Option (Int32 × Mm)} (hrc27 : ∀ a0 a1 a2 a3 τ, Fr W_X0_work_g σ0 τ → FoI W_X0_work_g σ0 (rc27 a0 a1 a2 a3 τ)) {i0 : Nat} {x1 : Int32} {x3 : Int32} {x4 : Int32} {σ : Mm} (hF : Fr W_X0_work_g σ0 σ) : FoI W_X0_work_g σ0 (F_X0_work_g_112 rc27 i0 x1 x3 x4 σ) := by
  unfold F_X0_work_g_112
  exact (fo_F_X0_work_g_196 hrc27 hF)
theorem fo_F_X0_work_g_87 {σ0 : Mm} {rc27 : Nat → Int32 → Int32 → Int32 → Mm → Option (Int32 × Mm)} (hrc27 : ∀ a0 a1 a2 a3 τ, Fr W_X0_work_g σ0 τ → FoI W_X0_work_g σ0 (rc27 a0 a1 a2 a3 τ)) {i0 : Nat} {x1 : Int32} {x3 : Int32} {x4 : Int32} {x5 : Int32} {σ : Mm} (hF : Fr W_X0_work_g σ0 σ) : FoI W_X0_work_g σ0 (F_X0_work_g_87 rc27 i0 x1 x3 x4 x5 σ) := by
  unfold F_X0_work_g_87
  exact (fI_ite (fI_ite (fo_F_X0_work_g_118 hrc27 hF) (fI_ite (fI_ite (fo_F_X0_work_g_112 hrc27 (Fr.AA hF rfl)) fI_none) fI_none)) (fo_F_X0_work_g_118 hrc27 hF))
theorem fo_B_X0_work_g_27 {σ0 : Mm} {rc27 : Nat → Int32 → Int32 → Int32 → Mm → Option (Int32 × Mm)} (hrc27 : ∀ a0 a1 a2 a3 τ, Fr W_X0_work_g σ0 τ → FoI W_X0_work_g σ0 (rc27 a0 a1 a2 a3 τ)) {i0 : Nat} {x1 : Int32} {x3 : Int32} {x4 : Int32} {σ : Mm} (hF : Fr W_X0_work_g σ0 σ) : FoI W_X0_work_g σ0 (B_X0_work_g_27 rc27 i0 x1 x3 x4 σ) := by
  unfold B_X0_work_g_27
  exact (fI_ite (fI_ite (fo_F_X0_work_g_202  hF) (fI_ite (fo_F_X0_work_g_202  hF) (fI_ite (fI_ite (fI_ite (fo_F_X0_work_g_87 hrc27 hF) (fI_ite (fI_ite (fo_F_X0_work_g_196 hrc27 (Fr.AA hF rfl)) fI_none) fI_none)) (fo_F_X0_work_g_87 hrc27 hF)) fI_none))) fI_none)
theorem fo_F_X0_work_g_27 {σ0 : Mm} (n : Nat) : ∀ {y0 : Nat} {y1 : Int32} {y2 : Int32} {y3 : Int32} {σ : Mm}, Fr W_X0_work_g σ0 σ → FoI W_X0_work_g σ0 (F_X0_work_g_27  n y0 y1 y2 y3 σ) := by
  induction n with
  | zero => intro y0 y1 y2 y3 σ _; exact fI_none
  | succ n ih => intro y0 y1 y2 y3 σ hF; exact fo_B_X0_work_g_27  (fun _ _ _ _ _ h => ih h) hF
theorem fo_F_X0_work_g_7 {σ0 : Mm} {i0 : Nat} {x1 : Int32} {x3 : Int32} {σ : Mm} (hF : Fr W_X0_work_g σ0 σ) : FoI W_X0_work_g σ0 (F_X0_work_g_7 i0 x1 x3 σ) := by
  unfold F_X0_work_g_7
  exact (fI_ite (fI_some hF) (fI_ite (fI_ite (fo_F_X0_work_g_27  FU hF) fI_none) (fI_some hF)))
theorem fo_F_X0_work_g {σ0 : Mm} {i0 : Nat} {x1 : Int32} {σ : Mm} (hF : Fr W_X0_work_g σ0 σ) : FoI W_X0_work_g σ0 (F_X0_work_g i0 x1 σ) := by
  unfold F_X0_work_g
  exact (fo_F_X0_work_g_7  (Fr.A hF rfl))
theorem fr_X0_work_g {i0 : Nat} {x1 : Int32} {σ : Mm} : FoI W_X0_work_g σ (F_X0_work_g i0 x1 σ) := fo_F_X0_work_g Fr_r
def W_X0_work_s : List (Nat × Nat × Nat) := [(1, 10, 6), (1, 15, 999)]
theorem fo_F_X0_work_s_214 {σ0 : Mm} {σ : Mm} (hF : Fr W_X0_work_s σ0 σ) : FoI W_X0_work_s σ0 (F_X0_work_s_214 σ) := by
  unfold F_X0_work_s_214
  exact (fI_some hF)
theorem fo_F_X0_work_s_202 {σ0 : Mm} {i0 : Nat} {x3 : Int32} {σ : Mm} (hF : Fr W_X0_work_s σ0 σ) : FoI W_X0_work_s σ0 (F_X0_work_s_202 i0 x3 σ) := by
  unfold F_X0_work_s_202
  exact (fI_ite (fI_ite (fI_ite (fI_some hF) fI_none) (fo_F_X0_work_s_214  hF)) (fo_F_X0_work_s_214  hF))
theorem fo_F_X0_work_s_196 {σ0 : Mm} {rc27 : Nat → Int32 → Int32 → Int32 → Mm → Option (Int32 × Mm)} (hrc27 : ∀ a0 a1 a2 a3 τ, Fr W_X0_work_s σ0 τ → FoI W_X0_work_s σ0 (rc27 a0 a1 a2 a3 τ)) {i0 : Nat} {x1 : Int32} {x3 : Int32} {x4 : Int32} {σ : Mm} (hF : Fr W_X0_work_s σ0 σ) : FoI W_X0_work_s σ0 (F_X0_work_s_196 rc27 i0 x1 x3 x4 σ) := by
  unfold F_X0_work_s_196
  exact (hrc27 _ _ _ _ _ hF)
theorem fo_F_X0_work_s_195 {σ0 : Mm} {rc27 : Nat → Int32 → Int32 → Int32 → Mm → Option (Int32 × Mm)} (hrc27 : ∀ a0 a1 a2 a3 τ, Fr W_X0_work_s σ0 τ → FoI W_X0_work_s σ0 (rc27 a0 a1 a2 a3 τ)) {i0 : Nat} {x1 : Int32} {x3 : Int32} {x4 : Int32} {s0 : Int32} {s1 : Int32} {σ : Mm} (hF : Fr W_X0_work_s σ0 σ) : FoI W_X0_work_s σ0 (F_X0_work_s_195 rc27 i0 x1 x3 x4 s0 s1 σ) := by
  unfold F_X0_work_s_195
  exact (fI_ite (fo_F_X0_work_s_196 hrc27 (Fr.AA hF rfl)) fI_none)
theorem fo_F_X0_work_s_160 {σ0 : Mm} {rc27 : Nat → Int32 → Int32 → Int32 → Mm → Option (Int32 × Mm)} (hrc27 : ∀ a0 a1 a2 a3 τ, Fr W_X0_work_s σ0 τ → FoI W_X0_work_s σ0 (rc27 a0 a1 a2 a3 τ)) {i0 : Nat} {x1 : Int32} {x3 : Int32} {x4 : Int32} {x5 : Int32} {σ : Mm} (hF : Fr W_X0_work_s σ0 σ) : FoI W_X0_work_s σ0 (F_X0_work_s_160 rc27 i0 x1 x3 x4 x5 σ) := by
  unfold F_X0_work_s_160
  exact (fI_ite (fo_F_X0_work_s_196 hrc27 hF) (fI_ite (fI_ite (fI_I (Wc := W_X0_joined) hF rfl (fo_F_X0_joined Fr_r) (fun _ _ h1 => (fo_F_X0_work_s_195 hrc27 h1))) fI_none) fI_none))
theorem fo_F_X0_work_s_154 {σ0 : Mm} {rc27 : Nat → Int32 → Int32 → Int32 → Mm → Option (Int32 × Mm)} (hrc27 : ∀ a0 a1 a2 a3 τ, Fr W_X0_work_s σ0 τ → FoI W_X0_work_s σ0 (rc27 a0 a1 a2 a3 τ)) {i0 : Nat} {x1 : Int32} {x3 : Int32} {x4 : Int32} {σ : Mm} (hF : Fr W_X0_work_s σ0 σ) : FoI W_X0_work_s σ0 (F_X0_work_s_154 rc27 i0 x1 x3 x4 σ) := by
  unfold F_X0_work_s_154
  exact (fo_F_X0_work_s_196 hrc27 hF)
theorem fo_F_X0_work_s_118 {σ0 : Mm} {rc27 : Nat → Int32 → Int32 → Int32 → Mm → Option (Int32 × Mm)} (hrc27 : ∀ a0 a1 a2 a3 τ, Fr W_X0_work_s σ0 τ → FoI W_X0_work_s σ0 (rc27 a0 a1 a2 a3 τ)) {i0 : Nat} {x1 : Int32} {x3 : Int32} {x4 : Int32} {x5 : Int32} {σ : Mm} (hF : Fr W_X0_work_s σ0 σ) : FoI W_X0_work_s σ0 (F_X0_work_s_118 rc27 i0 x1 x3 x4 x5 σ) := by
  unfold F_X0_work_s_118
  exact (fI_ite (fo_F_X0_work_s_160 hrc27 hF) (fI_ite (fo_F_X0_work_s_160 hrc27 hF) (fI_ite (fo_F_X0_work_s_160 hrc27 hF) (fI_ite (fI_ite (fo_F_X0_work_s_154 hrc27 (Fr.AA hF rfl)) fI_none) fI_none))))
theorem fo_F_X0_work_s_112 {σ0 : Mm} {rc27 : Nat → Int32 → Int32 → Int32 → Mm → Option (Int32 × Mm)} (hrc27 : ∀ a0 a1 a2 a3 τ, Fr W_X0_work_s σ0 τ → FoI W_X0_work_s σ0 (rc27 a0 a1 a2 a3 τ)) {i0 : Nat} {x1 : Int32} {x3 : Int32} {x4 : Int32} {σ : Mm} (hF : Fr W_X0_work_s σ0 σ) : FoI W_X0_work_s σ0 (F_X0_work_s_112 rc27 i0 x1 x3 x4 σ) := by
  unfold F_X0_work_s_112
  exact (fo_F_X0_work_s_196 hrc27 hF)
theorem fo_F_X0_work_s_87 {σ0 : Mm} {rc27 : Nat → Int32 → Int32 → Int32 → Mm → Option (Int32 × Mm)} (hrc27 : ∀ a0 a1 a2 a3 τ, Fr W_X0_work_s σ0 τ → FoI W_X0_work_s σ0 (rc27 a0 a1 a2 a3 τ)) {i0 : Nat} {x1 : Int32} {x3 : Int32} {x4 : Int32} {x5 : Int32} {σ : Mm} (hF : Fr W_X0_work_s σ0 σ) : FoI W_X0_work_s σ0 (F_X0_work_s_87 rc27 i0 x1 x3 x4 x5 σ) := by
  unfold F_X0_work_s_87
  exact (fI_ite (fI_ite (fo_F_X0_work_s_118 hrc27 hF) (fI_ite (fI_ite (fo_F_X0_work_s_112 hrc27 (Fr.AA hF rfl)) fI_none) fI_none)) (fo_F_X0_work_s_118 hrc27 hF))
theorem fo_B_X0_work_s_27 {σ0 : Mm} {rc27 : Nat → Int32 → Int32 → Int32 → Mm → Option (Int32 × Mm)} (hrc27 : ∀ a0 a1 a2 a3 τ, Fr W_X0_work_s σ0 τ → FoI W_X0_work_s σ0 (rc27 a0 a1 a2 a3 τ)) {i0 : Nat} {x1 : Int32} {x3 : Int32} {x4 : Int32} {σ : Mm} (hF : Fr W_X0_work_s σ0 σ) : FoI W_X0_work_s σ0 (B_X0_work_s_27 rc27 i0 x1 x3 x4 σ) := by
  unfold B_X0_work_s_27
  exact (fI_ite (fI_ite (fo_F_X0_work_s_202  hF) (fI_ite (fo_F_X0_work_s_202  hF) (fI_ite (fI_ite (fI_ite (fo_F_X0_work_s_87 hrc27 hF) (fI_ite (fI_ite (fo_F_X0_work_s_196 hrc27 (Fr.AA hF rfl)) fI_none) fI_none)) (fo_F_X0_work_s_87 hrc27 hF)) fI_none))) fI_none)
theorem fo_F_X0_work_s_27 {σ0 : Mm} (n : Nat) : ∀ {y0 : Nat} {y1 : Int32} {y2 : Int32} {y3 : Int32} {σ : Mm}, Fr W_X0_work_s σ0 σ → FoI W_X0_work_s σ0 (F_X0_work_s_27  n y0 y1 y2 y3 σ) := by
  induction n with
  | zero => intro y0 y1 y2 y3 σ _; exact fI_none
  | succ n ih => intro y0 y1 y2 y3 σ hF; exact fo_B_X0_work_s_27  (fun _ _ _ _ _ h => ih h) hF
theorem fo_F_X0_work_s_7 {σ0 : Mm} {i0 : Nat} {x1 : Int32} {x3 : Int32} {σ : Mm} (hF : Fr W_X0_work_s σ0 σ) : FoI W_X0_work_s σ0 (F_X0_work_s_7 i0 x1 x3 σ) := by
  unfold F_X0_work_s_7
  exact (fI_ite (fI_some hF) (fI_ite (fI_ite (fo_F_X0_work_s_27  FU hF) fI_none) (fI_some hF)))
theorem fo_F_X0_work_s {σ0 : Mm} {i0 : Nat} {x1 : Int32} {σ : Mm} (hF : Fr W_X0_work_s σ0 σ) : FoI W_X0_work_s σ0 (F_X0_work_s i0 x1 σ) := by
  unfold F_X0_work_s
  exact (fo_F_X0_work_s_7  (Fr.A hF rfl))
theorem fr_X0_work_s {i0 : Nat} {x1 : Int32} {σ : Mm} : FoI W_X0_work_s σ (F_X0_work_s i0 x1 σ) := fo_F_X0_work_s Fr_r
def W_X10_asManyAsUnturned : List (Nat × Nat × Nat) := []
theorem fo_F_X10_asManyAsUnturned_29 {σ0 : Mm} {rc4 : Int32 → Int32 → Mm → Option (Int32 × Mm)} (hrc4 : ∀ a0 a1 τ, Fr W_X10_asManyAsUnturned σ0 τ → FoI W_X10_asManyAsUnturned σ0 (rc4 a0 a1 τ)) {x1 : Int32} {x2 : Int32} {σ : Mm} (hF : Fr W_X10_asManyAsUnturned σ0 σ) : FoI W_X10_asManyAsUnturned σ0 (F_X10_asManyAsUnturned_29 rc4 x1 x2 σ) := by
  unfold F_X10_asManyAsUnturned_29
  exact (hrc4 _ _ _ hF)
theorem fo_B_X10_asManyAsUnturned_4 {σ0 : Mm} {rc4 : Int32 → Int32 → Mm → Option (Int32 × Mm)} (hrc4 : ∀ a0 a1 τ, Fr W_X10_asManyAsUnturned σ0 τ → FoI W_X10_asManyAsUnturned σ0 (rc4 a0 a1 τ)) {x1 : Int32} {x2 : Int32} {σ : Mm} (hF : Fr W_X10_asManyAsUnturned σ0 σ) : FoI W_X10_asManyAsUnturned σ0 (B_X10_asManyAsUnturned_4 rc4 x1 x2 σ) := by
  unfold B_X10_asManyAsUnturned_4
  exact (fI_ite (fI_some hF) (fI_ite (fI_ite (fI_ite (fo_F_X10_asManyAsUnturned_29 hrc4 hF) (fo_F_X10_asManyAsUnturned_29 hrc4 hF)) fI_none) fI_none))
theorem fo_F_X10_asManyAsUnturned_4 {σ0 : Mm} (n : Nat) : ∀ {y0 : Int32} {y1 : Int32} {σ : Mm}, Fr W_X10_asManyAsUnturned σ0 σ → FoI W_X10_asManyAsUnturned σ0 (F_X10_asManyAsUnturned_4  n y0 y1 σ) := by
  induction n with
  | zero => intro y0 y1 σ _; exact fI_none
  | succ n ih => intro y0 y1 σ hF; exact fo_B_X10_asManyAsUnturned_4  (fun _ _ _ h => ih h) hF
theorem fo_F_X10_asManyAsUnturned {σ0 : Mm} {σ : Mm} (hF : Fr W_X10_asManyAsUnturned σ0 σ) : FoI W_X10_asManyAsUnturned σ0 (F_X10_asManyAsUnturned σ) := by
  unfold F_X10_asManyAsUnturned
  exact (fo_F_X10_asManyAsUnturned_4  FU hF)
theorem fr_X10_asManyAsUnturned {σ : Mm} : FoI W_X10_asManyAsUnturned σ (F_X10_asManyAsUnturned σ) := fo_F_X10_asManyAsUnturned Fr_r
def W_X6_struck : List (Nat × Nat × Nat) := []
theorem fo_F_X6_struck_67 {σ0 : Mm} {rc6 : Int32 → Int32 → Int32 → Int32 → Int32 → Mm → Option (Int32 × Mm)} (hrc6 : ∀ a0 a1 a2 a3 a4 τ, Fr W_X6_struck σ0 τ → FoI W_X6_struck σ0 (rc6 a0 a1 a2 a3 a4 τ)) {x1 : Int32} {x2 : Int32} {x3 : Int32} {x4 : Int32} {x5 : Int32} {σ : Mm} (hF : Fr W_X6_struck σ0 σ) : FoI W_X6_struck σ0 (F_X6_struck_67 rc6 x1 x2 x3 x4 x5 σ) := by
  unfold F_X6_struck_67
  exact (hrc6 _ _ _ _ _ _ hF)
theorem fo_F_X6_struck_40 {σ0 : Mm} {rc6 : Int32 → Int32 → Int32 → Int32 → Int32 → Mm → Option (Int32 × Mm)} (hrc6 : ∀ a0 a1 a2 a3 a4 τ, Fr W_X6_struck σ0 τ → FoI W_X6_struck σ0 (rc6 a0 a1 a2 a3 a4 τ)) {x1 : Int32} {x2 : Int32} {x3 : Int32} {x4 : Int32} {x5 : Int32} {s0 : Int32} {σ : Mm} (hF : Fr W_X6_struck σ0 σ) : FoI W_X6_struck σ0 (F_X6_struck_40 rc6 x1 x2 x3 x4 x5 s0 σ) := by
  unfold F_X6_struck_40
  exact (fI_ite (fI_ite (fo_F_X6_struck_67 hrc6 hF) (fo_F_X6_struck_67 hrc6 hF)) fI_none)
theorem fo_B_X6_struck_6 {σ0 : Mm} {rc6 : Int32 → Int32 → Int32 → Int32 → Int32 → Mm → Option (Int32 × Mm)} (hrc6 : ∀ a0 a1 a2 a3 a4 τ, Fr W_X6_struck σ0 τ → FoI W_X6_struck σ0 (rc6 a0 a1 a2 a3 a4 τ)) {x1 : Int32} {x2 : Int32} {x3 : Int32} {x4 : Int32} {x5 : Int32} {σ : Mm} (hF : Fr W_X6_struck σ0 σ) : FoI W_X6_struck σ0 (B_X6_struck_6 rc6 x1 x2 x3 x4 x5 σ) := by
  unfold B_X6_struck_6
  exact (fI_ite (fI_some hF) (fI_ite (fI_ite (fo_F_X6_struck_40 hrc6 hF) fI_none) (fI_ite (fo_F_X6_struck_40 hrc6 hF) fI_none)))
theorem fo_F_X6_struck_6 {σ0 : Mm} (n : Nat) : ∀ {y0 : Int32} {y1 : Int32} {y2 : Int32} {y3 : Int32} {y4 : Int32} {σ : Mm}, Fr W_X6_struck σ0 σ → FoI W_X6_struck σ0 (F_X6_struck_6  n y0 y1 y2 y3 y4 σ) := by
  induction n with
  | zero => intro y0 y1 y2 y3 y4 σ _; exact fI_none
  | succ n ih => intro y0 y1 y2 y3 y4 σ hF; exact fo_B_X6_struck_6  (fun _ _ _ _ _ _ h => ih h) hF
theorem fo_F_X6_struck {σ0 : Mm} {x1 : Int32} {x2 : Int32} {x3 : Int32} {σ : Mm} (hF : Fr W_X6_struck σ0 σ) : FoI W_X6_struck σ0 (F_X6_struck x1 x2 x3 σ) := by
  unfold F_X6_struck
  exact (fo_F_X6_struck_6  FU hF)
theorem fr_X6_struck {x1 : Int32} {x2 : Int32} {x3 : Int32} {σ : Mm} : FoI W_X6_struck σ (F_X6_struck x1 x2 x3 σ) := fo_F_X6_struck Fr_r
def W_X10_cover : List (Nat × Nat × Nat) := [(0, 31, 999)]
theorem fo_F_X10_cover_22 {σ0 : Mm} {rc2 : Int32 → Int32 → Mm → Option (Mm)} (hrc2 : ∀ a0 a1 τ, Fr W_X10_cover σ0 τ → FoV W_X10_cover σ0 (rc2 a0 a1 τ)) {x2 : Int32} {x3 : Int32} {σ : Mm} (hF : Fr W_X10_cover σ0 σ) : FoV W_X10_cover σ0 (F_X10_cover_22 rc2 x2 x3 σ) := by
  unfold F_X10_cover_22
  exact (hrc2 _ _ _ hF)
theorem fo_F_X10_cover_21 {σ0 : Mm} {rc2 : Int32 → Int32 → Mm → Option (Mm)} (hrc2 : ∀ a0 a1 τ, Fr W_X10_cover σ0 τ → FoV W_X10_cover σ0 (rc2 a0 a1 τ)) {x2 : Int32} {x3 : Int32} {s0 : Int32} {s1 : Int32} {σ : Mm} (hF : Fr W_X10_cover σ0 σ) : FoV W_X10_cover σ0 (F_X10_cover_21 rc2 x2 x3 s0 s1 σ) := by
  unfold F_X10_cover_21
  exact (fV_ite (fo_F_X10_cover_22 hrc2 (Fr.AA hF rfl)) fV_none)
theorem fo_B_X10_cover_2 {σ0 : Mm} {rc2 : Int32 → Int32 → Mm → Option (Mm)} (hrc2 : ∀ a0 a1 τ, Fr W_X10_cover σ0 τ → FoV W_X10_cover σ0 (rc2 a0 a1 τ)) {x2 : Int32} {x3 : Int32} {σ : Mm} (hF : Fr W_X10_cover σ0 σ) : FoV W_X10_cover σ0 (B_X10_cover_2 rc2 x2 x3 σ) := by
  unfold B_X10_cover_2
  exact (fV_ite (fV_some hF) (fI_V (Wc := W_X6_struck) hF rfl (fo_F_X6_struck Fr_r) (fun _ _ h1 => (fo_F_X10_cover_21 hrc2 h1))))
theorem fo_F_X10_cover_2 {σ0 : Mm} (n : Nat) : ∀ {y0 : Int32} {y1 : Int32} {σ : Mm}, Fr W_X10_cover σ0 σ → FoV W_X10_cover σ0 (F_X10_cover_2  n y0 y1 σ) := by
  induction n with
  | zero => intro y0 y1 σ _; exact fV_none
  | succ n ih => intro y0 y1 σ hF; exact fo_B_X10_cover_2  (fun _ _ _ h => ih h) hF
theorem fo_F_X10_cover {σ0 : Mm} {x2 : Int32} {σ : Mm} (hF : Fr W_X10_cover σ0 σ) : FoV W_X10_cover σ0 (F_X10_cover x2 σ) := by
  unfold F_X10_cover
  exact (fo_F_X10_cover_2  FU hF)
theorem fr_X10_cover {x2 : Int32} {σ : Mm} : FoV W_X10_cover σ (F_X10_cover x2 σ) := fo_F_X10_cover Fr_r
def W_X10_findEdges : List (Nat × Nat × Nat) := [(0, 29, 5), (0, 35, 999), (0, 36, 999)]
theorem fo_F_X10_findEdges_130 {σ0 : Mm} {rc27 : Int32 → Int32 → Int32 → Int32 → Mm → Option (Int32 × Mm)} (hrc27 : ∀ a0 a1 a2 a3 τ, Fr W_X10_findEdges σ0 τ → FoI W_X10_findEdges σ0 (rc27 a0 a1 a2 a3 τ)) {x1 : Int32} {x2 : Int32} {x4 : Int32} {x5 : Int32} {σ : Mm} (hF : Fr W_X10_findEdges σ0 σ) : FoI W_X10_findEdges σ0 (F_X10_findEdges_130 rc27 x1 x2 x4 x5 σ) := by
  unfold F_X10_findEdges_130
  exact (hrc27 _ _ _ _ _ hF)
theorem fo_F_X10_findEdges_120 {σ0 : Mm} {rc27 : Int32 → Int32 → Int32 → Int32 → Mm → Option (Int32 × Mm)} (hrc27 : ∀ a0 a1 a2 a3 τ, Fr W_X10_findEdges σ0 τ → FoI W_X10_findEdges σ0 (rc27 a0 a1 a2 a3 τ)) {x1 : Int32} {x2 : Int32} {x4 : Int32} {x5 : Int32} {σ : Mm} (hF : Fr W_X10_findEdges σ0 σ) : FoI W_X10_findEdges σ0 (F_X10_findEdges_120 rc27 x1 x2 x4 x5 σ) := by
  unfold F_X10_findEdges_120
  exact (fo_F_X10_findEdges_130 hrc27 (Fr.A hF rfl))
theorem fo_F_X10_findEdges_119 {σ0 : Mm} {rc27 : Int32 → Int32 → Int32 → Int32 → Mm → Option (Int32 × Mm)} (hrc27 : ∀ a0 a1 a2 a3 τ, Fr W_X10_findEdges σ0 τ → FoI W_X10_findEdges σ0 (rc27 a0 a1 a2 a3 τ)) {x1 : Int32} {x2 : Int32} {x4 : Int32} {x5 : Int32} {s0 : Int32} {s1 : Int32} {σ : Mm} (hF : Fr W_X10_findEdges σ0 σ) : FoI W_X10_findEdges σ0 (F_X10_findEdges_119 rc27 x1 x2 x4 x5 s0 s1 σ) := by
  unfold F_X10_findEdges_119
  exact (fI_ite (fo_F_X10_findEdges_120 hrc27 (Fr.AA hF rfl)) fI_none)
theorem fo_F_X10_findEdges_101 {σ0 : Mm} {rc27 : Int32 → Int32 → Int32 → Int32 → Mm → Option (Int32 × Mm)} (hrc27 : ∀ a0 a1 a2 a3 τ, Fr W_X10_findEdges σ0 τ → FoI W_X10_findEdges σ0 (rc27 a0 a1 a2 a3 τ)) {x1 : Int32} {x2 : Int32} {x4 : Int32} {x5 : Int32} {σ : Mm} (hF : Fr W_X10_findEdges σ0 σ) : FoI W_X10_findEdges σ0 (F_X10_findEdges_101 rc27 x1 x2 x4 x5 σ) := by
  unfold F_X10_findEdges_101
  exact (fI_ite (fo_F_X10_findEdges_119 hrc27 hF) (fo_F_X10_findEdges_119 hrc27 hF))
theorem fo_F_X10_findEdges_84 {σ0 : Mm} {rc27 : Int32 → Int32 → Int32 → Int32 → Mm → Option (Int32 × Mm)} (hrc27 : ∀ a0 a1 a2 a3 τ, Fr W_X10_findEdges σ0 τ → FoI W_X10_findEdges σ0 (rc27 a0 a1 a2 a3 τ)) {x1 : Int32} {x2 : Int32} {x3 : Int32} {x4 : Int32} {x5 : Int32} {σ : Mm} (hF : Fr W_X10_findEdges σ0 σ) : FoI W_X10_findEdges σ0 (F_X10_findEdges_84 rc27 x1 x2 x3 x4 x5 σ) := by
  unfold F_X10_findEdges_84
  exact (fI_ite (fo_F_X10_findEdges_130 hrc27 hF) (fI_ite (fo_F_X10_findEdges_101 hrc27 (Fr.AA hF rfl)) fI_none))
theorem fo_F_X10_findEdges_68 {σ0 : Mm} {rc27 : Int32 → Int32 → Int32 → Int32 → Mm → Option (Int32 × Mm)} (hrc27 : ∀ a0 a1 a2 a3 τ, Fr W_X10_findEdges σ0 τ → FoI W_X10_findEdges σ0 (rc27 a0 a1 a2 a3 τ)) {x1 : Int32} {x2 : Int32} {x3 : Int32} {x4 : Int32} {s0 : Int32} {σ : Mm} (hF : Fr W_X10_findEdges σ0 σ) : FoI W_X10_findEdges σ0 (F_X10_findEdges_68 rc27 x1 x2 x3 x4 s0 σ) := by
  unfold F_X10_findEdges_68
  exact (fI_ite (fo_F_X10_findEdges_84 hrc27 hF) (fI_ite (fo_F_X10_findEdges_84 hrc27 hF) fI_none))
theorem fo_F_X10_findEdges_57 {σ0 : Mm} {rc27 : Int32 → Int32 → Int32 → Int32 → Mm → Option (Int32 × Mm)} (hrc27 : ∀ a0 a1 a2 a3 τ, Fr W_X10_findEdges σ0 τ → FoI W_X10_findEdges σ0 (rc27 a0 a1 a2 a3 τ)) {x1 : Int32} {x2 : Int32} {x3 : Int32} {x4 : Int32} {s0 : Int32} {σ : Mm} (hF : Fr W_X10_findEdges σ0 σ) : FoI W_X10_findEdges σ0 (F_X10_findEdges_57 rc27 x1 x2 x3 x4 s0 σ) := by
  unfold F_X10_findEdges_57
  exact (fI_ite (fI_ite (fo_F_X10_findEdges_68 hrc27 hF) (fo_F_X10_findEdges_68 hrc27 hF)) fI_none)
theorem fo_B_X10_findEdges_27 {σ0 : Mm} {rc27 : Int32 → Int32 → Int32 → Int32 → Mm → Option (Int32 × Mm)} (hrc27 : ∀ a0 a1 a2 a3 τ, Fr W_X10_findEdges σ0 τ → FoI W_X10_findEdges σ0 (rc27 a0 a1 a2 a3 τ)) {x1 : Int32} {x2 : Int32} {x3 : Int32} {x4 : Int32} {σ : Mm} (hF : Fr W_X10_findEdges σ0 σ) : FoI W_X10_findEdges σ0 (B_X10_findEdges_27 rc27 x1 x2 x3 x4 σ) := by
  unfold B_X10_findEdges_27
  exact (fI_ite (fI_some hF) (fI_ite (fo_F_X10_findEdges_57 hrc27 hF) (fo_F_X10_findEdges_57 hrc27 hF)))
theorem fo_F_X10_findEdges_27 {σ0 : Mm} (n : Nat) : ∀ {y0 : Int32} {y1 : Int32} {y2 : Int32} {y3 : Int32} {σ : Mm}, Fr W_X10_findEdges σ0 σ → FoI W_X10_findEdges σ0 (F_X10_findEdges_27  n y0 y1 y2 y3 σ) := by
  induction n with
  | zero => intro y0 y1 y2 y3 σ _; exact fI_none
  | succ n ih => intro y0 y1 y2 y3 σ hF; exact fo_B_X10_findEdges_27  (fun _ _ _ _ _ h => ih h) hF
theorem fo_F_X10_findEdges_23 {σ0 : Mm} {x1 : Int32} {x2 : Int32} {s0 : Int32} {σ : Mm} (hF : Fr W_X10_findEdges σ0 σ) : FoI W_X10_findEdges σ0 (F_X10_findEdges_23 x1 x2 s0 σ) := by
  unfold F_X10_findEdges_23
  exact (fo_F_X10_findEdges_27  FU hF)
theorem fo_F_X10_findEdges_7 {σ0 : Mm} {x1 : Int32} {x2 : Int32} {σ : Mm} (hF : Fr W_X10_findEdges σ0 σ) : FoI W_X10_findEdges σ0 (F_X10_findEdges_7 x1 x2 σ) := by
  unfold F_X10_findEdges_7
  exact (fI_ite (fI_ite (fo_F_X10_findEdges_23  hF) (fo_F_X10_findEdges_23  hF)) fI_none)
theorem fo_F_X10_findEdges {σ0 : Mm} {x1 : Int32} {σ : Mm} (hF : Fr W_X10_findEdges σ0 σ) : FoI W_X10_findEdges σ0 (F_X10_findEdges x1 σ) := by
  unfold F_X10_findEdges
  exact (fo_F_X10_findEdges_7  (Fr.A hF rfl))
theorem fr_X10_findEdges {x1 : Int32} {σ : Mm} : FoI W_X10_findEdges σ (F_X10_findEdges x1 σ) := fo_F_X10_findEdges Fr_r
def W_X10_gather : List (Nat × Nat × Nat) := [(0, 30, 999)]
theorem fo_F_X10_gather_33 {σ0 : Mm} {rc10 : Int32 → Mm → Option (Mm)} (hrc10 : ∀ a0 τ, Fr W_X10_gather σ0 τ → FoV W_X10_gather σ0 (rc10 a0 τ)) {x2 : Int32} {σ : Mm} (hF : Fr W_X10_gather σ0 σ) : FoV W_X10_gather σ0 (F_X10_gather_33 rc10 x2 σ) := by
  unfold F_X10_gather_33
  exact (hrc10 _ _ hF)
theorem fo_B_X10_gather_10 {σ0 : Mm} {rc10 : Int32 → Mm → Option (Mm)} (hrc10 : ∀ a0 τ, Fr W_X10_gather σ0 τ → FoV W_X10_gather σ0 (rc10 a0 τ)) {x2 : Int32} {σ : Mm} (hF : Fr W_X10_gather σ0 σ) : FoV W_X10_gather σ0 (B_X10_gather_10 rc10 x2 σ) := by
  unfold B_X10_gather_10
  exact (fV_ite (fV_some hF) (fV_ite (fV_ite (fV_ite (fo_F_X10_gather_33 hrc10 (Fr.AA hF rfl)) fV_none) fV_none) fV_none))
theorem fo_F_X10_gather_10 {σ0 : Mm} (n : Nat) : ∀ {y0 : Int32} {σ : Mm}, Fr W_X10_gather σ0 σ → FoV W_X10_gather σ0 (F_X10_gather_10  n y0 σ) := by
  induction n with
  | zero => intro y0 σ _; exact fV_none
  | succ n ih => intro y0 σ hF; exact fo_B_X10_gather_10  (fun _ _ h => ih h) hF
theorem fo_F_X10_gather_8 {σ0 : Mm} {σ : Mm} (hF : Fr W_X10_gather σ0 σ) : FoV W_X10_gather σ0 (F_X10_gather_8 σ) := by
  unfold F_X10_gather_8
  exact (fo_F_X10_gather_10  FU hF)
theorem fo_F_X10_gather {σ0 : Mm} {σ : Mm} (hF : Fr W_X10_gather σ0 σ) : FoV W_X10_gather σ0 (F_X10_gather σ) := by
  unfold F_X10_gather
  exact (fV_V (Wc := W_J7_fill_53178_lk) hF rfl (fo_F_J7_fill_53178_lk Fr_r) (fun _ h1 => (fo_F_X10_gather_8  h1)))
theorem fr_X10_gather {σ : Mm} : FoV W_X10_gather σ (F_X10_gather σ) := fo_F_X10_gather Fr_r
def W_X10_lower : List (Nat × Nat × Nat) := [(0, 33, 999), (0, 34, 999)]
theorem fo_F_X10_lower_104 {σ0 : Mm} {rc71 : Int32 → Mm → Option (Mm)} (hrc71 : ∀ a0 τ, Fr W_X10_lower σ0 τ → FoV W_X10_lower σ0 (rc71 a0 τ)) {x1 : Int32} {σ : Mm} (hF : Fr W_X10_lower σ0 σ) : FoV W_X10_lower σ0 (F_X10_lower_104 rc71 x1 σ) := by
  unfold F_X10_lower_104
  exact (hrc71 _ _ hF)
theorem fo_B_X10_lower_71 {σ0 : Mm} {rc71 : Int32 → Mm → Option (Mm)} (hrc71 : ∀ a0 τ, Fr W_X10_lower σ0 τ → FoV W_X10_lower σ0 (rc71 a0 τ)) {x1 : Int32} {σ : Mm} (hF : Fr W_X10_lower σ0 σ) : FoV W_X10_lower σ0 (B_X10_lower_71 rc71 x1 σ) := by
  unfold B_X10_lower_71
  exact (fV_ite (fV_some hF) (fV_ite (fV_ite (fV_ite (fV_ite (fo_F_X10_lower_104 hrc71 (Fr.AA hF rfl)) fV_none) fV_none) fV_none) fV_none))
theorem fo_F_X10_lower_71 {σ0 : Mm} (n : Nat) : ∀ {y0 : Int32} {σ : Mm}, Fr W_X10_lower σ0 σ → FoV W_X10_lower σ0 (F_X10_lower_71  n y0 σ) := by
  induction n with
  | zero => intro y0 σ _; exact fV_none
  | succ n ih => intro y0 σ hF; exact fo_B_X10_lower_71  (fun _ _ h => ih h) hF
theorem fo_F_X10_lower_63 {σ0 : Mm} {rc42 : Int32 → Mm → Option (Mm)} (hrc42 : ∀ a0 τ, Fr W_X10_lower σ0 τ → FoV W_X10_lower σ0 (rc42 a0 τ)) {x1 : Int32} {σ : Mm} (hF : Fr W_X10_lower σ0 σ) : FoV W_X10_lower σ0 (F_X10_lower_63 rc42 x1 σ) := by
  unfold F_X10_lower_63
  exact (hrc42 _ _ hF)
theorem fo_B_X10_lower_42 {σ0 : Mm} {rc42 : Int32 → Mm → Option (Mm)} (hrc42 : ∀ a0 τ, Fr W_X10_lower σ0 τ → FoV W_X10_lower σ0 (rc42 a0 τ)) {x1 : Int32} {σ : Mm} (hF : Fr W_X10_lower σ0 σ) : FoV W_X10_lower σ0 (B_X10_lower_42 rc42 x1 σ) := by
  unfold B_X10_lower_42
  exact (fV_ite (fo_F_X10_lower_71  FU hF) (fV_ite (fV_ite (fV_ite (fo_F_X10_lower_63 hrc42 (Fr.AA hF rfl)) fV_none) fV_none) fV_none))
theorem fo_F_X10_lower_42 {σ0 : Mm} (n : Nat) : ∀ {y0 : Int32} {σ : Mm}, Fr W_X10_lower σ0 σ → FoV W_X10_lower σ0 (F_X10_lower_42  n y0 σ) := by
  induction n with
  | zero => intro y0 σ _; exact fV_none
  | succ n ih => intro y0 σ hF; exact fo_B_X10_lower_42  (fun _ _ h => ih h) hF
theorem fo_F_X10_lower_32 {σ0 : Mm} {rc10 : Int32 → Mm → Option (Mm)} (hrc10 : ∀ a0 τ, Fr W_X10_lower σ0 τ → FoV W_X10_lower σ0 (rc10 a0 τ)) {x1 : Int32} {σ : Mm} (hF : Fr W_X10_lower σ0 σ) : FoV W_X10_lower σ0 (F_X10_lower_32 rc10 x1 σ) := by
  unfold F_X10_lower_32
  exact (hrc10 _ _ hF)
theorem fo_B_X10_lower_10 {σ0 : Mm} {rc10 : Int32 → Mm → Option (Mm)} (hrc10 : ∀ a0 τ, Fr W_X10_lower σ0 τ → FoV W_X10_lower σ0 (rc10 a0 τ)) {x1 : Int32} {σ : Mm} (hF : Fr W_X10_lower σ0 σ) : FoV W_X10_lower σ0 (B_X10_lower_10 rc10 x1 σ) := by
  unfold B_X10_lower_10
  exact (fV_ite (fo_F_X10_lower_42  FU hF) (fV_ite (fV_ite (fV_ite (fo_F_X10_lower_32 hrc10 (Fr.AA hF rfl)) fV_none) fV_none) fV_none))
theorem fo_F_X10_lower_10 {σ0 : Mm} (n : Nat) : ∀ {y0 : Int32} {σ : Mm}, Fr W_X10_lower σ0 σ → FoV W_X10_lower σ0 (F_X10_lower_10  n y0 σ) := by
  induction n with
  | zero => intro y0 σ _; exact fV_none
  | succ n ih => intro y0 σ hF; exact fo_B_X10_lower_10  (fun _ _ h => ih h) hF
theorem fo_F_X10_lower_8 {σ0 : Mm} {σ : Mm} (hF : Fr W_X10_lower σ0 σ) : FoV W_X10_lower σ0 (F_X10_lower_8 σ) := by
  unfold F_X10_lower_8
  exact (fo_F_X10_lower_10  FU hF)
theorem fo_F_X10_lower {σ0 : Mm} {σ : Mm} (hF : Fr W_X10_lower σ0 σ) : FoV W_X10_lower σ0 (F_X10_lower σ) := by
  unfold F_X10_lower
  exact (fV_V (Wc := W_J7_fill_53178_ta) hF rfl (fo_F_J7_fill_53178_ta Fr_r) (fun _ h1 => (fo_F_X10_lower_8  h1)))
theorem fr_X10_lower {σ : Mm} : FoV W_X10_lower σ (F_X10_lower σ) := fo_F_X10_lower Fr_r
def W_X10_spin : List (Nat × Nat × Nat) := [(0, 29, 5), (0, 32, 999), (0, 35, 999), (0, 36, 999)]
theorem fo_F_X10_spin_77 {σ0 : Mm} {rc8 : Int32 → Int32 → Mm → Option (Mm)} (hrc8 : ∀ a0 a1 τ, Fr W_X10_spin σ0 τ → FoV W_X10_spin σ0 (rc8 a0 a1 τ)) {rc25 : Int32 → Int32 → Int32 → Mm → Option (Mm)} (hrc25 : ∀ a0 a1 a2 τ, Fr W_X10_spin σ0 τ → FoV W_X10_spin σ0 (rc25 a0 a1 a2 τ)) {x2 : Int32} {x3 : Int32} {x4 : Int32} {σ : Mm} (hF : Fr W_X10_spin σ0 σ) : FoV W_X10_spin σ0 (F_X10_spin_77 rc8 rc25 x2 x3 x4 σ) := by
  unfold F_X10_spin_77
  exact (hrc25 _ _ _ _ hF)
theorem fo_F_X10_spin_73 {σ0 : Mm} {rc8 : Int32 → Int32 → Mm → Option (Mm)} (hrc8 : ∀ a0 a1 τ, Fr W_X10_spin σ0 τ → FoV W_X10_spin σ0 (rc8 a0 a1 τ)) {rc25 : Int32 → Int32 → Int32 → Mm → Option (Mm)} (hrc25 : ∀ a0 a1 a2 τ, Fr W_X10_spin σ0 τ → FoV W_X10_spin σ0 (rc25 a0 a1 a2 τ)) {x3 : Int32} {x4 : Int32} {s0 : Int32} {s2 : Int32} {s3 : Int32} {σ : Mm} (hF : Fr W_X10_spin σ0 σ) : FoV W_X10_spin σ0 (F_X10_spin_73 rc8 rc25 x3 x4 s0 s2 s3 σ) := by
  unfold F_X10_spin_73
  exact (fV_ite (fo_F_X10_spin_77 hrc8 hrc25 hF) fV_none)
theorem fo_F_X10_spin_45 {σ0 : Mm} {rc8 : Int32 → Int32 → Mm → Option (Mm)} (hrc8 : ∀ a0 a1 τ, Fr W_X10_spin σ0 τ → FoV W_X10_spin σ0 (rc8 a0 a1 τ)) {rc25 : Int32 → Int32 → Int32 → Mm → Option (Mm)} (hrc25 : ∀ a0 a1 a2 τ, Fr W_X10_spin σ0 τ → FoV W_X10_spin σ0 (rc25 a0 a1 a2 τ)) {x2 : Int32} {x3 : Int32} {x4 : Int32} {x5 : Int32} {σ : Mm} (hF : Fr W_X10_spin σ0 σ) : FoV W_X10_spin σ0 (F_X10_spin_45 rc8 rc25 x2 x3 x4 x5 σ) := by
  unfold F_X10_spin_45
  exact (fV_ite (fV_ite (fo_F_X10_spin_73 hrc8 hrc25 hF) (fo_F_X10_spin_73 hrc8 hrc25 hF)) fV_none)
theorem fo_B_X10_spin_25 {σ0 : Mm} {rc8 : Int32 → Int32 → Mm → Option (Mm)} (hrc8 : ∀ a0 a1 τ, Fr W_X10_spin σ0 τ → FoV W_X10_spin σ0 (rc8 a0 a1 τ)) {rc25 : Int32 → Int32 → Int32 → Mm → Option (Mm)} (hrc25 : ∀ a0 a1 a2 τ, Fr W_X10_spin σ0 τ → FoV W_X10_spin σ0 (rc25 a0 a1 a2 τ)) {x2 : Int32} {x3 : Int32} {x4 : Int32} {σ : Mm} (hF : Fr W_X10_spin σ0 σ) : FoV W_X10_spin σ0 (B_X10_spin_25 rc8 rc25 x2 x3 x4 σ) := by
  unfold B_X10_spin_25
  exact (fV_ite (hrc8 _ _ _ hF) (fV_ite (fo_F_X10_spin_45 hrc8 hrc25 hF) fV_none))
theorem fo_F_X10_spin_25 {σ0 : Mm} {rc8 : Int32 → Int32 → Mm → Option (Mm)} (hrc8 : ∀ a0 a1 τ, Fr W_X10_spin σ0 τ → FoV W_X10_spin σ0 (rc8 a0 a1 τ)) (n : Nat) : ∀ {y0 : Int32} {y1 : Int32} {y2 : Int32} {σ : Mm}, Fr W_X10_spin σ0 σ → FoV W_X10_spin σ0 (F_X10_spin_25 rc8 n y0 y1 y2 σ) := by
  induction n with
  | zero => intro y0 y1 y2 σ _; exact fV_none
  | succ n ih => intro y0 y1 y2 σ hF; exact fo_B_X10_spin_25 hrc8 (fun _ _ _ _ h => ih h) hF
theorem fo_F_X10_spin_22 {σ0 : Mm} {rc8 : Int32 → Int32 → Mm → Option (Mm)} (hrc8 : ∀ a0 a1 τ, Fr W_X10_spin σ0 τ → FoV W_X10_spin σ0 (rc8 a0 a1 τ)) {x2 : Int32} {x3 : Int32} {σ : Mm} (hF : Fr W_X10_spin σ0 σ) : FoV W_X10_spin σ0 (F_X10_spin_22 rc8 x2 x3 σ) := by
  unfold F_X10_spin_22
  exact (fo_F_X10_spin_25 hrc8 FU hF)
theorem fo_B_X10_spin_8 {σ0 : Mm} {rc8 : Int32 → Int32 → Mm → Option (Mm)} (hrc8 : ∀ a0 a1 τ, Fr W_X10_spin σ0 τ → FoV W_X10_spin σ0 (rc8 a0 a1 τ)) {x2 : Int32} {x3 : Int32} {σ : Mm} (hF : Fr W_X10_spin σ0 σ) : FoV W_X10_spin σ0 (B_X10_spin_8 rc8 x2 x3 σ) := by
  unfold B_X10_spin_8
  exact (fV_ite (fV_some hF) (fV_ite (fo_F_X10_spin_22 hrc8 (Fr.AA hF rfl)) fV_none))
theorem fo_F_X10_spin_8 {σ0 : Mm} (n : Nat) : ∀ {y0 : Int32} {y1 : Int32} {σ : Mm}, Fr W_X10_spin σ0 σ → FoV W_X10_spin σ0 (F_X10_spin_8  n y0 y1 σ) := by
  induction n with
  | zero => intro y0 y1 σ _; exact fV_none
  | succ n ih => intro y0 y1 σ hF; exact fo_B_X10_spin_8  (fun _ _ _ h => ih h) hF
theorem fo_F_X10_spin_5 {σ0 : Mm} {s0 : Int32} {σ : Mm} (hF : Fr W_X10_spin σ0 σ) : FoV W_X10_spin σ0 (F_X10_spin_5 s0 σ) := by
  unfold F_X10_spin_5
  exact (fo_F_X10_spin_8  FU hF)
theorem fo_F_X10_spin {σ0 : Mm} {x1 : Int32} {σ : Mm} (hF : Fr W_X10_spin σ0 σ) : FoV W_X10_spin σ0 (F_X10_spin x1 σ) := by
  unfold F_X10_spin
  exact (fI_V (Wc := W_X10_findEdges) hF rfl (fo_F_X10_findEdges Fr_r) (fun _ _ h1 => (fo_F_X10_spin_5  h1)))
theorem fr_X10_spin {x1 : Int32} {σ : Mm} : FoV W_X10_spin σ (F_X10_spin x1 σ) := fo_F_X10_spin Fr_r
def W_X10_sum : List (Nat × Nat × Nat) := []
theorem fo_F_X10_sum_20 {σ0 : Mm} {rc4 : Int32 → Int32 → Mm → Option (Int32 × Mm)} (hrc4 : ∀ a0 a1 τ, Fr W_X10_sum σ0 τ → FoI W_X10_sum σ0 (rc4 a0 a1 τ)) {x1 : Int32} {x2 : Int32} {σ : Mm} (hF : Fr W_X10_sum σ0 σ) : FoI W_X10_sum σ0 (F_X10_sum_20 rc4 x1 x2 σ) := by
  unfold F_X10_sum_20
  exact (hrc4 _ _ _ hF)
theorem fo_B_X10_sum_4 {σ0 : Mm} {rc4 : Int32 → Int32 → Mm → Option (Int32 × Mm)} (hrc4 : ∀ a0 a1 τ, Fr W_X10_sum σ0 τ → FoI W_X10_sum σ0 (rc4 a0 a1 τ)) {x1 : Int32} {x2 : Int32} {σ : Mm} (hF : Fr W_X10_sum σ0 σ) : FoI W_X10_sum σ0 (B_X10_sum_4 rc4 x1 x2 σ) := by
  unfold B_X10_sum_4
  exact (fI_ite (fI_some hF) (fI_ite (fo_F_X10_sum_20 hrc4 hF) fI_none))
theorem fo_F_X10_sum_4 {σ0 : Mm} (n : Nat) : ∀ {y0 : Int32} {y1 : Int32} {σ : Mm}, Fr W_X10_sum σ0 σ → FoI W_X10_sum σ0 (F_X10_sum_4  n y0 y1 σ) := by
  induction n with
  | zero => intro y0 y1 σ _; exact fI_none
  | succ n ih => intro y0 y1 σ hF; exact fo_B_X10_sum_4  (fun _ _ _ h => ih h) hF
theorem fo_F_X10_sum {σ0 : Mm} {σ : Mm} (hF : Fr W_X10_sum σ0 σ) : FoI W_X10_sum σ0 (F_X10_sum σ) := by
  unfold F_X10_sum
  exact (fo_F_X10_sum_4  FU hF)
theorem fr_X10_sum {σ : Mm} : FoI W_X10_sum σ (F_X10_sum σ) := fo_F_X10_sum Fr_r
def W_X10_tellAfter : List (Nat × Nat × Nat) := [(0, 29, 5), (0, 30, 999), (0, 31, 999), (0, 32, 999), (0, 33, 999), (0, 34, 999), (0, 35, 999), (0, 36, 999)]
theorem fo_F_X10_tellAfter_52 {σ0 : Mm} {rc17 : Int32 → Mm → Option (Mm)} (hrc17 : ∀ a0 τ, Fr W_X10_tellAfter σ0 τ → FoV W_X10_tellAfter σ0 (rc17 a0 τ)) {rc31 : Int32 → Int32 → Mm → Option (Mm)} (hrc31 : ∀ a0 a1 τ, Fr W_X10_tellAfter σ0 τ → FoV W_X10_tellAfter σ0 (rc31 a0 a1 τ)) {x3 : Int32} {x4 : Int32} {σ : Mm} (hF : Fr W_X10_tellAfter σ0 σ) : FoV W_X10_tellAfter σ0 (F_X10_tellAfter_52 rc17 rc31 x3 x4 σ) := by
  unfold F_X10_tellAfter_52
  exact (hrc31 _ _ _ hF)
theorem fo_F_X10_tellAfter_48 {σ0 : Mm} {rc17 : Int32 → Mm → Option (Mm)} (hrc17 : ∀ a0 τ, Fr W_X10_tellAfter σ0 τ → FoV W_X10_tellAfter σ0 (rc17 a0 τ)) {rc31 : Int32 → Int32 → Mm → Option (Mm)} (hrc31 : ∀ a0 a1 τ, Fr W_X10_tellAfter σ0 τ → FoV W_X10_tellAfter σ0 (rc31 a0 a1 τ)) {x3 : Int32} {x4 : Int32} {σ : Mm} (hF : Fr W_X10_tellAfter σ0 σ) : FoV W_X10_tellAfter σ0 (F_X10_tellAfter_48 rc17 rc31 x3 x4 σ) := by
  unfold F_X10_tellAfter_48
  exact (fV_V (Wc := W_X10_lower) hF rfl (fo_F_X10_lower Fr_r) (fun _ h1 => (fo_F_X10_tellAfter_52 hrc17 hrc31 h1)))
theorem fo_B_X10_tellAfter_31 {σ0 : Mm} {rc17 : Int32 → Mm → Option (Mm)} (hrc17 : ∀ a0 τ, Fr W_X10_tellAfter σ0 τ → FoV W_X10_tellAfter σ0 (rc17 a0 τ)) {rc31 : Int32 → Int32 → Mm → Option (Mm)} (hrc31 : ∀ a0 a1 τ, Fr W_X10_tellAfter σ0 τ → FoV W_X10_tellAfter σ0 (rc31 a0 a1 τ)) {x3 : Int32} {x4 : Int32} {σ : Mm} (hF : Fr W_X10_tellAfter σ0 σ) : FoV W_X10_tellAfter σ0 (B_X10_tellAfter_31 rc17 rc31 x3 x4 σ) := by
  unfold B_X10_tellAfter_31
  exact (fV_ite (hrc17 _ _ hF) (fV_V (Wc := W_X10_spin) hF rfl (fo_F_X10_spin Fr_r) (fun _ h1 => (fo_F_X10_tellAfter_48 hrc17 hrc31 h1))))
theorem fo_F_X10_tellAfter_31 {σ0 : Mm} {rc17 : Int32 → Mm → Option (Mm)} (hrc17 : ∀ a0 τ, Fr W_X10_tellAfter σ0 τ → FoV W_X10_tellAfter σ0 (rc17 a0 τ)) (n : Nat) : ∀ {y0 : Int32} {y1 : Int32} {σ : Mm}, Fr W_X10_tellAfter σ0 σ → FoV W_X10_tellAfter σ0 (F_X10_tellAfter_31 rc17 n y0 y1 σ) := by
  induction n with
  | zero => intro y0 y1 σ _; exact fV_none
  | succ n ih => intro y0 y1 σ hF; exact fo_B_X10_tellAfter_31 hrc17 (fun _ _ _ h => ih h) hF
theorem fo_F_X10_tellAfter_28 {σ0 : Mm} {rc17 : Int32 → Mm → Option (Mm)} (hrc17 : ∀ a0 τ, Fr W_X10_tellAfter σ0 τ → FoV W_X10_tellAfter σ0 (rc17 a0 τ)) {x3 : Int32} {σ : Mm} (hF : Fr W_X10_tellAfter σ0 σ) : FoV W_X10_tellAfter σ0 (F_X10_tellAfter_28 rc17 x3 σ) := by
  unfold F_X10_tellAfter_28
  exact (fo_F_X10_tellAfter_31 hrc17 FU hF)
theorem fo_B_X10_tellAfter_17 {σ0 : Mm} {rc17 : Int32 → Mm → Option (Mm)} (hrc17 : ∀ a0 τ, Fr W_X10_tellAfter σ0 τ → FoV W_X10_tellAfter σ0 (rc17 a0 τ)) {x3 : Int32} {σ : Mm} (hF : Fr W_X10_tellAfter σ0 σ) : FoV W_X10_tellAfter σ0 (B_X10_tellAfter_17 rc17 x3 σ) := by
  unfold B_X10_tellAfter_17
  exact (fV_ite (fV_some hF) (fV_V (Wc := W_X10_cover) hF rfl (fo_F_X10_cover Fr_r) (fun _ h1 => (fo_F_X10_tellAfter_28 hrc17 h1))))
theorem fo_F_X10_tellAfter_17 {σ0 : Mm} (n : Nat) : ∀ {y0 : Int32} {σ : Mm}, Fr W_X10_tellAfter σ0 σ → FoV W_X10_tellAfter σ0 (F_X10_tellAfter_17  n y0 σ) := by
  induction n with
  | zero => intro y0 σ _; exact fV_none
  | succ n ih => intro y0 σ hF; exact fo_B_X10_tellAfter_17  (fun _ _ h => ih h) hF
theorem fo_F_X10_tellAfter_15 {σ0 : Mm} {σ : Mm} (hF : Fr W_X10_tellAfter σ0 σ) : FoV W_X10_tellAfter σ0 (F_X10_tellAfter_15 σ) := by
  unfold F_X10_tellAfter_15
  exact (fo_F_X10_tellAfter_17  FU hF)
theorem fo_F_X10_tellAfter_10 {σ0 : Mm} {σ : Mm} (hF : Fr W_X10_tellAfter σ0 σ) : FoV W_X10_tellAfter σ0 (F_X10_tellAfter_10 σ) := by
  unfold F_X10_tellAfter_10
  exact (fV_V (Wc := W_X10_gather) hF rfl (fo_F_X10_gather Fr_r) (fun _ h1 => (fo_F_X10_tellAfter_15  h1)))
theorem fo_F_X10_tellAfter {σ0 : Mm} {σ : Mm} (hF : Fr W_X10_tellAfter σ0 σ) : FoV W_X10_tellAfter σ0 (F_X10_tellAfter σ) := by
  unfold F_X10_tellAfter
  exact (fV_V (Wc := W_J7_fill_53178_le) hF rfl (fo_F_J7_fill_53178_le Fr_r) (fun _ h1 => (fo_F_X10_tellAfter_10  h1)))
theorem fr_X10_tellAfter {σ : Mm} : FoV W_X10_tellAfter σ (F_X10_tellAfter σ) := fo_F_X10_tellAfter Fr_r
def W_X7_copy : List (Nat × Nat × Nat) := [(2, 0, 0), (2, 0, 1), (2, 1, 999), (2, 2, 999), (2, 3, 999), (2, 4, 999), (2, 5, 999)]
theorem fo_F_X7_copy_81 {σ0 : Mm} {i0 : Nat} {i1 : Nat} {σ : Mm} (hF : Fr W_X7_copy σ0 σ) : FoV W_X7_copy σ0 (F_X7_copy_81 i0 i1 σ) := by
  unfold F_X7_copy_81
  exact (fV_some (Fr.AA hF rfl))
theorem fo_F_X7_copy_66 {σ0 : Mm} {i0 : Nat} {i1 : Nat} {σ : Mm} (hF : Fr W_X7_copy σ0 σ) : FoV W_X7_copy σ0 (F_X7_copy_66 i0 i1 σ) := by
  unfold F_X7_copy_66
  exact (fo_F_X7_copy_81  (Fr.AA hF rfl))
theorem fo_F_X7_copy_51 {σ0 : Mm} {i0 : Nat} {i1 : Nat} {σ : Mm} (hF : Fr W_X7_copy σ0 σ) : FoV W_X7_copy σ0 (F_X7_copy_51 i0 i1 σ) := by
  unfold F_X7_copy_51
  exact (fo_F_X7_copy_66  (Fr.AA hF rfl))
theorem fo_F_X7_copy_36 {σ0 : Mm} {i0 : Nat} {i1 : Nat} {σ : Mm} (hF : Fr W_X7_copy σ0 σ) : FoV W_X7_copy σ0 (F_X7_copy_36 i0 i1 σ) := by
  unfold F_X7_copy_36
  exact (fo_F_X7_copy_51  (Fr.AA hF rfl))
theorem fo_F_X7_copy_21 {σ0 : Mm} {i0 : Nat} {i1 : Nat} {σ : Mm} (hF : Fr W_X7_copy σ0 σ) : FoV W_X7_copy σ0 (F_X7_copy_21 i0 i1 σ) := by
  unfold F_X7_copy_21
  exact (fo_F_X7_copy_36  (Fr.AA hF rfl))
theorem fo_F_X7_copy_13 {σ0 : Mm} {i0 : Nat} {i1 : Nat} {σ : Mm} (hF : Fr W_X7_copy σ0 σ) : FoV W_X7_copy σ0 (F_X7_copy_13 i0 i1 σ) := by
  unfold F_X7_copy_13
  exact (fo_F_X7_copy_21  (Fr.A hF rfl))
theorem fo_F_X7_copy {σ0 : Mm} {i0 : Nat} {i1 : Nat} {σ : Mm} (hF : Fr W_X7_copy σ0 σ) : FoV W_X7_copy σ0 (F_X7_copy i0 i1 σ) := by
  unfold F_X7_copy
  exact (fo_F_X7_copy_13  (Fr.A hF rfl))
theorem fr_X7_copy {i0 : Nat} {i1 : Nat} {σ : Mm} : FoV W_X7_copy σ (F_X7_copy i0 i1 σ) := fo_F_X7_copy Fr_r
def W_X9_copy : List (Nat × Nat × Nat) := [(1, 0, 0), (1, 0, 1), (1, 0, 6), (1, 0, 8), (1, 0, 12), (1, 0, 14), (1, 1, 999), (1, 2, 999), (1, 3, 999), (1, 4, 999), (1, 5, 999), (1, 6, 999), (1, 7, 999), (1, 8, 999), (1, 9, 999), (1, 10, 0), (1, 11, 999), (1, 12, 999), (1, 13, 999), (1, 14, 999)]
theorem fo_F_X9_copy_187 {σ0 : Mm} {i0 : Nat} {i1 : Nat} {σ : Mm} (hF : Fr W_X9_copy σ0 σ) : FoV W_X9_copy σ0 (F_X9_copy_187 i0 i1 σ) := by
  unfold F_X9_copy_187
  exact (fV_V (Wc := W_X0_copy) hF rfl (fo_F_X0_copy Fr_r) (fun _ h1 => (fV_some h1)))
theorem fo_F_X9_copy_173 {σ0 : Mm} {i0 : Nat} {i1 : Nat} {σ : Mm} (hF : Fr W_X9_copy σ0 σ) : FoV W_X9_copy σ0 (F_X9_copy_173 i0 i1 σ) := by
  unfold F_X9_copy_173
  exact (fo_F_X9_copy_187  (Fr.AA hF rfl))
theorem fo_F_X9_copy_158 {σ0 : Mm} {i0 : Nat} {i1 : Nat} {σ : Mm} (hF : Fr W_X9_copy σ0 σ) : FoV W_X9_copy σ0 (F_X9_copy_158 i0 i1 σ) := by
  unfold F_X9_copy_158
  exact (fo_F_X9_copy_173  (Fr.AA hF rfl))
theorem fo_F_X9_copy_143 {σ0 : Mm} {i0 : Nat} {i1 : Nat} {σ : Mm} (hF : Fr W_X9_copy σ0 σ) : FoV W_X9_copy σ0 (F_X9_copy_143 i0 i1 σ) := by
  unfold F_X9_copy_143
  exact (fo_F_X9_copy_158  (Fr.AA hF rfl))
theorem fo_F_X9_copy_128 {σ0 : Mm} {i0 : Nat} {i1 : Nat} {σ : Mm} (hF : Fr W_X9_copy σ0 σ) : FoV W_X9_copy σ0 (F_X9_copy_128 i0 i1 σ) := by
  unfold F_X9_copy_128
  exact (fo_F_X9_copy_143  (Fr.AA hF rfl))
theorem fo_F_X9_copy_113 {σ0 : Mm} {i0 : Nat} {i1 : Nat} {σ : Mm} (hF : Fr W_X9_copy σ0 σ) : FoV W_X9_copy σ0 (F_X9_copy_113 i0 i1 σ) := by
  unfold F_X9_copy_113
  exact (fo_F_X9_copy_128  (Fr.AA hF rfl))
theorem fo_F_X9_copy_98 {σ0 : Mm} {i0 : Nat} {i1 : Nat} {σ : Mm} (hF : Fr W_X9_copy σ0 σ) : FoV W_X9_copy σ0 (F_X9_copy_98 i0 i1 σ) := by
  unfold F_X9_copy_98
  exact (fo_F_X9_copy_113  (Fr.AA hF rfl))
theorem fo_F_X9_copy_83 {σ0 : Mm} {i0 : Nat} {i1 : Nat} {σ : Mm} (hF : Fr W_X9_copy σ0 σ) : FoV W_X9_copy σ0 (F_X9_copy_83 i0 i1 σ) := by
  unfold F_X9_copy_83
  exact (fo_F_X9_copy_98  (Fr.AA hF rfl))
theorem fo_F_X9_copy_68 {σ0 : Mm} {i0 : Nat} {i1 : Nat} {σ : Mm} (hF : Fr W_X9_copy σ0 σ) : FoV W_X9_copy σ0 (F_X9_copy_68 i0 i1 σ) := by
  unfold F_X9_copy_68
  exact (fo_F_X9_copy_83  (Fr.AA hF rfl))
theorem fo_F_X9_copy_53 {σ0 : Mm} {i0 : Nat} {i1 : Nat} {σ : Mm} (hF : Fr W_X9_copy σ0 σ) : FoV W_X9_copy σ0 (F_X9_copy_53 i0 i1 σ) := by
  unfold F_X9_copy_53
  exact (fo_F_X9_copy_68  (Fr.AA hF rfl))
theorem fo_F_X9_copy_45 {σ0 : Mm} {i0 : Nat} {i1 : Nat} {σ : Mm} (hF : Fr W_X9_copy σ0 σ) : FoV W_X9_copy σ0 (F_X9_copy_45 i0 i1 σ) := by
  unfold F_X9_copy_45
  exact (fo_F_X9_copy_53  (Fr.A hF rfl))
theorem fo_F_X9_copy_37 {σ0 : Mm} {i0 : Nat} {i1 : Nat} {σ : Mm} (hF : Fr W_X9_copy σ0 σ) : FoV W_X9_copy σ0 (F_X9_copy_37 i0 i1 σ) := by
  unfold F_X9_copy_37
  exact (fo_F_X9_copy_45  (Fr.A hF rfl))
theorem fo_F_X9_copy_29 {σ0 : Mm} {i0 : Nat} {i1 : Nat} {σ : Mm} (hF : Fr W_X9_copy σ0 σ) : FoV W_X9_copy σ0 (F_X9_copy_29 i0 i1 σ) := by
  unfold F_X9_copy_29
  exact (fo_F_X9_copy_37  (Fr.A hF rfl))
theorem fo_F_X9_copy_21 {σ0 : Mm} {i0 : Nat} {i1 : Nat} {σ : Mm} (hF : Fr W_X9_copy σ0 σ) : FoV W_X9_copy σ0 (F_X9_copy_21 i0 i1 σ) := by
  unfold F_X9_copy_21
  exact (fo_F_X9_copy_29  (Fr.A hF rfl))
theorem fo_F_X9_copy_13 {σ0 : Mm} {i0 : Nat} {i1 : Nat} {σ : Mm} (hF : Fr W_X9_copy σ0 σ) : FoV W_X9_copy σ0 (F_X9_copy_13 i0 i1 σ) := by
  unfold F_X9_copy_13
  exact (fo_F_X9_copy_21  (Fr.A hF rfl))
theorem fo_F_X9_copy {σ0 : Mm} {i0 : Nat} {i1 : Nat} {σ : Mm} (hF : Fr W_X9_copy σ0 σ) : FoV W_X9_copy σ0 (F_X9_copy i0 i1 σ) := by
  unfold F_X9_copy
  exact (fo_F_X9_copy_13  (Fr.A hF rfl))
theorem fr_X9_copy {i0 : Nat} {i1 : Nat} {σ : Mm} : FoV W_X9_copy σ (F_X9_copy i0 i1 σ) := fo_F_X9_copy Fr_r
def W_X11_again : List (Nat × Nat × Nat) := [(1, 0, 0), (1, 0, 1), (1, 0, 6), (1, 0, 8), (1, 0, 12), (1, 0, 14), (1, 1, 999), (1, 2, 999), (1, 3, 999), (1, 4, 999), (1, 5, 999), (1, 6, 999), (1, 7, 999), (1, 8, 999), (1, 9, 999), (1, 10, 0), (1, 11, 999), (1, 12, 999), (1, 13, 999), (1, 14, 999), (2, 0, 0), (2, 0, 1), (2, 1, 999), (2, 2, 999), (2, 3, 999), (2, 4, 999), (2, 5, 999)]
theorem fo_F_X11_again_55 {σ0 : Mm} {H : Nat → Bool} {σ : Mm} (hF : Fr W_X11_again σ0 σ) : FoI W_X11_again σ0 (F_X11_again_55 H σ) := by
  unfold F_X11_again_55
  exact (fI_some hF)
theorem fo_F_X11_again_42 {σ0 : Mm} {H : Nat → Bool} {x1 : Int32} {σ : Mm} (hF : Fr W_X11_again σ0 σ) : FoI W_X11_again σ0 (F_X11_again_42 H x1 σ) := by
  unfold F_X11_again_42
  exact (fI_ite (fI_ite (fV_I (Wc := W_X7_copy) hF rfl (fo_F_X7_copy Fr_r) (fun _ h1 => (fo_F_X11_again_55  h1))) fI_none) fI_none)
theorem fo_F_X11_again {σ0 : Mm} {H : Nat → Bool} {x1 : Int32} {σ : Mm} (hF : Fr W_X11_again σ0 σ) : FoI W_X11_again σ0 (F_X11_again H x1 σ) := by
  unfold F_X11_again
  exact (fI_ite (fI_some hF) (fI_ite (fI_some hF) (fI_ite (fI_ite (fI_ite (fI_ite (fI_ite (fI_ite (fI_ite (fV_I (Wc := W_X9_copy) hF rfl (fo_F_X9_copy Fr_r) (fun _ h1 => (fo_F_X11_again_42  h1))) fI_none) fI_none) fI_none) (fI_some hF)) fI_none) (fI_some hF)) fI_none)))
theorem fr_X11_again {H : Nat → Bool} {x1 : Int32} {σ : Mm} : FoI W_X11_again σ (F_X11_again H x1 σ) := fo_F_X11_again Fr_r
def W_X1_bearing : List (Nat × Nat × Nat) := []
theorem fo_F_X1_bearing_61 {σ0 : Mm} {x0 : Int32} {x1 : Int32} {x2 : Int32} {x3 : Int32} {x5 : Int32} {σ : Mm} (hF : Fr W_X1_bearing σ0 σ) : FoI W_X1_bearing σ0 (F_X1_bearing_61 x0 x1 x2 x3 x5 σ) := by
  unfold F_X1_bearing_61
  exact (fI_ite (fI_ite (fI_ite (fI_some hF) (fI_some hF)) (fI_ite (fI_some hF) (fI_some hF))) (fI_ite (fI_some hF) (fI_some hF)))
theorem fo_F_X1_bearing_37 {σ0 : Mm} {x0 : Int32} {x1 : Int32} {x2 : Int32} {x3 : Int32} {x5 : Int32} {σ : Mm} (hF : Fr W_X1_bearing σ0 σ) : FoI W_X1_bearing σ0 (F_X1_bearing_37 x0 x1 x2 x3 x5 σ) := by
  unfold F_X1_bearing_37
  exact (fI_ite (fo_F_X1_bearing_61  hF) (fI_ite (fo_F_X1_bearing_61  hF) (fI_ite (fI_some hF) (fI_some hF))))
theorem fo_F_X1_bearing_17 {σ0 : Mm} {x0 : Int32} {x1 : Int32} {x2 : Int32} {x3 : Int32} {x4 : Int32} {σ : Mm} (hF : Fr W_X1_bearing σ0 σ) : FoI W_X1_bearing σ0 (F_X1_bearing_17 x0 x1 x2 x3 x4 σ) := by
  unfold F_X1_bearing_17
  exact (fI_ite (fI_some hF) (fI_ite (fo_F_X1_bearing_37  hF) fI_none))
theorem fo_F_X1_bearing {σ0 : Mm} {x0 : Int32} {x1 : Int32} {σ : Mm} (hF : Fr W_X1_bearing σ0 σ) : FoI W_X1_bearing σ0 (F_X1_bearing x0 x1 σ) := by
  unfold F_X1_bearing
  exact (fo_F_X1_bearing_17  hF)
theorem fr_X1_bearing {x0 : Int32} {x1 : Int32} {σ : Mm} : FoI W_X1_bearing σ (F_X1_bearing x0 x1 σ) := fo_F_X1_bearing Fr_r
def W_X2_bearingOf : List (Nat × Nat × Nat) := []
theorem fo_F_X2_bearingOf_39 {σ0 : Mm} {s0 : Int32} {σ : Mm} (hF : Fr W_X2_bearingOf σ0 σ) : FoI W_X2_bearingOf σ0 (F_X2_bearingOf_39 s0 σ) := by
  unfold F_X2_bearingOf_39
  exact (fI_some hF)
theorem fo_F_X2_bearingOf_10 {σ0 : Mm} {x2 : Int32} {x3 : Int32} {σ : Mm} (hF : Fr W_X2_bearingOf σ0 σ) : FoI W_X2_bearingOf σ0 (F_X2_bearingOf_10 x2 x3 σ) := by
  unfold F_X2_bearingOf_10
  exact (fI_ite (fI_ite (fI_ite (fI_ite (fI_I (Wc := W_X1_bearing) hF rfl (fo_F_X1_bearing Fr_r) (fun _ _ h1 => (fo_F_X2_bearingOf_39  h1))) fI_none) fI_none) fI_none) fI_none)
theorem fo_F_X2_bearingOf {σ0 : Mm} {x1 : Int32} {σ : Mm} (hF : Fr W_X2_bearingOf σ0 σ) : FoI W_X2_bearingOf σ0 (F_X2_bearingOf x1 σ) := by
  unfold F_X2_bearingOf
  exact (fo_F_X2_bearingOf_10  hF)
theorem fr_X2_bearingOf {x1 : Int32} {σ : Mm} : FoI W_X2_bearingOf σ (F_X2_bearingOf x1 σ) := fo_F_X2_bearingOf Fr_r
def W_X2_describe : List (Nat × Nat × Nat) := [(0, 22, 999)]
theorem fo_F_X2_describe_190 {σ0 : Mm} {s0 : Int32} {s1 : Int32} {σ : Mm} (hF : Fr W_X2_describe σ0 σ) : FoV W_X2_describe σ0 (F_X2_describe_190 s0 s1 σ) := by
  unfold F_X2_describe_190
  exact (fV_ite (fV_some (Fr.AA hF rfl)) fV_none)
theorem fo_F_X2_describe_177 {σ0 : Mm} {x5 : Int32} {x6 : Int32} {σ : Mm} (hF : Fr W_X2_describe σ0 σ) : FoV W_X2_describe σ0 (F_X2_describe_177 x5 x6 σ) := by
  unfold F_X2_describe_177
  exact (fI_V (Wc := W_X1_bearing) hF rfl (fo_F_X1_bearing Fr_r) (fun _ _ h1 => (fo_F_X2_describe_190  h1)))
theorem fo_F_X2_describe_154 {σ0 : Mm} {x3 : Int32} {x4 : Int32} {x5 : Int32} {x6 : Int32} {σ : Mm} (hF : Fr W_X2_describe σ0 σ) : FoV W_X2_describe σ0 (F_X2_describe_154 x3 x4 x5 x6 σ) := by
  unfold F_X2_describe_154
  exact (fV_ite (fV_ite (fV_ite (fo_F_X2_describe_177  (Fr.AA hF rfl)) fV_none) fV_none) fV_none)
theorem fo_F_X2_describe_136 {σ0 : Mm} {i0 : Nat} {x3 : Int32} {x4 : Int32} {x5 : Int32} {x6 : Int32} {σ : Mm} (hF : Fr W_X2_describe σ0 σ) : FoV W_X2_describe σ0 (F_X2_describe_136 i0 x3 x4 x5 x6 σ) := by
  unfold F_X2_describe_136
  exact (fV_ite (fV_ite (fo_F_X2_describe_154  (Fr.AA hF rfl)) fV_none) fV_none)
theorem fo_F_X2_describe_119 {σ0 : Mm} {i0 : Nat} {x3 : Int32} {x4 : Int32} {x5 : Int32} {x6 : Int32} {σ : Mm} (hF : Fr W_X2_describe σ0 σ) : FoV W_X2_describe σ0 (F_X2_describe_119 i0 x3 x4 x5 x6 σ) := by
  unfold F_X2_describe_119
  exact (fV_ite (fV_ite (fo_F_X2_describe_136  (Fr.AA hF rfl)) fV_none) fV_none)
theorem fo_F_X2_describe_99 {σ0 : Mm} {i0 : Nat} {x3 : Int32} {x4 : Int32} {x5 : Int32} {x6 : Int32} {σ : Mm} (hF : Fr W_X2_describe σ0 σ) : FoV W_X2_describe σ0 (F_X2_describe_99 i0 x3 x4 x5 x6 σ) := by
  unfold F_X2_describe_99
  exact (fV_ite (fV_ite (fV_ite (fo_F_X2_describe_119  (Fr.AA hF rfl)) fV_none) fV_none) fV_none)
theorem fo_F_X2_describe_80 {σ0 : Mm} {i0 : Nat} {x3 : Int32} {x4 : Int32} {x5 : Int32} {x6 : Int32} {σ : Mm} (hF : Fr W_X2_describe σ0 σ) : FoV W_X2_describe σ0 (F_X2_describe_80 i0 x3 x4 x5 x6 σ) := by
  unfold F_X2_describe_80
  exact (fV_ite (fo_F_X2_describe_99  (Fr.AA hF rfl)) fV_none)
theorem fo_F_X2_describe_57 {σ0 : Mm} {i0 : Nat} {x3 : Int32} {x4 : Int32} {x5 : Int32} {x6 : Int32} {σ : Mm} (hF : Fr W_X2_describe σ0 σ) : FoV W_X2_describe σ0 (F_X2_describe_57 i0 x3 x4 x5 x6 σ) := by
  unfold F_X2_describe_57
  exact (fV_ite (fV_ite (fV_ite (fo_F_X2_describe_80  (Fr.AA hF rfl)) fV_none) fV_none) fV_none)
theorem fo_F_X2_describe_50 {σ0 : Mm} {i0 : Nat} {x3 : Int32} {x4 : Int32} {x5 : Int32} {x6 : Int32} {σ : Mm} (hF : Fr W_X2_describe σ0 σ) : FoV W_X2_describe σ0 (F_X2_describe_50 i0 x3 x4 x5 x6 σ) := by
  unfold F_X2_describe_50
  exact (fV_ite (fo_F_X2_describe_57  (Fr.AA hF rfl)) fV_none)
theorem fo_F_X2_describe_43 {σ0 : Mm} {i0 : Nat} {x3 : Int32} {x4 : Int32} {x5 : Int32} {x6 : Int32} {σ : Mm} (hF : Fr W_X2_describe σ0 σ) : FoV W_X2_describe σ0 (F_X2_describe_43 i0 x3 x4 x5 x6 σ) := by
  unfold F_X2_describe_43
  exact (fV_ite (fo_F_X2_describe_50  (Fr.AA hF rfl)) fV_none)
theorem fo_F_X2_describe_27 {σ0 : Mm} {i0 : Nat} {x3 : Int32} {x4 : Int32} {x5 : Int32} {σ : Mm} (hF : Fr W_X2_describe σ0 σ) : FoV W_X2_describe σ0 (F_X2_describe_27 i0 x3 x4 x5 σ) := by
  unfold F_X2_describe_27
  exact (fV_ite (fV_ite (fo_F_X2_describe_43  hF) fV_none) fV_none)
theorem fo_F_X2_describe_11 {σ0 : Mm} {i0 : Nat} {x3 : Int32} {x4 : Int32} {σ : Mm} (hF : Fr W_X2_describe σ0 σ) : FoV W_X2_describe σ0 (F_X2_describe_11 i0 x3 x4 σ) := by
  unfold F_X2_describe_11
  exact (fV_ite (fV_ite (fo_F_X2_describe_27  hF) fV_none) fV_none)
theorem fo_F_X2_describe {σ0 : Mm} {i0 : Nat} {x2 : Int32} {σ : Mm} (hF : Fr W_X2_describe σ0 σ) : FoV W_X2_describe σ0 (F_X2_describe i0 x2 σ) := by
  unfold F_X2_describe
  exact (fo_F_X2_describe_11  hF)
theorem fr_X2_describe {i0 : Nat} {x2 : Int32} {σ : Mm} : FoV W_X2_describe σ (F_X2_describe i0 x2 σ) := fo_F_X2_describe Fr_r
def W_X2_holds : List (Nat × Nat × Nat) := [(0, 22, 999), (1, 10, 6), (1, 15, 999)]
theorem fo_F_X2_holds_63 {σ0 : Mm} {rc23 : Nat → Int32 → Int32 → Mm → Option (Int32 × Mm)} (hrc23 : ∀ a0 a1 a2 τ, Fr W_X2_holds σ0 τ → FoI W_X2_holds σ0 (rc23 a0 a1 a2 τ)) {i0 : Nat} {x3 : Int32} {x4 : Int32} {σ : Mm} (hF : Fr W_X2_holds σ0 σ) : FoI W_X2_holds σ0 (F_X2_holds_63 rc23 i0 x3 x4 σ) := by
  unfold F_X2_holds_63
  exact (hrc23 _ _ _ _ hF)
theorem fo_F_X2_holds_58 {σ0 : Mm} {rc23 : Nat → Int32 → Int32 → Mm → Option (Int32 × Mm)} (hrc23 : ∀ a0 a1 a2 τ, Fr W_X2_holds σ0 τ → FoI W_X2_holds σ0 (rc23 a0 a1 a2 τ)) {i0 : Nat} {x3 : Int32} {x4 : Int32} {s0 : Int32} {σ : Mm} (hF : Fr W_X2_holds σ0 σ) : FoI W_X2_holds σ0 (F_X2_holds_58 rc23 i0 x3 x4 s0 σ) := by
  unfold F_X2_holds_58
  exact (fI_ite (fo_F_X2_holds_63 hrc23 hF) (fI_some hF))
theorem fo_F_X2_holds_43 {σ0 : Mm} {rc23 : Nat → Int32 → Int32 → Mm → Option (Int32 × Mm)} (hrc23 : ∀ a0 a1 a2 τ, Fr W_X2_holds σ0 τ → FoI W_X2_holds σ0 (rc23 a0 a1 a2 τ)) {i0 : Nat} {x3 : Int32} {x4 : Int32} {σ : Mm} (hF : Fr W_X2_holds σ0 σ) : FoI W_X2_holds σ0 (F_X2_holds_43 rc23 i0 x3 x4 σ) := by
  unfold F_X2_holds_43
  exact (fI_I (Wc := W_X0_work_g) hF rfl (fo_F_X0_work_g Fr_r) (fun _ _ h1 => (fo_F_X2_holds_58 hrc23 h1)))
theorem fo_B_X2_holds_23 {σ0 : Mm} {rc23 : Nat → Int32 → Int32 → Mm → Option (Int32 × Mm)} (hrc23 : ∀ a0 a1 a2 τ, Fr W_X2_holds σ0 τ → FoI W_X2_holds σ0 (rc23 a0 a1 a2 τ)) {i0 : Nat} {x3 : Int32} {x4 : Int32} {σ : Mm} (hF : Fr W_X2_holds σ0 σ) : FoI W_X2_holds σ0 (B_X2_holds_23 rc23 i0 x3 x4 σ) := by
  unfold B_X2_holds_23
  exact (fI_ite (fI_some hF) (fI_ite (fo_F_X2_holds_43 hrc23 hF) (fI_ite (fo_F_X2_holds_43 hrc23 hF) (fo_F_X2_holds_63 hrc23 hF))))
theorem fo_F_X2_holds_23 {σ0 : Mm} (n : Nat) : ∀ {y0 : Nat} {y1 : Int32} {y2 : Int32} {σ : Mm}, Fr W_X2_holds σ0 σ → FoI W_X2_holds σ0 (F_X2_holds_23  n y0 y1 y2 σ) := by
  induction n with
  | zero => intro y0 y1 y2 σ _; exact fI_none
  | succ n ih => intro y0 y1 y2 σ hF; exact fo_B_X2_holds_23  (fun _ _ _ _ h => ih h) hF
theorem fo_F_X2_holds_20 {σ0 : Mm} {i0 : Nat} {x3 : Int32} {σ : Mm} (hF : Fr W_X2_holds σ0 σ) : FoI W_X2_holds σ0 (F_X2_holds_20 i0 x3 σ) := by
  unfold F_X2_holds_20
  exact (fo_F_X2_holds_23  FU hF)
theorem fo_F_X2_holds_14 {σ0 : Mm} {i0 : Nat} {x2 : Int32} {x3 : Int32} {σ : Mm} (hF : Fr W_X2_holds σ0 σ) : FoI W_X2_holds σ0 (F_X2_holds_14 i0 x2 x3 σ) := by
  unfold F_X2_holds_14
  exact (fV_I (Wc := W_X2_describe) hF rfl (fo_F_X2_describe Fr_r) (fun _ h1 => (fo_F_X2_holds_20  h1)))
theorem fo_F_X2_holds {σ0 : Mm} {i0 : Nat} {x2 : Int32} {x3 : Int32} {σ : Mm} (hF : Fr W_X2_holds σ0 σ) : FoI W_X2_holds σ0 (F_X2_holds i0 x2 x3 σ) := by
  unfold F_X2_holds
  exact (fI_ite (fI_ite (fI_some hF) (fo_F_X2_holds_14  hF)) (fo_F_X2_holds_14  hF))
theorem fr_X2_holds {i0 : Nat} {x2 : Int32} {x3 : Int32} {σ : Mm} : FoI W_X2_holds σ (F_X2_holds i0 x2 x3 σ) := fo_F_X2_holds Fr_r
def W_X2_joins : List (Nat × Nat × Nat) := []
theorem fo_F_X2_joins_89 {σ0 : Mm} {σ : Mm} (hF : Fr W_X2_joins σ0 σ) : FoI W_X2_joins σ0 (F_X2_joins_89 σ) := by
  unfold F_X2_joins_89
  exact (fI_some hF)
theorem fo_F_X2_joins_23 {σ0 : Mm} {x2 : Int32} {x3 : Int32} {σ : Mm} (hF : Fr W_X2_joins σ0 σ) : FoI W_X2_joins σ0 (F_X2_joins_23 x2 x3 σ) := by
  unfold F_X2_joins_23
  exact (fI_ite (fI_some hF) (fI_ite (fI_some hF) (fI_ite (fI_ite (fI_ite (fI_ite (fI_ite (fI_ite (fI_ite (fI_ite (fI_ite (fI_ite (fI_some hF) (fo_F_X2_joins_89  hF)) fI_none) fI_none) (fo_F_X2_joins_89  hF)) fI_none) fI_none) (fI_some hF)) fI_none) (fI_some hF)) fI_none)))
theorem fo_F_X2_joins {σ0 : Mm} {x1 : Int32} {σ : Mm} (hF : Fr W_X2_joins σ0 σ) : FoI W_X2_joins σ0 (F_X2_joins x1 σ) := by
  unfold F_X2_joins
  exact (fI_ite (fI_some hF) (fI_ite (fo_F_X2_joins_23  hF) (fI_some hF)))
theorem fr_X2_joins {x1 : Int32} {σ : Mm} : FoI W_X2_joins σ (F_X2_joins x1 σ) := fo_F_X2_joins Fr_r
def W_X2_choose : List (Nat × Nat × Nat) := [(0, 15, 8), (0, 22, 999), (0, 23, 999), (0, 24, 999), (1, 10, 6), (1, 15, 999)]
theorem fo_F_X2_choose_76 {σ0 : Mm} {rc7 : Nat → Int32 → Int32 → Mm → Option (Mm)} (hrc7 : ∀ a0 a1 a2 τ, Fr W_X2_choose σ0 τ → FoV W_X2_choose σ0 (rc7 a0 a1 a2 τ)) {i0 : Nat} {x2 : Int32} {x3 : Int32} {σ : Mm} (hF : Fr W_X2_choose σ0 σ) : FoV W_X2_choose σ0 (F_X2_choose_76 rc7 i0 x2 x3 σ) := by
  unfold F_X2_choose_76
  exact (hrc7 _ _ _ _ hF)
theorem fo_F_X2_choose_66 {σ0 : Mm} {rc7 : Nat → Int32 → Int32 → Mm → Option (Mm)} (hrc7 : ∀ a0 a1 a2 τ, Fr W_X2_choose σ0 τ → FoV W_X2_choose σ0 (rc7 a0 a1 a2 τ)) {i0 : Nat} {x2 : Int32} {x3 : Int32} {σ : Mm} (hF : Fr W_X2_choose σ0 σ) : FoV W_X2_choose σ0 (F_X2_choose_66 rc7 i0 x2 x3 σ) := by
  unfold F_X2_choose_66
  exact (fo_F_X2_choose_76 hrc7 (Fr.A hF rfl))
theorem fo_F_X2_choose_65 {σ0 : Mm} {rc7 : Nat → Int32 → Int32 → Mm → Option (Mm)} (hrc7 : ∀ a0 a1 a2 τ, Fr W_X2_choose σ0 τ → FoV W_X2_choose σ0 (rc7 a0 a1 a2 τ)) {i0 : Nat} {x2 : Int32} {x3 : Int32} {s0 : Int32} {s1 : Int32} {σ : Mm} (hF : Fr W_X2_choose σ0 σ) : FoV W_X2_choose σ0 (F_X2_choose_65 rc7 i0 x2 x3 s0 s1 σ) := by
  unfold F_X2_choose_65
  exact (fV_ite (fo_F_X2_choose_66 hrc7 (Fr.AA hF rfl)) fV_none)
theorem fo_F_X2_choose_52 {σ0 : Mm} {rc7 : Nat → Int32 → Int32 → Mm → Option (Mm)} (hrc7 : ∀ a0 a1 a2 τ, Fr W_X2_choose σ0 τ → FoV W_X2_choose σ0 (rc7 a0 a1 a2 τ)) {i0 : Nat} {x2 : Int32} {x3 : Int32} {σ : Mm} (hF : Fr W_X2_choose σ0 σ) : FoV W_X2_choose σ0 (F_X2_choose_52 rc7 i0 x2 x3 σ) := by
  unfold F_X2_choose_52
  exact (fI_V (Wc := W_X2_bearingOf) hF rfl (fo_F_X2_bearingOf Fr_r) (fun _ _ h1 => (fo_F_X2_choose_65 hrc7 h1)))
theorem fo_F_X2_choose_39 {σ0 : Mm} {rc7 : Nat → Int32 → Int32 → Mm → Option (Mm)} (hrc7 : ∀ a0 a1 a2 τ, Fr W_X2_choose σ0 τ → FoV W_X2_choose σ0 (rc7 a0 a1 a2 τ)) {i0 : Nat} {x2 : Int32} {x3 : Int32} {s0 : Int32} {σ : Mm} (hF : Fr W_X2_choose σ0 σ) : FoV W_X2_choose σ0 (F_X2_choose_39 rc7 i0 x2 x3 s0 σ) := by
  unfold F_X2_choose_39
  exact (fV_ite (fo_F_X2_choose_76 hrc7 hF) (fV_ite (fo_F_X2_choose_52 hrc7 (Fr.AA hF rfl)) fV_none))
theorem fo_F_X2_choose_29 {σ0 : Mm} {rc7 : Nat → Int32 → Int32 → Mm → Option (Mm)} (hrc7 : ∀ a0 a1 a2 τ, Fr W_X2_choose σ0 τ → FoV W_X2_choose σ0 (rc7 a0 a1 a2 τ)) {i0 : Nat} {x2 : Int32} {x3 : Int32} {s0 : Int32} {σ : Mm} (hF : Fr W_X2_choose σ0 σ) : FoV W_X2_choose σ0 (F_X2_choose_29 rc7 i0 x2 x3 s0 σ) := by
  unfold F_X2_choose_29
  exact (fV_ite (fo_F_X2_choose_76 hrc7 hF) (fI_V (Wc := W_X2_holds) hF rfl (fo_F_X2_holds Fr_r) (fun _ _ h1 => (fo_F_X2_choose_39 hrc7 h1))))
theorem fo_B_X2_choose_7 {σ0 : Mm} {rc7 : Nat → Int32 → Int32 → Mm → Option (Mm)} (hrc7 : ∀ a0 a1 a2 τ, Fr W_X2_choose σ0 τ → FoV W_X2_choose σ0 (rc7 a0 a1 a2 τ)) {i0 : Nat} {x2 : Int32} {x3 : Int32} {σ : Mm} (hF : Fr W_X2_choose σ0 σ) : FoV W_X2_choose σ0 (B_X2_choose_7 rc7 i0 x2 x3 σ) := by
  unfold B_X2_choose_7
  exact (fV_ite (fV_some hF) (fV_ite (fV_some hF) (fI_V (Wc := W_X2_joins) hF rfl (fo_F_X2_joins Fr_r) (fun _ _ h1 => (fo_F_X2_choose_29 hrc7 h1)))))
theorem fo_F_X2_choose_7 {σ0 : Mm} (n : Nat) : ∀ {y0 : Nat} {y1 : Int32} {y2 : Int32} {σ : Mm}, Fr W_X2_choose σ0 σ → FoV W_X2_choose σ0 (F_X2_choose_7  n y0 y1 y2 σ) := by
  induction n with
  | zero => intro y0 y1 y2 σ _; exact fV_none
  | succ n ih => intro y0 y1 y2 σ hF; exact fo_B_X2_choose_7  (fun _ _ _ _ h => ih h) hF
theorem fo_F_X2_choose_5 {σ0 : Mm} {i0 : Nat} {x2 : Int32} {σ : Mm} (hF : Fr W_X2_choose σ0 σ) : FoV W_X2_choose σ0 (F_X2_choose_5 i0 x2 σ) := by
  unfold F_X2_choose_5
  exact (fo_F_X2_choose_7  FU hF)
theorem fo_F_X2_choose {σ0 : Mm} {i0 : Nat} {x2 : Int32} {σ : Mm} (hF : Fr W_X2_choose σ0 σ) : FoV W_X2_choose σ0 (F_X2_choose i0 x2 σ) := by
  unfold F_X2_choose
  exact (fo_F_X2_choose_5  (Fr.A hF rfl))
theorem fr_X2_choose {i0 : Nat} {x2 : Int32} {σ : Mm} : FoV W_X2_choose σ (F_X2_choose i0 x2 σ) := fo_F_X2_choose Fr_r
def W_X2_apply : List (Nat × Nat × Nat) := [(0, 15, 0), (0, 16, 999), (0, 17, 999), (0, 18, 999), (0, 19, 999), (0, 20, 999)]
theorem fo_F_X2_apply_141 {σ0 : Mm} {x4 : Int32} {x5 : Int32} {σ : Mm} (hF : Fr W_X2_apply σ0 σ) : FoV W_X2_apply σ0 (F_X2_apply_141 x4 x5 σ) := by
  unfold F_X2_apply_141
  exact (fV_ite (fV_ite (fV_some (Fr.AA hF rfl)) fV_none) (fV_some hF))
theorem fo_F_X2_apply_128 {σ0 : Mm} {i0 : Nat} {x2 : Int32} {x4 : Int32} {x5 : Int32} {σ : Mm} (hF : Fr W_X2_apply σ0 σ) : FoV W_X2_apply σ0 (F_X2_apply_128 i0 x2 x4 x5 σ) := by
  unfold F_X2_apply_128
  exact (fV_ite (fV_ite (fo_F_X2_apply_141  (Fr.AA hF rfl)) fV_none) fV_none)
theorem fo_F_X2_apply_117 {σ0 : Mm} {i0 : Nat} {x2 : Int32} {x4 : Int32} {x5 : Int32} {σ : Mm} (hF : Fr W_X2_apply σ0 σ) : FoV W_X2_apply σ0 (F_X2_apply_117 i0 x2 x4 x5 σ) := by
  unfold F_X2_apply_117
  exact (fV_ite (fo_F_X2_apply_128  hF) (fV_ite (fo_F_X2_apply_128  hF) (fo_F_X2_apply_141  hF)))
theorem fo_F_X2_apply_104 {σ0 : Mm} {i0 : Nat} {x2 : Int32} {x4 : Int32} {x5 : Int32} {σ : Mm} (hF : Fr W_X2_apply σ0 σ) : FoV W_X2_apply σ0 (F_X2_apply_104 i0 x2 x4 x5 σ) := by
  unfold F_X2_apply_104
  exact (fV_ite (fV_ite (fo_F_X2_apply_117  (Fr.AA hF rfl)) fV_none) fV_none)
theorem fo_F_X2_apply_91 {σ0 : Mm} {i0 : Nat} {x2 : Int32} {x4 : Int32} {x5 : Int32} {σ : Mm} (hF : Fr W_X2_apply σ0 σ) : FoV W_X2_apply σ0 (F_X2_apply_91 i0 x2 x4 x5 σ) := by
  unfold F_X2_apply_91
  exact (fV_ite (fV_ite (fo_F_X2_apply_104  (Fr.AA hF rfl)) fV_none) fV_none)
theorem fo_F_X2_apply_80 {σ0 : Mm} {i0 : Nat} {x2 : Int32} {x4 : Int32} {x5 : Int32} {σ : Mm} (hF : Fr W_X2_apply σ0 σ) : FoV W_X2_apply σ0 (F_X2_apply_80 i0 x2 x4 x5 σ) := by
  unfold F_X2_apply_80
  exact (fV_ite (fo_F_X2_apply_91  hF) (fV_ite (fo_F_X2_apply_91  hF) (fo_F_X2_apply_117  hF)))
theorem fo_F_X2_apply_71 {σ0 : Mm} {i0 : Nat} {x2 : Int32} {x4 : Int32} {x5 : Int32} {s0 : Int32} {s1 : Int32} {σ : Mm} (hF : Fr W_X2_apply σ0 σ) : FoV W_X2_apply σ0 (F_X2_apply_71 i0 x2 x4 x5 s0 s1 σ) := by
  unfold F_X2_apply_71
  exact (fV_ite (fo_F_X2_apply_80  (Fr.AA hF rfl)) fV_none)
theorem fo_F_X2_apply_56 {σ0 : Mm} {i0 : Nat} {x2 : Int32} {x3 : Int32} {x4 : Int32} {x5 : Int32} {σ : Mm} (hF : Fr W_X2_apply σ0 σ) : FoV W_X2_apply σ0 (F_X2_apply_56 i0 x2 x3 x4 x5 σ) := by
  unfold F_X2_apply_56
  exact (fV_ite (fo_F_X2_apply_71  hF) (fo_F_X2_apply_71  hF))
theorem fo_F_X2_apply_48 {σ0 : Mm} {i0 : Nat} {x2 : Int32} {x3 : Int32} {x4 : Int32} {x5 : Int32} {σ : Mm} (hF : Fr W_X2_apply σ0 σ) : FoV W_X2_apply σ0 (F_X2_apply_48 i0 x2 x3 x4 x5 σ) := by
  unfold F_X2_apply_48
  exact (fV_ite (fo_F_X2_apply_56  (Fr.AA hF rfl)) fV_none)
theorem fo_F_X2_apply {σ0 : Mm} {i0 : Nat} {x2 : Int32} {x3 : Int32} {σ : Mm} (hF : Fr W_X2_apply σ0 σ) : FoV W_X2_apply σ0 (F_X2_apply i0 x2 x3 σ) := by
  unfold F_X2_apply
  exact (fV_ite (fV_ite (fV_ite (fV_some hF) (fV_ite (fV_some hF) (fV_ite (fV_ite (fo_F_X2_apply_48  (Fr.A hF rfl)) (fV_ite (fV_some hF) (fo_F_X2_apply_80  hF))) (fV_some hF)))) fV_none) fV_none)
theorem fr_X2_apply {i0 : Nat} {x2 : Int32} {x3 : Int32} {σ : Mm} : FoV W_X2_apply σ (F_X2_apply i0 x2 x3 σ) := fo_F_X2_apply Fr_r
def W_X2_know : List (Nat × Nat × Nat) := [(0, 15, 0), (0, 16, 999), (0, 17, 999), (0, 18, 999), (0, 19, 999), (0, 20, 999), (0, 21, 999)]
theorem fo_F_X2_know_200 {σ0 : Mm} {rc163 : Nat → Int32 → Int32 → Mm → Option (Mm)} (hrc163 : ∀ a0 a1 a2 τ, Fr W_X2_know σ0 τ → FoV W_X2_know σ0 (rc163 a0 a1 a2 τ)) {i0 : Nat} {x3 : Int32} {x4 : Int32} {σ : Mm} (hF : Fr W_X2_know σ0 σ) : FoV W_X2_know σ0 (F_X2_know_200 rc163 i0 x3 x4 σ) := by
  unfold F_X2_know_200
  exact (hrc163 _ _ _ _ hF)
theorem fo_F_X2_know_197 {σ0 : Mm} {rc163 : Nat → Int32 → Int32 → Mm → Option (Mm)} (hrc163 : ∀ a0 a1 a2 τ, Fr W_X2_know σ0 τ → FoV W_X2_know σ0 (rc163 a0 a1 a2 τ)) {i0 : Nat} {x3 : Int32} {x4 : Int32} {s0 : Int32} {s1 : Int32} {σ : Mm} (hF : Fr W_X2_know σ0 σ) : FoV W_X2_know σ0 (F_X2_know_197 rc163 i0 x3 x4 s0 s1 σ) := by
  unfold F_X2_know_197
  exact (fV_V (Wc := W_X2_apply) hF rfl (fo_F_X2_apply Fr_r) (fun _ h1 => (fo_F_X2_know_200 hrc163 h1)))
theorem fo_F_X2_know_196 {σ0 : Mm} {rc163 : Nat → Int32 → Int32 → Mm → Option (Mm)} (hrc163 : ∀ a0 a1 a2 τ, Fr W_X2_know σ0 τ → FoV W_X2_know σ0 (rc163 a0 a1 a2 τ)) {i0 : Nat} {x3 : Int32} {x4 : Int32} {s0 : Int32} {σ : Mm} (hF : Fr W_X2_know σ0 σ) : FoV W_X2_know σ0 (F_X2_know_196 rc163 i0 x3 x4 s0 σ) := by
  unfold F_X2_know_196
  exact (fo_F_X2_know_197 hrc163 hF)
theorem fo_B_X2_know_163 {σ0 : Mm} {rc163 : Nat → Int32 → Int32 → Mm → Option (Mm)} (hrc163 : ∀ a0 a1 a2 τ, Fr W_X2_know σ0 τ → FoV W_X2_know σ0 (rc163 a0 a1 a2 τ)) {i0 : Nat} {x3 : Int32} {x4 : Int32} {σ : Mm} (hF : Fr W_X2_know σ0 σ) : FoV W_X2_know σ0 (B_X2_know_163 rc163 i0 x3 x4 σ) := by
  unfold B_X2_know_163
  exact (fV_ite (fV_some hF) (fV_ite (fo_F_X2_know_196 hrc163 hF) (fV_ite (fV_ite (fo_F_X2_know_197 hrc163 hF) (fo_F_X2_know_196 hrc163 hF)) fV_none)))
theorem fo_F_X2_know_163 {σ0 : Mm} (n : Nat) : ∀ {y0 : Nat} {y1 : Int32} {y2 : Int32} {σ : Mm}, Fr W_X2_know σ0 σ → FoV W_X2_know σ0 (F_X2_know_163  n y0 y1 y2 σ) := by
  induction n with
  | zero => intro y0 y1 y2 σ _; exact fV_none
  | succ n ih => intro y0 y1 y2 σ hF; exact fo_B_X2_know_163  (fun _ _ _ _ h => ih h) hF
theorem fo_F_X2_know_154 {σ0 : Mm} {rc95 : Nat → Int32 → Int32 → Mm → Option (Mm)} (hrc95 : ∀ a0 a1 a2 τ, Fr W_X2_know σ0 τ → FoV W_X2_know σ0 (rc95 a0 a1 a2 τ)) {i0 : Nat} {x3 : Int32} {x4 : Int32} {σ : Mm} (hF : Fr W_X2_know σ0 σ) : FoV W_X2_know σ0 (F_X2_know_154 rc95 i0 x3 x4 σ) := by
  unfold F_X2_know_154
  exact (hrc95 _ _ _ _ hF)
theorem fo_F_X2_know_112 {σ0 : Mm} {rc95 : Nat → Int32 → Int32 → Mm → Option (Mm)} (hrc95 : ∀ a0 a1 a2 τ, Fr W_X2_know σ0 τ → FoV W_X2_know σ0 (rc95 a0 a1 a2 τ)) {i0 : Nat} {x3 : Int32} {x4 : Int32} {σ : Mm} (hF : Fr W_X2_know σ0 σ) : FoV W_X2_know σ0 (F_X2_know_112 rc95 i0 x3 x4 σ) := by
  unfold F_X2_know_112
  exact (fV_ite (fo_F_X2_know_154 hrc95 hF) (fV_ite (fV_ite (fV_ite (fV_ite (fo_F_X2_know_154 hrc95 hF) (fV_ite (fV_ite (fo_F_X2_know_154 hrc95 (Fr.AA hF rfl)) fV_none) fV_none)) fV_none) (fo_F_X2_know_154 hrc95 hF)) fV_none))
theorem fo_B_X2_know_95 {σ0 : Mm} {rc95 : Nat → Int32 → Int32 → Mm → Option (Mm)} (hrc95 : ∀ a0 a1 a2 τ, Fr W_X2_know σ0 τ → FoV W_X2_know σ0 (rc95 a0 a1 a2 τ)) {i0 : Nat} {x3 : Int32} {x4 : Int32} {σ : Mm} (hF : Fr W_X2_know σ0 σ) : FoV W_X2_know σ0 (B_X2_know_95 rc95 i0 x3 x4 σ) := by
  unfold B_X2_know_95
  exact (fV_ite (fo_F_X2_know_163  FU hF) (fV_ite (fo_F_X2_know_112 hrc95 (Fr.AA hF rfl)) fV_none))
theorem fo_F_X2_know_95 {σ0 : Mm} (n : Nat) : ∀ {y0 : Nat} {y1 : Int32} {y2 : Int32} {σ : Mm}, Fr W_X2_know σ0 σ → FoV W_X2_know σ0 (F_X2_know_95  n y0 y1 y2 σ) := by
  induction n with
  | zero => intro y0 y1 y2 σ _; exact fV_none
  | succ n ih => intro y0 y1 y2 σ hF; exact fo_B_X2_know_95  (fun _ _ _ _ h => ih h) hF
theorem fo_F_X2_know_86 {σ0 : Mm} {rc71 : Nat → Int32 → Int32 → Mm → Option (Mm)} (hrc71 : ∀ a0 a1 a2 τ, Fr W_X2_know σ0 τ → FoV W_X2_know σ0 (rc71 a0 a1 a2 τ)) {i0 : Nat} {x3 : Int32} {x4 : Int32} {σ : Mm} (hF : Fr W_X2_know σ0 σ) : FoV W_X2_know σ0 (F_X2_know_86 rc71 i0 x3 x4 σ) := by
  unfold F_X2_know_86
  exact (hrc71 _ _ _ _ hF)
theorem fo_B_X2_know_71 {σ0 : Mm} {rc71 : Nat → Int32 → Int32 → Mm → Option (Mm)} (hrc71 : ∀ a0 a1 a2 τ, Fr W_X2_know σ0 τ → FoV W_X2_know σ0 (rc71 a0 a1 a2 τ)) {i0 : Nat} {x3 : Int32} {x4 : Int32} {σ : Mm} (hF : Fr W_X2_know σ0 σ) : FoV W_X2_know σ0 (B_X2_know_71 rc71 i0 x3 x4 σ) := by
  unfold B_X2_know_71
  exact (fV_ite (fo_F_X2_know_95  FU hF) (fV_ite (fo_F_X2_know_86 hrc71 (Fr.AA hF rfl)) fV_none))
theorem fo_F_X2_know_71 {σ0 : Mm} (n : Nat) : ∀ {y0 : Nat} {y1 : Int32} {y2 : Int32} {σ : Mm}, Fr W_X2_know σ0 σ → FoV W_X2_know σ0 (F_X2_know_71  n y0 y1 y2 σ) := by
  induction n with
  | zero => intro y0 y1 y2 σ _; exact fV_none
  | succ n ih => intro y0 y1 y2 σ hF; exact fo_B_X2_know_71  (fun _ _ _ _ h => ih h) hF
theorem fo_F_X2_know_68 {σ0 : Mm} {i0 : Nat} {x3 : Int32} {σ : Mm} (hF : Fr W_X2_know σ0 σ) : FoV W_X2_know σ0 (F_X2_know_68 i0 x3 σ) := by
  unfold F_X2_know_68
  exact (fo_F_X2_know_71  FU hF)
theorem fo_F_X2_know_53 {σ0 : Mm} {i0 : Nat} {i1 : Nat} {x3 : Int32} {σ : Mm} (hF : Fr W_X2_know σ0 σ) : FoV W_X2_know σ0 (F_X2_know_53 i0 i1 x3 σ) := by
  unfold F_X2_know_53
  exact (fo_F_X2_know_68  (Fr.AA hF rfl))
theorem fo_F_X2_know_38 {σ0 : Mm} {i0 : Nat} {i1 : Nat} {x3 : Int32} {σ : Mm} (hF : Fr W_X2_know σ0 σ) : FoV W_X2_know σ0 (F_X2_know_38 i0 i1 x3 σ) := by
  unfold F_X2_know_38
  exact (fo_F_X2_know_53  (Fr.AA hF rfl))
theorem fo_F_X2_know_23 {σ0 : Mm} {i0 : Nat} {i1 : Nat} {x3 : Int32} {σ : Mm} (hF : Fr W_X2_know σ0 σ) : FoV W_X2_know σ0 (F_X2_know_23 i0 i1 x3 σ) := by
  unfold F_X2_know_23
  exact (fo_F_X2_know_38  (Fr.AA hF rfl))
theorem fo_F_X2_know_8 {σ0 : Mm} {i0 : Nat} {i1 : Nat} {x3 : Int32} {σ : Mm} (hF : Fr W_X2_know σ0 σ) : FoV W_X2_know σ0 (F_X2_know_8 i0 i1 x3 σ) := by
  unfold F_X2_know_8
  exact (fo_F_X2_know_23  (Fr.AA hF rfl))
theorem fo_F_X2_know {σ0 : Mm} {i0 : Nat} {i1 : Nat} {x3 : Int32} {σ : Mm} (hF : Fr W_X2_know σ0 σ) : FoV W_X2_know σ0 (F_X2_know i0 i1 x3 σ) := by
  unfold F_X2_know
  exact (fo_F_X2_know_8  (Fr.A hF rfl))
theorem fr_X2_know {i0 : Nat} {i1 : Nat} {x3 : Int32} {σ : Mm} : FoV W_X2_know σ (F_X2_know i0 i1 x3 σ) := fo_F_X2_know Fr_r
def W_X9_hillOver : List (Nat × Nat × Nat) := []
theorem fo_F_X9_hillOver_90 {σ0 : Mm} {rc7 : Nat → Int32 → Int32 → Mm → Option (Int32 × Mm)} (hrc7 : ∀ a0 a1 a2 τ, Fr W_X9_hillOver σ0 τ → FoI W_X9_hillOver σ0 (rc7 a0 a1 a2 τ)) {i0 : Nat} {x1 : Int32} {x2 : Int32} {s0 : Int32} {σ : Mm} (hF : Fr W_X9_hillOver σ0 σ) : FoI W_X9_hillOver σ0 (F_X9_hillOver_90 rc7 i0 x1 x2 s0 σ) := by
  unfold F_X9_hillOver_90
  exact (fI_ite (hrc7 _ _ _ _ hF) (fI_ite (fI_some hF) fI_none))
theorem fo_F_X9_hillOver_85 {σ0 : Mm} {rc7 : Nat → Int32 → Int32 → Mm → Option (Int32 × Mm)} (hrc7 : ∀ a0 a1 a2 τ, Fr W_X9_hillOver σ0 τ → FoI W_X9_hillOver σ0 (rc7 a0 a1 a2 τ)) {i0 : Nat} {x1 : Int32} {x2 : Int32} {σ : Mm} (hF : Fr W_X9_hillOver σ0 σ) : FoI W_X9_hillOver σ0 (F_X9_hillOver_85 rc7 i0 x1 x2 σ) := by
  unfold F_X9_hillOver_85
  exact (fo_F_X9_hillOver_90 hrc7 hF)
theorem fo_F_X9_hillOver_72 {σ0 : Mm} {rc7 : Nat → Int32 → Int32 → Mm → Option (Int32 × Mm)} (hrc7 : ∀ a0 a1 a2 τ, Fr W_X9_hillOver σ0 τ → FoI W_X9_hillOver σ0 (rc7 a0 a1 a2 τ)) {i0 : Nat} {x1 : Int32} {x2 : Int32} {σ : Mm} (hF : Fr W_X9_hillOver σ0 σ) : FoI W_X9_hillOver σ0 (F_X9_hillOver_72 rc7 i0 x1 x2 σ) := by
  unfold F_X9_hillOver_72
  exact (fo_F_X9_hillOver_90 hrc7 hF)
theorem fo_F_X9_hillOver_42 {σ0 : Mm} {rc7 : Nat → Int32 → Int32 → Mm → Option (Int32 × Mm)} (hrc7 : ∀ a0 a1 a2 τ, Fr W_X9_hillOver σ0 τ → FoI W_X9_hillOver σ0 (rc7 a0 a1 a2 τ)) {i0 : Nat} {x1 : Int32} {x2 : Int32} {x3 : Int32} {s0 : Int32} {σ : Mm} (hF : Fr W_X9_hillOver σ0 σ) : FoI W_X9_hillOver σ0 (F_X9_hillOver_42 rc7 i0 x1 x2 x3 s0 σ) := by
  unfold F_X9_hillOver_42
  exact (fI_ite (fI_ite (fI_ite (fI_ite (fI_ite (fo_F_X9_hillOver_90 hrc7 hF) (fo_F_X9_hillOver_85 hrc7 hF)) (fo_F_X9_hillOver_85 hrc7 hF)) (fI_ite (fo_F_X9_hillOver_72 hrc7 hF) (fI_ite (fo_F_X9_hillOver_72 hrc7 hF) (fo_F_X9_hillOver_90 hrc7 hF)))) fI_none) fI_none)
theorem fo_F_X9_hillOver_26 {σ0 : Mm} {rc7 : Nat → Int32 → Int32 → Mm → Option (Int32 × Mm)} (hrc7 : ∀ a0 a1 a2 τ, Fr W_X9_hillOver σ0 τ → FoI W_X9_hillOver σ0 (rc7 a0 a1 a2 τ)) {i0 : Nat} {x1 : Int32} {x2 : Int32} {s0 : Int32} {σ : Mm} (hF : Fr W_X9_hillOver σ0 σ) : FoI W_X9_hillOver σ0 (F_X9_hillOver_26 rc7 i0 x1 x2 s0 σ) := by
  unfold F_X9_hillOver_26
  exact (fI_ite (fI_ite (fo_F_X9_hillOver_42 hrc7 hF) (fo_F_X9_hillOver_42 hrc7 hF)) fI_none)
theorem fo_B_X9_hillOver_7 {σ0 : Mm} {rc7 : Nat → Int32 → Int32 → Mm → Option (Int32 × Mm)} (hrc7 : ∀ a0 a1 a2 τ, Fr W_X9_hillOver σ0 τ → FoI W_X9_hillOver σ0 (rc7 a0 a1 a2 τ)) {i0 : Nat} {x1 : Int32} {x2 : Int32} {σ : Mm} (hF : Fr W_X9_hillOver σ0 σ) : FoI W_X9_hillOver σ0 (B_X9_hillOver_7 rc7 i0 x1 x2 σ) := by
  unfold B_X9_hillOver_7
  exact (fI_ite (fI_some hF) (fI_ite (fI_ite (fo_F_X9_hillOver_26 hrc7 hF) (fo_F_X9_hillOver_26 hrc7 hF)) fI_none))
theorem fo_F_X9_hillOver_7 {σ0 : Mm} (n : Nat) : ∀ {y0 : Nat} {y1 : Int32} {y2 : Int32} {σ : Mm}, Fr W_X9_hillOver σ0 σ → FoI W_X9_hillOver σ0 (F_X9_hillOver_7  n y0 y1 y2 σ) := by
  induction n with
  | zero => intro y0 y1 y2 σ _; exact fI_none
  | succ n ih => intro y0 y1 y2 σ hF; exact fo_B_X9_hillOver_7  (fun _ _ _ _ h => ih h) hF
theorem fo_F_X9_hillOver {σ0 : Mm} {i0 : Nat} {x1 : Int32} {σ : Mm} (hF : Fr W_X9_hillOver σ0 σ) : FoI W_X9_hillOver σ0 (F_X9_hillOver i0 x1 σ) := by
  unfold F_X9_hillOver
  exact (fo_F_X9_hillOver_7  FU hF)
theorem fr_X9_hillOver {i0 : Nat} {x1 : Int32} {σ : Mm} : FoI W_X9_hillOver σ (F_X9_hillOver i0 x1 σ) := fo_F_X9_hillOver Fr_r
def W_X6_rising : List (Nat × Nat × Nat) := [(0, 28, 0), (0, 28, 1), (1, 10, 6), (1, 15, 999)]
theorem fo_F_X6_rising_64 {σ0 : Mm} {s0 : Int32} {σ : Mm} (hF : Fr W_X6_rising σ0 σ) : FoI W_X6_rising σ0 (F_X6_rising_64 s0 σ) := by
  unfold F_X6_rising_64
  exact (fI_some hF)
theorem fo_F_X6_rising_58 {σ0 : Mm} {s0 : Int32} {σ : Mm} (hF : Fr W_X6_rising σ0 σ) : FoI W_X6_rising σ0 (F_X6_rising_58 s0 σ) := by
  unfold F_X6_rising_58
  exact (fI_I (Wc := W_J9_floorMod_7cf53) hF rfl (fo_F_J9_floorMod_7cf53 Fr_r) (fun _ _ h1 => (fo_F_X6_rising_64  h1)))
theorem fo_F_X6_rising_46 {σ0 : Mm} {i0 : Nat} {x2 : Int32} {σ : Mm} (hF : Fr W_X6_rising σ0 σ) : FoI W_X6_rising σ0 (F_X6_rising_46 i0 x2 σ) := by
  unfold F_X6_rising_46
  exact (fI_I (Wc := W_X0_work_s) hF rfl (fo_F_X0_work_s Fr_r) (fun _ _ h1 => (fo_F_X6_rising_58  h1)))
theorem fo_F_X6_rising_45 {σ0 : Mm} {i0 : Nat} {x2 : Int32} {s0 : Int32} {s1 : Int32} {σ : Mm} (hs : s1.toNatClampNeg = 1) (hF : Fr W_X6_rising σ0 σ) : FoI W_X6_rising σ0 (F_X6_rising_45 i0 x2 s0 s1 σ) := by
  unfold F_X6_rising_45
  exact (fI_ite (fo_F_X6_rising_46  (Fr.A hF (by rw [hs]; rfl))) fI_none)
theorem fo_F_X6_rising_32 {σ0 : Mm} {i0 : Nat} {x2 : Int32} {s0 : Int32} {σ : Mm} (hF : Fr W_X6_rising σ0 σ) : FoI W_X6_rising σ0 (F_X6_rising_32 i0 x2 s0 σ) := by
  unfold F_X6_rising_32
  exact (fI_I (Wc := W_X9_hillOver) hF rfl (fo_F_X9_hillOver Fr_r) (fun _ _ h1 => (fo_F_X6_rising_45 rfl h1)))
theorem fo_F_X6_rising_26 {σ0 : Mm} {i0 : Nat} {x2 : Int32} {s0 : Int32} {σ : Mm} (hF : Fr W_X6_rising σ0 σ) : FoI W_X6_rising σ0 (F_X6_rising_26 i0 x2 s0 σ) := by
  unfold F_X6_rising_26
  exact (fI_I (Wc := W_J9_floorMod_7cf53) hF rfl (fo_F_J9_floorMod_7cf53 Fr_r) (fun _ _ h1 => (fo_F_X6_rising_32  h1)))
theorem fo_F_X6_rising_14 {σ0 : Mm} {i0 : Nat} {x2 : Int32} {σ : Mm} (hF : Fr W_X6_rising σ0 σ) : FoI W_X6_rising σ0 (F_X6_rising_14 i0 x2 σ) := by
  unfold F_X6_rising_14
  exact (fI_I (Wc := W_X0_work_s) hF rfl (fo_F_X0_work_s Fr_r) (fun _ _ h1 => (fo_F_X6_rising_26  h1)))
theorem fo_F_X6_rising_7 {σ0 : Mm} {i0 : Nat} {x2 : Int32} {σ : Mm} (hF : Fr W_X6_rising σ0 σ) : FoI W_X6_rising σ0 (F_X6_rising_7 i0 x2 σ) := by
  unfold F_X6_rising_7
  exact (fI_ite (fo_F_X6_rising_14  (Fr.A hF rfl)) fI_none)
theorem fo_F_X6_rising {σ0 : Mm} {i0 : Nat} {x2 : Int32} {x3 : Int32} {σ : Mm} (hF : Fr W_X6_rising σ0 σ) : FoI W_X6_rising σ0 (F_X6_rising i0 x2 x3 σ) := by
  unfold F_X6_rising
  exact (fI_ite (fo_F_X6_rising_7  (Fr.A hF rfl)) fI_none)
theorem fr_X6_rising {i0 : Nat} {x2 : Int32} {x3 : Int32} {σ : Mm} : FoI W_X6_rising σ (F_X6_rising i0 x2 x3 σ) := fo_F_X6_rising Fr_r
def W_X6_watch : List (Nat × Nat × Nat) := [(0, 25, 0), (0, 26, 999), (0, 27, 999), (0, 28, 0), (0, 28, 1), (1, 10, 6), (1, 15, 999)]
theorem fo_F_X6_watch_43 {σ0 : Mm} {rc10 : Nat → Int32 → Int32 → Mm → Option (Mm)} (hrc10 : ∀ a0 a1 a2 τ, Fr W_X6_watch σ0 τ → FoV W_X6_watch σ0 (rc10 a0 a1 a2 τ)) {i0 : Nat} {x2 : Int32} {x3 : Int32} {σ : Mm} (hF : Fr W_X6_watch σ0 σ) : FoV W_X6_watch σ0 (F_X6_watch_43 rc10 i0 x2 x3 σ) := by
  unfold F_X6_watch_43
  exact (hrc10 _ _ _ _ hF)
theorem fo_F_X6_watch_31 {σ0 : Mm} {rc10 : Nat → Int32 → Int32 → Mm → Option (Mm)} (hrc10 : ∀ a0 a1 a2 τ, Fr W_X6_watch σ0 τ → FoV W_X6_watch σ0 (rc10 a0 a1 a2 τ)) {i0 : Nat} {x2 : Int32} {x3 : Int32} {σ : Mm} (hF : Fr W_X6_watch σ0 σ) : FoV W_X6_watch σ0 (F_X6_watch_31 rc10 i0 x2 x3 σ) := by
  unfold F_X6_watch_31
  exact (fV_ite (fV_ite (fo_F_X6_watch_43 hrc10 (Fr.AA hF rfl)) fV_none) fV_none)
theorem fo_F_X6_watch_30 {σ0 : Mm} {rc10 : Nat → Int32 → Int32 → Mm → Option (Mm)} (hrc10 : ∀ a0 a1 a2 τ, Fr W_X6_watch σ0 τ → FoV W_X6_watch σ0 (rc10 a0 a1 a2 τ)) {i0 : Nat} {x2 : Int32} {x3 : Int32} {s0 : Int32} {s1 : Int32} {σ : Mm} (hF : Fr W_X6_watch σ0 σ) : FoV W_X6_watch σ0 (F_X6_watch_30 rc10 i0 x2 x3 s0 s1 σ) := by
  unfold F_X6_watch_30
  exact (fV_ite (fo_F_X6_watch_31 hrc10 (Fr.AA hF rfl)) fV_none)
theorem fo_B_X6_watch_10 {σ0 : Mm} {rc10 : Nat → Int32 → Int32 → Mm → Option (Mm)} (hrc10 : ∀ a0 a1 a2 τ, Fr W_X6_watch σ0 τ → FoV W_X6_watch σ0 (rc10 a0 a1 a2 τ)) {i0 : Nat} {x2 : Int32} {x3 : Int32} {σ : Mm} (hF : Fr W_X6_watch σ0 σ) : FoV W_X6_watch σ0 (B_X6_watch_10 rc10 i0 x2 x3 σ) := by
  unfold B_X6_watch_10
  exact (fV_ite (fV_some hF) (fI_V (Wc := W_X6_rising) hF rfl (fo_F_X6_rising Fr_r) (fun _ _ h1 => (fo_F_X6_watch_30 hrc10 h1))))
theorem fo_F_X6_watch_10 {σ0 : Mm} (n : Nat) : ∀ {y0 : Nat} {y1 : Int32} {y2 : Int32} {σ : Mm}, Fr W_X6_watch σ0 σ → FoV W_X6_watch σ0 (F_X6_watch_10  n y0 y1 y2 σ) := by
  induction n with
  | zero => intro y0 y1 y2 σ _; exact fV_none
  | succ n ih => intro y0 y1 y2 σ hF; exact fo_B_X6_watch_10  (fun _ _ _ _ h => ih h) hF
theorem fo_F_X6_watch_8 {σ0 : Mm} {i0 : Nat} {x2 : Int32} {σ : Mm} (hF : Fr W_X6_watch σ0 σ) : FoV W_X6_watch σ0 (F_X6_watch_8 i0 x2 σ) := by
  unfold F_X6_watch_8
  exact (fo_F_X6_watch_10  FU hF)
theorem fo_F_X6_watch {σ0 : Mm} {i0 : Nat} {x2 : Int32} {σ : Mm} (hF : Fr W_X6_watch σ0 σ) : FoV W_X6_watch σ0 (F_X6_watch i0 x2 σ) := by
  unfold F_X6_watch
  exact (fo_F_X6_watch_8  (Fr.A hF rfl))
theorem fr_X6_watch {i0 : Nat} {x2 : Int32} {σ : Mm} : FoV W_X6_watch σ (F_X6_watch i0 x2 σ) := fo_F_X6_watch Fr_r
def W_X11_lookAt : List (Nat × Nat × Nat) := [(0, 15, 0), (0, 15, 8), (0, 16, 999), (0, 17, 999), (0, 18, 999), (0, 19, 999), (0, 20, 999), (0, 21, 999), (0, 22, 999), (0, 23, 999), (0, 24, 999), (0, 25, 0), (0, 26, 999), (0, 27, 999), (0, 28, 0), (0, 28, 1), (1, 10, 6), (1, 15, 999)]
theorem fo_F_X11_lookAt_28 {σ0 : Mm} {x1 : Int32} {σ : Mm} (hF : Fr W_X11_lookAt σ0 σ) : FoV W_X11_lookAt σ0 (F_X11_lookAt_28 x1 σ) := by
  unfold F_X11_lookAt_28
  exact (fV_ite (fV_V (Wc := W_X6_watch) hF rfl (fo_F_X6_watch Fr_r) (fun _ h1 => (fV_some h1))) fV_none)
theorem fo_F_X11_lookAt_16 {σ0 : Mm} {x1 : Int32} {x3 : Int32} {σ : Mm} (hF : Fr W_X11_lookAt σ0 σ) : FoV W_X11_lookAt σ0 (F_X11_lookAt_16 x1 x3 σ) := by
  unfold F_X11_lookAt_16
  exact (fV_ite (fV_V (Wc := W_X2_choose) hF rfl (fo_F_X2_choose Fr_r) (fun _ h1 => (fo_F_X11_lookAt_28  h1))) fV_none)
theorem fo_F_X11_lookAt {σ0 : Mm} {x1 : Int32} {x2 : Int32} {x3 : Int32} {σ : Mm} (hF : Fr W_X11_lookAt σ0 σ) : FoV W_X11_lookAt σ0 (F_X11_lookAt x1 x2 x3 σ) := by
  unfold F_X11_lookAt
  exact (fV_ite (fV_V (Wc := W_X2_know) hF rfl (fo_F_X2_know Fr_r) (fun _ h1 => (fo_F_X11_lookAt_16  h1))) fV_none)
theorem fr_X11_lookAt {x1 : Int32} {x2 : Int32} {x3 : Int32} {σ : Mm} : FoV W_X11_lookAt σ (F_X11_lookAt x1 x2 x3 σ) := fo_F_X11_lookAt Fr_r
def W_X11_turnAll : List (Nat × Nat × Nat) := [(0, 15, 0), (0, 15, 8), (0, 16, 999), (0, 17, 999), (0, 18, 999), (0, 19, 999), (0, 20, 999), (0, 21, 999), (0, 22, 999), (0, 23, 999), (0, 24, 999), (0, 25, 0), (0, 26, 999), (0, 27, 999), (0, 28, 0), (0, 28, 1), (0, 29, 5), (0, 30, 999), (0, 31, 999), (0, 32, 999), (0, 35, 999), (0, 36, 999), (1, 10, 6), (1, 15, 999)]
theorem fo_F_X11_turnAll_37 {σ0 : Mm} {x1 : Int32} {σ : Mm} (hF : Fr W_X11_turnAll σ0 σ) : FoV W_X11_turnAll σ0 (F_X11_turnAll_37 x1 σ) := by
  unfold F_X11_turnAll_37
  exact (fV_V (Wc := W_X10_spin) hF rfl (fo_F_X10_spin Fr_r) (fun _ h1 => (fV_some h1)))
theorem fo_F_X11_turnAll_19 {σ0 : Mm} {x1 : Int32} {σ : Mm} (hF : Fr W_X11_turnAll σ0 σ) : FoV W_X11_turnAll σ0 (F_X11_turnAll_19 x1 σ) := by
  unfold F_X11_turnAll_19
  exact (fV_ite (fV_V (Wc := W_X10_cover) hF rfl (fo_F_X10_cover Fr_r) (fun _ h1 => (fo_F_X11_turnAll_37  h1))) fV_none)
theorem fo_F_X11_turnAll_8 {σ0 : Mm} {x1 : Int32} {σ : Mm} (hF : Fr W_X11_turnAll σ0 σ) : FoV W_X11_turnAll σ0 (F_X11_turnAll_8 x1 σ) := by
  unfold F_X11_turnAll_8
  exact (fV_V (Wc := W_X10_gather) hF rfl (fo_F_X10_gather Fr_r) (fun _ h1 => (fo_F_X11_turnAll_19  h1)))
theorem fo_F_X11_turnAll {σ0 : Mm} {x1 : Int32} {x2 : Int32} {x3 : Int32} {x4 : Int32} {σ : Mm} (hF : Fr W_X11_turnAll σ0 σ) : FoV W_X11_turnAll σ0 (F_X11_turnAll x1 x2 x3 x4 σ) := by
  unfold F_X11_turnAll
  exact (fV_V (Wc := W_X11_lookAt) hF rfl (fo_F_X11_lookAt Fr_r) (fun _ h1 => (fo_F_X11_turnAll_8  h1)))
theorem fr_X11_turnAll {x1 : Int32} {x2 : Int32} {x3 : Int32} {x4 : Int32} {σ : Mm} : FoV W_X11_turnAll σ (F_X11_turnAll x1 x2 x3 x4 σ) := fo_F_X11_turnAll Fr_r
def W_X11_allHits : List (Nat × Nat × Nat) := [(0, 15, 0), (0, 15, 8), (0, 16, 999), (0, 17, 999), (0, 18, 999), (0, 19, 999), (0, 20, 999), (0, 21, 999), (0, 22, 999), (0, 23, 999), (0, 24, 999), (0, 25, 0), (0, 26, 999), (0, 27, 999), (0, 28, 0), (0, 28, 1), (0, 29, 5), (0, 30, 999), (0, 31, 999), (0, 32, 999), (0, 35, 999), (0, 36, 999), (1, 10, 6), (1, 15, 999)]
theorem fo_F_X11_allHits_27 {σ0 : Mm} {s0 : Int32} {σ : Mm} (hF : Fr W_X11_allHits σ0 σ) : FoI W_X11_allHits σ0 (F_X11_allHits_27 s0 σ) := by
  unfold F_X11_allHits_27
  exact (fI_some hF)
theorem fo_F_X11_allHits_20 {σ0 : Mm} {σ : Mm} (hF : Fr W_X11_allHits σ0 σ) : FoI W_X11_allHits σ0 (F_X11_allHits_20 σ) := by
  unfold F_X11_allHits_20
  exact (fI_I (Wc := W_X10_sum) hF rfl (fo_F_X10_sum Fr_r) (fun _ _ h1 => (fo_F_X11_allHits_27  h1)))
theorem fo_F_X11_allHits {σ0 : Mm} {x1 : Int32} {x2 : Int32} {x3 : Int32} {σ : Mm} (hF : Fr W_X11_allHits σ0 σ) : FoI W_X11_allHits σ0 (F_X11_allHits x1 x2 x3 σ) := by
  unfold F_X11_allHits
  exact (fI_ite (fI_ite (fI_some hF) (fV_I (Wc := W_X11_turnAll) hF rfl (fo_F_X11_turnAll Fr_r) (fun _ h1 => (fo_F_X11_allHits_20  h1)))) fI_none)
theorem fr_X11_allHits {x1 : Int32} {x2 : Int32} {x3 : Int32} {σ : Mm} : FoI W_X11_allHits σ (F_X11_allHits x1 x2 x3 σ) := fo_F_X11_allHits Fr_r
def W_X11_strikes : List (Nat × Nat × Nat) := []
theorem fo_F_X11_strikes_16 {σ0 : Mm} {x2 : Int32} {s0 : Int32} {σ : Mm} (hF : Fr W_X11_strikes σ0 σ) : FoI W_X11_strikes σ0 (F_X11_strikes_16 x2 s0 σ) := by
  unfold F_X11_strikes_16
  exact (fI_ite (fI_some hF) (fI_some hF))
theorem fo_F_X11_strikes {σ0 : Mm} {x1 : Int32} {x2 : Int32} {x3 : Int32} {σ : Mm} (hF : Fr W_X11_strikes σ0 σ) : FoI W_X11_strikes σ0 (F_X11_strikes x1 x2 x3 σ) := by
  unfold F_X11_strikes
  exact (fI_ite (fI_I (Wc := W_X6_struck) hF rfl (fo_F_X6_struck Fr_r) (fun _ _ h1 => (fo_F_X11_strikes_16  h1))) fI_none)
theorem fr_X11_strikes {x1 : Int32} {x2 : Int32} {x3 : Int32} {σ : Mm} : FoI W_X11_strikes σ (F_X11_strikes x1 x2 x3 σ) := fo_F_X11_strikes Fr_r
def W_X4_forget : List (Nat × Nat × Nat) := [(0, 38, 999)]
theorem fo_F_X4_forget {σ0 : Mm} {σ : Mm} (hF : Fr W_X4_forget σ0 σ) : FoV W_X4_forget σ0 (F_X4_forget σ) := by
  unfold F_X4_forget
  exact (fV_V (Wc := W_J7_fill_53178_jo) hF rfl (fo_F_J7_fill_53178_jo Fr_r) (fun _ h1 => (fV_some h1)))
theorem fr_X4_forget {σ : Mm} : FoV W_X4_forget σ (F_X4_forget σ) := fo_F_X4_forget Fr_r
def W_X4_join : List (Nat × Nat × Nat) := [(0, 38, 999)]
theorem fo_F_X4_join_32 {σ0 : Mm} {x1 : Int32} {x2 : Int32} {σ : Mm} (hF : Fr W_X4_join σ0 σ) : FoV W_X4_join σ0 (F_X4_join_32 x1 x2 σ) := by
  unfold F_X4_join_32
  exact (fV_ite (fV_ite (fV_some (Fr.AA hF rfl)) fV_none) fV_none)
theorem fo_F_X4_join {σ0 : Mm} {x1 : Int32} {x2 : Int32} {σ : Mm} (hF : Fr W_X4_join σ0 σ) : FoV W_X4_join σ0 (F_X4_join x1 x2 σ) := by
  unfold F_X4_join
  exact (fV_ite (fV_some hF) (fV_ite (fV_some hF) (fV_ite (fV_some hF) (fV_ite (fV_some hF) (fV_ite (fV_ite (fo_F_X4_join_32  (Fr.AA hF rfl)) fV_none) fV_none)))))
theorem fr_X4_join {x1 : Int32} {x2 : Int32} {σ : Mm} : FoV W_X4_join σ (F_X4_join x1 x2 σ) := fo_F_X4_join Fr_r
def W_X4_bestOf : List (Nat × Nat × Nat) := []
theorem fo_F_X4_bestOf {σ0 : Mm} {x1 : Int32} {σ : Mm} (hF : Fr W_X4_bestOf σ0 σ) : FoI W_X4_bestOf σ0 (F_X4_bestOf x1 σ) := by
  unfold F_X4_bestOf
  exact (fI_ite (fI_some hF) fI_none)
theorem fr_X4_bestOf {x1 : Int32} {σ : Mm} : FoI W_X4_bestOf σ (F_X4_bestOf x1 σ) := fo_F_X4_bestOf Fr_r
def W_X4_bestWith : List (Nat × Nat × Nat) := []
theorem fo_F_X4_bestWith_54 {σ0 : Mm} {rc19 : Int32 → Int32 → Int32 → Int32 → Int32 → Mm → Option (Int32 × Mm)} (hrc19 : ∀ a0 a1 a2 a3 a4 τ, Fr W_X4_bestWith σ0 τ → FoI W_X4_bestWith σ0 (rc19 a0 a1 a2 a3 a4 τ)) {x1 : Int32} {x2 : Int32} {x3 : Int32} {x4 : Int32} {x5 : Int32} {σ : Mm} (hF : Fr W_X4_bestWith σ0 σ) : FoI W_X4_bestWith σ0 (F_X4_bestWith_54 rc19 x1 x2 x3 x4 x5 σ) := by
  unfold F_X4_bestWith_54
  exact (hrc19 _ _ _ _ _ _ hF)
theorem fo_F_X4_bestWith_49 {σ0 : Mm} {rc19 : Int32 → Int32 → Int32 → Int32 → Int32 → Mm → Option (Int32 × Mm)} (hrc19 : ∀ a0 a1 a2 a3 a4 τ, Fr W_X4_bestWith σ0 τ → FoI W_X4_bestWith σ0 (rc19 a0 a1 a2 a3 a4 τ)) {x1 : Int32} {x2 : Int32} {x4 : Int32} {x5 : Int32} {s0 : Int32} {s1 : Int32} {s2 : Int32} {σ : Mm} (hF : Fr W_X4_bestWith σ0 σ) : FoI W_X4_bestWith σ0 (F_X4_bestWith_49 rc19 x1 x2 x4 x5 s0 s1 s2 σ) := by
  unfold F_X4_bestWith_49
  exact (fo_F_X4_bestWith_54 hrc19 hF)
theorem fo_B_X4_bestWith_19 {σ0 : Mm} {rc19 : Int32 → Int32 → Int32 → Int32 → Int32 → Mm → Option (Int32 × Mm)} (hrc19 : ∀ a0 a1 a2 a3 a4 τ, Fr W_X4_bestWith σ0 τ → FoI W_X4_bestWith σ0 (rc19 a0 a1 a2 a3 a4 τ)) {x1 : Int32} {x2 : Int32} {x3 : Int32} {x4 : Int32} {x5 : Int32} {σ : Mm} (hF : Fr W_X4_bestWith σ0 σ) : FoI W_X4_bestWith σ0 (B_X4_bestWith_19 rc19 x1 x2 x3 x4 x5 σ) := by
  unfold B_X4_bestWith_19
  exact (fI_ite (fI_some hF) (fI_ite (fo_F_X4_bestWith_54 hrc19 hF) (fI_I (Wc := W_X4_bestOf) hF rfl (fo_F_X4_bestOf Fr_r) (fun _ _ h1 => (fo_F_X4_bestWith_49 hrc19 h1)))))
theorem fo_F_X4_bestWith_19 {σ0 : Mm} (n : Nat) : ∀ {y0 : Int32} {y1 : Int32} {y2 : Int32} {y3 : Int32} {y4 : Int32} {σ : Mm}, Fr W_X4_bestWith σ0 σ → FoI W_X4_bestWith σ0 (F_X4_bestWith_19  n y0 y1 y2 y3 y4 σ) := by
  induction n with
  | zero => intro y0 y1 y2 y3 y4 σ _; exact fI_none
  | succ n ih => intro y0 y1 y2 y3 y4 σ hF; exact fo_B_X4_bestWith_19  (fun _ _ _ _ _ _ h => ih h) hF
theorem fo_F_X4_bestWith_16 {σ0 : Mm} {x1 : Int32} {x2 : Int32} {x3 : Int32} {x4 : Int32} {σ : Mm} (hF : Fr W_X4_bestWith σ0 σ) : FoI W_X4_bestWith σ0 (F_X4_bestWith_16 x1 x2 x3 x4 σ) := by
  unfold F_X4_bestWith_16
  exact (fo_F_X4_bestWith_19  FU hF)
theorem fo_F_X4_bestWith_5 {σ0 : Mm} {x1 : Int32} {x2 : Int32} {s0 : Int32} {σ : Mm} (hF : Fr W_X4_bestWith σ0 σ) : FoI W_X4_bestWith σ0 (F_X4_bestWith_5 x1 x2 s0 σ) := by
  unfold F_X4_bestWith_5
  exact (fI_ite (fo_F_X4_bestWith_16  hF) fI_none)
theorem fo_F_X4_bestWith {σ0 : Mm} {x1 : Int32} {x2 : Int32} {σ : Mm} (hF : Fr W_X4_bestWith σ0 σ) : FoI W_X4_bestWith σ0 (F_X4_bestWith x1 x2 σ) := by
  unfold F_X4_bestWith
  exact (fI_I (Wc := W_X4_bestOf) hF rfl (fo_F_X4_bestOf Fr_r) (fun _ _ h1 => (fo_F_X4_bestWith_5  h1)))
theorem fr_X4_bestWith {x1 : Int32} {x2 : Int32} {σ : Mm} : FoI W_X4_bestWith σ (F_X4_bestWith x1 x2 σ) := fo_F_X4_bestWith Fr_r
def W_X4_put : List (Nat × Nat × Nat) := [(0, 39, 999)]
theorem fo_F_X4_put_7 {σ0 : Mm} {x1 : Int32} {x2 : Int32} {x3 : Int32} {σ : Mm} (hF : Fr W_X4_put σ0 σ) : FoV W_X4_put σ0 (F_X4_put_7 x1 x2 x3 σ) := by
  unfold F_X4_put_7
  exact (fV_ite (fV_ite (fV_some (Fr.AA hF rfl)) fV_none) fV_none)
theorem fo_F_X4_put {σ0 : Mm} {x1 : Int32} {x2 : Int32} {σ : Mm} (hF : Fr W_X4_put σ0 σ) : FoV W_X4_put σ0 (F_X4_put x1 x2 σ) := by
  unfold F_X4_put
  exact (fo_F_X4_put_7  hF)
theorem fr_X4_put {x1 : Int32} {x2 : Int32} {σ : Mm} : FoV W_X4_put σ (F_X4_put x1 x2 σ) := fo_F_X4_put Fr_r
def W_X4_rename : List (Nat × Nat × Nat) := [(0, 38, 999)]
theorem fo_F_X4_rename_68 {σ0 : Mm} {rc27 : Int32 → Int32 → Int32 → Mm → Option (Mm)} (hrc27 : ∀ a0 a1 a2 τ, Fr W_X4_rename σ0 τ → FoV W_X4_rename σ0 (rc27 a0 a1 a2 τ)) {x1 : Int32} {x2 : Int32} {x3 : Int32} {σ : Mm} (hF : Fr W_X4_rename σ0 σ) : FoV W_X4_rename σ0 (F_X4_rename_68 rc27 x1 x2 x3 σ) := by
  unfold F_X4_rename_68
  exact (hrc27 _ _ _ _ hF)
theorem fo_B_X4_rename_27 {σ0 : Mm} {rc27 : Int32 → Int32 → Int32 → Mm → Option (Mm)} (hrc27 : ∀ a0 a1 a2 τ, Fr W_X4_rename σ0 τ → FoV W_X4_rename σ0 (rc27 a0 a1 a2 τ)) {x1 : Int32} {x2 : Int32} {x3 : Int32} {σ : Mm} (hF : Fr W_X4_rename σ0 σ) : FoV W_X4_rename σ0 (B_X4_rename_27 rc27 x1 x2 x3 σ) := by
  unfold B_X4_rename_27
  exact (fV_ite (fV_some hF) (fV_ite (fV_ite (fo_F_X4_rename_68 hrc27 hF) (fV_ite (fV_ite (fo_F_X4_rename_68 hrc27 (Fr.AA hF rfl)) fV_none) fV_none)) fV_none))
theorem fo_F_X4_rename_27 {σ0 : Mm} (n : Nat) : ∀ {y0 : Int32} {y1 : Int32} {y2 : Int32} {σ : Mm}, Fr W_X4_rename σ0 σ → FoV W_X4_rename σ0 (F_X4_rename_27  n y0 y1 y2 σ) := by
  induction n with
  | zero => intro y0 y1 y2 σ _; exact fV_none
  | succ n ih => intro y0 y1 y2 σ hF; exact fo_B_X4_rename_27  (fun _ _ _ _ h => ih h) hF
theorem fo_F_X4_rename_25 {σ0 : Mm} {x1 : Int32} {x2 : Int32} {σ : Mm} (hF : Fr W_X4_rename σ0 σ) : FoV W_X4_rename σ0 (F_X4_rename_25 x1 x2 σ) := by
  unfold F_X4_rename_25
  exact (fo_F_X4_rename_27  FU hF)
theorem fo_F_X4_rename_18 {σ0 : Mm} {x1 : Int32} {x2 : Int32} {σ : Mm} (hF : Fr W_X4_rename σ0 σ) : FoV W_X4_rename σ0 (F_X4_rename_18 x1 x2 σ) := by
  unfold F_X4_rename_18
  exact (fV_ite (fo_F_X4_rename_25  (Fr.AA hF rfl)) fV_none)
theorem fo_F_X4_rename {σ0 : Mm} {x1 : Int32} {x2 : Int32} {σ : Mm} (hF : Fr W_X4_rename σ0 σ) : FoV W_X4_rename σ0 (F_X4_rename x1 x2 σ) := by
  unfold F_X4_rename
  exact (fV_ite (fV_some hF) (fV_ite (fV_ite (fo_F_X4_rename_18  (Fr.AA hF rfl)) fV_none) fV_none))
theorem fr_X4_rename {x1 : Int32} {x2 : Int32} {σ : Mm} : FoV W_X4_rename σ (F_X4_rename x1 x2 σ) := fo_F_X4_rename Fr_r
def W_X4_squeeze : List (Nat × Nat × Nat) := [(0, 38, 999)]
theorem fo_F_X4_squeeze_28 {σ0 : Mm} {rc4 : Int32 → Int32 → Mm → Option (Int32 × Mm)} (hrc4 : ∀ a0 a1 τ, Fr W_X4_squeeze σ0 τ → FoI W_X4_squeeze σ0 (rc4 a0 a1 τ)) {x1 : Int32} {x2 : Int32} {σ : Mm} (hF : Fr W_X4_squeeze σ0 σ) : FoI W_X4_squeeze σ0 (F_X4_squeeze_28 rc4 x1 x2 σ) := by
  unfold F_X4_squeeze_28
  exact (hrc4 _ _ _ hF)
theorem fo_F_X4_squeeze_25 {σ0 : Mm} {rc4 : Int32 → Int32 → Mm → Option (Int32 × Mm)} (hrc4 : ∀ a0 a1 τ, Fr W_X4_squeeze σ0 τ → FoI W_X4_squeeze σ0 (rc4 a0 a1 τ)) {x1 : Int32} {x2 : Int32} {σ : Mm} (hF : Fr W_X4_squeeze σ0 σ) : FoI W_X4_squeeze σ0 (F_X4_squeeze_25 rc4 x1 x2 σ) := by
  unfold F_X4_squeeze_25
  exact (fo_F_X4_squeeze_28 hrc4 hF)
theorem fo_B_X4_squeeze_4 {σ0 : Mm} {rc4 : Int32 → Int32 → Mm → Option (Int32 × Mm)} (hrc4 : ∀ a0 a1 τ, Fr W_X4_squeeze σ0 τ → FoI W_X4_squeeze σ0 (rc4 a0 a1 τ)) {x1 : Int32} {x2 : Int32} {σ : Mm} (hF : Fr W_X4_squeeze σ0 σ) : FoI W_X4_squeeze σ0 (B_X4_squeeze_4 rc4 x1 x2 σ) := by
  unfold B_X4_squeeze_4
  exact (fI_ite (fI_some hF) (fI_ite (fI_ite (fo_F_X4_squeeze_28 hrc4 hF) (fV_I (Wc := W_X4_rename) hF rfl (fo_F_X4_rename Fr_r) (fun _ h1 => (fo_F_X4_squeeze_25 hrc4 h1)))) fI_none))
theorem fo_F_X4_squeeze_4 {σ0 : Mm} (n : Nat) : ∀ {y0 : Int32} {y1 : Int32} {σ : Mm}, Fr W_X4_squeeze σ0 σ → FoI W_X4_squeeze σ0 (F_X4_squeeze_4  n y0 y1 σ) := by
  induction n with
  | zero => intro y0 y1 σ _; exact fI_none
  | succ n ih => intro y0 y1 σ hF; exact fo_B_X4_squeeze_4  (fun _ _ _ h => ih h) hF
theorem fo_F_X4_squeeze {σ0 : Mm} {σ : Mm} (hF : Fr W_X4_squeeze σ0 σ) : FoI W_X4_squeeze σ0 (F_X4_squeeze σ) := by
  unfold F_X4_squeeze
  exact (fo_F_X4_squeeze_4  FU hF)
theorem fr_X4_squeeze {σ : Mm} : FoI W_X4_squeeze σ (F_X4_squeeze σ) := fo_F_X4_squeeze Fr_r
def W_X4_most : List (Nat × Nat × Nat) := [(0, 38, 999), (0, 39, 999)]
theorem fo_F_X4_most_64 {σ0 : Mm} {s0 : Int32} {σ : Mm} (hF : Fr W_X4_most σ0 σ) : FoI W_X4_most σ0 (F_X4_most_64 s0 σ) := by
  unfold F_X4_most_64
  exact (fI_some hF)
theorem fo_F_X4_most_43 {σ0 : Mm} {rc14 : Int32 → Int32 → Mm → Option (Int32 × Mm)} (hrc14 : ∀ a0 a1 τ, Fr W_X4_most σ0 τ → FoI W_X4_most σ0 (rc14 a0 a1 τ)) {rc21 : Int32 → Int32 → Int32 → Mm → Option (Int32 × Mm)} (hrc21 : ∀ a0 a1 a2 τ, Fr W_X4_most σ0 τ → FoI W_X4_most σ0 (rc21 a0 a1 a2 τ)) {x1 : Int32} {x2 : Int32} {x3 : Int32} {σ : Mm} (hF : Fr W_X4_most σ0 σ) : FoI W_X4_most σ0 (F_X4_most_43 rc14 rc21 x1 x2 x3 σ) := by
  unfold F_X4_most_43
  exact (hrc21 _ _ _ _ hF)
theorem fo_F_X4_most_40 {σ0 : Mm} {rc14 : Int32 → Int32 → Mm → Option (Int32 × Mm)} (hrc14 : ∀ a0 a1 τ, Fr W_X4_most σ0 τ → FoI W_X4_most σ0 (rc14 a0 a1 τ)) {rc21 : Int32 → Int32 → Int32 → Mm → Option (Int32 × Mm)} (hrc21 : ∀ a0 a1 a2 τ, Fr W_X4_most σ0 τ → FoI W_X4_most σ0 (rc21 a0 a1 a2 τ)) {x1 : Int32} {x2 : Int32} {x3 : Int32} {s0 : Int32} {s1 : Int32} {σ : Mm} (hF : Fr W_X4_most σ0 σ) : FoI W_X4_most σ0 (F_X4_most_40 rc14 rc21 x1 x2 x3 s0 s1 σ) := by
  unfold F_X4_most_40
  exact (fV_I (Wc := W_X4_put) hF rfl (fo_F_X4_put Fr_r) (fun _ h1 => (fo_F_X4_most_43 hrc14 hrc21 h1)))
theorem fo_B_X4_most_21 {σ0 : Mm} {rc14 : Int32 → Int32 → Mm → Option (Int32 × Mm)} (hrc14 : ∀ a0 a1 τ, Fr W_X4_most σ0 τ → FoI W_X4_most σ0 (rc14 a0 a1 τ)) {rc21 : Int32 → Int32 → Int32 → Mm → Option (Int32 × Mm)} (hrc21 : ∀ a0 a1 a2 τ, Fr W_X4_most σ0 τ → FoI W_X4_most σ0 (rc21 a0 a1 a2 τ)) {x1 : Int32} {x2 : Int32} {x3 : Int32} {σ : Mm} (hF : Fr W_X4_most σ0 σ) : FoI W_X4_most σ0 (B_X4_most_21 rc14 rc21 x1 x2 x3 σ) := by
  unfold B_X4_most_21
  exact (fI_ite (hrc14 _ _ _ hF) (fI_I (Wc := W_X4_bestWith) hF rfl (fo_F_X4_bestWith Fr_r) (fun _ _ h1 => (fo_F_X4_most_40 hrc14 hrc21 h1))))
theorem fo_F_X4_most_21 {σ0 : Mm} {rc14 : Int32 → Int32 → Mm → Option (Int32 × Mm)} (hrc14 : ∀ a0 a1 τ, Fr W_X4_most σ0 τ → FoI W_X4_most σ0 (rc14 a0 a1 τ)) (n : Nat) : ∀ {y0 : Int32} {y1 : Int32} {y2 : Int32} {σ : Mm}, Fr W_X4_most σ0 σ → FoI W_X4_most σ0 (F_X4_most_21 rc14 n y0 y1 y2 σ) := by
  induction n with
  | zero => intro y0 y1 y2 σ _; exact fI_none
  | succ n ih => intro y0 y1 y2 σ hF; exact fo_B_X4_most_21 hrc14 (fun _ _ _ _ h => ih h) hF
theorem fo_B_X4_most_14 {σ0 : Mm} {rc14 : Int32 → Int32 → Mm → Option (Int32 × Mm)} (hrc14 : ∀ a0 a1 τ, Fr W_X4_most σ0 τ → FoI W_X4_most σ0 (rc14 a0 a1 τ)) {x1 : Int32} {x2 : Int32} {σ : Mm} (hF : Fr W_X4_most σ0 σ) : FoI W_X4_most σ0 (B_X4_most_14 rc14 x1 x2 σ) := by
  unfold B_X4_most_14
  exact (fI_ite (fI_I (Wc := W_X4_bestOf) hF rfl (fo_F_X4_bestOf Fr_r) (fun _ _ h1 => (fo_F_X4_most_64  h1))) (fo_F_X4_most_21 hrc14 FU hF))
theorem fo_F_X4_most_14 {σ0 : Mm} (n : Nat) : ∀ {y0 : Int32} {y1 : Int32} {σ : Mm}, Fr W_X4_most σ0 σ → FoI W_X4_most σ0 (F_X4_most_14  n y0 y1 σ) := by
  induction n with
  | zero => intro y0 y1 σ _; exact fI_none
  | succ n ih => intro y0 y1 σ hF; exact fo_B_X4_most_14  (fun _ _ _ h => ih h) hF
theorem fo_F_X4_most_12 {σ0 : Mm} {x1 : Int32} {σ : Mm} (hF : Fr W_X4_most σ0 σ) : FoI W_X4_most σ0 (F_X4_most_12 x1 σ) := by
  unfold F_X4_most_12
  exact (fo_F_X4_most_14  FU hF)
theorem fo_F_X4_most_4 {σ0 : Mm} {s0 : Int32} {σ : Mm} (hF : Fr W_X4_most σ0 σ) : FoI W_X4_most σ0 (F_X4_most_4 s0 σ) := by
  unfold F_X4_most_4
  exact (fI_ite (fo_F_X4_most_12  (Fr.AA hF rfl)) fI_none)
theorem fo_F_X4_most {σ0 : Mm} {σ : Mm} (hF : Fr W_X4_most σ0 σ) : FoI W_X4_most σ0 (F_X4_most σ) := by
  unfold F_X4_most
  exact (fI_I (Wc := W_X4_squeeze) hF rfl (fo_F_X4_squeeze Fr_r) (fun _ _ h1 => (fo_F_X4_most_4  h1)))
theorem fr_X4_most {σ : Mm} : FoI W_X4_most σ (F_X4_most σ) := fo_F_X4_most Fr_r
def W_X11_alone : List (Nat × Nat × Nat) := [(0, 15, 0), (0, 15, 8), (0, 16, 999), (0, 17, 999), (0, 18, 999), (0, 19, 999), (0, 20, 999), (0, 21, 999), (0, 22, 999), (0, 23, 999), (0, 24, 999), (0, 25, 0), (0, 26, 999), (0, 27, 999), (0, 28, 0), (0, 28, 1), (0, 38, 999), (0, 39, 999), (1, 10, 6), (1, 15, 999)]
theorem fo_F_X11_alone_106 {σ0 : Mm} {s0 : Int32} {σ : Mm} (hF : Fr W_X11_alone σ0 σ) : FoI W_X11_alone σ0 (F_X11_alone_106 s0 σ) := by
  unfold F_X11_alone_106
  exact (fI_some hF)
theorem fo_F_X11_alone_93 {σ0 : Mm} {rc29 : Int32 → Int32 → Mm → Option (Int32 × Mm)} (hrc29 : ∀ a0 a1 τ, Fr W_X11_alone σ0 τ → FoI W_X11_alone σ0 (rc29 a0 a1 τ)) {x1 : Int32} {x4 : Int32} {σ : Mm} (hF : Fr W_X11_alone σ0 σ) : FoI W_X11_alone σ0 (F_X11_alone_93 rc29 x1 x4 σ) := by
  unfold F_X11_alone_93
  exact (hrc29 _ _ _ hF)
theorem fo_F_X11_alone_57 {σ0 : Mm} {rc29 : Int32 → Int32 → Mm → Option (Int32 × Mm)} (hrc29 : ∀ a0 a1 τ, Fr W_X11_alone σ0 τ → FoI W_X11_alone σ0 (rc29 a0 a1 τ)) {x1 : Int32} {x4 : Int32} {s0 : Int32} {σ : Mm} (hF : Fr W_X11_alone σ0 σ) : FoI W_X11_alone σ0 (F_X11_alone_57 rc29 x1 x4 s0 σ) := by
  unfold F_X11_alone_57
  exact (fI_ite (fo_F_X11_alone_93 hrc29 hF) (fI_ite (fI_ite (fV_I (Wc := W_X4_join) hF rfl (fo_F_X4_join Fr_r) (fun _ h1 => (fo_F_X11_alone_93 hrc29 h1))) fI_none) fI_none))
theorem fo_B_X11_alone_29 {σ0 : Mm} {rc29 : Int32 → Int32 → Mm → Option (Int32 × Mm)} (hrc29 : ∀ a0 a1 τ, Fr W_X11_alone σ0 τ → FoI W_X11_alone σ0 (rc29 a0 a1 τ)) {x1 : Int32} {x4 : Int32} {σ : Mm} (hF : Fr W_X11_alone σ0 σ) : FoI W_X11_alone σ0 (B_X11_alone_29 rc29 x1 x4 σ) := by
  unfold B_X11_alone_29
  exact (fI_ite (fI_I (Wc := W_X4_most) hF rfl (fo_F_X4_most Fr_r) (fun _ _ h1 => (fo_F_X11_alone_106  h1))) (fI_ite (fI_I (Wc := W_X11_strikes) hF rfl (fo_F_X11_strikes Fr_r) (fun _ _ h2 => (fo_F_X11_alone_57 hrc29 h2))) fI_none))
theorem fo_F_X11_alone_29 {σ0 : Mm} (n : Nat) : ∀ {y0 : Int32} {y1 : Int32} {σ : Mm}, Fr W_X11_alone σ0 σ → FoI W_X11_alone σ0 (F_X11_alone_29  n y0 y1 σ) := by
  induction n with
  | zero => intro y0 y1 σ _; exact fI_none
  | succ n ih => intro y0 y1 σ hF; exact fo_B_X11_alone_29  (fun _ _ _ h => ih h) hF
theorem fo_F_X11_alone_26 {σ0 : Mm} {x1 : Int32} {σ : Mm} (hF : Fr W_X11_alone σ0 σ) : FoI W_X11_alone σ0 (F_X11_alone_26 x1 σ) := by
  unfold F_X11_alone_26
  exact (fo_F_X11_alone_29  FU hF)
