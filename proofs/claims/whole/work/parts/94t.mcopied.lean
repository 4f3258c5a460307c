/-! the model's read, its copy -/
theorem s_59 {τ : Mm} {D : DD} (hW : WF D) (hM : RM τ 1 D) (h8 : mA τ 3 0 0 8 = 0) : Ok (F_X12_read_59 τ) (fun q => q.1 = 0 ∧ RM q.2 0 D ∧ (∀ f, mA q.2 3 0 0 f = mA τ 3 0 0 f) ∧ ∀ k f, ¬ f < cz k → mA q.2 3 0 k f = mA τ 3 0 k f) := by
  unfold F_X12_read_59 F_X12_read_72
  refine Ok_t h8 (Ok_V (cp_all (σ0 := τ) (a := 1) (b := 0) (by omega) (by omega) (by omega)) (fun υ hυ => ?_))
  have e : ∀ k f, ¬ f < cz k → mA υ 3 0 k f = mA τ 3 0 k f := by
    intro k f hf
    rw [hυ.1 k f, if_neg (fun z => hf (by have := z.2; omega))]
  have e0 : ∀ f, mA υ 3 0 0 f = mA τ 3 0 0 f := fun f => e 0 f (by show ¬ f < 0; omega)
  exact Ok_r ⟨by show mA υ 3 0 0 8 = 0; rw [e0]; exact h8, RM.copied hW hM hυ, e0, e⟩
theorem s_59F {τ : Mm} (h8 : ¬ mA τ 3 0 0 8 = 0) : Ok (F_X12_read_59 τ) (fun q => q = (mA τ 3 0 0 8, τ)) := by
  unfold F_X12_read_59 F_X12_read_72
  exact Ok_f h8 (Ok_r rfl)
