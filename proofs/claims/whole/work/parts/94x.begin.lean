/-! the start: what the constructors leave, and the model's begin over it -/
def sgI : Mm := (fun t _ k f => if t = 0 then (if k = 12 then (if f = 1 then -1 else if f = 6 then -1 else 0) else 0) else if t = 1 then (if k = 0 then (if f = 0 then 2 else 0) else 0) else if t = 3 then (if k = 0 then (if f = 9 then -1 else 0) else 0) else 0, fun _ _ _ _ => 0, fun n => if n = 0 then 0 else 1)
def dI : DD := (fun j => if j = 6 then 2 else 0, fun _ _ => 0, fun _ _ => false, fun _ => [], fun _ => [])
def bgI (σ τ : Mm) : Prop := (mA τ 3 0 7 0 = 2 ∧ mA τ 3 0 8 0 = 0 ∧ mA τ 3 0 14 0 = 0 ∧ mA τ 3 0 17 0 = 0 ∧ mA τ 3 0 21 0 = 0 ∧ mA τ 3 0 25 0 = 0 ∧ mA τ 3 0 38 0 = 0) ∧ mP τ = mP σ ∧ (∀ t i k, t ≠ 3 → mA τ t i k = mA σ t i k) ∧ (∀ f, f ≠ 49 → mA τ 3 0 0 f = mA σ 3 0 0 f) ∧ ∀ f, mA τ 3 0 6 f = mA σ 3 0 6 f
theorem s_begin0 {σ : Mm} : Ok (F_X12_begin 0 σ) (bgI σ) := by
  have c1 : (0 : Int32).toNatClampNeg = 0 := rfl
  unfold F_X12_begin F_X12_begin_7 F_X12_begin_14 F_X12_begin_21 F_X12_begin_28 F_X12_begin_35 F_X12_begin_42 F_X12_begin_49 F_X12_begin_56 F_X12_begin_63
  rw [c1]
  refine Ok_t (by decide) (Ok_t (by decide) (Ok_t (by decide) (Ok_t (by decide) (Ok_t (by decide) (Ok_t (by decide) (Ok_t (by decide) (Ok_t (by decide) (Ok_r ⟨⟨?_, ?_, ?_, ?_, ?_, ?_, ?_⟩, rfl, ?_, ?_, ?_⟩))))))))
  · (try simp only [mA_A, mL_A, mP_A, mA_L, mL_L, mP_L, upd_at]); (try simp)
  · (try simp only [mA_A, mL_A, mP_A, mA_L, mL_L, mP_L, upd_at]); (try simp)
  · (try simp only [mA_A, mL_A, mP_A, mA_L, mL_L, mP_L, upd_at]); (try simp)
  · (try simp only [mA_A, mL_A, mP_A, mA_L, mL_L, mP_L, upd_at]); (try simp)
  · (try simp only [mA_A, mL_A, mP_A, mA_L, mL_L, mP_L, upd_at]); (try simp)
  · (try simp only [mA_A, mL_A, mP_A, mA_L, mL_L, mP_L, upd_at]); (try simp)
  · (try simp only [mA_A, mL_A, mP_A, mA_L, mL_L, mP_L, upd_at]); (try simp)
  · intro t i k ht; funext f; (try simp only [mA_A, mL_A, mP_A, mA_L, mL_L, mP_L, upd_at]); simp [ht, mA_A]
  · intro f hf; simp only [mA_A, mL_A, mP_A, mA_L, mL_L, mP_L, upd_at]; simp [hf]
  · intro f; simp only [mA_A, mL_A, mP_A, mA_L, mL_L, mP_L, upd_at]; simp
theorem RC_I {τ : Mm} (h1 : ∀ i k, mA τ 1 i k = mA sgI 1 i k) (h2 : ∀ i k, mA τ 2 i k = mA sgI 2 i k) {i s : Nat} : RC τ i s dI := by
  refine ⟨?_, ?_, ?_, ?_, ?_, ?_, ?_, ?_⟩
  · unfold RCn; rw [h1]; exact ⟨rfl, rfl, rfl, rfl, rfl, rfl⟩
  · intro t ht; exact absurd ht (Nat.not_lt_zero t)
  · intro a b ha hb
    rw [h1]
    show ((0 : Int32) >>> (nI b &&& 31)) &&& 1 = 0
    rw [Int32.zero_shiftRight, Int32.zero_and]
  · intro t ht; exact absurd ht (Nat.not_lt_zero t)
  · intro t ht; exact absurd ht (Nat.not_lt_zero t)
  · intro t ht; exact absurd ht (Nat.not_lt_zero t)
  · intro t ht; exact absurd ht (Nat.not_lt_zero t)
  · unfold RCf; rw [h2]
    exact ⟨rfl, rfl, fun k hk => absurd hk (Nat.not_lt_zero k)⟩
theorem WF_I : WF dI := ⟨Nat.zero_le _, Nat.zero_le _, Nat.zero_le _, Nat.zero_le _, Nat.zero_le _, Nat.zero_le _, by decide, fun t ht => absurd ht (Nat.not_lt_zero t), fun t ht => absurd ht (Nat.not_lt_zero t), fun t ht => absurd ht (Nat.not_lt_zero t), fun t ht => absurd ht (Nat.not_lt_zero t)⟩
theorem Iv_I : Ok (F_X12_begin 0 sgI) (Iv (fun _ => false)) := by
  refine s_begin0.mono (fun τ hτ => ?_)
  obtain ⟨⟨b1, b2, b3, b4, b5, b6, b7⟩, p, o, m0, m6⟩ := hτ
  refine ⟨?_, ?_, ⟨0, by omega, ?_, ?_, fun k hk => absurd hk (Nat.not_lt_zero k)⟩, ⟨0, by omega, ?_, ?_, fun k hk => absurd hk (Nat.not_lt_zero k)⟩, ?_, dI, ?_, ?_, WF_I⟩
  · unfold IvP; rw [p, o 0 0 28 (by decide)]
    exact ⟨by decide, by decide, by decide, by decide, fun k _ _ => rfl⟩
  · rw [o 0 0 12 (by decide), m0 9 (by decide)]; rfl
  · rw [o 0 0 6 (by decide)]; rfl
  · rw [m0 0 (by decide)]; rfl
  · rw [o 0 0 0 (by decide)]; rfl
  · rw [m0 52 (by decide)]; rfl
  · intro j hj
    rw [m6]
    exact ⟨rfl, fun h => Bool.noConfusion h⟩
  · exact RC_I (fun i k => o 1 i k (by decide)) (fun i k => o 2 i k (by decide))
  · refine ⟨⟨b1, b2, b3, b4, b5, b6, b7⟩, ⟨?_, ?_⟩, ?_, ?_, ?_, ?_, ?_, ?_⟩
    · intro t ht; exact absurd ht (Nat.not_lt_zero t)
    · intro t ht; exact absurd ht (Nat.not_lt_zero t)
    · intro t ht; exact absurd ht (Nat.not_lt_zero t)
    · intro a a' _ _
      exact ⟨fun h => Bool.noConfusion h, fun ⟨k, hk, _⟩ => absurd hk (Nat.not_lt_zero k)⟩
    · intro t ht; exact absurd ht (Nat.not_lt_zero t)
    · intro t ht; exact absurd ht (Nat.not_lt_zero t)
    · intro t ht; exact absurd ht (Nat.not_lt_zero t)
    · intro t ht; exact absurd ht (Nat.not_lt_zero t)
