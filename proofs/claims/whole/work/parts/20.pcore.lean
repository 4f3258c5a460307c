/-! the pure level: what a run of a decompiled function comes to; frames; numbers -/
def Ok {α : Type} (o : Option α) (Q : α → Prop) : Prop := ∃ a, o = some a ∧ Q a
theorem Ok_some {α : Type} {a : α} {Q : α → Prop} : Ok (some a) Q ↔ Q a := ⟨fun ⟨_, h, q⟩ => by cases h; exact q, fun h => ⟨a, rfl, h⟩⟩
theorem Ok_none {α : Type} {Q : α → Prop} : Ok none Q ↔ False := ⟨fun ⟨_, h, _⟩ => (by cases h), False.elim⟩
theorem Ok_ite {α : Type} {c : Prop} {dc : Decidable c} {a b : Option α} {Q : α → Prop} : Ok (@ite _ c dc a b) Q ↔ (c → Ok a Q) ∧ (¬ c → Ok b Q) := by
  by_cases h : c
  · simp [h]
  · simp [h]
theorem Ok_bnd {β : Type} {o : Option (Int32 × Mm)} {f : Int32 → Mm → Option β} {Q : β → Prop} : Ok (bnd o f) Q ↔ Ok o (fun q => Ok (f q.1 q.2) Q) := by
  cases o with
  | none => exact ⟨fun h => (Ok_none.mp h).elim, fun h => (Ok_none.mp h).elim⟩
  | some q => exact ⟨fun h => ⟨q, rfl, h⟩, fun ⟨_, e, h⟩ => by cases e; exact h⟩
theorem Ok_bnl {β : Type} {o : Option (Int64 × Mm)} {f : Int64 → Mm → Option β} {Q : β → Prop} : Ok (bnl o f) Q ↔ Ok o (fun q => Ok (f q.1 q.2) Q) := by
  cases o with
  | none => exact ⟨fun h => (Ok_none.mp h).elim, fun h => (Ok_none.mp h).elim⟩
  | some q => exact ⟨fun h => ⟨q, rfl, h⟩, fun ⟨_, e, h⟩ => by cases e; exact h⟩
theorem Ok_bnv {β : Type} {o : Option Mm} {f : Mm → Option β} {Q : β → Prop} : Ok (bnv o f) Q ↔ Ok o (fun q => Ok (f q) Q) := by
  cases o with
  | none => exact ⟨fun h => (Ok_none.mp h).elim, fun h => (Ok_none.mp h).elim⟩
  | some q => exact ⟨fun h => ⟨q, rfl, h⟩, fun ⟨_, e, h⟩ => by cases e; exact h⟩
theorem Ok_t {α : Type} {c : Prop} {dc : Decidable c} {a b : Option α} {Q : α → Prop} (h : c) (k : Ok a Q) : Ok (@ite _ c dc a b) Q := by
  rw [if_pos h]; exact k
theorem Ok_f {α : Type} {c : Prop} {dc : Decidable c} {a b : Option α} {Q : α → Prop} (h : ¬ c) (k : Ok b Q) : Ok (@ite _ c dc a b) Q := by
  rw [if_neg h]; exact k
theorem Ok_s {α : Type} {c : Prop} {dc : Decidable c} {a b : Option α} {Q : α → Prop} (k1 : c → Ok a Q) (k2 : ¬ c → Ok b Q) : Ok (@ite _ c dc a b) Q := Ok_ite.mpr ⟨k1, k2⟩
theorem Ok_r {α : Type} {a : α} {Q : α → Prop} (k : Q a) : Ok (some a) Q := ⟨a, rfl, k⟩
theorem Ok.mono {α : Type} {o : Option α} {Q Q' : α → Prop} (h : Ok o Q) (hq : ∀ a, Q a → Q' a) : Ok o Q' := by
  obtain ⟨a, h1, h2⟩ := h
  exact ⟨a, h1, hq a h2⟩
theorem Ok.eq {α : Type} {o : Option α} {Q : α → Prop} {a : α} (h : Ok o Q) (e : o = some a) : Q a := by
  obtain ⟨b, h1, h2⟩ := h
  rw [e] at h1
  cases h1
  exact h2
theorem Ok_B {β : Type} {o : Option (Int32 × Mm)} {P : Int32 × Mm → Prop} {f : Int32 → Mm → Option β} {Q : β → Prop} (h : Ok o P) (k : ∀ v τ, P (v, τ) → Ok (f v τ) Q) : Ok (bnd o f) Q := Ok_bnd.mpr (h.mono fun q hq => k q.1 q.2 hq)
theorem Ok_L {β : Type} {o : Option (Int64 × Mm)} {P : Int64 × Mm → Prop} {f : Int64 → Mm → Option β} {Q : β → Prop} (h : Ok o P) (k : ∀ v τ, P (v, τ) → Ok (f v τ) Q) : Ok (bnl o f) Q := Ok_bnl.mpr (h.mono fun q hq => k q.1 q.2 hq)
theorem Ok_V {β : Type} {o : Option Mm} {P : Mm → Prop} {f : Mm → Option β} {Q : β → Prop} (h : Ok o P) (k : ∀ τ, P τ → Ok (f τ) Q) : Ok (bnv o f) Q := Ok_bnv.mpr (h.mono fun q hq => k q hq)
/-- which cells may differ: (t, k, field); field 999: the whole row; t = 9: the moving references -/
def inW (W : List (Nat × Nat × Nat)) (t k f : Nat) : Bool := W.any (fun q => Nat.beq q.1 t && (Nat.beq q.2.1 k && (Nat.beq q.2.2 999 || Nat.beq q.2.2 f)))
def anW (W : List (Nat × Nat × Nat)) (t k : Nat) : Bool := W.any (fun q => Nat.beq q.1 t && (Nat.beq q.2.1 k && Nat.beq q.2.2 999))
def noW (W : List (Nat × Nat × Nat)) (t k : Nat) : Bool := W.all (fun q => !(Nat.beq q.1 t && Nat.beq q.2.1 k))
def sbW (V W : List (Nat × Nat × Nat)) : Bool := V.all (fun q => W.any (fun p => Nat.beq p.1 q.1 && (Nat.beq p.2.1 q.2.1 && (Nat.beq p.2.2 999 || Nat.beq p.2.2 q.2.2))))
def Fr (W : List (Nat × Nat × Nat)) (σ τ : Mm) : Prop := (∀ n, inW W 9 n 0 = false → mP τ n = mP σ n) ∧ ∀ t i k f, inW W t k f = false → mA τ t i k f = mA σ t i k f ∧ mL τ t i k f = mL σ t i k f
theorem Fr_r {W : List (Nat × Nat × Nat)} {σ : Mm} : Fr W σ σ := ⟨fun _ _ => rfl, fun _ _ _ _ _ => ⟨rfl, rfl⟩⟩
theorem Fr.trans {W : List (Nat × Nat × Nat)} {σ τ υ : Mm} (h : Fr W σ τ) (h' : Fr W τ υ) : Fr W σ υ :=
  ⟨fun n hn => (h'.1 n hn).trans (h.1 n hn), fun t i k f hf => ⟨(h'.2 t i k f hf).1.trans (h.2 t i k f hf).1, (h'.2 t i k f hf).2.trans (h.2 t i k f hf).2⟩⟩
theorem sbW_in {V W : List (Nat × Nat × Nat)} (h : sbW V W = true) {t k f : Nat} (hf : inW W t k f = false) : inW V t k f = false := by
  cases hv : inW V t k f with
  | false => rfl
  | true =>
    exfalso
    obtain ⟨q, hq, hq2⟩ := List.any_eq_true.mp hv
    have h1 := List.all_eq_true.mp h q hq
    obtain ⟨p, hp, hp2⟩ := List.any_eq_true.mp h1
    have h2 : inW W t k f = true := by
      refine List.any_eq_true.mpr ⟨p, hp, ?_⟩
      simp only [Bool.and_eq_true, Bool.or_eq_true, Nat.beq_eq] at hq2 hp2 ⊢
      omega
    rw [h2] at hf
    cases hf
theorem Fr.sub {V W : List (Nat × Nat × Nat)} {σ τ : Mm} (h : Fr V σ τ) (hs : sbW V W = true) : Fr W σ τ :=
  ⟨fun n hn => h.1 n (sbW_in hs hn), fun t i k f hf => h.2 t i k f (sbW_in hs hf)⟩
theorem anW_in {W : List (Nat × Nat × Nat)} {t k : Nat} (h : anW W t k = true) (f : Nat) : inW W t k f = true := by
  obtain ⟨q, hq, hq2⟩ := List.any_eq_true.mp h
  refine List.any_eq_true.mpr ⟨q, hq, ?_⟩
  simp only [Bool.and_eq_true, Bool.or_eq_true, Nat.beq_eq] at hq2 ⊢
  omega
theorem noW_in {W : List (Nat × Nat × Nat)} {t k : Nat} (h : noW W t k = true) (f : Nat) : inW W t k f = false := by
  cases hv : inW W t k f with
  | false => rfl
  | true =>
    exfalso
    obtain ⟨q, hq, hq2⟩ := List.any_eq_true.mp hv
    have h1 := List.all_eq_true.mp h q hq
    simp only [Bool.not_eq_true', Bool.and_eq_false_iff, Bool.and_eq_true, Bool.or_eq_true, Nat.beq_eq] at hq2 h1
    rcases h1 with h1 | h1
    · rw [hq2.1] at h1; simp at h1
    · rw [hq2.2.1] at h1; simp at h1
theorem Fr.A {W : List (Nat × Nat × Nat)} {σ τ : Mm} {t i k j : Nat} {v : Int32} (h : Fr W σ τ) (hw : inW W t k j = true) : Fr W σ (setA τ t i k (upd (mA τ t i k) j v)) := by
  refine ⟨h.1, fun t' i' k' f hf => ⟨?_, (h.2 t' i' k' f hf).2⟩⟩
  show u3 (mA τ) t i k _ t' i' k' f = _
  unfold u3
  split
  · rename_i e
    obtain ⟨rfl, rfl, rfl⟩ := e
    unfold upd
    split
    · rename_i e; subst e; rw [hw] at hf; cases hf
    · exact (h.2 _ _ _ _ hf).1
  · exact (h.2 _ _ _ _ hf).1
theorem Fr.AA {W : List (Nat × Nat × Nat)} {σ τ : Mm} {t i k : Nat} {g : Nat → Int32} (h : Fr W σ τ) (hw : anW W t k = true) : Fr W σ (setA τ t i k g) := by
  refine ⟨h.1, fun t' i' k' f hf => ⟨?_, (h.2 t' i' k' f hf).2⟩⟩
  show u3 (mA τ) t i k _ t' i' k' f = _
  unfold u3
  split
  · rename_i e
    obtain ⟨rfl, rfl, rfl⟩ := e
    rw [anW_in hw] at hf; cases hf
  · exact (h.2 _ _ _ _ hf).1
theorem Fr.LL {W : List (Nat × Nat × Nat)} {σ τ : Mm} {t i k : Nat} {g : Nat → Int64} (h : Fr W σ τ) (hw : anW W t k = true) : Fr W σ (setL τ t i k g) := by
  refine ⟨h.1, fun t' i' k' f hf => ⟨(h.2 t' i' k' f hf).1, ?_⟩⟩
  show u3 (mL τ) t i k _ t' i' k' f = _
  unfold u3
  split
  · rename_i e
    obtain ⟨rfl, rfl, rfl⟩ := e
    rw [anW_in hw] at hf; cases hf
  · exact (h.2 _ _ _ _ hf).2
theorem Fr.P {W : List (Nat × Nat × Nat)} {σ τ : Mm} {n i : Nat} (h : Fr W σ τ) (hw : inW W 9 n 0 = true) : Fr W σ (setP τ n i) := by
  refine ⟨fun m hm => ?_, fun t i k f hf => h.2 t i k f hf⟩
  show (if m = n then i else mP τ m) = _
  split
  · rename_i e; subst e; rw [hw] at hm; cases hm
  · exact h.1 m hm
theorem Fr.row {W : List (Nat × Nat × Nat)} {σ τ : Mm} (h : Fr W σ τ) {t k : Nat} (i : Nat) (hw : noW W t k = true) : mA τ t i k = mA σ t i k := funext fun f => (h.2 t i k f (noW_in hw f)).1
theorem Fr.rowL {W : List (Nat × Nat × Nat)} {σ τ : Mm} (h : Fr W σ τ) {t k : Nat} (i : Nat) (hw : noW W t k = true) : mL τ t i k = mL σ t i k := funext fun f => (h.2 t i k f (noW_in hw f)).2
theorem Fr.fld {W : List (Nat × Nat × Nat)} {σ τ : Mm} (h : Fr W σ τ) {t k f : Nat} (i : Nat) (hw : inW W t k f = false) : mA τ t i k f = mA σ t i k f := (h.2 t i k f hw).1
theorem Fr.p {W : List (Nat × Nat × Nat)} {σ τ : Mm} (h : Fr W σ τ) {n : Nat} (hw : inW W 9 n 0 = false) : mP τ n = mP σ n := h.1 n hw
def FoI (W : List (Nat × Nat × Nat)) (σ : Mm) (o : Option (Int32 × Mm)) : Prop := ∀ r, o = some r → Fr W σ r.2
def FoL (W : List (Nat × Nat × Nat)) (σ : Mm) (o : Option (Int64 × Mm)) : Prop := ∀ r, o = some r → Fr W σ r.2
def FoV (W : List (Nat × Nat × Nat)) (σ : Mm) (o : Option Mm) : Prop := ∀ r, o = some r → Fr W σ r
theorem Ok.frI {W : List (Nat × Nat × Nat)} {σ : Mm} {o : Option (Int32 × Mm)} {Q : Int32 × Mm → Prop} (h : Ok o Q) (hf : FoI W σ o) : Ok o (fun r => Q r ∧ Fr W σ r.2) := by
  obtain ⟨a, h1, h2⟩ := h
  exact ⟨a, h1, h2, hf a h1⟩
theorem Ok.frL {W : List (Nat × Nat × Nat)} {σ : Mm} {o : Option (Int64 × Mm)} {Q : Int64 × Mm → Prop} (h : Ok o Q) (hf : FoL W σ o) : Ok o (fun r => Q r ∧ Fr W σ r.2) := by
  obtain ⟨a, h1, h2⟩ := h
  exact ⟨a, h1, h2, hf a h1⟩
theorem Ok.frV {W : List (Nat × Nat × Nat)} {σ : Mm} {o : Option Mm} {Q : Mm → Prop} (h : Ok o Q) (hf : FoV W σ o) : Ok o (fun r => Q r ∧ Fr W σ r) := by
  obtain ⟨a, h1, h2⟩ := h
  exact ⟨a, h1, h2, hf a h1⟩
section FO
variable {W Wc : List (Nat × Nat × Nat)} {σ τ υ : Mm}
theorem fI_none : FoI W σ none := fun _ h => by cases h
theorem fL_none : FoL W σ none := fun _ h => by cases h
theorem fV_none : FoV W σ none := fun _ h => by cases h
theorem fI_some {v : Int32} (h : Fr W σ τ) : FoI W σ (some (v, τ)) := fun _ e => by cases e; exact h
theorem fL_some {v : Int64} (h : Fr W σ τ) : FoL W σ (some (v, τ)) := fun _ e => by cases e; exact h
theorem fV_some (h : Fr W σ τ) : FoV W σ (some τ) := fun _ e => by cases e; exact h
theorem fI_ite {c : Prop} {dc : Decidable c} {a b : Option (Int32 × Mm)} (h1 : FoI W σ a) (h2 : FoI W σ b) : FoI W σ (@ite _ c dc a b) := by
  by_cases h : c
  · rw [if_pos h]; exact h1
  · rw [if_neg h]; exact h2
theorem fL_ite {c : Prop} {dc : Decidable c} {a b : Option (Int64 × Mm)} (h1 : FoL W σ a) (h2 : FoL W σ b) : FoL W σ (@ite _ c dc a b) := by
  by_cases h : c
  · rw [if_pos h]; exact h1
  · rw [if_neg h]; exact h2
theorem fV_ite {c : Prop} {dc : Decidable c} {a b : Option Mm} (h1 : FoV W σ a) (h2 : FoV W σ b) : FoV W σ (@ite _ c dc a b) := by
  by_cases h : c
  · rw [if_pos h]; exact h1
  · rw [if_neg h]; exact h2
theorem fI_I {o : Option (Int32 × Mm)} {f : Int32 → Mm → Option (Int32 × Mm)} (hF : Fr W σ τ) (hs : sbW Wc W = true) (ho : FoI Wc τ o) (hk : ∀ v υ, Fr W σ υ → FoI W σ (f v υ)) : FoI W σ (bnd o f) := fun r h => by
  obtain ⟨v, υ, h1, h2⟩ := bnd_e h
  exact hk v υ (hF.trans ((ho _ h1).sub hs)) r h2
theorem fI_L {o : Option (Int32 × Mm)} {f : Int32 → Mm → Option (Int64 × Mm)} (hF : Fr W σ τ) (hs : sbW Wc W = true) (ho : FoI Wc τ o) (hk : ∀ v υ, Fr W σ υ → FoL W σ (f v υ)) : FoL W σ (bnd o f) := fun r h => by
  obtain ⟨v, υ, h1, h2⟩ := bnd_e h
  exact hk v υ (hF.trans ((ho _ h1).sub hs)) r h2
theorem fI_V {o : Option (Int32 × Mm)} {f : Int32 → Mm → Option Mm} (hF : Fr W σ τ) (hs : sbW Wc W = true) (ho : FoI Wc τ o) (hk : ∀ v υ, Fr W σ υ → FoV W σ (f v υ)) : FoV W σ (bnd o f) := fun r h => by
  obtain ⟨v, υ, h1, h2⟩ := bnd_e h
  exact hk v υ (hF.trans ((ho _ h1).sub hs)) r h2
theorem fL_I {o : Option (Int64 × Mm)} {f : Int64 → Mm → Option (Int32 × Mm)} (hF : Fr W σ τ) (hs : sbW Wc W = true) (ho : FoL Wc τ o) (hk : ∀ v υ, Fr W σ υ → FoI W σ (f v υ)) : FoI W σ (bnl o f) := fun r h => by
  obtain ⟨v, υ, h1, h2⟩ := bnl_e h
  exact hk v υ (hF.trans ((ho _ h1).sub hs)) r h2
theorem fL_L {o : Option (Int64 × Mm)} {f : Int64 → Mm → Option (Int64 × Mm)} (hF : Fr W σ τ) (hs : sbW Wc W = true) (ho : FoL Wc τ o) (hk : ∀ v υ, Fr W σ υ → FoL W σ (f v υ)) : FoL W σ (bnl o f) := fun r h => by
  obtain ⟨v, υ, h1, h2⟩ := bnl_e h
  exact hk v υ (hF.trans ((ho _ h1).sub hs)) r h2
theorem fL_V {o : Option (Int64 × Mm)} {f : Int64 → Mm → Option Mm} (hF : Fr W σ τ) (hs : sbW Wc W = true) (ho : FoL Wc τ o) (hk : ∀ v υ, Fr W σ υ → FoV W σ (f v υ)) : FoV W σ (bnl o f) := fun r h => by
  obtain ⟨v, υ, h1, h2⟩ := bnl_e h
  exact hk v υ (hF.trans ((ho _ h1).sub hs)) r h2
theorem fV_I {o : Option Mm} {f : Mm → Option (Int32 × Mm)} (hF : Fr W σ τ) (hs : sbW Wc W = true) (ho : FoV Wc τ o) (hk : ∀ υ, Fr W σ υ → FoI W σ (f υ)) : FoI W σ (bnv o f) := fun r h => by
  obtain ⟨υ, h1, h2⟩ := bnv_e h
  exact hk υ (hF.trans ((ho _ h1).sub hs)) r h2
theorem fV_L {o : Option Mm} {f : Mm → Option (Int64 × Mm)} (hF : Fr W σ τ) (hs : sbW Wc W = true) (ho : FoV Wc τ o) (hk : ∀ υ, Fr W σ υ → FoL W σ (f υ)) : FoL W σ (bnv o f) := fun r h => by
  obtain ⟨υ, h1, h2⟩ := bnv_e h
  exact hk υ (hF.trans ((ho _ h1).sub hs)) r h2
theorem fV_V {o : Option Mm} {f : Mm → Option Mm} (hF : Fr W σ τ) (hs : sbW Wc W = true) (ho : FoV Wc τ o) (hk : ∀ υ, Fr W σ υ → FoV W σ (f υ)) : FoV W σ (bnv o f) := fun r h => by
  obtain ⟨υ, h1, h2⟩ := bnv_e h
  exact hk υ (hF.trans ((ho _ h1).sub hs)) r h2
end FO
/-! numbers -/
theorem gT (x : Int32) : x.toInt = Lean.Grind.ToInt.toInt x := rfl
theorem gI (i : Nat) (h : i < 2147483648) : Lean.Grind.ToInt.toInt (nI i) = (i : Int) := by
  rw [← gT]; exact nI_toInt h
theorem gC (x : Int32) (h : 0 ≤ x) : x = nI x.toNatClampNeg ∧ x.toNatClampNeg < 2147483648 := by
  have h1 : (0 : Int) ≤ x.toInt := Int32.le_iff_toInt_le.mp h
  have h2 := Int32.toInt_lt x
  have h3 : x.toNatClampNeg < 2147483648 := by
    show x.toInt.toNat < 2147483648
    omega
  refine ⟨?_, h3⟩
  apply Int32.toInt_inj.mp
  rw [nI_toInt h3]
  show x.toInt = ((x.toInt.toNat : Nat) : Int)
  omega
theorem gB (x : Int32) (n : Nat) (h : 0 ≤ x) (h1 : x.toNatClampNeg < n) : inb x n = true := by
  unfold inb; grind
theorem gB' (x : Int32) (n : Nat) (h : inb x n = true) : 0 ≤ x ∧ x.toNatClampNeg < n := by
  unfold inb at h; grind
theorem gD (x y : Int32) (h : 0 ≤ x) (h1 : 0 < y) : x / y = nI (x.toNatClampNeg / y.toNatClampNeg) := by
  have hx := (gC x h).1
  have hy := (gC y (by grind)).1
  have h0 : 0 < y.toNatClampNeg := by
    apply Nat.pos_of_ne_zero
    intro z
    rw [z] at hy
    rw [hy] at h1
    exact absurd h1 (by decide)
  rw [← pk_div (gC x h).2 h0 (gC y (by grind)).2, ← hx, ← hy]
theorem gD14 (x : Int32) (h : 0 ≤ x) : x / 14 = nI (x.toNatClampNeg / 14) := gD x 14 h (by decide)
theorem gM14 (x : Int32) (h : 0 ≤ x) : x - x / 14 * 14 = nI (x.toNatClampNeg % 14) := by
  have hx := (gC x h).1
  rw [← pk_rem (gC x h).2 (d := 14) (by decide) (by decide), ← hx]
  rfl
theorem u3_at {α : Type} (f : Nat → Nat → Nat → α) (t i k : Nat) (g : α) (t' i' k' : Nat) : u3 f t i k g t' i' k' = if t' = t ∧ i' = i ∧ k' = k then g else f t' i' k' := rfl
theorem upd_at (f : Nat → Int32) (k : Nat) (x : Int32) (j : Nat) : upd f k x j = if j = k then x else f j := rfl
theorem mA_A {σ : Mm} {t i k : Nat} {g : Nat → Int32} (t' i' k' f : Nat) : mA (setA σ t i k g) t' i' k' f = if t' = t ∧ i' = i ∧ k' = k then g f else mA σ t' i' k' f := by
  show u3 (mA σ) t i k g t' i' k' f = _
  unfold u3
  split <;> rfl
theorem mL_A {σ : Mm} {t i k : Nat} {g : Nat → Int32} (t' i' k' f : Nat) : mL (setA σ t i k g) t' i' k' f = mL σ t' i' k' f := rfl
theorem mP_A {σ : Mm} {t i k : Nat} {g : Nat → Int32} (n : Nat) : mP (setA σ t i k g) n = mP σ n := rfl
theorem mA_L {σ : Mm} {t i k : Nat} {g : Nat → Int64} (t' i' k' f : Nat) : mA (setL σ t i k g) t' i' k' f = mA σ t' i' k' f := rfl
theorem mP_L {σ : Mm} {t i k : Nat} {g : Nat → Int64} (n : Nat) : mP (setL σ t i k g) n = mP σ n := rfl
theorem mL_L {σ : Mm} {t i k : Nat} {g : Nat → Int64} (t' i' k' f : Nat) : mL (setL σ t i k g) t' i' k' f = if t' = t ∧ i' = i ∧ k' = k then g f else mL σ t' i' k' f := by
  show u3 (mL σ) t i k g t' i' k' f = _
  unfold u3
  split <;> rfl
theorem c0 : (0 : Int32).toNatClampNeg = 0 := rfl
theorem byt (x : Int32) : vp_nar .byte ((Int32.toInt8 x).toInt32) &&& 255 = x &&& 255 := by
  rw [pk_vb]
  apply Int32.toBitVec_inj.mp
  apply BitVec.eq_of_getLsbD_eq
  intro i hi
  have h255 : (255 : Int32).toBitVec = (255 : BitVec 32) := rfl
  simp only [Int32.toBitVec_and, h255, BitVec.getLsbD_and]
  by_cases h8 : i < 8
  · have : (Int32.toInt8 x).toInt32.toBitVec.getLsbD i = x.toBitVec.getLsbD i := by
      rw [Int8.toBitVec_toInt32, Int32.toBitVec_toInt8, BitVec.getLsbD_signExtend, BitVec.getLsbD_signExtend]
      simp only [h8, hi, if_true, decide_true, Bool.true_and]
    rw [this]
  · have : (255 : BitVec 32).getLsbD i = false := by
      have h : ∀ i, i < 32 → ¬ i < 8 → (255 : BitVec 32).getLsbD i = false := by decide
      exact h i hi h8
    rw [this]; simp
theorem mA_R {σ : Mm} {t i k : Nat} {g : Nat → Int32} (t' i' k' : Nat) : mA (setA σ t i k g) t' i' k' = if t' = t ∧ i' = i ∧ k' = k then g else mA σ t' i' k' := by
  show u3 (mA σ) t i k g t' i' k' = _
  unfold u3
  split <;> rfl
