/-! the model's things -/
theorem mNa.of {T : Tk} {σ : Mm} {X X' : Xt} (h : mNa T σ X) (e : qL X' = qL X) : mNa T σ X' := by
  unfold mNa; rw [e]; exact h
theorem m_names {T : Tk} {p : Nat} {v : Int32} {σ0 σ : Mm} {X : Xt} {B : Option (Nat × Nat)} {f : Int32 → Mm → Option (Int32 × Mm)} {Q : Int32 × Mm → Prop} (hA : AN T σ0) (h : MK T σ0 p σ) (hX : nkX T X) (hL : (qL X).length < 20) (hN : mNa T σ X) (hB : mBl T σ p B)
    (h1 : ∀ τ, t1 T 2 p = .ok (p + 1) → MK T σ0 (p + 1) τ → (∀ X', qL X' = qL X ++ [(p, v)] → mNa T τ X') → mBl T τ (p + 1) (bla B (nmd T X p = true) 3 p) → Fr W_X12_names σ τ → Ok (f 1 τ) Q) (h0 : ∀ e τ, t1 T 2 p = .error e → MF T σ0 e τ → Ok (f 0 τ) Q) : Ok (bnd (F_X12_names v σ) f) Q := by
  have hpK := h.2.1
  have hp4 := h.2.2.1
  have hg := h.2.2.2.1
  refine Ok_B (P := fun q => Fr W_X12_names σ q.2 ∧ ((∃ e, t1 T 2 p = .error e ∧ q.1 = 0 ∧ MF T σ0 e q.2) ∨ (t1 T 2 p = .ok (p + 1) ∧ q.1 = 1 ∧ MK T σ0 (p + 1) q.2 ∧ (∀ X', qL X' = qL X ++ [(p, v)] → mNa T q.2 X') ∧ mBl T q.2 (p + 1) (bla B (nmd T X p = true) 3 p)))) ?_ (fun w τ hv => ?_)
  · have key : Ok (F_X12_names v σ) (fun q => (∃ e, t1 T 2 p = .error e ∧ q.1 = 0 ∧ MF T σ0 e q.2) ∨ (t1 T 2 p = .ok (p + 1) ∧ q.1 = 1 ∧ MK T σ0 (p + 1) q.2 ∧ (∀ X', qL X' = qL X ++ [(p, v)] → mNa T q.2 X') ∧ mBl T q.2 (p + 1) (bla B (nmd T X p = true) 3 p))) := by
      unfold F_X12_names
      rw [hpK]
      refine Ok_B ((s_takes hA h (c := 2) (s := 0) (Or.inl ⟨rfl, rfl⟩)).frI fr_X12_takes) (fun w τ hv => ?_)
      obtain ⟨hv, f1⟩ := hv
      have f1 : Fr [(3, 0, 7), (3, 0, 8), (3, 0, 9)] σ τ := f1
      unfold F_X12_names_10
      cases ht : t1 T 2 p with
      | error e =>
        rw [ht] at hv
        have hv1 : w = 0 := hv.1
        exact Ok_t hv1 (Ok_r (Or.inl ⟨e, rfl, rfl, hv.2⟩))
      | ok q =>
        rw [ht] at hv
        obtain ⟨k3, k4, rfl⟩ := t1_ok ht
        have hv1 : w = 1 := hv.1
        have hK : MK T σ0 (p + 1) τ := hv.2
        refine Ok_f (by rw [hv1]; decide) ?_
        have hb0 : B = none ∨ ∃ e, B = some e ∧ (e.2 = p → e.1 ≤ 3) := by
          cases B with
          | none => exact Or.inl rfl
          | some e => exact Or.inr ⟨e, rfl, fun z => by have := hB.2.2.2.2; omega⟩
        refine (nm_17 (v := v) hA hX hL hp4 hg k3 FU 0 τ B (by show _ < 1000000; omega) (Nat.zero_le _) hK (hN.fr f1 rfl) ((hB.fr f1 rfl).mono (by omega)) hb0).mono (fun q hq => Or.inr ⟨rfl, hq.1, hq.2.1, fun X' e => hq.2.2.1.of e, hq.2.2.2⟩)
    exact (key.frI fr_X12_names).mono (fun q hq => ⟨hq.2, hq.1⟩)
  · obtain ⟨f1, hv⟩ := hv
    rcases hv with ⟨e, z1, z2, z3⟩ | ⟨z1, z2, z3, z4, z5⟩
    · have z2 : w = 0 := z2
      rw [z2]; exact h0 e τ z1 z3
    · have z2 : w = 1 := z2
      rw [z2]; exact h1 τ z1 z3 z4 z5 f1
def sqE (T : Tk) (p x : Nat) : Bool := decide (tV T (x + 2) = tV T (p + 2) ∧ tV T (x + 3) = tV T (p + 3))
theorem th_104 {T : Tk} {p : Nat} {x1 : Int32} {σ0 σs : Mm} {X : Xt} {BB : Option (Nat × Nat)} {Q : Int32 × Mm → Prop} (hA : AN T σ0) (hL : (qT X).length < 14) (hp : p + 3 ≤ 400) (hg : gTk T (p + 3))
    (hk : ∀ τ, MK T σ0 (p + 4) τ → Fr W_X12_tells σs τ → mBl T τ (p + 4) BB → Ok (bnd (F_X12_takesInt 0 9999 τ) (fun v τ => F_X12_tellThing_162 x1 (nI (14 + (qT X).length)) v τ)) Q) : ∀ (n t : Nat) (σ : Mm) (B : Option (Nat × Nat)), 15 - t < n → t ≤ (qT X).length → MK T σ0 (p + 4) σ → Fr W_X12_tells σs σ → mTh T σ X →
    mA σ 3 0 10 (14 + (qT X).length) = nI (tV T (p + 2)) → mA σ 3 0 11 (14 + (qT X).length) = nI (tV T (p + 3)) → mBl T σ (p + 4) B → ((qT X).any (sqE T p) = true → (B = none ∨ ∃ e, B = some e ∧ (e.2 = p + 3 → e.1 ≤ 3))) → bla B (((qT X).drop t).any (sqE T p) = true) 3 (p + 3) = BB →
    Ok (F_X12_tellThing_104 n x1 (nI (14 + (qT X).length)) (nI (p + 3)) (nI (14 + t)) σ) Q := by
  intro n
  induction n with
  | zero => intro t σ B h; omega
  | succ n ih =>
    intro t σ B hn ht hK hF hT r10 r11 hB hB0 hBB
    change Ok (B_X12_tellThing_104 (F_X12_tellThing_104 n) _ _ _ _ _) _
    unfold B_X12_tellThing_104
    by_cases c : (qT X).length ≤ t
    · have e : t = (qT X).length := by omega
      subst e
      refine Ok_t (nI_le (Nat.le_refl _) (by omega)) (hk σ hK hF ?_)
      have hd : ((qT X).drop (qT X).length).any (sqE T p) = false := by rw [List.drop_length]; rfl
      rw [hd] at hBB
      have hb : bla B (false = true) 3 (p + 3) = B := if_neg (by decide)
      rw [hb] at hBB
      rw [← hBB]; exact hB
    · have hlt : t < (qT X).length := by omega
      have it : inb (nI (14 + t)) 70 = true := by
        have : 14 + t < 70 := by omega
        generalize 14 + t = z at *
        clear hA hK hB hB0 ih hF hk hT hg; grind [gI, gB, gC]
      have il : inb (nI (14 + (qT X).length)) 70 = true := by
        have : 14 + (qT X).length < 70 := by omega
        generalize 14 + (qT X).length = z at *
        clear hA hK hB hB0 ih hF hk hT hg it; grind [gI, gB, gC]
      have ct : (nI (14 + t)).toNatClampNeg = 14 + t := nI_clamp (by omega)
      have cl : (nI (14 + (qT X).length)).toNatClampNeg = 14 + (qT X).length := nI_clamp (by omega)
      have hget : (qT X)[t]? = some (qT X)[t] := List.getElem?_eq_getElem hlt
      generalize he : (qT X)[t] = x at hget
      obtain ⟨o1, o2, -⟩ := hT t x hget
      have hdr : (qT X).drop t = x :: (qT X).drop (t + 1) := by rw [← he]; exact List.drop_eq_getElem_cons hlt
      have hv : ∀ z, tV T z ≤ 9999 := hA.1.2.2.2.1
      refine Ok_f (nI_ge (by omega) (by omega)) (Ok_t it (Ok_t il ?_))
      rw [ct, cl, o1, o2, r10, r11]
      unfold F_X12_tellThing_148
      rw [nI_1, show 14 + t + 1 = 14 + (t + 1) from by omega]
      rw [hdr, List.any_cons] at hBB
      have no : ¬ (tV T (x + 2) = tV T (p + 2) ∧ tV T (x + 3) = tV T (p + 3)) → Ok (F_X12_tellThing_104 n x1 (nI (14 + (qT X).length)) (nI (p + 3)) (nI (14 + (t + 1))) σ) Q := by
        intro z
        have hs : sqE T p x = false := decide_eq_false z
        rw [hs, Bool.false_or] at hBB
        exact ih (t + 1) σ B (by omega) (by omega) hK hF hT r10 r11 hB hB0 hBB
      by_cases c1 : tV T (x + 2) = tV T (p + 2)
      · refine Ok_t (by rw [c1]) (Ok_t it (Ok_t il ?_))
        by_cases c2 : tV T (x + 3) = tV T (p + 3)
        · refine Ok_t (by rw [c2]) ?_
          have hs : sqE T p x = true := decide_eq_true ⟨c1, c2⟩
          rw [hs, Bool.true_or] at hBB
          have e1 : bla B (true = true) 3 (p + 3) = addB B 3 (p + 3) := if_pos rfl
          rw [e1] at hBB
          have hany : (qT X).any (sqE T p) = true := List.any_eq_true.mpr ⟨x, List.mem_of_getElem? hget, hs⟩
          have e2 : ∀ (b : Nat × Nat) (q : Prop) [Decidable q], bla (some b) q 3 (p + 3) = some b := by
            intro b q _; unfold bla addB; split <;> rfl
          rcases hB0 hany with rfl | ⟨e', rfl, h3⟩
          · refine Ok_V (s_tells (x := p + 3) (c := 3) hA hK (show mBl T σ (p + 3) none from hB) ⟨by omega, by omega⟩ hp hg) (fun τ hτ => ?_)
            obtain ⟨k1, k2, k3⟩ := hτ
            have e3 : bla none True 3 (p + 3) = some (3, p + 3) := if_pos trivial
            rw [e3] at k2
            refine ih (t + 1) τ (some (3, p + 3)) (by omega) (by omega) k1 (hF.trans k3) (hT.fr k3 rfl) (by rw [k3.row (t := 3) (k := 10) 0 rfl]; exact r10) (by rw [k3.row (t := 3) (k := 11) 0 rfl]; exact r11) k2 (fun _ => Or.inr ⟨_, rfl, fun _ => Nat.le_refl _⟩) ?_
            rw [e2]; exact hBB
          · rw [s_again (y := p + 3) hA hK hB h3 hp hg, bnv_s]
            refine ih (t + 1) σ (some e') (by omega) (by omega) hK hF hT r10 r11 hB hB0 ?_
            rw [e2]; exact hBB
        · exact Ok_f (fun z => c2 ((nI_eq (by have := hv (x + 3); omega) (by have := hv (p + 3); omega)).mp z)) (no (fun z => c2 z.2))
      · exact Ok_f (fun z => c1 ((nI_eq (by have := hv (x + 2); omega) (by have := hv (p + 2); omega)).mp z)) (no (fun z => c1 z.1))
