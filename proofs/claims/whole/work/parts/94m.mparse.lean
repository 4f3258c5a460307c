/-- what the model's parsing leaves -/
def oMx (T : Tk) (σ0 : Mm) (r : Er Xt) (q : Int32 × Mm) : Prop := match r with
  | .ok X => q.1 = 1 ∧ okX T X ∧ okJ T X ∧ ∃ p, MRX T σ0 X p q.2
  | .error e => q.1 = 0 ∧ MF T σ0 e q.2
theorem m_parses {T : Tk} {σ0 : Mm} {R : Er Xt} (hA : AN T σ0) : ∀ (n m p : Nat) (X : Xt) (σ : Mm), tTx T m X p = R → 402 - p < n → 500 ≤ m + p → okX T X → okJ T X → MRX T σ0 X p σ → Ok (F_X12_parses_5 n σ) (oMx T σ0 R) := by
  intro n
  induction n with
  | zero => intro m p X σ _ h; omega
  | succ n ih =>
    intro m p X σ hR hn hm hX hY h
    obtain ⟨c, l, hcp, hlp, hK, -⟩ := id h
    have hp4 := hK.2.2.1
    have hg := hK.2.2.2.1
    have hk36 := hA.1.1 p
    have hs5 := (so_le (tK T p) (by omega)).1
    have h04 := (so_name (tK T p) (by omega)).2.2.1
    obtain ⟨m, rfl⟩ : ∃ m', m = m' + 1 := ⟨m - 1, by omega⟩
    have hR : (if tK T p = 0 then .ok X else ebd (tAll T X p) (fun a => tTx T m a.1 a.2)) = R := hR
    change Ok (B_X12_parses_5 (F_X12_parses_5 n) _) _
    unfold B_X12_parses_5
    rw [hK.2.1, (ih1 hp4).2, (hA.t hK.1 hp4 hg).1]
    refine Ok_t (ih1 hp4).1 ?_
    by_cases c0 : tK T p = 0
    · rw [if_pos c0] at hR
      subst hR
      exact Ok_t (by rw [h04.mpr c0]; rfl) (Ok_r ⟨rfl, hX, hY, p, h⟩)
    rw [if_neg c0] at hR
    refine Ok_f (fun z => c0 (h04.mp ((kq (c := 4) (by omega) (by omega)).mp z))) (Ok_B (m_tell hA h hX hY) (fun v τ hv => ?_))
    unfold F_X12_parses_22
    have hE : tAll T X p = end4 T (tAll0 T X p) := tAll_end
    cases hr : tAll0 T X p with
    | error e =>
      rw [hr] at hv hE
      have hE : tAll T X p = .error e := hE
      rw [hE] at hR
      have hR : (Except.error e : Er Xt) = R := hR
      subst hR
      have hv1 : v = 0 := hv.1
      exact Ok_t hv1 (Ok_r ⟨rfl, hv.2⟩)
    | ok a =>
      obtain ⟨X', p1⟩ := a
      rw [hr] at hv hE
      obtain ⟨hv1, c', l', hc', hl', hK', hR'⟩ := hv
      have hv1 : v = 1 := hv1
      have hK' : MK T σ0 p1 τ := hK'
      have hc' : c' ≤ p1 := hc'
      have hl' : 3 * l' ≤ p1 := hl'
      have hR' : MR T c' l' p1 X' τ := hR'
      have hE : tAll T X p = ebd (t1 T 4 p1) (fun q => .ok (X', q)) := hE
      refine Ok_f (by rw [hv1]; decide) ?_
      rw [show F_X12_isSign 59 τ = some (if tK T p1 = 4 then 1 else 0, τ) from s_isSign hA hK' (s := 4) (c := 59) (by decide) rfl, bnd_s]
      unfold F_X12_parses_33
      by_cases c4 : tK T p1 = 4
      · rw [if_pos c4]
        refine Ok_f ne10 (m_pas hA hK' c4 (by omega) (fun υ te K2 f1 => ?_) (fun e υ te hF => ?_))
        · have f1 : Fr [(3, 0, 7), (3, 0, 8), (3, 0, 9)] τ υ := f1
          unfold F_X12_parses_46
          rw [te, ebd_k] at hE
          rw [hE, ebd_k] at hR
          refine Ok_f ne10 ?_
          obtain ⟨z1, z2⟩ := okX_step hA.1 hX hp4 hg hE
          have z3 := okJ_step hX hY hp4 hg hE
          obtain ⟨r1, r2, r3, r4, r5, r6, r7, r8, r9, r10⟩ := hR'
          refine ih m (p1 + 1) X' υ hR (by omega) (by omega) z1 z3 ⟨c', l', by omega, by omega, K2, r1.fr f1 rfl, r2.fr f1 rfl, r3.fr f1 rfl, r4.fr f1 rfl, r5.fr f1 rfl, r6.fr f1 rfl, r7.fr f1 rfl, (r8.fr f1 rfl).mono (by omega), ?_, ?_⟩
          · rw [f1.row (t := 3) (k := 28) 0 rfl]; exact r9
          · rw [f1.row (t := 3) (k := 31) 0 rfl]; exact r10
        · unfold F_X12_parses_46
          have hE : tAll T X p = .error e := by rw [hE, te]; rfl
          rw [hE] at hR
          have hR : (Except.error e : Er Xt) = R := hR
          subst hR
          exact Ok_t rfl (Ok_r ⟨rfl, hF⟩)
      · rw [if_neg c4]
        have te : t1 T 4 p1 = .error (1, p1) := if_neg c4
        have hE : tAll T X p = .error (1, p1) := by rw [hE, te]; rfl
        rw [hE] at hR
        have hR : (Except.error (1, p1) : Er Xt) = R := hR
        subst hR
        refine Ok_t rfl (Ok_B (s_wrong hA hK' (x := 1) (Or.inl rfl)) (fun w υ hw => ?_))
        unfold F_X12_parses_41
        have hw1 : w = 0 := hw.1
        refine Ok_t (by rw [hw1]; decide) (Ok_r ?_)
        rw [hw1]; exact ⟨rfl, hw.2⟩
