/-! the model's COND as a whole -/
theorem flR_app {c : Cd} {r : List Lt} : ∀ s, flR (c ++ [r]) s = flR c s ++ r.map (fun l => (s + c.length, l)) := by
  induction c with
  | nil => intro s; show r.map _ ++ [] = [] ++ r.map _; rw [List.append_nil]; rfl
  | cons x c ih =>
    intro s
    show x.map _ ++ flR (c ++ [r]) (s + 1) = (x.map _ ++ flR c (s + 1)) ++ _
    rw [ih, List.append_assoc, show s + 1 + c.length = s + (x :: c).length by rw [List.length_cons]; omega]
theorem m_after {T : Tk} {l0 c0 : Nat} {σ0 : Mm} {g k : Nat → Int32} {B : Nat → Nat → Int32} {Q : Int32 × Mm → Prop} (hA : AN T σ0) : ∀ (n m q c : Nat) (cc : Cd) (r : List Lt) (σ : Mm), 402 - q < n → 500 ≤ m + q → MC T σ0 l0 c0 g k B q (flR cc 0 ++ r.map (fun l => (cc.length, l))) c σ → c ≤ q → 3 * (l0 + (flR cc 0 ++ r.map (fun l => (cc.length, l))).length) ≤ q →
    (∀ c' q', xC T m cc r q = .ok (c', q') → ∀ τ cd, MC T σ0 l0 c0 g k B q' (flR c' 0) cd τ → cd ≤ q' → 3 * (l0 + (flR c' 0).length) ≤ q' → Q (1, τ)) → (∀ e, xC T m cc r q = .error e → ∀ τ, MF T σ0 e τ → Q (0, τ)) → Ok (F_X12_cond_221 (F_X12_cond_14 n) (nI cc.length) σ) Q := by
  intro n
  induction n with
  | zero => intro m q c cc r σ h; omega
  | succ n ih =>
    intro m q c cc r σ hn hm h hc h3 hk he
    have hq4 : q ≤ 400 := h.1.2.2.1
    have hg := h.1.2.2.2.1
    obtain ⟨m, rfl⟩ : ∃ m', m = m' + 1 := ⟨m - 1, by omega⟩
    rw [xC_s] at hk he
    have g11 : F_X12_isWord 11 σ = _ := s_isWordM (s := 26) (c := 11) hA h.1 (by omega) rfl
    have g12 : F_X12_isWord 12 σ = _ := s_isWordM (s := 25) (c := 12) hA h.1 (by omega) rfl
    unfold F_X12_cond_221 F_X12_cond_227 F_X12_cond_236 F_X12_cond_239 F_X12_cond_244 F_X12_cond_251 F_X12_cond_257 F_X12_cond_270
    rw [g11, bnd_s, g12, bnd_s, bnd_s]
    have pss : tK T q ≠ 0 → tK T q ≠ 1 → ∀ (cc2 : Cd) (row : Nat), (∀ τ, q < 400 → MC T σ0 l0 c0 g k B (q + 1) (flR cc 0 ++ r.map (fun l => (cc.length, l))) c τ → Ok (F_X12_cond_14 (n + 1) (nI row) 1 τ) Q) → (¬ q < 400 → ∀ τ, MF T σ0 (2, q) τ → Q (0, τ)) → Ok (bnd (F_X12_pass σ) (fun v τ => F_X12_cond_265 (F_X12_cond_14 (n + 1)) (nI row) 1 v τ)) Q := by
      intro k0 k1 _ row h1 h2
      refine Ok_B ((s_pass hA h.1 k0 k1).frI fr_X12_pass) (fun v τ hv => ?_)
      obtain ⟨hv, f⟩ := hv
      unfold F_X12_cond_265 F_X12_cond_270
      by_cases c2 : q < 400
      · rw [if_pos c2] at hv
        have hv1 : v = 1 := hv.1
        subst hv1
        exact Ok_f ne10 (h1 τ c2 (h.fr hv.2 f rfl))
      · rw [if_neg c2] at hv
        have hv1 : v = 0 := hv.1
        subst hv1
        exact Ok_t rfl (Ok_r (h2 c2 τ hv.2))
    by_cases c1 : tK T q = 26
    · rw [if_pos c1] at hk he
      rw [if_pos c1, if_neg ne10, if_neg (show ¬ tK T q = 25 by omega), if_pos rfl, if_neg ne10]
      refine pss (by omega) (by omega) cc cc.length (fun τ hq hτ => ?_) (fun hq τ hF => ?_)
      · rw [if_pos hq] at hk he
        refine m_lit hA hτ (by omega) (by omega) (fun l q1 hl υ c' hυ hc' => ?_) (fun e hl υ hF => ?_)
        · rw [hl] at hk he
          have z3 := xLit_3 (by omega) (gTk_s hg (by omega) (by omega)) hl
          have hF : flR cc 0 ++ (r ++ [l]).map (fun l => (cc.length, l)) = (flR cc 0 ++ r.map (fun l => (cc.length, l))) ++ [(cc.length, l)] := by
            rw [List.map_append, List.append_assoc]; rfl
          exact ih m q1 c' cc (r ++ [l]) υ (by omega) (by omega) (by rw [hF]; exact hυ) hc' (by rw [hF, List.length_append]; show 3 * (l0 + (_ + 1)) ≤ q1; omega) hk he
        · rw [hl] at he
          exact he e rfl υ hF
      · rw [if_neg hq] at he
        exact he _ rfl τ hF
    · rw [if_neg c1] at hk he
      rw [if_neg c1, if_pos rfl]
      by_cases c3 : tK T q = 25
      · rw [if_pos c3] at hk he
        rw [if_pos c3, if_neg ne10, g12, bnd_s, if_pos c3, if_neg ne10, if_neg ne10, nI_1]
        refine pss (by omega) (by omega) cc (cc.length + 1) (fun τ hq hτ => ?_) (fun hq τ hF => ?_)
        · rw [if_pos hq] at hk he
          refine m_lit hA hτ (by omega) (by omega) (fun l q1 hl υ c' hυ hc' => ?_) (fun e hl υ hF => ?_)
          · rw [hl] at hk he
            have z3 := xLit_3 (by omega) (gTk_s hg (by omega) (by omega)) hl
            have hlc : (cc ++ [r]).length = cc.length + 1 := by rw [List.length_append]; rfl
            have hF : flR (cc ++ [r]) 0 ++ [l].map (fun l => ((cc ++ [r]).length, l)) = (flR cc 0 ++ r.map (fun l => (cc.length, l))) ++ [(cc.length + 1, l)] := by
              rw [flR_app, Nat.zero_add, hlc]; rfl
            have i1 := ih m q1 c' (cc ++ [r]) [l] υ (by omega) (by omega) (by rw [hF]; exact hυ) hc' (by rw [hF, List.length_append]; show 3 * (l0 + (_ + 1)) ≤ q1; omega) hk he
            rw [hlc] at i1
            exact i1
          · rw [hl] at he
            exact he e rfl υ hF
        · rw [if_neg hq] at he
          exact he _ rfl τ hF
      · rw [if_neg c3] at hk
        rw [if_neg c3, if_pos rfl, g12, bnd_s, if_neg c3, if_pos rfl, if_pos rfl]
        show Ok (B_X12_cond_14 (F_X12_cond_14 n) _ _ _) _
        unfold B_X12_cond_14
        have hF : flR (cc ++ [r]) 0 = flR cc 0 ++ r.map (fun l => (cc.length, l)) := by rw [flR_app, Nat.zero_add]
        exact Ok_t rfl (Ok_r (hk _ _ rfl σ c (by rw [hF]; exact h) hc (by rw [hF]; exact h3)))
theorem ebd_k {α β : Type} {a : α} {f : α → Er β} : ebd (.ok a) f = f a := rfl
theorem s_condM {T : Tk} {l0 c0 p : Nat} {σ0 σ : Mm} {Q : Int32 × Mm → Prop} {g k : Nat → Int32} {B : Nat → Nat → Int32} (hA : AN T σ0) (hK : MK T σ0 p σ) (hc : mA σ 3 0 28 1 = nI c0) (hcp : c0 ≤ p) (hl : mA σ 3 0 31 1 = nI l0) (hl3 : 3 * l0 ≤ p)
    (hg : ∀ j, j < c0 → mA σ 3 0 29 (500 + j) = g j ∧ mA σ 3 0 30 (500 + j) = k j) (hB : ∀ kk j, 32 ≤ kk → kk ≤ 37 → j < l0 → mA σ 3 0 kk (200 + j) = B kk j)
    (hk : ∀ c' q', xCond T p = .ok (c', q') → ∀ τ cd, MC T σ0 l0 c0 g k B q' (flR c' 0) cd τ → cd ≤ q' → 3 * (l0 + (flR c' 0).length) ≤ q' → Q (1, τ)) (he : ∀ e, xCond T p = .error e → ∀ τ, MF T σ0 e τ → Q (0, τ)) : Ok (F_X12_cond σ) Q := by
  obtain ⟨h1, h2, h3, h4, h5⟩ := id hK
  unfold F_X12_cond F_X12_cond_10
  rw [show (1 : Int32).toNatClampNeg = 1 from rfl, hl]
  refine Ok_t (by decide) ?_
  have eS : ∀ kk x, (kk ≠ 0 ∨ x ≠ 59) → mA (setA σ 3 0 0 (upd (mA σ 3 0 0) 59 (nI l0))) 3 0 kk x = mA σ 3 0 kk x := fun kk x hkk => by
    rw [mA_A]
    by_cases c : kk = 0
    · subst c; rw [if_pos ⟨rfl, rfl, rfl⟩, upd_at, if_neg (by omega)]
    · rw [if_neg (fun z => c z.2.2)]
  have hM : MC T σ0 l0 c0 g k B p [] c0 (setA σ 3 0 0 (upd (mA σ 3 0 0) 59 (nI l0))) := by
    refine ⟨⟨h1.A rfl (Or.inl sz0), ?_, h3, h4, ?_⟩, ?_, Nat.le_refl _, fun j hj => ?_, ?_, fun kk j k1 k2 hj => ?_, fun j z hj => (by cases hj), ?_⟩
    · rw [eS 0 7 (by omega)]; exact h2
    · rw [eS 0 8 (by omega), eS 0 9 (by omega)]; exact h5
    · rw [eS 28 1 (by omega)]; exact hc
    · rw [eS 29 _ (by omega), eS 30 _ (by omega)]; exact hg j hj
    · rw [eS 31 1 (by omega)]; exact hl
    · rw [eS kk _ (by omega)]; exact hB kk j k1 k2 hj
    · simp only [mA_A, mL_A, mP_A, mA_L, mL_L, mP_L, upd_at]; simp
  unfold xCond at hk he
  obtain ⟨n, hn, hn2⟩ : ∃ n, FU = n + 1 ∧ 500 < n := ⟨999999, rfl, by decide⟩
  rw [hn]
  show Ok (F_X12_cond_14 (n + 1) (nI 0) 1 _) Q
  refine m_lit hA hM hcp (by show 3 * (l0 + 0) ≤ p; omega) (fun l q hx τ c' hτ hc' => ?_) (fun e hx τ hF => ?_)
  · rw [hx, ebd_k] at hk he
    dsimp only at hk he
    have z3 := xLit_3 h3 h4 hx
    exact m_after hA n XF q c' [] [l] τ (by omega) (by show 500 ≤ 500 + _; omega) hτ hc' (by show 3 * (l0 + 1) ≤ q; omega) hk he
  · rw [hx] at he
    exact he e rfl τ hF
