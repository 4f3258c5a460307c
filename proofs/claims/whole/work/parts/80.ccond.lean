/-! a COND: its LITs, its rows; what the class writes of it -/
def xN (T : Tk) : Nat → Bool → Nat → Er (Bool × Nat)
  | 0, _, p => .error (1, p)
  | n + 1, b, p => if tK T p = 27 then (if p < 400 then xN T n (!b) (p + 1) else .error (2, p)) else .ok (b, p)
def cmpI (k : Nat) : Nat := if k = 10 then 0 else if k = 11 then 1 else if k = 13 then 2 else 3
def xLit2 (T : Tk) (b : Bool) (e1 : Ex) : Er (Lt × Nat) := if 10 ≤ tK T e1.2 ∧ tK T e1.2 ≤ 13 then (if e1.2 < 400 then ebd (xS T 7 (e1.2 + 1)) (fun e2 => .ok ((b, cmpI (tK T e1.2), e1.1, e2.1), e2.2)) else .error (2, e1.2)) else .error (1, e1.2)
def xLit (T : Tk) (p : Nat) : Er (Lt × Nat) := ebd (xN T XF false p) (fun a => ebd (xS T 7 a.2) (fun e1 => xLit2 T a.1 e1))
def xC (T : Tk) : Nat → Cd → List Lt → Nat → Er (Cd × Nat)
  | 0, _, _, p => .error (1, p)
  | n + 1, c, r, p => if tK T p = 26 then (if p < 400 then ebd (xLit T (p + 1)) (fun a => xC T n c (r ++ [a.1]) a.2) else .error (2, p))
      else if tK T p = 25 then (if p < 400 then ebd (xLit T (p + 1)) (fun a => xC T n (c ++ [r]) [a.1] a.2) else .error (2, p)) else .ok (c ++ [r], p)
def xCond (T : Tk) (p : Nat) : Er (Cd × Nat) := ebd (xLit T p) (fun a => xC T XF [] [a.1] a.2)
theorem xN_s {T : Tk} {n : Nat} {b : Bool} {p : Nat} : xN T (n + 1) b p = if tK T p = 27 then (if p < 400 then xN T n (!b) (p + 1) else .error (2, p)) else .ok (b, p) := rfl
theorem xC_s {T : Tk} {n : Nat} {c : Cd} {r : List Lt} {p : Nat} : xC T (n + 1) c r p = if tK T p = 26 then (if p < 400 then ebd (xLit T (p + 1)) (fun a => xC T n c (r ++ [a.1]) a.2) else .error (2, p))
      else if tK T p = 25 then (if p < 400 then ebd (xLit T (p + 1)) (fun a => xC T n (c ++ [r]) [a.1] a.2) else .error (2, p)) else .ok (c ++ [r], p) := rfl
theorem xN_ok {T : Tk} : ∀ n b p b' q, p ≤ 400 → gTk T p → xN T n b p = .ok (b', q) → p ≤ q ∧ q ≤ 400 ∧ gTk T q ∧ (b' ≠ b → p < q) := by
  intro n
  induction n with
  | zero => intro b p b' q _ _ h; cases h
  | succ n ih =>
    intro b p b' q hp hg h
    rw [xN_s] at h
    by_cases c1 : tK T p = 27
    · rw [if_pos c1] at h
      by_cases c2 : p < 400
      · rw [if_pos c2] at h
        obtain ⟨z1, z2, z3, z4⟩ := ih _ _ _ _ (by omega) (gTk_s hg (by omega) (by omega)) h
        exact ⟨by omega, z2, z3, fun _ => by omega⟩
      · rw [if_neg c2] at h; cases h
    · rw [if_neg c1] at h; cases h
      exact ⟨Nat.le_refl _, hp, hg, fun z => absurd rfl z⟩
theorem encL_len (l : Lt) : (encL l).length = l.2.2.1.length + l.2.2.2.length + 1 + (if l.1 = true then 1 else 0) := by
  unfold encL encE
  rw [List.length_append, List.length_append, List.length_append, List.length_map, List.length_map]
  cases l.1 <;> rfl
theorem xLit_ok {T : Tk} (hT : TW T) {p q : Nat} {l : Lt} (hp : p ≤ 400) (hg : gTk T p) (h : xLit T p = .ok (l, q)) : p + (encL l).length ≤ q ∧ p < q ∧ q ≤ 400 ∧ gTk T q ∧ wfL l := by
  obtain ⟨⟨b, p1⟩, e1, h⟩ := ebd_ok h
  obtain ⟨⟨A, p2⟩, e2, h⟩ := ebd_ok h
  have e2 : xS T 7 p1 = .ok (A, p2) := e2
  have h : xLit2 T b (A, p2) = .ok (l, q) := h
  unfold xLit2 at h
  by_cases c1 : 10 ≤ tK T p2 ∧ tK T p2 ≤ 13
  · rw [if_pos c1] at h
    by_cases c2 : p2 < 400
    · rw [if_pos c2] at h
      obtain ⟨⟨B, p3⟩, e3, h⟩ := ebd_ok h
      have e3 : xS T 7 (p2 + 1) = .ok (B, p3) := e3
      have h : (Except.ok ((b, cmpI (tK T p2), A, B), p3) : Er (Lt × Nat)) = .ok (l, q) := h
      injection h with h
      injection h with h1 h2
      subst h1 h2
      obtain ⟨z1, z2, z3, z4⟩ := xN_ok _ _ _ _ _ hp hg e1
      obtain ⟨y1, y2, y3, y4⟩ := sLn_S 7 _ _ _ z2 z3 e2
      obtain ⟨w1, w2, w3, w4⟩ := sLn_S 7 _ _ _ (by omega) (gTk_s y4 (by omega) (by omega)) e3
      have hb : b = true → p < p1 := fun z => z4 (by rw [z]; decide)
      refine ⟨?_, by omega, w3, w4, ?_, wfE_S hT e2, wfE_S hT e3⟩
      · rw [encL_len]
        show p + (A.length + B.length + 1 + (if b = true then 1 else 0)) ≤ p3
        split
        · have := hb ‹_›; omega
        · omega
      · show cmpI (tK T p2) ≤ 3
        unfold cmpI; split <;> (try split) <;> (try split) <;> omega
    · rw [if_neg c2] at h; cases h
  · rw [if_neg c1] at h; cases h
theorem encR_app {r : List Lt} {l : Lt} (h : r ≠ []) : encR (r ++ [l]) = encR r ++ (encL l ++ [(26, 0)]) := by
  cases r with
  | nil => exact absurd rfl h
  | cons a r =>
    show encL a ++ (r ++ [l]).flatMap _ = encL a ++ r.flatMap _ ++ _
    rw [List.flatMap_append, List.append_assoc, List.flatMap_cons, List.flatMap_nil, List.append_nil]
theorem encC_app {c : Cd} {r : List Lt} : encC (c ++ [r]) = encC c ++ encR r ++ (if c = [] then [] else [(25, 0)]) := by
  cases c with
  | nil => rw [if_pos rfl, List.append_nil]; show encR r ++ [] = [] ++ encR r; rw [List.append_nil]; rfl
  | cons a c =>
    rw [if_neg (by simp)]
    show encR a ++ (c ++ [r]).flatMap _ = encR a ++ c.flatMap _ ++ encR r ++ _
    rw [List.flatMap_append, ← List.append_assoc]
    show _ ++ ((encR r ++ [(25, 0)]) ++ []) = _
    rw [List.append_nil, ← List.append_assoc]
def wfRow (r : List Lt) : Prop := r ≠ [] ∧ ∀ l ∈ r, wfL l
theorem xC_ok {T : Tk} (hT : TW T) : ∀ n c r p c' q, p ≤ 400 → gTk T p → wfRow r → (∀ x ∈ c, wfRow x) → xC T n c r p = .ok (c', q) → q ≤ 400 ∧ gTk T q ∧ p ≤ q ∧ wfC c' ∧ (encC c').length + p ≤ q + (encC c ++ encR r).length + (if c = [] then 0 else 1) := by
  intro n
  induction n with
  | zero => intro c r p c' q _ _ _ _ h; cases h
  | succ n ih =>
    intro c r p c' q hp hg hr hc h
    rw [xC_s] at h
    by_cases c1 : tK T p = 26
    · rw [if_pos c1] at h
      by_cases c2 : p < 400
      · rw [if_pos c2] at h
        obtain ⟨⟨l, p1⟩, e1, h⟩ := ebd_ok h
        obtain ⟨z1, z2, z3, z4, z5⟩ := xLit_ok hT (by omega) (gTk_s hg (by omega) (by omega)) e1
        obtain ⟨y1, y2, y3, y4, y5⟩ := ih c (r ++ [l]) p1 c' q z3 z4 ⟨by simp, fun x hx => by
          rcases List.mem_append.mp hx with hx | hx
          · exact hr.2 x hx
          · rw [List.mem_singleton.mp hx]; exact z5⟩ hc h
        rw [encR_app hr.1, List.length_append, List.length_append, List.length_append] at y5
        rw [List.length_append]
        have : ([(26, 0)] : List (Int32 × Int32)).length = 1 := rfl
        exact ⟨y1, y2, by omega, y4, by omega⟩
      · rw [if_neg c2] at h; cases h
    · rw [if_neg c1] at h
      by_cases c3 : tK T p = 25
      · rw [if_pos c3] at h
        by_cases c2 : p < 400
        · rw [if_pos c2] at h
          obtain ⟨⟨l, p1⟩, e1, h⟩ := ebd_ok h
          obtain ⟨z1, z2, z3, z4, z5⟩ := xLit_ok hT (by omega) (gTk_s hg (by omega) (by omega)) e1
          obtain ⟨y1, y2, y3, y4, y5⟩ := ih (c ++ [r]) [l] p1 c' q z3 z4 ⟨by simp, fun x hx => by rw [List.mem_singleton.mp hx]; exact z5⟩ (fun x hx => by
            rcases List.mem_append.mp hx with hx | hx
            · exact hc x hx
            · rw [List.mem_singleton.mp hx]; exact hr) h
          have e2 : encR [l] = encL l := by show encL l ++ [] = _; rw [List.append_nil]
          rw [e2, encC_app, List.length_append, List.length_append, if_neg (show ¬ c ++ [r] = [] by simp)] at y5
          refine ⟨y1, y2, by omega, y4, ?_⟩
          have : (if c = [] then ([] : List (Int32 × Int32)) else [(25, 0)]).length = if c = [] then 0 else 1 := by split <;> rfl
          omega
        · rw [if_neg c2] at h; cases h
      · rw [if_neg c3] at h
        injection h with h
        injection h with h1 h2
        subst h1 h2
        refine ⟨hp, hg, Nat.le_refl _, ⟨by simp, fun x hx => ?_⟩, ?_⟩
        · rcases List.mem_append.mp hx with hx | hx
          · exact hc x hx
          · rw [List.mem_singleton.mp hx]; exact hr
        · rw [encC_app, List.length_append]
          have : (if c = [] then ([] : List (Int32 × Int32)) else [(25, 0)]).length = if c = [] then 0 else 1 := by split <;> rfl
          omega
theorem xCond_ok {T : Tk} (hT : TW T) {p q : Nat} {c : Cd} (hp : p ≤ 400) (hg : gTk T p) (h : xCond T p = .ok (c, q)) : p + (encC c).length ≤ q ∧ p ≤ q ∧ q ≤ 400 ∧ gTk T q ∧ wfC c := by
  obtain ⟨⟨l, p1⟩, e1, h⟩ := ebd_ok h
  obtain ⟨z1, z2, z3, z4, z5⟩ := xLit_ok hT hp hg e1
  have h : xC T XF [] [l] p1 = .ok (c, q) := h
  obtain ⟨y1, y2, y3, y4, y5⟩ := xC_ok hT XF [] [l] p1 c q z3 z4 ⟨by simp, fun x hx => by rw [List.mem_singleton.mp hx]; exact z5⟩ (fun x hx => by cases hx) h
  have e2 : encC [] ++ encR [l] = encL l := by show [] ++ (encL l ++ []) = _; rw [List.append_nil]; rfl
  rw [e2, if_pos rfl] at y5
  exact ⟨by omega, by omega, y1, y2, y4⟩
/-! the class -/
def oLt (T : Tk) (i : Nat) (σ0 : Mm) (u : Nat) (g k : Nat → Int32) (C : List (Int32 × Int32)) (r : Er (Lt × Nat)) (τ : Mm) : Prop := match r with
  | .ok a => CX T i σ0 u g k a.2 (C ++ encL a.1) τ
  | .error e => CF T i σ0 e τ
theorem litF_83 {T : Tk} {i : Nat} {σ0 σ : Mm} {e : Nat × Nat} {x y : Int32} (hA : AM T i σ0) (h : CF T i σ0 e σ) : Ok (F_X5_literal_83 x y σ) (CF T i σ0 e) := by
  unfold F_X5_literal_83 F_X5_literal_95
  refine Ok_t (hA.p h.1).2 ?_
  rw [(hA.p h.1).1]
  refine Ok_V (s_putF h) (fun τ hτ => ?_)
  refine Ok_s (fun _ => Ok_r hτ) (fun _ => Ok_t (hA.p hτ.1).2 ?_)
  rw [(hA.p hτ.1).1]
  exact Ok_V (s_putF hτ) (fun υ hυ => Ok_r hυ)
theorem litF_72 {T : Tk} {i : Nat} {σ0 σ : Mm} {e : Nat × Nat} {x y : Int32} (hA : AM T i σ0) (h : CF T i σ0 e σ) : Ok (F_X5_literal_72 x y σ) (CF T i σ0 e) := by
  unfold F_X5_literal_72 F_X5_literal_77
  rw [s_takeF h, bnd_s, FS8F hA h, bnv_s]
  exact litF_83 hA h
theorem litF_45 {T : Tk} {i : Nat} {σ0 σ : Mm} {e : Nat × Nat} {x : Int32} (hA : AM T i σ0) (h : CF T i σ0 e σ) : Ok (F_X5_literal_45 x σ) (CF T i σ0 e) := by
  unfold F_X5_literal_45 F_X5_literal_50
  rw [FS8F hA h, bnv_s]
  obtain ⟨p, -, -, -, hk⟩ := s_kindF hA h
  rw [hk, bnd_s]
  unfold F_X5_literal_54 F_X5_literal_67
  rw [s_stopF h, bnv_s]
  exact Ok_s (fun _ => litF_72 hA h) (fun _ => Ok_s (fun _ => litF_72 hA h) (fun _ => litF_72 hA h))
theorem litF {T : Tk} {i : Nat} {σ0 σ : Mm} {e : Nat × Nat} (hA : AM T i σ0) (h : CF T i σ0 e σ) : Ok (F_X5_literal σ) (CF T i σ0 e) := by
  unfold F_X5_literal
  show Ok (B_X5_literal_4 (F_X5_literal_4 999999) 0 0 σ) _
  unfold B_X5_literal_4
  obtain ⟨p, -, -, -, hk⟩ := s_kindF hA h
  refine Ok_f (by decide) ?_
  rw [hk, bnd_s]
  unfold F_X5_literal_15 F_X5_literal_26
  refine Ok_s (fun _ => ?_) (fun _ => litF_45 hA h)
  rw [s_takeF h, bnd_s, if_pos rfl]
  exact litF_45 hA h
theorem cmpC_I {k : Nat} (h : 10 ≤ k ∧ k ≤ 13) : cmpC (cmpI k) = nI k := by
  have : k = 10 ∨ k = 11 ∨ k = 12 ∨ k = 13 := by omega
  rcases this with rfl | rfl | rfl | rfl <;> rfl
theorem lit_45 {T : Tk} {i u p : Nat} {σ0 σ : Mm} {g k : Nat → Int32} {C : List (Int32 × Int32)} {b : Bool} (hA : AM T i σ0) (h : CX T i σ0 u g k p C σ) (hb : u + C.length + (if b = true then 1 else 0) ≤ p) : Ok (F_X5_literal_45 (if b = true then 1 else 0) σ) (oLt T i σ0 u g k C (ebd (xS T 7 p) (fun e1 => xLit2 T b e1))) := by
  have hp4 : p ≤ 400 := h.1.2.2.2.1
  have hg := h.1.2.2.2.2
  unfold F_X5_literal_45
  refine Ok_V (s_FS8 hA h (by split at hb <;> omega)) (fun τ hτ => ?_)
  cases hr : xS T 7 p with
  | error e =>
    rw [hr] at hτ
    have hτ : CF T i σ0 e τ := hτ
    show Ok _ (CF T i σ0 e)
    have := litF_45 (x := if b = true then 1 else 0) hA hτ
    unfold F_X5_literal_45 at this
    rwa [FS8F hA hτ, bnv_s] at this
  | ok a =>
    obtain ⟨L, q⟩ := a
    rw [hr] at hτ
    have hτ : CX T i σ0 u g k q (C ++ encE L) τ := hτ
    obtain ⟨z1, z2, z3, z4⟩ := sLn_S 7 p L q hp4 hg hr
    have hlL : (encE L).length = L.length := List.length_map ..
    have hk36 := hA.1.1 q
    have hcu : CU i τ := hτ.cu (by rw [List.length_append, hlL]; split at hb <;> omega)
    show Ok (F_X5_literal_50 _ τ) (oLt T i σ0 u g k C (xLit2 T b (L, q)))
    unfold F_X5_literal_50
    rw [s_kind hA hτ.1, bnd_s]
    unfold F_X5_literal_54
    have bad : ¬ (10 ≤ tK T q ∧ tK T q ≤ 13) → Ok (F_X5_literal_67 (if b = true then 1 else 0) (nI (tK T q)) τ) (oLt T i σ0 u g k C (xLit2 T b (L, q))) := by
      intro hn
      have e : xLit2 T b (L, q) = .error (1, q) := if_neg hn
      rw [e]
      unfold F_X5_literal_67
      exact Ok_V (s_stop hA hτ.1 hcu (x := 1) (Or.inl rfl)) (fun υ hυ => litF_72 hA hυ)
    by_cases c1 : tK T q < 10
    · exact Ok_t (nI_lt (b := 10) c1 (by omega)) (bad (by omega))
    · refine Ok_f (nI_nlt (b := 10) (by omega) (by omega)) ?_
      by_cases c2 : tK T q ≤ 13
      · refine Ok_t (nI_le (b := 13) c2 (by omega)) ?_
        have e : xLit2 T b (L, q) = if q < 400 then ebd (xS T 7 (q + 1)) (fun e2 => .ok ((b, cmpI (tK T q), L, e2.1), e2.2)) else .error (2, q) := if_pos (show 10 ≤ tK T q ∧ tK T q ≤ 13 from ⟨by omega, c2⟩)
        rw [e]
        unfold F_X5_literal_72 F_X5_literal_77
        refine Ok_B ((s_take hA hτ.1 hcu (c := tK T q) (by omega) (by omega)).frI fr_X5_take) (fun v υ hv => ?_)
        obtain ⟨hv, f⟩ := hv
        have f : Fr W_X5_take τ υ := f
        unfold t1 at hv
        rw [if_pos rfl] at hv
        by_cases c3 : q < 400
        · rw [if_pos c3] at hv ⊢
          have hX := hτ.fr hv.2 f rfl
          refine Ok_V (s_FS8 hA hX (by rw [List.length_append, hlL]; split at hb <;> omega)) (fun φ hφ => ?_)
          cases hr2 : xS T 7 (q + 1) with
          | error e =>
            rw [hr2] at hφ
            exact litF_83 hA hφ
          | ok a2 =>
            obtain ⟨L2, q2⟩ := a2
            rw [hr2] at hφ
            have hφ : CX T i σ0 u g k q2 (C ++ encE L ++ encE L2) φ := hφ
            obtain ⟨y1, y2, y3, y4⟩ := sLn_S 7 (q + 1) L2 q2 (by omega) hv.2.2.2.2.2 hr2
            have hlL2 : (encE L2).length = L2.length := List.length_map ..
            have hlen : u + (C ++ encE L ++ encE L2).length + (if b = true then 1 else 0) < q2 := by
              rw [List.length_append, List.length_append, hlL, hlL2]; omega
            unfold F_X5_literal_83 F_X5_literal_95
            refine Ok_t (hA.p hφ.1.1).2 ?_
            rw [(hA.p hφ.1.1).1]
            refine Ok_V (s_putC hφ (z := (nI (tK T q), 0)) (by omega) rfl (fun _ => rfl)) (fun ψ hψ => ?_)
            have hE : ∀ D, C ++ encL (b, cmpI (tK T q), L, L2) = D ↔ C ++ encE L ++ encE L2 ++ [(nI (tK T q), 0)] ++ (if b = true then [(27, 0)] else []) = D := by
              intro D
              unfold encL
              rw [show cmpC ((b, cmpI (tK T q), L, L2) : Lt).2.1 = nI (tK T q) from cmpC_I ⟨by omega, c2⟩]
              simp only [List.append_assoc]
            show Ok _ (CX T i σ0 u g k q2 (C ++ encL (b, cmpI (tK T q), L, L2)))
            rw [(hE _).mpr rfl]
            cases b with
            | false =>
              refine Ok_t rfl (Ok_r ?_)
              rw [if_neg (by decide), List.append_nil]
              exact hψ
            | true =>
              refine Ok_f (by decide) (Ok_t (hA.p hψ.1.1).2 ?_)
              rw [(hA.p hψ.1.1).1]
              rw [if_pos rfl] at hlen
              exact Ok_V (s_putC hψ (z := (27, 0)) (by rw [List.length_append]; show u + (_ + 1) < 400; omega) rfl (fun _ => rfl)) (fun ω hω => Ok_r hω)
        · rw [if_neg c3] at hv ⊢
          have hF : CF T i σ0 (2, q) υ := hv.2
          rw [FS8F hA hF, bnv_s]
          exact litF_83 hA hF
      · exact Ok_f (nI_ge (a := 13) (by omega) (by omega)) (bad (by omega))
theorem lit_4 {T : Tk} {i u : Nat} {σ0 : Mm} {g k : Nat → Int32} {C : List (Int32 × Int32)} (hA : AM T i σ0) : ∀ (n m j p : Nat) (b : Bool) (σ : Mm), 402 - p < n → 500 ≤ m + p → j < p → CX T i σ0 u g k p C σ → u + C.length + (if b = true then 1 else 0) ≤ p →
    Ok (F_X5_literal_4 n (if b = true then 1 else 0) (nI j) σ) (oLt T i σ0 u g k C (ebd (xN T m b p) (fun a => ebd (xS T 7 a.2) (fun e1 => xLit2 T a.1 e1)))) := by
  intro n
  induction n with
  | zero => intro m j p b σ h; omega
  | succ n ih =>
    intro m j p b σ hn hm hj h hb
    have hp4 : p ≤ 400 := h.1.2.2.2.1
    have hg := h.1.2.2.2.2
    have hk36 := hA.1.1 p
    change Ok (B_X5_literal_4 (F_X5_literal_4 n) _ _ _) _
    unfold B_X5_literal_4
    obtain ⟨m, rfl⟩ : ∃ m', m = m' + 1 := ⟨m - 1, by omega⟩
    rw [xN_s]
    have hbl : u + C.length ≤ p := by split at hb <;> omega
    refine Ok_f (nI_ge (b := 400) (by omega) (by omega)) ?_
    rw [s_kind hA h.1, bnd_s]
    unfold F_X5_literal_15 F_X5_literal_26 F_X5_literal_38
    by_cases c1 : tK T p = 27
    · rw [if_pos c1]
      refine Ok_t (by rw [c1]; rfl) (Ok_B ((s_take hA h.1 (h.cu (by omega)) (c := 27) (by omega) (by omega)).frI fr_X5_take) (fun v υ hv => ?_))
      obtain ⟨hv, f⟩ := hv
      have f : Fr W_X5_take σ υ := f
      unfold t1 at hv
      rw [if_pos c1] at hv
      by_cases c3 : p < 400
      · rw [if_pos c3] at hv ⊢
        have hv1 : v = 1 := hv.1
        subst hv1
        have hX := h.fr hv.2 f rfl
        refine Ok_f ne10 ?_
        rw [nI_1]
        have i1 := ih m (j + 1) (p + 1) (!b) υ (by omega) (by omega) (by omega) hX (by split <;> omega)
        cases b with
        | false => exact Ok_t rfl i1
        | true => exact Ok_f ne10 i1
      · rw [if_neg c3] at hv ⊢
        have hv1 : v = 0 := hv.1
        subst hv1
        exact Ok_t rfl (litF_45 hA hv.2)
    · rw [if_neg c1]
      exact Ok_f (fun z => c1 ((kq (by omega) (by omega)).mp z)) (lit_45 hA h hb)
theorem s_literal {T : Tk} {i u p : Nat} {σ0 σ : Mm} {g k : Nat → Int32} {C : List (Int32 × Int32)} (hA : AM T i σ0) (hp : 0 < p) (h : CX T i σ0 u g k p C σ) (hb : u + C.length ≤ p) : Ok (F_X5_literal σ) (oLt T i σ0 u g k C (xLit T p)) :=
  lit_4 hA FU XF 0 p false σ (by show _ < 1000000; omega) (by show 500 ≤ 500 + _; omega) hp h (by rw [if_neg (by decide)]; omega)
def oCd (T : Tk) (i : Nat) (σ0 : Mm) (u : Nat) (g k : Nat → Int32) (C : List (Int32 × Int32)) (r : Er (Cd × Nat)) (τ : Mm) : Prop := match r with
  | .ok a => CX T i σ0 u g k a.2 (C ++ encC a.1) τ
  | .error e => CF T i σ0 e τ
/-- what comes behind the COND, closing its last 'or' -/
theorem rule_60 {T : Tk} {i u : Nat} {σ0 σs : Mm} {g k : Nat → Int32} {C : List (Int32 × Int32)} {x : Int32} {Q : Mm → Prop} {R : Er (Cd × Nat)} (hA : AM T i σ0)
    (hk : ∀ τ, Fr W_X5_literal σs τ → oCd T i σ0 u g k C R τ → Ok (F_X5_tellRule_176 x τ) Q) (hkF : ∀ e τ, R = .error e → CF T i σ0 e τ → Ok (F_X5_tellRule_176 x τ) Q) : ∀ (n m j p : Nat) (c : Cd) (r : List Lt) (σ : Mm), xC T m c r p = R → 402 - p < n → 500 ≤ m + p → j < p → wfRow r → CX T i σ0 u g k p (C ++ encC c ++ encR r) σ → Fr W_X5_literal σs σ →
      u + (C ++ encC c ++ encR r).length + (if c = [] then 0 else 1) ≤ p → Ok (F_X5_tellRule_60 n x (if c = [] then 0 else 1) (nI j) σ) Q := by
  have fin : ∀ (y : Int32) e τ, R = .error e → CF T i σ0 e τ → Ok (F_X5_tellRule_159 x y τ) Q := by
    intro y e τ hR hτ
    unfold F_X5_tellRule_159
    refine Ok_s (fun _ => hkF e τ hR hτ) (fun _ => Ok_t (hA.p hτ.1).2 ?_)
    rw [(hA.p hτ.1).1]
    exact Ok_V (s_putF hτ) (fun υ hυ => hkF e υ hR hυ)
  intro n
  induction n with
  | zero => intro m j p c r σ _ h; omega
  | succ n ih =>
    intro m j p c r σ hR hn hm hj hr h hs hb
    have hp4 : p ≤ 400 := h.1.2.2.2.1
    have hg := h.1.2.2.2.2
    have hk36 := hA.1.1 p
    have hcu : CU i σ := h.cu (by omega)
    have fin60 : ∀ n' y z e τ, R = .error e → CF T i σ0 e τ → Ok (F_X5_tellRule_60 (n' + 1) x y z τ) Q := by
      intro n' y z e τ hR hτ
      show Ok (B_X5_tellRule_60 (F_X5_tellRule_60 n') _ _ _ _) _
      unfold B_X5_tellRule_60
      exact Ok_s (fun _ => fin y e τ hR hτ) (fun _ => Ok_f hτ.ne (fin y e τ hR hτ))
    change Ok (B_X5_tellRule_60 (F_X5_tellRule_60 n) _ _ _ _) _
    unfold B_X5_tellRule_60
    obtain ⟨m, rfl⟩ : ∃ m', m = m' + 1 := ⟨m - 1, by omega⟩
    rw [xC_s] at hR
    refine Ok_f (nI_ge (b := 400) (by omega) (by omega)) (Ok_t h.1.2.1 ?_)
    rw [s_kind hA h.1, bnd_s]
    have e159 : tK T p ≠ 26 → tK T p ≠ 25 → R = .ok (c ++ [r], p) → Ok (F_X5_tellRule_159 x (if c = [] then 0 else 1) σ) Q := by
      intro _ _ hR2
      unfold F_X5_tellRule_159
      have hE : C ++ encC (c ++ [r]) = C ++ encC c ++ encR r ++ (if c = [] then [] else [(25, 0)]) := by
        rw [encC_app]; simp only [List.append_assoc]
      by_cases cc : c = []
      · rw [if_pos cc]
        refine Ok_t rfl (hk σ hs ?_)
        rw [hR2]
        show CX T i σ0 u g k p (C ++ encC (c ++ [r])) σ
        rw [hE, if_pos cc, List.append_nil]; exact h
      · rw [if_neg cc] at hb ⊢
        refine Ok_f ne10 (Ok_t (hA.p h.1.1).2 ?_)
        rw [(hA.p h.1.1).1]
        refine Ok_V ((s_putC h (z := (25, 0)) (by omega) rfl (fun _ => rfl)).frV fr_X0_put) (fun τ hτ => hk τ (hs.trans (hτ.2.sub rfl)) ?_)
        rw [hR2]
        show CX T i σ0 u g k p (C ++ encC (c ++ [r])) τ
        rw [hE, if_neg cc]; exact hτ.1
    unfold F_X5_tellRule_78
    by_cases c1 : tK T p = 26
    · rw [if_pos c1] at hR
      refine Ok_t (by rw [c1]; rfl) (Ok_B ((s_take hA h.1 hcu (c := 26) (by omega) (by omega)).frI fr_X5_take) (fun v τ hv => ?_))
      obtain ⟨hv, f⟩ := hv
      have f : Fr W_X5_take σ τ := f
      unfold t1 at hv
      rw [if_pos c1] at hv
      unfold F_X5_tellRule_89
      by_cases c2 : p < 400
      · rw [if_pos c2] at hv hR
        have hv1 : v = 1 := hv.1
        subst hv1
        have hX := h.fr hv.2 f rfl
        refine Ok_f ne10 (Ok_V ((s_literal hA (by omega) hX (by omega)).frV fr_X5_literal) (fun υ hυ => ?_))
        obtain ⟨hυ, f2⟩ := hυ
        have f2 : Fr W_X5_literal τ υ := f2
        unfold F_X5_tellRule_96 F_X5_tellRule_109 F_X5_tellRule_153
        cases hl : xLit T (p + 1) with
        | error e =>
          rw [hl] at hυ hR
          have hυ : CF T i σ0 e υ := hυ
          refine Ok_t (hA.p hυ.1).2 ?_
          rw [(hA.p hυ.1).1]
          obtain ⟨n', rfl⟩ : ∃ n', n = n' + 1 := ⟨n - 1, by omega⟩
          exact Ok_V (s_putF hυ) (fun φ hφ => fin60 n' _ _ e φ hR.symm hφ)
        | ok a =>
          obtain ⟨l, q⟩ := a
          rw [hl] at hυ hR
          have hυ : CX T i σ0 u g k q (C ++ encC c ++ encR r ++ encL l) υ := hυ
          obtain ⟨z1, z2, z3, z4, z5⟩ := xLit_ok hA.1 (by omega) hv.2.2.2.2.2 hl
          refine Ok_t (hA.p hυ.1.1).2 ?_
          rw [(hA.p hυ.1.1).1]
          have hlen : u + (C ++ encC c ++ encR r ++ encL l).length + 1 + (if c = [] then 0 else 1) ≤ q := by
            rw [List.length_append]; omega
          refine Ok_V ((s_putC hυ (z := (26, 0)) (by omega) rfl (fun _ => rfl)).frV fr_X0_put) (fun φ hφ => ?_)
          obtain ⟨hφ, f3⟩ := hφ
          have f3 : Fr W_X0_put υ φ := f3
          rw [nI_1]
          have hE : C ++ encC c ++ encR (r ++ [l]) = C ++ encC c ++ encR r ++ encL l ++ [(26, 0)] := by
            rw [encR_app hr.1]; simp only [List.append_assoc]
          refine ih m (j + 1) q c (r ++ [l]) φ hR (by omega) (by omega) (by omega) ⟨by simp, fun x hx => ?_⟩ (by rw [hE]; exact hφ) ((hs.trans (f.sub rfl)).trans (f2.trans (f3.sub rfl))) (by rw [hE, List.length_append]; show u + (_ + 1) + _ ≤ q; omega)
          rcases List.mem_append.mp hx with hx | hx
          · exact hr.2 x hx
          · rw [List.mem_singleton.mp hx]; exact z5
      · rw [if_neg c2] at hv hR
        have hv1 : v = 0 := hv.1
        subst hv1
        refine Ok_t rfl ?_
        unfold F_X5_tellRule_112
        obtain ⟨p', -, -, ha, hkk⟩ := s_kindF hA hv.2
        rw [hkk, bnd_s]
        unfold F_X5_tellRule_116 F_X5_tellRule_127
        rw [s_takeF hv.2, bnd_s, if_pos rfl]
        exact Ok_s (fun _ => fin _ _ _ hR.symm hv.2) (fun _ => fin _ _ _ hR.symm hv.2)
    · rw [if_neg c1] at hR
      refine Ok_f (fun z => c1 ((kq (by omega) (by omega)).mp z)) ?_
      unfold F_X5_tellRule_112
      rw [s_kind hA h.1, bnd_s]
      unfold F_X5_tellRule_116
      by_cases c3 : tK T p = 25
      · rw [if_pos c3] at hR
        refine Ok_t (by rw [c3]; rfl) (Ok_B ((s_take hA h.1 hcu (c := 25) (by omega) (by omega)).frI fr_X5_take) (fun v τ hv => ?_))
        obtain ⟨hv, f⟩ := hv
        have f : Fr W_X5_take σ τ := f
        unfold t1 at hv
        rw [if_pos c3] at hv
        unfold F_X5_tellRule_127
        by_cases c2 : p < 400
        · rw [if_pos c2] at hv hR
          have hv1 : v = 1 := hv.1
          subst hv1
          have hX := h.fr hv.2 f rfl
          refine Ok_f ne10 ?_
          have hE : C ++ encC (c ++ [r]) = C ++ encC c ++ encR r ++ (if c = [] then [] else [(25, 0)]) := by
            rw [encC_app]; simp only [List.append_assoc]
          have hlE : (C ++ encC (c ++ [r])).length = (C ++ encC c ++ encR r).length + (if c = [] then 0 else 1) := by
            rw [hE, List.length_append]; congr 1; split <;> rfl
          have go : ∀ τ, CX T i σ0 u g k (p + 1) (C ++ encC (c ++ [r])) τ → Fr W_X5_literal σs τ → Ok (F_X5_tellRule_147 (F_X5_tellRule_60 n) x (nI j) τ) Q := by
            intro τ hτ hs2
            unfold F_X5_tellRule_147 F_X5_tellRule_153
            refine Ok_V ((s_literal hA (by omega) hτ (by omega)).frV fr_X5_literal) (fun υ hυ => ?_)
            obtain ⟨hυ, f2⟩ := hυ
            have f2 : Fr W_X5_literal τ υ := f2
            cases hl : xLit T (p + 1) with
            | error e =>
              rw [hl] at hυ hR
              obtain ⟨n', rfl⟩ : ∃ n', n = n' + 1 := ⟨n - 1, by omega⟩
              exact fin60 n' _ _ e υ hR.symm hυ
            | ok a =>
              obtain ⟨l, q⟩ := a
              rw [hl] at hυ hR
              have hυ : CX T i σ0 u g k q (C ++ encC (c ++ [r]) ++ encL l) υ := hυ
              obtain ⟨z1, z2, z3, z4, z5⟩ := xLit_ok hA.1 (by omega) hv.2.2.2.2.2 hl
              have e2 : encR [l] = encL l := by show encL l ++ [] = _; rw [List.append_nil]
              have i1 := ih m (j + 1) q (c ++ [r]) [l] υ hR (by omega) (by omega) (by omega) ⟨by simp, fun x hx => by rw [List.mem_singleton.mp hx]; exact z5⟩ (by rw [e2]; exact hυ) (hs2.trans f2) (by
                rw [e2, if_neg (show ¬ c ++ [r] = [] by simp), List.length_append]
                omega)
              rw [if_neg (show ¬ c ++ [r] = [] by simp)] at i1
              rw [nI_1]
              exact i1
          by_cases cc : c = []
          · rw [if_pos cc]
            refine Ok_t rfl (go τ ?_ (hs.trans (f.sub rfl)))
            rw [hE, if_pos cc, List.append_nil]; exact hX
          · rw [if_neg cc] at hb ⊢
            refine Ok_f ne10 (Ok_t (hA.p hX.1.1).2 ?_)
            rw [(hA.p hX.1.1).1]
            refine Ok_V ((s_putC hX (z := (25, 0)) (by omega) rfl (fun _ => rfl)).frV fr_X0_put) (fun υ hυ => go υ ?_ ((hs.trans (f.sub rfl)).trans (hυ.2.sub rfl)))
            rw [hE, if_neg cc]; exact hυ.1
        · rw [if_neg c2] at hv hR
          have hv1 : v = 0 := hv.1
          subst hv1
          exact Ok_t rfl (fin _ _ _ hR.symm hv.2)
      · rw [if_neg c3] at hR
        exact Ok_f (fun z => c3 ((kq (by omega) (by omega)).mp z)) (e159 c1 c3 hR.symm)
