/-! next -/
/-- whether a LINE is of a THING and hits one of a set -/
def tq (D : DD) (n : Nat) (y set : Int32) (k x : Nat) : Bool := decide (x / 14 = k ∨ x % 14 = k) && str D y (lDeg D n x) set false
def tN (D : DD) (n : Nat) (y set : Int32) (k : Nat) : Nat := cn (fun x => (isL D n x && hRule D n x (-1)) && tq D n y set k x) 196
theorem tN_le {D : DD} {n k : Nat} {y set : Int32} : tN D n y set k ≤ 182 := by
  unfold tN
  rw [← cP_Ls (q := tq D n y set k)]
  have h1 := cP_le (q := tq D n y set k) (A := Ls D n (-1) 196)
  have h2 := Ls_len (D := D) (n := n) (ρ := -1) 196 (Nat.le_refl _)
  omega
theorem hitsOfC_5 {D : DD} (hW : WF D) {n i : Nat} {y set : Int32} {σ : Mm} (hi : i < 14) (hn : n ≤ dN D 1) (hB : CB D σ) (hS : SW D y (dN D 4) σ) (hc : GCh D n (-1) 196 σ) : ∀ (m k : Nat), (Ls D n (-1) 196).length - k < m → k ≤ (Ls D n (-1) 196).length →
    F_X11_hitsOf_5 m (nI i) set (nI (cP (tq D n y set i) ((Ls D n (-1) 196).take k))) (nI k) σ = some (nI (tN D n y set i), σ) := by
  have hlen := Ls_len (D := D) (n := n) (ρ := -1) 196 (Nat.le_refl _)
  intro m
  induction m with
  | zero => intro k h; omega
  | succ m ih =>
    intro k hm hk
    change B_X11_hitsOf_5 (F_X11_hitsOf_5 m) _ _ _ _ _ = _
    unfold B_X11_hitsOf_5
    rw [hc.1]
    by_cases hd : (Ls D n (-1) 196).length ≤ k
    · rw [if_pos (nI_le hd (by omega)), List.take_of_length_le hd, cP_Ls]; rfl
    have hk2 : k < (Ls D n (-1) 196).length := by omega
    have hx : (Ls D n (-1) 196)[k]? = some (Ls D n (-1) 196)[k] := List.getElem?_eq_getElem hk2
    generalize (Ls D n (-1) 196)[k] = x at hx
    obtain ⟨hx196, hL, -⟩ := Ls_mem hx
    obtain ⟨d1, d2, -, -, -, -, -, -, -, -⟩ := nI14 hx196
    have hck : (nI k).toNatClampNeg = k := nI_clamp (by omega)
    have i182 : inb (nI k) 182 = true := by
      have : k < 182 := by omega
      clear ih hc hS hB hW hx hL; grind [gI, gB, gC]
    have i1 := ih (k + 1) (by omega) (by omega)
    rw [cP_take hx] at i1
    unfold F_X11_hitsOf_47 F_X11_hitsOf_52 F_X11_hitsOf_81
    rw [if_neg (nI_ge (by omega) (by omega)), if_pos i182, hck, (hc.2 k x hx).1, d2, d1, (hc.2 k x hx).2, s_strikes hW (lDeg_in hW hn hL) hB hS, bnd_s]
    unfold F_X11_hitsOf_75 F_X11_hitsOf_81
    rw [nI_1, nI_1, if_neg (show ¬ (1 : Int32) = 0 by decide), if_pos (rfl : (0 : Int32) = 0), if_pos i182]
    rw [show decide ((0 : Int32) ≠ 0) = false from by decide]
    have e1 : nI (x / 14) = nI i ↔ x / 14 = i := nI_eq (by omega) (by omega)
    have e2 : nI (x % 14) = nI i ↔ x % 14 = i := nI_eq (by omega) (by omega)
    unfold tq at i1 ⊢
    by_cases c : x / 14 = i ∨ x % 14 = i
    · rw [decide_eq_true c, Bool.true_and] at i1
      have g : ∀ (A B : Option (Int32 × Mm)), (if nI (x / 14) = nI i then A else if nI (x % 14) = nI i then A else B) = A := by
        intro A B
        by_cases c1 : x / 14 = i
        · rw [if_pos (e1.mpr c1)]
        · rw [if_neg (fun z => c1 (e1.mp z)), if_pos (e2.mpr (c.resolve_left c1))]
      rw [g]
      cases hst : str D y (lDeg D n x) set false with
      | false => rw [hst] at i1; rw [if_pos (by decide)]; exact i1
      | true => rw [hst] at i1; rw [if_neg (by decide)]; exact i1
    · rw [decide_eq_false c, Bool.false_and] at i1
      rw [if_neg (fun z => c (Or.inl (e1.mp z))), if_neg (fun z => c (Or.inr (e2.mp z)))]
      exact i1
theorem s_hitsOfC {D : DD} (hW : WF D) {n i : Nat} {y set : Int32} {σ : Mm} (hi : i < 14) (hn : n ≤ dN D 1) (hB : CB D σ) (hS : SW D y (dN D 4) σ) (hc : GCh D n (-1) 196 σ) : F_X11_hitsOf (nI i) set σ = some (nI (tN D n y set i), σ) :=
  hitsOfC_5 hW hi hn hB hS hc FU 0 (by have := Ls_len (D := D) (n := n) (ρ := -1) 196 (Nat.le_refl _); show _ < 1000000; omega) (by omega)
/-- the THING chosen, and its HITS -/
def nx (D : DD) (n : Nat) (y set : Int32) : Nat → Option (Nat × Nat)
  | 0 => none
  | i + 1 => if kG D n i then nx D n y set i else match nx D n y set i with
    | none => some (i, tN D n y set i)
    | some (a, b) => if b < tN D n y set i then some (i, tN D n y set i) else some (a, b)
theorem nx_s {D : DD} {n i : Nat} {y set : Int32} : nx D n y set (i + 1) = if kG D n i then nx D n y set i else match nx D n y set i with
    | none => some (i, tN D n y set i)
    | some (a, b) => if b < tN D n y set i then some (i, tN D n y set i) else some (a, b) := rfl
theorem nx_lt {D : DD} {n : Nat} {y set : Int32} : ∀ (i a b : Nat), nx D n y set i = some (a, b) → a < i ∧ b ≤ 182 := by
  intro i
  induction i with
  | zero => intro a b h; exact absurd h (by simp [nx])
  | succ i ih =>
    intro a b h
    unfold nx at h
    have := tN_le (D := D) (n := n) (k := i) (y := y) (set := set)
    cases hg : kG D n i with
    | true => rw [hg, if_pos rfl] at h; have := ih a b h; omega
    | false =>
      rw [hg, if_neg (by decide)] at h
      cases he : nx D n y set i with
      | none =>
        rw [he] at h
        simp only [Option.some.injEq, Prod.mk.injEq] at h
        omega
      | some p =>
        obtain ⟨a', b'⟩ := p
        have := ih a' b' he
        rw [he] at h
        simp only [] at h
        by_cases c : b' < tN D n y set i
        · rw [if_pos c] at h
          simp only [Option.some.injEq, Prod.mk.injEq] at h
          omega
        · rw [if_neg c] at h
          simp only [Option.some.injEq, Prod.mk.injEq] at h
          omega
def nxA (o : Option (Nat × Nat)) : Int32 := match o with
  | none => -2
  | some (a, _) => nI a
def nxB (z : Int32) (o : Option (Nat × Nat)) : Int32 := match o with
  | none => z
  | some (_, b) => nI b
theorem next_29 {D : DD} (hW : WF D) {n : Nat} {y set : Int32} {σ : Mm} (hn : n ≤ dN D 1) (hB : CB D σ) (hG : GK D n σ) (hS : SW D y (dN D 4) σ) (hc : GCh D n (-1) 196 σ) : ∀ (m i : Nat), nT D - i < m → i ≤ nT D →
    F_X11_next_29 m set (nxB (-1) (nx D n y set i)) (nxA (nx D n y set i)) (nI i) σ = some (nxA (nx D n y set (nT D)), σ) := by
  have h14 : nT D ≤ 14 := hW.1
  intro m
  induction m with
  | zero => intro i h; omega
  | succ m ih =>
    intro i hm hi
    change B_X11_next_29 (F_X11_next_29 m) _ _ _ _ _ = _
    unfold B_X11_next_29 F_X11_next_78
    rw [hG.1]
    by_cases hd : nT D ≤ i
    · have e : i = nT D := by omega
      subst e
      rw [if_pos (nI_le hd (by omega))]
    have hi2 : i < nT D := by omega
    obtain ⟨-, -, -, -, g5⟩ := hG.2 i hi2
    have i14 : inb (nI i) 14 = true := by
      have : i < 14 := by omega
      clear ih hc hS hB hW hG g5; grind [gI, gB, gC]
    have hck : (nI i).toNatClampNeg = i := nI_clamp (by omega)
    have i1 := ih (i + 1) (by omega) (by omega)
    have t1 := tN_le (D := D) (n := n) (k := i) (y := y) (set := set)
    rw [if_neg (nI_ge (by omega) (by omega)), if_pos i14, hck, g5]
    rw [nx_s] at i1
    cases hg : kG D n i with
    | true =>
      rw [hg, if_pos rfl] at i1
      rw [if_neg (by decide), nI_1]
      exact i1
    | false =>
      rw [hg, if_neg (by decide)] at i1
      rw [if_pos (by decide), s_hitsOfC hW (by omega) hn hB hS hc, bnd_s]
      unfold F_X11_next_61 F_X11_next_78
      rw [nI_1]
      cases he : nx D n y set i with
      | none =>
        rw [he] at i1
        have : ¬ nI (tN D n y set i) ≤ nxB (-1) none := by
          have := nI_pos' (n := tN D n y set i) (by omega)
          show ¬ nI (tN D n y set i) ≤ -1
          clear i1 ih hc hS hB hW hG g5; grind
        rw [if_neg this]
        exact i1
      | some p =>
        obtain ⟨a, b⟩ := p
        have hb := nx_lt i a b he
        rw [he] at i1
        by_cases c : b < tN D n y set i
        · have : ¬ nI (tN D n y set i) ≤ nxB (-1) (some (a, b)) := nI_ge (b := tN D n y set i) (by omega) (by omega)
          rw [if_neg this]
          simp only [c, if_true] at i1
          exact i1
        · have : nI (tN D n y set i) ≤ nxB (-1) (some (a, b)) := nI_le (by omega) (by omega)
          rw [if_pos this]
          simp only [c, if_false] at i1
          exact i1
theorem next_58 {D : DD} (hW : WF D) {n i : Nat} {y set u v : Int32} {σ : Mm} (rc : Int32 → Int32 → Int32 → Int32 → Mm → Option (Int32 × Mm)) (hi : i < 14) (hn : n ≤ dN D 1) (hM : RM σ 0 D) (hS : LSk D y (dN D 4) σ) (hY : MY D n (-1) σ) : ∀ (m l : Nat), 196 - l < m → l ≤ 196 →
    F_X12_next_58 rc m set u v (nI i) (nI (cn (fun x => (isL D n x && hRule D n x (-1)) && tq D n y set i x) l)) (nI l) σ =
      if u < 0 then rc set (nI i) (nI (tN D n y set i)) (nI i + 1) σ else if v < nI (tN D n y set i) then rc set (nI i) (nI (tN D n y set i)) (nI i + 1) σ else rc set u v (nI i + 1) σ := by
  intro m
  induction m with
  | zero => intro l h; omega
  | succ m ih =>
    intro l hm hl
    change B_X12_next_58 rc (F_X12_next_58 rc m) _ _ _ _ _ _ _ = _
    unfold B_X12_next_58
    by_cases hd : 196 ≤ l
    · have e : l = 196 := by omega
      subst e
      rw [if_pos (by decide)]; rfl
    have hl2 : l < 196 := by omega
    obtain ⟨d1, d2, -, -, -, -, d7, d8, -, -⟩ := nI14 hl2
    obtain ⟨-, y2, y3⟩ := hY l hl2
    have i1 := ih (l + 1) (by omega) (by omega)
    have e : cn (fun x => (isL D n x && hRule D n x (-1)) && tq D n y set i x) (l + 1) = cn (fun x => (isL D n x && hRule D n x (-1)) && tq D n y set i x) l + (if ((isL D n l && hRule D n l (-1)) && tq D n y set i l) = true then 1 else 0) := rfl
    rw [e] at i1
    unfold F_X12_next_86 F_X12_next_122
    rw [if_neg (show ¬ (196 : Int32) ≤ nI l from nI_ge (b := 196) (by omega) (by decide)), d2, d1, if_pos d8, d7, y2, nI_1]
    have e1 : nI (l / 14) = nI i ↔ l / 14 = i := nI_eq (by omega) (by omega)
    have e2 : nI (l % 14) = nI i ↔ l % 14 = i := nI_eq (by omega) (by omega)
    by_cases c : l / 14 = i ∨ l % 14 = i
    · have g : ∀ (A B : Option (Int32 × Mm)), (if nI (l / 14) = nI i then A else if nI (l % 14) = nI i then A else B) = A := by
        intro A B
        by_cases c1 : l / 14 = i
        · rw [if_pos (e1.mpr c1)]
        · rw [if_neg (fun z => c1 (e1.mp z)), if_pos (e2.mpr (c.resolve_left c1))]
      rw [g]
      have et : tq D n y set i l = str D y (lDeg D n l) set false := by unfold tq; rw [decide_eq_true c, Bool.true_and]
      rw [et] at i1
      cases hc : (isL D n l && hRule D n l (-1)) with
      | false =>
        rw [hc] at i1
        rw [if_pos (by decide)]; exact i1
      | true =>
        have hL : isL D n l = true := by
          simp only [Bool.and_eq_true] at hc; exact hc.1
        rw [hc, Bool.true_and] at i1
        rw [if_neg (by decide), if_pos d8, if_pos (show inb 0 5 = true by decide), c0, hM.1.1, y3 hL, s_hitBy hW hM hS, bnd_s]
        unfold F_X12_next_114 F_X12_next_122
        rw [nI_1, nI_1]
        rw [show decide ((0 : Int32) ≠ 0) = false from by decide]
        unfold str at i1
        by_cases h : HB D y (lDeg D n l) (nI (dN D 6)) false &&& set = 0
        · rw [decide_eq_false (not_not_intro h)] at i1
          rw [if_pos h]; exact i1
        · rw [decide_eq_true (p := _ ≠ (0 : Int32)) h] at i1
          rw [if_neg h]; exact i1
    · have et : tq D n y set i l = false := by unfold tq; rw [decide_eq_false c, Bool.false_and]
      rw [et, Bool.and_false] at i1
      rw [if_neg (fun z => c (Or.inl (e1.mp z))), if_neg (fun z => c (Or.inr (e2.mp z)))]
      exact i1
theorem next_28 {D : DD} (hW : WF D) {n : Nat} {y set : Int32} {σ : Mm} (hn : n ≤ dN D 1) (hM : RM σ 0 D) (hK : LK D n (nT D) σ) (hS : LSk D y (dN D 4) σ) (hY : MY D n (-1) σ) : ∀ (m i : Nat), nT D - i < m → i ≤ nT D →
    F_X12_next_28 m set (nxA (nx D n y set i)) (nxB 0 (nx D n y set i)) (nI i) σ = some (nxA (nx D n y set (nT D)), σ) := by
  have h14 : nT D ≤ 14 := hW.1
  intro m
  induction m with
  | zero => intro i h; omega
  | succ m ih =>
    intro i hm hi
    change B_X12_next_28 (F_X12_next_28 m) _ _ _ _ _ = _
    unfold B_X12_next_28 F_X12_next_151
    rw [if_pos (show inb 0 5 = true by decide), c0, hM.1.2.1]
    by_cases hd : nT D ≤ i
    · have e : i = nT D := by omega
      subst e
      rw [if_pos (nI_le hd (by omega))]
    have hi2 : i < nT D := by omega
    obtain ⟨-, -, -, g5⟩ := hK i hi2
    have i14 : inb (nI i) 14 = true := by
      have : i < 14 := by omega
      clear ih hM hK hS hY hW g5; grind [gI, gB, gC]
    have hck : (nI i).toNatClampNeg = i := nI_clamp (by omega)
    have i1 := ih (i + 1) (by omega) (by omega)
    have t1 := tN_le (D := D) (n := n) (k := i) (y := y) (set := set)
    rw [if_neg (nI_ge (by omega) (by omega)), if_pos i14, hck, g5]
    rw [nx_s] at i1
    cases hg : kG D n i with
    | true =>
      rw [hg, if_pos rfl] at i1
      rw [if_neg (by decide), nI_1]
      exact i1
    | false =>
      rw [hg, if_neg (by decide)] at i1
      have hl := next_58 hW (u := nxA (nx D n y set i)) (v := nxB 0 (nx D n y set i)) (set := set) (F_X12_next_28 m) (show i < 14 by omega) hn hM hS hY FU 0 (by show _ < 1000000; omega) (by omega)
      rw [if_pos (by decide)]
      refine hl.trans ?_
      rw [nI_1]
      cases he : nx D n y set i with
      | none =>
        rw [he] at i1
        rw [if_pos (show nxA none < 0 by decide)]
        exact i1
      | some p =>
        obtain ⟨a, b⟩ := p
        have hb := nx_lt i a b he
        rw [he] at i1
        have : ¬ nxA (some (a, b)) < 0 := nI_pos (by omega)
        rw [if_neg this]
        by_cases c : b < tN D n y set i
        · have : nxB 0 (some (a, b)) < nI (tN D n y set i) := nI_lt c (by omega)
          rw [if_pos this]
          simp only [c, if_true] at i1
          exact i1
        · have : ¬ nxB 0 (some (a, b)) < nI (tN D n y set i) := fun z => c ((nI_ltI (by omega) (by omega)).mp z)
          rw [if_neg this]
          simp only [c, if_false] at i1
          exact i1
theorem p_next {h : Nat → Bool} {σ : Mm} (hI : Iv h σ) (set y n' : Int32) : ∃ (r : Int32) (σ1 : Mm) (σ2 : Mm), F_X11_next set y n' σ = some (r, σ1) ∧ F_X12_next set y n' σ1 = some (r, σ2) ∧ Iv h σ2 := by
  obtain ⟨D, hC, hM, hW⟩ := id hI.2.2.2.2.2
  have oP := okP_of hI.1
  have h60 := hW.2.1
  have h14 : nT D ≤ 14 := hW.1
  have hB : CB D σ := ⟨hI.1, hC⟩
  by_cases v1 : asK D set y n'
  · obtain ⟨n, hn, rfl⟩ := known_nat (by omega) v1.2.2
    refine q_call hI fr_X11_next rfl (nxA (nx D n y set (nT D))) ?_ (fun _ => fr_X12_next) rfl (fun σ1 f1 => ?_)
    · unfold F_X11_next F_X11_next_19
      rw [if_pos oP, if_neg (fun z => (askedC hC).mp z v1)]
      refine Ok_V ((s_lookAt hW (Or.inl rfl) hn hB).frV fr_X11_lookAt) (fun τ hτ => ?_)
      obtain ⟨⟨hG, hc, hS⟩, f⟩ := hτ
      have := next_29 (set := set) hW hn (hB.fr (f.sub rfl)) hG hS hc FU 0 (by show _ < 1000000; omega) (by omega)
      exact ⟨_, this, rfl⟩
    · have hM1 : RM σ1 0 D := hM.fr (f1.sub rfl)
      unfold F_X12_next F_X12_next_7 F_X12_next_18
      rw [isSetM hM1 v1, bnd_s, if_neg ne10]
      refine Ok_V ((s_layAll hW hn hM1).frV fr_X12_layAll) (fun τ hτ => ?_)
      obtain ⟨⟨hY, hS⟩, f⟩ := hτ
      have := next_28 (set := set) hW hn (hM1.fr (f.sub rfl)) hY.1 hS hY.my FU 0 (by show _ < 1000000; omega) (by omega)
      exact ⟨_, this, rfl⟩
  · refine ⟨-1, σ, σ, ?_, ?_, hI⟩
    · unfold F_X11_next
      rw [if_pos oP, if_pos ((askedC hC).mpr v1)]
    · unfold F_X12_next F_X12_next_7
      rw [isSetMN hM v1, bnd_s, if_pos rfl]
