/-! sums over a ring of DEGREES -/
def sm (f : Nat → Int32) : Nat → Int32
  | 0 => 0
  | k + 1 => sm f k + f k
theorem sm_s {f : Nat → Int32} {k : Nat} : sm f (k + 1) = sm f k + f k := rfl
theorem sm_cong {f g : Nat → Int32} : ∀ k, (∀ e, e < k → f e = g e) → sm f k = sm g k := by
  intro k
  induction k with
  | zero => intro _; rfl
  | succ k ih => intro h; rw [sm_s, sm_s, ih (fun e he => h e (by omega)), h k (by omega)]
theorem sm_add {f g : Nat → Int32} : ∀ k, sm (fun e => f e + g e) k = sm f k + sm g k := by
  intro k
  induction k with
  | zero => rfl
  | succ k ih => rw [sm_s, sm_s, sm_s, ih]; grind
theorem sm_one {v : Int32} {a : Nat} : ∀ k, sm (fun e => if e = a then v else 0) k = if a < k then v else 0 := by
  intro k
  induction k with
  | zero => rfl
  | succ k ih =>
    rw [sm_s, ih]
    by_cases h : a < k
    · rw [if_pos h, if_neg (by omega), if_pos (by omega)]; grind
    · rw [if_neg h]
      by_cases e : k = a
      · rw [if_pos e, if_pos (by omega)]; grind
      · rw [if_neg e, if_neg (by omega)]; grind
theorem sm_shift {f : Nat → Int32} : ∀ k, sm (fun e => f (e + 1)) k + f 0 = sm f (k + 1) := by
  intro k
  induction k with
  | zero => rw [sm_s]; rfl
  | succ k ih => rw [sm_s, sm_s, ← ih]; grind
theorem sm_ring {f g : Nat → Int32} (h : ∀ e, e < 359 → g e = f (e + 1)) (h0 : g 359 = f 0) : sm g 360 = sm f 360 := by
  rw [sm_s (f := g) (k := 359), sm_cong (f := g) (g := fun e => f (e + 1)) 359 h, h0]
  exact sm_shift 359
def bI (c : Bool) : Int32 := if c then 1 else 0
/-- whether a DEGREE hits -/
def stc (D : DD) (cw : Nat) (y w set : Int32) : Bool := decide (HB D y w (nI cw) false &&& set ≠ 0)
def ch (D : DD) (cw : Nat) (y set : Int32) (e : Nat) : Bool := stc D cw y (nI e) set
/-- HITS of a set in a turn, by a width -/
def hNc (D : DD) (n : Nat) (ρ : Int32) (cw : Nat) (y set t : Int32) : Nat := cn (fun x => (isL D n x && hRule D n x ρ) && stc D cw y (f_X1_turned (lDeg D n x) t) set) 196
theorem hNc_6 {D : DD} {n : Nat} {ρ y set t : Int32} : hNc D n ρ (dN D 6) y set t = hN D n ρ y set t false := by
  unfold hNc hN
  exact cn_cong 196 (fun x _ => by unfold stc str; rfl)
theorem hNc_le {D : DD} {n cw : Nat} {ρ y set t : Int32} : hNc D n ρ cw y set t ≤ 182 := by
  unfold hNc
  rw [← cP_Ls (q := fun x => stc D cw y (f_X1_turned (lDeg D n x) t) set)]
  have h1 := cP_le (q := fun x => stc D cw y (f_X1_turned (lDeg D n x) t) set) (A := Ls D n ρ 196)
  have h2 := Ls_len (D := D) (n := n) (ρ := ρ) 196 (Nat.le_refl _)
  omega
def ctD (D : DD) (n : Nat) (ρ : Int32) (d : Nat) : Int32 := nI (cn (fun x => (isL D n x && hRule D n x ρ) && decide (lDeg D n x = nI d)) 196)
theorem nI_plus (a : Nat) : ∀ b, nI (a + b) = nI a + nI b := by
  intro b
  induction b with
  | zero => show nI a = nI a + 0; grind
  | succ b ih => rw [show a + (b + 1) = (a + b) + 1 by omega, ← nI_1, ← nI_1, ih]; grind
theorem turned_nat {w t : Nat} (hw : w < 360) (ht : t < 360) : f_X1_turned (nI w) (nI t) = nI ((w + t) % 360) := by
  unfold f_X1_turned
  rw [← nI_plus]
  by_cases h : 360 ≤ w + t
  · rw [if_pos (show (360 : Int32) ≤ nI (w + t) from nI_le (a := 360) h (by omega)), show (w + t) % 360 = w + t - 360 by omega]
    have := nI_plus (w + t - 360) 360
    rw [show w + t - 360 + 360 = w + t by omega] at this
    rw [this, show nI 360 = 360 from rfl]
    grind
  · rw [if_neg (show ¬ (360 : Int32) ≤ nI (w + t) from nI_ge (b := 360) (by omega) (by decide)), show (w + t) % 360 = w + t by omega]
theorem hN_sm {D : DD} (hW : WF D) {n t cw : Nat} {ρ y set : Int32} (hn : n ≤ dN D 1) (ht : t < 360) : nI (hNc D n ρ cw y set (nI t)) = sm (fun e => bI (ch D cw y set e) * ctD D n ρ ((e + 360 - t) % 360)) 360 := by
  have main : ∀ l, l ≤ 196 → nI (cn (fun x => (isL D n x && hRule D n x ρ) && stc D cw y (f_X1_turned (lDeg D n x) (nI t)) set) l) = sm (fun e => bI (ch D cw y set e) * nI (cn (fun x => (isL D n x && hRule D n x ρ) && decide (lDeg D n x = nI ((e + 360 - t) % 360))) l)) 360 := by
    intro l
    induction l with
    | zero =>
      intro _
      rw [sm_cong (g := fun _ => if 0 = 400 then 0 else 0) 360 (fun e _ => by show bI _ * 0 = 0; grind)]
      rw [show (fun (_ : Nat) => (if 0 = 400 then (0 : Int32) else 0)) = (fun e => if e = 400 then (0 : Int32) else 0) from funext fun e => by simp]
      rw [sm_one, if_neg (by decide)]; rfl
    | succ l ih =>
      intro hl
      have i0 := ih (by omega)
      cases hc : (isL D n l && hRule D n l ρ) with
      | false =>
        have e1 : ∀ q : Nat → Bool, cn (fun x => (isL D n x && hRule D n x ρ) && q x) (l + 1) = cn (fun x => (isL D n x && hRule D n x ρ) && q x) l := fun q => by
          show _ + (if ((isL D n l && hRule D n l ρ) && q l) = true then 1 else 0) = _
          rw [hc, Bool.false_and]; rfl
        rw [e1, i0]
        exact sm_cong 360 (fun e _ => by rw [e1])
      | true =>
        have hL : isL D n l = true := by
          simp only [Bool.and_eq_true] at hc; exact hc.1
        obtain ⟨w, hw, ew⟩ := deg_nat (lDeg_in hW hn hL)
        have e1 : ∀ q : Nat → Bool, nI (cn (fun x => (isL D n x && hRule D n x ρ) && q x) (l + 1)) = nI (cn (fun x => (isL D n x && hRule D n x ρ) && q x) l) + bI (q l) := fun q => by
          show nI (_ + (if ((isL D n l && hRule D n l ρ) && q l) = true then 1 else 0)) = _
          rw [hc, Bool.true_and]
          unfold bI
          cases q l
          · show nI _ = _ + (if false = true then 1 else 0)
            rw [if_neg (by decide)]
            show nI (_ + 0) = _
            grind
          · exact (nI_1 _).symm
        rw [e1, i0]
        have e2 : ∀ e, e < 360 → bI (ch D cw y set e) * nI (cn (fun x => (isL D n x && hRule D n x ρ) && decide (lDeg D n x = nI ((e + 360 - t) % 360))) (l + 1)) = bI (ch D cw y set e) * nI (cn (fun x => (isL D n x && hRule D n x ρ) && decide (lDeg D n x = nI ((e + 360 - t) % 360))) l) + (if e = (w + t) % 360 then bI (ch D cw y set ((w + t) % 360)) else 0) := by
          intro e he
          rw [e1 (fun x => decide (lDeg D n x = nI ((e + 360 - t) % 360))), ew]
          by_cases h : e = (w + t) % 360
          · rw [if_pos h, decide_eq_true (by congr 1; omega), ← h]
            show _ * (_ + 1) = _
            grind
          · rw [if_neg h, decide_eq_false (fun z => h (by have := (nI_eq (by omega) (by omega)).mp z; omega))]
            show _ * (_ + 0) = _
            grind
        rw [sm_cong 360 e2, sm_add, sm_one, if_pos (by omega), ew, turned_nat hw ht]
        rfl
  exact main 196 (by omega)
/-- from a turn to the next -/
theorem sm_next {c : Nat → Int32} {g : Nat → Int32} {t : Nat} (ht : t < 360) : sm (fun e => c e * g ((e + 360 - (t + 1)) % 360)) 360 = sm (fun e => c e * g ((e + 360 - t) % 360)) 360 + sm (fun e => (c ((e + 1) % 360) - c e) * g ((e + 360 - t) % 360)) 360 := by
  rw [← sm_add]
  rw [sm_cong (f := fun e => c e * g ((e + 360 - t) % 360) + (c ((e + 1) % 360) - c e) * g ((e + 360 - t) % 360)) (g := fun e => c ((e + 1) % 360) * g ((e + 360 - t) % 360)) 360 (fun e _ => by generalize c e = a; generalize c ((e + 1) % 360) = b; generalize g ((e + 360 - t) % 360) = z; grind)]
  refine (sm_ring (fun e he => ?_) ?_).symm
  · show c ((e + 1) % 360) * g ((e + 360 - t) % 360) = c (e + 1) * g ((e + 1 + 360 - (t + 1)) % 360)
    rw [show (e + 1) % 360 = e + 1 by omega, show e + 1 + 360 - (t + 1) = e + 360 - t by omega]
  · show c ((359 + 1) % 360) * g ((359 + 360 - t) % 360) = c 0 * g ((0 + 360 - (t + 1)) % 360)
    rw [show (359 + 1) % 360 = 0 by rfl, show (359 + 360 - t) % 360 = (0 + 360 - (t + 1)) % 360 by omega]
