/-! spun: HITS in every turn told -/
def lsm (g : Nat → Int32) : List Nat → Int32
  | [] => 0
  | x :: r => g x + lsm g r
theorem lsm_app {g : Nat → Int32} {A B : List Nat} : lsm g (A ++ B) = lsm g A + lsm g B := by
  induction A with
  | nil => show lsm g B = 0 + lsm g B; grind
  | cons a A ih => show _ + lsm g (A ++ B) = _ + lsm g A + lsm g B; rw [ih]; grind
theorem lsm_take {g : Nat → Int32} {A : List Nat} {k x : Nat} (h : A[k]? = some x) : lsm g (A.take (k + 1)) = lsm g (A.take k) + g x := by
  have : A.take (k + 1) = A.take k ++ [x] := by rw [List.take_add_one, h]; rfl
  rw [this, lsm_app]
  show _ + (g x + 0) = _
  grind
theorem lsm_Ed {c : Nat → Bool} {g : Nat → Int32} : ∀ k, lsm (fun e => dl c e * g e) (Ed c k) = sm (fun e => dl c e * g e) k := by
  intro k
  induction k with
  | zero => rfl
  | succ k ih =>
    rw [Ed_s, lsm_app, ih, sm_s]
    by_cases h : c k = c ((k + 1) % 360)
    · have : dl c k = 0 := by unfold dl; rw [h]; grind
      rw [this, h, bne_self_eq_false, if_neg (by decide)]
      show _ + 0 = _ + 0 * _
      grind
    · rw [if_pos (bne_iff_ne.mpr h)]
      show _ + (_ + 0) = _
      grind
/-- HITS of a set turned by t, as a sum -/
def HH (D : DD) (n : Nat) (ρ : Int32) (cw : Nat) (y set : Int32) (t : Nat) : Int32 := sm (fun e => bI (ch D cw y set e) * ctD D n ρ ((e + 360 - t) % 360)) 360
theorem HH_s {D : DD} {n t cw : Nat} {ρ y set : Int32} (ht : t < 360) : HH D n ρ cw y set (t + 1) = HH D n ρ cw y set t + sm (fun e => dl (ch D cw y set) e * ctD D n ρ ((e + 360 - t) % 360)) 360 :=
  sm_next (c := fun e => bI (ch D cw y set e)) (g := ctD D n ρ) ht
theorem spin_25 {D : DD} {n t cw : Nat} {ρ y set X : Int32} {σ : Mm} (rc : Int32 → Int32 → Mm → Option Mm) (ht : t < 360) (hG : GTH D n ρ σ) (hE : EDG (ch D cw y set) 360 σ) : ∀ (m j : Nat), (Ed (ch D cw y set) 360).length - j < m → j ≤ (Ed (ch D cw y set) 360).length →
    F_X10_spin_25 rc m (X + lsm (fun e => dl (ch D cw y set) e * ctD D n ρ ((e + 360 - t) % 360)) ((Ed (ch D cw y set) 360).take j)) (nI t) (nI j) σ = rc (X + lsm (fun e => dl (ch D cw y set) e * ctD D n ρ ((e + 360 - t) % 360)) (Ed (ch D cw y set) 360)) (nI (t + 1)) σ := by
  have hlen := Ed_len (c := ch D cw y set) 360
  intro m
  induction m with
  | zero => intro j h; omega
  | succ m ih =>
    intro j hm hj
    change B_X10_spin_25 rc (F_X10_spin_25 rc m) _ _ _ _ = _
    unfold B_X10_spin_25
    rw [hE.1, nI_1]
    by_cases hd : (Ed (ch D cw y set) 360).length ≤ j
    · rw [if_pos (nI_le hd (by omega)), List.take_of_length_le hd]
    have hj2 : j < (Ed (ch D cw y set) 360).length := by omega
    have hx : (Ed (ch D cw y set) 360)[j]? = some (Ed (ch D cw y set) 360)[j] := List.getElem?_eq_getElem hj2
    generalize (Ed (ch D cw y set) 360)[j] = e at hx
    have he := Ed_lt hx
    have i1 := ih (j + 1) (by omega) (by omega)
    rw [lsm_take hx] at i1
    have hcj : (nI j).toNatClampNeg = j := nI_clamp (by omega)
    have ij : inb (nI j) 360 = true := by
      have : j < 360 := by omega
      clear ih hG hE i1 hx; grind [gI, gB, gC]
    have hr : (e + 360 - t) % 360 < 360 := by omega
    rw [if_neg (nI_ge (by omega) (by omega)), if_pos ij, hcj, (hE.2 j e hx).1]
    unfold F_X10_spin_45
    rw [if_pos ij, hcj, (hE.2 j e hx).2]
    have key : ∀ R : Int32 → Option Mm, (if 0 ≤ nI e - nI t then R (nI e - nI t) else R (nI e - nI t + 360)) = R (nI ((e + 360 - t) % 360)) := by
      intro R
      by_cases h : t ≤ e
      · have e1 := nI_plus (e - t) t
        rw [show e - t + t = e by omega] at e1
        have e2 : nI e - nI t = nI (e - t) := by rw [e1]; grind
        rw [e2, if_pos (nI_pos' (by omega)), show (e + 360 - t) % 360 = e - t by omega]
      · have e1 := nI_plus e (t - e)
        rw [show e + (t - e) = t by omega] at e1
        have e2 : nI e - nI t = - nI (t - e) := by rw [e1]; grind
        have e3 := nI_plus (e + 360 - t) (t - e)
        rw [show e + 360 - t + (t - e) = 360 by omega, show nI 360 = 360 from rfl] at e3
        have b1 : (1 : Int32) ≤ nI (t - e) := nI_le (a := 1) (by omega) (by omega)
        have b2 : nI (t - e) ≤ 360 := nI_le (b := 360) (by omega) (by decide)
        have nb : ¬ 0 ≤ nI e - nI t := by
          rw [e2]
          generalize nI (t - e) = z at *
          clear ih hG hE i1 hx e1 e2 e3; grind
        have e4 : nI e - nI t + 360 = nI (e + 360 - t) := by
          rw [e2, e3]
          clear ih hG hE i1 hx nb b1 b2 e1 e2 e3; grind
        rw [if_neg nb, e4, show (e + 360 - t) % 360 = e + 360 - t by omega]
    rw [key (fun q => F_X10_spin_73 rc (F_X10_spin_25 rc m) (nI t) (nI j) q (dl (ch D cw y set) e) (X + lsm (fun e => dl (ch D cw y set) e * ctD D n ρ ((e + 360 - t) % 360)) ((Ed (ch D cw y set) 360).take j)) σ)]
    unfold F_X10_spin_73 F_X10_spin_77
    have hcr : (nI ((e + 360 - t) % 360)).toNatClampNeg = (e + 360 - t) % 360 := nI_clamp (by omega)
    have ir : inb (nI ((e + 360 - t) % 360)) 360 = true := by
      generalize (e + 360 - t) % 360 = r at *
      clear ih hG hE i1 hx key hcr; grind [gI, gB, gC]
    rw [if_pos ir, hcr, hG _ hr, nI_1]
    rw [← Int32.add_assoc] at i1
    exact i1
theorem spin_8 {D : DD} {n cw : Nat} {ρ y set : Int32} : ∀ (m t : Nat) (σ : Mm), 360 - t < m → t ≤ 360 → GTH D n ρ σ → EDG (ch D cw y set) 360 σ → (∀ u, u < t → mA σ 0 0 32 u = HH D n ρ cw y set u) → Ok (F_X10_spin_8 m (HH D n ρ cw y set t) (nI t) σ) (fun τ => ∀ u, u < 360 → mA τ 0 0 32 u = HH D n ρ cw y set u) := by
  intro m
  induction m with
  | zero => intro t σ h; omega
  | succ m ih =>
    intro t σ hm ht hG hE hq
    change Ok (B_X10_spin_8 (F_X10_spin_8 m) _ _ _) _
    unfold B_X10_spin_8
    by_cases hd : 360 ≤ t
    · have e : t = 360 := by omega
      subst e
      exact Ok_t (by decide) (Ok_r hq)
    have ht2 : t < 360 := by omega
    have hct : (nI t).toNatClampNeg = t := nI_clamp (by omega)
    have it : inb (nI t) 360 = true := by clear ih hG hE hq; grind [gI, gB, gC]
    refine Ok_f (show ¬ (360 : Int32) ≤ nI t from nI_ge (b := 360) (by omega) (by decide)) (Ok_t it ?_)
    rw [hct]
    unfold F_X10_spin_22
    have f : Fr [(0, 32, 999)] σ (setA σ 0 0 32 (upd (mA σ 0 0 32) t (HH D n ρ cw y set t))) := Fr.AA Fr_r rfl
    have e32 : ∀ u, u < t + 1 → mA (setA σ 0 0 32 (upd (mA σ 0 0 32) t (HH D n ρ cw y set t))) 0 0 32 u = HH D n ρ cw y set u := by
      intro u hu
      rw [mA_A, if_pos ⟨rfl, rfl, rfl⟩, upd_at]
      by_cases h : u = t
      · rw [if_pos h, h]
      · rw [if_neg h]; exact hq u (by omega)
    generalize setA σ 0 0 32 (upd (mA σ 0 0 32) t (HH D n ρ cw y set t)) = τ at *
    have hG1 := hG.fr f rfl
    have hE1 := hE.fr f rfl
    have := spin_25 (X := HH D n ρ cw y set t) (F_X10_spin_8 m) ht2 hG1 hE1 FU 0 (by have := Ed_len (c := ch D cw y set) 360; show _ < 1000000; omega) (by omega)
    rw [List.take_zero, show HH D n ρ cw y set t + lsm (fun e => dl (ch D cw y set) e * ctD D n ρ ((e + 360 - t) % 360)) [] = HH D n ρ cw y set t from by show _ + 0 = _; grind] at this
    rw [lsm_Ed (g := fun e => ctD D n ρ ((e + 360 - t) % 360)), ← HH_s ht2] at this
    have i1 := ih (t + 1) τ (by omega) (by omega) hG1 hE1 e32
    rw [← this] at i1
    exact i1
/-- HITS of a set in every turn -/
def TU (D : DD) (n : Nat) (ρ : Int32) (cw : Nat) (y set : Int32) (σ : Mm) : Prop := ∀ t, t < 360 → mA σ 0 0 32 t = nI (hNc D n ρ cw y set (nI t))
theorem s_spin {D : DD} (hW : WF D) {n cw : Nat} {ρ y set : Int32} {σ : Mm} (hn : n ≤ dN D 1) (hV : CV D cw y σ) (hG : GTH D n ρ σ) : Ok (F_X10_spin set σ) (TU D n ρ cw y set) := by
  unfold F_X10_spin F_X10_spin_5
  refine Ok_B ((s_findEdges (set := set) hV hG).frI fr_X10_findEdges) (fun v τ hv => ?_)
  obtain ⟨⟨hv, hE⟩, f⟩ := hv
  have hv : v = sm (fun e => bI (ch D cw y set e) * ctD D n ρ e) 360 := hv
  have hE : EDG (ch D cw y set) 360 τ := hE
  have f : Fr W_X10_findEdges σ τ := f
  have e0 : v = HH D n ρ cw y set 0 := by
    rw [hv]
    exact sm_cong 360 (fun e he => by rw [show (e + 360 - 0) % 360 = e by omega])
  rw [e0]
  refine Ok.mono (spin_8 FU 0 τ (by show _ < 1000000; omega) (by omega) (hG.fr f rfl) hE (fun u h => absurd h (by omega))) (fun υ h t ht => ?_)
  rw [h t ht]
  exact (hN_sm hW hn ht).symm
