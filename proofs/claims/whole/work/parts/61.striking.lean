/-! striking -/
/-- HITS of a set in a turn, by a width -/
def Hc (D : DD) (n : Nat) (y : Int32) (c s t : Nat) : Nat := hNc D n (-1) c y (nI s) (nI t)
def fs (D : DD) (n : Nat) (y : Int32) (c : Nat) (b : Nat → Int32) : Nat → Nat → Int32
  | 0 => b
  | s + 1 => lowd (Hc D n y c (s + 1)) (fs D n y c b s)
def fc (D : DD) (n : Nat) (y : Int32) : Nat → Nat → Int32
  | 0 => fun _ => 360
  | c + 1 => fs D n y c (fc D n y c) (2 ^ dN D 4 - 1)
theorem pow_set : ∀ p, p ≤ 5 → (1 : Int32) <<< (nI p &&& 31) = nI (2 ^ p) := by decide
theorem fill_le {σ : Mm} : ∀ (m d : Nat) (τ : Mm), 360 - d < m → d ≤ 360 → (∀ e, e < d → mA τ 0 0 33 e = 360) → Ok (F_J7_fill_53178_le_5 m 360 (nI d) 360 τ) (fun υ => ∀ e, e < 360 → mA υ 0 0 33 e = 360) := by
  intro m
  induction m with
  | zero => intro d τ h; omega
  | succ m ih =>
    intro d τ hm hd hq
    change Ok (B_J7_fill_53178_le_5 (F_J7_fill_53178_le_5 m) _ _ _ _) _
    unfold B_J7_fill_53178_le_5
    by_cases hc : 360 ≤ d
    · have e : d = 360 := by omega
      subst e
      exact Ok_t (by decide) (Ok_r hq)
    have hck : (nI d).toNatClampNeg = d := nI_clamp (by omega)
    have i360 : inb (nI d) 360 = true := by
      have : d < 360 := by omega
      clear ih hq; grind [gI, gB, gC]
    refine Ok_f (show ¬ (360 : Int32) ≤ nI d from nI_ge (b := 360) (by omega) (by decide)) (Ok_t i360 ?_)
    unfold F_J7_fill_53178_le_14
    rw [hck, nI_1]
    refine ih (d + 1) _ (by omega) (by omega) (fun e he => ?_)
    rw [mA_A, if_pos ⟨rfl, rfl, rfl⟩, upd_at]
    by_cases h : e = d
    · rw [if_pos h]
    · rw [if_neg h]; exact hq e (by omega)
theorem tell_31 {D : DD} (hW : WF D) {n c : Nat} {y : Int32} {b : Nat → Int32} {Q : Mm → Prop} (rc : Int32 → Mm → Option Mm) (hn : n ≤ dN D 1) (hc : c ≤ 4) (hrc : ∀ τ, GTH D n (-1) τ → SW D y (dN D 4) τ → (∀ u, u < 360 → mA τ 0 0 33 u = fs D n y c b (2 ^ dN D 4 - 1) u) → Ok (rc (nI (c + 1)) τ) Q) : ∀ (m s : Nat) (σ : Mm), 2 ^ dN D 4 - s < m → s + 1 ≤ 2 ^ dN D 4 → GTH D n (-1) σ → SW D y (dN D 4) σ → CV D c y σ → (∀ u, u < 360 → mA σ 0 0 33 u = fs D n y c b s u) → Ok (F_X10_tellAfter_31 rc m (nI c) (nI (s + 1)) σ) Q := by
  have h5 := hW.2.2.2.2.1
  have hp : 2 ^ dN D 4 ≤ 2 ^ 5 := Nat.pow_le_pow_right (by decide) h5
  intro m
  induction m with
  | zero => intro s τ h; omega
  | succ m ih =>
    intro s σ hm hs hG hS hV hq
    change Ok (B_X10_tellAfter_31 rc (F_X10_tellAfter_31 rc m) _ _ _) _
    unfold B_X10_tellAfter_31
    rw [hS.1, pow_set _ h5, nI_1]
    by_cases hd : 2 ^ dN D 4 ≤ s + 1
    · have e : 2 ^ dN D 4 - 1 = s := by omega
      rw [e] at hrc
      exact Ok_t (nI_le hd (by omega)) (hrc σ hG hS hq)
    refine Ok_f (nI_ge (by omega) (by omega)) ?_
    refine Ok_V ((s_spin (D := D) (cw := c) (n := n) (ρ := -1) (set := nI (s + 1)) hW hn hV hG).frV fr_X10_spin) (fun τ hτ => ?_)
    obtain ⟨hT, f⟩ := hτ
    unfold F_X10_tellAfter_48 F_X10_tellAfter_52
    refine Ok_V ((s_lower (h := Hc D n y c (s + 1)) (b := fs D n y c b s) (fun u _ => hNc_le) hT (fun u hu => by rw [f.row (t := 0) (k := 33) 0 rfl]; exact hq u hu)).frV fr_X10_lower) (fun υ hυ => ?_)
    obtain ⟨hL, f2⟩ := hυ
    rw [nI_1]
    exact ih (s + 1) υ (by omega) (by omega) ((hG.fr f rfl).fr f2 rfl) ((hS.fr f rfl).fr f2 rfl) ((hV.fr f rfl).fr f2 rfl) hL
theorem tell_17 {D : DD} (hW : WF D) {n : Nat} {y : Int32} (hn : n ≤ dN D 1) : ∀ (m c : Nat) (σ : Mm), 5 - c < m → c ≤ 5 → GTH D n (-1) σ → SW D y (dN D 4) σ → (∀ u, u < 360 → mA σ 0 0 33 u = fc D n y c u) → Ok (F_X10_tellAfter_17 m (nI c) σ) (fun τ => ∀ u, u < 360 → mA τ 0 0 33 u = fc D n y 5 u) := by
  have h5 := hW.2.2.2.2.1
  have hp : 2 ^ dN D 4 ≤ 2 ^ 5 := Nat.pow_le_pow_right (by decide) h5
  have hp1 : 1 ≤ 2 ^ dN D 4 := Nat.one_le_two_pow
  intro m
  induction m with
  | zero => intro c τ h; omega
  | succ m ih =>
    intro c σ hm hc hG hS hq
    change Ok (B_X10_tellAfter_17 (F_X10_tellAfter_17 m) _ _) _
    unfold B_X10_tellAfter_17
    by_cases hd : 5 ≤ c
    · have e : c = 5 := by omega
      subst e
      exact Ok_t (by decide) (Ok_r hq)
    have nc : ¬ (4 : Int32) < nI c := fun z => by
      have := nI_le (a := c) (b := 4) (by omega) (by decide)
      have w : nI 4 = 4 := rfl
      rw [w] at this
      clear ih hG hS hq; grind
    refine Ok_f nc ?_
    have h0 : Ok (F_X10_cover (nI c) σ) (CV D c y) := s_cover (D := D) (cw := c) hW hS
    refine Ok_V (h0.frV fr_X10_cover) (fun τ hτ => ?_)
    obtain ⟨hV, f⟩ := hτ
    unfold F_X10_tellAfter_28
    exact tell_31 hW (b := fc D n y c) (F_X10_tellAfter_17 m) hn (by omega) (fun υ a1 a2 a3 => ih (c + 1) υ (by omega) (by omega) a1 a2 a3) FU 0 τ (by show _ < 1000000; omega) (by omega) (hG.fr f rfl) (hS.fr f rfl) hV (fun u hu => by rw [f.row (t := 0) (k := 33) 0 rfl]; exact hq u hu)
theorem s_tellAfter {D : DD} (hW : WF D) {n : Nat} {y : Int32} {σ : Mm} (hn : n ≤ dN D 1) (hc : GCh D n (-1) 196 σ) (hS : SW D y (dN D 4) σ) : Ok (F_X10_tellAfter σ) (fun τ => ∀ u, u < 360 → mA τ 0 0 33 u = fc D n y 5 u) := by
  unfold F_X10_tellAfter F_X10_tellAfter_10 F_X10_tellAfter_15
  have h0 : Ok (F_J7_fill_53178_le 360 σ) (fun υ => ∀ e, e < 360 → mA υ 0 0 33 e = 360) := fill_le (σ := σ) FU 0 σ (by show _ < 1000000; omega) (by omega) (fun e he => absurd he (by omega))
  refine Ok_V (h0.frV fr_J7_fill_53178_le) (fun τ hτ => ?_)
  obtain ⟨hz, f⟩ := hτ
  refine Ok_V ((s_gather hW hn (hc.fr f rfl)).frV fr_X10_gather) (fun υ hυ => ?_)
  obtain ⟨hG, f2⟩ := hυ
  exact tell_17 hW hn FU 0 υ (by show _ < 1000000; omega) (by omega) hG ((hS.fr f rfl).fr f2 rfl) (fun u hu => by rw [f2.row (t := 0) (k := 33) 0 rfl]; exact hz u hu)
