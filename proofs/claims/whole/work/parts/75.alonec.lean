/-! alone, the class: who is joined with whom; the names close up; the best of each set -/
def adjR (r : Nat → Int32) (a b : Nat) : Bool := decide (a < 14) && bt (r a) b
def JN (P : Nat → Prop) (r : Nat → Int32) : Prop := ∀ a b, a < 14 → (bt (r a) b = true ↔ b < 14 ∧ (P (14 * a + b) ∨ P (14 * b + a)))
theorem JN.cong {P Q : Nat → Prop} {r : Nat → Int32} (h : JN P r) (hPQ : ∀ x, x < 196 → (P x ↔ Q x)) : JN Q r := by
  intro a b ha
  rw [h a b ha]
  constructor
  · rintro ⟨hb, z⟩
    exact ⟨hb, z.imp (hPQ _ (by omega)).mp (hPQ _ (by omega)).mp⟩
  · rintro ⟨hb, z⟩
    exact ⟨hb, z.imp (hPQ _ (by omega)).mpr (hPQ _ (by omega)).mpr⟩
theorem JN.zero {r : Nat → Int32} (h : ∀ a, a < 14 → r a = 0) : JN (fun _ => False) r := by
  intro a b ha
  rw [h a ha, bt_0]
  exact ⟨fun z => (by cases z), fun z => (by rcases z.2 with z | z <;> cases z)⟩
theorem JN.join {P : Nat → Prop} {r : Nat → Int32} (h : JN P r) {l : Nat} (hl : l < 196) :
    JN (fun x => P x ∨ x = l) (upd (upd r (l / 14) (r (l / 14) ||| ((1 : Int32) <<< (nI (l % 14) &&& 31)))) (l % 14) (upd r (l / 14) (r (l / 14) ||| ((1 : Int32) <<< (nI (l % 14) &&& 31))) (l % 14) ||| ((1 : Int32) <<< (nI (l / 14) &&& 31)))) := by
  intro x y hx
  have k1 : l / 14 < 32 := by omega
  have k2 : l % 14 < 32 := by omega
  have key : bt (upd (upd r (l / 14) (r (l / 14) ||| ((1 : Int32) <<< (nI (l % 14) &&& 31)))) (l % 14) (upd r (l / 14) (r (l / 14) ||| ((1 : Int32) <<< (nI (l % 14) &&& 31))) (l % 14) ||| ((1 : Int32) <<< (nI (l / 14) &&& 31))) x) y
      = (bt (r x) y || (decide (x = l / 14) && decide (y = l % 14)) || (decide (x = l % 14) && decide (y = l / 14))) := by
    simp only [upd_at]
    by_cases c1 : x = l % 14
    · by_cases c2 : l % 14 = l / 14
      · have c3 : x = l / 14 := by omega
        rw [if_pos c1, if_pos c2, bt_or, bt_or, bt_pow k1, bt_pow k2, ← c3]
        simp [← c1]
      · have c3 : ¬ x = l / 14 := by omega
        rw [if_pos c1, if_neg c2, bt_or, bt_pow k1, ← c1]
        simp [c3]
    · by_cases c3 : x = l / 14
      · rw [if_neg c1, if_pos c3, bt_or, bt_pow k2, ← c3]
        simp [c1]
      · rw [if_neg c1, if_neg c3]
        simp [c1, c3]
  rw [key]
  have hu : (x = l / 14 ∧ y = l % 14) ↔ (y < 14 ∧ 14 * x + y = l) := by omega
  have hw : (x = l % 14 ∧ y = l / 14) ↔ (y < 14 ∧ 14 * y + x = l) := by omega
  simp only [Bool.or_eq_true, Bool.and_eq_true, decide_eq_true_eq, h x y hx, hu, hw]
  generalize 14 * x + y = u
  generalize 14 * y + x = w
  clear key hu hw h
  constructor
  · rintro ((⟨h1, h2 | h2⟩ | ⟨h1, h2⟩) | ⟨h1, h2⟩)
    · exact ⟨h1, Or.inl (Or.inl h2)⟩
    · exact ⟨h1, Or.inr (Or.inl h2)⟩
    · exact ⟨h1, Or.inl (Or.inr h2)⟩
    · exact ⟨h1, Or.inr (Or.inr h2)⟩
  · rintro ⟨h1, ((h2 | h2) | (h2 | h2))⟩
    · exact Or.inl (Or.inl ⟨h1, Or.inl h2⟩)
    · exact Or.inl (Or.inr ⟨h1, h2⟩)
    · exact Or.inl (Or.inl ⟨h1, Or.inr h2⟩)
    · exact Or.inr ⟨h1, h2⟩
theorem s_join {P : Nat → Prop} {l : Nat} (hl : l < 196) {σ : Mm} (h : JN P (mA σ 0 0 38)) : Ok (F_X4_join (nI (l / 14)) (nI (l % 14)) σ) (fun τ => JN (fun x => P x ∨ x = l) (mA τ 0 0 38)) := by
  obtain ⟨-, -, d3, d4, d5, d6, -, -, -, -⟩ := nI14 hl
  have e : ∀ (g : Nat → Int32) (τ : Mm), mA (setA τ 0 0 38 g) 0 0 38 = g := fun g τ => by rw [mA_R, if_pos ⟨rfl, rfl, rfl⟩]
  unfold F_X4_join F_X4_join_32
  refine Ok_f (nI_pos (by omega)) (Ok_f (nI_ge (b := 14) (by omega) (by omega)) (Ok_f (nI_pos (by omega)) (Ok_f (nI_ge (b := 14) (by omega) (by omega)) (Ok_t d5 (Ok_t d5 (Ok_t d6 (Ok_t d6 (Ok_r ?_))))))))
  rw [d3, d4]
  simp only [e]
  exact h.join hl
/-- what hits -/
def hlD (D : DD) (n : Nat) (y set : Int32) (x : Nat) : Bool := (isL D n x && hRule D n x (-1)) && str D y (lDeg D n x) set false
def adjD (D : DD) (n : Nat) (y set : Int32) (a b : Nat) : Bool := decide (a < 14) && (decide (b < 14) && (hlD D n y set (14 * a + b) || hlD D n y set (14 * b + a)))
theorem adjD_sym {D : DD} {n : Nat} {y set : Int32} (a b : Nat) : adjD D n y set a b = adjD D n y set b a := by
  unfold adjD
  rw [Bool.or_comm]
  cases decide (a < 14) <;> cases decide (b < 14) <;> simp
theorem adjR_eq {D : DD} {n : Nat} {y set : Int32} {r : Nat → Int32} (h : JN (fun x => hlD D n y set x = true) r) : adjR r = adjD D n y set := by
  funext a b
  unfold adjR adjD
  by_cases ha : a < 14
  · rw [decide_eq_true ha, Bool.true_and, Bool.true_and]
    apply Bool.eq_iff_iff.mpr
    rw [h a b ha]
    simp only [Bool.and_eq_true, Bool.or_eq_true, decide_eq_true_eq]
  · rw [decide_eq_false ha, Bool.false_and, Bool.false_and]
theorem alone_29 {D : DD} (hW : WF D) {n : Nat} {y set : Int32} (hn : n ≤ dN D 1) {Q : Int32 × Mm → Prop} (hmost : ∀ τ, JN (fun x => hlD D n y set x = true) (mA τ 0 0 38) → Ok (F_X4_most τ) Q) : ∀ (m k : Nat) (σ : Mm), (Ls D n (-1) 196).length - k < m → k ≤ (Ls D n (-1) 196).length → CB D σ → SW D y (dN D 4) σ → GCh D n (-1) 196 σ →
    JN (fun x => (∃ i, i < k ∧ (Ls D n (-1) 196)[i]? = some x) ∧ str D y (lDeg D n x) set false = true) (mA σ 0 0 38) → Ok (F_X11_alone_29 m set (nI k) σ) (fun q => ∃ τ, Q (q.1, τ)) := by
  have hlen := Ls_len (D := D) (n := n) (ρ := -1) 196 (Nat.le_refl _)
  intro m
  induction m with
  | zero => intro k σ h; omega
  | succ m ih =>
    intro k σ hm hk hB hS hc hJ
    change Ok (B_X11_alone_29 (F_X11_alone_29 m) _ _ _) _
    unfold B_X11_alone_29
    rw [hc.1]
    by_cases hd : (Ls D n (-1) 196).length ≤ k
    · refine Ok_t (nI_le hd (by omega)) (Ok_B (hmost σ (hJ.cong fun x hx => ?_)) (fun v τ hv => Ok_r ⟨τ, hv⟩))
      have hm2 : (∃ i, i < k ∧ (Ls D n (-1) 196)[i]? = some x) ↔ (isL D n x && hRule D n x (-1)) = true := by
        constructor
        · rintro ⟨i, -, hi⟩
          obtain ⟨-, z1, z2⟩ := Ls_mem hi
          rw [z1, z2]; rfl
        · intro z
          have hmem : x ∈ Ls D n (-1) 196 := List.mem_filter.mpr ⟨List.mem_range.mpr hx, z⟩
          obtain ⟨i, hi, e⟩ := List.mem_iff_getElem.mp hmem
          exact ⟨i, by omega, by rw [List.getElem?_eq_getElem hi, e]⟩
      rw [hm2]
      unfold hlD
      simp only [Bool.and_eq_true]
    have hk2 : k < (Ls D n (-1) 196).length := by omega
    have hx : (Ls D n (-1) 196)[k]? = some (Ls D n (-1) 196)[k] := List.getElem?_eq_getElem hk2
    generalize (Ls D n (-1) 196)[k] = x at hx
    obtain ⟨hx196, hL, -⟩ := Ls_mem hx
    have hck : (nI k).toNatClampNeg = k := nI_clamp (by omega)
    have i182 : inb (nI k) 182 = true := by
      have : k < 182 := by omega
      clear ih hc hS hB hW hx hL hJ hmost; grind [gI, gB, gC]
    refine Ok_f (nI_ge (by omega) (by omega)) (Ok_t i182 ?_)
    rw [hck, (hc.2 k x hx).2, s_strikes (s := 0) hW (lDeg_in hW hn hL) hB hS, bnd_s, show decide ((0 : Int32) ≠ 0) = false from by decide]
    unfold F_X11_alone_57 F_X11_alone_93
    have hiff : ∀ z, (∃ i, i < k + 1 ∧ (Ls D n (-1) 196)[i]? = some z) ↔ ((∃ i, i < k ∧ (Ls D n (-1) 196)[i]? = some z) ∨ z = x) := by
      intro z
      constructor
      · rintro ⟨i, hi, e⟩
        by_cases c : i = k
        · subst c; rw [hx] at e; cases e; exact Or.inr rfl
        · exact Or.inl ⟨i, by omega, e⟩
      · rintro (⟨i, hi, e⟩ | rfl)
        · exact ⟨i, by omega, e⟩
        · exact ⟨k, by omega, hx⟩
    cases hst : str D y (lDeg D n x) set false with
    | false =>
      refine Ok_t (by decide) ?_
      rw [nI_1]
      refine ih (k + 1) σ (by omega) (by omega) hB hS hc (hJ.cong fun z _ => ?_)
      rw [hiff]
      constructor
      · rintro ⟨z1, z2⟩; exact ⟨Or.inl z1, z2⟩
      · rintro ⟨z1 | z1, z2⟩
        · exact ⟨z1, z2⟩
        · subst z1; rw [hst] at z2; cases z2
    | true =>
      obtain ⟨d1, d2, -, -, -, -, -, -, -, -⟩ := nI14 hx196
      refine Ok_f (by decide) (Ok_t i182 (Ok_t i182 ?_))
      rw [hck, (hc.2 k x hx).1, d1]
      rw [d1] at d2
      rw [d2]
      refine Ok_V ((s_join hx196 hJ).frV fr_X4_join) (fun τ hτ => ?_)
      obtain ⟨hJ2, f⟩ := hτ
      rw [nI_1]
      refine ih (k + 1) τ (by omega) (by omega) (hB.fr (f.sub rfl)) (hS.fr f rfl) (hc.fr f rfl) (JN.cong hJ2 fun z _ => ?_)
      rw [hiff]
      constructor
      · rintro (⟨z1, z2⟩ | z1)
        · exact ⟨Or.inl z1, z2⟩
        · subst z1; exact ⟨Or.inr rfl, hst⟩
      · rintro ⟨z1 | z1, z2⟩
        · exact Or.inl ⟨z1, z2⟩
        · exact Or.inr z1
theorem fill_jo {σ : Mm} : ∀ (m d : Nat) (τ : Mm), 14 - d < m → d ≤ 14 → (∀ e, e < d → mA τ 0 0 38 e = 0) → Ok (F_J7_fill_53178_jo_5 m 0 (nI d) 14 τ) (fun υ => ∀ e, e < 14 → mA υ 0 0 38 e = 0) := by
  intro m
  induction m with
  | zero => intro d τ h; omega
  | succ m ih =>
    intro d τ hm hd hq
    change Ok (B_J7_fill_53178_jo_5 (F_J7_fill_53178_jo_5 m) _ _ _ _) _
    unfold B_J7_fill_53178_jo_5
    by_cases hc : 14 ≤ d
    · have e : d = 14 := by omega
      subst e
      exact Ok_t (by decide) (Ok_r hq)
    have hck : (nI d).toNatClampNeg = d := nI_clamp (by omega)
    have i14 : inb (nI d) 14 = true := by
      have : d < 14 := by omega
      clear ih hq; grind [gI, gB, gC]
    refine Ok_f (show ¬ (14 : Int32) ≤ nI d from nI_ge (b := 14) (by omega) (by decide)) (Ok_t i14 ?_)
    unfold F_J7_fill_53178_jo_14
    rw [hck, nI_1]
    refine ih (d + 1) _ (by omega) (by omega) (fun e he => ?_)
    rw [mA_A, if_pos ⟨rfl, rfl, rfl⟩, upd_at]
    by_cases h : e = d
    · rw [if_pos h]
    · rw [if_neg h]; exact hq e (by omega)
theorem s_forgetJ {σ : Mm} : Ok (F_X4_forget σ) (fun τ => ∀ e, e < 14 → mA τ 0 0 38 e = 0) := by
  unfold F_X4_forget
  refine Ok_V (P := fun τ => ∀ e, e < 14 → mA τ 0 0 38 e = 0) ?_ (fun τ h => Ok_r h)
  exact fill_jo (σ := σ) FU 0 σ (by show _ < 1000000; omega) (by omega) (fun e he => absurd he (by omega))
/-! the names close up -/
def sw (f t x : Nat) : Nat := if x = f then t else if x = t then f else x
theorem sw_sw (f t x : Nat) : sw f t (sw f t x) = x := by
  unfold sw; grind
def gR (f t : Nat) (x : Int32) : Int32 := if (x >>> (nI f &&& 31)) &&& 1 = 0 then x else (x &&& (((1 : Int32) <<< (nI f &&& 31)) ^^^ (-1))) ||| ((1 : Int32) <<< (nI t &&& 31))
theorem bt_gR {f t j : Nat} {x : Int32} (hf : f < 14) (ht : t < 14) (hft : f ≠ t) (hx : bt x t = false) : bt (gR f t x) j = bt x (sw f t j) := by
  by_cases hj : j < 32
  · unfold gR sw
    by_cases c : bt x f = true
    · rw [if_neg (by rw [bt_test (by omega), if_pos c]; decide), bt_or, bt_and, bt_not hj, bt_pow (by omega), bt_pow (by omega)]
      by_cases c1 : j = f
      · subst c1; rw [if_pos rfl, hx]; simp [hft]
      · by_cases c2 : j = t
        · subst c2; rw [if_neg c1, if_pos rfl, c]; simp
        · rw [if_neg c1, if_neg c2]; simp [c1, c2]
    · have c' : bt x f = false := by
        cases h : bt x f
        · rfl
        · exact absurd h c
      rw [if_pos ((bt_tst (by omega)).mpr c')]
      by_cases c1 : j = f
      · subst c1; rw [if_pos rfl, hx, c']
      · by_cases c2 : j = t
        · subst c2; rw [if_neg c1, if_pos rfl, c', hx]
        · rw [if_neg c1, if_neg c2]
  · have : sw f t j = j := by unfold sw; rw [if_neg (by omega), if_neg (by omega)]
    rw [this, bt_big (by omega), bt_big (by omega)]
theorem rename_27 {f t : Nat} (hf : f < 14) (ht : t < 14) {r : Nat → Int32} : ∀ (m i : Nat) (σ : Mm), 14 - i < m → i ≤ 14 → (∀ j, mA σ 0 0 38 j = if j < i then gR f t (r j) else r j) → Ok (F_X4_rename_27 m (nI f) (nI t) (nI i) σ) (fun τ => ∀ j, j < 14 → mA τ 0 0 38 j = gR f t (r j)) := by
  intro m
  induction m with
  | zero => intro d τ h; omega
  | succ m ih =>
    intro i σ hm hi hq
    change Ok (B_X4_rename_27 (F_X4_rename_27 m) _ _ _ _) _
    unfold B_X4_rename_27
    by_cases hc : 14 ≤ i
    · have e : i = 14 := by omega
      subst e
      exact Ok_t (by decide) (Ok_r fun j hj => by rw [hq j, if_pos hj])
    have hck : (nI i).toNatClampNeg = i := nI_clamp (by omega)
    have i14 : inb (nI i) 14 = true := by
      have : i < 14 := by omega
      clear ih hq; grind [gI, gB, gC]
    refine Ok_f (show ¬ (14 : Int32) ≤ nI i from nI_ge (b := 14) (by omega) (by decide)) (Ok_t i14 ?_)
    have hi0 : mA σ 0 0 38 i = r i := by rw [hq i, if_neg (by omega)]
    unfold F_X4_rename_68
    rw [hck, nI_1, hi0]
    by_cases c : (r i >>> (nI f &&& 31)) &&& 1 = 0
    · refine Ok_t c (ih (i + 1) σ (by omega) (by omega) (fun j => ?_))
      rw [hq j]
      by_cases h : j = i
      · subst h
        rw [if_neg (by omega), if_pos (by omega)]
        exact (if_pos c).symm
      · by_cases h2 : j < i
        · rw [if_pos h2, if_pos (by omega)]
        · rw [if_neg h2, if_neg (by omega)]
    · refine Ok_f c (Ok_t i14 (Ok_t i14 (ih (i + 1) _ (by omega) (by omega) (fun j => ?_))))
      rw [mA_A, if_pos ⟨rfl, rfl, rfl⟩, upd_at]
      by_cases h : j = i
      · subst h
        rw [if_pos rfl, if_pos (by omega)]
        exact (if_neg c).symm
      · rw [if_neg h, hq j]
        by_cases h2 : j < i
        · rw [if_pos h2, if_pos (by omega)]
        · rw [if_neg h2, if_neg (by omega)]
/-- the adjacency under a name given away -/
theorem s_rename {f t : Nat} (hf : f < 14) (ht : t < 14) {σ : Mm} (hz : f ≠ t → (∀ b, bt (mA σ 0 0 38 t) b = false) ∧ ∀ a, a < 14 → bt (mA σ 0 0 38 a) t = false) :
    Ok (F_X4_rename (nI f) (nI t) σ) (fun τ => adjR (mA τ 0 0 38) = fun a b => adjR (mA σ 0 0 38) (sw f t a) (sw f t b)) := by
  unfold F_X4_rename F_X4_rename_18 F_X4_rename_25
  have jf : inb (nI f) 14 = true := by clear hz; grind [gI, gB, gC]
  have jt : inb (nI t) 14 = true := by clear hz; grind [gI, gB, gC]
  have cf : (nI f).toNatClampNeg = f := nI_clamp (by omega)
  have ct : (nI t).toNatClampNeg = t := nI_clamp (by omega)
  by_cases e : f = t
  · subst e
    refine Ok_t rfl (Ok_r ?_)
    have : ∀ x, sw f f x = x := fun x => by unfold sw; split <;> simp_all
    funext a b
    rw [this, this]
  · obtain ⟨z1, z2⟩ := hz e
    refine Ok_f (fun z => e ((nI_eq (by omega) (by omega)).mp z)) (Ok_t jf (Ok_t jt (Ok_t jf ?_)))
    rw [cf, ct]
    refine (rename_27 hf ht (r := upd (upd (mA σ 0 0 38) t (mA σ 0 0 38 f)) f 0) FU 0 _ (by show _ < 1000000; omega) (by omega) (fun j => ?_)).mono (fun τ hτ => ?_)
    · rw [if_neg (by omega)]
      have e2 : ∀ (g : Nat → Int32) (τ : Mm), mA (setA τ 0 0 38 g) 0 0 38 = g := fun g τ => by rw [mA_R, if_pos ⟨rfl, rfl, rfl⟩]
      rw [e2, e2]
    · funext a b
      unfold adjR
      by_cases ha : a < 14
      · have ha2 : sw f t a < 14 := by unfold sw; split; exact ht; split; exact hf; exact ha
        rw [decide_eq_true ha, decide_eq_true ha2, Bool.true_and, Bool.true_and, hτ a ha]
        have hr : upd (upd (mA σ 0 0 38) t (mA σ 0 0 38 f)) f 0 a = if a = f then 0 else mA σ 0 0 38 (sw f t a) := by
          rw [upd_at, upd_at]
          unfold sw
          by_cases c1 : a = f
          · rw [if_pos c1, if_pos c1]
          · rw [if_neg c1, if_neg c1, if_neg c1]
            by_cases c2 : a = t
            · rw [if_pos c2, if_pos c2]
            · rw [if_neg c2, if_neg c2]
        rw [hr]
        by_cases c1 : a = f
        · subst c1
          rw [if_pos rfl, bt_gR hf ht e bt_0, bt_0]
          have : sw a t a = t := if_pos rfl
          rw [this, z1]
        · rw [if_neg c1, bt_gR hf ht e (z2 _ ha2)]
      · have ha2 : sw f t a = a := by unfold sw; rw [if_neg (by omega), if_neg (by omega)]
        rw [ha2, decide_eq_false ha, Bool.false_and, Bool.false_and]
def SQ (A0 : Nat → Nat → Bool) (r : Nat → Int32) (u t : Nat) : Prop := (∀ a b, adjR r a b = adjR r b a) ∧ (∀ a, u ≤ a → a < t → ∀ b, adjR r a b = false) ∧ ∀ v, MM (adjR r) (fun _ => True) v → MM A0 (fun _ => True) v
theorem adjR_lt {r : Nat → Int32} (hs : ∀ a b, adjR r a b = adjR r b a) {a b : Nat} (h : adjR r a b = true) : a < 14 ∧ b < 14 := by
  have h2 : adjR r b a = true := by rw [hs]; exact h
  unfold adjR at h h2
  simp only [Bool.and_eq_true, decide_eq_true_eq] at h h2
  exact ⟨h.1, h2.1⟩
theorem squeeze_4 {A0 : Nat → Nat → Bool} : ∀ (m u t : Nat) (σ : Mm), 14 - t < m → t ≤ 14 → u ≤ t → SQ A0 (mA σ 0 0 38) u t → Ok (F_X4_squeeze_4 m (nI u) (nI t) σ) (fun q => ∃ u, u ≤ 14 ∧ q.1 = nI u ∧ SQ A0 (mA q.2 0 0 38) u 14) := by
  intro m
  induction m with
  | zero => intro u t σ h; omega
  | succ m ih =>
    intro u t σ hm ht hu hq
    change Ok (B_X4_squeeze_4 (F_X4_squeeze_4 m) _ _ _) _
    unfold B_X4_squeeze_4
    by_cases hc : 14 ≤ t
    · have e : t = 14 := by omega
      subst e
      exact Ok_t (by decide) (Ok_r ⟨u, hu, rfl, hq⟩)
    have hck : (nI t).toNatClampNeg = t := nI_clamp (by omega)
    have i14 : inb (nI t) 14 = true := by
      have : t < 14 := by omega
      clear ih hq; grind [gI, gB, gC]
    refine Ok_f (show ¬ (14 : Int32) ≤ nI t from nI_ge (b := 14) (by omega) (by decide)) (Ok_t i14 ?_)
    unfold F_X4_squeeze_28 F_X4_squeeze_25 F_X4_squeeze_28
    rw [hck, nI_1, nI_1]
    obtain ⟨q1, q2, q3⟩ := hq
    have t14 : t < 14 := by omega
    by_cases c : mA σ 0 0 38 t = 0
    · refine Ok_t c (ih u (t + 1) σ (by omega) (by omega) (by omega) ⟨q1, fun a h1 h2 b => ?_, q3⟩)
      by_cases h : a = t
      · subst h; unfold adjR; rw [c, bt_0, Bool.and_false]
      · exact q2 a h1 (by omega) b
    · refine Ok_f c (Ok_V (s_rename (σ := σ) t14 (t := u) (by omega) (fun hne => ?_)) (fun τ hτ => ?_))
      · have hz : ∀ b, adjR (mA σ 0 0 38) u b = false := q2 u (Nat.le_refl _) (by omega)
        refine ⟨fun b => ?_, fun a ha => ?_⟩
        · have := hz b
          unfold adjR at this
          rwa [decide_eq_true (show u < 14 by omega), Bool.true_and] at this
        · have := hz a
          rw [q1] at this
          unfold adjR at this
          rwa [decide_eq_true ha, Bool.true_and] at this
      · refine ih (u + 1) (t + 1) τ (by omega) (by omega) (by omega) ?_
        unfold SQ
        rw [hτ]
        refine ⟨fun a b => q1 _ _, fun a h1 h2 b => ?_, fun v hv => q3 v (MM.relabel (sw_sw t u) hv)⟩
        have : sw t u a = if a = t then u else a := by
          unfold sw
          by_cases c1 : a = t
          · rw [if_pos c1, if_pos c1]
          · rw [if_neg c1, if_neg c1, if_neg (by omega)]
        show adjR (mA σ 0 0 38) (sw t u a) (sw t u b) = false
        rw [this]
        by_cases c1 : a = t
        · rw [if_pos c1]; exact q2 u (Nat.le_refl _) (by omega) _
        · rw [if_neg c1]; exact q2 a (by omega) (by omega) _
/-! the best of each set -/
def LI (A : Nat → Nat → Bool) (T : Nat → Nat) (a m o v : Nat) : Prop := T m ≤ v ∧ (∀ b, b < o → m.testBit b = true → A a b = true → T (clr m b) + 1 ≤ v) ∧ (v = T m ∨ ∃ b, m.testBit b = true ∧ A a b = true ∧ v = T (clr m b) + 1)
theorem LI.no {A : Nat → Nat → Bool} {T : Nat → Nat} {a m o v : Nat} (h : LI A T a m o v) (hn : ¬ (m.testBit o = true ∧ A a o = true)) : LI A T a m (o + 1) v := by
  refine ⟨h.1, fun b hb h1 h2 => ?_, h.2.2⟩
  by_cases c : b = o
  · subst c; exact absurd ⟨h1, h2⟩ hn
  · exact h.2.1 b (by omega) h1 h2
theorem LI.yes {A : Nat → Nat → Bool} {T : Nat → Nat} {a m o v w : Nat} (h : LI A T a m o v) (h1 : m.testBit o = true) (h2 : A a o = true) (hw : w = if v < T (clr m o) + 1 then T (clr m o) + 1 else v) : LI A T a m (o + 1) w := by
  have hvw : v ≤ w := by rw [hw]; split <;> omega
  have how : T (clr m o) + 1 ≤ w := by rw [hw]; split <;> omega
  refine ⟨Nat.le_trans h.1 hvw, fun b hb k1 k2 => ?_, ?_⟩
  · by_cases c : b = o
    · subst c; exact how
    · exact Nat.le_trans (h.2.1 b (by omega) k1 k2) hvw
  · rw [hw]
    split
    · exact Or.inr ⟨o, h1, h2, rfl⟩
    · exact h.2.2
def TB (A : Nat → Nat → Bool) (T : Nat → Nat) (M : Nat) : Prop := ∀ m, m < M → MM A (fun x => m.testBit x = true) (T m) ∧ ∀ t, m < 2 ^ t → T m ≤ t
theorem LI.mm {A : Nat → Nat → Bool} (hs : ∀ a b, A a b = A b a) {T : Nat → Nat} {a m M o v : Nat} (hm : m < 2 ^ 14) (hM : m < M) (hbits : ∀ x, M.testBit x = true ↔ x = a ∨ m.testBit x = true) (ha : m.testBit a = false) (ho : ∀ b, m.testBit b = true → b < o) (hT : ∀ k, k < M → MM A (fun x => k.testBit x = true) (T k)) (h : LI A T a m o v) : MM A (fun x => M.testBit x = true) v := by
  have h31 : m < 2 ^ 31 := Nat.lt_trans hm (by decide)
  have lt14 : ∀ b, m.testBit b = true → b < 14 := fun b hb => by
    apply Nat.lt_of_not_le
    intro z
    rw [Nat.testBit_lt_two_pow (Nat.lt_of_lt_of_le hm (Nat.pow_le_pow_right (by decide) z))] at hb
    cases hb
  refine MM_step hs (S' := fun x => m.testBit x = true) hbits (by rw [ha]; decide) (hT m hM) (w := fun b => T (clr m b)) (fun b hb hab => ?_) h.1 (fun b hb hab => h.2.1 b (ho b hb) hb hab) h.2.2
  refine (hT (clr m b) (Nat.lt_of_le_of_lt clr_le hM)).cong (fun x => ?_)
  have := lt14 b hb
  rw [clr_tb h31 (by omega)]
  simp
theorem LI.bnd {A : Nat → Nat → Bool} {T : Nat → Nat} {a m M o v t : Nat} (hm : m < 2 ^ t) (hM : m < M) (hT : TB A T M) (h : LI A T a m o v) : v ≤ t + 1 := by
  rcases h.2.2 with h | ⟨b, -, -, h⟩
  · have := (hT m hM).2 t hm; omega
  · have := (hT (clr m b) (Nat.lt_of_le_of_lt clr_le hM)).2 t (Nat.lt_of_le_of_lt clr_le hm); omega
theorem TB.one {A : Nat → Nat → Bool} {T : Nat → Nat} (h : T 0 = 0) : TB A T 1 := by
  intro m hm
  have : m = 0 := by omega
  subst this
  rw [h]
  refine ⟨⟨⟨[], ⟨fun p hp => (by cases hp), List.nodup_nil⟩, rfl⟩, fun L hL => ?_⟩, fun t _ => Nat.zero_le _⟩
  cases L with
  | nil => exact Nat.le_refl _
  | cons p L =>
    have : Nat.testBit 0 p.1 = true := (hL.1 p List.mem_cons_self).2.1
    rw [Nat.zero_testBit] at this
    cases this
def nT39 (σ : Mm) (m : Nat) : Nat := (nib (mA σ 0 0 39) m).toNatClampNeg
theorem nib_nat (r : Nat → Int32) (m : Nat) : nib r m = nI (nib r m).toNatClampNeg ∧ (nib r m).toNatClampNeg < 16 := by
  obtain ⟨j, hj, e⟩ := pk_andE (r (m / 8) >>> (nI (4 * (m % 8)) &&& 31)) (m := 15) 4 (by decide)
  have e : nib r m = nI j := e
  rw [e, nI_clamp (by omega)]
  exact ⟨rfl, hj⟩
theorem ix39 {m : Nat} (hm : m < 16384) : nI m >>> ((3 : Int32) &&& 31) = nI (m / 8) ∧ ((nI m &&& 7) <<< ((2 : Int32) &&& 31)) = nI (4 * (m % 8)) ∧ inb (nI (m / 8)) 2048 = true ∧ (nI (m / 8)).toNatClampNeg = m / 8 := by
  refine ⟨pk_shrN (by omega) _ 3 (by decide), ?_, ?_, nI_clamp (by omega)⟩
  · rw [pk_andN (by omega) 3 (by decide), pk_shlN _ 2 (by decide) (by omega)]
    exact congrArg nI (by omega)
  · have : m / 8 < 2048 := by omega
    generalize m / 8 = z at *; grind [gI, gB, gC]
theorem s_bestOf {m : Nat} (hm : m < 16384) {σ : Mm} : F_X4_bestOf (nI m) σ = some (nI (nT39 σ m), σ) := by
  obtain ⟨e1, e2, e3, e4⟩ := ix39 hm
  unfold F_X4_bestOf
  rw [e1, e2, if_pos e3, e4]
  exact congrArg (fun z => some (z, σ)) (nib_nat (mA σ 0 0 39) m).1
theorem s_put {m v : Nat} (hm : m < 16384) (hv : v < 16) {σ : Mm} : Ok (F_X4_put (nI m) (nI v) σ) (fun τ => ∀ q, nT39 τ q = if q = m then v else nT39 σ q) := by
  obtain ⟨e1, e2, e3, e4⟩ := ix39 hm
  unfold F_X4_put F_X4_put_7
  rw [e1, e2, e4]
  refine Ok_t e3 (Ok_t e3 (Ok_r (fun q => ?_)))
  unfold nT39
  rw [mA_R, if_pos ⟨rfl, rfl, rfl⟩, nib_put hv]
  by_cases c : q = m
  · rw [if_pos c, if_pos c, nI_clamp (by omega)]
  · rw [if_neg c, if_neg c]
theorem max_nI {a b : Nat} (ha : a < 1000) (hb : b < 1000) : f_J9_max_7cf53 (nI a) (nI b) = nI (if a < b then b else a) := by
  unfold f_J9_max_7cf53
  by_cases c : a < b
  · rw [if_pos (nI_lt c (by omega)), if_pos c]
  · rw [if_neg (nI_nlt (by omega) (by omega)), if_neg c]
theorem bestWith_19 {t lo : Nat} (ht : t < 14) (hlo : lo < 2 ^ t) {A : Nat → Nat → Bool} {σ : Mm} (hA : A = adjR (mA σ 0 0 38)) : ∀ (m o v : Nat), t - o < m → o ≤ t → v < 500 → LI A (nT39 σ) t lo o v →
    ∃ v', F_X4_bestWith_19 m (nI t) (nI lo) (nI v) (mA σ 0 0 38 t &&& nI lo) (nI o) σ = some (nI v', σ) ∧ LI A (nT39 σ) t lo t v' := by
  have h2 : 2 ^ t ≤ 2 ^ 14 := Nat.pow_le_pow_right (by decide) (by omega)
  have e14 : (2 : Nat) ^ 14 = 16384 := by decide
  intro m
  induction m with
  | zero => intro o v h; omega
  | succ m ih =>
    intro o v hm ho hv hL
    show ∃ v', B_X4_bestWith_19 (F_X4_bestWith_19 m) _ _ _ _ _ _ = _ ∧ _
    unfold B_X4_bestWith_19
    by_cases hd : t ≤ o
    · have e : o = t := by omega
      subst e
      rw [if_pos (nI_le hd (by omega))]
      exact ⟨v, rfl, hL⟩
    rw [if_neg (nI_ge (by omega) (by omega))]
    have hbit : bt (mA σ 0 0 38 t &&& nI lo) o = (A t o && lo.testBit o) := by
      rw [bt_and, bt_nI (by omega), hA]
      unfold adjR
      rw [decide_eq_true ht, Bool.true_and]
    unfold F_X4_bestWith_54
    rw [bt_test (by omega), hbit, nI_1]
    by_cases c : A t o = true ∧ lo.testBit o = true
    · rw [c.1, c.2, if_neg (by decide), nI_clr (by omega), s_bestOf (Nat.lt_of_le_of_lt clr_le (by omega)), bnd_s]
      unfold F_X4_bestWith_49 F_X4_bestWith_54
      have h16 : nT39 σ (clr lo o) < 16 := (nib_nat _ _).2
      rw [show (1 : Int32) + nI (nT39 σ (clr lo o)) = nI (1 + nT39 σ (clr lo o)) from nI_add 1 _, max_nI (by omega) (by omega), nI_1]
      refine ih (o + 1) _ (by omega) (by omega) (by split <;> omega) (hL.yes c.2 c.1 ?_)
      rw [Nat.add_comm 1]
    · have : (A t o && lo.testBit o) = false := by
        cases h : (A t o && lo.testBit o)
        · rfl
        · exact absurd (by simpa using h) c
      rw [this, if_pos (by decide)]
      exact ih (o + 1) v (by omega) (by omega) hv (hL.no (fun z => c ⟨z.2, z.1⟩))
theorem s_bestWith {t lo : Nat} (ht : t < 14) (hlo : lo < 2 ^ t) {A : Nat → Nat → Bool} {σ : Mm} (hA : A = adjR (mA σ 0 0 38)) : ∃ v', F_X4_bestWith (nI t) (nI lo) σ = some (nI v', σ) ∧ LI A (nT39 σ) t lo t v' := by
  have h2 : 2 ^ t ≤ 2 ^ 14 := Nat.pow_le_pow_right (by decide) (by omega)
  have e14 : (2 : Nat) ^ 14 = 16384 := by decide
  have jt : inb (nI t) 14 = true := by clear hlo h2 e14 hA; grind [gI, gB, gC]
  have ct : (nI t).toNatClampNeg = t := nI_clamp (by omega)
  have h16 : nT39 σ lo < 16 := (nib_nat _ _).2
  unfold F_X4_bestWith F_X4_bestWith_5 F_X4_bestWith_16
  rw [s_bestOf (by omega), bnd_s, if_pos jt, ct]
  exact bestWith_19 ht hlo hA FU 0 _ (by show _ < 1000000; omega) (by omega) (by omega) ⟨Nat.le_refl _, fun b hb => absurd hb (by omega), Or.inl rfl⟩
theorem pow_or {t lo : Nat} (hlo : lo < 2 ^ t) : 2 ^ t ||| lo = 2 ^ t + lo := by
  have := Nat.two_pow_add_eq_or_of_lt hlo 1
  rw [Nat.mul_one] at this
  exact this.symm
theorem most_21 {A : Nat → Nat → Bool} (hs : ∀ a b, A a b = A b a) {u t : Nat} (ht : t < 14) {rc : Int32 → Int32 → Mm → Option (Int32 × Mm)} {Q : Int32 × Mm → Prop}
    (hrc : ∀ τ, A = adjR (mA τ 0 0 38) → TB A (nT39 τ) (2 ^ (t + 1)) → Ok (rc (nI u) (nI (t + 1)) τ) Q) : ∀ (m lo : Nat) (σ : Mm), 2 ^ t - lo < m → lo ≤ 2 ^ t → A = adjR (mA σ 0 0 38) → TB A (nT39 σ) (2 ^ t + lo) → Ok (F_X4_most_21 rc m (nI u) (nI t) (nI lo) σ) Q := by
  have h2 : 2 ^ t ≤ 2 ^ 13 := Nat.pow_le_pow_right (by decide) (by omega)
  have e13 : (2 : Nat) ^ 13 = 8192 := by decide
  have es : (2 : Nat) ^ (t + 1) = 2 ^ t + 2 ^ t := by rw [Nat.pow_succ]; omega
  intro m
  induction m with
  | zero => intro lo σ h; omega
  | succ m ih =>
    intro lo σ hm hlo hA hT
    change Ok (B_X4_most_21 rc (F_X4_most_21 rc m) _ _ _ _) _
    unfold B_X4_most_21
    rw [nI_shl (by omega)]
    by_cases hd : 2 ^ t ≤ lo
    · have e : lo = 2 ^ t := by omega
      subst e
      refine Ok_t (nI_le hd (by omega)) ?_
      rw [nI_1]
      exact hrc σ hA (by rw [es]; exact hT)
    have hlo2 : lo < 2 ^ t := by omega
    refine Ok_f (nI_ge (by omega) (by omega)) ?_
    obtain ⟨v, ev, hL⟩ := s_bestWith ht hlo2 hA
    rw [ev, bnd_s]
    unfold F_X4_most_40 F_X4_most_43
    have hv : v ≤ t + 1 := hL.bnd hlo2 (M := 2 ^ t + lo) (by omega) hT
    rw [nI_or, pow_or hlo2, nI_1]
    refine Ok_V ((s_put (m := 2 ^ t + lo) (v := v) (by omega) (by omega)).frV fr_X4_put) (fun τ hτ => ?_)
    obtain ⟨hp, f⟩ := hτ
    refine ih (lo + 1) τ (by omega) (by omega) (by rw [f.row (t := 0) (k := 38) 0 rfl]; exact hA) ?_
    intro q hq
    rw [hp q]
    by_cases c : q = 2 ^ t + lo
    · rw [if_pos c, c]
      have hbt : ∀ b, lo.testBit b = true → b < t := fun b hb => by
        apply Nat.lt_of_not_le
        intro z
        rw [Nat.testBit_lt_two_pow (Nat.lt_of_lt_of_le hlo2 (Nat.pow_le_pow_right (by decide) z))] at hb
        cases hb
      refine ⟨hL.mm hs (M := 2 ^ t + lo) (by omega) (by omega) (fun x => ?_) (Nat.testBit_lt_two_pow hlo2) hbt (fun k hk => (hT k hk).1), fun t' h => ?_⟩
      · rw [← pow_or hlo2, Nat.testBit_or, Nat.testBit_two_pow, Bool.or_eq_true, decide_eq_true_eq, eq_comm]
      · have : t < t' := by
          apply Nat.lt_of_not_le
          intro z
          have := Nat.pow_le_pow_right (n := 2) (by decide) z
          omega
        omega
    · rw [if_neg c]; exact hT q (by omega)
theorem most_14 {A : Nat → Nat → Bool} (hs : ∀ a b, A a b = A b a) {u : Nat} (hu : u ≤ 14) : ∀ (m t : Nat) (σ : Mm), u - t < m → t ≤ u → A = adjR (mA σ 0 0 38) → TB A (nT39 σ) (2 ^ t) → Ok (F_X4_most_14 m (nI u) (nI t) σ) (fun q => ∃ v, q.1 = nI v ∧ MM A (fun x => (2 ^ u - 1).testBit x = true) v) := by
  intro m
  induction m with
  | zero => intro t σ h; omega
  | succ m ih =>
    intro t σ hm ht hA hT
    change Ok (B_X4_most_14 (F_X4_most_14 m) _ _ _) _
    unfold B_X4_most_14
    have h2 : 2 ^ u ≤ 2 ^ 14 := Nat.pow_le_pow_right (by decide) hu
    have e14 : (2 : Nat) ^ 14 = 16384 := by decide
    have h1 : 1 ≤ 2 ^ u := Nat.one_le_two_pow
    by_cases hd : u ≤ t
    · have e : t = u := by omega
      subst e
      refine Ok_t (nI_le hd (by omega)) ?_
      rw [nI_shl (by omega), show nI (2 ^ t) - 1 = nI (2 ^ t - 1) from pk_sub (b := 1) h1, s_bestOf (by omega), bnd_s]
      exact Ok_r ⟨_, rfl, (hT (2 ^ t - 1) (by omega)).1⟩
    refine Ok_f (nI_ge (by omega) (by omega)) ?_
    have h3 : 2 ^ t ≤ 2 ^ 14 := Nat.pow_le_pow_right (by decide) (by omega)
    exact most_21 hs (by omega) (fun τ hAτ hTτ => ih (t + 1) τ (by omega) (by omega) hAτ hTτ) FU 0 σ (by show _ < 1000000; omega) (Nat.zero_le _) hA hT
theorem s_most {A0 : Nat → Nat → Bool} {σ : Mm} (hq : SQ A0 (mA σ 0 0 38) 0 0) : Ok (F_X4_most σ) (fun q => ∃ v, q.1 = nI v ∧ MM A0 (fun _ => True) v) := by
  unfold F_X4_most F_X4_squeeze F_X4_most_4 F_X4_most_12
  refine Ok_B (squeeze_4 FU 0 0 σ (by show _ < 1000000; omega) (by omega) (by omega) hq) (fun v τ hv => ?_)
  obtain ⟨u, hu, ev, q1, q2, q3⟩ := hv
  have ev : v = nI u := ev
  refine Ok_t (by decide) ?_
  rw [ev]
  have e38 : mA (setA τ 0 0 39 (upd (mA τ 0 0 39) (0 : Int32).toNatClampNeg 0)) 0 0 38 = mA τ 0 0 38 := by rw [mA_R, if_neg (by decide)]
  have hT : nT39 (setA τ 0 0 39 (upd (mA τ 0 0 39) (0 : Int32).toNatClampNeg 0)) 0 = 0 := by
    unfold nT39
    rw [mA_R, if_pos ⟨rfl, rfl, rfl⟩, c0]
    have : nib (upd (mA τ 0 0 39) 0 0) 0 = 0 := by
      apply bt_ext
      intro j hj
      rw [bt_nib hj, upd_at, if_pos rfl, bt_0, bt_0, Bool.and_false]
    rw [this]; rfl
  refine (most_14 (A := adjR (mA τ 0 0 38)) q1 hu FU 0 _ (by show _ < 1000000; omega) (by omega) (by rw [e38]) (TB.one hT)).mono (fun q hq => ?_)
  obtain ⟨w, e, hm⟩ := hq
  refine ⟨w, e, q3 w (MM.full (fun x y hxy => ?_) hm)⟩
  have hlt : ∀ a b, adjR (mA τ 0 0 38) a b = true → a < u := fun a b hab => by
    apply Nat.lt_of_not_le
    intro z
    rw [q2 a z (adjR_lt q1 hab).1 b] at hab
    cases hab
  have h1 := hlt x y hxy
  have h2 := hlt y x (by rw [q1]; exact hxy)
  rw [Nat.testBit_two_pow_sub_one, Nat.testBit_two_pow_sub_one, decide_eq_true h1, decide_eq_true h2]
  exact ⟨rfl, rfl⟩
