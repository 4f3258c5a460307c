/-! made sites: LOTS, THINGS, HITS -/
def lv (m s w : Int32) : Int32 := ((f_X3_stir (f_X3_stir s 2) w).toUInt32 >>> ((1 : Int32).toUInt32 &&& Int32.toUInt32 31)).toInt32 - ((f_X3_stir (f_X3_stir s 2) w).toUInt32 >>> ((1 : Int32).toUInt32 &&& Int32.toUInt32 31)).toInt32 / m * m
theorem shr1 (x : Int32) : ∃ k : Nat, k < 2147483648 ∧ (x.toUInt32 >>> ((1 : Int32).toUInt32 &&& Int32.toUInt32 31)).toInt32 = nI k := by
  have h := pk_ushr x 1 1 (by decide)
  have hx := x.toBitVec.isLt
  refine ⟨x.toBitVec.toNat / 2, by omega, ?_⟩
  apply Int32.toBitVec_inj.mp
  apply BitVec.eq_of_toNat_eq
  rw [h, pk_tn (by omega)]
theorem lv_in {m : Nat} (h0 : 0 < m) (h1 : m < 1000) (s w : Int32) : ∃ k : Nat, k < m ∧ lv (nI m) s w = nI k := by
  obtain ⟨k, hk, e⟩ := shr1 (f_X3_stir (f_X3_stir s 2) w)
  refine ⟨k % m, Nat.mod_lt _ h0, ?_⟩
  unfold lv
  rw [e]
  exact pk_rem hk h0 (by omega)
theorem lotC {m : Nat} (h0 : 0 < m) (h1 : m < 1000) {s w : Int32} {σ : Mm} : F_X3_lot (nI m) s w σ = some (lv (nI m) s w, σ) := by
  unfold F_X3_lot
  rw [if_pos (show (1 : Int32) ≤ nI m from nI_le (a := 1) h0 (by omega)), if_pos (nI_ne0 h0 (by omega))]
  rfl
theorem lotM {m : Nat} (h0 : 0 < m) (h1 : m < 1000) {s w : Int32} {σ : Mm} : F_X12_lot s w (nI m) σ = some (lv (nI m) s w, σ) := by
  unfold F_X12_lot
  rw [if_pos (nI_ne0 h0 (by omega))]
  rfl
def mW (D : DD) (s m : Int32) (i : Nat) : Int32 := if m ≤ nI i then lv (nI 360) s (8 * nI i + 3) else if dN D 4 = 0 then lv (nI 360) s (8 * nI i + 3) else rs D (lv (nI (dN D 4)) s (8 * nI i + 4)).toNatClampNeg 0
def mLn (s : Int32) (i : Nat) : Int32 := lv (nI 3) s (8 * nI i + 2)
def mX (s : Int32) (i : Nat) : Int32 := 300 + lv (nI 400) s (8 * nI i)
def mY (s : Int32) (i : Nat) : Int32 := 300 + lv (nI 400) s (8 * nI i + 1)
def mX2 (D : DD) (s m : Int32) (i : Nat) : Int32 := mX s i + (1 + mLn s i) * f_X12_vectorOf (mW D s m i) 0
def mY2 (D : DD) (s m : Int32) (i : Nat) : Int32 := mY s i + (1 + mLn s i) * f_X12_vectorOf (mW D s m i) 1
def MKr (r q : Nat → Int32) (D : DD) (s m : Int32) (k : Nat) : Prop := ∀ i, i < k → r (2 * i) = mX s i ∧ r (2 * i + 1) = mX2 D s m i ∧ q (2 * i) = mY s i ∧ q (2 * i + 1) = mY2 D s m i
theorem MKr.step {r q r' q' : Nat → Int32} {D : DD} {s m : Int32} {k : Nat} (h : MKr r q D s m k) (h1 : ∀ j, j < 2 * k → r' j = r j) (h2 : ∀ j, j < 2 * k → q' j = q j) (e1 : r' (2 * k) = mX s k) (e2 : r' (2 * k + 1) = mX2 D s m k) (e3 : q' (2 * k) = mY s k) (e4 : q' (2 * k + 1) = mY2 D s m k) : MKr r' q' D s m (k + 1) := by
  intro i hi
  by_cases hk : i = k
  · subst hk; exact ⟨e1, e2, e3, e4⟩
  · obtain ⟨z1, z2, z3, z4⟩ := h i (by omega)
    exact ⟨(h1 _ (by omega)).trans z1, (h1 _ (by omega)).trans z2, (h2 _ (by omega)).trans z3, (h2 _ (by omega)).trans z4⟩
theorem mW_in {D : DD} (s m : Int32) (i : Nat) : rIn (mW D s m i) 359 := by
  unfold mW
  obtain ⟨k, hk, e⟩ := lv_in (m := 360) (by omega) (by omega) s (8 * nI i + 3)
  split
  · rw [e]; exact rIn_nI hk
  · split
    · rw [e]; exact rIn_nI hk
    · exact rs_in D _ 0
theorem vE {D : DD} (s m : Int32) (i : Nat) : f_X1_eastward (mW D s m i) = f_X12_vectorOf (mW D s m i) 0 := by
  have := vec_eq (d := mW D s m i) (x := 0) (mW_in s m i).1
  rwa [if_pos rfl] at this
theorem vN {D : DD} (s m : Int32) (i : Nat) : f_X1_northward (mW D s m i) = f_X12_vectorOf (mW D s m i) 1 := by
  have := vec_eq (d := mW D s m i) (x := 1) (mW_in s m i).1
  rwa [if_neg (by decide)] at this
theorem makeC_3 {D : DD} (hW : WF D) {s m : Int32} {p : Nat} (hp : p ≤ 7) : ∀ (n k : Nat) (σ : Mm), p - k < n → k ≤ p → SW D 0 (dN D 4) σ → MKr (mA σ 0 0 41) (mA σ 0 0 42) D s m k → Ok (F_X3_make_3 n s (nI p) m (nI k) σ) (fun τ => MKr (mA τ 0 0 41) (mA τ 0 0 42) D s m p) := by
  intro n
  induction n with
  | zero => intro k σ h; omega
  | succ n ih =>
    intro k σ hm hk hS h
    change Ok (B_X3_make_3 (F_X3_make_3 n) _ _ _ _ _) _
    unfold B_X3_make_3
    by_cases hd : p ≤ k
    · have e : k = p := by omega
      subst e
      exact Ok_t (nI_le hd (by omega)) (Ok_r h)
    have w5 := hW.2.2.2.2.1
    have ix : (2 : Int32) * nI k = nI (2 * k) := pk_mul 2 k
    have l360 : ∀ w τ, F_X3_lot 360 s w τ = some (lv (nI 360) s w, τ) := fun w τ => lotC (m := 360) (by omega) (by omega)
    have l400 : ∀ w τ, F_X3_lot 400 s w τ = some (lv (nI 400) s w, τ) := fun w τ => lotC (m := 400) (by omega) (by omega)
    have l3 : ∀ w τ, F_X3_lot 3 s w τ = some (lv (nI 3) s w, τ) := fun w τ => lotC (m := 3) (by omega) (by omega)
    have iv1 : inb (nI (2 * k)) 14 = true := by clear ih hS h hW l360 l400 l3; grind [gI, gB, gC]
    have iv2 : inb (nI (2 * k + 1)) 14 = true := by clear ih hS h hW l360 l400 l3; grind [gI, gB, gC]
    have c1 : (nI (2 * k)).toNatClampNeg = 2 * k := nI_clamp (by omega)
    have c2 : (nI (2 * k + 1)).toNatClampNeg = 2 * k + 1 := nI_clamp (by omega)
    refine Ok_f (nI_ge (by omega) (by omega)) ?_
    rw [ix, nI_1]
    refine Ok_f (nI_ge (a := 2 * k + 1) (b := 14) (by omega) (by omega)) ?_
    rw [l360, bnd_s]
    have fin : Ok (F_X3_make_74 (F_X3_make_3 n) s (nI p) m (nI k) (mW D s m k) σ) (fun τ => MKr (mA τ 0 0 41) (mA τ 0 0 42) D s m p) := by
      unfold F_X3_make_74
      rw [l3, bnd_s]
      unfold F_X3_make_87
      rw [l400, bnd_s]
      unfold F_X3_make_113
      rw [ix, if_pos iv1]
      unfold F_X3_make_115
      rw [l400, bnd_s]
      unfold F_X3_make_140
      rw [ix, if_pos iv1]
      unfold F_X3_make_142
      rw [ix, nI_1, if_pos iv1, if_pos iv2]
      unfold F_X3_make_171
      rw [ix, nI_1, if_pos iv1, if_pos iv2]
      unfold F_X3_make_200
      rw [nI_1, c1, c2, vE, vN]
      refine ih (k + 1) _ (by omega) (by omega) (hS.fr (W := [(0, 41, 999), (0, 42, 999)]) ((((Fr_r.A rfl).A rfl).A rfl).A rfl) rfl) (h.step (fun j hj => ?_) (fun j hj => ?_) ?_ ?_ ?_ ?_)
      · simp only [mA_A, mL_A, mP_A, mA_L, mL_L, mP_L, upd_at]; simp; rw [if_neg (by omega), if_neg (by omega)]
      · simp only [mA_A, mL_A, mP_A, mA_L, mL_L, mP_L, upd_at]; simp; rw [if_neg (by omega), if_neg (by omega)]
      · simp only [mA_A, mL_A, mP_A, mA_L, mL_L, mP_L, upd_at]; simp; rfl
      · simp only [mA_A, mL_A, mP_A, mA_L, mL_L, mP_L, upd_at]; simp; rfl
      · simp only [mA_A, mL_A, mP_A, mA_L, mL_L, mP_L, upd_at]; simp; rfl
      · simp only [mA_A, mL_A, mP_A, mA_L, mL_L, mP_L, upd_at]; simp; rfl
    unfold F_X3_make_34
    by_cases q1 : m ≤ nI k
    · have e : mW D s m k = lv (nI 360) s (8 * nI k + 3) := if_pos q1
      rw [e] at fin
      exact Ok_t q1 fin
    · refine Ok_f q1 ?_
      rw [hS.1]
      by_cases q2 : dN D 4 = 0
      · have e : mW D s m k = lv (nI 360) s (8 * nI k + 3) := (if_neg q1).trans (if_pos q2)
        rw [e] at fin
        exact Ok_t (by rw [q2]; decide) fin
      · have e : mW D s m k = rs D (lv (nI (dN D 4)) s (8 * nI k + 4)).toNatClampNeg 0 := (if_neg q1).trans (if_neg q2)
        rw [e] at fin
        refine Ok_f (nI_ge (a := 0) (by omega) (by omega)) ?_
        rw [lotC (by omega) (by omega), bnd_s]
        unfold F_X3_make_71
        obtain ⟨j, hj, ej⟩ := lv_in (m := dN D 4) (by omega) (by omega) s (8 * nI k + 4)
        have cj : (nI j).toNatClampNeg = j := nI_clamp (by omega)
        have ij : inb (nI j) 5 = true := by clear ih hS h hW l360 l400 l3 fin; grind [gI, gB, gC]
        rw [ej, cj] at fin
        rw [ej]
        refine Ok_t ij ?_
        rw [cj, (hS.2 j hj).1]
        exact fin
theorem s_makeC {D : DD} (hW : WF D) {s m : Int32} {p : Nat} (hp : p ≤ 7) {σ : Mm} (hS : SW D 0 (dN D 4) σ) : Ok (F_X3_make s (nI p) m σ) (fun τ => MKr (mA τ 0 0 41) (mA τ 0 0 42) D s m p) :=
  makeC_3 hW hp FU 0 σ (by show _ < 1000000; omega) (by omega) hS (fun i hi => absurd hi (by omega))
theorem makeM_8 {D : DD} (hW : WF D) {s m : Int32} {p : Nat} (hp : p ≤ 7) : ∀ (n k : Nat) (σ : Mm), p - k < n → k ≤ p → mA σ 3 0 21 0 = nI (dN D 4) → LSk D 0 (dN D 4) σ → MKr (mA σ 3 0 66) (mA σ 3 0 67) D s m k → Ok (F_X12_make_8 n s (nI p) m (nI k) σ) (fun τ => MKr (mA τ 3 0 66) (mA τ 3 0 67) D s m p ∧ LSk D 0 (dN D 4) τ) := by
  intro n
  induction n with
  | zero => intro k σ h; omega
  | succ n ih =>
    intro k σ hm hk hM hS h
    change Ok (B_X12_make_8 (F_X12_make_8 n) _ _ _ _ _) _
    unfold B_X12_make_8
    by_cases hd : p ≤ k
    · have e : k = p := by omega
      subst e
      exact Ok_t (nI_le hd (by omega)) (Ok_r ⟨h, hS⟩)
    have w5 := hW.2.2.2.2.1
    have ix : (2 : Int32) * nI k = nI (2 * k) := pk_mul 2 k
    have l360 : ∀ w τ, F_X12_lot s w 360 τ = some (lv (nI 360) s w, τ) := fun w τ => lotM (m := 360) (by omega) (by omega)
    have l400 : ∀ w τ, F_X12_lot s w 400 τ = some (lv (nI 400) s w, τ) := fun w τ => lotM (m := 400) (by omega) (by omega)
    have l3 : ∀ w τ, F_X12_lot s w 3 τ = some (lv (nI 3) s w, τ) := fun w τ => lotM (m := 3) (by omega) (by omega)
    have iv1 : inb (nI (2 * k)) 14 = true := by clear ih hS h hW l360 l400 l3; grind [gI, gB, gC]
    have iv2 : inb (nI (2 * k + 1)) 14 = true := by clear ih hS h hW l360 l400 l3; grind [gI, gB, gC]
    have c1 : (nI (2 * k)).toNatClampNeg = 2 * k := nI_clamp (by omega)
    have c2 : (nI (2 * k + 1)).toNatClampNeg = 2 * k + 1 := nI_clamp (by omega)
    refine Ok_f (nI_ge (by omega) (by omega)) ?_
    rw [l3, bnd_s]
    unfold F_X12_make_27
    rw [l360, bnd_s]
    have fin : Ok (F_X12_make_85 (F_X12_make_8 n) s (nI p) m (nI k) (1 + lv (nI 3) s (8 * nI k + 2)) (mW D s m k) σ) (fun τ => MKr (mA τ 3 0 66) (mA τ 3 0 67) D s m p ∧ LSk D 0 (dN D 4) τ) := by
      unfold F_X12_make_85
      rw [l400, bnd_s]
      unfold F_X12_make_108
      rw [ix, if_pos iv1]
      unfold F_X12_make_110
      rw [l400, bnd_s]
      unfold F_X12_make_135
      rw [ix, if_pos iv1]
      unfold F_X12_make_137
      rw [ix, nI_1, if_pos iv1, if_pos iv2]
      unfold F_X12_make_167
      rw [ix, nI_1, if_pos iv1, if_pos iv2]
      unfold F_X12_make_197
      rw [nI_1, c1, c2]
      refine ih (k + 1) _ (by omega) (by omega) hM (hS.fr (W := [(3, 66, 999), (3, 67, 999)]) ((((Fr_r.A rfl).A rfl).A rfl).A rfl) rfl) (h.step (fun j hj => ?_) (fun j hj => ?_) ?_ ?_ ?_ ?_)
      · simp only [mA_A, mL_A, mP_A, mA_L, mL_L, mP_L, upd_at]; simp; rw [if_neg (by omega), if_neg (by omega)]
      · simp only [mA_A, mL_A, mP_A, mA_L, mL_L, mP_L, upd_at]; simp; rw [if_neg (by omega), if_neg (by omega)]
      · simp only [mA_A, mL_A, mP_A, mA_L, mL_L, mP_L, upd_at]; simp; rfl
      · simp only [mA_A, mL_A, mP_A, mA_L, mL_L, mP_L, upd_at]; simp; rfl
      · simp only [mA_A, mL_A, mP_A, mA_L, mL_L, mP_L, upd_at]; simp; rfl
      · simp only [mA_A, mL_A, mP_A, mA_L, mL_L, mP_L, upd_at]; simp; rfl
    unfold F_X12_make_44
    by_cases q1 : m ≤ nI k
    · have e : mW D s m k = lv (nI 360) s (8 * nI k + 3) := if_pos q1
      rw [e] at fin
      exact Ok_t q1 fin
    · refine Ok_f q1 (Ok_t (by decide) ?_)
      rw [c0, hM]
      by_cases q2 : dN D 4 = 0
      · have e : mW D s m k = lv (nI 360) s (8 * nI k + 3) := (if_neg q1).trans (if_pos q2)
        rw [e] at fin
        exact Ok_t (by rw [q2]; decide) fin
      · have e : mW D s m k = rs D (lv (nI (dN D 4)) s (8 * nI k + 4)).toNatClampNeg 0 := (if_neg q1).trans (if_neg q2)
        rw [e] at fin
        refine Ok_f (nI_ge (a := 0) (by omega) (by omega)) (Ok_t (by decide) ?_)
        rw [lotM (by omega) (by omega), bnd_s]
        unfold F_X12_make_82
        obtain ⟨j, hj, ej⟩ := lv_in (m := dN D 4) (by omega) (by omega) s (8 * nI k + 4)
        have cj : (nI j).toNatClampNeg = j := nI_clamp (by omega)
        have ij : inb (nI j) 5 = true := by clear ih hS h hW l360 l400 l3 fin; grind [gI, gB, gC]
        rw [ej, cj] at fin
        rw [ej]
        refine Ok_t ij ?_
        rw [cj, hS j hj]
        exact fin
theorem s_makeM {D : DD} (hW : WF D) {s m : Int32} {p : Nat} (hp : p ≤ 7) {σ : Mm} (hM : RM σ 0 D) : Ok (F_X12_make s (nI p) m σ) (fun τ => MKr (mA τ 3 0 66) (mA τ 3 0 67) D s m p ∧ LSk D 0 (dN D 4) τ) := by
  unfold F_X12_make F_X12_make_5
  refine Ok_V ((s_laySky (y := 0) hW hM).frV fr_X12_laySky) (fun τ hτ => ?_)
  obtain ⟨hS, f⟩ := hτ
  have hM1 := hM.fr (f.sub rfl)
  exact makeM_8 hW (s := s) (m := m) hp FU 0 τ (by show _ < 1000000; omega) (by omega) hM1.1.2.2.2.2.1 hS (fun i hi => absurd hi (by omega))
/-! the HITS of a made site -/
def mE (D : DD) (s m : Int32) (j : Nat) : Int32 := if j % 2 = 0 then mX s (j / 2) else mX2 D s m (j / 2)
def mN (D : DD) (s m : Int32) (j : Nat) : Int32 := if j % 2 = 0 then mY s (j / 2) else mY2 D s m (j / 2)
theorem MKr.at {r q : Nat → Int32} {D : DD} {s m : Int32} {p j : Nat} (h : MKr r q D s m p) (hj : j < 2 * p) : r j = mE D s m j ∧ q j = mN D s m j := by
  obtain ⟨z1, z2, z3, z4⟩ := h (j / 2) (by omega)
  unfold mE mN
  by_cases c : j % 2 = 0
  · rw [if_pos c, if_pos c, ← z1, ← z3, show 2 * (j / 2) = j by omega]
    exact ⟨rfl, rfl⟩
  · rw [if_neg c, if_neg c, ← z2, ← z4, show 2 * (j / 2) + 1 = j by omega]
    exact ⟨rfl, rfl⟩
theorem vec_in {d x : Int32} (h : rIn d 359) : -45 ≤ f_X12_vectorOf d x ∧ f_X12_vectorOf d x ≤ 45 := by
  obtain ⟨h1, h2⟩ := h
  unfold f_X12_vectorOf
  grind
theorem pos_in {s w v : Int32} {u : Int32} (hv : -45 ≤ v ∧ v ≤ 45) : (0 ≤ 300 + lv (nI 400) s w ∧ 300 + lv (nI 400) s w ≤ 999) ∧ (0 ≤ 300 + lv (nI 400) s w + (1 + lv (nI 3) s u) * v ∧ 300 + lv (nI 400) s w + (1 + lv (nI 3) s u) * v ≤ 999) := by
  obtain ⟨a, ha, ea⟩ := lv_in (m := 400) (by omega) (by omega) s w
  obtain ⟨b, hb, eb⟩ := lv_in (m := 3) (by omega) (by omega) s u
  rw [ea, eb]
  obtain ⟨h1, h2⟩ := hv
  have hb3 : b = 0 ∨ b = 1 ∨ b = 2 := by omega
  have e1 : 0 ≤ nI a := nI_pos' (by omega)
  have e2 : nI a ≤ 399 := nI_le (b := 399) (by omega) (by decide)
  clear ea eb ha hb
  generalize nI a = A at *
  rcases hb3 with rfl | rfl | rfl
  · have : nI 0 = 0 := rfl
    rw [this]; grind
  · have : nI 1 = 1 := rfl
    rw [this]; grind
  · have : nI 2 = 2 := rfl
    rw [this]; grind
theorem mE_in (D : DD) (s m : Int32) (j : Nat) : rIn (mE D s m j) 999 := by
  have h := pos_in (s := s) (w := 8 * nI (j / 2)) (u := 8 * nI (j / 2) + 2) (vec_in (x := 0) (mW_in (D := D) s m (j / 2)))
  unfold mE
  split
  · exact h.1
  · exact h.2
theorem mN_in (D : DD) (s m : Int32) (j : Nat) : rIn (mN D s m j) 999 := by
  have h := pos_in (s := s) (w := 8 * nI (j / 2) + 1) (u := 8 * nI (j / 2) + 2) (vec_in (x := 1) (mW_in (D := D) s m (j / 2)))
  unfold mN
  split
  · exact h.1
  · exact h.2
theorem rB_sub {x y : Int32} (hx : rIn x 999) (hy : rIn y 999) : rB (x - y) := by
  obtain ⟨h1, h2⟩ := hx
  obtain ⟨h3, h4⟩ := hy
  exact ⟨by grind, by grind⟩
abbrev mdE (D : DD) (s m : Int32) (a b : Nat) : Int32 := mE D s m b - mE D s m a
abbrev mdN (D : DD) (s m : Int32) (a b : Nat) : Int32 := mN D s m b - mN D s m a
def pm (D : DD) (s m : Int32) (a b : Nat) : Bool := if mdE D s m a b = 0 ∧ mdN D s m a b = 0 then false else decide (HB D 0 (bear (mdE D s m a b) (mdN D s m a b)) (nI (dN D 6)) false ≠ 0)
def cs (D : DD) (s m : Int32) (p : Nat) : Nat → Nat
  | 0 => 0
  | a + 1 => cs D s m p a + cn (pm D s m a) (2 * p)
theorem strC_23 {D : DD} (hW : WF D) {s m : Int32} {p a c : Nat} {rc : Int32 → Int32 → Int32 → Mm → Option (Int32 × Mm)} {σ : Mm} {X : Option (Int32 × Mm)} (hp : p ≤ 7) (ha : a < 2 * p) (hM : MKr (mA σ 0 0 41) (mA σ 0 0 42) D s m p) (hV : CV D (dN D 6) 0 σ)
    (hrc : rc (nI p) (nI (c + cn (pm D s m a) (2 * p))) (nI a + 1) σ = X) : ∀ (n b : Nat), 2 * p - b < n → b ≤ 2 * p → F_X3_strikes_23 rc n (nI p) (nI (c + cn (pm D s m a) b)) (nI a) (nI b) σ = X := by
  intro n
  induction n with
  | zero => intro b h; omega
  | succ n ih =>
    intro b hn hb
    change B_X3_strikes_23 rc (F_X3_strikes_23 rc n) _ _ _ _ _ = _
    unfold B_X3_strikes_23
    have ix : (2 : Int32) * nI p = nI (2 * p) := pk_mul 2 p
    rw [ix]
    by_cases hd : 2 * p ≤ b
    · have e : b = 2 * p := by omega
      subst e
      rw [if_pos (nI_le hd (by omega))]
      exact hrc
    have ib : inb (nI b) 14 = true := by clear ih hM hV hrc hW; grind [gI, gB, gC]
    have ia : inb (nI a) 14 = true := by clear ih hM hV hrc hW; grind [gI, gB, gC]
    have cb : (nI b).toNatClampNeg = b := nI_clamp (by omega)
    have ca : (nI a).toNatClampNeg = a := nI_clamp (by omega)
    rw [if_neg (nI_ge (by omega) (by omega)), if_neg (show ¬ (14 : Int32) ≤ nI b from nI_ge (b := 14) (by omega) (by omega)), if_pos ib, if_pos ia, if_pos ib, if_pos ia, cb, ca, (hM.at (j := b) (by omega)).1, (hM.at (j := b) (by omega)).2, (hM.at ha).1, (hM.at ha).2]
    rw [s_bearing (rB_sub (mE_in ..) (mE_in ..)) (rB_sub (mN_in ..) (mN_in ..)), bnd_s]
    unfold F_X3_strikes_71 F_X3_strikes_89
    have i1 := ih (b + 1) (by omega) (by omega)
    have e : cn (pm D s m a) (b + 1) = cn (pm D s m a) b + (if pm D s m a b = true then 1 else 0) := rfl
    rw [e] at i1
    rw [nI_1, nI_1]
    by_cases c0 : mdE D s m a b = 0 ∧ mdN D s m a b = 0
    · rw [if_pos c0, if_pos rfl]
      rw [show pm D s m a b = false from if_pos c0] at i1
      exact i1
    · have hbr := bear_in (rB_sub (mE_in D s m b) (mE_in D s m a)) (rB_sub (mN_in D s m b) (mN_in D s m a)) c0
      obtain ⟨d, hd2, ed⟩ := thing_nat (F := 360) (by omega) hbr
      have hpm : pm D s m a b = decide (HB D 0 (bear (mdE D s m a b) (mdN D s m a b)) (nI (dN D 6)) false ≠ 0) := if_neg c0
      have ed : bear (mdE D s m a b) (mdN D s m a b) = nI d := ed
      rw [if_neg c0]
      rw [hpm, ed] at i1
      have id1 : inb (nI d) 360 = true := by clear ih hM hV hrc hW i1 hpm; grind [gI, gB, gC]
      have cd : (nI d).toNatClampNeg = d := nI_clamp (by omega)
      have nd : ¬ nI d = -1 := by clear ih hM hV hrc hW i1 hpm; grind [gI, gC]
      rw [ed, if_neg nd, if_pos id1, cd, hV d hd2]
      by_cases q : HB D 0 (nI d) (nI (dN D 6)) false = 0
      · rw [if_pos q]
        rw [decide_eq_false (fun z => z q)] at i1
        exact i1
      · rw [if_neg q]
        rw [decide_eq_true q] at i1
        exact i1
theorem strC_5 {D : DD} (hW : WF D) {s m : Int32} {p : Nat} {σ : Mm} (hp : p ≤ 7) (hM : MKr (mA σ 0 0 41) (mA σ 0 0 42) D s m p) (hV : CV D (dN D 6) 0 σ) : ∀ (n a : Nat), 2 * p - a < n → a ≤ 2 * p → F_X3_strikes_5 n (nI p) (nI (cs D s m p a)) (nI a) σ = some (nI (cs D s m p (2 * p)), σ) := by
  intro n
  induction n with
  | zero => intro b h; omega
  | succ n ih =>
    intro a hn ha
    change B_X3_strikes_5 (F_X3_strikes_5 n) _ _ _ _ = _
    unfold B_X3_strikes_5
    have ix : (2 : Int32) * nI p = nI (2 * p) := pk_mul 2 p
    rw [ix]
    by_cases hd : 2 * p ≤ a
    · have e : a = 2 * p := by omega
      subst e
      rw [if_pos (nI_le hd (by omega))]
    rw [if_neg (nI_ge (by omega) (by omega)), if_neg (show ¬ (14 : Int32) ≤ nI a from nI_ge (b := 14) (by omega) (by omega))]
    exact strC_23 hW (c := cs D s m p a) hp (by omega) hM hV (by rw [nI_1]; exact ih (a + 1) (by omega) (by omega)) FU 0 (by show _ < 1000000; omega) (by omega)
theorem s_strikesC {D : DD} (hW : WF D) {s m : Int32} {p : Nat} {σ : Mm} (hp : p ≤ 7) (hM : MKr (mA σ 0 0 41) (mA σ 0 0 42) D s m p) (hV : CV D (dN D 6) 0 σ) : F_X3_strikes (nI p) σ = some (nI (cs D s m p (2 * p)), σ) :=
  strC_5 hW hp hM hV FU 0 (by show _ < 1000000; omega) (by omega)
theorem strM_24 {D : DD} (hW : WF D) {s m : Int32} {p a c : Nat} {rc : Int32 → Int32 → Int32 → Mm → Option (Int32 × Mm)} {σ : Mm} {X : Option (Int32 × Mm)} (hp : p ≤ 7) (ha : a < 2 * p) (hM : MKr (mA σ 3 0 66) (mA σ 3 0 67) D s m p) (hR : RM σ 0 D) (hS : LSk D 0 (dN D 4) σ)
    (hrc : rc (nI p) (nI (c + cn (pm D s m a) (2 * p))) (nI a + 1) σ = X) : ∀ (n b : Nat), 2 * p - b < n → b ≤ 2 * p → F_X12_madeHits_24 rc n (nI p) (nI (c + cn (pm D s m a) b)) (nI a) (nI b) σ = X := by
  intro n
  induction n with
  | zero => intro b h; omega
  | succ n ih =>
    intro b hn hb
    change B_X12_madeHits_24 rc (F_X12_madeHits_24 rc n) _ _ _ _ _ = _
    unfold B_X12_madeHits_24
    have ix : (2 : Int32) * nI p = nI (2 * p) := pk_mul 2 p
    rw [ix]
    by_cases hd : 2 * p ≤ b
    · have e : b = 2 * p := by omega
      subst e
      rw [if_pos (nI_le hd (by omega))]
      exact hrc
    have ib : inb (nI b) 14 = true := by clear ih hM hR hS hrc hW; grind [gI, gB, gC]
    have ia : inb (nI a) 14 = true := by clear ih hM hR hS hrc hW; grind [gI, gB, gC]
    have cb : (nI b).toNatClampNeg = b := nI_clamp (by omega)
    have ca : (nI a).toNatClampNeg = a := nI_clamp (by omega)
    unfold F_X12_madeHits_49
    rw [if_neg (nI_ge (by omega) (by omega)), if_pos ib, if_pos ia, if_pos ib, if_pos ia, cb, ca, (hM.at (j := b) (by omega)).1, (hM.at (j := b) (by omega)).2, (hM.at ha).1, (hM.at ha).2]
    have i1 := ih (b + 1) (by omega) (by omega)
    have e : cn (pm D s m a) (b + 1) = cn (pm D s m a) b + (if pm D s m a b = true then 1 else 0) := rfl
    rw [e] at i1
    by_cases c0 : mdE D s m a b = 0 ∧ mdN D s m a b = 0
    · unfold F_X12_madeHits_66 F_X12_madeHits_103
      rw [if_pos c0.1, if_pos c0.2, nI_1]
      rw [show pm D s m a b = false from if_pos c0] at i1
      exact i1
    · have hbr := s_degreeOf (σ := σ) (rB_sub (mE_in D s m b) (mE_in D s m a)) (rB_sub (mN_in D s m b) (mN_in D s m a)) c0
      have fin : F_X12_madeHits_79 rc (F_X12_madeHits_24 rc n) (nI p) (nI (c + cn (pm D s m a) b)) (nI a) (nI b) (mdE D s m a b) (mdN D s m a b) σ = X := by
        unfold F_X12_madeHits_79
        rw [hbr, bnd_s]
        unfold F_X12_madeHits_87
        rw [if_pos (by decide), show (0 : Int32).toNatClampNeg = 0 from rfl, hR.1.1, s_hitBy (s := 0) hW hR hS, bnd_s]
        unfold F_X12_madeHits_97 F_X12_madeHits_103
        have hpm : pm D s m a b = decide (HB D 0 (bear (mdE D s m a b) (mdN D s m a b)) (nI (dN D 6)) false ≠ 0) := if_neg c0
        rw [hpm] at i1
        rw [nI_1, nI_1, show decide ((0 : Int32) ≠ 0) = false from by decide]
        by_cases q : HB D 0 (bear (mdE D s m a b) (mdN D s m a b)) (nI (dN D 6)) false = 0
        · rw [if_pos q]
          rw [decide_eq_false (fun z => z q)] at i1
          exact i1
        · rw [if_neg q]
          rw [decide_eq_true q] at i1
          exact i1
      unfold F_X12_madeHits_66
      by_cases q1 : mdE D s m a b = 0
      · rw [if_pos q1, if_neg (fun z => c0 ⟨q1, z⟩)]; exact fin
      · rw [if_neg q1]; exact fin
theorem strM_13 {D : DD} (hW : WF D) {s m : Int32} {p : Nat} {σ : Mm} (hp : p ≤ 7) (hM : MKr (mA σ 3 0 66) (mA σ 3 0 67) D s m p) (hR : RM σ 0 D) (hS : LSk D 0 (dN D 4) σ) : ∀ (n a : Nat), 2 * p - a < n → a ≤ 2 * p → F_X12_madeHits_13 n (nI p) (nI (cs D s m p a)) (nI a) σ = some (nI (cs D s m p (2 * p)), σ) := by
  intro n
  induction n with
  | zero => intro b h; omega
  | succ n ih =>
    intro a hn ha
    change B_X12_madeHits_13 (F_X12_madeHits_13 n) _ _ _ _ = _
    unfold B_X12_madeHits_13
    have ix : (2 : Int32) * nI p = nI (2 * p) := pk_mul 2 p
    rw [ix]
    by_cases hd : 2 * p ≤ a
    · have e : a = 2 * p := by omega
      subst e
      rw [if_pos (nI_le hd (by omega))]
    rw [if_neg (nI_ge (by omega) (by omega))]
    exact strM_24 hW (c := cs D s m p a) hp (by omega) hM hR hS (by rw [nI_1]; exact ih (a + 1) (by omega) (by omega)) FU 0 (by show _ < 1000000; omega) (by omega)
theorem s_madeHits {D : DD} (hW : WF D) {s m : Int32} {p : Nat} {σ : Mm} (hp : p ≤ 7) (hR : RM σ 0 D) : Ok (F_X12_madeHits s (nI p) m σ) (fun q => q.1 = nI (cs D s m p (2 * p))) := by
  unfold F_X12_madeHits F_X12_madeHits_7
  refine Ok_V ((s_makeM hW hp hR).frV fr_X12_make) (fun τ hτ => ?_)
  obtain ⟨⟨hM, hS⟩, f⟩ := hτ
  exact ⟨_, strM_13 hW hp hM (hR.fr (f.sub rfl)) hS FU 0 (by show _ < 1000000; omega) (by omega), rfl⟩
/-! made, madeAt, odds -/
def okM (p m : Int32) : Prop := (1 ≤ p ∧ p ≤ 7) ∧ 0 ≤ m ∧ m ≤ p
theorem madeOkC {p m : Int32} (h : okM p m) : ¬ f_X11_isMade p m = 0 := by
  unfold f_X11_isMade; unfold okM at h; grind
theorem madeNoC {p m : Int32} (h : ¬ okM p m) : f_X11_isMade p m = 0 := by
  unfold f_X11_isMade; unfold okM at h; grind
theorem madeOkM {p m : Int32} (h : okM p m) : ¬ f_X12_isMake p m = 0 := by
  unfold f_X12_isMake f_X12_isIn; unfold okM at h; grind
theorem madeNoM {p m : Int32} (h : ¬ okM p m) : f_X12_isMake p m = 0 := by
  unfold f_X12_isMake f_X12_isIn; unfold okM at h; grind
theorem okM_nat {p m : Int32} (h : okM p m) : ∃ q : Nat, q ≤ 7 ∧ p = nI q := known_nat (F := 7) (by omega) ⟨by have := h.1.1; clear h; grind, h.1.2⟩
theorem p_made {h : Nat → Bool} {σ : Mm} (hI : Iv h σ) (s p' m : Int32) : ∃ (r : Int32) (σ1 : Mm) (σ2 : Mm), F_X11_made s p' m σ = some (r, σ1) ∧ F_X12_made s p' m σ1 = some (r, σ2) ∧ Iv h σ2 := by
  obtain ⟨D, hC, hM, hW⟩ := id hI.2.2.2.2.2
  have oP := okP_of hI.1
  have hB : CB D σ := ⟨hI.1, hC⟩
  by_cases v1 : okM p' m
  · obtain ⟨p, hp, rfl⟩ := okM_nat v1
    refine q_call hI fr_X11_made rfl (nI (cs D s m p (2 * p))) ?_ (fun _ => fr_X12_made) rfl (fun σ1 f1 => ?_)
    · unfold F_X11_made F_X11_made_22 F_X11_made_40 F_X11_made_54 F_X11_made_69
      rw [if_neg (madeOkC v1), if_pos oP]
      refine Ok_V ((s_watch (y := 0) hW hC hI.1.2.2.2.2).frV fr_X6_watch) (fun τ hτ => ?_)
      obtain ⟨hS, f⟩ := hτ
      have hB1 := hB.fr (f.sub rfl)
      refine Ok_t (okP_of hB1.1) ?_
      rw [hB1.2.1.1]
      refine Ok_V ((s_cover hW hS).frV fr_X10_cover) (fun υ hυ => ?_)
      obtain ⟨hV, f2⟩ := hυ
      refine Ok_V ((s_makeC hW hp (hS.fr f2 rfl)).frV fr_X3_make) (fun φ hφ => ?_)
      obtain ⟨hK, f3⟩ := hφ
      rw [s_strikesC hW hp hK (hV.fr f3 rfl), bnd_s]
      exact Ok_r rfl
    · have hM1 : RM σ1 0 D := hM.fr (f1.sub rfl)
      unfold F_X12_made F_X12_made_15
      rw [if_neg (madeOkM v1)]
      exact Ok_B (s_madeHits hW hp hM1) (fun v τ hv => Ok_r hv)
  · refine ⟨-1, σ, σ, ?_, ?_, hI⟩
    · unfold F_X11_made; rw [if_pos (madeNoC v1)]
    · unfold F_X12_made; rw [if_pos (madeNoM v1)]
theorem p_madeAt {h : Nat → Bool} {σ : Mm} (hI : Iv h σ) (s p' m t w : Int32) : ∃ (r : Int32) (σ1 : Mm) (σ2 : Mm), F_X11_madeAt s p' m t w σ = some (r, σ1) ∧ F_X12_madeAt s p' m t w σ1 = some (r, σ2) ∧ Iv h σ2 := by
  obtain ⟨D, hC, hM, hW⟩ := id hI.2.2.2.2.2
  have oP := okP_of hI.1
  have hB : CB D σ := ⟨hI.1, hC⟩
  by_cases v1 : okM p' m
  · obtain ⟨p, hp, rfl⟩ := okM_nat v1
    have ix : (2 : Int32) * nI p = nI (2 * p) := pk_mul 2 p
    by_cases v2 : t < 0
    · refine ⟨-10000, σ, σ, ?_, ?_, hI⟩
      · unfold F_X11_madeAt; rw [if_neg (madeOkC v1), if_pos v2]
      · unfold F_X12_madeAt; rw [if_neg (madeOkM v1), if_pos v2]
    by_cases v3 : nI (2 * p) ≤ t
    · refine ⟨-10000, σ, σ, ?_, ?_, hI⟩
      · unfold F_X11_madeAt; rw [if_neg (madeOkC v1), if_neg v2, ix, if_pos v3]
      · unfold F_X12_madeAt; rw [if_neg (madeOkM v1), if_neg v2, ix, if_pos v3]
    by_cases v4 : 0 ≤ w ∧ w ≤ 1
    · obtain ⟨j, hj, rfl⟩ := thing_nat (F := 2 * p) (by omega) (x := t) ⟨by clear hI hC hM hW hB v1; grind, by clear hI hC hM hW hB v1; grind⟩
      have cj : (nI j).toNatClampNeg = j := nI_clamp (by omega)
      have ij : inb (nI j) 14 = true := by clear hI hC hM hW hB v1 v2 v3; grind [gI, gB, gC]
      refine q_call hI fr_X11_madeAt rfl (if w = 0 then mE D s m j else mN D s m j) ?_ (fun _ => fr_X12_madeAt) rfl (fun σ1 f1 => ?_)
      · unfold F_X11_madeAt F_X11_madeAt_48 F_X11_madeAt_62
        rw [if_neg (madeOkC v1), if_neg v2, ix, if_neg v3, if_neg (show ¬ w < 0 by have := v4.1; clear hI hC hM hW hB v1; grind), if_pos v4.2, if_pos oP]
        refine Ok_V ((s_watch (y := 0) hW hC hI.1.2.2.2.2).frV fr_X6_watch) (fun τ hτ => ?_)
        obtain ⟨hS, f⟩ := hτ
        refine Ok_V (s_makeC hW hp hS) (fun φ hK => ?_)
        rw [if_pos ij, cj, (MKr.at hK hj).1, (MKr.at hK hj).2]
        by_cases c : w = 0
        · rw [if_pos c, if_pos c]; exact Ok_r rfl
        · rw [if_neg c, if_pos ij, if_neg c]; exact Ok_r rfl
      · have hM1 : RM σ1 0 D := hM.fr (f1.sub rfl)
        unfold F_X12_madeAt F_X12_madeAt_42
        rw [if_neg (madeOkM v1), if_neg v2, ix, if_neg v3, isInM, if_pos v4, if_neg ne10]
        refine Ok_V (s_makeM hW hp hM1) (fun φ hK => ?_)
        rw [if_pos ij, cj, (MKr.at hK.1 hj).1, (MKr.at hK.1 hj).2]
        by_cases c : w = 0
        · rw [if_pos c, if_pos c]; exact Ok_r rfl
        · rw [if_neg c, if_pos ij, if_neg c]; exact Ok_r rfl
    · refine ⟨-10000, σ, σ, ?_, ?_, hI⟩
      · unfold F_X11_madeAt
        rw [if_neg (madeOkC v1), if_neg v2, ix, if_neg v3]
        by_cases c : w < 0
        · rw [if_pos c]
        · rw [if_neg c, if_neg (fun z => v4 ⟨by clear hI hC hM hW hB v1; grind, z⟩)]
      · unfold F_X12_madeAt; rw [if_neg (madeOkM v1), if_neg v2, ix, if_neg v3, isInM, if_neg v4, if_pos rfl]
  · refine ⟨-10000, σ, σ, ?_, ?_, hI⟩
    · unfold F_X11_madeAt; rw [if_pos (madeNoC v1)]
    · unfold F_X12_madeAt; rw [if_pos (madeNoM v1)]
def oq (D : DD) (s m : Int32) (p : Nat) (b : Int32) (i : Nat) : Bool := !decide (nI (cs D (s + nI i) m p (2 * p)) < b)
theorem odds_60 {D : DD} (hW : WF D) {s m b : Int32} {p k : Nat} (hp : p ≤ 7) (hk : k ≤ 200) : ∀ (n i : Nat) (σ : Mm), k - i < n → i ≤ k → SW D 0 (dN D 4) σ → CV D (dN D 6) 0 σ → Ok (F_X11_odds_60 n s (nI p) m (nI k) b (nI (cn (oq D s m p b) i)) (nI i) σ) (fun q => q.1 = nI (cn (oq D s m p b) k)) := by
  intro n
  induction n with
  | zero => intro i σ h; omega
  | succ n ih =>
    intro i σ hn hi hS hV
    change Ok (B_X11_odds_60 (F_X11_odds_60 n) _ _ _ _ _ _ _ _) _
    unfold B_X11_odds_60
    by_cases hd : k ≤ i
    · have e : i = k := by omega
      subst e
      exact Ok_t (nI_le hd (by omega)) (Ok_r rfl)
    refine Ok_f (nI_ge (by omega) (by omega)) (Ok_V ((s_makeC hW hp hS).frV fr_X3_make) (fun τ hτ => ?_))
    obtain ⟨hK, f⟩ := hτ
    unfold F_X11_odds_84
    rw [s_strikesC hW hp hK (hV.fr f rfl), bnd_s]
    unfold F_X11_odds_99 F_X11_odds_107
    have i1 := ih (i + 1) τ (by omega) (by omega) (hS.fr f rfl) (hV.fr f rfl)
    have e : cn (oq D s m p b) (i + 1) = cn (oq D s m p b) i + (if oq D s m p b i = true then 1 else 0) := rfl
    rw [e] at i1
    rw [nI_1, nI_1]
    unfold oq at i1 ⊢
    by_cases c : nI (cs D (s + nI i) m p (2 * p)) < b
    · rw [decide_eq_true c] at i1
      exact Ok_t c i1
    · rw [decide_eq_false c] at i1
      exact Ok_f c i1
theorem odds_28 {D : DD} (hW : WF D) {s m b : Int32} {p k : Nat} (hp : p ≤ 7) (hk : k ≤ 200) : ∀ (n i : Nat) (σ : Mm), k - i < n → i ≤ k → RM σ 0 D → Ok (F_X12_odds_28 n s (nI p) m (nI k) b (nI (cn (oq D s m p b) i)) (nI i) σ) (fun q => q.1 = nI (cn (oq D s m p b) k)) := by
  intro n
  induction n with
  | zero => intro i σ h; omega
  | succ n ih =>
    intro i σ hn hi hM
    change Ok (B_X12_odds_28 (F_X12_odds_28 n) _ _ _ _ _ _ _ _) _
    unfold B_X12_odds_28
    by_cases hd : k ≤ i
    · have e : i = k := by omega
      subst e
      exact Ok_t (nI_le hd (by omega)) (Ok_r rfl)
    refine Ok_f (nI_ge (by omega) (by omega)) (Ok_B ((s_madeHits hW hp hM).frI fr_X12_madeHits) (fun v τ hv => ?_))
    obtain ⟨hv, f⟩ := hv
    have hv : v = nI (cs D (s + nI i) m p (2 * p)) := hv
    have f : Fr W_X12_madeHits σ τ := f
    unfold F_X12_odds_47 F_X12_odds_57
    have i1 := ih (i + 1) τ (by omega) (by omega) (hM.fr (f.sub rfl))
    have e : cn (oq D s m p b) (i + 1) = cn (oq D s m p b) i + (if oq D s m p b i = true then 1 else 0) := rfl
    rw [e] at i1
    rw [hv, nI_1, nI_1, show nI (cn (oq D s m p b) i) + 0 = nI (cn (oq D s m p b) i) from Int32.add_zero _]
    unfold oq at i1 ⊢
    by_cases c : nI (cs D (s + nI i) m p (2 * p)) < b
    · rw [decide_eq_true c] at i1
      exact Ok_t c i1
    · rw [decide_eq_false c] at i1
      exact Ok_f c i1
theorem p_odds {h : Nat → Bool} {σ : Mm} (hI : Iv h σ) (s p' m k' b : Int32) : ∃ (r : Int32) (σ1 : Mm) (σ2 : Mm), F_X11_odds s p' m k' b σ = some (r, σ1) ∧ F_X12_odds s p' m k' b σ1 = some (r, σ2) ∧ Iv h σ2 := by
  obtain ⟨D, hC, hM, hW⟩ := id hI.2.2.2.2.2
  have oP := okP_of hI.1
  have hB : CB D σ := ⟨hI.1, hC⟩
  by_cases v1 : okM p' m
  · obtain ⟨p, hp, rfl⟩ := okM_nat v1
    by_cases v2 : 1 ≤ k' ∧ k' ≤ 200
    · obtain ⟨k, hk, rfl⟩ := known_nat (F := 200) (by omega) (x := k') ⟨by have := v2.1; clear hI hC hM hW hB v1; grind, v2.2⟩
      refine q_call hI fr_X11_odds rfl (nI (cn (oq D s m p b) k)) ?_ (fun _ => fr_X12_odds) rfl (fun σ1 f1 => ?_)
      · unfold F_X11_odds F_X11_odds_36 F_X11_odds_54
        rw [if_neg (madeOkC v1), if_neg (show ¬ nI k < 1 by have := v2.1; clear hI hC hM hW hB v1; grind), if_pos v2.2, if_pos oP]
        refine Ok_V ((s_watch (y := 0) hW hC hI.1.2.2.2.2).frV fr_X6_watch) (fun τ hτ => ?_)
        obtain ⟨hS, f⟩ := hτ
        have hB1 := hB.fr (f.sub rfl)
        refine Ok_t (okP_of hB1.1) ?_
        rw [hB1.2.1.1]
        refine Ok_V ((s_cover hW hS).frV fr_X10_cover) (fun υ hυ => ?_)
        obtain ⟨hV, f2⟩ := hυ
        exact odds_60 hW hp hk FU 0 υ (by show _ < 1000000; omega) (by omega) (hS.fr f2 rfl) hV
      · have hM1 : RM σ1 0 D := hM.fr (f1.sub rfl)
        unfold F_X12_odds
        rw [if_neg (madeOkM v1), isInM, if_pos v2, if_neg ne10]
        exact odds_28 hW hp hk FU 0 σ1 (by show _ < 1000000; omega) (by omega) hM1
    · refine ⟨-1, σ, σ, ?_, ?_, hI⟩
      · unfold F_X11_odds
        rw [if_neg (madeOkC v1)]
        by_cases c : k' < 1
        · rw [if_pos c]
        · rw [if_neg c, if_neg (fun z => v2 ⟨by clear hI hC hM hW hB v1; grind, z⟩)]
      · unfold F_X12_odds; rw [if_neg (madeOkM v1), isInM, if_neg v2, if_pos rfl]
  · refine ⟨-1, σ, σ, ?_, ?_, hI⟩
    · unfold F_X11_odds; rw [if_pos (madeNoC v1)]
    · unfold F_X12_odds; rw [if_pos (madeNoM v1)]
