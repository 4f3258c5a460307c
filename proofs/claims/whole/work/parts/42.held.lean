/-! a RULE's COND, both sides -/
def flR : Cd → Nat → List (Nat × Lt)
  | [], _ => []
  | rw :: c, r => rw.map (fun l => (r, l)) ++ flR c (r + 1)
theorem flt_flR (c : Cd) : ∀ r, (c.zipIdx r).flatMap (fun q => q.1.map (fun l => (q.2, l))) = flR c r := by
  induction c with
  | nil => intro r; rfl
  | cons rw c ih => intro r; rw [List.zipIdx_cons, List.flatMap_cons, ih]; rfl
theorem flt_eq (c : Cd) : fltC c = flR c 0 := flt_flR c 0
theorem Lits.app {σ : Mm} {l0 : Nat} {A B : List (Nat × Lt)} (h : Lits σ l0 (A ++ B)) : Lits σ (l0 + A.length) B := by
  intro j q hj
  have := h (A.length + j) q (by rw [List.getElem?_append_right (by omega)]; rw [show A.length + j - A.length = j by omega]; exact hj)
  rw [show l0 + (A.length + j) = l0 + A.length + j by omega] at this
  exact this
theorem Lits.tail {σ : Mm} {l0 : Nat} {a : Nat × Lt} {B : List (Nat × Lt)} (h : Lits σ l0 (a :: B)) : Lits σ (l0 + 1) B := Lits.app (A := [a]) h
theorem flR_head {c : Cd} {r : Nat} (hc : ∀ x ∈ c, x ≠ []) {q : Nat × Lt} {F : List (Nat × Lt)} (h : flR c r = q :: F) : q.1 = r := by
  cases c with
  | nil => cases h
  | cons x c =>
    cases x with
    | nil => exact absurd rfl (hc [] List.mem_cons_self)
    | cons l x => 
      have : (r, l) :: (x.map (fun l => (r, l)) ++ flR c (r + 1)) = q :: F := h
      cases this; rfl
theorem held_18 {rc : Int32 → Int32 → Mm → Option (Int32 × Mm)} {v : Nat → Int32} {c : Cd} {r to : Nat} (h200 : to ≤ 200) (hr : r < 1000) (hc : ∀ x ∈ c, x ≠ []) {K : Nat} (hK : K + (flR c (r + 1)).length = to)
    (hrc : ∀ τ, Lits τ K (flR c (r + 1)) → mA τ 3 0 56 = v → Ok (rc (nI to) (nI K) τ) (fun q => q.1 = if conV v c then 1 else 0)) :
    ∀ (m : Nat) (rest : List Lt) (k : Nat) (a : Bool) (σ : Mm), rest.length < m → k + rest.length = K → (∀ l ∈ rest, wfL l) → Lits σ k (rest.map (fun l => (r, l)) ++ flR c (r + 1)) → mA σ 3 0 56 = v → Ok (F_X12_isHeld_18 rc m (nI to) (nI k) (nI r) (if a then 1 else 0) σ) (fun q => q.1 = if ((a && rowV v rest) || conV v c) then 1 else 0) := by
  intro m
  induction m with
  | zero => intro rest k a σ h; omega
  | succ m ih =>
    intro rest k a σ hm hk hw hL hv
    change Ok (B_X12_isHeld_18 rc (F_X12_isHeld_18 rc m) _ _ _ _ _) _
    unfold B_X12_isHeld_18
    cases rest with
    | nil =>
      have hkK : k = K := by simpa using hk
      subst hkK
      have fin : Ok (F_X12_isHeld_52 rc (nI to) (nI k) (if a = true then 1 else 0) σ) (fun q => q.1 = if ((a && rowV v []) || conV v c) then 1 else 0) := by
        unfold F_X12_isHeld_52
        show Ok _ (fun (q : Int32 × Mm) => q.1 = if ((a && true) || conV v c) = true then 1 else 0)
        rw [Bool.and_true]
        cases a with
        | true => exact Ok_f (by decide) (Ok_r rfl)
        | false => exact Ok_t rfl (hrc σ hL hv)
      by_cases hd : to ≤ k
      · exact Ok_t (nI_le hd (by omega)) fin
      · have hck : (nI k).toNatClampNeg = k := nI_clamp (by omega)
        have ik : inb (nI k) 1000 = true := by clear ih hw hL hv hrc fin hc; grind [gI, gB, gC]
        refine Ok_f (nI_ge (by omega) (by omega)) (Ok_t ik ?_)
        rw [hck]
        cases hfl : flR c (r + 1) with
        | nil => rw [hfl] at hK; simp at hK; omega
        | cons q F =>
          have hq : mA σ 3 0 37 k = nI q.1 := by
            have := (hL 0 q (by show (flR c (r + 1))[0]? = some q; rw [hfl]; rfl)).1
            exact this
          have hq1 : q.1 = r + 1 := flR_head hc hfl
          refine Ok_f ?_ fin
          rw [hq, hq1]
          intro z
          have := (nI_eq (by omega) (by omega)).mp z
          omega
    | cons l rest =>
      have hlen : (l :: rest).length = rest.length + 1 := rfl
      have hkt : k < to := by omega
      have hck : (nI k).toNatClampNeg = k := nI_clamp (by omega)
      have ik : inb (nI k) 1000 = true := by clear ih hw hL hv hrc hc; grind [gI, gB, gC]
      have hL' : Lits σ k ((r, l) :: (rest.map (fun l => (r, l)) ++ flR c (r + 1))) := hL
      have hrow : mA σ 3 0 37 k = nI r := (hL' 0 (r, l) rfl).1
      have hall : rowV v (l :: rest) = (litV v l && rowV v rest) := rfl
      have hwl := hw l List.mem_cons_self
      have hwr : ∀ x ∈ rest, wfL x := fun x hx => hw x (List.mem_cons_of_mem _ hx)
      refine Ok_f (nI_ge hkt (by omega)) (Ok_t ik ?_)
      rw [hck]
      refine Ok_t hrow ?_
      unfold F_X12_isHeld_46 F_X12_isHeld_44 F_X12_isHeld_46
      rw [hall, nI_1]
      cases a with
      | false =>
        refine Ok_t rfl ?_
        exact ih rest (k + 1) false σ (by omega) (by omega) hwr hL'.tail hv
      | true =>
        refine Ok_f (by decide) (Ok_B ((s_isLit (k := 0) (l0 := k) (by omega) hL' rfl hwl).frI fr_X12_isLit) (fun x τ hx => ?_))
        obtain ⟨hx, fr⟩ := hx
        have hx : x = if litV (mA σ 3 0 56) l then 1 else 0 := hx
        rw [hx, hv, Bool.true_and]
        exact ih rest (k + 1) (litV v l) τ (by omega) (by omega) hwr (hL'.tail.fr (fr.sub rfl)) ((fr.row (t := 3) (k := 56) 0 rfl).trans hv)
theorem held_2 {v : Nat → Int32} {to : Nat} (h200 : to ≤ 200) : ∀ (m : Nat) (c : Cd) (r k : Nat) (σ : Mm), c.length < m → r + c.length < 1000 → (∀ x ∈ c, x ≠ [] ∧ ∀ l ∈ x, wfL l) → k + (flR c r).length = to → Lits σ k (flR c r) → mA σ 3 0 56 = v → Ok (F_X12_isHeld_2 m (nI to) (nI k) σ) (fun q => q.1 = if conV v c then 1 else 0) := by
  intro m
  induction m with
  | zero => intro c r k σ h; omega
  | succ m ih =>
    intro c r k σ hm hr hc hk hL hv
    change Ok (B_X12_isHeld_2 (F_X12_isHeld_2 m) _ _ _) _
    unfold B_X12_isHeld_2
    cases c with
    | nil =>
      have : k = to := by simpa [flR] using hk
      subst this
      exact Ok_t (nI_le (Nat.le_refl _) (by omega)) (Ok_r rfl)
    | cons x c =>
      obtain ⟨hx0, hxw⟩ := hc x List.mem_cons_self
      have hfl : flR (x :: c) r = x.map (fun l => (r, l)) ++ flR c (r + 1) := rfl
      rw [hfl] at hL hk
      have hxl : 0 < x.length := by
        cases x with
        | nil => exact absurd rfl hx0
        | cons l x => simp
      rw [List.length_append, List.length_map] at hk
      have hck : (nI k).toNatClampNeg = k := nI_clamp (by omega)
      have ik : inb (nI k) 1000 = true := by clear ih hc hL hv hxw; grind [gI, gB, gC]
      have hrow : mA σ 3 0 37 k = nI r := by
        cases x with
        | nil => exact absurd rfl hx0
        | cons l x => exact (hL 0 (r, l) rfl).1
      refine Ok_f (nI_ge (by omega) (by omega)) (Ok_t ik ?_)
      rw [hck, hrow]
      have hlen : (x :: c).length = c.length + 1 := rfl
      have := held_18 (rc := F_X12_isHeld_2 m) (v := v) (c := c) (r := r) (to := to) h200 (by omega) (fun y hy => (hc y (List.mem_cons_of_mem _ hy)).1) (K := k + x.length) (by omega)
        (fun τ hLτ hvτ => ih c (r + 1) (k + x.length) τ (by omega) (by omega) (fun y hy => hc y (List.mem_cons_of_mem _ hy)) (by omega) hLτ hvτ) FU x k true σ (by show _ < 1000000; omega) rfl hxw hL hv
      exact this
theorem flR_len (c : Cd) (hc : ∀ x ∈ c, x ≠ []) : ∀ r, c.length ≤ (flR c r).length := by
  induction c with
  | nil => intro r; exact Nat.le_refl _
  | cons x c ih =>
    intro r
    have h1 := ih (fun y hy => hc y (List.mem_cons_of_mem _ hy)) (r + 1)
    have h2 : 0 < x.length := by
      cases x with
      | nil => exact absurd rfl (hc [] List.mem_cons_self)
      | cons l x => simp
    show c.length + 1 ≤ (x.map (fun l => (r, l)) ++ flR c (r + 1)).length
    rw [List.length_append, List.length_map]
    omega
/-- the model: whether a RULE holds for what is asked -/
theorem s_isHeld {σ : Mm} {D : DD} (hW : WF D) (hM : RM σ 0 D) {r : Nat} (hr : r < dN D 5) : Ok (F_X12_isHeld (mA σ 3 0 26 r) (mA σ 3 0 27 r) σ) (fun q => q.1 = if conV (mA σ 3 0 56) (dR D r) then 1 else 0) := by
  obtain ⟨l0, h1, h2, h3, h4⟩ := hM.2.2.2.2.2.2.2 r hr
  simp only [Nat.mul_zero, Nat.zero_add] at h1 h2 h4
  have hc := hW.2.2.2.2.2.2.2.2.2.2 r hr
  rw [h1, h2]
  have hL : Lits σ l0 (flR (dR D r) 0) := by
    intro j q hj
    rw [← flt_eq] at hj
    exact h4 j q hj
  rw [flt_eq] at h2 h3 ⊢
  have hlen := flR_len (dR D r) (fun x hx => (hc.2 x hx).1) 0
  exact held_2 h3 FU (dR D r) 0 l0 σ (by show _ < 1000000; omega) (by omega) hc.2 rfl hL rfl
/-- the class: the same -/
theorem s_workC {σ : Mm} {i : Nat} {D : DD} (hW : WF D) (hC : RCc σ i D) {r : Nat} (hr : r < dN D 5) : Ok (F_X0_work_g i (nI (5 + r)) σ) (fun q => q.1 = if conV (mA σ 0 0 22) (dR D r) then 1 else 0) := by
  have hc := hW.2.2.2.2.2.2.2.2.2.2 r hr
  have h6 := hW.2.2.2.2.2.1
  exact (s_work_g (by omega) (hC r hr)).mono fun q hq => by rw [hq, enc_C hc]
/-- two rows of variables that agree -/
theorem rn_cong {v w : Nat → Int32} (h : ∀ k, k < 9 → v k = w k) : ∀ (L : List Op) (s : List Int32), (∀ o ∈ L, o.1 ≤ 5 ∧ (o.1 = 1 → 0 ≤ o.2 ∧ o.2 < 9)) → rn v L s = rn w L s := by
  intro L
  induction L with
  | nil => intro s _; rfl
  | cons o L ih =>
    intro s hw
    have hw2 : ∀ p ∈ L, p.1 ≤ 5 ∧ (p.1 = 1 → 0 ≤ p.2 ∧ p.2 < 9) := fun p hp => hw p (List.mem_cons_of_mem _ hp)
    unfold rn
    by_cases c2 : o.1 < 2
    · rw [if_pos c2, if_pos c2]
      by_cases c0 : o.1 = 0
      · rw [if_pos c0, if_pos c0]; exact ih _ hw2
      · obtain ⟨z1, z2⟩ := (hw o List.mem_cons_self).2 (by omega)
        rw [if_neg c0, if_neg c0, h _ (by generalize o.2 = z at *; clear ih hw hw2 h; grind [gI, gC])]
        exact ih _ hw2
    · rw [if_neg c2, if_neg c2]
      rcases s with _ | ⟨y, _ | ⟨x, s⟩⟩
      · rfl
      · rfl
      · simp only
        split
        · rfl
        · exact ih _ hw2
theorem evE_cong {v w : Nat → Int32} (h : ∀ k, k < 9 → v k = w k) {L : List Op} (hL : wfE L) : evE v L = evE w L := by
  unfold evE
  rw [rn_cong h L [] hL.2]
theorem litV_cong {v w : Nat → Int32} (h : ∀ k, k < 9 → v k = w k) {l : Lt} (hl : wfL l) : litV v l = litV w l := by
  unfold litV
  rw [evE_cong h hl.2.1, evE_cong h hl.2.2]
theorem all_cong {α : Type} {p q : α → Bool} {l : List α} (h : ∀ x ∈ l, p x = q x) : l.all p = l.all q := by
  induction l with
  | nil => rfl
  | cons a l ih => rw [List.all_cons, List.all_cons, h a List.mem_cons_self, ih (fun x hx => h x (List.mem_cons_of_mem _ hx))]
theorem any_cong {α : Type} {p q : α → Bool} {l : List α} (h : ∀ x ∈ l, p x = q x) : l.any p = l.any q := by
  induction l with
  | nil => rfl
  | cons a l ih => rw [List.any_cons, List.any_cons, h a List.mem_cons_self, ih (fun x hx => h x (List.mem_cons_of_mem _ hx))]
theorem conV_cong {v w : Nat → Int32} (h : ∀ k, k < 9 → v k = w k) {c : Cd} (hc : wfC c) : conV v c = conV w c :=
  any_cong fun r hr => all_cong fun l hl => litV_cong h ((hc.2 r hr).2 l hl)
