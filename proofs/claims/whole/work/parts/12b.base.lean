/-! rows for arraycopy, arraylength, references that move, slots -/
def LwN (own : String) (idx : Nat) : Prop := Cond.methodLink own idx arraycopyName ∈ wAll ∧ Cond.native arraycopyName ∈ wAll ∧ Cond.static arraycopyName ∈ wAll ∧ Cond.initialized "java/lang/System" ∈ wAll
section ZY
variable {M : Mt} {S : Shp} {Q : Option Value → Mm → Prop} {pc : Nat} {lv : List (Nat × Value)} {st rest : List Value} {σ : Mm} {t i k t' i' k' idx n0 n1 : Nat}
theorem z_copyi {sp dp n : Int32} (hw : LwN (my M).cls idx) (hlv : lvq (sH S) t i k = true) (hc : ∀ r lr, cR S (mP σ) t i k r lr = .inl (sE S 0, n0, .inl r)) (hlv' : lvq (sH S) t' i' k' = true) (hc' : ∀ r lr, cR S (mP σ) t' i' k' r lr = .inl (sE S 0, n1, .inl r)) (h1 : ¬ sp < 0) (h2 : ¬ dp < 0) (h3 : ¬ n < 0) (h4 : sp.toNatClampNeg + n.toNatClampNeg ≤ n0) (h5 : dp.toNatClampNeg + n.toNatClampNeg ≤ n1) (hdep : 1 ≤ md M) (hroom : (rest.map fun v => v.category).sum + (nativeFrameWords "java/lang/System" "arraycopy" 5 + 11) ≤ 40 * md M) (hd : decode (mb M) pc = .ok (.invokestatic idx, 3))
    (kk : Z M S Q (pc + 3) lv rest (setA σ t' i' k' (va_cpy (mA σ t i k) (mA σ t' i' k') sp.toNatClampNeg dp.toNatClampNeg n.toNatClampNeg))) : Z M S Q pc lv (.int n :: .int dp :: .ref (sL S t' i' k') :: .int sp :: .ref (sL S t i k) :: rest) σ := by
  intro p l e s m args below meth c X H locs ls hl hP hD hS
  have hm : ∀ {w : Cond}, w ∈ wAll → w.before args s = true := fun h => X.2.2.2.2.1 _ (List.mem_cons_of_mem _ h)
  obtain ⟨z, hz⟩ := ids_at hlv
  have ha := wr_at hz σ
  rw [hc] at ha
  obtain ⟨z', hz'⟩ := ids_at hlv'
  have ha' := wr_at hz' σ
  rw [hc'] at ha'
  refine va_copyi X.1 X.2.1 (X.2.2.1.trans hl.1.symm) X.2.2.2.1 (hm hw.1) (hm hw.2.1) (hm hw.2.2.1) (hm hw.2.2.2) X.2.2.2.2.2.2.2.1 hP hD hS z z' 0 0 ha ha' rfl rfl rfl h1 h2 h3 h4 h5 (fun _ _ => rfl) hdep hroom hd (fun H1 locs1 hP hD hS => ?_)
  rw [← hc' _ (mL σ t' i' k'), wr_setA hz'] at hP hD
  exact kk p l e s m args below meth c X H1 locs1 ls hl hP hD hS
theorem z_alen {v : Int32} (hlv : lvq (sH S) t i k = true) (hc : ∀ r lr, cR S (mP σ) t i k r lr = .inl (sE S 0, n0, .inl r)) (hv : Int32.ofNat n0 = v) (hd : decode (mb M) pc = .ok (.arraylength, 1)) (kk : Z M S Q (pc + 1) lv (.int v :: st) σ) : Z M S Q pc lv (.ref (sL S t i k) :: st) σ := by
  intro p l e s m args below meth c X H locs ls hl hP hD hS
  obtain ⟨z, hz⟩ := ids_at hlv
  have ha := wr_at hz σ
  rw [hc] at ha
  exact va_alen X.1 X.2.1 X.2.2.2.2.2.2.2.1 hP z 0 ha rfl hv hd (kk p l e s m args below meth c X H locs ls hl hP hD hS)
end ZY
theorem ids_lvq {h : Nat → Bool} {q : Nat × Nat × Nat} (hq : q ∈ ids h) : lvq h q.1 q.2.1 q.2.2 = true := (List.mem_filter.mp hq).2
theorem wr_set2 {S : Shp} {σ σ' : Mm} {p : Nat} {q0 : Nat × Nat × Nat} (hp : (ids (sH S))[p]? = some q0) (h : ∀ q, lvq (sH S) q.1 q.2.1 q.2.2 = true → q ≠ q0 → cl S σ' q = cl S σ q) : (wr S σ).set p (cl S σ' q0) = wr S σ' := by
  apply List.ext_getElem?
  intro n
  unfold wr
  by_cases hn : n = p
  · subst hn
    rw [List.getElem?_set_self (by rw [List.length_map]; exact (List.getElem?_eq_some_iff.mp hp).1), List.getElem?_map, hp]
    rfl
  · rw [List.getElem?_set_ne (Ne.symm hn), List.getElem?_map, List.getElem?_map]
    cases hq : (ids (sH S))[n]? with
    | none => rfl
    | some q =>
      have hne : q ≠ q0 := by
        intro z
        subst z
        exact hn ((List.getElem?_inj (List.getElem?_eq_some_iff.mp hq).1 (ids_nd _)).mp (hq.trans hp.symm))
      simp only [Option.map_some]
      rw [h q (ids_lvq (List.mem_of_getElem? hq)) hne]
section ZH
variable {M : Mt} {S : Shp} {Q : Option Value → Mm → Prop} {pc : Nat} {lv : List (Nat × Value)} {st rest : List Value} {σ : Mm}
theorem z_ifnullN {off : Int} {tgt : Nat} (hd : decode (mb M) pc = .ok (.ifnull off, 3)) (ht : (pc : Int) + off = (tgt : Int)) (k : Z M S Q tgt lv st σ) : Z M S Q pc lv (.null :: st) σ := fun p l e s m args below meth c C H locs ls hl hP hD hS => lv_ifnullN C.1 C.2.1 hd ht (k p l e s m args below meth c C H locs ls hl hP hD hS)
theorem z_ifnonnullN {off : Int} (hd : decode (mb M) pc = .ok (.ifnonnull off, 3)) (k : Z M S Q (pc + 3) lv st σ) : Z M S Q pc lv (.null :: st) σ := fun p l e s m args below meth c C H locs ls hl hP hD hS => lv_ifnonnullN C.1 C.2.1 hd (k p l e s m args below meth c C H locs ls hl hP hD hS)
theorem z_heldT {x : Int32} (hx : vp_in x 3) (hd : decode (mb M) pc = .ok (.aaload, 1)) (k : Z M S Q (pc + 1) lv (va_rf (if sH S x.toNatClampNeg then some (sL S 1 (2 + x.toNatClampNeg) 0) else none) :: st) σ) : Z M S Q pc lv (.int x :: .ref (sL S 0 0 1) :: st) σ := by
  intro p l e s m args below meth c X H locs ls hl hP hD hS
  obtain ⟨z, hz⟩ := ids_at (h := sH S) (t := 0) (i := 0) (k := 1) rfl
  have ha := wr_at hz σ
  exact va_aldq X.1 X.2.1 X.2.2.2.2.2.2.2.1 hP z 4 ha rfl hx hd (k p l e s m args below meth c X H locs ls hl hP hD hS)
theorem z_heldS {x : Int32} (hx : vp_in x 3) (hd : decode (mb M) pc = .ok (.aaload, 1)) (k : Z M S Q (pc + 1) lv (va_rf (if sH S x.toNatClampNeg then some (sL S 2 (1 + x.toNatClampNeg) 0) else none) :: st) σ) : Z M S Q pc lv (.int x :: .ref (sL S 0 0 2) :: st) σ := by
  intro p l e s m args below meth c X H locs ls hl hP hD hS
  obtain ⟨z, hz⟩ := ids_at (h := sH S) (t := 0) (i := 0) (k := 2) rfl
  have ha := wr_at hz σ
  exact va_aldq X.1 X.2.1 X.2.2.2.2.2.2.2.1 hP z 5 ha rfl hx hd (k p l e s m args below meth c X H locs ls hl hP hD hS)
end ZH
theorem inb_lt {x : Int32} {n : Nat} (h : inb x n = true) : x.toNatClampNeg < n := by
  have h := of_decide_eq_true (p := ¬ (x < 0 ∨ n ≤ x.toNatClampNeg)) h
  exact Nat.lt_of_not_le (fun z => h (Or.inr z))
theorem tl_held {h : Nat → Bool} {j : Nat} (hj : j < 3) (hh : h j = true) : tlv h (2 + j) = true := by
  unfold tlv
  rw [show 2 + j - 2 = j by omega, hh, show Nat.blt (2 + j) 5 = true by rw [Nat.blt_eq]; omega]
  simp
theorem sl_held {h : Nat → Bool} {j : Nat} (hj : j < 3) (hh : h j = true) : slv h (1 + j) = true := by
  unfold slv
  rw [show 1 + j - 1 = j by omega, hh, show Nat.blt (1 + j) 4 = true by rw [Nat.blt_eq]; omega]
  simp
theorem cR0_P0 {S : Shp} {P : Nat → Nat} {j i : Nat} {r : Nat → Int32} {lr : Nat → Int64} : ∀ k, k < 43 → k ≠ 0 → cR0 S (fun a => if a = 0 then j else P a) i k r lr = cR0 S P i k r lr := by
  intro k hk hne
  match k, hk, hne with
  | 0, _, h => exact absurd rfl h
  | 1, _, _ => rfl
  | 2, _, _ => rfl
  | 3, _, _ => rfl
  | 4, _, _ => rfl
  | 5, _, _ => rfl
  | 6, _, _ => rfl
  | 7, _, _ => rfl
  | 8, _, _ => rfl
  | 9, _, _ => rfl
  | 10, _, _ => rfl
  | 11, _, _ => rfl
  | 12, _, _ => rfl
  | 13, _, _ => rfl
  | 14, _, _ => rfl
  | 15, _, _ => rfl
  | 16, _, _ => rfl
  | 17, _, _ => rfl
  | 18, _, _ => rfl
  | 19, _, _ => rfl
  | 20, _, _ => rfl
  | 21, _, _ => rfl
  | 22, _, _ => rfl
  | 23, _, _ => rfl
  | 24, _, _ => rfl
  | 25, _, _ => rfl
  | 26, _, _ => rfl
  | 27, _, _ => rfl
  | 28, _, _ => rfl
  | 29, _, _ => rfl
  | 30, _, _ => rfl
  | 31, _, _ => rfl
  | 32, _, _ => rfl
  | 33, _, _ => rfl
  | 34, _, _ => rfl
  | 35, _, _ => rfl
  | 36, _, _ => rfl
  | 37, _, _ => rfl
  | 38, _, _ => rfl
  | 39, _, _ => rfl
  | 40, _, _ => rfl
  | 41, _, _ => rfl
  | 42, _, _ => rfl
  | k + 43, h, _ => exact absurd h (by omega)
theorem wr_setP0 {S : Shp} {σ : Mm} {p j : Nat} (hp : (ids (sH S))[p]? = some (0, 0, 0)) : (wr S σ).set p (sL S 0 0 0, cR S (mP (setP σ 0 j)) 0 0 0 (mA σ 0 0 0) (mL σ 0 0 0)) = wr S (setP σ 0 j) := by
  refine wr_set2 (σ := σ) (σ' := setP σ 0 j) hp (fun q hl hq => ?_)
  obtain ⟨t, i, k⟩ := q
  match t, hl, hq with
  | 0, hl, hq =>
    simp only [lvq, Bool.and_eq_true, Nat.blt_eq] at hl
    have hi := Nat.eq_of_beq_eq_true hl.1
    subst hi
    show (sL S 0 0 k, cR0 S (mP (setP σ 0 j)) 0 k (mA σ 0 0 k) (mL σ 0 0 k)) = (sL S 0 0 k, cR0 S (mP σ) 0 k (mA σ 0 0 k) (mL σ 0 0 k))
    rw [show cR0 S (mP (setP σ 0 j)) 0 k (mA σ 0 0 k) (mL σ 0 0 k) = _ from cR0_P0 k hl.2 (fun z => hq (by rw [z]))]
  | 1, _, _ => rfl
  | 2, _, _ => rfl
  | 3, _, _ => rfl
  | t + 4, hl, _ => simp [lvq] at hl
theorem cR0_P1 {S : Shp} {P : Nat → Nat} {j i : Nat} {r : Nat → Int32} {lr : Nat → Int64} : ∀ k, k < 43 → k ≠ 0 → cR0 S (fun a => if a = 1 then j else P a) i k r lr = cR0 S P i k r lr := by
  intro k hk hne
  match k, hk, hne with
  | 0, _, h => exact absurd rfl h
  | 1, _, _ => rfl
  | 2, _, _ => rfl
  | 3, _, _ => rfl
  | 4, _, _ => rfl
  | 5, _, _ => rfl
  | 6, _, _ => rfl
  | 7, _, _ => rfl
  | 8, _, _ => rfl
  | 9, _, _ => rfl
  | 10, _, _ => rfl
  | 11, _, _ => rfl
  | 12, _, _ => rfl
  | 13, _, _ => rfl
  | 14, _, _ => rfl
  | 15, _, _ => rfl
  | 16, _, _ => rfl
  | 17, _, _ => rfl
  | 18, _, _ => rfl
  | 19, _, _ => rfl
  | 20, _, _ => rfl
  | 21, _, _ => rfl
  | 22, _, _ => rfl
  | 23, _, _ => rfl
  | 24, _, _ => rfl
  | 25, _, _ => rfl
  | 26, _, _ => rfl
  | 27, _, _ => rfl
  | 28, _, _ => rfl
  | 29, _, _ => rfl
  | 30, _, _ => rfl
  | 31, _, _ => rfl
  | 32, _, _ => rfl
  | 33, _, _ => rfl
  | 34, _, _ => rfl
  | 35, _, _ => rfl
  | 36, _, _ => rfl
  | 37, _, _ => rfl
  | 38, _, _ => rfl
  | 39, _, _ => rfl
  | 40, _, _ => rfl
  | 41, _, _ => rfl
  | 42, _, _ => rfl
  | k + 43, h, _ => exact absurd h (by omega)
theorem wr_setP1 {S : Shp} {σ : Mm} {p j : Nat} (hp : (ids (sH S))[p]? = some (0, 0, 0)) : (wr S σ).set p (sL S 0 0 0, cR S (mP (setP σ 1 j)) 0 0 0 (mA σ 0 0 0) (mL σ 0 0 0)) = wr S (setP σ 1 j) := by
  refine wr_set2 (σ := σ) (σ' := setP σ 1 j) hp (fun q hl hq => ?_)
  obtain ⟨t, i, k⟩ := q
  match t, hl, hq with
  | 0, hl, hq =>
    simp only [lvq, Bool.and_eq_true, Nat.blt_eq] at hl
    have hi := Nat.eq_of_beq_eq_true hl.1
    subst hi
    show (sL S 0 0 k, cR0 S (mP (setP σ 1 j)) 0 k (mA σ 0 0 k) (mL σ 0 0 k)) = (sL S 0 0 k, cR0 S (mP σ) 0 k (mA σ 0 0 k) (mL σ 0 0 k))
    rw [show cR0 S (mP (setP σ 1 j)) 0 k (mA σ 0 0 k) (mL σ 0 0 k) = _ from cR0_P1 k hl.2 (fun z => hq (by rw [z]))]
  | 1, _, _ => rfl
  | 2, _, _ => rfl
  | 3, _, _ => rfl
  | t + 4, hl, _ => simp [lvq] at hl
theorem cR0_P2 {S : Shp} {P : Nat → Nat} {j i : Nat} {r : Nat → Int32} {lr : Nat → Int64} : ∀ k, k < 43 → k ≠ 12 → cR0 S (fun a => if a = 2 then j else P a) i k r lr = cR0 S P i k r lr := by
  intro k hk hne
  match k, hk, hne with
  | 0, _, _ => rfl
  | 1, _, _ => rfl
  | 2, _, _ => rfl
  | 3, _, _ => rfl
  | 4, _, _ => rfl
  | 5, _, _ => rfl
  | 6, _, _ => rfl
  | 7, _, _ => rfl
  | 8, _, _ => rfl
  | 9, _, _ => rfl
  | 10, _, _ => rfl
  | 11, _, _ => rfl
  | 12, _, h => exact absurd rfl h
  | 13, _, _ => rfl
  | 14, _, _ => rfl
  | 15, _, _ => rfl
  | 16, _, _ => rfl
  | 17, _, _ => rfl
  | 18, _, _ => rfl
  | 19, _, _ => rfl
  | 20, _, _ => rfl
  | 21, _, _ => rfl
  | 22, _, _ => rfl
  | 23, _, _ => rfl
  | 24, _, _ => rfl
  | 25, _, _ => rfl
  | 26, _, _ => rfl
  | 27, _, _ => rfl
  | 28, _, _ => rfl
  | 29, _, _ => rfl
  | 30, _, _ => rfl
  | 31, _, _ => rfl
  | 32, _, _ => rfl
  | 33, _, _ => rfl
  | 34, _, _ => rfl
  | 35, _, _ => rfl
  | 36, _, _ => rfl
  | 37, _, _ => rfl
  | 38, _, _ => rfl
  | 39, _, _ => rfl
  | 40, _, _ => rfl
  | 41, _, _ => rfl
  | 42, _, _ => rfl
  | k + 43, h, _ => exact absurd h (by omega)
theorem wr_setP2 {S : Shp} {σ : Mm} {p j : Nat} (hp : (ids (sH S))[p]? = some (0, 0, 12)) : (wr S σ).set p (sL S 0 0 12, cR S (mP (setP σ 2 j)) 0 0 12 (mA σ 0 0 12) (mL σ 0 0 12)) = wr S (setP σ 2 j) := by
  refine wr_set2 (σ := σ) (σ' := setP σ 2 j) hp (fun q hl hq => ?_)
  obtain ⟨t, i, k⟩ := q
  match t, hl, hq with
  | 0, hl, hq =>
    simp only [lvq, Bool.and_eq_true, Nat.blt_eq] at hl
    have hi := Nat.eq_of_beq_eq_true hl.1
    subst hi
    show (sL S 0 0 k, cR0 S (mP (setP σ 2 j)) 0 k (mA σ 0 0 k) (mL σ 0 0 k)) = (sL S 0 0 k, cR0 S (mP σ) 0 k (mA σ 0 0 k) (mL σ 0 0 k))
    rw [show cR0 S (mP (setP σ 2 j)) 0 k (mA σ 0 0 k) (mL σ 0 0 k) = _ from cR0_P2 k hl.2 (fun z => hq (by rw [z]))]
  | 1, _, _ => rfl
  | 2, _, _ => rfl
  | 3, _, _ => rfl
  | t + 4, hl, _ => simp [lvq] at hl
theorem z_putP0 {M : Mt} {S : Shp} {Q : Option Value → Mm → Prop} {pc : Nat} {lv : List (Nat × Value)} {st : List Value} {σ : Mm} {idx j : Nat} (hlink : Cond.fieldLink (my M).cls idx (TX11 1).1 (TX11 1).2.1 (TX11 1).2.2.1 ∈ wAll) (hd : decode (mb M) pc = .ok (.putfield idx, 3)) (kk : Z M S Q (pc + 3) lv st (setP σ 0 j)) : Z M S Q pc lv (.ref (sL S 1 j 0) :: .ref (sL S 0 0 0) :: st) σ := by
  intro p l e s m args below meth c C H locs ls hl hP hD hS
  obtain ⟨z, hz⟩ := ids_at (h := sH S) (t := 0) (i := 0) (k := 0) rfl
  have ha := wr_at hz σ
  refine va_put (ci := 10) (C := RX11) (T := TX11) (N := 16) (ty := .object "SkyStones$Told") C.1 C.2.1 C.2.2.2.2.1 (fun w h => List.mem_cons_of_mem _ (qi_11 w h)) tyX11 tyX11_ok nmX11 C.2.2.2.1 C.2.2.2.2.2.2.2.1 hP hD hS z ha rfl 1 (by decide) (C.2.2.2.2.1 _ (List.mem_cons_of_mem _ hlink)) (fun _ h => h) rfl (by decide +kernel) rfl rfl (Nat.le_of_ble_eq_true rfl) hd (fun H1 locs1 hP hD hS => ?_)
  have e1 := wr_setP0 (j := j) (σ := σ) hz
  exact kk p l e s m args below meth c C H1 locs1 ls hl (e1 ▸ hP) (e1 ▸ hD) hS
theorem z_putP1 {M : Mt} {S : Shp} {Q : Option Value → Mm → Prop} {pc : Nat} {lv : List (Nat × Value)} {st : List Value} {σ : Mm} {idx j : Nat} (hlink : Cond.fieldLink (my M).cls idx (TX11 2).1 (TX11 2).2.1 (TX11 2).2.2.1 ∈ wAll) (hd : decode (mb M) pc = .ok (.putfield idx, 3)) (kk : Z M S Q (pc + 3) lv st (setP σ 1 j)) : Z M S Q pc lv (.ref (sL S 1 j 0) :: .ref (sL S 0 0 0) :: st) σ := by
  intro p l e s m args below meth c C H locs ls hl hP hD hS
  obtain ⟨z, hz⟩ := ids_at (h := sH S) (t := 0) (i := 0) (k := 0) rfl
  have ha := wr_at hz σ
  refine va_put (ci := 10) (C := RX11) (T := TX11) (N := 16) (ty := .object "SkyStones$Told") C.1 C.2.1 C.2.2.2.2.1 (fun w h => List.mem_cons_of_mem _ (qi_11 w h)) tyX11 tyX11_ok nmX11 C.2.2.2.1 C.2.2.2.2.2.2.2.1 hP hD hS z ha rfl 2 (by decide) (C.2.2.2.2.1 _ (List.mem_cons_of_mem _ hlink)) (fun _ h => h) rfl (by decide +kernel) rfl rfl (Nat.le_of_ble_eq_true rfl) hd (fun H1 locs1 hP hD hS => ?_)
  have e1 := wr_setP1 (j := j) (σ := σ) hz
  exact kk p l e s m args below meth c C H1 locs1 ls hl (e1 ▸ hP) (e1 ▸ hD) hS
theorem z_putP2 {M : Mt} {S : Shp} {Q : Option Value → Mm → Prop} {pc : Nat} {lv : List (Nat × Value)} {st : List Value} {σ : Mm} {idx j : Nat} (hlink : Cond.fieldLink (my M).cls idx (TX5 3).1 (TX5 3).2.1 (TX5 3).2.2.1 ∈ wAll) (hd : decode (mb M) pc = .ok (.putfield idx, 3)) (kk : Z M S Q (pc + 3) lv st (setP σ 2 j)) : Z M S Q pc lv (.ref (sL S 1 j 0) :: .ref (sL S 0 0 12) :: st) σ := by
  intro p l e s m args below meth c C H locs ls hl hP hD hS
  obtain ⟨z, hz⟩ := ids_at (h := sH S) (t := 0) (i := 0) (k := 12) rfl
  have ha := wr_at hz σ
  refine va_put (ci := 4) (C := RX5) (T := TX5) (N := 9) (ty := .object "SkyStones$Told") C.1 C.2.1 C.2.2.2.2.1 (fun w h => List.mem_cons_of_mem _ (qi_5 w h)) tyX5 tyX5_ok nmX5 C.2.2.2.1 C.2.2.2.2.2.2.2.1 hP hD hS z ha rfl 3 (by decide) (C.2.2.2.2.1 _ (List.mem_cons_of_mem _ hlink)) (fun _ h => h) rfl (by decide +kernel) rfl rfl (Nat.le_of_ble_eq_true rfl) hd (fun H1 locs1 hP hD hS => ?_)
  have e1 := wr_setP2 (j := j) (σ := σ) hz
  exact kk p l e s m args below meth c C H1 locs1 ls hl (e1 ▸ hP) (e1 ▸ hD) hS
