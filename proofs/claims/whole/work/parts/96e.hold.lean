/-! hold: the one call that makes objects -/
section HOLDR
variable {own : String} {cc : ByteArray} {nL : Nat} {Ts : List Cond} {S : Shp} {p : Program} {l : Launch} {e : Env} {R : Room} {s : State} {m : MethodId} {args : Array Value} {below : List Frame} {meth : Method} {c : Code} {H H0 : Heap} {A : Nat → Prop} {locs : List Loc} {cells slots pc idx : Nat} {Q : State → Prop} {ls : Array Slot} {rest st : List Value} {σ : Mm}
theorem nz_get {C : String} {T : u_T} {N ci t i k f : Nat} {fs : List Value} {v : Value} (X : Cg own cc nL Ts S p s m args c) (hlv : lvq (sH S) t i k = true) (hc : cR S (mP σ) t i k (mA σ t i k) (mL σ t i k) = .inr (ci, fs)) (hcl : vwCl[ci]? = some (C, T, N)) (hin : ∀ w ∈ u_ws C T N, w ∈ wAll) (hf : f < N) (hlink : Cond.fieldLink own idx (T f).1 (T f).2.1 (T f).2.2.1 ∈ wAll) (hv : fs[f]? = some v) (hW : Wd S A H0 H locs (wr S σ)) (hd : decode cc pc = .ok (.getfield idx, 3))
    (kk : W p l e R s m args below meth c H locs cells slots Q (F0 m (pc + 3) ls (v :: rest))) : W p l e R s m args below meth c H locs cells slots Q (F0 m pc ls (.ref (sL S t i k) :: rest)) := by
  obtain ⟨z, hz⟩ := ids_at hlv
  have ha := wr_at hz σ
  rw [hc] at ha
  exact va_get X.1 X.2.1 X.2.2.2.2.1 (fun w h => X.2.2.2.2.2.1 w (hin w h)) X.2.2.2.1 X.2.2.2.2.2.2.1 hW.1 z ha hcl f hf (X.w hlink) (fun _ h => h) hv hd kk
theorem nz_heldT {x : Int32} (X : Cg own cc nL Ts S p s m args c) (hx : vp_in x 3) (hW : Wd S A H0 H locs (wr S σ)) (hd : decode cc pc = .ok (.aaload, 1)) (kk : W p l e R s m args below meth c H locs cells slots Q (F0 m (pc + 1) ls (va_rf (if sH S x.toNatClampNeg then some (sL S 1 (2 + x.toNatClampNeg) 0) else none) :: rest))) : W p l e R s m args below meth c H locs cells slots Q (F0 m pc ls (.int x :: .ref (sL S 0 0 1) :: rest)) := by
  obtain ⟨z, hz⟩ := ids_at (h := sH S) (t := 0) (i := 0) (k := 1) rfl
  have ha := wr_at hz σ
  exact va_aldq X.1 X.2.1 X.2.2.2.2.2.2.1 hW.1 z 4 ha rfl hx hd kk
theorem nz_heldS {x : Int32} (X : Cg own cc nL Ts S p s m args c) (hx : vp_in x 3) (hW : Wd S A H0 H locs (wr S σ)) (hd : decode cc pc = .ok (.aaload, 1)) (kk : W p l e R s m args below meth c H locs cells slots Q (F0 m (pc + 1) ls (va_rf (if sH S x.toNatClampNeg then some (sL S 2 (1 + x.toNatClampNeg) 0) else none) :: rest))) : W p l e R s m args below meth c H locs cells slots Q (F0 m pc ls (.int x :: .ref (sL S 0 0 2) :: rest)) := by
  obtain ⟨z, hz⟩ := ids_at (h := sH S) (t := 0) (i := 0) (k := 2) rfl
  have ha := wr_at hz σ
  exact va_aldq X.1 X.2.1 X.2.2.2.2.2.2.1 hW.1 z 5 ha rfl hx hd kk
end HOLDR
section HOLD
variable {S : Shp} {p : Program} {l : Launch} {e : Env} {s : State} {m : MethodId} {args : Array Value} {below : List Frame} {meth : Method} {c : Code} {H : Heap} {A : Nat → Prop} {locs : List Loc} {cells slots mc ms : Nat} {Q : State → Prop} {ls : Array Slot} {σ τ υ : Mm} {x : Int32}
set_option maxRecDepth 20000 in
theorem hold55 (X : Cg (my m_X11_hold).cls (mb m_X11_hold) (mn m_X11_hold) (wM m_X11_hold) S p s m args c) (hE : En S A s s.heap) (hA : ∀ q, s.heap.size ≤ q → A q) (hl : lv_has ls 2 [(0, .ref (sL S 0 0 0)), (1, .int x)]) (hx : inb x 3 = true) (hh : sH S x.toNatClampNeg = true) (hp : okP σ = true) (e1 : F_X9_copy (2 + x.toNatClampNeg) (mP σ 0) σ = some τ) (e2 : F_X7_copy (1 + x.toNatClampNeg) 0 τ = some υ) (hcs : cells ≤ mc ∧ slots ≤ ms) (W0 : Wd S A s.heap H locs (wr S σ))
    (kk : ∀ (H1 : Heap) (L1 : List Loc), Wd S A s.heap H1 L1 (wr S υ) → W p l e (rI m_X11_hold mc ms) s m args below meth c H1 L1 cells slots Q (F0 m 82 ls [.int 1])) : W p l e (rI m_X11_hold mc ms) s m args below meth c H locs cells slots Q (F0 m 55 ls []) := by
  refine lv_aload_n X.1 X.2.1 dX11_hold_55 rfl (lv_at hl 0 rfl) ?_
  refine nz_get (t := 0) (i := 0) (k := 0) (f := 5) X rfl rfl rfl qi_11 (by decide) qw_397 rfl W0 dX11_hold_56 ?_
  refine lv_iload_n X.1 X.2.1 dX11_hold_59 rfl (lv_at hl 1 rfl) ?_
  refine nz_heldT X (inb_in hx) W0 dX11_hold_60 ?_
  rw [if_pos hh]
  change W _ _ _ _ _ _ _ _ _ _ _ _ _ _ _ (F0 m _ ls [.ref (sL S 1 (2 + x.toNatClampNeg) 0)])
  refine lv_aload_n X.1 X.2.1 dX11_hold_61 rfl (lv_at hl 0 rfl) ?_
  refine nz_get (t := 0) (i := 0) (k := 0) (f := 1) X rfl rfl rfl qi_11 (by decide) qw_393 rfl W0 dX11_hold_62 ?_
  refine nw_callC (M' := m_X9_copy) (t := 1) (i := 2 + x.toNatClampNeg) (k := 0) (As := [.ref (sL S 1 (mP σ 0) 0)]) (rest := []) X hE hA kl_11_344 oy_X9_copy ⟨Nat.le_of_ble_eq_true rfl, Nat.le_of_ble_eq_true rfl⟩ hcs (lv1 (tl_held (inb_lt hx) hh) rfl) rfl rfl rfl (Nat.le_of_ble_eq_true rfl) rfl hl.1 W0 dX11_hold_65 (c_X9_copy (tl_held (inb_lt hx) hh) (okP_0 hp) e1) (fun v τ' H1 L1 hq W1 => ?_)
  obtain ⟨rfl, rfl⟩ := hq
  change W _ _ _ _ _ _ _ _ _ _ _ _ _ _ _ (F0 m _ ls [])
  refine lv_aload_n X.1 X.2.1 dX11_hold_68 rfl (lv_at hl 0 rfl) ?_
  refine nz_get (t := 0) (i := 0) (k := 0) (f := 6) X rfl rfl rfl qi_11 (by decide) qw_398 rfl W1 dX11_hold_69 ?_
  refine lv_iload_n X.1 X.2.1 dX11_hold_72 rfl (lv_at hl 1 rfl) ?_
  refine nz_heldS X (inb_in hx) W1 dX11_hold_73 ?_
  rw [if_pos hh]
  change W _ _ _ _ _ _ _ _ _ _ _ _ _ _ _ (F0 m _ ls [.ref (sL S 2 (1 + x.toNatClampNeg) 0)])
  refine lv_aload_n X.1 X.2.1 dX11_hold_74 rfl (lv_at hl 0 rfl) ?_
  refine nz_get (t := 0) (i := 0) (k := 0) (f := 4) X rfl rfl rfl qi_11 (by decide) qw_396 rfl W1 dX11_hold_75 ?_
  refine nw_callC (M' := m_X7_copy) (t := 2) (i := 1 + x.toNatClampNeg) (k := 0) (As := [.ref (sL S 2 0 0)]) (rest := []) X hE hA kl_11_347 oy_X7_copy ⟨Nat.le_of_ble_eq_true rfl, Nat.le_of_ble_eq_true rfl⟩ hcs (lv2 (sl_held (inb_lt hx) hh) rfl) rfl rfl rfl (Nat.le_of_ble_eq_true rfl) rfl hl.1 W1 dX11_hold_78 (c_X7_copy (sl_held (inb_lt hx) hh) rfl e2) (fun v τ' H2 L2 hq W2 => ?_)
  obtain ⟨rfl, rfl⟩ := hq
  change W _ _ _ _ _ _ _ _ _ _ _ _ _ _ _ (F0 m _ ls [])
  refine lv_iconst (v := 1) X.1 X.2.1 dX11_hold_81 (by decide) ?_
  exact kk H2 L2 W2
end HOLD
/-- the shape with one slot more -/
def S1of (S : Shp) (j q q' : Nat) (u : (Nat → Nat) × (Nat → Nat)) (u' : Nat → Nat) : Shp := (sE S, sD S, fun t => match t with
  | 1 => fun i k => if i = 2 + j then ([q, u.1 0, u.1 1, u.1 2, u.1 3, u.1 4, u.1 5, u.1 6, u.1 7, u.1 8, u.1 9, u.2 0, u.2 1, u.2 2, u.2 3, u.2 4] : List Nat).getD k 0 else sL S 1 i k
  | 2 => fun i k => if i = 1 + j then ([q', u' 0, u' 1, u' 2, u' 3, u' 4] : List Nat).getD k 0 else sL S 2 i k
  | t => sL S t, fun a => if a = j then true else sH S a, sK S, sV S, sB S)
theorem cR1_cong {S S1 : Shp} (hE : sE S1 = sE S) {i : Nat} (hL : ∀ k, sL S1 1 i k = sL S 1 i k) (P : Nat → Nat) (k : Nat) (r : Nat → Int32) (lr : Nat → Int64) : cR1 S1 P i k r lr = cR1 S P i k r lr := by
  unfold cR1
  split <;> simp only [hE, hL]
theorem cR2_cong {S S1 : Shp} (hE : sE S1 = sE S) {i : Nat} (hL : ∀ k, sL S1 2 i k = sL S 2 i k) (P : Nat → Nat) (k : Nat) (r : Nat → Int32) (lr : Nat → Int64) : cR2 S1 P i k r lr = cR2 S P i k r lr := by
  unfold cR2
  split <;> simp only [hE, hL]
theorem cR0_cong {S S1 : Shp} (hE : sE S1 = sE S) {i : Nat} (hL : ∀ k, sL S1 0 i k = sL S 0 i k) {P : Nat → Nat} (h0 : sL S1 1 (P 0) 0 = sL S 1 (P 0) 0) (h1 : sL S1 1 (P 1) 0 = sL S 1 (P 1) 0) (h2 : sL S1 1 (P 2) 0 = sL S 1 (P 2) 0) (hs : sL S1 2 0 0 = sL S 2 0 0) {k : Nat} (k1 : k ≠ 1) (k2 : k ≠ 2) (r : Nat → Int32) (lr : Nat → Int64) : cR0 S1 P i k r lr = cR0 S P i k r lr := by
  unfold cR0
  split
  all_goals first
    | exact absurd rfl k1
    | exact absurd rfl k2
    | (simp only [hE, hL, h0, h1, h2, hs]; done)
def tG (j : Nat) : List (Nat × Nat × Nat) := (List.range 16).map (fun k => (1, 2 + j, k))
def sG (j : Nat) : List (Nat × Nat × Nat) := (List.range 6).map (fun k => (2, 1 + j, k))
theorem ids_iff {h : Nat → Bool} {t i k : Nat} : (t, i, k) ∈ ids h ↔ lvq h t i k = true := ⟨fun z => (List.mem_filter.mp z).2, ids_mem⟩
theorem ids_more {h : Nat → Bool} {j : Nat} (hj : j < 3) (h0 : h j = false) : (ids (fun a => if a = j then true else h a)).Perm ((ids h ++ tG j) ++ sG j) := by
  have nT : (tG j).Nodup := by
    unfold tG
    exact List.Pairwise.map _ (fun a b hab z => hab (by cases z; rfl)) List.nodup_range
  have nS : (sG j).Nodup := by
    unfold sG
    exact List.Pairwise.map _ (fun a b hab z => hab (by cases z; rfl)) List.nodup_range
  have mT : ∀ t i k, (t, i, k) ∈ tG j ↔ t = 1 ∧ i = 2 + j ∧ k < 16 := by
    intro t i k
    unfold tG
    rw [List.mem_map]
    constructor
    · rintro ⟨a, ha, z⟩
      cases z
      exact ⟨rfl, rfl, List.mem_range.mp ha⟩
    · rintro ⟨rfl, rfl, hk⟩
      exact ⟨k, List.mem_range.mpr hk, rfl⟩
  have mS : ∀ t i k, (t, i, k) ∈ sG j ↔ t = 2 ∧ i = 1 + j ∧ k < 6 := by
    intro t i k
    unfold sG
    rw [List.mem_map]
    constructor
    · rintro ⟨a, ha, z⟩
      cases z
      exact ⟨rfl, rfl, List.mem_range.mp ha⟩
    · rintro ⟨rfl, rfl, hk⟩
      exact ⟨k, List.mem_range.mpr hk, rfl⟩
  have oT : ∀ z ∈ ids h, z ∉ tG j := by
    rintro ⟨t, i, k⟩ h1 h2
    obtain ⟨rfl, rfl, hk⟩ := (mT t i k).mp h2
    have := ids_iff.mp h1
    simp only [lvq, Bool.and_eq_true, Bool.or_eq_true, Nat.blt_eq] at this
    rcases this.1 with z | z
    · omega
    · rw [show 2 + j - 2 = j by omega, h0] at z
      exact absurd z.2 (by decide)
  have oS : ∀ z ∈ ids h, z ∉ sG j := by
    rintro ⟨t, i, k⟩ h1 h2
    obtain ⟨rfl, rfl, hk⟩ := (mS t i k).mp h2
    have := ids_iff.mp h1
    simp only [lvq, Bool.and_eq_true, Bool.or_eq_true, Nat.blt_eq] at this
    rcases this.1 with z | z
    · have := Nat.eq_of_beq_eq_true z
      omega
    · rw [show 1 + j - 1 = j by omega, h0] at z
      exact absurd z.2 (by decide)
  refine (List.perm_ext_iff_of_nodup (ids_nd _) ?_).mpr ?_
  · rw [List.nodup_append, List.nodup_append]
    refine ⟨⟨ids_nd _, nT, fun a ha b hb e => oT a ha (by rw [e]; exact hb)⟩, nS, fun a ha b hb e => ?_⟩
    subst e
    rcases List.mem_append.mp ha with z | z
    · exact oS a z hb
    · obtain ⟨t, i, k⟩ := a
      have h1 := ((mT t i k).mp z).1
      have h2 := ((mS t i k).mp hb).1
      omega
  · rintro ⟨t, i, k⟩
    rw [List.mem_append, List.mem_append, ids_iff, ids_iff, mT, mS]
    match t with
    | 0 => simp [lvq]
    | 1 =>
      simp only [lvq, Bool.and_eq_true, Bool.or_eq_true, Nat.blt_eq]
      by_cases hi : i = 2 + j
      · subst hi
        rw [show 2 + j - 2 = j by omega, if_pos rfl, h0]
        simp
        omega
      · by_cases h2 : i < 2
        · simp [h2, hi]
        · rw [if_neg (show ¬ i - 2 = j by omega)]
          simp [hi]
    | 2 =>
      simp only [lvq, Bool.and_eq_true, Bool.or_eq_true, Nat.blt_eq]
      by_cases hi : i = 1 + j
      · subst hi
        rw [show 1 + j - 1 = j by omega, if_pos rfl, h0]
        simp
        omega
      · by_cases h2 : i = 0
        · subst h2; simp
        · rw [if_neg (show ¬ i - 1 = j by omega)]
          simp [hi]
    | 3 => simp [lvq]
    | t + 4 => simp [lvq]
theorem map_set_nd {α β : Type} [DecidableEq α] {l : List α} (nd : l.Nodup) {p : Nat} {a : α} (hp : l[p]? = some a) (f : α → β) (b : β) : (l.map f).set p b = l.map (fun z => if z = a then b else f z) := by
  apply List.ext_getElem?
  intro n
  by_cases hn : n = p
  · subst hn
    rw [List.getElem?_set_self (by rw [List.length_map]; exact (List.getElem?_eq_some_iff.mp hp).1), List.getElem?_map, hp]
    simp
  · rw [List.getElem?_set_ne (Ne.symm hn), List.getElem?_map, List.getElem?_map]
    cases hq : l[n]? with
    | none => rfl
    | some q =>
      have hne : q ≠ a := by
        intro z
        subst z
        exact hn ((List.getElem?_inj (List.getElem?_eq_some_iff.mp hq).1 nd).mp (hq.trans hp.symm))
      simp only [Option.map_some]
      rw [if_neg hne]
theorem nw_ast {own : String} {cc : ByteArray} {nL : Nat} {Ts : List Cond} {S : Shp} {p : Program} {l : Launch} {e : Env} {R : Room} {s : State} {m : MethodId} {args : Array Value} {below : List Frame} {meth : Method} {c : Code} {H H0 : Heap} {A : Nat → Prop} {locs : List Loc} {cells slots pc : Nat} {Q : State → Prop} {ls : Array Slot} {rest : List Value} {L : List (Nat × Nat × Nat)} {g : Nat × Nat × Nat → Nat × va_E} {cs1 cs2 cs3 : va_W} {t0 ci z a v n : Nat} {z0 : Nat × Nat × Nat} {cA : ClassId} {f : Nat → Option Nat} {r : vw_C} {vs : List Value} {x : Int32}
    (X : Cg own cc nL Ts S p s m args c) (nd : L.Nodup) (hz : L[z]? = some z0) (hg : g z0 = (a, .inl (cA, n, .inr (.inr (.inr (.inr f)))))) (ht : (sT S)[t0]? = some (cA, .object r.1)) (hcs : cs2 = (v, .inr (ci, vs)) :: cs3) (hc : vwCl[ci]? = some r) (hx : vp_in x n) (hW : Wd S A H0 H locs ((L.map g ++ cs1) ++ cs2)) (hd : decode cc pc = .ok (.aastore, 1))
    (kk : ∀ (H1 : Heap) (locs1 : List Loc), Wd S A H0 H1 locs1 ((L.map (fun y => if y = z0 then (a, .inl (cA, n, .inr (.inr (.inr (.inr (va_up f x.toNatClampNeg (some v))))))) else g y) ++ cs1) ++ cs2) → W p l e R s m args below meth c H1 locs1 cells slots Q (F0 m (pc + 1) ls rest)) : W p l e R s m args below meth c H locs cells slots Q (F0 m pc ls (.ref v :: .int x :: .ref a :: rest)) := by
  have hzl : z < L.length := (List.getElem?_eq_some_iff.mp hz).1
  have hzm : z < (L.map g).length := by rw [List.length_map]; exact hzl
  have hzm1 : z < (L.map g ++ cs1).length := by rw [List.length_append]; omega
  have ha : ((L.map g ++ cs1) ++ cs2)[z]? = some (a, .inl (cA, n, .inr (.inr (.inr (.inr f))))) := by
    rw [List.getElem?_append_left hzm1, List.getElem?_append_left hzm, List.getElem?_map, hz, ← hg]; rfl
  have hv : ((L.map g ++ cs1) ++ cs2)[(L.map g ++ cs1).length]? = some (v, .inr (ci, vs)) := by
    rw [List.getElem?_append_right (Nat.le_refl _), Nat.sub_self, hcs]; rfl
  refine va_astq X.1 X.2.1 X.2.2.2.2.2.2.1 hW.1 hW.2.1 hW.2.2 z t0 _ ci ha ht hv hc hx hd (fun H1 L1 h1 h2 h3 => kk H1 L1 ?_)
  rw [List.set_append_left _ _ hzm1, List.set_append_left _ _ hzm, map_set_nd nd hz] at h1 h2
  exact ⟨h1, h2, h3⟩
theorem iniT_o {σ : Mm} {i t i' k : Nat} (h : ¬ (t = 1 ∧ i' = i)) : mA (iniT σ i) t i' k = mA σ t i' k := by
  unfold iniT
  simp only [mA]
  rw [if_neg h]
theorem iniS_o {σ : Mm} {i t i' k : Nat} (h : ¬ (t = 2 ∧ i' = i)) : mA (iniS σ i) t i' k = mA σ t i' k := by
  unfold iniS
  simp only [mA]
  rw [if_neg h]
theorem inb3 {x : Int32} (h0 : ¬ x < 0) (h3 : ¬ (3 : Int32) ≤ x) : inb x 3 = true := by grind [gI, gB, gC]
set_option maxHeartbeats 2000000 in
/-- the world behind the two new objects is the world of one slot more -/
theorem hold_perm {S : Shp} {σ : Mm} {j q q' : Nat} {u : (Nat → Nat) × (Nat → Nat)} {u' : Nat → Nat} (hj : j < 3) (h0 : sH S j = false) (hp : okP σ = true) :
    (wr (S1of S j q q' u u') (iniS (iniT σ (2 + j)) (1 + j))).Perm (((ids (sH S)).map (fun y => if y = (0, 0, 2) then (sL S 0 0 2, .inl (sE S 5, 3, .inr (.inr (.inr (.inr (va_up (fun a => if sH S a then some (sL S 2 (1 + a) 0) else none) j (some q'))))))) else if y = (0, 0, 1) then (sL S 0 0 1, .inl (sE S 4, 3, .inr (.inr (.inr (.inr (va_up (fun a => if sH S a then some (sL S 1 (2 + a) 0) else none) j (some q))))))) else cl S σ y) ++ CSX9 S q u) ++ CSX7 S q' u') := by
  have hp0 : mP σ 0 < 2 ∧ mP σ 1 < 2 ∧ mP σ 2 < 2 := by
    simp only [okP, Bool.and_eq_true, Nat.blt_eq] at hp
    exact ⟨hp.1, hp.2.1, hp.2.2⟩
  have e1 : (tG j).map (cl (S1of S j q q' u u') (iniS (iniT σ (2 + j)) (1 + j))) = CSX9 S q u := by
    match j, hj with
    | 0, _ => rfl
    | 1, _ => rfl
    | 2, _ => rfl
  have e2 : (sG j).map (cl (S1of S j q q' u u') (iniS (iniT σ (2 + j)) (1 + j))) = CSX7 S q' u' := by
    match j, hj with
    | 0, _ => rfl
    | 1, _ => rfl
    | 2, _ => rfl
  unfold wr
  refine ((ids_more hj h0).map _).trans ?_
  rw [List.map_append, List.map_append, e1, e2]
  refine List.Perm.append_right _ (List.Perm.append_right _ (List.Perm.of_eq (List.map_congr_left (fun z hz => ?_))))
  obtain ⟨t, i, k⟩ := z
  have hlv := ids_iff.mp hz
  (try dsimp only)
  match t, hlv with
  | 0, hlv =>
    have hi : i = 0 := by
      simp only [lvq, Bool.and_eq_true] at hlv
      exact Nat.eq_of_beq_eq_true hlv.1
    subst hi
    by_cases k1 : k = 1
    · subst k1
      rw [if_neg (by decide), if_pos rfl]
      show (sL S 0 0 1, (Sum.inl (sE S 4, 3, .inr (.inr (.inr (.inr (fun a => if (if a = j then true else sH S a) = true then some (if 2 + a = 2 + j then _ else sL S 1 (2 + a) 0) else none))))) : va_E)) = _
      refine congrArg (fun f => (sL S 0 0 1, (Sum.inl (sE S 4, 3, .inr (.inr (.inr (.inr f)))) : va_E))) (funext fun a => ?_)
      unfold va_up
      by_cases ha : a = j
      · subst ha; simp
      · rw [if_neg ha, if_neg ha, if_neg (show ¬ 2 + a = 2 + j by omega)]
    · by_cases k2 : k = 2
      · subst k2
        rw [if_pos rfl]
        show (sL S 0 0 2, (Sum.inl (sE S 5, 3, .inr (.inr (.inr (.inr (fun a => if (if a = j then true else sH S a) = true then some (if 1 + a = 1 + j then _ else sL S 2 (1 + a) 0) else none))))) : va_E)) = _
        refine congrArg (fun f => (sL S 0 0 2, (Sum.inl (sE S 5, 3, .inr (.inr (.inr (.inr f)))) : va_E))) (funext fun a => ?_)
        unfold va_up
        by_cases ha : a = j
        · subst ha; simp
        · rw [if_neg ha, if_neg ha, if_neg (show ¬ 1 + a = 1 + j by omega)]
      · rw [if_neg (by simp [k2]), if_neg (by simp [k1])]
        have m0 : mA (iniS (iniT σ (2 + j)) (1 + j)) 0 0 k = mA σ 0 0 k := rfl
        show (sL S 0 0 k, cR0 (S1of S j q q' u u') (mP σ) 0 k (mA (iniS (iniT σ (2 + j)) (1 + j)) 0 0 k) (mL σ 0 0 k)) = (sL S 0 0 k, cR0 S (mP σ) 0 k (mA σ 0 0 k) (mL σ 0 0 k))
        rw [m0, cR0_cong (S := S) (S1 := S1of S j q q' u u') rfl (fun _ => rfl) (if_neg (by omega)) (if_neg (by omega)) (if_neg (by omega)) (if_neg (by omega)) k1 k2]
  | 1, hlv =>
    have hi : ¬ i = 2 + j := by
      intro z
      subst z
      simp only [lvq, Bool.and_eq_true, Bool.or_eq_true, Nat.blt_eq] at hlv
      rcases hlv.1 with z | z
      · omega
      · rw [show 2 + j - 2 = j by omega, h0] at z
        exact absurd z.2 (by decide)
    have hL : ∀ k, sL (S1of S j q q' u u') 1 i k = sL S 1 i k := fun k => if_neg hi
    have m0 : mA (iniS (iniT σ (2 + j)) (1 + j)) 1 i k = mA σ 1 i k := (iniS_o (fun z => absurd z.1 (by decide))).trans (iniT_o (fun z => hi z.2))
    rw [if_neg (by simp), if_neg (by simp)]
    show (sL (S1of S j q q' u u') 1 i k, cR1 (S1of S j q q' u u') (mP σ) i k (mA (iniS (iniT σ (2 + j)) (1 + j)) 1 i k) (mL σ 1 i k)) = (sL S 1 i k, cR1 S (mP σ) i k (mA σ 1 i k) (mL σ 1 i k))
    rw [m0, cR1_cong (S := S) (S1 := S1of S j q q' u u') rfl hL, hL]
  | 2, hlv =>
    have hi : ¬ i = 1 + j := by
      intro z
      subst z
      simp only [lvq, Bool.and_eq_true, Bool.or_eq_true, Nat.blt_eq] at hlv
      rcases hlv.1 with z | z
      · have := Nat.eq_of_beq_eq_true z
        omega
      · rw [show 1 + j - 1 = j by omega, h0] at z
        exact absurd z.2 (by decide)
    have hL : ∀ k, sL (S1of S j q q' u u') 2 i k = sL S 2 i k := fun k => if_neg hi
    have m0 : mA (iniS (iniT σ (2 + j)) (1 + j)) 2 i k = mA σ 2 i k := (iniS_o (fun z => hi z.2)).trans (iniT_o (fun z => absurd z.1 (by decide)))
    rw [if_neg (by simp), if_neg (by simp)]
    show (sL (S1of S j q q' u u') 2 i k, cR2 (S1of S j q q' u u') (mP σ) i k (mA (iniS (iniT σ (2 + j)) (1 + j)) 2 i k) (mL σ 2 i k)) = (sL S 2 i k, cR2 S (mP σ) i k (mA σ 2 i k) (mL σ 2 i k))
    rw [m0, cR2_cong (S := S) (S1 := S1of S j q q' u u') rfl hL, hL]
  | 3, hlv =>
    rw [if_neg (by simp), if_neg (by simp)]
    rfl
  | t + 4, hlv => exact absurd hlv (by simp [lvq])
