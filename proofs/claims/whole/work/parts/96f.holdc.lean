/-! hold, its contract -/
def Hq (S : Shp) (sz : Nat) (r : Int32) (h1 : Nat → Bool) (σ1 : Mm) : Array Value → State → Outcome → State → Prop := fun _ st oc t =>
  (∃ L1 : Nat → Nat → Nat → Nat, oc = .returned (some (.int r)) ∧ L1 0 0 0 = sL S 0 0 0 ∧ L1 3 0 0 = sL S 3 0 0 ∧ va_P (sD S) vwCl (wr (sE S, sD S, L1, h1, sK S, sV S, sB S) σ1) t.heap ∧ va_D (Ad S sz) (wr (sE S, sD S, L1, h1, sK S, sV S, sB S) σ1)) ∧ va_F (Ad S sz) st t
section HOLDC
variable {S : Shp} {p : Program} {l : Launch} {e : Env} {s : State} {m : MethodId} {args : Array Value} {below : List Frame} {meth : Method} {c : Code} {H : Heap} {A : Nat → Prop} {locs : List Loc} {mc ms : Nat} {Q : State → Prop} {ls : Array Slot} {σ : Mm} {x : Int32}
set_option maxRecDepth 20000 in
set_option maxHeartbeats 2000000 in
/-- the two new objects -/
theorem hold29 (X : Cg (my m_X11_hold).cls (mb m_X11_hold) (mn m_X11_hold) (wM m_X11_hold) S p s m args c) (hA : ∀ q, s.heap.size ≤ q → A q) (hl : lv_has ls 2 [(0, .ref (sL S 0 0 0)), (1, .int x)]) (hx : inb x 3 = true) (hh : sH S x.toNatClampNeg = false) (hp : okP σ = true) (hcs : 22 ≤ mc ∧ 1287 ≤ ms) (W0 : Wd S A s.heap H locs (wr S σ))
    (kk : ∀ (q q' : Nat) (u : (Nat → Nat) × (Nat → Nat)) (u' : Nat → Nat) (H1 : Heap) (L1 : List Loc), Wd S A s.heap H1 L1 (wr (S1of S x.toNatClampNeg q q' u u') (iniS (iniT σ (2 + x.toNatClampNeg)) (1 + x.toNatClampNeg))) → W p l e (rI m_X11_hold mc ms) s m args below meth c H1 L1 22 1287 Q (F0 m 55 ls [])) : W p l e (rI m_X11_hold mc ms) s m args below meth c H locs 0 0 Q (F0 m 29 ls []) := by
  have c1 : ∀ n : Nat, n ≤ 22 → n ≤ mc := fun n h => Nat.le_trans h hcs.1
  have s1 : ∀ n : Nat, n ≤ 1287 → n ≤ ms := fun n h => Nat.le_trans h hcs.2
  obtain ⟨z0, hz0⟩ := ids_at (h := sH S) (t := 0) (i := 0) (k := 0) rfl
  obtain ⟨z1, hz1⟩ := ids_at (h := sH S) (t := 0) (i := 0) (k := 1) rfl
  obtain ⟨z2, hz2⟩ := ids_at (h := sH S) (t := 0) (i := 0) (k := 2) rfl
  refine lv_aload_n X.1 X.2.1 dX11_hold_29 rfl (lv_at hl 0 rfl) ?_
  refine nz_get (t := 0) (i := 0) (k := 0) (f := 5) X rfl rfl rfl qi_11 (by decide) qw_397 rfl W0 dX11_hold_30 ?_
  refine lv_iload_n X.1 X.2.1 dX11_hold_33 rfl (lv_at hl 1 rfl) ?_
  refine nw_new (ci := 8) (fs := zsX9) X hA qi_9 tyX9_ok qc_65 qc_66 qw_3 rfl zsX9_ok (c1 _ (Nat.le_of_ble_eq_true rfl)) (s1 _ (Nat.le_of_ble_eq_true rfl)) W0 dX11_hold_34 (fun q H1 W1 => ?_)
  refine lv_dup X.1 X.2.1 dX11_hold_37 rfl ?_
  refine nw_callN (As := []) (rest := [.ref q, .int x, .ref (sL S 0 0 1)]) X hA ci_X9 (List.mem_of_getElem? (i := 1) rfl) qc_68 qw_3 qc_69 oy_X9_init rfl ⟨Nat.le_of_ble_eq_true rfl, Nat.le_of_ble_eq_true rfl⟩ ⟨c1 _ (Nat.le_of_ble_eq_true rfl), s1 _ (Nat.le_of_ble_eq_true rfl)⟩ rfl (Nat.le_of_ble_eq_true rfl) rfl hl.1 W1 dX11_hold_38 (fun u H2 L2 W2 => ?_)
  have W2 : Wd S A s.heap H2 L2 (((ids (sH S)).map (cl S σ) ++ []) ++ CSX9 S q u) := by rw [List.append_nil]; exact W2
  refine nw_ast (n := 3) (t0 := 4) (r := (RX9, TX9, 16)) X (ids_nd _) hz1 rfl rfl rfl rfl (inb_in hx) W2 dX11_hold_41 (fun H3 L3 W3 => ?_)
  rw [List.append_nil] at W3
  generalize hg : (fun y : Nat × Nat × Nat => if y = (0, 0, 1) then _ else cl S σ y) = g1 at W3
  have g0 : g1 (0, 0, 0) = cl S σ (0, 0, 0) := by rw [← hg]; exact if_neg (by decide)
  have g2 : g1 (0, 0, 2) = cl S σ (0, 0, 2) := by rw [← hg]; exact if_neg (by decide)
  have a0 : ((ids (sH S)).map g1 ++ CSX9 S q u)[z0]? = some (cl S σ (0, 0, 0)) := by
    rw [List.getElem?_append_left (by rw [List.length_map]; exact (List.getElem?_eq_some_iff.mp hz0).1), List.getElem?_map, hz0, ← g0]; rfl
  refine lv_aload_n X.1 X.2.1 dX11_hold_42 rfl (lv_at hl 0 rfl) ?_
  refine va_get X.1 X.2.1 X.2.2.2.2.1 (C := RX11) (T := TX11) (N := 16) (ci := 10) (fun w h => X.2.2.2.2.2.1 w (qi_11 w h)) X.2.2.2.1 X.2.2.2.2.2.2.1 W3.1 z0 a0 rfl 6 (by decide) (X.w qw_398) (fun _ h => h) rfl dX11_hold_43 ?_
  refine lv_iload_n X.1 X.2.1 dX11_hold_46 rfl (lv_at hl 1 rfl) ?_
  refine nw_new (ci := 6) (fs := zsX7) X hA qi_7 tyX7_ok qc_217 qc_218 qw_6 rfl zsX7_ok (c1 _ (Nat.le_of_ble_eq_true rfl)) (s1 _ (Nat.le_of_ble_eq_true rfl)) W3 dX11_hold_47 (fun q' H4 W4 => ?_)
  refine lv_dup X.1 X.2.1 dX11_hold_50 rfl ?_
  refine nw_callN (As := []) (rest := [.ref q', .int x, .ref (sL S 0 0 2)]) X hA ci_X7 (List.mem_of_getElem? (i := 3) rfl) qc_220 qw_6 qc_221 oy_X7_init rfl ⟨Nat.le_of_ble_eq_true rfl, Nat.le_of_ble_eq_true rfl⟩ ⟨c1 _ (Nat.le_of_ble_eq_true rfl), s1 _ (Nat.le_of_ble_eq_true rfl)⟩ rfl (Nat.le_of_ble_eq_true rfl) rfl hl.1 W4 dX11_hold_51 (fun u' H5 L5 W5 => ?_)
  refine nw_ast (n := 3) (t0 := 5) (r := (RX7, TX7, 7)) X (ids_nd _) hz2 g2 rfl rfl rfl (inb_in hx) W5 dX11_hold_54 (fun H6 L6 W6 => ?_)
  subst hg
  refine W.widen (k := 22) (n := 1287) (Nat.le_of_ble_eq_true rfl) (Nat.le_of_ble_eq_true rfl) (kk q q' u u' H6 L6 (W6.perm (hold_perm (inb_lt hx) hh hp).symm))
end HOLDC
set_option maxRecDepth 20000 in
set_option maxHeartbeats 2000000 in
theorem c_hold {S : Shp} {σ σ1 : Mm} {x r : Int32} {h1 : Nat → Bool} {mc ms : Nat} (hF : F_hold (sH S) x σ = some (r, h1, σ1)) (hcs : x < 0 ∨ (3 : Int32) ≤ x ∨ sH S x.toNatClampNeg = true ∨ (22 ≤ mc ∧ 1287 ≤ ms)) (l : Launch) (sz : Nat) :
    Met l (my m_X11_hold) (wM m_X11_hold) (rI m_X11_hold mc ms) (va_Pc [.ref (sL S 0 0 0), .int x] (fun Y => Y.heap.size = sz ∧ va_P (sD S) vwCl (wr S σ) Y.heap ∧ va_K (sD S) vwCl (sT S) Y ∧ va_D (fun _ => True) (wr S σ) ∧ Nn Y ∧ En S (Ad S sz) Y Y.heap)) (Hq S sz r h1 σ1) mc ms (Ad S sz) := by
  refine Met.ofWF (cc := mb m_X11_hold) (maxL := 2) (ret := some .boolean) (by decide +kernel) rfl ?_
  intro p e s m args below meth c s₁ Bd hml hv
  obtain ⟨rfl, hsz, hP, hK, hD0, hN, hE⟩ := hv
  subst hsz
  have hl := lv_entry [.ref (sL S 0 0 0), .int x] (n := 2) (Nat.le_of_ble_eq_true rfl)
  rw [lg_entry_eq]
  generalize (lg_sl [Value.ref (sL S 0 0 0), Value.int x] ++ List.replicate (2 - (lg_sl [Value.ref (sL S 0 0 0), Value.int x]).length) Slot.unset).toArray = ls at hl ⊢
  have hl : lv_has ls 2 [(0, .ref (sL S 0 0 0)), (1, .int x)] := hl
  have X : Cg (my m_X11_hold).cls (mb m_X11_hold) (mn m_X11_hold) (wM m_X11_hold) S p s m _ c := ⟨Bd.exec, Bd.bytes, hml, findClass_of_methodNamed Bd.named, atoms_spec (ws := wM m_X11_hold) Bd.pre, fun w hw => List.mem_cons_of_mem _ hw, hK, hN⟩
  have hA : ∀ q, s.heap.size ≤ q → Ad S s.heap.size q := fun q h => Or.inr h
  have W0 : Wd S (Ad S s.heap.size) s.heap s.heap [] (wr S σ) := ⟨hP, ⟨hD0.1, fun k q hk => wr_Ad hk⟩, va_S.rf⟩
  unfold F_hold at hF
  refine lv_iload_n X.1 X.2.1 dX11_hold_0 rfl (lv_at hl 1 rfl) ?_
  refine lv_if_lt (tgt := 9) X.1 X.2.1 dX11_hold_1 (by decide) (fun q => ?_) (fun q => ?_)
  · have hF := (if_pos q).symm.trans hF
    cases hF
    refine lv_iconst (v := 0) X.1 X.2.1 dX11_hold_9 (by decide) ?_
    exact W.widen (Nat.zero_le _) (Nat.zero_le _) (W.zret X.1 X.2.1 Bd.returns rfl (fun t ht _ => ⟨⟨sL S, rfl, rfl, rfl, by rw [ht]; exact W0.1, W0.2.1⟩, W0.2.2.F ht⟩) W0.2.2.2.2 dX11_hold_10 Bd.notSynchronized)
  · have hF := (if_neg q).symm.trans hF
    refine lv_iload_n X.1 X.2.1 dX11_hold_4 rfl (lv_at hl 1 rfl) ?_
    refine lv_iconst (v := 3) X.1 X.2.1 dX11_hold_5 (by decide) ?_
    refine lv_icmp_lt (tgt := 11) X.1 X.2.1 dX11_hold_6 (by decide) (fun q3 => ?_) (fun q3 => ?_)
    · have n3 : ¬ (3 : Int32) ≤ x := by clear hF hcs; grind
      have hF := (if_neg n3).symm.trans hF
      have hx := inb3 q n3
      refine lv_aload_n X.1 X.2.1 dX11_hold_11 rfl (lv_at hl 0 rfl) ?_
      refine nz_get (t := 0) (i := 0) (k := 0) (f := 5) X rfl rfl rfl qi_11 (by decide) qw_397 rfl W0 dX11_hold_12 ?_
      refine lv_iload_n X.1 X.2.1 dX11_hold_15 rfl (lv_at hl 1 rfl) ?_
      refine nz_heldT X (inb_in hx) W0 dX11_hold_16 ?_
      by_cases hh : sH S x.toNatClampNeg = true
      · rw [if_pos hh] at hF
        dsimp only at hF
        obtain ⟨hp, hF⟩ := gd hF
        obtain ⟨τ, e1, hF⟩ := bnv_e hF
        obtain ⟨υ, e2, hF⟩ := bnv_e hF
        cases hF
        have hh1 : (fun a => if a = x.toNatClampNeg then true else sH S a) = sH S := funext fun a => by
          by_cases ha : a = x.toNatClampNeg
          · rw [if_pos ha, ha, hh]
          · rw [if_neg ha]
        rw [if_pos hh]
        change W _ _ _ _ _ _ _ _ _ _ _ _ _ _ _ (F0 m _ ls [.ref (sL S 1 (2 + x.toNatClampNeg) 0)])
        refine lv_ifnull X.1 X.2.1 dX11_hold_17 ?_
        refine lv_aload_n X.1 X.2.1 dX11_hold_20 rfl (lv_at hl 0 rfl) ?_
        refine nz_get (t := 0) (i := 0) (k := 0) (f := 6) X rfl rfl rfl qi_11 (by decide) qw_398 rfl W0 dX11_hold_21 ?_
        refine lv_iload_n X.1 X.2.1 dX11_hold_24 rfl (lv_at hl 1 rfl) ?_
        refine nz_heldS X (inb_in hx) W0 dX11_hold_25 ?_
        rw [if_pos hh]
        change W _ _ _ _ _ _ _ _ _ _ _ _ _ _ _ (F0 m _ ls [.ref (sL S 2 (1 + x.toNatClampNeg) 0)])
        refine lv_ifnonnull (tgt := 55) X.1 X.2.1 dX11_hold_26 (by decide) ?_
        refine hold55 X hE hA hl hx hh hp e1 e2 ⟨Nat.zero_le _, Nat.zero_le _⟩ W0 (fun H1 L1 W1 => ?_)
        refine W.widen (Nat.zero_le _) (Nat.zero_le _) (W.zret X.1 X.2.1 Bd.returns rfl (fun t ht _ => ⟨⟨sL S, rfl, rfl, rfl, ?_, ?_⟩, W1.2.2.F ht⟩) W1.2.2.2.2 dX11_hold_82 Bd.notSynchronized)
        · rw [ht, hh1]; exact W1.1
        · rw [hh1]; exact W1.2.1
      · have hc : 22 ≤ mc ∧ 1287 ≤ ms := by
          rcases hcs with z | z | z | z
          · exact absurd z q
          · exact absurd z n3
          · exact absurd z hh
          · exact z
        rw [if_neg hh] at hF
        dsimp only at hF
        obtain ⟨hp, hF⟩ := gd hF
        have hp0 : okP σ = true := hp
        obtain ⟨τ, e1, hF⟩ := bnv_e hF
        obtain ⟨υ, e2, hF⟩ := bnv_e hF
        cases hF
        rw [if_neg hh]
        change W _ _ _ _ _ _ _ _ _ _ _ _ _ _ _ (F0 m _ ls [.null])
        refine lv_ifnullN (tgt := 29) X.1 X.2.1 dX11_hold_17 (by decide) ?_
        refine hold29 X hA hl hx (by simpa using hh) hp0 hc W0 (fun a a' u u' H1 L1 W1 => ?_)
        have X1 : Cg (my m_X11_hold).cls (mb m_X11_hold) (mn m_X11_hold) (wM m_X11_hold) (S1of S x.toNatClampNeg a a' u u') p s m _ c := X
        have hE1 : En (S1of S x.toNatClampNeg a a' u u') (Ad S s.heap.size) s s.heap := hE
        refine hold55 X1 hE1 hA hl hx (if_pos rfl) hp e1 e2 hc W1 (fun H2 L2 W2 => ?_)
        exact W.widen hc.1 hc.2 (W.zret X.1 X.2.1 Bd.returns rfl (fun t ht _ => ⟨⟨sL (S1of S x.toNatClampNeg a a' u u'), rfl, rfl, rfl, by rw [ht]; exact W2.1, W2.2.1⟩, W2.2.2.F ht⟩) W2.2.2.2.2 dX11_hold_82 Bd.notSynchronized)
    · have y3 : (3 : Int32) ≤ x := by clear hF hcs; grind
      have hF := (if_pos y3).symm.trans hF
      cases hF
      refine lv_iconst (v := 0) X.1 X.2.1 dX11_hold_9 (by decide) ?_
      exact W.widen (Nat.zero_le _) (Nat.zero_le _) (W.zret X.1 X.2.1 Bd.returns rfl (fun t ht _ => ⟨⟨sL S, rfl, rfl, rfl, by rw [ht]; exact W0.1, W0.2.1⟩, W0.2.2.F ht⟩) W0.2.2.2.2 dX11_hold_10 Bd.notSynchronized)
