/-! hold in the law -/
theorem qh_1092 : (Jvm.Cond.methodLink "SkyStonesLaw" (190 : Nat) ({ cls := "SkyStones", name := "hold", desc := "(I)Z" } : Jvm.MethodName) : Cond) ∈ wAll := wAll_of (List.mem_append_right _ (List.mem_of_getElem? (i := 1092) (by decide +kernel))) (by decide +kernel)
theorem qh_1093 : (Jvm.Cond.instanceMethod ({ cls := "SkyStones", name := "hold", desc := "(I)Z" } : Jvm.MethodName) : Cond) ∈ wAll := wAll_of (List.mem_append_right _ (List.mem_of_getElem? (i := 1093) (by decide +kernel))) (by decide +kernel)
theorem qh_1094 : (Jvm.Cond.selects "SkyStones" ({ cls := "SkyStones", name := "hold", desc := "(I)Z" } : Jvm.MethodName) ({ cls := "SkyStones", name := "hold", desc := "(I)Z" } : Jvm.MethodName) : Cond) ∈ wAll := wAll_of (List.mem_append_right _ (List.mem_of_getElem? (i := 1094) (by decide +kernel))) (by decide +kernel)
theorem qh_1546 : (Jvm.Cond.methodLink "SkyStonesLaw" (194 : Nat) ({ cls := "SkyStonesModel", name := "hold", desc := "(I)Z" } : Jvm.MethodName) : Cond) ∈ wAll := wAll_of (List.mem_append_right _ (List.mem_of_getElem? (i := 1546) (by decide +kernel))) (by decide +kernel)
theorem qh_1547 : (Jvm.Cond.instanceMethod ({ cls := "SkyStonesModel", name := "hold", desc := "(I)Z" } : Jvm.MethodName) : Cond) ∈ wAll := wAll_of (List.mem_append_right _ (List.mem_of_getElem? (i := 1547) (by decide +kernel))) (by decide +kernel)
theorem qh_1548 : (Jvm.Cond.selects "SkyStonesModel" ({ cls := "SkyStonesModel", name := "hold", desc := "(I)Z" } : Jvm.MethodName) ({ cls := "SkyStonesModel", name := "hold", desc := "(I)Z" } : Jvm.MethodName) : Cond) ∈ wAll := wAll_of (List.mem_append_right _ (List.mem_of_getElem? (i := 1548) (by decide +kernel))) (by decide +kernel)
set_option maxRecDepth 20000 in
theorem qh_1095 : (Jvm.Cond.code ({ cls := "SkyStones", name := "hold", desc := "(I)Z" } : Jvm.MethodName) prog_1_method_43_code (2 : Nat) (Option.some Jvm.ClassFile.FieldType.boolean) : Cond) ∈ wAll := wAll_of (List.mem_append_right _ (show _ ∈ tables_1 from List.mem_append_right _ (List.mem_append_right _ (List.mem_append_right _ (List.mem_append_right _ (List.mem_append_left _ (List.mem_of_getElem? (i := 135) rfl))))))) rfl
set_option maxRecDepth 20000 in
theorem qh_1549 : (Jvm.Cond.code ({ cls := "SkyStonesModel", name := "hold", desc := "(I)Z" } : Jvm.MethodName) prog_14_method_40_code (2 : Nat) (Option.some Jvm.ClassFile.FieldType.boolean) : Cond) ∈ wAll := wAll_of (List.mem_append_right _ (show _ ∈ tables_1 from List.mem_append_right _ (List.mem_append_right _ (List.mem_append_right _ (List.mem_append_right _ (List.mem_append_right _ (List.mem_append_right _ (List.mem_append_left _ (List.mem_of_getElem? (i := 109) rfl))))))))) rfl
theorem kl_L_190 : LwV RL 190 m_X11_hold := ⟨qh_1092, qh_1093, qh_1094, qw_1, qh_1095⟩
theorem kl_L_194 : LwV RL 194 m_X12_hold := ⟨qh_1546, qh_1547, qh_1548, qw_12, qh_1549⟩
theorem Nn_law {b : Nat} {s : State} (ht : ∀ w ∈ lw_tbl, w.before #[Value.ref b] s = true) : Nn s := by
  have h : ∀ (i : Nat) (w : Cond), tables_1[i]? = some w → w.before #[Value.ref b] s = true := fun i w hi => ht w (List.mem_append_right _ (List.mem_of_getElem? hi))
  refine ⟨fun w hw => ?_, va_AO.of (h 254 _ (by decide +kernel)), va_AO.of (h 255 _ (by decide +kernel))⟩
  simp only [nwL, List.mem_cons, List.not_mem_nil, or_false] at hw
  rcases hw with rfl | rfl | rfl | rfl | rfl | rfl | rfl | rfl | rfl
  · exact va_Nw.of rfl (h 31 _ (by decide +kernel))
  · exact va_Nw.of rfl (h 67 _ (by decide +kernel))
  · exact va_Nw.of rfl (h 73 _ (by decide +kernel))
  · exact va_Nw.of rfl (h 219 _ (by decide +kernel))
  · exact va_Nw.of rfl (h 258 _ (by decide +kernel))
  · exact va_Nw.of rfl (h 311 _ (by decide +kernel))
  · exact va_Nw.of rfl (h 333 _ (by decide +kernel))
  · exact va_Nw.of rfl (h 366 _ (by decide +kernel))
  · exact va_Nw.of rfl (h 379 _ (by decide +kernel))
theorem y_hold {b L : Nat} {xs : Nat → Int32} {S : Shp} {cells slots mc ms : Nat} {lv : List (Nat × Value)} {σ σ1 : Mm} {x r : Int32} {h1 : Nat → Bool} (hcs0 : cells + mc ≤ 600000 ∧ slots + ms ≤ 7302250) (hF : F_hold (sH S) x σ = some (r, h1, σ1)) (hcs : x < 0 ∨ (3 : Int32) ≤ x ∨ sH S x.toNatClampNeg = true ∨ (22 ≤ mc ∧ 1287 ≤ ms))
    (kk : ∀ L1 : Nat → Nat → Nat → Nat, L1 0 0 0 = sL S 0 0 0 → L1 3 0 0 = sL S 3 0 0 → ZL b L xs (sE S, sD S, L1, h1, sK S, sV S, sB S) (cells + mc) (slots + ms) 2064 lv [.int r] σ1) : ZL b L xs S cells slots 2061 lv [.int x, .ref (sL S 0 0 0)] σ := by
  intro p l e s m below meth c C hK hE H locs ls hl hP hD hS
  have ht := C.2.2.2.2.2.1
  have hm : ∀ {w : Cond}, w ∈ wAll → w.before #[Value.ref b] s = true := fun h => ht _ (wAll_sub h)
  have hN := Nn_law ht
  obtain ⟨z, hz⟩ := ids_at (h := sH S) (t := 0) (i := 0) (k := 0) rfl
  have ha := wr_at hz σ
  have hr := va_runV (R := room_1) (e := e) (locs := locs) (meth := meth) (cells := cells) (slots := slots) (g := F0 m 2061 ls [.int x, .ref (sL S 0 0 0)]) (As := [.int x]) (rest := []) (below := below) ⟨C.1, C.2.1, C.2.2.2.1, C.2.2.2.2.1, ht⟩ (c_hold hF hcs l H.size) ⟨callB_of 1 ht (good_law kl_L_190.2.2.2.2) rfl rfl rfl (hm kl_L_190.2.2.2.1) (hm kl_L_190.1) oy_X11_hold ⟨Nat.le_of_ble_eq_true rfl, Nat.le_of_ble_eq_true rfl⟩, hm kl_L_190.2.1, hm kl_L_190.2.2.1⟩
    ⟨fun a U g mk q => by obtain ⟨q0, q1, qP, qK, qD, qN, qE⟩ := q; exact ⟨q0, q1, qP, va_K.moved (u := U) (U := U.calling g mk a) (Vm.Alike.refl U.vm) qK, qD, qN.calling, qE.calling⟩, va_recv hK hP (ci := 10) (q0 := z) (q := (RX11, TX11, 16)) rfl ha, fun U hU hW => ⟨rfl, by rw [hU], by rw [hU]; exact hP, va_K.moved hW.alike hK, hD.weaken (fun _ _ _ _ => trivial), hN.warm hW, by rw [hU]; exact hE.call hS.2.1 (fun _ h => Ad_LA hD hS.1 h) hW⟩⟩
    rfl rfl hl.1 rfl (lv_room (Nat.le_of_ble_eq_true rfl)) dL_law_2061 hcs0
  intro T0 hT Y
  obtain ⟨v, st₀, t1, T', L1, h0, X', hL1, e1, e2, ⟨⟨L2, hv, q1, q2, hP1, hD1⟩, hz1, hk⟩, go⟩ := hr T0 hT Y
  cases hv
  rw [h0] at hz1 hk
  have hS' : va_S (LA s) s.heap T'.heap (locs ++ L1) := by
    refine ⟨Nat.le_trans hS.1 (by rw [e1]; exact hz1), fun q h1 h2 => ?_, fun q hq => ?_⟩
    · rw [e1, hk q (Nat.lt_of_lt_of_le h1 hS.1) (fun z => h2 (Ad_LA hD hS.1 z))]
      exact hS.2.1 q h1 h2
    · rcases List.mem_append.mp hq with h | h
      · exact hS.2.2 q h
      · exact Ad_LA hD hS.1 (hL1 q h)
  obtain ⟨t2, a1, b1⟩ := kk L2 q1 q2 p l e s m below meth c C hK hE T'.heap (locs ++ L1) ls hl (by rw [e1]; exact hP1) (hD1.weaken (fun _ _ _ h => Ad_LA hD hS.1 h)) hS' T' rfl X'
  exact ⟨t2, go t2 a1, b1⟩
theorem nh_le (h : Nat → Bool) : nh h ≤ 3 := by
  unfold nh
  split <;> split <;> split <;> omega
theorem nh_more {h : Nat → Bool} {j : Nat} (hj : j < 3) (h0 : h j = false) : nh (fun a => if a = j then true else h a) = nh h + 1 := by
  unfold nh
  match j, hj with
  | 0, _ => rw [h0]; simp; omega
  | 1, _ => rw [h0]; simp; omega
  | 2, _ => rw [h0]; simp; omega
theorem F_hold_cases {h h1 : Nat → Bool} {x r : Int32} {σ σ1 : Mm} (hF : F_hold h x σ = some (r, h1, σ1)) : (h1 = h ∧ (x < 0 ∨ (3 : Int32) ≤ x ∨ h x.toNatClampNeg = true)) ∨ (nh h1 = nh h + 1) := by
  unfold F_hold at hF
  by_cases q : x < 0
  · have hF := (if_pos q).symm.trans hF
    cases hF
    exact Or.inl ⟨rfl, Or.inl q⟩
  have hF := (if_neg q).symm.trans hF
  by_cases q3 : (3 : Int32) ≤ x
  · have hF := (if_pos q3).symm.trans hF
    cases hF
    exact Or.inl ⟨rfl, Or.inr (Or.inl q3)⟩
  have hF := (if_neg q3).symm.trans hF
  have hx := inb_lt (inb3 q q3)
  dsimp only at hF
  obtain ⟨-, hF⟩ := gd hF
  obtain ⟨τ, -, hF⟩ := bnv_e hF
  obtain ⟨υ, -, hF⟩ := bnv_e hF
  cases hF
  by_cases hh : h x.toNatClampNeg = true
  · refine Or.inl ⟨funext fun a => ?_, Or.inr (Or.inr hh)⟩
    by_cases ha : a = x.toNatClampNeg
    · rw [if_pos ha, ha, hh]
    · rw [if_neg ha]
  · exact Or.inr (nh_more hx (by simpa using hh))
set_option maxRecDepth 20000 in
theorem hold_ok : HoldOk := by
  intro b L xs S cells slots i σ σ1 σ2 r h1 hL hi hc hs e1 e2 back
  have tail : ∀ (L1 : Nat → Nat → Nat → Nat) (c1 s1 : Nat), L1 0 0 0 = sL S 0 0 0 → L1 3 0 0 = sL S 3 0 0 → c1 + 22 * (3 - nh h1) ≤ 600000 → s1 + 1287 * (3 - nh h1) ≤ 7302250 → ZL b L xs (sE S, sD S, L1, h1, sK S, sV S, sB S) c1 s1 2064 [(0, .ref b), (1, .ref (sL S 0 0 0)), (2, .ref (sL S 3 0 0)), (3, .int (nI i))] [.int r] σ1 := by
    intro L1 c1 s1 q1 q2 hc1 hs1
    have hc0 : c1 ≤ 600000 := by omega
    have hs0 : s1 ≤ 7302250 := by omega
    have bk := back (sE S, sD S, L1, h1, sK S, sV S, sB S) c1 s1 rfl hc1 hs1
    change ZL b L xs (sE S, sD S, L1, h1, sK S, sV S, sB S) c1 s1 2124 [(0, .ref b), (1, .ref (L1 0 0 0)), (2, .ref (L1 3 0 0)), (3, .int (nI i))] [] σ2 at bk
    rw [← q1, ← q2]
    refine y_aload_n dL_law_2064 rfl 2 rfl ?_
    refine y_aload_n dL_law_2065 rfl 0 rfl ?_
    refine y_iload_n dL_law_2066 rfl 3 rfl ?_
    refine y_iconst (v := 1) dL_law_2067 (by decide) ?_
    refine y_iadd dL_law_2068 ?_
    refine y_sld (xin (k := 1) hi hL (by decide)) dL_law_2069 ?_
    refine y_callV (M' := m_X12_hold) (t := 3) (i := 0) (k := 0) (As := [.int (xs (nI i + 1).toNatClampNeg)]) (rest := [.int r]) hc0 hs0 kl_L_194 oy_X12_hold ⟨Nat.le_of_ble_eq_true rfl, Nat.le_of_ble_eq_true rfl⟩ rfl rfl rfl rfl (Nat.le_of_ble_eq_true rfl) rfl dL_law_2070 (c_X12_hold e2) (fun v τ hq => ?_)
    obtain ⟨rfl, hτ⟩ := hq
    subst τ
    change ZL _ _ _ _ _ _ _ _ [.int r, .int r] _
    refine y_icmp_eq (tgt := 2124) dL_law_2073 (by decide) (fun _ => ?_) (fun q => ?_)
    · exact bk
    · exact absurd rfl q
  refine y_aload_n dL_law_2055 rfl 1 rfl ?_
  refine y_aload_n dL_law_2056 rfl 0 rfl ?_
  refine y_iload_n dL_law_2057 rfl 3 rfl ?_
  refine y_iconst (v := 1) dL_law_2058 (by decide) ?_
  refine y_iadd dL_law_2059 ?_
  refine y_sld (xin (k := 1) hi hL (by decide)) dL_law_2060 ?_
  rcases F_hold_cases e1 with ⟨hh, hx⟩ | hn
  · refine y_hold (mc := 0) (ms := 0) ⟨by omega, by omega⟩ e1 (hx.elim Or.inl fun z => Or.inr (z.elim Or.inl fun z => Or.inr (Or.inl z))) (fun L1 q1 q2 => ?_)
    exact tail L1 cells slots q1 q2 (by rw [hh]; exact hc) (by rw [hh]; exact hs)
  · have h3 := nh_le h1
    refine y_hold (mc := 22) (ms := 1287) ⟨by omega, by omega⟩ e1 (Or.inr (Or.inr (Or.inr ⟨Nat.le_refl _, Nat.le_refl _⟩))) (fun L1 q1 q2 => ?_)
    exact tail L1 (cells + 22) (slots + 1287) q1 q2 (by omega) (by omega)
