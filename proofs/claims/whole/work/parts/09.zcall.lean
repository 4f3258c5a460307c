theorem good_wM {M M' : Mt} (h : Cond.code (my M') (mb M') (mn M') (mr M') ∈ wAll) : GoodIn (wM M) (wM M') := by
  intro w hw
  rcases List.mem_cons.mp hw with rfl | hw
  · exact ⟨List.mem_cons_of_mem _ h, good_of_word (List.mem_filter.mp h).2⟩
  · exact ⟨List.mem_cons_of_mem _ hw, good_of_word (List.mem_filter.mp hw).2⟩
theorem Ad_mono {S : Shp} {a b q : Nat} (hab : a ≤ b) (h : Ad S b q) : Ad S a q := h.elim Or.inl (fun h => Or.inr (Nat.le_trans hab h))
/-- the words of a call: of an instance's method, of a static one -/
def LwV (own : String) (idx : Nat) (M' : Mt) : Prop := Cond.methodLink own idx (my M') ∈ wAll ∧ Cond.instanceMethod (my M') ∈ wAll ∧ Cond.selects (my M').cls (my M') (my M') ∈ wAll ∧ Cond.initialized (my M').cls ∈ wAll ∧ Cond.code (my M') (mb M') (mn M') (mr M') ∈ wAll
def LwS (own : String) (idx : Nat) (M' : Mt) : Prop := Cond.methodLink own idx (my M') ∈ wAll ∧ Cond.static (my M') ∈ wAll ∧ Cond.initialized (my M').cls ∈ wAll ∧ Cond.code (my M') (mb M') (mn M') (mr M') ∈ wAll
def okY (y : MethodName) (n : Nat) : Prop := y.cls ≠ "java/lang/invoke/MethodHandle" ∧ y.cls ≠ "java/lang/invoke/VarHandle" ∧ (parseMethodDescriptor y.desc).map (fun d => d.parameters.length) = some n
def okR (M M' : Mt) : Prop := md M' + 1 ≤ md M ∧ 8 + (mn M' + 11) + 40 * md M' ≤ 40 * md M
theorem z_back {M : Mt} {S : Shp} {Q Q' : Option Value → Mm → Prop} {pc : Nat} {lv : List (Nat × Value)} {rest : List Value} {g : List Value} {p : Program} {l : Launch} {e : Env} {s : State} {m : MethodId} {args : Array Value} {below : List Frame} {meth : Method} {c : Code} {H : Heap} {locs : List Loc} {ls : Array Slot} {aa : Array Value} (X : Cx M S p s m args meth c) (hl : lv_has ls (mn M) lv) (hS : va_S (Ad S s.heap.size) s.heap H locs)
    (hr : va_Run p l e (rM (md M)) s m args below meth c H locs 0 0 0 0 (F0 m pc ls g) rest (Qc S H.size Q' aa) (Ad S H.size)) (kk : ∀ v τ, Q' v τ → Z M S Q (pc + 3) lv (v.toList ++ rest) τ) :
    W p l e (rM (md M)) s m args below meth c H locs 0 0 (MQ below (Qc S s.heap.size Q) args s 0 0 (Ad S s.heap.size)) (F0 m pc ls g) := by
  intro T hT Y
  obtain ⟨v, st₀, t, T', L, h0, X', hL, e1, e2, ⟨⟨v', τ, hv, hq, hP, hK, hD⟩, hz, hk⟩, go⟩ := hr T hT Y
  cases hv
  rw [h0] at hz hk
  have hS' : va_S (Ad S s.heap.size) s.heap T'.heap (locs ++ L) := by
    refine ⟨Nat.le_trans hS.1 (by rw [e1]; exact hz), fun q h1 h2 => ?_, fun q hq => ?_⟩
    · rw [e1, hk q (Nat.lt_of_lt_of_le h1 hS.1) (fun z => h2 (Ad_mono hS.1 z))]
      exact hS.2.1 q h1 h2
    · rcases List.mem_append.mp hq with h | h
      · exact hS.2.2 q h
      · exact Ad_mono hS.1 (hL q h)
  obtain ⟨t2, a1, b1⟩ := kk v τ hq p l e s m args below meth c X T'.heap (locs ++ L) ls hl (by rw [e1]; exact hP) (hD.weaken (fun _ _ _ h => Ad_mono hS.1 h)) hS' T' rfl X'
  exact ⟨t2, go t2 a1, b1⟩
section ZC
variable {M M' : Mt} {S : Shp} {Q Q' : Option Value → Mm → Prop} {pc : Nat} {lv : List (Nat × Value)} {st rest As : List Value} {σ : Mm} {t i k ci idx n N : Nat} {T : u_T}
theorem z_callS (hw : LwS (my M).cls idx M') (hy : okY (my M') n) (hR : okR M M') (hn : As.length = n) (hroom : (rest.map fun v => v.category).sum ≤ 8) (hst : st = As.reverse ++ rest) (hd : decode (mb M) pc = .ok (.invokestatic idx, 3)) (hC : Ct M' S As σ Q') (kk : ∀ v τ, Q' v τ → Z M S Q (pc + 3) lv (v.toList ++ rest) τ) : Z M S Q pc lv st σ := by
  intro p l e s m args below meth c X H locs ls hl hP hD hS
  subst hst
  have ht := X.2.2.2.2.1
  have hm : ∀ {w : Cond}, w ∈ wAll → w.before args s = true := fun h => ht _ (List.mem_cons_of_mem _ h)
  refine z_back X hl hS (aa := As.toArray) ?_ kk
  exact va_runS (As := As) (rest := rest) ⟨X.1, X.2.1, X.2.2.1, X.2.2.2.1, ht⟩ (hC l H.size) ⟨callB_of n ht (good_wM hw.2.2.2) rfl rfl rfl (hm hw.2.2.1) (hm hw.1) hy hR, hm hw.2.1⟩
    ⟨fun a U g mk q => by obtain ⟨q0, q1, qP, qK, qD, qE⟩ := q; exact ⟨q0, q1, qP, va_K.moved (u := U) (U := U.calling g mk a) (Vm.Alike.refl U.vm) qK, qD, qE.calling⟩, fun U hU hW => ⟨rfl, by rw [hU], by rw [hU]; exact hP, va_K.moved hW.alike X.2.2.2.2.2.2.2.1, hD.weaken (fun _ _ _ _ => trivial), by rw [hU]; exact X.2.2.2.2.2.2.2.2.call hS.2.1 (fun _ h => Ad_mono hS.1 h) hW⟩⟩
    rfl hn hl.1 rfl (lv_room hroom) hd ⟨Nat.le_refl _, Nat.le_refl _⟩
theorem z_callV {fs : List Value} (hw : LwV (my M).cls idx M') (hy : okY (my M') n) (hR : okR M M') (hlv : lvq (sH S) t i k = true) (hc : cR S (mP σ) t i k (mA σ t i k) (mL σ t i k) = .inr (ci, fs)) (hcl : vwCl[ci]? = some ((my M').cls, T, N)) (hn : As.length = n) (hroom : (rest.map fun v => v.category).sum ≤ 8) (hst : st = As.reverse ++ .ref (sL S t i k) :: rest) (hd : decode (mb M) pc = .ok (.invokevirtual idx, 3)) (hC : Ct M' S (.ref (sL S t i k) :: As) σ Q') (kk : ∀ v τ, Q' v τ → Z M S Q (pc + 3) lv (v.toList ++ rest) τ) : Z M S Q pc lv st σ := by
  intro p l e s m args below meth c X H locs ls hl hP hD hS
  subst hst
  have ht := X.2.2.2.2.1
  have hm : ∀ {w : Cond}, w ∈ wAll → w.before args s = true := fun h => ht _ (List.mem_cons_of_mem _ h)
  obtain ⟨z, hz⟩ := ids_at hlv
  have ha := wr_at hz σ
  rw [hc] at ha
  refine z_back X hl hS (aa := (Value.ref (sL S t i k) :: As).toArray) ?_ kk
  exact va_runV (As := As) (rest := rest) ⟨X.1, X.2.1, X.2.2.1, X.2.2.2.1, ht⟩ (hC l H.size) ⟨callB_of n ht (good_wM hw.2.2.2.2) rfl rfl rfl (hm hw.2.2.2.1) (hm hw.1) hy hR, hm hw.2.1, hm hw.2.2.1⟩
    ⟨fun a U g mk q => by obtain ⟨q0, q1, qP, qK, qD, qE⟩ := q; exact ⟨q0, q1, qP, va_K.moved (u := U) (U := U.calling g mk a) (Vm.Alike.refl U.vm) qK, qD, qE.calling⟩, va_recv X.2.2.2.2.2.2.2.1 hP (ci := ci) (q0 := z) hcl ha, fun U hU hW => ⟨rfl, by rw [hU], by rw [hU]; exact hP, va_K.moved hW.alike X.2.2.2.2.2.2.2.1, hD.weaken (fun _ _ _ _ => trivial), by rw [hU]; exact X.2.2.2.2.2.2.2.2.call hS.2.1 (fun _ h => Ad_mono hS.1 h) hW⟩⟩
    rfl hn hl.1 rfl (lv_room hroom) hd ⟨Nat.le_refl _, Nat.le_refl _⟩
end ZC
