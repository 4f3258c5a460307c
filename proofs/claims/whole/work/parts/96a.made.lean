/-! objects that are made: rows of the machine over a growing list of cells -/
def nwL : List Cond := [.methodLinkNest "SkyStones" 11 yX8_init "SkyStones", .methodLinkNest "SkyStones" 18 yX9_init "SkyStones", .methodLinkNest "SkyStones$Told" 60 yX0_init "SkyStones", .methodLinkNest "SkyStones" 37 yX7_init "SkyStones", .methodLinkNest "SkyStones" 52 yX2_init "SkyStones", .methodLinkNest "SkyStones" 59 yX6_init "SkyStones", .methodLinkNest "SkyStones" 66 yX10_init "SkyStones", .methodLinkNest "SkyStones" 73 yX4_init "SkyStones", .methodLinkNest "SkyStones" 80 yX3_init "SkyStones"]
theorem nwL_form : ∀ w ∈ nwL, ∃ a i x h, w = Cond.methodLinkNest a i x h := by
  intro w hw
  simp only [nwL, List.mem_cons, List.not_mem_nil, or_false] at hw
  rcases hw with rfl | rfl | rfl | rfl | rfl | rfl | rfl | rfl | rfl <;> exact ⟨_, _, _, _, rfl⟩
def Nn (U : State) : Prop := (∀ w ∈ nwL, va_Nw w U) ∧ va_AO "SkyStones$Told" U ∧ va_AO "SkyStones$Survey" U
theorem Nn.warm {s U : State} (h : Nn s) (hW : s.WarmedH U.vm) : Nn U := by
  refine ⟨fun w hw => ?_, h.2.1.moved hW.alike, h.2.2.moved hW.alike⟩
  have h1 := h.1 w hw
  obtain ⟨a, i, x, z, rfl⟩ := nwL_form w hw
  exact va_Nw.warmM hW h1
theorem Nn.calling {U : State} {g : JFrame} {mk : MethodId} {a : Array Value} (h : Nn U) : Nn (U.calling g mk a) := by
  refine ⟨fun w hw => ?_, h.2.1.moved (u := U) (U := U.calling g mk a) (Vm.Alike.refl U.vm), h.2.2.moved (u := U) (U := U.calling g mk a) (Vm.Alike.refl U.vm)⟩
  have h1 := h.1 w hw
  obtain ⟨b, i, x, z, rfl⟩ := nwL_form w hw
  exact va_Nw.same rfl (u := U) (U := U.calling g mk a) rfl h1
/-- distinct addresses, as a list -/
theorem va_D_iff {A : Nat → Prop} {ws : va_W} : va_D A ws ↔ (ws.map (·.1)).Nodup ∧ ∀ q ∈ ws, A q.1 := by
  constructor
  · intro h
    refine ⟨?_, fun q hq => ?_⟩
    · show List.Pairwise (fun a b => a ≠ b) _
      rw [List.pairwise_iff_getElem]
      intro i j hi hj hij e
      have hi' : i < ws.length := by rwa [List.length_map] at hi
      have hj' : j < ws.length := by rwa [List.length_map] at hj
      rw [List.getElem_map, List.getElem_map] at e
      have := h.1 i j _ _ (List.getElem?_eq_getElem hi') (List.getElem?_eq_getElem hj') e
      omega
    · obtain ⟨k, hk⟩ := List.getElem?_of_mem hq
      exact h.2 k q hk
  · intro h
    refine ⟨fun i j p q hi hj e => ?_, fun k q hk => h.2 q (List.mem_of_getElem? hk)⟩
    have hi' : (ws.map (·.1))[i]? = some p.1 := by rw [List.getElem?_map, hi]; rfl
    have hj' : (ws.map (·.1))[j]? = some q.1 := by rw [List.getElem?_map, hj]; rfl
    rw [← e] at hj'
    exact (List.getElem?_inj (List.getElem?_eq_some_iff.mp hi').1 h.1).mp (hi'.trans hj'.symm)
theorem va_P_mem {D : va_G} {cl : List vw_C} {ws ws' : va_W} {H : Heap} (h : va_P D cl ws H) (hs : ∀ q ∈ ws', q ∈ ws) : va_P D cl ws' H := by
  intro k q hk
  obtain ⟨i, hi⟩ := List.getElem?_of_mem (hs q (List.mem_of_getElem? hk))
  exact h i q hi
theorem nd_range {ws x : va_W} : (List.range ws.length).map (fun i => (ws ++ x)[i]?) = ws.map some := by
  apply List.ext_getElem?
  intro n
  rw [List.getElem?_map, List.getElem?_map]
  by_cases h : n < ws.length
  · rw [List.getElem?_range h]
    show some ((ws ++ x)[n]?) = _
    rw [List.getElem?_append_left h, List.getElem?_eq_getElem h]
    rfl
  · rw [List.getElem?_eq_none (by rw [List.length_range]; omega), List.getElem?_eq_none (by omega)]
    rfl
theorem va_nd_of : ∀ (l : List Nat), l.Nodup → va_nd l = true
  | [], _ => rfl
  | a :: l, h => by
    rw [List.nodup_cons] at h
    unfold va_nd
    rw [va_nd_of l h.2, Bool.and_true]
    exact decide_eq_true h.1
theorem va_RA_inj {U : State} {c1 c2 : ClassId} {ty : FieldType} (h1 : va_RA U c1 ty) (h2 : va_RA U c2 ty) : c1 = c2 := by
  cases ty with
  | object C =>
    obtain ⟨_, _, _, _, _, e1⟩ := h1
    obtain ⟨_, _, _, _, _, e2⟩ := h2
    exact Option.some.inj (e1.symm.trans e2)
  | _ => exact Option.some.inj (Eq.trans (Eq.symm h1) h2)
/-- a method's body that makes objects: what holds in it -/
def Cg (own : String) (cc : ByteArray) (nL : Nat) (Ts : List Cond) (S : Shp) (p : Program) (s : State) (m : MethodId) (args : Array Value) (c : Code) : Prop :=
  p.tables.exec = Jvm.exec ∧ c.code = cc ∧ c.maxLocals = nL ∧ s.vm.findClass own = some m.cls ∧ (∀ w ∈ Ts, w.before args s = true) ∧ (∀ w ∈ wAll, w ∈ Ts) ∧ va_K (sD S) vwCl (sT S) s ∧ Nn s
def Wd (S : Shp) (A : Nat → Prop) (H0 H : Heap) (locs : List Loc) (ws : va_W) : Prop := va_P (sD S) vwCl ws H ∧ va_D A ws ∧ va_S A H0 H locs
theorem Wd.perm {S : Shp} {A : Nat → Prop} {H0 H : Heap} {locs : List Loc} {ws ws' : va_W} (h : Wd S A H0 H locs ws) (hp : ws.Perm ws') : Wd S A H0 H locs ws' := by
  refine ⟨va_P_mem h.1 (fun q hq => hp.symm.mem_iff.mp hq), va_D_iff.mpr ?_, h.2.2⟩
  have h1 := va_D_iff.mp h.2.1
  exact ⟨(hp.map _).nodup_iff.mp h1.1, fun q hq => h1.2 q (hp.symm.mem_iff.mp hq)⟩
def wI (M : Mt) : List Cond := .code (my M) (mb M) (mn M) none :: wAll
def rI (M : Mt) (mc ms : Nat) : Room := { frames := md M, cells := mc, slots := ms, locals := 40 * md M }
/-- a constructor's contract: from an object with its fields at zero to the cells CS -/
def Ci {U : Type} (M : Mt) (S : Shp) (ci : Nat) (zs As : List Value) (CS : Nat → U → va_W) (mc ms : Nat) : Prop :=
  ∀ (l : Launch) (h0 sz : Nat), Met l (my M) (wI M) (rI M mc ms) (va_Pc (.ref h0 :: As) (fun V => V.heap.size = sz ∧ va_P (sD S) vwCl [(h0, .inr (ci, zs))] V.heap ∧ va_K (sD S) vwCl (sT S) V ∧ va_D (fun _ => True) [(h0, .inr (ci, zs))] ∧ Nn V))
    (va_Qv (fun _ : U => True) (fun a t => va_P (sD S) vwCl (CS h0 a) t.heap ∧ va_D (va_A [(h0, .inr (ci, zs))] sz) (CS h0 a)) (va_A [(h0, .inr (ci, zs))] sz)) mc ms (va_A [(h0, .inr (ci, zs))] sz)
theorem Ci.of {U : Type} {M : Mt} {S : Shp} {ci : Nat} {zs As : List Value} {CS : Nat → U → va_W} {mc ms : Nat} (hy : plainFor (my M) = true) (hn : ∀ h0 : Nat, (lg_sl (.ref h0 :: As)).length ≤ mn M) (hname : (my M).name = "<init>")
    (h : ∀ (p : Program) (l : Launch) (e : Env) (s : State) (m : MethodId) (args : Array Value) (below : List Frame) (meth : Method) (c : Code) (h0 : Nat) (ls : Array Slot), Cg (my M).cls (mb M) (mn M) (wI M) S p s m args c → meth.name = "<init>" → meth.sig.returnType = none → meth.locks = false → lv_has ls (mn M) (lv_args 0 (.ref h0 :: As)) → Wd S (va_A [(h0, .inr (ci, zs))] s.heap.size) s.heap s.heap [] [(h0, .inr (ci, zs))] →
      W p l e (rI M mc ms) s m args below meth c s.heap [] 0 0 (MQ below (va_Qv (fun _ : U => True) (fun a t => va_P (sD S) vwCl (CS h0 a) t.heap ∧ va_D (va_A [(h0, .inr (ci, zs))] s.heap.size) (CS h0 a)) (va_A [(h0, .inr (ci, zs))] s.heap.size)) args s mc ms (va_A [(h0, .inr (ci, zs))] s.heap.size)) (F0 m 0 ls [])) : Ci M S ci zs As CS mc ms := by
  intro l h0 sz
  refine Met.ofWF (cc := mb M) (maxL := mn M) (ret := none) hy rfl ?_
  intro p e s m args below meth c s₁ B hml hv
  obtain ⟨rfl, hsz, hP, hK, hD0, hN⟩ := hv
  subst hsz
  have hl := lv_entry (.ref h0 :: As) (hn h0)
  rw [lg_entry_eq]
  exact h p l e s m _ below meth c h0 _ ⟨B.exec, B.bytes, hml, findClass_of_methodNamed B.named, atoms_spec (ws := wI M) B.pre, fun w hw => List.mem_cons_of_mem _ hw, hK, hN⟩ ((name_of_methodNamed B.named B.method).1.trans hname) B.returns B.notSynchronized hl ⟨hP, hD0.self, va_S.rf⟩
section MADE
variable {own : String} {cc : ByteArray} {nL : Nat} {Ts : List Cond} {S : Shp} {p : Program} {l : Launch} {e : Env} {R : Room} {s : State} {m : MethodId} {args : Array Value} {below : List Frame} {meth : Method} {c : Code} {H H0 : Heap} {A : Nat → Prop} {locs : List Loc} {cells slots pc idx : Nat} {Q : State → Prop} {ls : Array Slot} {rest st : List Value} {ws cs : va_W}
theorem Cg.w (X : Cg own cc nL Ts S p s m args c) {w : Cond} (h : w ∈ wAll) : w.before args s = true := X.2.2.2.2.1 _ (X.2.2.2.2.2.1 _ h)
theorem nw_get {C : String} {T : u_T} {N ci a k : Nat} {fs : List Value} {v : Value} (X : Cg own cc nL Ts S p s m args c) (hin : ∀ w ∈ u_ws C T N, w ∈ wAll) (hc : vwCl[ci]? = some (C, T, N)) (hk : k < N) (hlink : Cond.fieldLink own idx (T k).1 (T k).2.1 (T k).2.2.1 ∈ wAll) (hv : fs[k]? = some v) (hW : Wd S A H0 H locs ((a, .inr (ci, fs)) :: cs)) (hdg : decode cc pc = .ok (.getfield idx, 3))
    (kk : W p l e R s m args below meth c H locs cells slots Q (F0 m (pc + 3) ls (v :: rest))) : W p l e R s m args below meth c H locs cells slots Q (F0 m pc ls (.ref a :: rest)) :=
  va_get X.1 X.2.1 X.2.2.2.2.1 (fun w h => X.2.2.2.2.2.1 w (hin w h)) X.2.2.2.1 X.2.2.2.2.2.2.1 hW.1 0 rfl hc k hk (X.w hlink) (fun _ h => h) hv hdg kk
theorem nw_put {C : String} {T : u_T} {N ci a k : Nat} {fs : List Value} {v : Value} {ty : FieldType} {ty0 : Nat → FieldType} (X : Cg own cc nL Ts S p s m args c) (hin : ∀ w ∈ u_ws C T N, w ∈ wAll) (hty : ∀ k, k < N → parseFieldDescriptor (T k).2.2.1 = some (ty0 k)) (hnm : ∀ a, a < N → ∀ b, b < N → a ≠ b → (T a).2.1 ≠ (T b).2.1) (hc : vwCl[ci]? = some (C, T, N)) (hk : k < N) (hlink : Cond.fieldLink own idx (T k).1 (T k).2.1 (T k).2.2.1 ∈ wAll) (hfin : (T k).2.2.2 = false) (hd0 : parseFieldDescriptor (T k).2.2.1 = some ty) (hn : narrow ty v = v) (hfit : fits ty v = true) (hl : fs.length = N) (hW : Wd S A H0 H locs ((a, .inr (ci, fs)) :: cs)) (hdg : decode cc pc = .ok (.putfield idx, 3))
    (kk : ∀ (H1 : Heap) (locs1 : List Loc), Wd S A H0 H1 locs1 ((a, .inr (ci, fs.set k v)) :: cs) → (fs.set k v).length = N → W p l e R s m args below meth c H1 locs1 cells slots Q (F0 m (pc + 3) ls rest)) : W p l e R s m args below meth c H locs cells slots Q (F0 m pc ls (v :: .ref a :: rest)) :=
  va_put X.1 X.2.1 X.2.2.2.2.1 (fun w h => X.2.2.2.2.2.1 w (hin w h)) ty0 hty hnm X.2.2.2.1 X.2.2.2.2.2.2.1 hW.1 hW.2.1 hW.2.2 0 rfl hc k hk (X.w hlink) (fun _ h => h) hfin hd0 hn hfit (by rw [hl]; exact hk) hdg (fun H1 locs1 h1 h2 h3 => kk H1 locs1 ⟨h1, h2, h3⟩ (by rw [List.length_set]; exact hl))
theorem nw_putF {C : String} {T : u_T} {N ci a k : Nat} {fs : List Value} {v : Value} {ty : FieldType} {ty0 : Nat → FieldType} (X : Cg own cc nL Ts S p s m args c) (hin : ∀ w ∈ u_ws C T N, w ∈ wAll) (hty : ∀ k, k < N → parseFieldDescriptor (T k).2.2.1 = some (ty0 k)) (hnm : ∀ a, a < N → ∀ b, b < N → a ≠ b → (T a).2.1 ≠ (T b).2.1) (hc : vwCl[ci]? = some (C, T, N)) (hk : k < N) (hlink : Cond.fieldLink own idx (T k).1 (T k).2.1 (T k).2.2.1 ∈ wAll) (hfin : (T k).2.2.2 = true) (hi : meth.name = "<init>") (hdecl : (T k).1 = own) (hd0 : parseFieldDescriptor (T k).2.2.1 = some ty) (hn : narrow ty v = v) (hfit : fits ty v = true) (hl : fs.length = N) (hW : Wd S A H0 H locs ((a, .inr (ci, fs)) :: cs)) (hdg : decode cc pc = .ok (.putfield idx, 3))
    (kk : ∀ (H1 : Heap) (locs1 : List Loc), Wd S A H0 H1 locs1 ((a, .inr (ci, fs.set k v)) :: cs) → (fs.set k v).length = N → W p l e R s m args below meth c H1 locs1 cells slots Q (F0 m (pc + 3) ls rest)) : W p l e R s m args below meth c H locs cells slots Q (F0 m pc ls (v :: .ref a :: rest)) :=
  va_putF X.1 X.2.1 X.2.2.2.2.1 (fun w h => X.2.2.2.2.2.1 w (hin w h)) ty0 hty hnm X.2.2.2.1 X.2.2.2.2.2.2.1 hW.1 hW.2.1 hW.2.2 0 rfl hc k hk (X.w hlink) (fun _ h => h) hfin hi hdecl hd0 hn hfit (by rw [hl]; exact hk) hdg (fun H1 locs1 h1 h2 h3 => kk H1 locs1 ⟨h1, h2, h3⟩ (by rw [List.length_set]; exact hl))
theorem nw_newa {atype : ArrayType} {ty : FieldType} {cE : ClassId} {n : Int32} {N' : Nat} {a0 : vp_A} (j : Nat) (X : Cg own cc nL Ts S p s m args c) (hA : ∀ q, H0.size ≤ q → A q) (harr : Cond.arrayClass (newarray.typeOf atype) ∈ wAll) (hty : newarray.typeOf atype = ty) (hE : (sT S)[j]? = some (cE, ty)) (ha : ∀ cA : ClassId, vp_cell cA a0 = arrV cA N' (fun _ => defaultValue ty)) (hn : ¬ n < 0) (hN : n.toNatClampNeg = N') (hb : N' * componentBytes ty ≤ 536870912) (hcells : cells + 1 ≤ R.cells) (hslots : slots + N' ≤ R.slots) (hW : Wd S A H0 H locs ws) (hdg : decode cc pc = .ok (.newarray atype, 2))
    (kk : ∀ (q : Nat) (H1 : Heap), Wd S A H0 H1 locs (ws ++ [(q, .inl (cE, a0))]) → W p l e R s m args below meth c H1 locs (cells + 1) (slots + N') Q (F0 m (pc + 2) ls (.ref q :: rest))) : W p l e R s m args below meth c H locs cells slots Q (F0 m pc ls (.int n :: rest)) := by
  refine va_newa X.1 X.2.1 (X.w harr) hty X.2.2.2.2.2.2.1 hW.1 hW.2.1 hW.2.2 hA ha hn hN hb hcells hslots hdg (fun q cA H1 hK h1 h2 h3 => ?_)
  have e : cA = cE := va_RA_inj (hK.2 (sT S).length (cA, ty) (by simp)).2 (X.2.2.2.2.2.2.1.2 j _ hE).2
  subst e
  exact kk q H1 ⟨h1, h2, h3⟩
theorem nw_newq {C : String} {cE : ClassId} {n : Int32} {N' : Nat} (j : Nat) (X : Cg own cc nL Ts S p s m args c) (hA : ∀ q, H0.size ≤ q → A q) (hcl : Cond.classLink own idx C ∈ wAll) (hov : va_AO C s) (hE : (sT S)[j]? = some (cE, .object C)) (hn : ¬ n < 0) (hN : n.toNatClampNeg = N') (hb : N' * 4 ≤ 536870912) (hcells : cells + 1 ≤ R.cells) (hslots : slots + N' ≤ R.slots) (hW : Wd S A H0 H locs ws) (hdg : decode cc pc = .ok (.anewarray idx, 3))
    (kk : ∀ (q : Nat) (H1 : Heap), Wd S A H0 H1 locs (ws ++ [(q, .inl (cE, N', .inr (.inr (.inr (.inr (fun _ => none))))))]) → W p l e R s m args below meth c H1 locs (cells + 1) (slots + N') Q (F0 m (pc + 3) ls (.ref q :: rest))) : W p l e R s m args below meth c H locs cells slots Q (F0 m pc ls (.int n :: rest)) := by
  refine va_newq X.1 X.2.1 X.2.2.2.1 (X.w hcl) hov X.2.2.2.2.2.2.1 hW.1 hW.2.1 hW.2.2 hA hn hN hb hcells hslots hdg (fun q cA H1 hK h1 h2 h3 => ?_)
  have e : cA = cE := va_RA_inj (hK.2 (sT S).length (cA, .object C) (by simp)).2 (X.2.2.2.2.2.2.1.2 j _ hE).2
  subst e
  exact kk q H1 ⟨h1, h2, h3⟩
theorem nw_new {C : String} {T : u_T} {N ci : Nat} {fs : List Value} {ty : Nat → FieldType} (X : Cg own cc nL Ts S p s m args c) (hA : ∀ q, H0.size ≤ q → A q) (hin : ∀ w ∈ u_ws C T N, w ∈ wAll) (hty : ∀ k, k < N → parseFieldDescriptor (T k).2.2.1 = some (ty k)) (hcl : Cond.classLink own idx C ∈ wAll) (hinst : Cond.instantiable C N ∈ wAll) (hini : Cond.initialized C ∈ wAll) (hc : vwCl[ci]? = some (C, T, N)) (hfs : ∀ j, j < N → defaultValue (ty j) = vp_V fs j) (hcells : cells + 1 ≤ R.cells) (hslots : slots + N ≤ R.slots) (hW : Wd S A H0 H locs ws) (hdg : decode cc pc = .ok (.new idx, 3))
    (kk : ∀ (q : Nat) (H1 : Heap), Wd S A H0 H1 locs (ws ++ [(q, .inr (ci, fs))]) → W p l e R s m args below meth c H1 locs (cells + 1) (slots + N) Q (F0 m (pc + 3) ls (.ref q :: rest))) : W p l e R s m args below meth c H locs cells slots Q (F0 m pc ls rest) :=
  va_new X.1 X.2.1 X.2.2.2.2.1 (fun w h => X.2.2.2.2.2.1 w (hin w h)) ty hty X.2.2.2.1 (X.w hcl) (X.w hinst) (X.w hini) X.2.2.2.2.2.2.1 hW.1 hW.2.1 hW.2.2 hA hc hfs hcells hslots hdg (fun q H1 h1 h2 h3 => kk q H1 ⟨h1, h2, h3⟩)
theorem qw_oi : (Jvm.Cond.instanceMethod ({ cls := "java/lang/Object", name := "<init>", desc := "()V" } : Jvm.MethodName) : Cond) ∈ wAll := wAll_of (List.mem_append_right _ (List.mem_of_getElem? (i := 27) (by decide +kernel))) (by decide +kernel)
set_option maxRecDepth 20000 in
theorem qw_oc : (Jvm.Cond.code ({ cls := "java/lang/Object", name := "<init>", desc := "()V" } : Jvm.MethodName) object_method_1_code 1 none : Cond) ∈ wAll := wAll_of (List.mem_append_right _ (show _ ∈ tables_1 from List.mem_append_left _ (List.mem_of_getElem? (i := 28) rfl))) rfl
theorem nw_obj {a : Nat} (X : Cg own cc nL Ts S p s m args c) (hlink : Cond.methodLink own idx ({ cls := "java/lang/Object", name := "<init>", desc := "()V" } : Jvm.MethodName) ∈ wAll) (hls : ls.size = nL) (hf : 1 ≤ R.frames) (hlo : 12 ≤ R.locals) (hd : decode cc pc = .ok (.invokespecial idx, 3)) (kk : W p l e R s m args below meth c H locs cells slots Q (F0 m (pc + 3) ls [])) : W p l e R s m args below meth c H locs cells slots Q (F0 m pc ls [.ref a]) :=
  W.objInit X.1 X.2.1 X.2.2.2.1 (X.w hlink) (X.w qw_oi) (X.w qw_oc) rfl (hls.trans X.2.2.1.symm) rfl hd hf (show 2 * 0 + 0 + 12 ≤ R.locals by omega) kk
theorem nw_ret {U : Type} {CS : Nat → U → va_W} {h0 mc ms : Nat} (a : U) (X : Cg own cc nL Ts S p s m args c) (hr : meth.sig.returnType = none) (hlk : meth.locks = false) (hc : cells ≤ mc) (hs : slots ≤ ms) (hW : Wd S A s.heap H locs (CS h0 a)) (hd : decode cc pc = .ok (.return_, 1)) : W p l e R s m args below meth c H locs cells slots (MQ below (va_Qv (fun _ : U => True) (fun a t => va_P (sD S) vwCl (CS h0 a) t.heap ∧ va_D A (CS h0 a)) A) args s mc ms A) (F0 m pc ls []) :=
  W.widen hc hs (W.vret X.1 X.2.1 hr (fun t ht _ => ⟨⟨a, rfl, trivial, by rw [ht]; exact hW.1, hW.2.1⟩, hW.2.2.F ht⟩) hW.2.2.2.2 hd hlk)
theorem nw_good {M' : Mt} (X : Cg own cc nL Ts S p s m args c) (hcode : Cond.code (my M') (mb M') (mn M') none ∈ wAll) : GoodIn Ts (wI M') := by
  intro w hw
  rcases List.mem_cons.mp hw with rfl | hw
  · exact ⟨X.2.2.2.2.2.1 _ hcode, good_of_word (List.mem_filter.mp hcode).2⟩
  · exact ⟨X.2.2.2.2.2.1 _ hw, good_of_word (List.mem_filter.mp hw).2⟩
/-- behind a constructor's call: the other cells and the new object's -/
theorem nw_back {U : Type} {ci q mc ms : Nat} {zs : List Value} {CS : Nat → U → va_W} {aa : Array Value} (hA : ∀ q, H0.size ≤ q → A q) (hW : Wd S A H0 H locs (ws ++ [(q, .inr (ci, zs))]))
    (hr : va_Run p l e R s m args below meth c H locs cells slots mc ms (F0 m pc ls st) rest (va_Qv (fun _ : U => True) (fun a t => va_P (sD S) vwCl (CS q a) t.heap ∧ va_D (va_A [(q, .inr (ci, zs))] H.size) (CS q a)) (va_A [(q, .inr (ci, zs))] H.size) aa) (va_A [(q, .inr (ci, zs))] H.size))
    (kk : ∀ (a : U) (H1 : Heap) (locs1 : List Loc), Wd S A H0 H1 locs1 (ws ++ CS q a) → W p l e R s m args below meth c H1 locs1 (cells + mc) (slots + ms) Q (F0 m (pc + 3) ls rest)) : W p l e R s m args below meth c H locs cells slots Q (F0 m pc ls st) := by
  have hFc := va_free (wc := [(q, .inr (ci, zs))]) hW.2.1 hW.2.2 hA [ws.length] (by simp)
  refine va_callv hr hW.2.2 (fun z _ h => hFc z h) hFc (fun a t H1 locs1 ht _ _ hB _ hk1 hS1 => ?_)
  obtain ⟨hP1, hD1⟩ := hB
  rw [ht] at hP1
  obtain ⟨hP, hD⟩ := va_join (wr := ws) (w1 := CS q a) hW.1 hW.2.1 [ws.length] (List.range ws.length) (by simp) nd_range (va_nd_of _ List.nodup_range) (fun i hi hj => by rw [List.mem_range] at hi; rw [List.mem_singleton] at hj; omega) hk1 hFc hP1 hD1
  exact kk a H1 locs1 ⟨hP, hD, hS1⟩
theorem nw_callN {U : Type} {M' : Mt} {ci n q mc ms : Nat} {zs As : List Value} {CS : Nat → U → va_W} (X : Cg own cc nL Ts S p s m args c) (hA : ∀ q, H0.size ≤ q → A q) (hC : Ci M' S ci zs As CS mc ms) (hnw : Cond.methodLinkNest own idx (my M') "SkyStones" ∈ nwL) (hi : Cond.instanceMethod (my M') ∈ wAll) (hini : Cond.initialized (my M').cls ∈ wAll) (hcode : Cond.code (my M') (mb M') (mn M') none ∈ wAll) (hy : okY (my M') n) (hname : (my M').name = "<init>") (hR : md M' + 1 ≤ R.frames ∧ 8 + (mn M' + 11) + 40 * md M' ≤ R.locals) (hcs : cells + mc ≤ R.cells ∧ slots + ms ≤ R.slots) (hn : As.length = n) (hroom : (rest.map fun v => v.category).sum ≤ 8) (hst : st = As.reverse ++ .ref q :: rest) (hls : ls.size = nL) (hW : Wd S A H0 H locs (ws ++ [(q, .inr (ci, zs))])) (hd : decode cc pc = .ok (.invokespecial idx, 3))
    (kk : ∀ (a : U) (H1 : Heap) (locs1 : List Loc), Wd S A H0 H1 locs1 (ws ++ CS q a) → W p l e R s m args below meth c H1 locs1 (cells + mc) (slots + ms) Q (F0 m (pc + 3) ls rest)) : W p l e R s m args below meth c H locs cells slots Q (F0 m pc ls st) := by
  subst hst
  have hPc : va_P (sD S) vwCl [(q, .inr (ci, zs))] H := va_P_mem hW.1 (fun z hz => List.mem_append_right _ hz)
  have hDc : va_D A [(q, .inr (ci, zs))] := hW.2.1.sub [ws.length] rfl (by simp)
  have hK := X.2.2.2.2.2.2.1
  have hN := X.2.2.2.2.2.2.2
  exact nw_back hA hW (va_runIN (As := As) (rest := rest) ⟨X.1, X.2.1, X.2.2.1, X.2.2.2.1, X.2.2.2.2.1⟩ (hC l q H.size) ⟨va_cnB n X.2.2.2.2.1 (nw_good X hcode) rfl rfl rfl (hN.1 _ hnw) (X.w hini) hy hR, hname, X.w hi⟩
    ⟨fun a V g mk z => by obtain ⟨z0, z1, zP, zK, zD, zN⟩ := z; exact ⟨z0, z1, zP, va_K.moved (u := V) (U := V.calling g mk a) (Vm.Alike.refl V.vm) zK, zD, zN.calling⟩, fun V hV hWm => ⟨rfl, by rw [hV], by rw [hV]; exact hPc, va_K.moved hWm.alike hK, hDc.weaken (fun _ _ _ _ => trivial), hN.warm hWm⟩⟩
    rfl hn hls rfl (lv_room hroom) hd hcs) kk
theorem nw_callI {U : Type} {M' : Mt} {ci n q mc ms : Nat} {zs As : List Value} {CS : Nat → U → va_W} (X : Cg own cc nL Ts S p s m args c) (hA : ∀ q, H0.size ≤ q → A q) (hC : Ci M' S ci zs As CS mc ms) (hlink : Cond.methodLink own idx (my M') ∈ wAll) (hi : Cond.instanceMethod (my M') ∈ wAll) (hini : Cond.initialized (my M').cls ∈ wAll) (hcode : Cond.code (my M') (mb M') (mn M') none ∈ wAll) (hy : okY (my M') n) (hname : (my M').name = "<init>") (hR : md M' + 1 ≤ R.frames ∧ 8 + (mn M' + 11) + 40 * md M' ≤ R.locals) (hcs : cells + mc ≤ R.cells ∧ slots + ms ≤ R.slots) (hn : As.length = n) (hroom : (rest.map fun v => v.category).sum ≤ 8) (hst : st = As.reverse ++ .ref q :: rest) (hls : ls.size = nL) (hW : Wd S A H0 H locs (ws ++ [(q, .inr (ci, zs))])) (hd : decode cc pc = .ok (.invokespecial idx, 3))
    (kk : ∀ (a : U) (H1 : Heap) (locs1 : List Loc), Wd S A H0 H1 locs1 (ws ++ CS q a) → W p l e R s m args below meth c H1 locs1 (cells + mc) (slots + ms) Q (F0 m (pc + 3) ls rest)) : W p l e R s m args below meth c H locs cells slots Q (F0 m pc ls st) := by
  subst hst
  have hPc : va_P (sD S) vwCl [(q, .inr (ci, zs))] H := va_P_mem hW.1 (fun z hz => List.mem_append_right _ hz)
  have hDc : va_D A [(q, .inr (ci, zs))] := hW.2.1.sub [ws.length] rfl (by simp)
  have hK := X.2.2.2.2.2.2.1
  have hN := X.2.2.2.2.2.2.2
  exact nw_back hA hW (va_runI (As := As) (rest := rest) ⟨X.1, X.2.1, X.2.2.1, X.2.2.2.1, X.2.2.2.2.1⟩ (hC l q H.size) ⟨callB_of n X.2.2.2.2.1 (nw_good X hcode) rfl rfl rfl (X.w hini) (X.w hlink) hy hR, hname, X.w hi⟩
    ⟨fun a V g mk z => by obtain ⟨z0, z1, zP, zK, zD, zN⟩ := z; exact ⟨z0, z1, zP, va_K.moved (u := V) (U := V.calling g mk a) (Vm.Alike.refl V.vm) zK, zD, zN.calling⟩, fun V hV hWm => ⟨rfl, by rw [hV], by rw [hV]; exact hPc, va_K.moved hWm.alike hK, hDc.weaken (fun _ _ _ _ => trivial), hN.warm hWm⟩⟩
    rfl hn hls rfl (lv_room hroom) hd hcs) kk
/-- a call of a method whose contract speaks of all cells -/
theorem nw_callC {M' : Mt} {As fs : List Value} {σ : Mm} {t i k ci N n : Nat} {T : u_T} {Q' : Option Value → Mm → Prop} (X : Cg own cc nL Ts S p s m args c) (hE : En S A s s.heap) (hA : ∀ q, s.heap.size ≤ q → A q) (hw : LwV own idx M') (hy : okY (my M') n) (hR : md M' + 1 ≤ R.frames ∧ 8 + (mn M' + 11) + 40 * md M' ≤ R.locals) (hcs : cells ≤ R.cells ∧ slots ≤ R.slots) (hlv : lvq (sH S) t i k = true) (hc : cR S (mP σ) t i k (mA σ t i k) (mL σ t i k) = .inr (ci, fs)) (hcl : vwCl[ci]? = some ((my M').cls, T, N)) (hn : As.length = n) (hroom : (rest.map fun v => v.category).sum ≤ 8) (hst : st = As.reverse ++ .ref (sL S t i k) :: rest) (hls : ls.size = nL) (hW : Wd S A s.heap H locs (wr S σ)) (hd : decode cc pc = .ok (.invokevirtual idx, 3)) (hC : Ct M' S (.ref (sL S t i k) :: As) σ Q')
    (kk : ∀ (v : Option Value) (τ : Mm) (H1 : Heap) (locs1 : List Loc), Q' v τ → Wd S A s.heap H1 locs1 (wr S τ) → W p l e R s m args below meth c H1 locs1 cells slots Q (F0 m (pc + 3) ls (v.toList ++ rest))) : W p l e R s m args below meth c H locs cells slots Q (F0 m pc ls st) := by
  subst hst
  have hm : ∀ {w : Cond}, w ∈ wAll → w.before args s = true := fun h => X.w h
  obtain ⟨z, hz⟩ := ids_at hlv
  have ha := wr_at hz σ
  rw [hc] at ha
  have hG : GoodIn Ts (wM M') := by
    intro w hw'
    rcases List.mem_cons.mp hw' with rfl | hw'
    · exact ⟨X.2.2.2.2.2.1 _ hw.2.2.2.2, good_of_word (List.mem_filter.mp hw.2.2.2.2).2⟩
    · exact ⟨X.2.2.2.2.2.1 _ hw', good_of_word (List.mem_filter.mp hw').2⟩
  have hAd : ∀ q, Ad S H.size q → A q := by
    intro q hq
    rcases hq with ⟨y, hy', rfl⟩ | hq
    · obtain ⟨j, hj⟩ := List.getElem?_of_mem hy'
      have h1 : (wr S σ)[j]? = some (cl S σ y) := by unfold wr; rw [List.getElem?_map, hj]; rfl
      exact hW.2.1.2 j _ h1
    · exact hA q (Nat.le_trans hW.2.2.1 hq)
  have hr := va_runV (R := R) (e := e) (locs := locs) (meth := meth) (cells := cells) (slots := slots) (g := F0 m pc ls (As.reverse ++ .ref (sL S t i k) :: rest)) (As := As) (rest := rest) (below := below) ⟨X.1, X.2.1, X.2.2.1, X.2.2.2.1, X.2.2.2.2.1⟩ (hC l H.size) ⟨callB_of n X.2.2.2.2.1 hG rfl rfl rfl (hm hw.2.2.2.1) (hm hw.1) hy hR, hm hw.2.1, hm hw.2.2.1⟩
    ⟨fun a V g mk q => by obtain ⟨q0, q1, qP, qK, qD, qE⟩ := q; exact ⟨q0, q1, qP, va_K.moved (u := V) (U := V.calling g mk a) (Vm.Alike.refl V.vm) qK, qD, qE.calling⟩, va_recv X.2.2.2.2.2.2.1 hW.1 (ci := ci) (q0 := z) hcl ha, fun V hV hWm => ⟨rfl, by rw [hV], by rw [hV]; exact hW.1, va_K.moved hWm.alike X.2.2.2.2.2.2.1, hW.2.1.weaken (fun _ _ _ _ => trivial), by rw [hV]; exact hE.call hW.2.2.2.1 hAd hWm⟩⟩
    rfl hn hls rfl (lv_room hroom) hd hcs
  intro T0 hT Y
  obtain ⟨v, st₀, t1, T', L1, h0, X', hL1, e1, e2, ⟨⟨v', τ, hv, hq, hP1, hK1, hD1⟩, hz1, hk⟩, go⟩ := hr T0 hT Y
  cases hv
  rw [h0] at hz1 hk
  have hS' : va_S A s.heap T'.heap (locs ++ L1) := by
    refine ⟨Nat.le_trans hW.2.2.1 (by rw [e1]; exact hz1), fun q h1 h2 => ?_, fun q hq => ?_⟩
    · rw [e1, hk q (Nat.lt_of_lt_of_le h1 hW.2.2.1) (fun z => h2 (hAd q z))]
      exact hW.2.2.2.1 q h1 h2
    · rcases List.mem_append.mp hq with h | h
      · exact hW.2.2.2.2 q h
      · exact hAd _ (hL1 q h)
  obtain ⟨t2, a1, b1⟩ := kk v τ T'.heap (locs ++ L1) hq ⟨by rw [e1]; exact hP1, hD1.weaken (fun _ q _ h => hAd q.1 h), hS'⟩ T' rfl X'
  exact ⟨t2, go t2 a1, b1⟩
end MADE
