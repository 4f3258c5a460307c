/-- a method: its name, code, number of locals, type of answer, depth of its calls -/
abbrev Mt : Type := MethodName × ByteArray × Nat × Option FieldType × Nat
abbrev my (M : Mt) : MethodName := M.1
abbrev mb (M : Mt) : ByteArray := M.2.1
abbrev mn (M : Mt) : Nat := M.2.2.1
abbrev mr (M : Mt) : Option FieldType := M.2.2.2.1
abbrev md (M : Mt) : Nat := M.2.2.2.2
def wAll : List Cond := lw_tbl.filter goodWord
def wM (M : Mt) : List Cond := .code (my M) (mb M) (mn M) (mr M) :: wAll
def rM (d : Nat) : Room := { frames := d, cells := 0, slots := 0, locals := 40 * d }
theorem wAll_of {w : Cond} (h : w ∈ lw_tbl) (hg : goodWord w = true) : w ∈ wAll := List.mem_filter.mpr ⟨h, hg⟩
/-- which cells a method may change -/
def Ad (S : Shp) (sz : Nat) : Nat → Prop := fun q => (∃ z ∈ ids (sH S), q = sL S z.1 z.2.1 z.2.2) ∨ sz ≤ q
/-- the one text that the class holds, and what the JDK's statics say -/
def wtx : String := "stone hole  door  hill  sky   span  near  count if    or    and   not   year  heightgap   far   stonesmeant back  old   degree"
def wby : List Int32 := [115, 116, 111, 110, 101, 32, 104, 111, 108, 101, 32, 32, 100, 111, 111, 114, 32, 32, 104, 105, 108, 108, 32, 32, 115, 107, 121, 32, 32, 32, 115, 112, 97, 110, 32, 32, 110, 101, 97, 114, 32, 32, 99, 111, 117, 110, 116, 32, 105, 102, 32, 32, 32, 32, 111, 114, 32, 32, 32, 32, 97, 110, 100, 32, 32, 32, 110, 111, 116, 32, 32, 32, 121, 101, 97, 114, 32, 32, 104, 101, 105, 103, 104, 116, 103, 97, 112, 32, 32, 32, 102, 97, 114, 32, 32, 32, 115, 116, 111, 110, 101, 115, 109, 101, 97, 110, 116, 32, 98, 97, 99, 107, 32, 32, 111, 108, 100, 32, 32, 32, 100, 101, 103, 114, 101, 101]
/-- a static that is null, or a reference -/
def bV : Nat → Value
  | 0 => .null
  | n + 1 => .ref n
theorem bV_or : ∀ n : Nat, bV n = .null ∨ ∃ t : Nat, bV n = .ref t
  | 0 => Or.inl rfl
  | n + 1 => Or.inr ⟨n, rfl⟩
def En (S : Shp) (A : Nat → Prop) (U : State) (H : Heap) : Prop := va_Z "java/lang/String" "COMPACT_STRINGS" "Z" (.int 1) A U H ∧ vk_S 1 [126] [wby] (fun _ => sK S) (fun _ => sV S) A U H ∧ vk_R "SkyStones$Tape" 75 wtx (sK S) U ∧ va_Z "jdk/internal/util/Preconditions" "SIOOBE_FORMATTER" "Ljava/util/function/BiFunction;" (bV (sB S)) A U H
theorem En.call {S : Shp} {A B : Nat → Prop} {s U : State} {H H1 : Heap} (h : En S A s H) (hq : ∀ a : Nat, a < H.size → ¬ A a → H1[a]? = H[a]?) (hAB : ∀ q, B q → A q) (hW : s.WarmedH U.vm) : En S B U H1 :=
  ⟨((h.1.kept hq).narrow hAB).moved hW.alike, ((h.2.1.kept hq).narrow hAB).moved hW.alike, h.2.2.1.warm hW, ((h.2.2.2.kept hq).narrow hAB).moved hW.alike⟩
theorem En.calling {S : Shp} {A : Nat → Prop} {U : State} {H : Heap} {g : JFrame} {mk : MethodId} {a : Array Value} (h : En S A U H) : En S A (U.calling g mk a) H :=
  ⟨h.1.moved (u := U) (U := U.calling g mk a) (Vm.Alike.refl U.vm), h.2.1.moved (u := U) (U := U.calling g mk a) (Vm.Alike.refl U.vm), h.2.2.1.same rfl, h.2.2.2.moved (u := U) (U := U.calling g mk a) (Vm.Alike.refl U.vm)⟩
/-- what holds in a method's body whatever it does -/
def Cx (M : Mt) (S : Shp) (p : Program) (s : State) (m : MethodId) (args : Array Value) (meth : Method) (c : Code) : Prop :=
  p.tables.exec = Jvm.exec ∧ c.code = mb M ∧ c.maxLocals = mn M ∧ s.vm.findClass (my M).cls = some m.cls ∧ (∀ w ∈ wM M, w.before args s = true) ∧ meth.sig.returnType = mr M ∧ meth.locks = false ∧ va_K (sD S) vwCl (sT S) s ∧ En S (Ad S s.heap.size) s s.heap
def Qc (S : Shp) (sz : Nat) (Q : Option Value → Mm → Prop) : Array Value → State → Outcome → State → Prop := fun _ st oc t =>
  (∃ (v : Option Value) (σ : Mm), oc = .returned v ∧ Q v σ ∧ va_P (sD S) vwCl (wr S σ) t.heap ∧ va_K (sD S) vwCl (sT S) t ∧ va_D (Ad S sz) (wr S σ)) ∧ va_F (Ad S sz) st t
/-- the machine, in M's body at pc with locals lv and stack st over the memory σ, comes to M's end with Q -/
def Z (M : Mt) (S : Shp) (Q : Option Value → Mm → Prop) (pc : Nat) (lv : List (Nat × Value)) (st : List Value) (σ : Mm) : Prop :=
  ∀ (p : Program) (l : Launch) (e : Env) (s : State) (m : MethodId) (args : Array Value) (below : List Frame) (meth : Method) (c : Code), Cx M S p s m args meth c →
  ∀ (H : Heap) (locs : List Loc) (ls : Array Slot), lv_has ls (mn M) lv → va_P (sD S) vwCl (wr S σ) H → va_D (Ad S s.heap.size) (wr S σ) → va_S (Ad S s.heap.size) s.heap H locs →
  W p l e (rM (md M)) s m args below meth c H locs 0 0 (MQ below (Qc S s.heap.size Q) args s 0 0 (Ad S s.heap.size)) (F0 m pc ls st)
/-- a method's contract: over the memory σ, with the arguments As, it returns, with Q -/
def Ct (M : Mt) (S : Shp) (As : List Value) (σ : Mm) (Q : Option Value → Mm → Prop) : Prop :=
  ∀ (l : Launch) (sz : Nat), Met l (my M) (wM M) (rM (md M)) (va_Pc As (fun U => U.heap.size = sz ∧ va_P (sD S) vwCl (wr S σ) U.heap ∧ va_K (sD S) vwCl (sT S) U ∧ va_D (fun _ => True) (wr S σ) ∧ En S (Ad S sz) U U.heap)) (Qc S sz Q) 0 0 (Ad S sz)
theorem wr_Ad {S : Shp} {σ : Mm} {sz k : Nat} {q : Nat × va_E} (h : (wr S σ)[k]? = some q) : Ad S sz q.1 := by
  unfold wr at h
  rw [List.getElem?_map] at h
  cases hi : (ids (sH S))[k]? with
  | none => rw [hi] at h; cases h
  | some z =>
    rw [hi] at h
    cases h
    exact Or.inl ⟨z, List.mem_of_getElem? hi, rfl⟩
theorem Met.ofWF {l : Launch} {y : MethodName} {ws ws' : List Cond} {rm : Room} {Pc : Array Value → State → Prop} {Qc : Array Value → State → Outcome → State → Prop} {mc ms : Nat} {free : Addr → Prop} {cc : ByteArray} {maxL : Nat} {ret : Option FieldType}
    (hy : plainFor y = true) (hw : ws = Cond.code y cc maxL ret :: ws')
    (body : ∀ p e s m args below meth c s₁, BodyLoose p l y (headSpec ws rm) cc maxL ret e s m args below meth c s₁ → c.maxLocals = maxL → Pc args s →
      W p l e (headSpec ws rm).room s m args below meth c s.heap [] 0 0 (MQ below Qc args s mc ms free) (entryFrame m args maxL)) : Met l y ws rm Pc Qc mc ms free := by
  refine MetFree.of_bodySF (code := cc) (maxLocals := maxL) (ret := ret) hy ?_ ?_
  · intro args s m h hn
    obtain ⟨meth, c, h1, h2, h3, h4, h5, h6, -, -⟩ := Cond.code_spec hn (atoms_spec (ws := ws) h _ (by rw [hw]; exact List.mem_cons_self))
    exact ⟨meth, c, h1, h2, h3, h4, h5, h6⟩
  · intro p e s m args below meth c s₁ B hml hP _
    have hh0 : s₁.heap = s.heap := by rw [B.state]; rfl
    obtain ⟨t, a1, o, b1, b2, b3⟩ := body p e s m args below meth c s₁ B hml hP s₁ hh0 (Stand.of_body B)
    exact ⟨t, o, a1, b1, b2, ⟨b3.1, b3.2⟩⟩
theorem Ct.of {M : Mt} {S : Shp} {As : List Value} {σ : Mm} {Q : Option Value → Mm → Prop} (hy : plainFor (my M) = true) (hn : (lg_sl As).length ≤ mn M) (h : Z M S Q 0 (lv_args 0 As) [] σ) : Ct M S As σ Q := by
  intro l sz
  refine Met.ofWF (cc := mb M) (maxL := mn M) (ret := mr M) hy rfl ?_
  intro p e s m args below meth c s₁ B hml hv
  obtain ⟨rfl, hsz, hP, hK, hD0, hE⟩ := hv
  subst hsz
  have hl := lv_entry As hn
  rw [lg_entry_eq]
  exact h p l e s m _ below meth c ⟨B.exec, B.bytes, hml, findClass_of_methodNamed B.named, atoms_spec (ws := wM M) B.pre, B.returns, B.notSynchronized, hK, hE⟩ s.heap [] _ hl hP ⟨hD0.1, fun k q hk => wr_Ad hk⟩ va_S.rf
theorem Ct.mono {M : Mt} {S : Shp} {As : List Value} {σ : Mm} {Q Q' : Option Value → Mm → Prop} (h : Ct M S As σ Q) (hq : ∀ v τ, Q v τ → Q' v τ) : Ct M S As σ Q' := by
  intro l sz
  have h1 := h l sz
  unfold Met at h1 ⊢
  intro p e ha hc hk s m args below hf happ hP hK
  obtain ⟨k, o, a1, a2, a3, ⟨⟨v, τ, b1, b2, b3⟩, b4⟩, b5⟩ := h1 p e ha hc hk s m args below hf happ hP hK
  exact ⟨k, o, a1, a2, a3, ⟨⟨v, τ, b1, hq v τ b2, b3⟩, b4⟩, b5⟩
theorem Z.lv {M : Mt} {S : Shp} {Q : Option Value → Mm → Prop} {pc : Nat} {lv lv' : List (Nat × Value)} {st : List Value} {σ : Mm} (is : List Nat) (h : lv_pick lv is = lv') (k : Z M S Q pc lv' st σ) : Z M S Q pc lv st σ :=
  fun p l e s m args below meth c C H locs ls hl hP hD hS => k p l e s m args below meth c C H locs ls (lv_sub hl is h) hP hD hS
