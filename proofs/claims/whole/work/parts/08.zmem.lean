section ZM
variable {M M' : Mt} {S : Shp} {Q Q' : Option Value → Mm → Prop} {pc : Nat} {lv : List (Nat × Value)} {st rest As : List Value} {σ : Mm} {t i k ci f idx n N : Nat} {C : String} {T : u_T}
theorem z_get {fs : List Value} {v : Value} (hlv : lvq (sH S) t i k = true) (hc : cR S (mP σ) t i k (mA σ t i k) (mL σ t i k) = .inr (ci, fs)) (hcl : vwCl[ci]? = some (C, T, N)) (hin : ∀ w ∈ u_ws C T N, w ∈ wAll) (hf : f < N) (hlink : Cond.fieldLink (my M).cls idx (T f).1 (T f).2.1 (T f).2.2.1 ∈ wAll) (hv : fs[f]? = some v) (hd : decode (mb M) pc = .ok (.getfield idx, 3)) (kk : Z M S Q (pc + 3) lv (v :: st) σ) : Z M S Q pc lv (.ref (sL S t i k) :: st) σ := by
  intro p l e s m args below meth c X H locs ls hl hP hD hS
  obtain ⟨z, hz⟩ := ids_at hlv
  have ha := wr_at hz σ
  rw [hc] at ha
  exact va_get X.1 X.2.1 X.2.2.2.2.1 (fun w h => List.mem_cons_of_mem _ (hin w h)) X.2.2.2.1 X.2.2.2.2.2.2.2.1 hP z ha hcl f hf (X.2.2.2.2.1 _ (List.mem_cons_of_mem _ hlink)) (fun _ h => h) hv hd (kk p l e s m args below meth c X H locs ls hl hP hD hS)
/-- a field of ints or booleans is set -/
theorem z_put {fs : (Nat → Int32) → List Value} {x : Int32} {ty : FieldType} {ty0 : Nat → FieldType} (hlv : lvq (sH S) t i k = true) (hc : ∀ r, cR S (mP σ) t i k r (mL σ t i k) = .inr (ci, fs r)) (hcl : vwCl[ci]? = some (C, T, N)) (hin : ∀ w ∈ u_ws C T N, w ∈ wAll) (hty : ∀ k, k < N → parseFieldDescriptor (T k).2.2.1 = some (ty0 k)) (hnm : ∀ a, a < N → ∀ b, b < N → a ≠ b → (T a).2.1 ≠ (T b).2.1) (hf : f < N) (hlink : Cond.fieldLink (my M).cls idx (T f).1 (T f).2.1 (T f).2.2.1 ∈ wAll) (hfin : (T f).2.2.2 = false) (hp : parseFieldDescriptor (T f).2.2.1 = some ty) (hn : narrow ty (.int x) = .int x) (hfit : fits ty (.int x) = true) (hl' : f < (fs (mA σ t i k)).length) (hset : (fs (mA σ t i k)).set f (.int x) = fs (upd (mA σ t i k) f x)) (hd : decode (mb M) pc = .ok (.putfield idx, 3)) (kk : Z M S Q (pc + 3) lv st (setA σ t i k (upd (mA σ t i k) f x))) : Z M S Q pc lv (.int x :: .ref (sL S t i k) :: st) σ := by
  intro p l e s m args below meth c X H locs ls hl hP hD hS
  obtain ⟨z, hz⟩ := ids_at hlv
  have ha := wr_at hz σ
  rw [hc] at ha
  refine va_put X.1 X.2.1 X.2.2.2.2.1 (fun w h => List.mem_cons_of_mem _ (hin w h)) ty0 hty hnm X.2.2.2.1 X.2.2.2.2.2.2.2.1 hP hD hS z ha hcl f hf (X.2.2.2.2.1 _ (List.mem_cons_of_mem _ hlink)) (fun _ h => h) hfin hp hn hfit hl' hd (fun H1 locs1 hP hD hS => ?_)
  rw [hset, ← hc, wr_setA hz] at hP hD
  exact kk p l e s m args below meth c X H1 locs1 ls hl hP hD hS
theorem z_iaload {x : Int32} (hlv : lvq (sH S) t i k = true) (hc : ∀ r lr, cR S (mP σ) t i k r lr = .inl (sE S 0, n, .inl r)) (hin : vp_in x n) (hd : decode (mb M) pc = .ok (.iaload, 1)) (kk : Z M S Q (pc + 1) lv (.int (mA σ t i k x.toNatClampNeg) :: st) σ) : Z M S Q pc lv (.int x :: .ref (sL S t i k) :: st) σ := by
  intro p l e s m args below meth c X H locs ls hl hP hD hS
  obtain ⟨z, hz⟩ := ids_at hlv
  have ha := wr_at hz σ
  rw [hc] at ha
  exact va_iald X.1 X.2.1 X.2.2.2.2.2.2.2.1 hP z 0 ha rfl hin hd (kk p l e s m args below meth c X H locs ls hl hP hD hS)
theorem z_baload {x : Int32} (hlv : lvq (sH S) t i k = true) (hc : ∀ r lr, cR S (mP σ) t i k r lr = .inl (sE S 1, n, .inl r)) (hin : vp_in x n) (hd : decode (mb M) pc = .ok (.baload, 1)) (kk : Z M S Q (pc + 1) lv (.int (mA σ t i k x.toNatClampNeg) :: st) σ) : Z M S Q pc lv (.int x :: .ref (sL S t i k) :: st) σ := by
  intro p l e s m args below meth c X H locs ls hl hP hD hS
  obtain ⟨z, hz⟩ := ids_at hlv
  have ha := wr_at hz σ
  rw [hc] at ha
  exact va_bald X.1 X.2.1 X.2.2.2.2.2.2.2.1 hP z 1 ha rfl hin hd (kk p l e s m args below meth c X H locs ls hl hP hD hS)
theorem z_zaload {x : Int32} (hlv : lvq (sH S) t i k = true) (hc : ∀ r lr, cR S (mP σ) t i k r lr = .inl (sE S 2, n, .inl r)) (hin : vp_in x n) (hd : decode (mb M) pc = .ok (.baload, 1)) (kk : Z M S Q (pc + 1) lv (.int (mA σ t i k x.toNatClampNeg) :: st) σ) : Z M S Q pc lv (.int x :: .ref (sL S t i k) :: st) σ := by
  intro p l e s m args below meth c X H locs ls hl hP hD hS
  obtain ⟨z, hz⟩ := ids_at hlv
  have ha := wr_at hz σ
  rw [hc] at ha
  exact va_zald X.1 X.2.1 X.2.2.2.2.2.2.2.1 hP z 2 ha rfl hin hd (kk p l e s m args below meth c X H locs ls hl hP hD hS)
theorem z_laload {x : Int32} (hlv : lvq (sH S) t i k = true) (hc : ∀ r lr, cR S (mP σ) t i k r lr = .inl (sE S 3, n, .inr (.inl lr))) (hin : vp_in x n) (hd : decode (mb M) pc = .ok (.laload, 1)) (kk : Z M S Q (pc + 1) lv (.long (mL σ t i k x.toNatClampNeg) :: st) σ) : Z M S Q pc lv (.int x :: .ref (sL S t i k) :: st) σ := by
  intro p l e s m args below meth c X H locs ls hl hP hD hS
  obtain ⟨z, hz⟩ := ids_at hlv
  have ha := wr_at hz σ
  rw [hc] at ha
  exact va_lald X.1 X.2.1 X.2.2.2.2.2.2.2.1 hP z 3 ha rfl hin hd (kk p l e s m args below meth c X H locs ls hl hP hD hS)
theorem z_iastore {x y : Int32} (hlv : lvq (sH S) t i k = true) (hc : ∀ r lr, cR S (mP σ) t i k r lr = .inl (sE S 0, n, .inl r)) (hin : vp_in x n) (hd : decode (mb M) pc = .ok (.iastore, 1)) (kk : Z M S Q (pc + 1) lv st (setA σ t i k (upd (mA σ t i k) x.toNatClampNeg y))) : Z M S Q pc lv (.int y :: .int x :: .ref (sL S t i k) :: st) σ := by
  intro p l e s m args below meth c X H locs ls hl hP hD hS
  obtain ⟨z, hz⟩ := ids_at hlv
  have ha := wr_at hz σ
  rw [hc] at ha
  refine va_iast X.1 X.2.1 X.2.2.2.2.2.2.2.1 hP hD hS z 0 ha rfl hin hd (fun H1 locs1 hP hD hS => ?_)
  rw [← hc _ (mL σ t i k), wr_setA hz] at hP hD
  exact kk p l e s m args below meth c X H1 locs1 ls hl hP hD hS
theorem z_bastore {x y : Int32} (hlv : lvq (sH S) t i k = true) (hc : ∀ r lr, cR S (mP σ) t i k r lr = .inl (sE S 1, n, .inl r)) (hin : vp_in x n) (hd : decode (mb M) pc = .ok (.bastore, 1)) (kk : Z M S Q (pc + 1) lv st (setA σ t i k (upd (mA σ t i k) x.toNatClampNeg (vp_nar .byte y)))) : Z M S Q pc lv (.int y :: .int x :: .ref (sL S t i k) :: st) σ := by
  intro p l e s m args below meth c X H locs ls hl hP hD hS
  obtain ⟨z, hz⟩ := ids_at hlv
  have ha := wr_at hz σ
  rw [hc] at ha
  refine va_bast X.1 X.2.1 X.2.2.2.2.2.2.2.1 hP hD hS z 1 ha rfl hin hd (fun H1 locs1 hP hD hS => ?_)
  rw [← hc _ (mL σ t i k), wr_setA hz] at hP hD
  exact kk p l e s m args below meth c X H1 locs1 ls hl hP hD hS
theorem z_zastore {x y : Int32} (hlv : lvq (sH S) t i k = true) (hc : ∀ r lr, cR S (mP σ) t i k r lr = .inl (sE S 2, n, .inl r)) (hin : vp_in x n) (hd : decode (mb M) pc = .ok (.bastore, 1)) (kk : Z M S Q (pc + 1) lv st (setA σ t i k (upd (mA σ t i k) x.toNatClampNeg (vp_nar .boolean y)))) : Z M S Q pc lv (.int y :: .int x :: .ref (sL S t i k) :: st) σ := by
  intro p l e s m args below meth c X H locs ls hl hP hD hS
  obtain ⟨z, hz⟩ := ids_at hlv
  have ha := wr_at hz σ
  rw [hc] at ha
  refine va_zast X.1 X.2.1 X.2.2.2.2.2.2.2.1 hP hD hS z 2 ha rfl hin hd (fun H1 locs1 hP hD hS => ?_)
  rw [← hc _ (mL σ t i k), wr_setA hz] at hP hD
  exact kk p l e s m args below meth c X H1 locs1 ls hl hP hD hS
theorem z_lastore {x : Int32} {y : Int64} (hlv : lvq (sH S) t i k = true) (hc : ∀ r lr, cR S (mP σ) t i k r lr = .inl (sE S 3, n, .inr (.inl lr))) (hin : vp_in x n) (hd : decode (mb M) pc = .ok (.lastore, 1)) (kk : Z M S Q (pc + 1) lv st (setL σ t i k (vp_updL (mL σ t i k) x.toNatClampNeg y))) : Z M S Q pc lv (.long y :: .int x :: .ref (sL S t i k) :: st) σ := by
  intro p l e s m args below meth c X H locs ls hl hP hD hS
  obtain ⟨z, hz⟩ := ids_at hlv
  have ha := wr_at hz σ
  rw [hc] at ha
  refine va_last X.1 X.2.1 X.2.2.2.2.2.2.2.1 hP hD hS z 3 ha rfl hin hd (fun H1 locs1 hP hD hS => ?_)
  rw [← hc (mA σ t i k), wr_setL hz] at hP hD
  exact kk p l e s m args below meth c X H1 locs1 ls hl hP hD hS
end ZM
