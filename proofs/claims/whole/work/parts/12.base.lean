/-! what the decompiled functions are made of, and the rows that the decompiler's proofs use -/
def FU : Nat := 1000000
def inb (x : Int32) (n : Nat) : Bool := decide (¬ (x < 0 ∨ n ≤ x.toNatClampNeg))
theorem inb_in {x : Int32} {n : Nat} (h : inb x n = true) : vp_in x n := (of_decide_eq_true h : ¬ (x < 0 ∨ n ≤ x.toNatClampNeg))
def isB (x : Int32) : Bool := decide (x = 0 ∨ x = 1)
theorem isB_n {x : Int32} (h : isB x = true) : narrow .boolean (.int x) = .int x := by
  rcases of_decide_eq_true h with rfl | rfl <;> rfl
theorem isB_f {x : Int32} (h : isB x = true) : fits .boolean (.int x) = true := by
  rcases of_decide_eq_true h with rfl | rfl <;> rfl
theorem gd {α : Type} {c : Prop} [Decidable c] {a : Option α} {r : α} (h : (if c then a else none) = some r) : c ∧ a = some r := by
  by_cases hc : c
  · exact ⟨hc, (if_pos hc).symm.trans h⟩
  · exact absurd ((if_neg hc).symm.trans h) (fun z => by cases z)
def bnd {β : Type} (o : Option (Int32 × Mm)) (f : Int32 → Mm → Option β) : Option β := match o with
  | none => none
  | some q => f q.1 q.2
def bnl {β : Type} (o : Option (Int64 × Mm)) (f : Int64 → Mm → Option β) : Option β := match o with
  | none => none
  | some q => f q.1 q.2
def bnv {β : Type} (o : Option Mm) (f : Mm → Option β) : Option β := match o with
  | none => none
  | some q => f q
theorem bnd_e {β : Type} {o : Option (Int32 × Mm)} {f : Int32 → Mm → Option β} {r : β} (h : bnd o f = some r) : ∃ v τ, o = some (v, τ) ∧ f v τ = some r := by
  cases o with
  | none => cases h
  | some q => exact ⟨q.1, q.2, rfl, h⟩
theorem bnl_e {β : Type} {o : Option (Int64 × Mm)} {f : Int64 → Mm → Option β} {r : β} (h : bnl o f = some r) : ∃ v τ, o = some (v, τ) ∧ f v τ = some r := by
  cases o with
  | none => cases h
  | some q => exact ⟨q.1, q.2, rfl, h⟩
theorem bnv_e {β : Type} {o : Option Mm} {f : Mm → Option β} {r : β} (h : bnv o f = some r) : ∃ τ, o = some τ ∧ f τ = some r := by
  cases o with
  | none => cases h
  | some q => exact ⟨q, rfl, h⟩
def tlv (h : Nat → Bool) (i : Nat) : Bool := Nat.blt i 2 || (Nat.blt i 5 && h (i - 2))
def slv (h : Nat → Bool) (i : Nat) : Bool := Nat.beq i 0 || (Nat.blt i 4 && h (i - 1))
theorem lv1 {h : Nat → Bool} {i k : Nat} (a : tlv h i = true) (b : Nat.blt k 16 = true) : lvq h 1 i k = true := by
  show (tlv h i && Nat.blt k 16) = true
  rw [a, b]; rfl
theorem lv2 {h : Nat → Bool} {i k : Nat} (a : slv h i = true) (b : Nat.blt k 6 = true) : lvq h 2 i k = true := by
  show (slv h i && Nat.blt k 6) = true
  rw [a, b]; rfl
def okP (σ : Mm) : Bool := Nat.blt (mP σ 0) 2 && (Nat.blt (mP σ 1) 2 && Nat.blt (mP σ 2) 2)
theorem tlv_lt {h : Nat → Bool} {i : Nat} (a : Nat.blt i 2 = true) : tlv h i = true := by unfold tlv; rw [a]; rfl
theorem okP_0 {h : Nat → Bool} {σ : Mm} (a : okP σ = true) : tlv h (mP σ 0) = true := by
  simp only [okP, Bool.and_eq_true] at a; exact tlv_lt a.1
theorem okP_1 {h : Nat → Bool} {σ : Mm} (a : okP σ = true) : tlv h (mP σ 1) = true := by
  simp only [okP, Bool.and_eq_true] at a; exact tlv_lt a.2.1
theorem okP_2 {h : Nat → Bool} {σ : Mm} (a : okP σ = true) : tlv h (mP σ 2) = true := by
  simp only [okP, Bool.and_eq_true] at a; exact tlv_lt a.2.2
abbrev Qi (r : Int32 × Mm) : Option Value → Mm → Prop := fun v τ => v = some (.int r.1) ∧ τ = r.2
abbrev Ql (r : Int64 × Mm) : Option Value → Mm → Prop := fun v τ => v = some (.long r.1) ∧ τ = r.2
abbrev Qv (r : Mm) : Option Value → Mm → Prop := fun v τ => v = none ∧ τ = r
theorem nei {x c : Int32} {n : Int} (hc : c.toInt = n) (h : ¬ x = c) : x.toInt ≠ n := fun z => h (Int32.toInt_inj.mp (z.trans hc.symm))
section ZX
variable {M : Mt} {S : Shp} {Q : Option Value → Mm → Prop} {pc : Nat} {lv : List (Nat × Value)} {st : List Value} {σ : Mm}
theorem z_lcmp {x y : Int64} (hd : decode (mb M) pc = .ok (.lcmp, 1)) (k : Z M S Q (pc + 1) lv (.int (lg_cmp x y) :: st) σ) : Z M S Q pc lv (.long y :: .long x :: st) σ := fun p l e s m args below meth c C H locs ls hl hP hD hS => W.lcmp C.1 C.2.1 hd (k p l e s m args below meth c C H locs ls hl hP hD hS)
theorem z_ldcw {ix : Nat} {v : Int32} (hw : Cond.constant (my M).cls ix v ∈ wAll) (hd : decode (mb M) pc = .ok (.ldc_w ix, 3)) (k : Z M S Q (pc + 3) lv (.int v :: st) σ) : Z M S Q pc lv st σ := fun p l e s m args below meth c C H locs ls hl hP hD hS => lv_ldcw C.1 C.2.1 C.2.2.2.1 (C.2.2.2.2.1 _ (List.mem_cons_of_mem _ hw)) hd (k p l e s m args below meth c C H locs ls hl hP hD hS)
theorem z_ifnull {x : Nat} {off : Int} (hd : decode (mb M) pc = .ok (.ifnull off, 3)) (k : Z M S Q (pc + 3) lv st σ) : Z M S Q pc lv (.ref x :: st) σ := fun p l e s m args below meth c C H locs ls hl hP hD hS => lv_ifnull C.1 C.2.1 hd (k p l e s m args below meth c C H locs ls hl hP hD hS)
theorem z_ifnonnull {x : Nat} {off : Int} {tgt : Nat} (hd : decode (mb M) pc = .ok (.ifnonnull off, 3)) (ht : (pc : Int) + off = (tgt : Int)) (k : Z M S Q tgt lv st σ) : Z M S Q pc lv (.ref x :: st) σ := fun p l e s m args below meth c C H locs ls hl hP hD hS => lv_ifnonnull C.1 C.2.1 hd ht (k p l e s m args below meth c C H locs ls hl hP hD hS)
theorem z_tableIn {dflt lo hi : Int} {offs : Array Int} {len : Nat} {x : Int32} {off : Int} {tgt : Nat} (hd : decode (mb M) pc = .ok (.tableswitch dflt lo hi offs, len)) (h1 : ¬ x.toInt < lo) (h2 : ¬ hi < x.toInt) (ho : offs[(x.toInt - lo).toNat]? = some off) (ht : (pc : Int) + off = (tgt : Int)) (k : Z M S Q tgt lv st σ) : Z M S Q pc lv (.int x :: st) σ := fun p l e s m args below meth c C H locs ls hl hP hD hS => lv_tableIn C.1 C.2.1 hd h1 h2 ho ht (k p l e s m args below meth c C H locs ls hl hP hD hS)
theorem z_tableOut {dflt lo hi : Int} {offs : Array Int} {len : Nat} {x : Int32} {tgt : Nat} (hd : decode (mb M) pc = .ok (.tableswitch dflt lo hi offs, len)) (h1 : x.toInt < lo ∨ hi < x.toInt) (ht : (pc : Int) + dflt = (tgt : Int)) (k : Z M S Q tgt lv st σ) : Z M S Q pc lv (.int x :: st) σ := fun p l e s m args below meth c C H locs ls hl hP hD hS => lv_tableOut C.1 C.2.1 hd h1 ht (k p l e s m args below meth c C H locs ls hl hP hD hS)
theorem z_lookup {dflt : Int} {ps : Array (Int × Int)} {len : Nat} {x : Int32} {off : Int} {tgt : Nat} (hd : decode (mb M) pc = .ok (.lookupswitch dflt ps, len)) (hp : (ps.toList.zip (ps.toList.drop 1)).all (fun (a, next) => a.1 < next.1) = true) (ho : Op.lookupswitch.offset ps.toList dflt x.toInt = off) (ht : (pc : Int) + off = (tgt : Int)) (k : Z M S Q tgt lv st σ) : Z M S Q pc lv (.int x :: st) σ := fun p l e s m args below meth c C H locs ls hl hP hD hS => lv_lookup C.1 C.2.1 hd hp ho ht (k p l e s m args below meth c C H locs ls hl hP hD hS)
end ZX
