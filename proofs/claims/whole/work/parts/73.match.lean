/-! matchings: the greatest number of pairs that share nothing -/
def fl (L : List (Nat × Nat)) : List Nat := L.flatMap (fun p => [p.1, p.2])
theorem fl_cons {p : Nat × Nat} {L : List (Nat × Nat)} : fl (p :: L) = p.1 :: p.2 :: fl L := rfl
theorem fl_app {A B : List (Nat × Nat)} : fl (A ++ B) = fl A ++ fl B := by
  unfold fl; rw [List.flatMap_append]
theorem fl_mem {L : List (Nat × Nat)} {x : Nat} : x ∈ fl L ↔ ∃ p ∈ L, x = p.1 ∨ x = p.2 := by
  induction L with
  | nil => exact ⟨fun h => (by cases h), fun ⟨p, hp, _⟩ => (by cases hp)⟩
  | cons p L ih =>
    rw [fl_cons, List.mem_cons, List.mem_cons, ih]
    constructor
    · rintro (h | h | ⟨q, hq, h⟩)
      · exact ⟨p, List.mem_cons_self, Or.inl h⟩
      · exact ⟨p, List.mem_cons_self, Or.inr h⟩
      · exact ⟨q, List.mem_cons_of_mem _ hq, h⟩
    · rintro ⟨q, hq, h⟩
      rcases List.mem_cons.mp hq with rfl | hq
      · rcases h with h | h
        · exact Or.inl h
        · exact Or.inr (Or.inl h)
      · exact Or.inr (Or.inr ⟨q, hq, h⟩)
def Mch (adj : Nat → Nat → Bool) (S : Nat → Prop) (L : List (Nat × Nat)) : Prop := (∀ p ∈ L, adj p.1 p.2 = true ∧ S p.1 ∧ S p.2) ∧ (fl L).Nodup
def MM (adj : Nat → Nat → Bool) (S : Nat → Prop) (v : Nat) : Prop := (∃ L, Mch adj S L ∧ L.length = v) ∧ ∀ L, Mch adj S L → L.length ≤ v
theorem MM.uniq {adj : Nat → Nat → Bool} {S : Nat → Prop} {v v' : Nat} (h : MM adj S v) (h' : MM adj S v') : v = v' := by
  obtain ⟨⟨L, h1, h2⟩, h3⟩ := h
  obtain ⟨⟨L', h1', h2'⟩, h3'⟩ := h'
  have := h3 L' h1'
  have := h3' L h1
  omega
theorem MM.cong {adj : Nat → Nat → Bool} {S T : Nat → Prop} {v : Nat} (h : MM adj S v) (hS : ∀ x, S x ↔ T x) : MM adj T v := by
  have : S = T := funext fun x => propext (hS x)
  rw [← this]; exact h
theorem MM_step {adj : Nat → Nat → Bool} (hsym : ∀ a b, adj a b = adj b a) {S S' : Nat → Prop} {a : Nat} (hS : ∀ x, S x ↔ x = a ∨ S' x) (ha : ¬ S' a) {v0 v : Nat} (h0 : MM adj S' v0) {w : Nat → Nat}
    (hw : ∀ b, S' b → adj a b = true → MM adj (fun x => S' x ∧ x ≠ b) (w b)) (hv0 : v0 ≤ v) (hvb : ∀ b, S' b → adj a b = true → w b + 1 ≤ v) (hv : v = v0 ∨ ∃ b, S' b ∧ adj a b = true ∧ v = w b + 1) : MM adj S v := by
  refine ⟨?_, fun L hL => ?_⟩
  · rcases hv with rfl | ⟨b, hb, hab, rfl⟩
    · obtain ⟨⟨L, h1, h2⟩, -⟩ := h0
      exact ⟨L, ⟨fun p hp => ⟨(h1.1 p hp).1, (hS _).mpr (Or.inr (h1.1 p hp).2.1), (hS _).mpr (Or.inr (h1.1 p hp).2.2)⟩, h1.2⟩, h2⟩
    · obtain ⟨⟨L, h1, h2⟩, -⟩ := hw b hb hab
      refine ⟨(a, b) :: L, ⟨fun p hp => ?_, ?_⟩, by rw [List.length_cons, h2]⟩
      · rcases List.mem_cons.mp hp with rfl | hp
        · exact ⟨hab, (hS _).mpr (Or.inl rfl), (hS _).mpr (Or.inr hb)⟩
        · obtain ⟨z1, z2, z3⟩ := h1.1 p hp
          exact ⟨z1, (hS _).mpr (Or.inr z2.1), (hS _).mpr (Or.inr z3.1)⟩
      · rw [fl_cons]
        refine List.nodup_cons.mpr ⟨fun z => ?_, List.nodup_cons.mpr ⟨fun z => ?_, h1.2⟩⟩
        · rcases List.mem_cons.mp z with z | z
          · have z : a = b := z
            exact ha (z ▸ hb)
          · obtain ⟨p, hp, e⟩ := fl_mem.mp z
            obtain ⟨-, z2, z3⟩ := h1.1 p hp
            have e : a = p.1 ∨ a = p.2 := e
            rcases e with e | e
            · exact ha (by rw [e]; exact z2.1)
            · exact ha (by rw [e]; exact z3.1)
        · obtain ⟨p, hp, e⟩ := fl_mem.mp z
          obtain ⟨-, z2, z3⟩ := h1.1 p hp
          rcases e with e | e
          · exact z2.2 e.symm
          · exact z3.2 e.symm
  · by_cases hq : ∃ p ∈ L, p.1 = a ∨ p.2 = a
    · obtain ⟨p, hp, e⟩ := hq
      obtain ⟨A, B, rfl⟩ := List.append_of_mem hp
      have hn := hL.2
      rw [fl_app, fl_cons] at hn
      obtain ⟨n1, n2, n3⟩ := List.nodup_append.mp hn
      obtain ⟨m1, m2⟩ := List.nodup_cons.mp n2
      obtain ⟨k1, k2⟩ := List.nodup_cons.mp m2
      have hpp : p.1 ≠ p.2 := fun z => m1 (by rw [z]; exact List.mem_cons_self)
      obtain ⟨z1, z2, z3⟩ := hL.1 p hp
      obtain ⟨b, hb, hab, hba, hSb⟩ : ∃ b, (b = p.1 ∧ p.2 = a ∨ b = p.2 ∧ p.1 = a) ∧ adj a b = true ∧ b ≠ a ∧ S b := by
        rcases e with e | e
        · exact ⟨p.2, Or.inr ⟨rfl, e⟩, by rw [← e]; exact z1, by rw [← e]; exact hpp.symm, z3⟩
        · exact ⟨p.1, Or.inl ⟨rfl, e⟩, by rw [← e, hsym]; exact z1, by rw [← e]; exact hpp, z2⟩
      have hSb' : S' b := ((hS b).mp hSb).resolve_left hba
      have hx : ∀ x, x ∈ fl (A ++ B) → x ≠ p.1 ∧ x ≠ p.2 := by
        intro x hx
        rw [fl_app] at hx
        rcases List.mem_append.mp hx with hx | hx
        · exact ⟨n3 x hx p.1 List.mem_cons_self, n3 x hx p.2 (List.mem_cons_of_mem _ List.mem_cons_self)⟩
        · exact ⟨fun z => m1 (List.mem_cons_of_mem _ (by rw [← z]; exact hx)), fun z => k1 (by rw [← z]; exact hx)⟩
      have hy : ∀ x, x ≠ p.1 ∧ x ≠ p.2 → S x → S' x ∧ x ≠ b := by
        intro x ⟨h1, h2⟩ hx
        have ha' : x ≠ a := by
          rcases e with e | e
          · rw [← e]; exact h1
          · rw [← e]; exact h2
        refine ⟨((hS x).mp hx).resolve_left ha', ?_⟩
        rcases hb with ⟨hb, -⟩ | ⟨hb, -⟩
        · rw [hb]; exact h1
        · rw [hb]; exact h2
      have hr : Mch adj (fun x => S' x ∧ x ≠ b) (A ++ B) := by
        refine ⟨fun q hq => ?_, ?_⟩
        · have hq' : q ∈ A ++ p :: B := by
            rcases List.mem_append.mp hq with h | h
            · exact List.mem_append_left _ h
            · exact List.mem_append_right _ (List.mem_cons_of_mem _ h)
          obtain ⟨y1, y2, y3⟩ := hL.1 q hq'
          exact ⟨y1, hy _ (hx _ (fl_mem.mpr ⟨q, hq, Or.inl rfl⟩)) y2, hy _ (hx _ (fl_mem.mpr ⟨q, hq, Or.inr rfl⟩)) y3⟩
        · rw [fl_app]; exact List.nodup_append.mpr ⟨n1, k2, fun x hx y hy => n3 x hx y (List.mem_cons_of_mem _ (List.mem_cons_of_mem _ hy))⟩
      have h1 := (hw b hSb' hab).2 _ hr
      have h2 := hvb b hSb' hab
      rw [List.length_append] at h1
      rw [List.length_append, List.length_cons]
      omega
    · refine Nat.le_trans (h0.2 L ⟨fun p hp => ⟨(hL.1 p hp).1, ?_, ?_⟩, hL.2⟩) hv0
      · exact ((hS _).mp (hL.1 p hp).2.1).resolve_left (fun z => hq ⟨p, hp, Or.inl z⟩)
      · exact ((hS _).mp (hL.1 p hp).2.2).resolve_left (fun z => hq ⟨p, hp, Or.inr z⟩)
theorem MM.full {adj : Nat → Nat → Bool} {S : Nat → Prop} {v : Nat} (hS : ∀ x y, adj x y = true → S x ∧ S y) (h : MM adj S v) : MM adj (fun _ => True) v := by
  obtain ⟨⟨L, h1, h2⟩, h3⟩ := h
  exact ⟨⟨L, ⟨fun p hp => ⟨(h1.1 p hp).1, trivial, trivial⟩, h1.2⟩, h2⟩, fun L' hL' => h3 L' ⟨fun p hp => ⟨(hL'.1 p hp).1, hS _ _ (hL'.1 p hp).1⟩, hL'.2⟩⟩
theorem fl_map {τ : Nat → Nat} {L : List (Nat × Nat)} : fl (L.map (fun p => (τ p.1, τ p.2))) = (fl L).map τ := by
  induction L with
  | nil => rfl
  | cons p L ih => rw [List.map_cons, fl_cons, fl_cons, ih]; rfl
theorem Mch_map {adj : Nat → Nat → Bool} {τ : Nat → Nat} (hτ : ∀ x, τ (τ x) = x) {L : List (Nat × Nat)} (h : Mch adj (fun _ => True) L) : Mch (fun x y => adj (τ x) (τ y)) (fun _ => True) (L.map (fun p => (τ p.1, τ p.2))) := by
  refine ⟨fun p hp => ?_, ?_⟩
  · obtain ⟨q, hq, rfl⟩ := List.mem_map.mp hp
    refine ⟨?_, trivial, trivial⟩
    show adj (τ (τ q.1)) (τ (τ q.2)) = true
    rw [hτ, hτ]; exact (h.1 q hq).1
  · rw [fl_map]
    unfold List.Nodup
    rw [List.pairwise_map]
    exact List.Pairwise.imp (fun {a b} hab z => hab (by rw [← hτ a, z, hτ])) h.2
theorem MM.relabel {adj : Nat → Nat → Bool} {τ : Nat → Nat} (hτ : ∀ x, τ (τ x) = x) {v : Nat} (h : MM (fun x y => adj (τ x) (τ y)) (fun _ => True) v) : MM adj (fun _ => True) v := by
  obtain ⟨⟨L, h1, h2⟩, h3⟩ := h
  refine ⟨⟨L.map (fun p => (τ p.1, τ p.2)), ?_, by rw [List.length_map, h2]⟩, fun L' hL' => ?_⟩
  · have := Mch_map hτ h1
    have e : (fun x y => adj (τ (τ x)) (τ (τ y))) = adj := by
      funext x y; rw [hτ, hτ]
    rw [e] at this
    exact this
  · have := h3 _ (Mch_map hτ hL')
    rwa [List.length_map] at this
