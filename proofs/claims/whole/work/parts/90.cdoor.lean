/-! the class's TELLS: doors -/
theorem fC_nat {T : Tk} {y : Nat} : ∀ (L : List Nat) (s : Nat), fC T L s y = -1 ∨ ∃ t, s ≤ t ∧ t < s + L.length ∧ fC T L s y = nI t := by
  intro L
  induction L with
  | nil => intro s; exact Or.inl rfl
  | cons x L ih =>
    intro s
    show (if tC T (x + 1) = tC T y then nI s else fC T L (s + 1) y) = -1 ∨ ∃ t, s ≤ t ∧ t < s + (L.length + 1) ∧ (if tC T (x + 1) = tC T y then nI s else fC T L (s + 1) y) = nI t
    by_cases c : tC T (x + 1) = tC T y
    · rw [if_pos c]; exact Or.inr ⟨s, Nat.le_refl _, by omega, rfl⟩
    · rw [if_neg c]
      rcases ih (s + 1) with h | ⟨t, h1, h2, h3⟩
      · exact Or.inl h
      · exact Or.inr ⟨t, by omega, by omega, h3⟩
theorem s_door {T : Tk} {i p : Nat} {σ0 σ : Mm} {X : Xt} (hA : AM T i σ0) (h : CRX T i σ0 X p σ) (hl : (qD X).length ≤ 8) (hlT : (qT X).length ≤ 14) : Ok (F_X5_tellDoor σ) (oTl T i σ0 (tDo T X p)) := by
  obtain ⟨u, hu, hK, hR⟩ := h
  have hp4 := hK.2.2.2.1
  have hcu := CU_of hR hu hp4
  unfold F_X5_tellDoor tDo
  rw [(hA.p hK.1).1]
  refine Ok_t (hA.p hK.1).2 ?_
  rw [hR.1.2.2.1, hK.2.2.1]
  refine s_room (m := 8) hA hK hcu (by omega) (by omega) (fun c => ?_) (fun τ c hF => ?_)
  · rw [if_neg c]
    refine s_chn (k := fun τ => if inb (nI p + 1) 402 = true then bnd (F_X5_thingNamed (mL τ 0 0 11 (nI p + 1).toNatClampNeg) τ) (fun v τ => F_X5_tellDoor_70 (nI p) v τ) else none) hA [18, 2, 2, 4] p σ hK hcu (by decide) (fun τ ht hk hK1 f => ?_) (fun e τ ht hF => ?_)
    · rw [ht, ebd_k]
      have hp5 : p + 4 ≤ 400 := hK1.2.2.2.1
      have hg5 : gTk T (p + 4) := hK1.2.2.2.2
      have k1 : tK T (p + 1) = 2 := hk 1 2 rfl
      have k2 : tK T (p + 2) = 2 := hk 2 2 rfl
      have hR1 := hR.fr f rfl
      obtain ⟨n1, n2, n3, n4, n5, n6, n7, n8⟩ := hR1
      have e1 : nI p + 1 = nI (p + 1) := nI_1 p
      have e2 : nI p + 2 = nI (p + 2) := nI_add p 2
      have ip : ∀ j, j ≤ 2 → inb (nI (p + j)) 402 = true := by
        intro j hj
        have : p + j < 402 := by omega
        generalize p + j = z at *
        clear hA hR hK n1 n2 n3 n4 n5 n6 n7 n8 hK1 hcu; grind [gI, gB, gC]
      have nm1 : mL τ 0 0 11 (p + 1) = lN (tC T (p + 1)) := (hA.t hK1.1 (by omega) (gTk_le hg5 (by omega))).2.2.2 k1
      have nm2 : mL τ 0 0 11 (p + 2) = lN (tC T (p + 2)) := (hA.t hK1.1 (by omega) (gTk_le hg5 (by omega))).2.2.2 k2
      show Ok (if inb (nI p + 1) 402 = true then bnd (F_X5_thingNamed (mL τ 0 0 11 (nI p + 1).toNatClampNeg) τ) (fun v τ => F_X5_tellDoor_70 (nI p) v τ) else none) (CRX T i σ0 (addD T X p) (p + 4))
      rw [e1, nI_clamp (by omega), nm1, s_named (hA.p hK1.1).1 (hA.p hK1.1).2 n1 n2 hA.1 hlT, bnd_s]
      refine Ok_t (ip 1 (by omega)) ?_
      unfold F_X5_tellDoor_70
      rw [e2, nI_clamp (by omega), nm2, s_named (hA.p hK1.1).1 (hA.p hK1.1).2 n1 n2 hA.1 hlT, bnd_s]
      refine Ok_t (ip 2 (by omega)) ?_
      unfold F_X5_tellDoor_86 F_X5_tellDoor_100 F_X5_tellDoor_116 F_X5_tellDoor_132
      rw [e1, e2]
      have lh : (qD X).length < 8 := by omega
      -- the count goes up
      have fin : ∀ τ4 : Mm, CK T i σ0 (p + 4) τ4 → cBl T τ4 (qB (addD T X p)) → Fr [(0, 12, 5), (0, 12, 6), (1, 5, 999)] τ τ4 → (∀ a b, a < 14 → b < 14 → (bt (mA τ4 1 i 5 a) b = true ↔ (a, b) ∈ qD (addD T X p))) → Ok (F_X5_tellDoor_150 τ4) (CRX T i σ0 (addD T X p) (p + 4)) := by
        intro τ4 hK5 hB5 F hD5
        unfold F_X5_tellDoor_150
        rw [(hA.p hK5.1).1]
        refine Ok_t (hA.p hK5.1).2 (Ok_r ⟨u, by omega, ?_⟩)
        have G : Fr [(1, 0, 6)] τ4 (setA τ4 1 i 0 (upd (mA τ4 1 i 0) 6 (mA τ4 1 i 0 6 + 1))) := Fr_r.A rfl
        obtain ⟨I, kk2, kk3, kk4, kk5⟩ := hK5
        have FF : Fr [(0, 12, 5), (0, 12, 6), (1, 5, 999), (1, 0, 6)] τ (setA τ4 1 i 0 (upd (mA τ4 1 i 0) 6 (mA τ4 1 i 0 6 + 1))) := (F.sub rfl).trans (G.sub rfl)
        refine ⟨⟨I.A1 rfl, ?_, ?_, kk4, kk5⟩, ?_, n2.fr FF rfl, ?_, n4.fr FF rfl, n5.fr FF rfl, n6.fr FF rfl, hB5.fr G rfl, ?_⟩
        · rw [G.fld (t := 0) (k := 12) (f := 0) 0 rfl]; exact kk2
        · rw [G.fld (t := 0) (k := 12) (f := 4) 0 rfl]; exact kk3
        · have z : mA τ4 1 i 0 6 = nI (qD X).length := by
            rw [F.fld (t := 1) (k := 0) (f := 6) i rfl]; exact n1.2.2.1
          refine ⟨?_, ?_, ?_, ?_, ?_, ?_⟩
          · rw [FF.fld (t := 1) (k := 0) (f := 0) i rfl]; exact n1.1
          · rw [FF.fld (t := 1) (k := 0) (f := 1) i rfl]; exact n1.2.1
          · rw [mA_A, if_pos ⟨rfl, rfl, rfl⟩, upd_at, if_pos rfl, z, nI_1]
            show _ = nI (qD X ++ [_]).length
            rw [List.length_append]; rfl
          · rw [FF.fld (t := 1) (k := 0) (f := 8) i rfl]; exact n1.2.2.2.1
          · rw [FF.fld (t := 1) (k := 0) (f := 12) i rfl]; exact n1.2.2.2.2.1
          · rw [FF.fld (t := 1) (k := 0) (f := 14) i rfl]; exact n1.2.2.2.2.2
        · intro a b ha hb
          rw [G.row (t := 1) (k := 5) i rfl]
          exact hD5 a b ha hb
        · rw [FF.row (t := 1) (k := 10) i rfl]; exact n8
      have no99 : ∀ τ4, Fr [(0, 12, 5), (0, 12, 6)] τ τ4 → doorOf (fC T (qT X) 0 (p + 1)) (fC T (qT X) 0 (p + 2)) = (99, 99) → ∀ a b, a < 14 → b < 14 → (bt (mA τ4 1 i 5 a) b = true ↔ (a, b) ∈ qD (addD T X p)) := by
        intro τ4 F hd a b ha hb
        rw [F.row (t := 1) (k := 5) i rfl, n3 a b ha hb]
        show _ ↔ (a, b) ∈ qD X ++ [doorOf _ _]
        rw [hd, List.mem_append, List.mem_singleton]
        constructor
        · exact Or.inl
        · rintro (z | z)
          · exact z
          · cases z; omega
      by_cases c1 : fC T (qT X) 0 (p + 1) = -1
      · refine Ok_t c1 (Ok_V ((s_blame hA hK1 n7 (c := 4) (x := p + 1) ⟨by omega, by omega⟩ (by omega) (gTk_le hg5 (by omega))).frV fr_X5_blame) (fun τ4 hτ4 => ?_))
        obtain ⟨⟨hK5, hB5⟩, f4⟩ := hτ4
        have f4 : Fr [(0, 12, 5), (0, 12, 6)] τ τ4 := f4
        refine fin τ4 hK5 ?_ (f4.sub rfl) (no99 τ4 f4 (if_pos c1))
        have : qB (addD T X p) = bla (qB X) True 4 (p + 1) := if_pos c1
        rw [this]; exact hB5
      · refine Ok_f c1 ?_
        by_cases c2 : fC T (qT X) 0 (p + 2) = -1
        · refine Ok_t c2 (Ok_V ((s_blame hA hK1 n7 (c := 4) (x := p + 2) ⟨by omega, by omega⟩ (by omega) (gTk_le hg5 (by omega))).frV fr_X5_blame) (fun τ4 hτ4 => ?_))
          obtain ⟨⟨hK5, hB5⟩, f4⟩ := hτ4
          have f4 : Fr [(0, 12, 5), (0, 12, 6)] τ τ4 := f4
          refine fin τ4 hK5 ?_ (f4.sub rfl) (no99 τ4 f4 ((if_neg c1).trans (if_pos c2)))
          have : qB (addD T X p) = bla (qB X) True 4 (p + 2) := (if_neg c1).trans (if_pos c2)
          rw [this]; exact hB5
        · refine Ok_f c2 ?_
          have qb : qB (addD T X p) = bla (qB X) (fC T (qT X) 0 (p + 1) = fC T (qT X) 0 (p + 2)) 5 (p + 2) := (if_neg c1).trans (if_neg c2)
          by_cases c3 : fC T (qT X) 0 (p + 1) = fC T (qT X) 0 (p + 2)
          · refine Ok_t c3 (Ok_V ((s_blame hA hK1 n7 (c := 5) (x := p + 2) ⟨by omega, by omega⟩ (by omega) (gTk_le hg5 (by omega))).frV fr_X5_blame) (fun τ4 hτ4 => ?_))
            obtain ⟨⟨hK5, hB5⟩, f4⟩ := hτ4
            have f4 : Fr [(0, 12, 5), (0, 12, 6)] τ τ4 := f4
            refine fin τ4 hK5 ?_ (f4.sub rfl) (no99 τ4 f4 ((if_neg c1).trans ((if_neg c2).trans (if_pos c3))))
            rw [qb]
            have : bla (qB X) (fC T (qT X) 0 (p + 1) = fC T (qT X) 0 (p + 2)) 5 (p + 2) = bla (qB X) True 5 (p + 2) := (if_pos c3).trans (if_pos trivial).symm
            rw [this]; exact hB5
          · refine Ok_f c3 ?_
            obtain ⟨a, -, ha, ea⟩ := (fC_nat (T := T) (y := p + 1) (qT X) 0).resolve_left c1
            obtain ⟨d, -, hd, ed⟩ := (fC_nat (T := T) (y := p + 2) (qT X) 0).resolve_left c2
            have hdo : doorOf (fC T (qT X) 0 (p + 1)) (fC T (qT X) 0 (p + 2)) = (a, d) := by
              unfold doorOf
              rw [if_neg c1, if_neg c2, if_neg c3, ea, ed, nI_clamp (by omega), nI_clamp (by omega)]
            have ia : inb (nI a) 14 = true := by
              have : a < 14 := by omega
              clear fin no99 hA hR hK n1 n2 n3 n4 n5 n6 n7 n8 hK1 hcu ip nm1 nm2 hdo; grind [gI, gB, gC]
            rw [(hA.p hK1.1).1, ea, ed, nI_clamp (by omega)]
            refine Ok_t (hA.p hK1.1).2 (Ok_t ia (Ok_t ia ?_))
            have G : Fr [(1, 5, 999)] τ (setA τ 1 i 5 (upd (mA τ 1 i 5) a (mA τ 1 i 5 a ||| (1 : Int32) <<< (nI d &&& 31)))) := Fr_r.A rfl
            obtain ⟨I, kk2, kk3, kk4, kk5⟩ := hK1
            refine fin _ ⟨I.A1 rfl, ?_, ?_, kk4, kk5⟩ ?_ (G.sub rfl) (fun a' b' ha' hb' => ?_)
            · rw [G.fld (t := 0) (k := 12) (f := 0) 0 rfl]; exact kk2
            · rw [G.fld (t := 0) (k := 12) (f := 4) 0 rfl]; exact kk3
            · rw [qb]
              have : bla (qB X) (fC T (qT X) 0 (p + 1) = fC T (qT X) 0 (p + 2)) 5 (p + 2) = qB X := if_neg c3
              rw [this]; exact n7.fr G rfl
            · rw [mA_A, if_pos ⟨rfl, rfl, rfl⟩, upd_at]
              show _ ↔ (a', b') ∈ qD X ++ [doorOf _ _]
              rw [hdo, List.mem_append, List.mem_singleton]
              have old := n3 a' b' ha' hb'
              by_cases ca : a' = a
              · subst ca
                rw [if_pos rfl, bt_or, bt_pow (by omega), Bool.or_eq_true, decide_eq_true_eq, old]
                constructor
                · rintro (z | z)
                  · exact Or.inl z
                  · subst z; exact Or.inr rfl
                · rintro (z | z)
                  · exact Or.inl z
                  · cases z; exact Or.inr rfl
              · rw [if_neg ca, old]
                constructor
                · exact Or.inl
                · rintro (z | z)
                  · exact z
                  · cases z; exact absurd rfl ca
    · rw [ht]; exact hF
  · rw [if_pos c]
    exact Ok_t rfl (Ok_r hF)
