/-! bits of ints -/
def bt (x : Int32) (j : Nat) : Bool := x.toBitVec.getLsbD j
theorem bt_ext {x y : Int32} (h : ∀ j, j < 32 → bt x j = bt y j) : x = y := Int32.toBitVec_inj.mp (BitVec.eq_of_getLsbD_eq h)
theorem bt_nI {m j : Nat} (hj : j < 32) : bt (nI m) j = m.testBit j := by
  show (BitVec.ofNat 32 m).getLsbD j = _
  rw [BitVec.getLsbD_ofNat]; simp [hj]
theorem bt_big {x : Int32} {j : Nat} (h : 32 ≤ j) : bt x j = false := BitVec.getLsbD_of_ge _ _ h
theorem bt_or {x y : Int32} {j : Nat} : bt (x ||| y) j = (bt x j || bt y j) := by
  unfold bt; rw [Int32.toBitVec_or, BitVec.getLsbD_or]
theorem bt_and {x y : Int32} {j : Nat} : bt (x &&& y) j = (bt x j && bt y j) := by
  unfold bt; rw [Int32.toBitVec_and, BitVec.getLsbD_and]
theorem bt_xor {x y : Int32} {j : Nat} : bt (x ^^^ y) j = (bt x j ^^ bt y j) := by
  unfold bt; rw [Int32.toBitVec_xor, BitVec.getLsbD_xor]
theorem bt_0 {j : Nat} : bt 0 j = false := by
  show (BitVec.ofNat 32 0).getLsbD j = _
  rw [BitVec.getLsbD_ofNat]; simp
theorem bt_m1 : ∀ j, j < 32 → bt (-1) j = true := by decide +kernel
theorem bt_not {x : Int32} {j : Nat} (hj : j < 32) : bt (x ^^^ (-1)) j = !bt x j := by
  rw [bt_xor, bt_m1 j hj]; simp
theorem sh31 : ∀ k, k < 32 → ((nI k &&& 31).toBitVec.smod 32).toNat = k := by decide +kernel
theorem bt_shl {x : Int32} {k j : Nat} (hk : k < 32) : bt (x <<< (nI k &&& 31)) j = (decide (j < 32) && !decide (j < k) && bt x (j - k)) := by
  show (x.toBitVec <<< ((nI k &&& 31).toBitVec.smod 32).toNat).getLsbD j = _
  rw [sh31 k hk, BitVec.getLsbD_shiftLeft]; rfl
theorem bt_1 {j : Nat} : bt 1 j = decide (j = 0) := by
  by_cases h : j < 32
  · have := bt_nI (m := 1) h
    have e : (1 : Nat).testBit j = decide (j = 0) := by
      have := Nat.testBit_two_pow (n := 0) (m := j)
      rw [show (2 : Nat) ^ 0 = 1 from rfl] at this
      rw [this]; exact decide_eq_decide.mpr eq_comm
    rw [← e]; exact this
  · rw [bt_big (by omega)]; exact (decide_eq_false (by omega)).symm
theorem bt_pow {k j : Nat} (hk : k < 32) : bt ((1 : Int32) <<< (nI k &&& 31)) j = decide (j = k) := by
  rw [bt_shl hk, bt_1]
  by_cases h : j = k
  · subst h; simp [hk]
  · by_cases h2 : j < k
    · simp [h, h2]
    · have : ¬ j - k = 0 := by omega
      simp [h, this]
theorem bt_shr {x : Int32} {k j : Nat} (hk : k < 32) (h : k + j < 32) : bt (x >>> (nI k &&& 31)) j = bt x (k + j) := by
  show (x.toBitVec.sshiftRight ((nI k &&& 31).toBitVec.smod 32).toNat).getLsbD j = _
  rw [sh31 k hk, BitVec.getLsbD_sshiftRight]
  have : ¬ 32 ≤ j := by omega
  simp [h, this]; rfl
theorem and1 {x : Int32} : x &&& 1 = if bt x 0 = true then 1 else 0 := by
  apply bt_ext
  intro j hj
  rw [bt_and, bt_1]
  by_cases h : j = 0
  · subst h
    cases hb : bt x 0 with
    | true => rw [if_pos rfl, bt_1]; rfl
    | false => rw [if_neg (by decide), bt_0]; rfl
  · rw [decide_eq_false h, Bool.and_false]
    split
    · rw [bt_1]; exact (decide_eq_false h).symm
    · exact bt_0.symm
theorem bt_test {x : Int32} {k : Nat} (hk : k < 32) : (x >>> (nI k &&& 31)) &&& 1 = if bt x k = true then 1 else 0 := by
  rw [and1, bt_shr hk (by omega)]; rfl
theorem bt_tst {x : Int32} {k : Nat} (hk : k < 32) : (x >>> (nI k &&& 31)) &&& 1 = 0 ↔ bt x k = false := by
  rw [bt_test hk]
  cases bt x k
  · exact ⟨fun _ => rfl, fun _ => rfl⟩
  · exact ⟨fun h => (by cases h), fun h => (by cases h)⟩
theorem bt_z {x : Int32} : x = 0 ↔ ∀ j, bt x j = false :=
  ⟨fun h j => by rw [h]; exact bt_0, fun h => bt_ext fun j _ => by rw [h j, bt_0]⟩
theorem nI_or {a b : Nat} : nI a ||| nI b = nI (a ||| b) := by
  apply bt_ext
  intro j hj
  rw [bt_or, bt_nI hj, bt_nI hj, bt_nI hj, Nat.testBit_or]
theorem nI_andB {m : Nat} (h : m < 2 ^ 31) (y : Int32) : nI m &&& y = nI (m &&& y.toBitVec.toNat) := by
  apply bt_ext
  intro j hj
  rw [bt_and, bt_nI hj, bt_nI hj, Nat.testBit_and]; rfl
theorem nI_shl {k : Nat} (h : k < 31) : (1 : Int32) <<< (nI k &&& 31) = nI (2 ^ k) := by
  have h2 : 2 ^ k < 2 ^ 32 := Nat.pow_lt_pow_right (by decide) (by omega)
  have := pk_shlN (n := 1) (nI k &&& 31) k (sh31 k (by omega)) (by omega)
  rw [Nat.one_mul] at this
  exact this
def clr (m b : Nat) : Nat := m &&& (((1 : Int32) <<< (nI b &&& 31)) ^^^ (-1)).toBitVec.toNat
theorem nI_clr {m b : Nat} (h : m < 2 ^ 31) : nI m &&& (((1 : Int32) <<< (nI b &&& 31)) ^^^ (-1)) = nI (clr m b) := nI_andB h _
theorem clr_tb {m b j : Nat} (hm : m < 2 ^ 31) (hb : b < 32) : (clr m b).testBit j = (m.testBit j && !decide (j = b)) := by
  unfold clr
  rw [Nat.testBit_and]
  by_cases hj : j < 32
  · have : (((1 : Int32) <<< (nI b &&& 31)) ^^^ (-1)).toBitVec.toNat.testBit j = !decide (j = b) := by
      have := bt_not (x := (1 : Int32) <<< (nI b &&& 31)) hj
      rw [bt_pow hb] at this
      exact this
    rw [this]
  · have : m.testBit j = false := Nat.testBit_lt_two_pow (Nat.lt_of_lt_of_le hm (Nat.pow_le_pow_right (by decide) (by omega)))
    rw [this]; rfl
theorem clr_le {m b : Nat} : clr m b ≤ m := Nat.and_le_left
theorem clr_lt {m b : Nat} (hm : m < 2 ^ 31) (hb : b < 32) (h : m.testBit b = true) : clr m b < m := by
  apply Nat.lt_of_le_of_ne clr_le
  intro z
  have := clr_tb (j := b) hm hb
  rw [z, h] at this
  simp at this
/-! four bits of a table -/
def nib (r : Nat → Int32) (m : Nat) : Int32 := (r (m / 8) >>> (nI (4 * (m % 8)) &&& 31)) &&& 15
theorem bt_15 {j : Nat} (hj : j < 32) : bt 15 j = decide (j < 4) := by
  have : ∀ j, j < 32 → bt 15 j = decide (j < 4) := by decide +kernel
  exact this j hj
theorem bt_nib {r : Nat → Int32} {m j : Nat} (hj : j < 32) : bt (nib r m) j = (decide (j < 4) && bt (r (m / 8)) (4 * (m % 8) + j)) := by
  unfold nib
  rw [bt_and, bt_15 hj]
  by_cases h : j < 4
  · rw [bt_shr (by omega) (by omega)]; simp [h]
  · simp [h]
theorem nib_put {r : Nat → Int32} {m v q : Nat} (hv : v < 16) : nib (upd r (m / 8) ((r (m / 8) &&& (((15 : Int32) <<< (nI (4 * (m % 8)) &&& 31)) ^^^ (-1))) ||| (nI v <<< (nI (4 * (m % 8)) &&& 31)))) q = if q = m then nI v else nib r q := by
  apply bt_ext
  intro j hj
  rw [bt_nib hj, upd_at]
  by_cases h4 : j < 4
  · have hs : 4 * (m % 8) < 32 := by omega
    by_cases e : q / 8 = m / 8
    · rw [if_pos e, bt_or, bt_and, bt_not (by omega), bt_shl hs, bt_shl hs]
      by_cases eq : q = m
      · subst eq
        rw [if_pos rfl, bt_nI hj]
        have a1 : ¬ 4 * (q % 8) + j < 4 * (q % 8) := by omega
        have a2 : 4 * (q % 8) + j - 4 * (q % 8) = j := by omega
        have a3 : 4 * (q % 8) + j < 32 := by omega
        rw [a2, bt_15 hj, bt_nI hj]
        simp [h4, a1, a3]
      · rw [if_neg eq, bt_nib hj, e]
        have hne : q % 8 ≠ m % 8 := by omega
        by_cases hl : 4 * (q % 8) + j < 4 * (m % 8)
        · simp [h4, hl]
        · have a3 : 4 * (q % 8) + j - 4 * (m % 8) < 32 := by omega
          have a4 : ¬ 4 * (q % 8) + j - 4 * (m % 8) < 4 := by omega
          have a5 : v.testBit (4 * (q % 8) + j - 4 * (m % 8)) = false := Nat.testBit_lt_two_pow (Nat.lt_of_lt_of_le (show v < 2 ^ 4 from hv) (Nat.pow_le_pow_right (by decide) (by omega)))
          rw [bt_15 a3, bt_nI a3, a5]
          simp [h4, a4]
    · rw [if_neg e, if_neg (by intro z; subst z; exact e rfl), bt_nib hj]
  · simp only [h4, decide_false, Bool.false_and]
    split
    · rw [bt_nI hj]
      exact (Nat.testBit_lt_two_pow (Nat.lt_of_lt_of_le (show v < 2 ^ 4 from hv) (Nat.pow_le_pow_right (by decide) (by omega)))).symm
    · rw [bt_nib hj]; simp [h4]
