def F_X12_scan_196 (x1 : Int32) (x3 : Int32) (σ : Mm) : Option (Int32 × Mm) := (if x3 < (300 : Int32) then some (x1 + (1 : Int32), σ) else some (x1 + (2 : Int32), σ))
set_option maxRecDepth 20000 in
theorem zb_X12_scan_196 {S : Shp} {x1 : Int32} {x3 : Int32} {σ : Mm} {r : Int32 × Mm} (h : F_X12_scan_196 x1 x3 σ = some r) : Z m_X12_scan S (Qi r) 196 [(1, .int (x1)), (3, .int (x3))] [] σ := by
  unfold F_X12_scan_196 at h
  refine z_iload_n dX12_scan_196 rfl 0 rfl ?_
  refine z_iload_n dX12_scan_197 rfl 1 rfl ?_
  refine z_sipush (v := 300) dX12_scan_198 (by decide) ?_
  refine z_icmp_lt (tgt := 208) dX12_scan_201 (by decide) (fun q => ?_) (fun q => ?_)
  · have h := (if_pos q).symm.trans h
    refine z_iconst (v := 1) dX12_scan_208 (by decide) ?_
    refine z_iadd dX12_scan_209 ?_
    cases h
    exact z_ireturn dX12_scan_210 rfl rfl ⟨rfl, rfl⟩
  · have h := (if_neg q).symm.trans h
    refine z_iconst (v := 2) dX12_scan_204 (by decide) ?_
    refine z_goto (tgt := 209) dX12_scan_205 (by decide) ?_
    refine z_iadd dX12_scan_209 ?_
    cases h
    exact z_ireturn dX12_scan_210 rfl rfl ⟨rfl, rfl⟩
def F_X12_scan_191 (x1 : Int32) (x3 : Int32) (s0 : Int32) (σ : Mm) : Option (Int32 × Mm) := (bnv (F_X12_token s0 x1 x3 σ) (fun τ => (F_X12_scan_196 x1 x3 τ)))
set_option maxRecDepth 20000 in
theorem zb_X12_scan_191 {S : Shp} {x1 : Int32} {x3 : Int32} {s0 : Int32} {σ : Mm} {r : Int32 × Mm} (h : F_X12_scan_191 x1 x3 s0 σ = some r) : Z m_X12_scan S (Qi r) 191 [(1, .int (x1)), (3, .int (x3))] [.int (s0), .ref (sL S 3 0 0)] σ := by
  unfold F_X12_scan_191 at h
  refine z_iload_n dX12_scan_191 rfl 0 rfl ?_
  refine z_iload_n dX12_scan_192 rfl 1 rfl ?_
  obtain ⟨τ, hc, h⟩ := bnv_e h
  refine z_callV (M' := m_X12_token) (t := 3) (i := 0) (k := 0) (As := [.int (s0), .int (x1), .int (x3)]) (rest := []) kl_12_289 oy_X12_token ⟨Nat.le_of_ble_eq_true rfl, Nat.le_of_ble_eq_true rfl⟩ rfl rfl rfl rfl (Nat.le_of_ble_eq_true rfl) rfl dX12_scan_193 (c_X12_token hc) (fun v2 τ2 hq => ?_)
  obtain ⟨rfl, hτ⟩ := hq
  subst τ2
  change Z _ _ _ _ _ [] _
  exact zb_X12_scan_196 h
def F_X12_scan_180 (x1 : Int32) (s0 : Int32) (σ : Mm) : Option (Int32 × Mm) := (if s0 = 0 then (F_X12_scan_191 x1 s0 5 σ) else (F_X12_scan_191 x1 s0 2 σ))
set_option maxRecDepth 20000 in
theorem zb_X12_scan_180 {S : Shp} {x1 : Int32} {s0 : Int32} {σ : Mm} {r : Int32 × Mm} (h : F_X12_scan_180 x1 s0 σ = some r) : Z m_X12_scan S (Qi r) 180 [(0, .ref (sL S 3 0 0)), (1, .int (x1))] [.int (s0)] σ := by
  unfold F_X12_scan_180 at h
  refine z_istore_n (lv' := [(0, .ref (sL S 3 0 0)), (1, .int (x1)), (3, .int (s0))]) dX12_scan_180 rfl (by decide) [1, 2, 0] rfl ?_
  refine z_aload_n dX12_scan_181 rfl 0 rfl ?_
  refine z_iload_n dX12_scan_182 rfl 2 rfl ?_
  refine z_if_ne (tgt := 190) dX12_scan_183 (by decide) (fun q => ?_) (fun q => ?_)
  · have h := (if_neg q).symm.trans h
    refine z_iconst (v := 2) dX12_scan_190 (by decide) ?_
    refine Z.lv [1, 2] rfl ?_
    exact zb_X12_scan_191 h
  · have h := (if_pos q).symm.trans h
    refine z_iconst (v := 5) dX12_scan_186 (by decide) ?_
    refine z_goto (tgt := 191) dX12_scan_187 (by decide) ?_
    refine Z.lv [1, 2] rfl ?_
    exact zb_X12_scan_191 h
def F_X12_scan_173 (x2 : Int32) (σ : Mm) : Option (Int32 × Mm) := some (x2, σ)
set_option maxRecDepth 20000 in
theorem zb_X12_scan_173 {S : Shp} {x2 : Int32} {σ : Mm} {r : Int32 × Mm} (h : F_X12_scan_173 x2 σ = some r) : Z m_X12_scan S (Qi r) 173 [(2, .int (x2))] [] σ := by
  unfold F_X12_scan_173 at h
  refine z_iload_n dX12_scan_173 rfl 0 rfl ?_
  cases h
  exact z_ireturn dX12_scan_174 rfl rfl ⟨rfl, rfl⟩
def F_X12_scan_168 (x1 : Int32) (x2 : Int32) (x3 : Int32) (s0 : Int32) (σ : Mm) : Option (Int32 × Mm) := (bnv (F_X12_token s0 x1 x3 σ) (fun τ => (F_X12_scan_173 x2 τ)))
set_option maxRecDepth 20000 in
theorem zb_X12_scan_168 {S : Shp} {x1 : Int32} {x2 : Int32} {x3 : Int32} {s0 : Int32} {σ : Mm} {r : Int32 × Mm} (h : F_X12_scan_168 x1 x2 x3 s0 σ = some r) : Z m_X12_scan S (Qi r) 168 [(1, .int (x1)), (2, .int (x2)), (3, .int (x3))] [.int (s0), .ref (sL S 3 0 0)] σ := by
  unfold F_X12_scan_168 at h
  refine z_iload_n dX12_scan_168 rfl 0 rfl ?_
  refine z_iload_n dX12_scan_169 rfl 2 rfl ?_
  obtain ⟨τ, hc, h⟩ := bnv_e h
  refine z_callV (M' := m_X12_token) (t := 3) (i := 0) (k := 0) (As := [.int (s0), .int (x1), .int (x3)]) (rest := []) kl_12_289 oy_X12_token ⟨Nat.le_of_ble_eq_true rfl, Nat.le_of_ble_eq_true rfl⟩ rfl rfl rfl rfl (Nat.le_of_ble_eq_true rfl) rfl dX12_scan_170 (c_X12_token hc) (fun v2 τ2 hq => ?_)
  obtain ⟨rfl, hτ⟩ := hq
  subst τ2
  change Z _ _ _ _ _ [] _
  refine Z.lv [1] rfl ?_
  exact zb_X12_scan_173 h
def F_X12_scan_149 (rc120 : Int32 → Int32 → Int32 → Mm → Option (Int32 × Mm)) (x1 : Int32) (x2 : Int32) (x3 : Int32) (σ : Mm) : Option (Int32 × Mm) := (rc120 x1 (x2 + 1) x3 σ)
set_option maxRecDepth 20000 in
theorem zb_X12_scan_149 {S : Shp} {rc120 : Int32 → Int32 → Int32 → Mm → Option (Int32 × Mm)} (hrc120 : ∀ {x1 : Int32} {x2 : Int32} {x3 : Int32} {σ : Mm} {r : Int32 × Mm}, rc120 x1 x2 x3 σ = some r → Z m_X12_scan S (Qi r) 120 [(0, .ref (sL S 3 0 0)), (1, .int (x1)), (2, .int (x2)), (3, .int (x3))] [] σ) {x1 : Int32} {x2 : Int32} {x3 : Int32} {σ : Mm} {r : Int32 × Mm} (h : F_X12_scan_149 rc120 x1 x2 x3 σ = some r) : Z m_X12_scan S (Qi r) 149 [(0, .ref (sL S 3 0 0)), (1, .int (x1)), (2, .int (x2)), (3, .int (x3))] [] σ := by
  unfold F_X12_scan_149 at h
  refine z_iinc (j := 2) (v := x2 + 1) (lv' := [(0, .ref (sL S 3 0 0)), (1, .int (x1)), (2, .int (x2 + 1)), (3, .int (x3))]) dX12_scan_149 rfl rfl (by decide) [1, 2, 0, 3] rfl ?_
  refine z_goto (tgt := 120) dX12_scan_152 (by decide) ?_
  exact hrc120 h
def F_X12_scan_144 (rc120 : Int32 → Int32 → Int32 → Mm → Option (Int32 × Mm)) (x1 : Int32) (x2 : Int32) (s0 : Int32) (s1 : Int32) (σ : Mm) : Option (Int32 × Mm) := (F_X12_scan_149 rc120 x1 x2 ((s1 + s0) - (48 : Int32)) σ)
set_option maxRecDepth 20000 in
theorem zb_X12_scan_144 {S : Shp} {rc120 : Int32 → Int32 → Int32 → Mm → Option (Int32 × Mm)} (hrc120 : ∀ {x1 : Int32} {x2 : Int32} {x3 : Int32} {σ : Mm} {r : Int32 × Mm}, rc120 x1 x2 x3 σ = some r → Z m_X12_scan S (Qi r) 120 [(0, .ref (sL S 3 0 0)), (1, .int (x1)), (2, .int (x2)), (3, .int (x3))] [] σ) {x1 : Int32} {x2 : Int32} {s0 : Int32} {s1 : Int32} {σ : Mm} {r : Int32 × Mm} (h : F_X12_scan_144 rc120 x1 x2 s0 s1 σ = some r) : Z m_X12_scan S (Qi r) 144 [(0, .ref (sL S 3 0 0)), (1, .int (x1)), (2, .int (x2))] [.int (s0), .int (s1)] σ := by
  unfold F_X12_scan_144 at h
  refine z_iadd dX12_scan_144 ?_
  refine z_bipush (v := 48) dX12_scan_145 (by decide) ?_
  refine z_isub dX12_scan_147 ?_
  refine z_istore_n (lv' := [(0, .ref (sL S 3 0 0)), (1, .int (x1)), (2, .int (x2)), (3, .int ((s1 + s0) - (48 : Int32)))]) dX12_scan_148 rfl (by decide) [1, 2, 3, 0] rfl ?_
  exact zb_X12_scan_149 hrc120 h
def F_X12_scan_125 (rc120 : Int32 → Int32 → Int32 → Mm → Option (Int32 × Mm)) (x1 : Int32) (x2 : Int32) (x3 : Int32) (s0 : Int32) (σ : Mm) : Option (Int32 × Mm) := (if s0 = 0 then (if (x2 - x1) ≤ (4 : Int32) then (F_X12_scan_168 x1 x2 x3 1 σ) else (F_X12_scan_168 x1 x2 x3 5 σ)) else (if (4 : Int32) ≤ (x2 - x1) then (F_X12_scan_149 rc120 x1 x2 x3 σ) else (bnd (F_X12_byteAt x2 σ) (fun v τ => (F_X12_scan_144 rc120 x1 x2 v ((10 : Int32) * x3) τ)))))
set_option maxRecDepth 20000 in
theorem zb_X12_scan_125 {S : Shp} {rc120 : Int32 → Int32 → Int32 → Mm → Option (Int32 × Mm)} (hrc120 : ∀ {x1 : Int32} {x2 : Int32} {x3 : Int32} {σ : Mm} {r : Int32 × Mm}, rc120 x1 x2 x3 σ = some r → Z m_X12_scan S (Qi r) 120 [(0, .ref (sL S 3 0 0)), (1, .int (x1)), (2, .int (x2)), (3, .int (x3))] [] σ) {x1 : Int32} {x2 : Int32} {x3 : Int32} {s0 : Int32} {σ : Mm} {r : Int32 × Mm} (h : F_X12_scan_125 rc120 x1 x2 x3 s0 σ = some r) : Z m_X12_scan S (Qi r) 125 [(0, .ref (sL S 3 0 0)), (1, .int (x1)), (2, .int (x2)), (3, .int (x3))] [.int (s0)] σ := by
  unfold F_X12_scan_125 at h
  refine z_if_eq (tgt := 155) dX12_scan_125 (by decide) (fun q => ?_) (fun q => ?_)
  · have h := (if_pos q).symm.trans h
    refine z_aload_n dX12_scan_155 rfl 0 rfl ?_
    refine z_iload_n dX12_scan_156 rfl 2 rfl ?_
    refine z_iload_n dX12_scan_157 rfl 1 rfl ?_
    refine z_isub dX12_scan_158 ?_
    refine z_iconst (v := 4) dX12_scan_159 (by decide) ?_
    refine z_icmp_le (tgt := 167) dX12_scan_160 (by decide) (fun q => ?_) (fun q => ?_)
    · have h := (if_pos q).symm.trans h
      refine z_iconst (v := 1) dX12_scan_167 (by decide) ?_
      refine Z.lv [1, 2, 3] rfl ?_
      exact zb_X12_scan_168 h
    · have h := (if_neg q).symm.trans h
      refine z_iconst (v := 5) dX12_scan_163 (by decide) ?_
      refine z_goto (tgt := 168) dX12_scan_164 (by decide) ?_
      refine Z.lv [1, 2, 3] rfl ?_
      exact zb_X12_scan_168 h
  · have h := (if_neg q).symm.trans h
    refine z_iload_n dX12_scan_128 rfl 2 rfl ?_
    refine z_iload_n dX12_scan_129 rfl 1 rfl ?_
    refine z_isub dX12_scan_130 ?_
    refine z_iconst (v := 4) dX12_scan_131 (by decide) ?_
    refine z_icmp_ge (tgt := 149) dX12_scan_132 (by decide) (fun q => ?_) (fun q => ?_)
    · have h := (if_pos q).symm.trans h
      exact zb_X12_scan_149 hrc120 h
    · have h := (if_neg q).symm.trans h
      refine z_bipush (v := 10) dX12_scan_135 (by decide) ?_
      refine z_iload_n dX12_scan_137 rfl 3 rfl ?_
      refine z_imul dX12_scan_138 ?_
      refine z_aload_n dX12_scan_139 rfl 0 rfl ?_
      refine z_iload_n dX12_scan_140 rfl 2 rfl ?_
      obtain ⟨v, τ, hc, h⟩ := bnd_e h
      refine z_callV (M' := m_X12_byteAt) (t := 3) (i := 0) (k := 0) (As := [.int (x2)]) (rest := [.int ((10 : Int32) * x3)]) kl_12_228 oy_X12_byteAt ⟨Nat.le_of_ble_eq_true rfl, Nat.le_of_ble_eq_true rfl⟩ rfl rfl rfl rfl (Nat.le_of_ble_eq_true rfl) rfl dX12_scan_141 (c_X12_byteAt hc) (fun v2 τ2 hq => ?_)
      obtain ⟨rfl, hτ⟩ := hq
      subst τ2
      change Z _ _ _ _ _ [.int (v), .int ((10 : Int32) * x3)] _
      refine Z.lv [0, 1, 2] rfl ?_
      exact zb_X12_scan_144 hrc120 h
def B_X12_scan_120 (rc120 : Int32 → Int32 → Int32 → Mm → Option (Int32 × Mm)) (x1 : Int32) (x2 : Int32) (x3 : Int32) (σ : Mm) : Option (Int32 × Mm) := (bnd (F_X12_isDigit x2 σ) (fun v τ => (F_X12_scan_125 rc120 x1 x2 x3 v τ)))
set_option maxRecDepth 20000 in
theorem zB_X12_scan_120 {S : Shp} {rc120 : Int32 → Int32 → Int32 → Mm → Option (Int32 × Mm)} (hrc120 : ∀ {x1 : Int32} {x2 : Int32} {x3 : Int32} {σ : Mm} {r : Int32 × Mm}, rc120 x1 x2 x3 σ = some r → Z m_X12_scan S (Qi r) 120 [(0, .ref (sL S 3 0 0)), (1, .int (x1)), (2, .int (x2)), (3, .int (x3))] [] σ) {x1 : Int32} {x2 : Int32} {x3 : Int32} {σ : Mm} {r : Int32 × Mm} (h : B_X12_scan_120 rc120 x1 x2 x3 σ = some r) : Z m_X12_scan S (Qi r) 120 [(0, .ref (sL S 3 0 0)), (1, .int (x1)), (2, .int (x2)), (3, .int (x3))] [] σ := by
  unfold B_X12_scan_120 at h
  refine z_aload_n dX12_scan_120 rfl 0 rfl ?_
  refine z_iload_n dX12_scan_121 rfl 2 rfl ?_
  obtain ⟨v, τ, hc, h⟩ := bnd_e h
  refine z_callV (M' := m_X12_isDigit) (t := 3) (i := 0) (k := 0) (As := [.int (x2)]) (rest := []) kl_12_293 oy_X12_isDigit ⟨Nat.le_of_ble_eq_true rfl, Nat.le_of_ble_eq_true rfl⟩ rfl rfl rfl rfl (Nat.le_of_ble_eq_true rfl) rfl dX12_scan_122 (c_X12_isDigit hc) (fun v2 τ2 hq => ?_)
  obtain ⟨rfl, hτ⟩ := hq
  subst τ2
  change Z _ _ _ _ _ [.int (v)] _
  exact zb_X12_scan_125 hrc120 h
def F_X12_scan_120 : Nat → Int32 → Int32 → Int32 → Mm → Option (Int32 × Mm)
  | 0 => fun _ _ _ _ => none
  | n + 1 => B_X12_scan_120 (F_X12_scan_120 n)
theorem zl_X12_scan_120 {S : Shp} : ∀ (nn : Nat) {x1 : Int32} {x2 : Int32} {x3 : Int32} {σ : Mm} {r : Int32 × Mm}, F_X12_scan_120 nn x1 x2 x3 σ = some r → Z m_X12_scan S (Qi r) 120 [(0, .ref (sL S 3 0 0)), (1, .int (x1)), (2, .int (x2)), (3, .int (x3))] [] σ := by
  intro nn
  induction nn with
  | zero => intro x1 x2 x3 σ r h; cases h
  | succ nn ih => intro x1 x2 x3 σ r h; exact zB_X12_scan_120 @ih h
def F_X12_scan_115 (x1 : Int32) (x2 : Int32) (s0 : Int32) (σ : Mm) : Option (Int32 × Mm) := (if s0 = 0 then (bnd (F_X12_signAt x1 σ) (fun v τ => (F_X12_scan_180 x1 v τ))) else (F_X12_scan_120 FU x1 x2 0 σ))
set_option maxRecDepth 20000 in
theorem zb_X12_scan_115 {S : Shp} {x1 : Int32} {x2 : Int32} {s0 : Int32} {σ : Mm} {r : Int32 × Mm} (h : F_X12_scan_115 x1 x2 s0 σ = some r) : Z m_X12_scan S (Qi r) 115 [(0, .ref (sL S 3 0 0)), (1, .int (x1)), (2, .int (x2))] [.int (s0)] σ := by
  unfold F_X12_scan_115 at h
  refine z_if_eq (tgt := 175) dX12_scan_115 (by decide) (fun q => ?_) (fun q => ?_)
  · have h := (if_pos q).symm.trans h
    refine z_aload_n dX12_scan_175 rfl 0 rfl ?_
    refine z_iload_n dX12_scan_176 rfl 1 rfl ?_
    obtain ⟨v, τ, hc, h⟩ := bnd_e h
    refine z_callV (M' := m_X12_signAt) (t := 3) (i := 0) (k := 0) (As := [.int (x1)]) (rest := []) kl_12_296 oy_X12_signAt ⟨Nat.le_of_ble_eq_true rfl, Nat.le_of_ble_eq_true rfl⟩ rfl rfl rfl rfl (Nat.le_of_ble_eq_true rfl) rfl dX12_scan_177 (c_X12_signAt hc) (fun v2 τ2 hq => ?_)
    obtain ⟨rfl, hτ⟩ := hq
    subst τ2
    change Z _ _ _ _ _ [.int (v)] _
    refine Z.lv [0, 1] rfl ?_
    exact zb_X12_scan_180 h
  · have h := (if_neg q).symm.trans h
    refine z_iconst (v := 0) dX12_scan_118 (by decide) ?_
    refine z_istore_n (lv' := [(0, .ref (sL S 3 0 0)), (1, .int (x1)), (2, .int (x2)), (3, .int (0))]) dX12_scan_119 rfl (by decide) [1, 2, 3, 0] rfl ?_
    exact zl_X12_scan_120 FU h
def F_X12_scan_108 (x2 : Int32) (σ : Mm) : Option (Int32 × Mm) := some (x2, σ)
set_option maxRecDepth 20000 in
theorem zb_X12_scan_108 {S : Shp} {x2 : Int32} {σ : Mm} {r : Int32 × Mm} (h : F_X12_scan_108 x2 σ = some r) : Z m_X12_scan S (Qi r) 108 [(2, .int (x2))] [] σ := by
  unfold F_X12_scan_108 at h
  refine z_iload_n dX12_scan_108 rfl 0 rfl ?_
  cases h
  exact z_ireturn dX12_scan_109 rfl rfl ⟨rfl, rfl⟩
def F_X12_scan_102 (x1 : Int32) (x2 : Int32) (x5 : Int32) (s0 : Int32) (σ : Mm) : Option (Int32 × Mm) := (bnv (F_X12_token s0 x1 x5 σ) (fun τ => (F_X12_scan_108 x2 τ)))
set_option maxRecDepth 20000 in
theorem zb_X12_scan_102 {S : Shp} {x1 : Int32} {x2 : Int32} {x5 : Int32} {s0 : Int32} {σ : Mm} {r : Int32 × Mm} (h : F_X12_scan_102 x1 x2 x5 s0 σ = some r) : Z m_X12_scan S (Qi r) 102 [(1, .int (x1)), (2, .int (x2)), (5, .int (x5))] [.int (s0), .ref (sL S 3 0 0)] σ := by
  unfold F_X12_scan_102 at h
  refine z_iload_n dX12_scan_102 rfl 0 rfl ?_
  refine z_iload dX12_scan_103 2 rfl ?_
  obtain ⟨τ, hc, h⟩ := bnv_e h
  refine z_callV (M' := m_X12_token) (t := 3) (i := 0) (k := 0) (As := [.int (s0), .int (x1), .int (x5)]) (rest := []) kl_12_289 oy_X12_token ⟨Nat.le_of_ble_eq_true rfl, Nat.le_of_ble_eq_true rfl⟩ rfl rfl rfl rfl (Nat.le_of_ble_eq_true rfl) rfl dX12_scan_105 (c_X12_token hc) (fun v2 τ2 hq => ?_)
  obtain ⟨rfl, hτ⟩ := hq
  subst τ2
  change Z _ _ _ _ _ [] _
  refine Z.lv [1] rfl ?_
  exact zb_X12_scan_108 h
def F_X12_scan_79 (x1 : Int32) (x2 : Int32) (x5 : Int32) (σ : Mm) : Option (Int32 × Mm) := (if (x2 - x1) ≤ (8 : Int32) then (if x5 < 0 then (F_X12_scan_102 x1 x2 x5 0 σ) else (F_X12_scan_102 x1 x2 x5 3 σ)) else (F_X12_scan_102 x1 x2 x5 5 σ))
set_option maxRecDepth 20000 in
theorem zb_X12_scan_79 {S : Shp} {x1 : Int32} {x2 : Int32} {x5 : Int32} {σ : Mm} {r : Int32 × Mm} (h : F_X12_scan_79 x1 x2 x5 σ = some r) : Z m_X12_scan S (Qi r) 79 [(0, .ref (sL S 3 0 0)), (1, .int (x1)), (2, .int (x2)), (5, .int (x5))] [] σ := by
  unfold F_X12_scan_79 at h
  refine z_aload_n dX12_scan_79 rfl 0 rfl ?_
  refine z_iload_n dX12_scan_80 rfl 2 rfl ?_
  refine z_iload_n dX12_scan_81 rfl 1 rfl ?_
  refine z_isub dX12_scan_82 ?_
  refine z_bipush (v := 8) dX12_scan_83 (by decide) ?_
  refine z_icmp_le (tgt := 92) dX12_scan_85 (by decide) (fun q => ?_) (fun q => ?_)
  · have h := (if_pos q).symm.trans h
    refine z_iload dX12_scan_92 3 rfl ?_
    refine z_if_lt (tgt := 101) dX12_scan_94 (by decide) (fun q => ?_) (fun q => ?_)
    · have h := (if_pos q).symm.trans h
      refine z_iconst (v := 0) dX12_scan_101 (by decide) ?_
      refine Z.lv [1, 2, 3] rfl ?_
      exact zb_X12_scan_102 h
    · have h := (if_neg q).symm.trans h
      refine z_iconst (v := 3) dX12_scan_97 (by decide) ?_
      refine z_goto (tgt := 102) dX12_scan_98 (by decide) ?_
      refine Z.lv [1, 2, 3] rfl ?_
      exact zb_X12_scan_102 h
  · have h := (if_neg q).symm.trans h
    refine z_iconst (v := 5) dX12_scan_88 (by decide) ?_
    refine z_goto (tgt := 102) dX12_scan_89 (by decide) ?_
    refine Z.lv [1, 2, 3] rfl ?_
    exact zb_X12_scan_102 h
def F_X12_scan_67 (x1 : Int32) (x2 : Int32) (x3 : Int64) (s0 : Int32) (σ : Mm) : Option (Int32 × Mm) := (if inb (mA σ 3 0 0 2) 2001 = true then (F_X12_scan_79 x1 x2 s0 (setL σ 3 0 5 (vp_updL (mL σ 3 0 5) (mA σ 3 0 0 2).toNatClampNeg x3))) else none)
set_option maxRecDepth 20000 in
theorem zb_X12_scan_67 {S : Shp} {x1 : Int32} {x2 : Int32} {x3 : Int64} {s0 : Int32} {σ : Mm} {r : Int32 × Mm} (h : F_X12_scan_67 x1 x2 x3 s0 σ = some r) : Z m_X12_scan S (Qi r) 67 [(0, .ref (sL S 3 0 0)), (1, .int (x1)), (2, .int (x2)), (3, .long (x3))] [.int (s0)] σ := by
  unfold F_X12_scan_67 at h
  obtain ⟨g1, h⟩ := gd h
  refine z_istore (lv' := [(0, .ref (sL S 3 0 0)), (1, .int (x1)), (2, .int (x2)), (3, .long (x3)), (5, .int (s0))]) dX12_scan_67 (by decide) [1, 2, 3, 4, 0] rfl ?_
  refine z_aload_n dX12_scan_69 rfl 0 rfl ?_
  refine gf_12_22 rfl dX12_scan_70 ?_
  refine z_aload_n dX12_scan_73 rfl 0 rfl ?_
  refine gf_12_232 rfl dX12_scan_74 ?_
  refine z_lload_n dX12_scan_77 rfl 3 rfl ?_
  refine is_3_5 (inb_in g1) dX12_scan_78 ?_
  refine Z.lv [0, 1, 2, 4] rfl ?_
  exact zb_X12_scan_79 h
def F_X12_scan_45 (rc12 : Int32 → Int32 → Int64 → Mm → Option (Int32 × Mm)) (x1 : Int32) (x2 : Int32) (x3 : Int64) (σ : Mm) : Option (Int32 × Mm) := (rc12 x1 (x2 + 1) x3 σ)
set_option maxRecDepth 20000 in
theorem zb_X12_scan_45 {S : Shp} {rc12 : Int32 → Int32 → Int64 → Mm → Option (Int32 × Mm)} (hrc12 : ∀ {x1 : Int32} {x2 : Int32} {x3 : Int64} {σ : Mm} {r : Int32 × Mm}, rc12 x1 x2 x3 σ = some r → Z m_X12_scan S (Qi r) 12 [(0, .ref (sL S 3 0 0)), (1, .int (x1)), (2, .int (x2)), (3, .long (x3))] [] σ) {x1 : Int32} {x2 : Int32} {x3 : Int64} {σ : Mm} {r : Int32 × Mm} (h : F_X12_scan_45 rc12 x1 x2 x3 σ = some r) : Z m_X12_scan S (Qi r) 45 [(0, .ref (sL S 3 0 0)), (1, .int (x1)), (2, .int (x2)), (3, .long (x3))] [] σ := by
  unfold F_X12_scan_45 at h
  refine z_iinc (j := 2) (v := x2 + 1) (lv' := [(0, .ref (sL S 3 0 0)), (1, .int (x1)), (2, .int (x2 + 1)), (3, .long (x3))]) dX12_scan_45 rfl rfl (by decide) [1, 2, 0, 3] rfl ?_
  refine z_goto (tgt := 12) dX12_scan_48 (by decide) ?_
  exact hrc12 h
def F_X12_scan_38 (rc12 : Int32 → Int32 → Int64 → Mm → Option (Int32 × Mm)) (x1 : Int32) (x2 : Int32) (s0 : Int32) (s1 : Int64) (σ : Mm) : Option (Int32 × Mm) := (F_X12_scan_45 rc12 x1 x2 ((s1 + (Int32.toInt64 s0)) - (96 : Int64)) σ)
set_option maxRecDepth 20000 in
theorem zb_X12_scan_38 {S : Shp} {rc12 : Int32 → Int32 → Int64 → Mm → Option (Int32 × Mm)} (hrc12 : ∀ {x1 : Int32} {x2 : Int32} {x3 : Int64} {σ : Mm} {r : Int32 × Mm}, rc12 x1 x2 x3 σ = some r → Z m_X12_scan S (Qi r) 12 [(0, .ref (sL S 3 0 0)), (1, .int (x1)), (2, .int (x2)), (3, .long (x3))] [] σ) {x1 : Int32} {x2 : Int32} {s0 : Int32} {s1 : Int64} {σ : Mm} {r : Int32 × Mm} (h : F_X12_scan_38 rc12 x1 x2 s0 s1 σ = some r) : Z m_X12_scan S (Qi r) 38 [(0, .ref (sL S 3 0 0)), (1, .int (x1)), (2, .int (x2))] [.int (s0), .long (s1)] σ := by
  unfold F_X12_scan_38 at h
  refine z_i2l dX12_scan_38 ?_
  refine z_ladd dX12_scan_39 ?_
  refine z_ldc2 qw_1411 dX12_scan_40 ?_
  refine z_lsub dX12_scan_43 ?_
  refine z_lstore_n (lv' := [(0, .ref (sL S 3 0 0)), (1, .int (x1)), (2, .int (x2)), (3, .long ((s1 + (Int32.toInt64 s0)) - (96 : Int64)))]) dX12_scan_44 rfl (by decide) [1, 2, 3, 0] rfl ?_
  exact zb_X12_scan_45 hrc12 h
def F_X12_scan_17 (rc12 : Int32 → Int32 → Int64 → Mm → Option (Int32 × Mm)) (x1 : Int32) (x2 : Int32) (x3 : Int64) (s0 : Int32) (σ : Mm) : Option (Int32 × Mm) := (if s0 = 0 then (if (x2 - x1) ≤ (8 : Int32) then (F_X12_scan_67 x1 x2 x3 (f_X12_wordOf x3) σ) else (F_X12_scan_67 x1 x2 x3 ((-1)) σ)) else (if (8 : Int32) ≤ (x2 - x1) then (F_X12_scan_45 rc12 x1 x2 x3 σ) else (bnd (F_X12_byteAt x2 σ) (fun v τ => (F_X12_scan_38 rc12 x1 x2 v (x3 * (27 : Int64)) τ)))))
set_option maxRecDepth 20000 in
theorem zb_X12_scan_17 {S : Shp} {rc12 : Int32 → Int32 → Int64 → Mm → Option (Int32 × Mm)} (hrc12 : ∀ {x1 : Int32} {x2 : Int32} {x3 : Int64} {σ : Mm} {r : Int32 × Mm}, rc12 x1 x2 x3 σ = some r → Z m_X12_scan S (Qi r) 12 [(0, .ref (sL S 3 0 0)), (1, .int (x1)), (2, .int (x2)), (3, .long (x3))] [] σ) {x1 : Int32} {x2 : Int32} {x3 : Int64} {s0 : Int32} {σ : Mm} {r : Int32 × Mm} (h : F_X12_scan_17 rc12 x1 x2 x3 s0 σ = some r) : Z m_X12_scan S (Qi r) 17 [(0, .ref (sL S 3 0 0)), (1, .int (x1)), (2, .int (x2)), (3, .long (x3))] [.int (s0)] σ := by
  unfold F_X12_scan_17 at h
  refine z_if_eq (tgt := 51) dX12_scan_17 (by decide) (fun q => ?_) (fun q => ?_)
  · have h := (if_pos q).symm.trans h
    refine z_iload_n dX12_scan_51 rfl 2 rfl ?_
    refine z_iload_n dX12_scan_52 rfl 1 rfl ?_
    refine z_isub dX12_scan_53 ?_
    refine z_bipush (v := 8) dX12_scan_54 (by decide) ?_
    refine z_icmp_le (tgt := 63) dX12_scan_56 (by decide) (fun q => ?_) (fun q => ?_)
    · have h := (if_pos q).symm.trans h
      refine z_lload_n dX12_scan_63 rfl 3 rfl ?_
      refine z_callS (M' := m_X12_wordOf) (As := [.long (x3)]) (rest := []) kl_12_285 oy_X12_wordOf ⟨Nat.le_of_ble_eq_true rfl, Nat.le_of_ble_eq_true rfl⟩ rfl (Nat.le_of_ble_eq_true rfl) rfl dX12_scan_64 (c_X12_wordOf rfl) (fun v τ hq => ?_)
      obtain ⟨rfl, hτ⟩ := hq
      subst τ
      change Z _ _ _ _ _ [.int (f_X12_wordOf x3)] _
      exact zb_X12_scan_67 h
    · have h := (if_neg q).symm.trans h
      refine z_iconst (v := (-1)) dX12_scan_59 (by decide) ?_
      refine z_goto (tgt := 67) dX12_scan_60 (by decide) ?_
      exact zb_X12_scan_67 h
  · have h := (if_neg q).symm.trans h
    refine z_iload_n dX12_scan_20 rfl 2 rfl ?_
    refine z_iload_n dX12_scan_21 rfl 1 rfl ?_
    refine z_isub dX12_scan_22 ?_
    refine z_bipush (v := 8) dX12_scan_23 (by decide) ?_
    refine z_icmp_ge (tgt := 45) dX12_scan_25 (by decide) (fun q => ?_) (fun q => ?_)
    · have h := (if_pos q).symm.trans h
      exact zb_X12_scan_45 hrc12 h
    · have h := (if_neg q).symm.trans h
      refine z_lload_n dX12_scan_28 rfl 3 rfl ?_
      refine z_ldc2 qw_1410 dX12_scan_29 ?_
      refine z_lmul dX12_scan_32 ?_
      refine z_aload_n dX12_scan_33 rfl 0 rfl ?_
      refine z_iload_n dX12_scan_34 rfl 2 rfl ?_
      obtain ⟨v, τ, hc, h⟩ := bnd_e h
      refine z_callV (M' := m_X12_byteAt) (t := 3) (i := 0) (k := 0) (As := [.int (x2)]) (rest := [.long (x3 * (27 : Int64))]) kl_12_228 oy_X12_byteAt ⟨Nat.le_of_ble_eq_true rfl, Nat.le_of_ble_eq_true rfl⟩ rfl rfl rfl rfl (Nat.le_of_ble_eq_true rfl) rfl dX12_scan_35 (c_X12_byteAt hc) (fun v2 τ2 hq => ?_)
      obtain ⟨rfl, hτ⟩ := hq
      subst τ2
      change Z _ _ _ _ _ [.int (v), .long (x3 * (27 : Int64))] _
      refine Z.lv [0, 1, 2] rfl ?_
      exact zb_X12_scan_38 hrc12 h
def B_X12_scan_12 (rc12 : Int32 → Int32 → Int64 → Mm → Option (Int32 × Mm)) (x1 : Int32) (x2 : Int32) (x3 : Int64) (σ : Mm) : Option (Int32 × Mm) := (bnd (F_X12_isLetter x2 σ) (fun v τ => (F_X12_scan_17 rc12 x1 x2 x3 v τ)))
set_option maxRecDepth 20000 in
theorem zB_X12_scan_12 {S : Shp} {rc12 : Int32 → Int32 → Int64 → Mm → Option (Int32 × Mm)} (hrc12 : ∀ {x1 : Int32} {x2 : Int32} {x3 : Int64} {σ : Mm} {r : Int32 × Mm}, rc12 x1 x2 x3 σ = some r → Z m_X12_scan S (Qi r) 12 [(0, .ref (sL S 3 0 0)), (1, .int (x1)), (2, .int (x2)), (3, .long (x3))] [] σ) {x1 : Int32} {x2 : Int32} {x3 : Int64} {σ : Mm} {r : Int32 × Mm} (h : B_X12_scan_12 rc12 x1 x2 x3 σ = some r) : Z m_X12_scan S (Qi r) 12 [(0, .ref (sL S 3 0 0)), (1, .int (x1)), (2, .int (x2)), (3, .long (x3))] [] σ := by
  unfold B_X12_scan_12 at h
  refine z_aload_n dX12_scan_12 rfl 0 rfl ?_
  refine z_iload_n dX12_scan_13 rfl 2 rfl ?_
  obtain ⟨v, τ, hc, h⟩ := bnd_e h
  refine z_callV (M' := m_X12_isLetter) (t := 3) (i := 0) (k := 0) (As := [.int (x2)]) (rest := []) kl_12_277 oy_X12_isLetter ⟨Nat.le_of_ble_eq_true rfl, Nat.le_of_ble_eq_true rfl⟩ rfl rfl rfl rfl (Nat.le_of_ble_eq_true rfl) rfl dX12_scan_14 (c_X12_isLetter hc) (fun v2 τ2 hq => ?_)
  obtain ⟨rfl, hτ⟩ := hq
  subst τ2
  change Z _ _ _ _ _ [.int (v)] _
  exact zb_X12_scan_17 hrc12 h
def F_X12_scan_12 : Nat → Int32 → Int32 → Int64 → Mm → Option (Int32 × Mm)
  | 0 => fun _ _ _ _ => none
  | n + 1 => B_X12_scan_12 (F_X12_scan_12 n)
theorem zl_X12_scan_12 {S : Shp} : ∀ (nn : Nat) {x1 : Int32} {x2 : Int32} {x3 : Int64} {σ : Mm} {r : Int32 × Mm}, F_X12_scan_12 nn x1 x2 x3 σ = some r → Z m_X12_scan S (Qi r) 12 [(0, .ref (sL S 3 0 0)), (1, .int (x1)), (2, .int (x2)), (3, .long (x3))] [] σ := by
  intro nn
  induction nn with
  | zero => intro x1 x2 x3 σ r h; cases h
  | succ nn ih => intro x1 x2 x3 σ r h; exact zB_X12_scan_12 @ih h
def F_X12_scan_7 (x1 : Int32) (x2 : Int32) (s0 : Int32) (σ : Mm) : Option (Int32 × Mm) := (if s0 = 0 then (bnd (F_X12_isDigit x1 σ) (fun v τ => (F_X12_scan_115 x1 x2 v τ))) else (F_X12_scan_12 FU x1 x2 0 σ))
set_option maxRecDepth 20000 in
theorem zb_X12_scan_7 {S : Shp} {x1 : Int32} {x2 : Int32} {s0 : Int32} {σ : Mm} {r : Int32 × Mm} (h : F_X12_scan_7 x1 x2 s0 σ = some r) : Z m_X12_scan S (Qi r) 7 [(0, .ref (sL S 3 0 0)), (1, .int (x1)), (2, .int (x2))] [.int (s0)] σ := by
  unfold F_X12_scan_7 at h
  refine z_if_eq (tgt := 110) dX12_scan_7 (by decide) (fun q => ?_) (fun q => ?_)
  · have h := (if_pos q).symm.trans h
    refine z_aload_n dX12_scan_110 rfl 0 rfl ?_
    refine z_iload_n dX12_scan_111 rfl 1 rfl ?_
    obtain ⟨v, τ, hc, h⟩ := bnd_e h
    refine z_callV (M' := m_X12_isDigit) (t := 3) (i := 0) (k := 0) (As := [.int (x1)]) (rest := []) kl_12_293 oy_X12_isDigit ⟨Nat.le_of_ble_eq_true rfl, Nat.le_of_ble_eq_true rfl⟩ rfl rfl rfl rfl (Nat.le_of_ble_eq_true rfl) rfl dX12_scan_112 (c_X12_isDigit hc) (fun v2 τ2 hq => ?_)
    obtain ⟨rfl, hτ⟩ := hq
    subst τ2
    change Z _ _ _ _ _ [.int (v)] _
    exact zb_X12_scan_115 h
  · have h := (if_neg q).symm.trans h
    refine z_lconst (v := 0) dX12_scan_10 (by decide) ?_
    refine z_lstore_n (lv' := [(0, .ref (sL S 3 0 0)), (1, .int (x1)), (2, .int (x2)), (3, .long (0))]) dX12_scan_11 rfl (by decide) [1, 2, 3, 0] rfl ?_
    exact zl_X12_scan_12 FU h
def F_X12_scan (x1 : Int32) (σ : Mm) : Option (Int32 × Mm) := (bnd (F_X12_isLetter x1 σ) (fun v τ => (F_X12_scan_7 x1 x1 v τ)))
set_option maxRecDepth 20000 in
theorem zb_X12_scan {S : Shp} {x1 : Int32} {σ : Mm} {r : Int32 × Mm} (h : F_X12_scan x1 σ = some r) : Z m_X12_scan S (Qi r) 0 [(0, .ref (sL S 3 0 0)), (1, .int (x1))] [] σ := by
  unfold F_X12_scan at h
  refine z_iload_n dX12_scan_0 rfl 1 rfl ?_
  refine z_istore_n (lv' := [(0, .ref (sL S 3 0 0)), (1, .int (x1)), (2, .int (x1))]) dX12_scan_1 rfl (by decide) [1, 2, 0] rfl ?_
  refine z_aload_n dX12_scan_2 rfl 0 rfl ?_
  refine z_iload_n dX12_scan_3 rfl 1 rfl ?_
  obtain ⟨v, τ, hc, h⟩ := bnd_e h
  refine z_callV (M' := m_X12_isLetter) (t := 3) (i := 0) (k := 0) (As := [.int (x1)]) (rest := []) kl_12_277 oy_X12_isLetter ⟨Nat.le_of_ble_eq_true rfl, Nat.le_of_ble_eq_true rfl⟩ rfl rfl rfl rfl (Nat.le_of_ble_eq_true rfl) rfl dX12_scan_4 (c_X12_isLetter hc) (fun v2 τ2 hq => ?_)
  obtain ⟨rfl, hτ⟩ := hq
  subst τ2
  change Z _ _ _ _ _ [.int (v)] _
  exact zb_X12_scan_7 h
/-- SkyStonesModel.scan(I)I -/
theorem c_X12_scan {S : Shp} {x1 : Int32} {σ : Mm} {r : Int32 × Mm} (h : F_X12_scan x1 σ = some r) : Ct m_X12_scan S [.ref (sL S 3 0 0), .int (x1)] σ (Qi r) := Ct.of (by decide +kernel) (Nat.le_of_ble_eq_true rfl) (zb_X12_scan h)
def F_X12_scanAll_87 (x2 : Int32) (σ : Mm) : Option (Mm) := (if x2 = 0 then some (σ) else (bnv (F_X12_token 4 (mA σ 3 0 0 0) 0 σ) (fun τ => some (τ))))
set_option maxRecDepth 20000 in
theorem zb_X12_scanAll_87 {S : Shp} {x2 : Int32} {σ : Mm} {r : Mm} (h : F_X12_scanAll_87 x2 σ = some r) : Z m_X12_scanAll S (Qv r) 87 [(0, .ref (sL S 3 0 0)), (2, .int (x2))] [] σ := by
  unfold F_X12_scanAll_87 at h
  refine z_iload_n dX12_scanAll_87 rfl 1 rfl ?_
  refine z_if_eq (tgt := 101) dX12_scanAll_88 (by decide) (fun q => ?_) (fun q => ?_)
  · have h := (if_pos q).symm.trans h
    cases h
    exact z_return dX12_scanAll_101 rfl ⟨rfl, rfl⟩
  · have h := (if_neg q).symm.trans h
    refine z_aload_n dX12_scanAll_91 rfl 0 rfl ?_
    refine z_iconst (v := 4) dX12_scanAll_92 (by decide) ?_
    refine z_aload_n dX12_scanAll_93 rfl 0 rfl ?_
    refine gf_12_222 rfl dX12_scanAll_94 ?_
    refine z_iconst (v := 0) dX12_scanAll_97 (by decide) ?_
    obtain ⟨τ, hc, h⟩ := bnv_e h
    refine z_callV (M' := m_X12_token) (t := 3) (i := 0) (k := 0) (As := [.int (4), .int (mA σ 3 0 0 0), .int (0)]) (rest := []) kl_12_289 oy_X12_token ⟨Nat.le_of_ble_eq_true rfl, Nat.le_of_ble_eq_true rfl⟩ rfl rfl rfl rfl (Nat.le_of_ble_eq_true rfl) rfl dX12_scanAll_98 (c_X12_token hc) (fun v2 τ2 hq => ?_)
    obtain ⟨rfl, hτ⟩ := hq
    subst τ2
    change Z _ _ _ _ _ [] _
    cases h
    exact z_return dX12_scanAll_101 rfl ⟨rfl, rfl⟩
def F_X12_scanAll_51 (rc9 : Int32 → Int32 → Mm → Option (Mm)) (x1 : Int32) (x2 : Int32) (σ : Mm) : Option (Mm) := (rc9 (x1 + 1) x2 σ)
set_option maxRecDepth 20000 in
theorem zb_X12_scanAll_51 {S : Shp} {rc9 : Int32 → Int32 → Mm → Option (Mm)} (hrc9 : ∀ {x1 : Int32} {x2 : Int32} {σ : Mm} {r : Mm}, rc9 x1 x2 σ = some r → Z m_X12_scanAll S (Qv r) 9 [(0, .ref (sL S 3 0 0)), (1, .int (x1)), (2, .int (x2))] [] σ) {x1 : Int32} {x2 : Int32} {σ : Mm} {r : Mm} (h : F_X12_scanAll_51 rc9 x1 x2 σ = some r) : Z m_X12_scanAll S (Qv r) 51 [(0, .ref (sL S 3 0 0)), (1, .int (x1)), (2, .int (x2))] [] σ := by
  unfold F_X12_scanAll_51 at h
  refine z_iinc (j := 1) (v := x1 + 1) (lv' := [(0, .ref (sL S 3 0 0)), (1, .int (x1 + 1)), (2, .int (x2))]) dX12_scanAll_51 rfl rfl (by decide) [1, 0, 2] rfl ?_
  refine z_goto (tgt := 9) dX12_scanAll_54 (by decide) ?_
  exact hrc9 h
def F_X12_scanAll_83 (rc9 : Int32 → Int32 → Mm → Option (Mm)) (x1 : Int32) (s0 : Int32) (σ : Mm) : Option (Mm) := (rc9 x1 s0 σ)
set_option maxRecDepth 20000 in
theorem zb_X12_scanAll_83 {S : Shp} {rc9 : Int32 → Int32 → Mm → Option (Mm)} (hrc9 : ∀ {x1 : Int32} {x2 : Int32} {σ : Mm} {r : Mm}, rc9 x1 x2 σ = some r → Z m_X12_scanAll S (Qv r) 9 [(0, .ref (sL S 3 0 0)), (1, .int (x1)), (2, .int (x2))] [] σ) {x1 : Int32} {s0 : Int32} {σ : Mm} {r : Mm} (h : F_X12_scanAll_83 rc9 x1 s0 σ = some r) : Z m_X12_scanAll S (Qv r) 83 [(0, .ref (sL S 3 0 0)), (1, .int (x1))] [.int (s0)] σ := by
  unfold F_X12_scanAll_83 at h
  refine z_istore_n (lv' := [(0, .ref (sL S 3 0 0)), (1, .int (x1)), (2, .int (s0))]) dX12_scanAll_83 rfl (by decide) [1, 2, 0] rfl ?_
  refine z_goto (tgt := 9) dX12_scanAll_84 (by decide) ?_
  exact hrc9 h
def F_X12_scanAll_62 (rc9 : Int32 → Int32 → Mm → Option (Mm)) (s0 : Int32) (σ : Mm) : Option (Mm) := (if inb ((mA σ 3 0 0 2) - (1 : Int32)) 2001 = true then (if (mA σ 3 0 2 ((mA σ 3 0 0 2) - (1 : Int32)).toNatClampNeg) = (5 : Int32) then (F_X12_scanAll_83 rc9 s0 0 σ) else (F_X12_scanAll_83 rc9 s0 1 σ)) else none)
set_option maxRecDepth 20000 in
theorem zb_X12_scanAll_62 {S : Shp} {rc9 : Int32 → Int32 → Mm → Option (Mm)} (hrc9 : ∀ {x1 : Int32} {x2 : Int32} {σ : Mm} {r : Mm}, rc9 x1 x2 σ = some r → Z m_X12_scanAll S (Qv r) 9 [(0, .ref (sL S 3 0 0)), (1, .int (x1)), (2, .int (x2))] [] σ) {s0 : Int32} {σ : Mm} {r : Mm} (h : F_X12_scanAll_62 rc9 s0 σ = some r) : Z m_X12_scanAll S (Qv r) 62 [(0, .ref (sL S 3 0 0))] [.int (s0)] σ := by
  unfold F_X12_scanAll_62 at h
  obtain ⟨g1, h⟩ := gd h
  refine z_istore_n (lv' := [(0, .ref (sL S 3 0 0)), (1, .int (s0))]) dX12_scanAll_62 rfl (by decide) [1, 0] rfl ?_
  refine z_aload_n dX12_scanAll_63 rfl 0 rfl ?_
  refine gf_12_13 rfl dX12_scanAll_64 ?_
  refine z_aload_n dX12_scanAll_67 rfl 0 rfl ?_
  refine gf_12_232 rfl dX12_scanAll_68 ?_
  refine z_iconst (v := 1) dX12_scanAll_71 (by decide) ?_
  refine z_isub dX12_scanAll_72 ?_
  refine ia_3_2 (inb_in g1) dX12_scanAll_73 ?_
  refine z_iconst (v := 5) dX12_scanAll_74 (by decide) ?_
  refine z_icmp_eq (tgt := 82) dX12_scanAll_75 (by decide) (fun q => ?_) (fun q => ?_)
  · have h := (if_pos q).symm.trans h
    refine z_iconst (v := 0) dX12_scanAll_82 (by decide) ?_
    exact zb_X12_scanAll_83 hrc9 h
  · have h := (if_neg q).symm.trans h
    refine z_iconst (v := 1) dX12_scanAll_78 (by decide) ?_
    refine z_goto (tgt := 83) dX12_scanAll_79 (by decide) ?_
    exact zb_X12_scanAll_83 hrc9 h
def F_X12_scanAll_26 (rc9 : Int32 → Int32 → Mm → Option (Mm)) (x1 : Int32) (x2 : Int32) (s0 : Int32) (σ : Mm) : Option (Mm) := (if s0 = (32 : Int32) then (F_X12_scanAll_51 rc9 x1 x2 σ) else (if s0 = (9 : Int32) then (F_X12_scanAll_51 rc9 x1 x2 σ) else (if s0 = (10 : Int32) then (F_X12_scanAll_51 rc9 x1 x2 σ) else (if s0 = (13 : Int32) then (F_X12_scanAll_51 rc9 x1 x2 σ) else (bnd (F_X12_scan x1 σ) (fun v τ => (F_X12_scanAll_62 rc9 v τ)))))))
set_option maxRecDepth 20000 in
theorem zb_X12_scanAll_26 {S : Shp} {rc9 : Int32 → Int32 → Mm → Option (Mm)} (hrc9 : ∀ {x1 : Int32} {x2 : Int32} {σ : Mm} {r : Mm}, rc9 x1 x2 σ = some r → Z m_X12_scanAll S (Qv r) 9 [(0, .ref (sL S 3 0 0)), (1, .int (x1)), (2, .int (x2))] [] σ) {x1 : Int32} {x2 : Int32} {s0 : Int32} {σ : Mm} {r : Mm} (h : F_X12_scanAll_26 rc9 x1 x2 s0 σ = some r) : Z m_X12_scanAll S (Qv r) 26 [(0, .ref (sL S 3 0 0)), (1, .int (x1)), (2, .int (x2))] [.int (s0)] σ := by
  unfold F_X12_scanAll_26 at h
  refine z_istore_n (lv' := [(0, .ref (sL S 3 0 0)), (1, .int (x1)), (2, .int (x2)), (3, .int (s0))]) dX12_scanAll_26 rfl (by decide) [1, 2, 3, 0] rfl ?_
  refine z_iload_n dX12_scanAll_27 rfl 3 rfl ?_
  refine z_bipush (v := 32) dX12_scanAll_28 (by decide) ?_
  refine z_icmp_eq (tgt := 51) dX12_scanAll_30 (by decide) (fun q => ?_) (fun q => ?_)
  · have h := (if_pos q).symm.trans h
    refine Z.lv [0, 1, 2] rfl ?_
    exact zb_X12_scanAll_51 hrc9 h
  · have h := (if_neg q).symm.trans h
    refine z_iload_n dX12_scanAll_33 rfl 3 rfl ?_
    refine z_bipush (v := 9) dX12_scanAll_34 (by decide) ?_
    refine z_icmp_eq (tgt := 51) dX12_scanAll_36 (by decide) (fun q => ?_) (fun q => ?_)
    · have h := (if_pos q).symm.trans h
      refine Z.lv [0, 1, 2] rfl ?_
      exact zb_X12_scanAll_51 hrc9 h
    · have h := (if_neg q).symm.trans h
      refine z_iload_n dX12_scanAll_39 rfl 3 rfl ?_
      refine z_bipush (v := 10) dX12_scanAll_40 (by decide) ?_
      refine z_icmp_eq (tgt := 51) dX12_scanAll_42 (by decide) (fun q => ?_) (fun q => ?_)
      · have h := (if_pos q).symm.trans h
        refine Z.lv [0, 1, 2] rfl ?_
        exact zb_X12_scanAll_51 hrc9 h
      · have h := (if_neg q).symm.trans h
        refine z_iload_n dX12_scanAll_45 rfl 3 rfl ?_
        refine z_bipush (v := 13) dX12_scanAll_46 (by decide) ?_
        refine z_icmp_ne (tgt := 57) dX12_scanAll_48 (by decide) (fun q => ?_) (fun q => ?_)
        · have h := (if_neg q).symm.trans h
          refine z_aload_n dX12_scanAll_57 rfl 0 rfl ?_
          refine z_iload_n dX12_scanAll_58 rfl 1 rfl ?_
          obtain ⟨v, τ, hc, h⟩ := bnd_e h
          refine z_callV (M' := m_X12_scan) (t := 3) (i := 0) (k := 0) (As := [.int (x1)]) (rest := []) kl_12_299 oy_X12_scan ⟨Nat.le_of_ble_eq_true rfl, Nat.le_of_ble_eq_true rfl⟩ rfl rfl rfl rfl (Nat.le_of_ble_eq_true rfl) rfl dX12_scanAll_59 (c_X12_scan hc) (fun v2 τ2 hq => ?_)
          obtain ⟨rfl, hτ⟩ := hq
          subst τ2
          change Z _ _ _ _ _ [.int (v)] _
          refine Z.lv [0] rfl ?_
          exact zb_X12_scanAll_62 hrc9 h
        · have h := (if_pos q).symm.trans h
          refine Z.lv [0, 1, 2] rfl ?_
          exact zb_X12_scanAll_51 hrc9 h
def B_X12_scanAll_9 (rc9 : Int32 → Int32 → Mm → Option (Mm)) (x1 : Int32) (x2 : Int32) (σ : Mm) : Option (Mm) := (if (mA σ 3 0 0 0) ≤ x1 then (F_X12_scanAll_87 x2 σ) else (if x2 = 0 then (F_X12_scanAll_87 x2 σ) else (bnd (F_X12_byteAt x1 σ) (fun v τ => (F_X12_scanAll_26 rc9 x1 x2 v τ)))))
set_option maxRecDepth 20000 in
theorem zB_X12_scanAll_9 {S : Shp} {rc9 : Int32 → Int32 → Mm → Option (Mm)} (hrc9 : ∀ {x1 : Int32} {x2 : Int32} {σ : Mm} {r : Mm}, rc9 x1 x2 σ = some r → Z m_X12_scanAll S (Qv r) 9 [(0, .ref (sL S 3 0 0)), (1, .int (x1)), (2, .int (x2))] [] σ) {x1 : Int32} {x2 : Int32} {σ : Mm} {r : Mm} (h : B_X12_scanAll_9 rc9 x1 x2 σ = some r) : Z m_X12_scanAll S (Qv r) 9 [(0, .ref (sL S 3 0 0)), (1, .int (x1)), (2, .int (x2))] [] σ := by
  unfold B_X12_scanAll_9 at h
  refine z_iload_n dX12_scanAll_9 rfl 1 rfl ?_
  refine z_aload_n dX12_scanAll_10 rfl 0 rfl ?_
  refine gf_12_222 rfl dX12_scanAll_11 ?_
  refine z_icmp_ge (tgt := 87) dX12_scanAll_14 (by decide) (fun q => ?_) (fun q => ?_)
  · have h := (if_pos q).symm.trans h
    refine Z.lv [0, 2] rfl ?_
    exact zb_X12_scanAll_87 h
  · have h := (if_neg q).symm.trans h
    refine z_iload_n dX12_scanAll_17 rfl 2 rfl ?_
    refine z_if_eq (tgt := 87) dX12_scanAll_18 (by decide) (fun q => ?_) (fun q => ?_)
    · have h := (if_pos q).symm.trans h
      refine Z.lv [0, 2] rfl ?_
      exact zb_X12_scanAll_87 h
    · have h := (if_neg q).symm.trans h
      refine z_aload_n dX12_scanAll_21 rfl 0 rfl ?_
      refine z_iload_n dX12_scanAll_22 rfl 1 rfl ?_
      obtain ⟨v, τ, hc, h⟩ := bnd_e h
      refine z_callV (M' := m_X12_byteAt) (t := 3) (i := 0) (k := 0) (As := [.int (x1)]) (rest := []) kl_12_228 oy_X12_byteAt ⟨Nat.le_of_ble_eq_true rfl, Nat.le_of_ble_eq_true rfl⟩ rfl rfl rfl rfl (Nat.le_of_ble_eq_true rfl) rfl dX12_scanAll_23 (c_X12_byteAt hc) (fun v2 τ2 hq => ?_)
      obtain ⟨rfl, hτ⟩ := hq
      subst τ2
      change Z _ _ _ _ _ [.int (v)] _
      exact zb_X12_scanAll_26 hrc9 h
def F_X12_scanAll_9 : Nat → Int32 → Int32 → Mm → Option (Mm)
  | 0 => fun _ _ _ => none
  | n + 1 => B_X12_scanAll_9 (F_X12_scanAll_9 n)
theorem zl_X12_scanAll_9 {S : Shp} : ∀ (nn : Nat) {x1 : Int32} {x2 : Int32} {σ : Mm} {r : Mm}, F_X12_scanAll_9 nn x1 x2 σ = some r → Z m_X12_scanAll S (Qv r) 9 [(0, .ref (sL S 3 0 0)), (1, .int (x1)), (2, .int (x2))] [] σ := by
  intro nn
  induction nn with
  | zero => intro x1 x2 σ r h; cases h
  | succ nn ih => intro x1 x2 σ r h; exact zB_X12_scanAll_9 @ih h
def F_X12_scanAll_5 (σ : Mm) : Option (Mm) := (F_X12_scanAll_9 FU 0 1 σ)
set_option maxRecDepth 20000 in
theorem zb_X12_scanAll_5 {S : Shp} {σ : Mm} {r : Mm} (h : F_X12_scanAll_5 σ = some r) : Z m_X12_scanAll S (Qv r) 5 [(0, .ref (sL S 3 0 0))] [] σ := by
  unfold F_X12_scanAll_5 at h
  refine z_iconst (v := 0) dX12_scanAll_5 (by decide) ?_
  refine z_istore_n (lv' := [(0, .ref (sL S 3 0 0)), (1, .int (0))]) dX12_scanAll_6 rfl (by decide) [1, 0] rfl ?_
  refine z_iconst (v := 1) dX12_scanAll_7 (by decide) ?_
  refine z_istore_n (lv' := [(0, .ref (sL S 3 0 0)), (1, .int (0)), (2, .int (1))]) dX12_scanAll_8 rfl (by decide) [1, 2, 0] rfl ?_
  exact zl_X12_scanAll_9 FU h
def F_X12_scanAll (σ : Mm) : Option (Mm) := (F_X12_scanAll_5 (setA σ 3 0 0 (upd (mA σ 3 0 0) 2 0)))
set_option maxRecDepth 20000 in
theorem zb_X12_scanAll {S : Shp} {σ : Mm} {r : Mm} (h : F_X12_scanAll σ = some r) : Z m_X12_scanAll S (Qv r) 0 [(0, .ref (sL S 3 0 0))] [] σ := by
  unfold F_X12_scanAll at h
  refine z_aload_n dX12_scanAll_0 rfl 0 rfl ?_
  refine z_iconst (v := 0) dX12_scanAll_1 (by decide) ?_
  refine pf_12_232 rfl dX12_scanAll_2 ?_
  exact zb_X12_scanAll_5 h
/-- SkyStonesModel.scanAll()V -/
theorem c_X12_scanAll {S : Shp} {σ : Mm} {r : Mm} (h : F_X12_scanAll σ = some r) : Ct m_X12_scanAll S [.ref (sL S 3 0 0)] σ (Qv r) := Ct.of (by decide +kernel) (Nat.le_of_ble_eq_true rfl) (zb_X12_scanAll h)
def F_X12_read_72 (σ : Mm) : Option (Int32 × Mm) := some (mA σ 3 0 0 8, σ)
set_option maxRecDepth 20000 in
theorem zb_X12_read_72 {S : Shp} {σ : Mm} {r : Int32 × Mm} (h : F_X12_read_72 σ = some r) : Z m_X12_read S (Qi r) 72 [(0, .ref (sL S 3 0 0))] [] σ := by
  unfold F_X12_read_72 at h
  refine z_aload_n dX12_read_72 rfl 0 rfl ?_
  refine gf_12_302 rfl dX12_read_73 ?_
  cases h
  exact z_ireturn dX12_read_76 rfl rfl ⟨rfl, rfl⟩
def F_X12_read_59 (σ : Mm) : Option (Int32 × Mm) := (if (mA σ 3 0 0 8) = 0 then (bnv (F_X12_copy 1 0 σ) (fun τ => (F_X12_read_72 τ))) else (F_X12_read_72 σ))
set_option maxRecDepth 20000 in
theorem zb_X12_read_59 {S : Shp} {σ : Mm} {r : Int32 × Mm} (h : F_X12_read_59 σ = some r) : Z m_X12_read S (Qi r) 59 [(0, .ref (sL S 3 0 0))] [] σ := by
  unfold F_X12_read_59 at h
  refine z_aload_n dX12_read_59 rfl 0 rfl ?_
  refine gf_12_302 rfl dX12_read_60 ?_
  refine z_if_ne (tgt := 72) dX12_read_63 (by decide) (fun q => ?_) (fun q => ?_)
  · have h := (if_neg q).symm.trans h
    exact zb_X12_read_72 h
  · have h := (if_pos q).symm.trans h
    refine z_aload_n dX12_read_66 rfl 0 rfl ?_
    refine z_iconst (v := 1) dX12_read_67 (by decide) ?_
    refine z_iconst (v := 0) dX12_read_68 (by decide) ?_
    obtain ⟨τ, hc, h⟩ := bnv_e h
    refine z_callV (M' := m_X12_copy) (t := 3) (i := 0) (k := 0) (As := [.int (1), .int (0)]) (rest := []) kl_12_404 oy_X12_copy ⟨Nat.le_of_ble_eq_true rfl, Nat.le_of_ble_eq_true rfl⟩ rfl rfl rfl rfl (Nat.le_of_ble_eq_true rfl) rfl dX12_read_69 (c_X12_copy hc) (fun v2 τ2 hq => ?_)
    obtain ⟨rfl, hτ⟩ := hq
    subst τ2
    change Z _ _ _ _ _ [] _
    exact zb_X12_read_72 h
def F_X12_read_54 (σ : Mm) : Option (Int32 × Mm) := (F_X12_read_59 (setA σ 3 0 0 (upd (mA σ 3 0 0) 0 0)))
set_option maxRecDepth 20000 in
theorem zb_X12_read_54 {S : Shp} {σ : Mm} {r : Int32 × Mm} (h : F_X12_read_54 σ = some r) : Z m_X12_read S (Qi r) 54 [(0, .ref (sL S 3 0 0))] [] σ := by
  unfold F_X12_read_54 at h
  refine z_aload_n dX12_read_54 rfl 0 rfl ?_
  refine z_iconst (v := 0) dX12_read_55 (by decide) ?_
  refine pf_12_222 rfl dX12_read_56 ?_
  exact zb_X12_read_59 h
def F_X12_read_46 (σ : Mm) : Option (Int32 × Mm) := (F_X12_read_54 (setA σ 3 0 0 (upd (mA σ 3 0 0) 9 (mA σ 3 0 0 11))))
set_option maxRecDepth 20000 in
theorem zb_X12_read_46 {S : Shp} {σ : Mm} {r : Int32 × Mm} (h : F_X12_read_46 σ = some r) : Z m_X12_read S (Qi r) 46 [(0, .ref (sL S 3 0 0))] [] σ := by
  unfold F_X12_read_46 at h
  refine z_aload_n dX12_read_46 rfl 0 rfl ?_
  refine z_aload_n dX12_read_47 rfl 0 rfl ?_
  refine gf_12_311 rfl dX12_read_48 ?_
  refine pf_12_26 rfl dX12_read_51 ?_
  exact zb_X12_read_54 h
def F_X12_read_28 (s0 : Int32) (σ : Mm) : Option (Int32 × Mm) := (if s0 = 0 then (F_X12_read_54 σ) else (if (mA σ 3 0 0 10) = 0 then (F_X12_read_54 σ) else (F_X12_read_46 (setA σ 3 0 0 (upd (mA σ 3 0 0) 8 (mA σ 3 0 0 10))))))
set_option maxRecDepth 20000 in
theorem zb_X12_read_28 {S : Shp} {s0 : Int32} {σ : Mm} {r : Int32 × Mm} (h : F_X12_read_28 s0 σ = some r) : Z m_X12_read S (Qi r) 28 [(0, .ref (sL S 3 0 0))] [.int (s0)] σ := by
  unfold F_X12_read_28 at h
  refine z_if_eq (tgt := 54) dX12_read_28 (by decide) (fun q => ?_) (fun q => ?_)
  · have h := (if_pos q).symm.trans h
    exact zb_X12_read_54 h
  · have h := (if_neg q).symm.trans h
    refine z_aload_n dX12_read_31 rfl 0 rfl ?_
    refine gf_12_308 rfl dX12_read_32 ?_
    refine z_if_eq (tgt := 54) dX12_read_35 (by decide) (fun q => ?_) (fun q => ?_)
    · have h := (if_pos q).symm.trans h
      exact zb_X12_read_54 h
    · have h := (if_neg q).symm.trans h
      refine z_aload_n dX12_read_38 rfl 0 rfl ?_
      refine z_aload_n dX12_read_39 rfl 0 rfl ?_
      refine gf_12_308 rfl dX12_read_40 ?_
      refine pf_12_302 rfl dX12_read_43 ?_
      exact zb_X12_read_46 h
def F_X12_read_24 (σ : Mm) : Option (Int32 × Mm) := (bnd (F_X12_parses  σ) (fun v τ => (F_X12_read_28 v τ)))
set_option maxRecDepth 20000 in
theorem zb_X12_read_24 {S : Shp} {σ : Mm} {r : Int32 × Mm} (h : F_X12_read_24 σ = some r) : Z m_X12_read S (Qi r) 24 [(0, .ref (sL S 3 0 0))] [] σ := by
  unfold F_X12_read_24 at h
  refine z_aload_n dX12_read_24 rfl 0 rfl ?_
  obtain ⟨v, τ, hc, h⟩ := bnd_e h
  refine z_callV (M' := m_X12_parses) (t := 3) (i := 0) (k := 0) (As := []) (rest := []) kl_12_401 oy_X12_parses ⟨Nat.le_of_ble_eq_true rfl, Nat.le_of_ble_eq_true rfl⟩ rfl rfl rfl rfl (Nat.le_of_ble_eq_true rfl) rfl dX12_read_25 (c_X12_parses hc) (fun v2 τ2 hq => ?_)
  obtain ⟨rfl, hτ⟩ := hq
  subst τ2
  change Z _ _ _ _ _ [.int (v)] _
  exact zb_X12_read_28 h
def F_X12_read_19 (σ : Mm) : Option (Int32 × Mm) := (bnv (F_X12_begin 1 σ) (fun τ => (F_X12_read_24 τ)))
set_option maxRecDepth 20000 in
theorem zb_X12_read_19 {S : Shp} {σ : Mm} {r : Int32 × Mm} (h : F_X12_read_19 σ = some r) : Z m_X12_read S (Qi r) 19 [(0, .ref (sL S 3 0 0))] [] σ := by
  unfold F_X12_read_19 at h
  refine z_aload_n dX12_read_19 rfl 0 rfl ?_
  refine z_iconst (v := 1) dX12_read_20 (by decide) ?_
  obtain ⟨τ, hc, h⟩ := bnv_e h
  refine z_callV (M' := m_X12_begin) (t := 3) (i := 0) (k := 0) (As := [.int (1)]) (rest := []) kl_12_218 oy_X12_begin ⟨Nat.le_of_ble_eq_true rfl, Nat.le_of_ble_eq_true rfl⟩ rfl rfl rfl rfl (Nat.le_of_ble_eq_true rfl) rfl dX12_read_21 (c_X12_begin hc) (fun v2 τ2 hq => ?_)
  obtain ⟨rfl, hτ⟩ := hq
  subst τ2
  change Z _ _ _ _ _ [] _
  exact zb_X12_read_24 h
def F_X12_read_14 (σ : Mm) : Option (Int32 × Mm) := (F_X12_read_19 (setA σ 3 0 0 (upd (mA σ 3 0 0) 10 0)))
set_option maxRecDepth 20000 in
theorem zb_X12_read_14 {S : Shp} {σ : Mm} {r : Int32 × Mm} (h : F_X12_read_14 σ = some r) : Z m_X12_read S (Qi r) 14 [(0, .ref (sL S 3 0 0))] [] σ := by
  unfold F_X12_read_14 at h
  refine z_aload_n dX12_read_14 rfl 0 rfl ?_
  refine z_iconst (v := 0) dX12_read_15 (by decide) ?_
  refine pf_12_308 rfl dX12_read_16 ?_
  exact zb_X12_read_19 h
def F_X12_read_9 (σ : Mm) : Option (Int32 × Mm) := (F_X12_read_14 (setA σ 3 0 0 (upd (mA σ 3 0 0) 9 ((-1)))))
set_option maxRecDepth 20000 in
theorem zb_X12_read_9 {S : Shp} {σ : Mm} {r : Int32 × Mm} (h : F_X12_read_9 σ = some r) : Z m_X12_read S (Qi r) 9 [(0, .ref (sL S 3 0 0))] [] σ := by
  unfold F_X12_read_9 at h
  refine z_aload_n dX12_read_9 rfl 0 rfl ?_
  refine z_iconst (v := (-1)) dX12_read_10 (by decide) ?_
  refine pf_12_26 rfl dX12_read_11 ?_
  exact zb_X12_read_14 h
def F_X12_read_4 (σ : Mm) : Option (Int32 × Mm) := (F_X12_read_9 (setA σ 3 0 0 (upd (mA σ 3 0 0) 8 0)))
set_option maxRecDepth 20000 in
theorem zb_X12_read_4 {S : Shp} {σ : Mm} {r : Int32 × Mm} (h : F_X12_read_4 σ = some r) : Z m_X12_read S (Qi r) 4 [(0, .ref (sL S 3 0 0))] [] σ := by
  unfold F_X12_read_4 at h
  refine z_aload_n dX12_read_4 rfl 0 rfl ?_
  refine z_iconst (v := 0) dX12_read_5 (by decide) ?_
  refine pf_12_302 rfl dX12_read_6 ?_
  exact zb_X12_read_9 h
def F_X12_read (σ : Mm) : Option (Int32 × Mm) := (bnv (F_X12_scanAll  σ) (fun τ => (F_X12_read_4 τ)))
set_option maxRecDepth 20000 in
theorem zb_X12_read {S : Shp} {σ : Mm} {r : Int32 × Mm} (h : F_X12_read σ = some r) : Z m_X12_read S (Qi r) 0 [(0, .ref (sL S 3 0 0))] [] σ := by
  unfold F_X12_read at h
  refine z_aload_n dX12_read_0 rfl 0 rfl ?_
  obtain ⟨τ, hc, h⟩ := bnv_e h
  refine z_callV (M' := m_X12_scanAll) (t := 3) (i := 0) (k := 0) (As := []) (rest := []) kl_12_398 oy_X12_scanAll ⟨Nat.le_of_ble_eq_true rfl, Nat.le_of_ble_eq_true rfl⟩ rfl rfl rfl rfl (Nat.le_of_ble_eq_true rfl) rfl dX12_read_1 (c_X12_scanAll hc) (fun v2 τ2 hq => ?_)
  obtain ⟨rfl, hτ⟩ := hq
  subst τ2
  change Z _ _ _ _ _ [] _
  exact zb_X12_read_4 h
/-- SkyStonesModel.read()I -/
theorem c_X12_read {S : Shp} {σ : Mm} {r : Int32 × Mm} (h : F_X12_read σ = some r) : Ct m_X12_read S [.ref (sL S 3 0 0)] σ (Qi r) := Ct.of (by decide +kernel) (Nat.le_of_ble_eq_true rfl) (zb_X12_read h)
def F_X12_rise_27 (s0 : Int32) (σ : Mm) : Option (Int32 × Mm) := some (s0, σ)
set_option maxRecDepth 20000 in
theorem zb_X12_rise_27 {S : Shp} {s0 : Int32} {σ : Mm} {r : Int32 × Mm} (h : F_X12_rise_27 s0 σ = some r) : Z m_X12_rise S (Qi r) 27 [] [.int (s0)] σ := by
  unfold F_X12_rise_27 at h
  refine z_goto (tgt := 31) dX12_rise_27 (by decide) ?_
  cases h
  exact z_ireturn dX12_rise_31 rfl rfl ⟨rfl, rfl⟩
def F_X12_rise (x1 : Int32) (x2 : Int32) (σ : Mm) : Option (Int32 × Mm) := (if x1 < 0 then some ((-1), σ) else (if inb 0 5 = true then (if (mA σ 3 0 21 (0 : Int32).toNatClampNeg) ≤ x1 then some ((-1), σ) else (if (f_X12_isYear x2) = 0 then some ((-1), σ) else (bnd (F_X12_riseOf x1 x2 σ) (fun v τ => (F_X12_rise_27 v τ))))) else none))
set_option maxRecDepth 20000 in
theorem zb_X12_rise {S : Shp} {x1 : Int32} {x2 : Int32} {σ : Mm} {r : Int32 × Mm} (h : F_X12_rise x1 x2 σ = some r) : Z m_X12_rise S (Qi r) 0 [(0, .ref (sL S 3 0 0)), (1, .int (x1)), (2, .int (x2))] [] σ := by
  unfold F_X12_rise at h
  refine z_iload_n dX12_rise_0 rfl 1 rfl ?_
  refine z_if_lt (tgt := 30) dX12_rise_1 (by decide) (fun q => ?_) (fun q => ?_)
  · have h := (if_pos q).symm.trans h
    refine z_iconst (v := (-1)) dX12_rise_30 (by decide) ?_
    cases h
    exact z_ireturn dX12_rise_31 rfl rfl ⟨rfl, rfl⟩
  · have h := (if_neg q).symm.trans h
    obtain ⟨g1, h⟩ := gd h
    refine z_iload_n dX12_rise_4 rfl 1 rfl ?_
    refine z_aload_n dX12_rise_5 rfl 0 rfl ?_
    refine gf_12_76 rfl dX12_rise_6 ?_
    refine z_iconst (v := 0) dX12_rise_9 (by decide) ?_
    refine ia_3_21 (inb_in g1) dX12_rise_10 ?_
    refine z_icmp_ge (tgt := 30) dX12_rise_11 (by decide) (fun q => ?_) (fun q => ?_)
    · have h := (if_pos q).symm.trans h
      refine z_iconst (v := (-1)) dX12_rise_30 (by decide) ?_
      cases h
      exact z_ireturn dX12_rise_31 rfl rfl ⟨rfl, rfl⟩
    · have h := (if_neg q).symm.trans h
      refine z_iload_n dX12_rise_14 rfl 2 rfl ?_
      refine z_callS (M' := m_X12_isYear) (As := [.int (x2)]) (rest := []) kl_12_472 oy_X12_isYear ⟨Nat.le_of_ble_eq_true rfl, Nat.le_of_ble_eq_true rfl⟩ rfl (Nat.le_of_ble_eq_true rfl) rfl dX12_rise_15 (c_X12_isYear rfl) (fun v τ hq => ?_)
      obtain ⟨rfl, hτ⟩ := hq
      subst τ
      change Z _ _ _ _ _ [.int (f_X12_isYear x2)] _
      refine z_if_eq (tgt := 30) dX12_rise_18 (by decide) (fun q => ?_) (fun q => ?_)
      · have h := (if_pos q).symm.trans h
        refine z_iconst (v := (-1)) dX12_rise_30 (by decide) ?_
        cases h
        exact z_ireturn dX12_rise_31 rfl rfl ⟨rfl, rfl⟩
      · have h := (if_neg q).symm.trans h
        refine z_aload_n dX12_rise_21 rfl 0 rfl ?_
        refine z_iload_n dX12_rise_22 rfl 1 rfl ?_
        refine z_iload_n dX12_rise_23 rfl 2 rfl ?_
        obtain ⟨v, τ, hc, h⟩ := bnd_e h
        refine z_callV (M' := m_X12_riseOf) (t := 3) (i := 0) (k := 0) (As := [.int (x1), .int (x2)]) (rest := []) kl_12_475 oy_X12_riseOf ⟨Nat.le_of_ble_eq_true rfl, Nat.le_of_ble_eq_true rfl⟩ rfl rfl rfl rfl (Nat.le_of_ble_eq_true rfl) rfl dX12_rise_24 (c_X12_riseOf hc) (fun v2 τ2 hq => ?_)
        obtain ⟨rfl, hτ⟩ := hq
        subst τ2
        change Z _ _ _ _ _ [.int (v)] _
        refine Z.lv [] rfl ?_
        exact zb_X12_rise_27 h
/-- SkyStonesModel.rise(II)I -/
theorem c_X12_rise {S : Shp} {x1 : Int32} {x2 : Int32} {σ : Mm} {r : Int32 × Mm} (h : F_X12_rise x1 x2 σ = some r) : Ct m_X12_rise S [.ref (sL S 3 0 0), .int (x1), .int (x2)] σ (Qi r) := Ct.of (by decide +kernel) (Nat.le_of_ble_eq_true rfl) (zb_X12_rise h)
def F_X12_say_148 (s0 : Int32) (σ : Mm) : Option (Int32 × Mm) := (if s0 = 0 then some (5, σ) else some (6, σ))
set_option maxRecDepth 20000 in
theorem zb_X12_say_148 {S : Shp} {s0 : Int32} {σ : Mm} {r : Int32 × Mm} (h : F_X12_say_148 s0 σ = some r) : Z m_X12_say S (Qi r) 148 [] [.int (s0)] σ := by
  unfold F_X12_say_148 at h
  refine z_if_ne (tgt := 155) dX12_say_148 (by decide) (fun q => ?_) (fun q => ?_)
  · have h := (if_neg q).symm.trans h
    refine z_bipush (v := 6) dX12_say_155 (by decide) ?_
    cases h
    exact z_ireturn dX12_say_157 rfl rfl ⟨rfl, rfl⟩
  · have h := (if_pos q).symm.trans h
    refine z_iconst (v := 5) dX12_say_151 (by decide) ?_
    refine z_goto (tgt := 157) dX12_say_152 (by decide) ?_
    cases h
    exact z_ireturn dX12_say_157 rfl rfl ⟨rfl, rfl⟩
def F_X12_say_131 (x1 : Int32) (σ : Mm) : Option (Int32 × Mm) := (if inb x1 196 = true then (if inb 0 5 = true then (bnd (F_X12_hitBy (mA σ 3 0 53 x1.toNatClampNeg) (mA σ 3 0 7 (0 : Int32).toNatClampNeg) 1 σ) (fun v τ => (F_X12_say_148 v τ))) else none) else none)
set_option maxRecDepth 20000 in
theorem zb_X12_say_131 {S : Shp} {x1 : Int32} {σ : Mm} {r : Int32 × Mm} (h : F_X12_say_131 x1 σ = some r) : Z m_X12_say S (Qi r) 131 [(0, .ref (sL S 3 0 0)), (1, .int (x1))] [] σ := by
  unfold F_X12_say_131 at h
  obtain ⟨g6, h⟩ := gd h
  refine z_aload_n dX12_say_131 rfl 0 rfl ?_
  refine z_aload_n dX12_say_132 rfl 0 rfl ?_
  refine gf_12_172 rfl dX12_say_133 ?_
  refine z_iload_n dX12_say_136 rfl 1 rfl ?_
  obtain ⟨g7, h⟩ := gd h
  refine ia_3_53 (inb_in g6) dX12_say_137 ?_
  refine z_aload_n dX12_say_138 rfl 0 rfl ?_
  refine gf_12_34 rfl dX12_say_139 ?_
  refine z_iconst (v := 0) dX12_say_142 (by decide) ?_
  refine ia_3_7 (inb_in g7) dX12_say_143 ?_
  refine z_iconst (v := 1) dX12_say_144 (by decide) ?_
  obtain ⟨v, τ, hc, h⟩ := bnd_e h
  refine z_callV (M' := m_X12_hitBy) (t := 3) (i := 0) (k := 0) (As := [.int (mA σ 3 0 53 x1.toNatClampNeg), .int (mA σ 3 0 7 (0 : Int32).toNatClampNeg), .int (1)]) (rest := []) kl_12_484 oy_X12_hitBy ⟨Nat.le_of_ble_eq_true rfl, Nat.le_of_ble_eq_true rfl⟩ rfl rfl rfl rfl (Nat.le_of_ble_eq_true rfl) rfl dX12_say_145 (c_X12_hitBy hc) (fun v2 τ2 hq => ?_)
  obtain ⟨rfl, hτ⟩ := hq
  subst τ2
  change Z _ _ _ _ _ [.int (v)] _
  refine Z.lv [] rfl ?_
  exact zb_X12_say_148 h
def F_X12_say_126 (x1 : Int32) (s0 : Int32) (σ : Mm) : Option (Int32 × Mm) := (if s0 = 0 then some (4, σ) else (F_X12_say_131 x1 σ))
set_option maxRecDepth 20000 in
theorem zb_X12_say_126 {S : Shp} {x1 : Int32} {s0 : Int32} {σ : Mm} {r : Int32 × Mm} (h : F_X12_say_126 x1 s0 σ = some r) : Z m_X12_say S (Qi r) 126 [(0, .ref (sL S 3 0 0)), (1, .int (x1))] [.int (s0)] σ := by
  unfold F_X12_say_126 at h
  refine z_if_ne (tgt := 131) dX12_say_126 (by decide) (fun q => ?_) (fun q => ?_)
  · have h := (if_neg q).symm.trans h
    exact zb_X12_say_131 h
  · have h := (if_pos q).symm.trans h
    refine z_iconst (v := 4) dX12_say_129 (by decide) ?_
    cases h
    exact z_ireturn dX12_say_130 rfl rfl ⟨rfl, rfl⟩
def F_X12_say_111 (x1 : Int32) (s0 : Int32) (σ : Mm) : Option (Int32 × Mm) := (if s0 = 0 then (bnd (F_X12_isDoor (x1 - x1 / (14 : Int32) * (14 : Int32)) (x1 / (14 : Int32)) σ) (fun v τ => (F_X12_say_126 x1 v τ))) else (F_X12_say_131 x1 σ))
set_option maxRecDepth 20000 in
theorem zb_X12_say_111 {S : Shp} {x1 : Int32} {s0 : Int32} {σ : Mm} {r : Int32 × Mm} (h : F_X12_say_111 x1 s0 σ = some r) : Z m_X12_say S (Qi r) 111 [(0, .ref (sL S 3 0 0)), (1, .int (x1))] [.int (s0)] σ := by
  unfold F_X12_say_111 at h
  refine z_if_ne (tgt := 131) dX12_say_111 (by decide) (fun q => ?_) (fun q => ?_)
  · have h := (if_neg q).symm.trans h
    exact zb_X12_say_131 h
  · have h := (if_pos q).symm.trans h
    refine z_aload_n dX12_say_114 rfl 0 rfl ?_
    refine z_iload_n dX12_say_115 rfl 1 rfl ?_
    refine z_bipush (v := 14) dX12_say_116 (by decide) ?_
    refine z_irem dX12_say_118 (by decide) ?_
    refine z_iload_n dX12_say_119 rfl 1 rfl ?_
    refine z_bipush (v := 14) dX12_say_120 (by decide) ?_
    refine z_idiv dX12_say_122 (by decide) ?_
    obtain ⟨v, τ, hc, h⟩ := bnd_e h
    refine z_callV (M' := m_X12_isDoor) (t := 3) (i := 0) (k := 0) (As := [.int (x1 - x1 / (14 : Int32) * (14 : Int32)), .int (x1 / (14 : Int32))]) (rest := []) kl_12_444 oy_X12_isDoor ⟨Nat.le_of_ble_eq_true rfl, Nat.le_of_ble_eq_true rfl⟩ rfl rfl rfl rfl (Nat.le_of_ble_eq_true rfl) rfl dX12_say_123 (c_X12_isDoor hc) (fun v2 τ2 hq => ?_)
    obtain ⟨rfl, hτ⟩ := hq
    subst τ2
    change Z _ _ _ _ _ [.int (v)] _
    exact zb_X12_say_126 h
def F_X12_say_92 (x1 : Int32) (s0 : Int32) (σ : Mm) : Option (Int32 × Mm) := (if s0 ≤ (18 : Int32) then (bnd (F_X12_isDoor (x1 / (14 : Int32)) (x1 - x1 / (14 : Int32) * (14 : Int32)) σ) (fun v τ => (F_X12_say_111 x1 v τ))) else some (3, σ))
set_option maxRecDepth 20000 in
theorem zb_X12_say_92 {S : Shp} {x1 : Int32} {s0 : Int32} {σ : Mm} {r : Int32 × Mm} (h : F_X12_say_92 x1 s0 σ = some r) : Z m_X12_say S (Qi r) 92 [(0, .ref (sL S 3 0 0)), (1, .int (x1))] [.int (s0)] σ := by
  unfold F_X12_say_92 at h
  refine z_bipush (v := 18) dX12_say_92 (by decide) ?_
  refine z_icmp_le (tgt := 99) dX12_say_94 (by decide) (fun q => ?_) (fun q => ?_)
  · have h := (if_pos q).symm.trans h
    refine z_aload_n dX12_say_99 rfl 0 rfl ?_
    refine z_iload_n dX12_say_100 rfl 1 rfl ?_
    refine z_bipush (v := 14) dX12_say_101 (by decide) ?_
    refine z_idiv dX12_say_103 (by decide) ?_
    refine z_iload_n dX12_say_104 rfl 1 rfl ?_
    refine z_bipush (v := 14) dX12_say_105 (by decide) ?_
    refine z_irem dX12_say_107 (by decide) ?_
    obtain ⟨v, τ, hc, h⟩ := bnd_e h
    refine z_callV (M' := m_X12_isDoor) (t := 3) (i := 0) (k := 0) (As := [.int (x1 / (14 : Int32)), .int (x1 - x1 / (14 : Int32) * (14 : Int32))]) (rest := []) kl_12_444 oy_X12_isDoor ⟨Nat.le_of_ble_eq_true rfl, Nat.le_of_ble_eq_true rfl⟩ rfl rfl rfl rfl (Nat.le_of_ble_eq_true rfl) rfl dX12_say_108 (c_X12_isDoor hc) (fun v2 τ2 hq => ?_)
    obtain ⟨rfl, hτ⟩ := hq
    subst τ2
    change Z _ _ _ _ _ [.int (v)] _
    exact zb_X12_say_111 h
  · have h := (if_neg q).symm.trans h
    refine z_iconst (v := 3) dX12_say_97 (by decide) ?_
    cases h
    exact z_ireturn dX12_say_98 rfl rfl ⟨rfl, rfl⟩
def F_X12_say_73 (x1 : Int32) (s0 : Int32) (σ : Mm) : Option (Int32 × Mm) := (if s0 = 0 then some (2, σ) else (if inb 0 5 = true then (bnd (F_X12_asMany (((1 : Int32) <<< ((mA σ 3 0 21 (0 : Int32).toNatClampNeg) &&& 31)) - (1 : Int32)) σ) (fun v τ => (F_X12_say_92 x1 v τ))) else none))
set_option maxRecDepth 20000 in
theorem zb_X12_say_73 {S : Shp} {x1 : Int32} {s0 : Int32} {σ : Mm} {r : Int32 × Mm} (h : F_X12_say_73 x1 s0 σ = some r) : Z m_X12_say S (Qi r) 73 [(0, .ref (sL S 3 0 0)), (1, .int (x1))] [.int (s0)] σ := by
  unfold F_X12_say_73 at h
  refine z_if_ne (tgt := 78) dX12_say_73 (by decide) (fun q => ?_) (fun q => ?_)
  · have h := (if_neg q).symm.trans h
    obtain ⟨g5, h⟩ := gd h
    refine z_aload_n dX12_say_78 rfl 0 rfl ?_
    refine z_iconst (v := 1) dX12_say_79 (by decide) ?_
    refine z_aload_n dX12_say_80 rfl 0 rfl ?_
    refine gf_12_76 rfl dX12_say_81 ?_
    refine z_iconst (v := 0) dX12_say_84 (by decide) ?_
    refine ia_3_21 (inb_in g5) dX12_say_85 ?_
    refine z_ishl dX12_say_86 ?_
    refine z_iconst (v := 1) dX12_say_87 (by decide) ?_
    refine z_isub dX12_say_88 ?_
    obtain ⟨v, τ, hc, h⟩ := bnd_e h
    refine z_callV (M' := m_X12_asMany) (t := 3) (i := 0) (k := 0) (As := [.int (((1 : Int32) <<< ((mA σ 3 0 21 (0 : Int32).toNatClampNeg) &&& 31)) - (1 : Int32))]) (rest := []) kl_12_500 oy_X12_asMany ⟨Nat.le_of_ble_eq_true rfl, Nat.le_of_ble_eq_true rfl⟩ rfl rfl rfl rfl (Nat.le_of_ble_eq_true rfl) rfl dX12_say_89 (c_X12_asMany hc) (fun v2 τ2 hq => ?_)
    obtain ⟨rfl, hτ⟩ := hq
    subst τ2
    change Z _ _ _ _ _ [.int (v)] _
    exact zb_X12_say_92 h
  · have h := (if_pos q).symm.trans h
    refine z_iconst (v := 2) dX12_say_76 (by decide) ?_
    cases h
    exact z_ireturn dX12_say_77 rfl rfl ⟨rfl, rfl⟩
def F_X12_say_34 (x1 : Int32) (σ : Mm) : Option (Int32 × Mm) := (if inb x1 196 = true then (if (mA σ 3 0 52 x1.toNatClampNeg) = 0 then some (0, σ) else (if inb x1 196 = true then (if (mA σ 3 0 55 x1.toNatClampNeg) = 0 then some (1, σ) else (if inb x1 196 = true then (if inb 0 5 = true then (bnd (F_X12_hitBy (mA σ 3 0 53 x1.toNatClampNeg) (mA σ 3 0 7 (0 : Int32).toNatClampNeg) 0 σ) (fun v τ => (F_X12_say_73 x1 v τ))) else none) else none)) else none)) else none)
set_option maxRecDepth 20000 in
theorem zb_X12_say_34 {S : Shp} {x1 : Int32} {σ : Mm} {r : Int32 × Mm} (h : F_X12_say_34 x1 σ = some r) : Z m_X12_say S (Qi r) 34 [(0, .ref (sL S 3 0 0)), (1, .int (x1))] [] σ := by
  unfold F_X12_say_34 at h
  obtain ⟨g1, h⟩ := gd h
  refine z_aload_n dX12_say_34 rfl 0 rfl ?_
  refine gf_12_169 rfl dX12_say_35 ?_
  refine z_iload_n dX12_say_38 rfl 1 rfl ?_
  refine ia_3_52 (inb_in g1) dX12_say_39 ?_
  refine z_if_ne (tgt := 45) dX12_say_40 (by decide) (fun q => ?_) (fun q => ?_)
  · have h := (if_neg q).symm.trans h
    obtain ⟨g2, h⟩ := gd h
    refine z_aload_n dX12_say_45 rfl 0 rfl ?_
    refine gf_12_178 rfl dX12_say_46 ?_
    refine z_iload_n dX12_say_49 rfl 1 rfl ?_
    refine ia_3_55 (inb_in g2) dX12_say_50 ?_
    refine z_if_ne (tgt := 56) dX12_say_51 (by decide) (fun q => ?_) (fun q => ?_)
    · have h := (if_neg q).symm.trans h
      obtain ⟨g3, h⟩ := gd h
      refine z_aload_n dX12_say_56 rfl 0 rfl ?_
      refine z_aload_n dX12_say_57 rfl 0 rfl ?_
      refine gf_12_172 rfl dX12_say_58 ?_
      refine z_iload_n dX12_say_61 rfl 1 rfl ?_
      obtain ⟨g4, h⟩ := gd h
      refine ia_3_53 (inb_in g3) dX12_say_62 ?_
      refine z_aload_n dX12_say_63 rfl 0 rfl ?_
      refine gf_12_34 rfl dX12_say_64 ?_
      refine z_iconst (v := 0) dX12_say_67 (by decide) ?_
      refine ia_3_7 (inb_in g4) dX12_say_68 ?_
      refine z_iconst (v := 0) dX12_say_69 (by decide) ?_
      obtain ⟨v, τ, hc, h⟩ := bnd_e h
      refine z_callV (M' := m_X12_hitBy) (t := 3) (i := 0) (k := 0) (As := [.int (mA σ 3 0 53 x1.toNatClampNeg), .int (mA σ 3 0 7 (0 : Int32).toNatClampNeg), .int (0)]) (rest := []) kl_12_484 oy_X12_hitBy ⟨Nat.le_of_ble_eq_true rfl, Nat.le_of_ble_eq_true rfl⟩ rfl rfl rfl rfl (Nat.le_of_ble_eq_true rfl) rfl dX12_say_70 (c_X12_hitBy hc) (fun v2 τ2 hq => ?_)
      obtain ⟨rfl, hτ⟩ := hq
      subst τ2
      change Z _ _ _ _ _ [.int (v)] _
      exact zb_X12_say_73 h
    · have h := (if_pos q).symm.trans h
      refine z_iconst (v := 1) dX12_say_54 (by decide) ?_
      cases h
      exact z_ireturn dX12_say_55 rfl rfl ⟨rfl, rfl⟩
  · have h := (if_pos q).symm.trans h
    refine z_iconst (v := 0) dX12_say_43 (by decide) ?_
    cases h
    exact z_ireturn dX12_say_44 rfl rfl ⟨rfl, rfl⟩
def F_X12_say_23 (x1 : Int32) (x2 : Int32) (x3 : Int32) (s0 : Int32) (σ : Mm) : Option (Int32 × Mm) := (if s0 = 0 then some ((-1), σ) else (bnv (F_X12_layAll x2 x3 σ) (fun τ => (F_X12_say_34 x1 τ))))
set_option maxRecDepth 20000 in
theorem zb_X12_say_23 {S : Shp} {x1 : Int32} {x2 : Int32} {x3 : Int32} {s0 : Int32} {σ : Mm} {r : Int32 × Mm} (h : F_X12_say_23 x1 x2 x3 s0 σ = some r) : Z m_X12_say S (Qi r) 23 [(0, .ref (sL S 3 0 0)), (1, .int (x1)), (2, .int (x2)), (3, .int (x3))] [.int (s0)] σ := by
  unfold F_X12_say_23 at h
  refine z_if_ne (tgt := 28) dX12_say_23 (by decide) (fun q => ?_) (fun q => ?_)
  · have h := (if_neg q).symm.trans h
    refine z_aload_n dX12_say_28 rfl 0 rfl ?_
    refine z_iload_n dX12_say_29 rfl 2 rfl ?_
    refine z_iload_n dX12_say_30 rfl 3 rfl ?_
    obtain ⟨τ, hc, h⟩ := bnv_e h
    refine z_callV (M' := m_X12_layAll) (t := 3) (i := 0) (k := 0) (As := [.int (x2), .int (x3)]) (rest := []) kl_12_494 oy_X12_layAll ⟨Nat.le_of_ble_eq_true rfl, Nat.le_of_ble_eq_true rfl⟩ rfl rfl rfl rfl (Nat.le_of_ble_eq_true rfl) rfl dX12_say_31 (c_X12_layAll hc) (fun v2 τ2 hq => ?_)
    obtain ⟨rfl, hτ⟩ := hq
    subst τ2
    change Z _ _ _ _ _ [] _
    refine Z.lv [0, 1] rfl ?_
    exact zb_X12_say_34 h
  · have h := (if_pos q).symm.trans h
    refine z_iconst (v := (-1)) dX12_say_26 (by decide) ?_
    cases h
    exact z_ireturn dX12_say_27 rfl rfl ⟨rfl, rfl⟩
def F_X12_say (x1 : Int32) (x2 : Int32) (x3 : Int32) (σ : Mm) : Option (Int32 × Mm) := (if (f_X12_isIn x1 0 195) = 0 then some ((-1), σ) else (if (f_X12_isYear x2) = 0 then some ((-1), σ) else (bnd (F_X12_isKnown x3 σ) (fun v τ => (F_X12_say_23 x1 x2 x3 v τ)))))
set_option maxRecDepth 20000 in
theorem zb_X12_say {S : Shp} {x1 : Int32} {x2 : Int32} {x3 : Int32} {σ : Mm} {r : Int32 × Mm} (h : F_X12_say x1 x2 x3 σ = some r) : Z m_X12_say S (Qi r) 0 [(0, .ref (sL S 3 0 0)), (1, .int (x1)), (2, .int (x2)), (3, .int (x3))] [] σ := by
  unfold F_X12_say at h
  refine z_iload_n dX12_say_0 rfl 1 rfl ?_
  refine z_iconst (v := 0) dX12_say_1 (by decide) ?_
  refine z_sipush (v := 195) dX12_say_2 (by decide) ?_
  refine z_callS (M' := m_X12_isIn) (As := [.int (x1), .int (0), .int (195)]) (rest := []) kl_12_407 oy_X12_isIn ⟨Nat.le_of_ble_eq_true rfl, Nat.le_of_ble_eq_true rfl⟩ rfl (Nat.le_of_ble_eq_true rfl) rfl dX12_say_5 (c_X12_isIn rfl) (fun v τ hq => ?_)
  obtain ⟨rfl, hτ⟩ := hq
  subst τ
  change Z _ _ _ _ _ [.int (f_X12_isIn x1 0 195)] _
  refine z_if_eq (tgt := 26) dX12_say_8 (by decide) (fun q => ?_) (fun q => ?_)
  · have h := (if_pos q).symm.trans h
    refine z_iconst (v := (-1)) dX12_say_26 (by decide) ?_
    cases h
    exact z_ireturn dX12_say_27 rfl rfl ⟨rfl, rfl⟩
  · have h := (if_neg q).symm.trans h
    refine z_iload_n dX12_say_11 rfl 2 rfl ?_
    refine z_callS (M' := m_X12_isYear) (As := [.int (x2)]) (rest := []) kl_12_472 oy_X12_isYear ⟨Nat.le_of_ble_eq_true rfl, Nat.le_of_ble_eq_true rfl⟩ rfl (Nat.le_of_ble_eq_true rfl) rfl dX12_say_12 (c_X12_isYear rfl) (fun v τ hq => ?_)
    obtain ⟨rfl, hτ⟩ := hq
    subst τ
    change Z _ _ _ _ _ [.int (f_X12_isYear x2)] _
    refine z_if_eq (tgt := 26) dX12_say_15 (by decide) (fun q => ?_) (fun q => ?_)
    · have h := (if_pos q).symm.trans h
      refine z_iconst (v := (-1)) dX12_say_26 (by decide) ?_
      cases h
      exact z_ireturn dX12_say_27 rfl rfl ⟨rfl, rfl⟩
    · have h := (if_neg q).symm.trans h
      refine z_aload_n dX12_say_18 rfl 0 rfl ?_
      refine z_iload_n dX12_say_19 rfl 3 rfl ?_
      obtain ⟨v, τ, hc, h⟩ := bnd_e h
      refine z_callV (M' := m_X12_isKnown) (t := 3) (i := 0) (k := 0) (As := [.int (x3)]) (rest := []) kl_12_457 oy_X12_isKnown ⟨Nat.le_of_ble_eq_true rfl, Nat.le_of_ble_eq_true rfl⟩ rfl rfl rfl rfl (Nat.le_of_ble_eq_true rfl) rfl dX12_say_20 (c_X12_isKnown hc) (fun v2 τ2 hq => ?_)
      obtain ⟨rfl, hτ⟩ := hq
      subst τ2
      change Z _ _ _ _ _ [.int (v)] _
      exact zb_X12_say_23 h
/-- SkyStonesModel.say(III)I -/
theorem c_X12_say {S : Shp} {x1 : Int32} {x2 : Int32} {x3 : Int32} {σ : Mm} {r : Int32 × Mm} (h : F_X12_say x1 x2 x3 σ = some r) : Ct m_X12_say S [.ref (sL S 3 0 0), .int (x1), .int (x2), .int (x3)] σ (Qi r) := Ct.of (by decide +kernel) (Nat.le_of_ble_eq_true rfl) (zb_X12_say h)
def F_X12_seen_49 (s0 : Int64) (σ : Mm) : Option (Int64 × Mm) := some (s0, σ)
set_option maxRecDepth 20000 in
theorem zb_X12_seen_49 {S : Shp} {s0 : Int64} {σ : Mm} {r : Int64 × Mm} (h : F_X12_seen_49 s0 σ = some r) : Z m_X12_seen S (Ql r) 49 [] [.long (s0)] σ := by
  unfold F_X12_seen_49 at h
  refine z_goto (tgt := 55) dX12_seen_49 (by decide) ?_
  cases h
  exact z_lreturn dX12_seen_55 rfl ⟨rfl, rfl⟩
def F_X12_seen (x1 : Int32) (x2 : Int32) (x3 : Int32) (x4 : Int32) (σ : Mm) : Option (Int64 × Mm) := (if (f_X12_isIn x1 0 12) = 0 then some ((-1), σ) else (if (f_X12_isIn x2 0 13) = 0 then some ((-1), σ) else (if (f_X12_isIn x4 1 9) = 0 then some ((-1), σ) else (if (f_X12_isIn x3 0 x4) = 0 then some ((-1), σ) else (bnl (F_X12_rows x1 x2 x3 x4 σ) (fun v τ => (F_X12_seen_49 v τ)))))))
set_option maxRecDepth 20000 in
theorem zb_X12_seen {S : Shp} {x1 : Int32} {x2 : Int32} {x3 : Int32} {x4 : Int32} {σ : Mm} {r : Int64 × Mm} (h : F_X12_seen x1 x2 x3 x4 σ = some r) : Z m_X12_seen S (Ql r) 0 [(0, .ref (sL S 3 0 0)), (1, .int (x1)), (2, .int (x2)), (3, .int (x3)), (4, .int (x4))] [] σ := by
  unfold F_X12_seen at h
  refine z_iload_n dX12_seen_0 rfl 1 rfl ?_
  refine z_iconst (v := 0) dX12_seen_1 (by decide) ?_
  refine z_bipush (v := 12) dX12_seen_2 (by decide) ?_
  refine z_callS (M' := m_X12_isIn) (As := [.int (x1), .int (0), .int (12)]) (rest := []) kl_12_407 oy_X12_isIn ⟨Nat.le_of_ble_eq_true rfl, Nat.le_of_ble_eq_true rfl⟩ rfl (Nat.le_of_ble_eq_true rfl) rfl dX12_seen_4 (c_X12_isIn rfl) (fun v τ hq => ?_)
  obtain ⟨rfl, hτ⟩ := hq
  subst τ
  change Z _ _ _ _ _ [.int (f_X12_isIn x1 0 12)] _
  refine z_if_eq (tgt := 52) dX12_seen_7 (by decide) (fun q => ?_) (fun q => ?_)
  · have h := (if_pos q).symm.trans h
    refine z_ldc2 qw_1804 dX12_seen_52 ?_
    cases h
    exact z_lreturn dX12_seen_55 rfl ⟨rfl, rfl⟩
  · have h := (if_neg q).symm.trans h
    refine z_iload_n dX12_seen_10 rfl 2 rfl ?_
    refine z_iconst (v := 0) dX12_seen_11 (by decide) ?_
    refine z_bipush (v := 13) dX12_seen_12 (by decide) ?_
    refine z_callS (M' := m_X12_isIn) (As := [.int (x2), .int (0), .int (13)]) (rest := []) kl_12_407 oy_X12_isIn ⟨Nat.le_of_ble_eq_true rfl, Nat.le_of_ble_eq_true rfl⟩ rfl (Nat.le_of_ble_eq_true rfl) rfl dX12_seen_14 (c_X12_isIn rfl) (fun v τ hq => ?_)
    obtain ⟨rfl, hτ⟩ := hq
    subst τ
    change Z _ _ _ _ _ [.int (f_X12_isIn x2 0 13)] _
    refine z_if_eq (tgt := 52) dX12_seen_17 (by decide) (fun q => ?_) (fun q => ?_)
    · have h := (if_pos q).symm.trans h
      refine z_ldc2 qw_1804 dX12_seen_52 ?_
      cases h
      exact z_lreturn dX12_seen_55 rfl ⟨rfl, rfl⟩
    · have h := (if_neg q).symm.trans h
      refine z_iload dX12_seen_20 4 rfl ?_
      refine z_iconst (v := 1) dX12_seen_22 (by decide) ?_
      refine z_bipush (v := 9) dX12_seen_23 (by decide) ?_
      refine z_callS (M' := m_X12_isIn) (As := [.int (x4), .int (1), .int (9)]) (rest := []) kl_12_407 oy_X12_isIn ⟨Nat.le_of_ble_eq_true rfl, Nat.le_of_ble_eq_true rfl⟩ rfl (Nat.le_of_ble_eq_true rfl) rfl dX12_seen_25 (c_X12_isIn rfl) (fun v τ hq => ?_)
      obtain ⟨rfl, hτ⟩ := hq
      subst τ
      change Z _ _ _ _ _ [.int (f_X12_isIn x4 1 9)] _
      refine z_if_eq (tgt := 52) dX12_seen_28 (by decide) (fun q => ?_) (fun q => ?_)
      · have h := (if_pos q).symm.trans h
        refine z_ldc2 qw_1804 dX12_seen_52 ?_
        cases h
        exact z_lreturn dX12_seen_55 rfl ⟨rfl, rfl⟩
      · have h := (if_neg q).symm.trans h
        refine z_iload_n dX12_seen_31 rfl 3 rfl ?_
        refine z_iconst (v := 0) dX12_seen_32 (by decide) ?_
        refine z_iload dX12_seen_33 4 rfl ?_
        refine z_callS (M' := m_X12_isIn) (As := [.int (x3), .int (0), .int (x4)]) (rest := []) kl_12_407 oy_X12_isIn ⟨Nat.le_of_ble_eq_true rfl, Nat.le_of_ble_eq_true rfl⟩ rfl (Nat.le_of_ble_eq_true rfl) rfl dX12_seen_35 (c_X12_isIn rfl) (fun v τ hq => ?_)
        obtain ⟨rfl, hτ⟩ := hq
        subst τ
        change Z _ _ _ _ _ [.int (f_X12_isIn x3 0 x4)] _
        refine z_if_eq (tgt := 52) dX12_seen_38 (by decide) (fun q => ?_) (fun q => ?_)
        · have h := (if_pos q).symm.trans h
          refine z_ldc2 qw_1804 dX12_seen_52 ?_
          cases h
          exact z_lreturn dX12_seen_55 rfl ⟨rfl, rfl⟩
        · have h := (if_neg q).symm.trans h
          refine z_iload_n dX12_seen_41 rfl 1 rfl ?_
          refine z_iload_n dX12_seen_42 rfl 2 rfl ?_
          refine z_iload_n dX12_seen_43 rfl 3 rfl ?_
          refine z_iload dX12_seen_44 4 rfl ?_
          obtain ⟨v, τ, hc, h⟩ := bnl_e h
          refine z_callS (M' := m_X12_rows) (As := [.int (x1), .int (x2), .int (x3), .int (x4)]) (rest := []) kl_12_526 oy_X12_rows ⟨Nat.le_of_ble_eq_true rfl, Nat.le_of_ble_eq_true rfl⟩ rfl (Nat.le_of_ble_eq_true rfl) rfl dX12_seen_46 (c_X12_rows hc) (fun v2 τ2 hq => ?_)
          obtain ⟨rfl, hτ⟩ := hq
          subst τ2
          change Z _ _ _ _ _ [.long (v)] _
          refine Z.lv [] rfl ?_
          exact zb_X12_seen_49 h
/-- SkyStonesModel.seen(IIII)J -/
theorem c_X12_seen {S : Shp} {x1 : Int32} {x2 : Int32} {x3 : Int32} {x4 : Int32} {σ : Mm} {r : Int64 × Mm} (h : F_X12_seen x1 x2 x3 x4 σ = some r) : Ct m_X12_seen S [.ref (sL S 3 0 0), .int (x1), .int (x2), .int (x3), .int (x4)] σ (Ql r) := Ct.of (by decide +kernel) (Nat.le_of_ble_eq_true rfl) (zb_X12_seen h)
def F_X12_site_63 (σ : Mm) : Option (Int32 × Mm) := some ((mA σ 3 0 0 52) - (1 : Int32), σ)
set_option maxRecDepth 20000 in
theorem zb_X12_site_63 {S : Shp} {σ : Mm} {r : Int32 × Mm} (h : F_X12_site_63 σ = some r) : Z m_X12_site S (Qi r) 63 [(0, .ref (sL S 3 0 0))] [] σ := by
  unfold F_X12_site_63 at h
  refine z_aload_n dX12_site_63 rfl 0 rfl ?_
  refine gf_12_513 rfl dX12_site_64 ?_
  refine z_iconst (v := 1) dX12_site_67 (by decide) ?_
  refine z_isub dX12_site_68 ?_
  cases h
  exact z_ireturn dX12_site_69 rfl rfl ⟨rfl, rfl⟩
def F_X12_site_53 (σ : Mm) : Option (Int32 × Mm) := (F_X12_site_63 (setA σ 3 0 0 (upd (mA σ 3 0 0) 52 ((mA σ 3 0 0 52) + (1 : Int32)))))
set_option maxRecDepth 20000 in
theorem zb_X12_site_53 {S : Shp} {σ : Mm} {r : Int32 × Mm} (h : F_X12_site_53 σ = some r) : Z m_X12_site S (Qi r) 53 [(0, .ref (sL S 3 0 0))] [] σ := by
  unfold F_X12_site_53 at h
  refine z_aload_n dX12_site_53 rfl 0 rfl ?_
  refine z_dup dX12_site_54 rfl ?_
  refine gf_12_513 rfl dX12_site_55 ?_
  refine z_iconst (v := 1) dX12_site_58 (by decide) ?_
  refine z_iadd dX12_site_59 ?_
  refine pf_12_513 rfl dX12_site_60 ?_
  exact zb_X12_site_63 h
def F_X12_site_43 (x2 : Int32) (σ : Mm) : Option (Int32 × Mm) := (if inb (mA σ 3 0 0 52) 6 = true then (F_X12_site_53 (setA σ 3 0 46 (upd (mA σ 3 0 46) (mA σ 3 0 0 52).toNatClampNeg x2))) else none)
set_option maxRecDepth 20000 in
theorem zb_X12_site_43 {S : Shp} {x2 : Int32} {σ : Mm} {r : Int32 × Mm} (h : F_X12_site_43 x2 σ = some r) : Z m_X12_site S (Qi r) 43 [(0, .ref (sL S 3 0 0)), (2, .int (x2))] [] σ := by
  unfold F_X12_site_43 at h
  obtain ⟨g2, h⟩ := gd h
  refine z_aload_n dX12_site_43 rfl 0 rfl ?_
  refine gf_12_151 rfl dX12_site_44 ?_
  refine z_aload_n dX12_site_47 rfl 0 rfl ?_
  refine gf_12_513 rfl dX12_site_48 ?_
  refine z_iload_n dX12_site_51 rfl 1 rfl ?_
  refine is_3_46 (inb_in g2) dX12_site_52 ?_
  refine Z.lv [0] rfl ?_
  exact zb_X12_site_53 h
def F_X12_site (x1 : Int32) (x2 : Int32) (σ : Mm) : Option (Int32 × Mm) := (if (mA σ 3 0 0 52) = (6 : Int32) then some ((-1), σ) else (if (f_X12_isIn x1 0 359) = 0 then some ((-1), σ) else (if (f_X12_isIn x2 0 359) = 0 then some ((-1), σ) else (if inb (mA σ 3 0 0 52) 6 = true then (F_X12_site_43 x2 (setA σ 3 0 45 (upd (mA σ 3 0 45) (mA σ 3 0 0 52).toNatClampNeg x1))) else none))))
set_option maxRecDepth 20000 in
theorem zb_X12_site {S : Shp} {x1 : Int32} {x2 : Int32} {σ : Mm} {r : Int32 × Mm} (h : F_X12_site x1 x2 σ = some r) : Z m_X12_site S (Qi r) 0 [(0, .ref (sL S 3 0 0)), (1, .int (x1)), (2, .int (x2))] [] σ := by
  unfold F_X12_site at h
  refine z_aload_n dX12_site_0 rfl 0 rfl ?_
  refine gf_12_513 rfl dX12_site_1 ?_
  refine z_bipush (v := 6) dX12_site_4 (by decide) ?_
  refine z_icmp_eq (tgt := 31) dX12_site_6 (by decide) (fun q => ?_) (fun q => ?_)
  · have h := (if_pos q).symm.trans h
    refine z_iconst (v := (-1)) dX12_site_31 (by decide) ?_
    cases h
    exact z_ireturn dX12_site_32 rfl rfl ⟨rfl, rfl⟩
  · have h := (if_neg q).symm.trans h
    refine z_iload_n dX12_site_9 rfl 1 rfl ?_
    refine z_iconst (v := 0) dX12_site_10 (by decide) ?_
    refine z_sipush (v := 359) dX12_site_11 (by decide) ?_
    refine z_callS (M' := m_X12_isIn) (As := [.int (x1), .int (0), .int (359)]) (rest := []) kl_12_407 oy_X12_isIn ⟨Nat.le_of_ble_eq_true rfl, Nat.le_of_ble_eq_true rfl⟩ rfl (Nat.le_of_ble_eq_true rfl) rfl dX12_site_14 (c_X12_isIn rfl) (fun v τ hq => ?_)
    obtain ⟨rfl, hτ⟩ := hq
    subst τ
    change Z _ _ _ _ _ [.int (f_X12_isIn x1 0 359)] _
    refine z_if_eq (tgt := 31) dX12_site_17 (by decide) (fun q => ?_) (fun q => ?_)
    · have h := (if_pos q).symm.trans h
      refine z_iconst (v := (-1)) dX12_site_31 (by decide) ?_
      cases h
      exact z_ireturn dX12_site_32 rfl rfl ⟨rfl, rfl⟩
    · have h := (if_neg q).symm.trans h
      refine z_iload_n dX12_site_20 rfl 2 rfl ?_
      refine z_iconst (v := 0) dX12_site_21 (by decide) ?_
      refine z_sipush (v := 359) dX12_site_22 (by decide) ?_
      refine z_callS (M' := m_X12_isIn) (As := [.int (x2), .int (0), .int (359)]) (rest := []) kl_12_407 oy_X12_isIn ⟨Nat.le_of_ble_eq_true rfl, Nat.le_of_ble_eq_true rfl⟩ rfl (Nat.le_of_ble_eq_true rfl) rfl dX12_site_25 (c_X12_isIn rfl) (fun v τ hq => ?_)
      obtain ⟨rfl, hτ⟩ := hq
      subst τ
      change Z _ _ _ _ _ [.int (f_X12_isIn x2 0 359)] _
      refine z_if_ne (tgt := 33) dX12_site_28 (by decide) (fun q => ?_) (fun q => ?_)
      · have h := (if_neg q).symm.trans h
        obtain ⟨g1, h⟩ := gd h
        refine z_aload_n dX12_site_33 rfl 0 rfl ?_
        refine gf_12_148 rfl dX12_site_34 ?_
        refine z_aload_n dX12_site_37 rfl 0 rfl ?_
        refine gf_12_513 rfl dX12_site_38 ?_
        refine z_iload_n dX12_site_41 rfl 1 rfl ?_
        refine is_3_45 (inb_in g1) dX12_site_42 ?_
        refine Z.lv [0, 2] rfl ?_
        exact zb_X12_site_43 h
      · have h := (if_pos q).symm.trans h
        refine z_iconst (v := (-1)) dX12_site_31 (by decide) ?_
        cases h
        exact z_ireturn dX12_site_32 rfl rfl ⟨rfl, rfl⟩
/-- SkyStonesModel.site(II)I -/
theorem c_X12_site {S : Shp} {x1 : Int32} {x2 : Int32} {σ : Mm} {r : Int32 × Mm} (h : F_X12_site x1 x2 σ = some r) : Ct m_X12_site S [.ref (sL S 3 0 0), .int (x1), .int (x2)] σ (Qi r) := Ct.of (by decide +kernel) (Nat.le_of_ble_eq_true rfl) (zb_X12_site h)
def F_X12_story_161 (s0 : Int32) (σ : Mm) : Option (Int32 × Mm) := some (s0, σ)
set_option maxRecDepth 20000 in
theorem zb_X12_story_161 {S : Shp} {s0 : Int32} {σ : Mm} {r : Int32 × Mm} (h : F_X12_story_161 s0 σ = some r) : Z m_X12_story S (Qi r) 161 [] [.int (s0)] σ := by
  unfold F_X12_story_161 at h
  cases h
  exact z_ireturn dX12_story_161 rfl rfl ⟨rfl, rfl⟩
def F_X12_story_153 (s0 : Int32) (σ : Mm) : Option (Int32 × Mm) := some (s0, σ)
set_option maxRecDepth 20000 in
theorem zb_X12_story_153 {S : Shp} {s0 : Int32} {σ : Mm} {r : Int32 × Mm} (h : F_X12_story_153 s0 σ = some r) : Z m_X12_story S (Qi r) 153 [] [.int (s0)] σ := by
  unfold F_X12_story_153 at h
  refine z_goto (tgt := 161) dX12_story_153 (by decide) ?_
  cases h
  exact z_ireturn dX12_story_161 rfl rfl ⟨rfl, rfl⟩
def F_X12_story_130 (x2 : Int32) (x5 : Int32) (x6 : Int32) (σ : Mm) : Option (Int32 × Mm) := (if x5 = 0 then some (x6, σ) else (if x5 = (1 : Int32) then (bnd (F_X12_hitsOf x2 0 0 σ) (fun v τ => (F_X12_story_153 v τ))) else (bnd (F_X12_asMany x2 σ) (fun v τ => (F_X12_story_161 v τ)))))
set_option maxRecDepth 20000 in
theorem zb_X12_story_130 {S : Shp} {x2 : Int32} {x5 : Int32} {x6 : Int32} {σ : Mm} {r : Int32 × Mm} (h : F_X12_story_130 x2 x5 x6 σ = some r) : Z m_X12_story S (Qi r) 130 [(0, .ref (sL S 3 0 0)), (2, .int (x2)), (5, .int (x5)), (6, .int (x6))] [] σ := by
  unfold F_X12_story_130 at h
  refine z_iload dX12_story_130 2 rfl ?_
  refine z_if_ne (tgt := 140) dX12_story_132 (by decide) (fun q => ?_) (fun q => ?_)
  · have h := (if_neg q).symm.trans h
    refine z_iload dX12_story_140 2 rfl ?_
    refine z_iconst (v := 1) dX12_story_142 (by decide) ?_
    refine z_icmp_ne (tgt := 156) dX12_story_143 (by decide) (fun q => ?_) (fun q => ?_)
    · have h := (if_neg q).symm.trans h
      refine z_aload_n dX12_story_156 rfl 0 rfl ?_
      refine z_iload_n dX12_story_157 rfl 1 rfl ?_
      obtain ⟨v, τ, hc, h⟩ := bnd_e h
      refine z_callV (M' := m_X12_asMany) (t := 3) (i := 0) (k := 0) (As := [.int (x2)]) (rest := []) kl_12_500 oy_X12_asMany ⟨Nat.le_of_ble_eq_true rfl, Nat.le_of_ble_eq_true rfl⟩ rfl rfl rfl rfl (Nat.le_of_ble_eq_true rfl) rfl dX12_story_158 (c_X12_asMany hc) (fun v2 τ2 hq => ?_)
      obtain ⟨rfl, hτ⟩ := hq
      subst τ2
      change Z _ _ _ _ _ [.int (v)] _
      refine Z.lv [] rfl ?_
      exact zb_X12_story_161 h
    · have h := (if_pos q).symm.trans h
      refine z_aload_n dX12_story_146 rfl 0 rfl ?_
      refine z_iload_n dX12_story_147 rfl 1 rfl ?_
      refine z_iconst (v := 0) dX12_story_148 (by decide) ?_
      refine z_iconst (v := 0) dX12_story_149 (by decide) ?_
      obtain ⟨v, τ, hc, h⟩ := bnd_e h
      refine z_callV (M' := m_X12_hitsOf) (t := 3) (i := 0) (k := 0) (As := [.int (x2), .int (0), .int (0)]) (rest := []) kl_12_497 oy_X12_hitsOf ⟨Nat.le_of_ble_eq_true rfl, Nat.le_of_ble_eq_true rfl⟩ rfl rfl rfl rfl (Nat.le_of_ble_eq_true rfl) rfl dX12_story_150 (c_X12_hitsOf hc) (fun v2 τ2 hq => ?_)
      obtain ⟨rfl, hτ⟩ := hq
      subst τ2
      change Z _ _ _ _ _ [.int (v)] _
      refine Z.lv [] rfl ?_
      exact zb_X12_story_153 h
  · have h := (if_pos q).symm.trans h
    refine z_iload dX12_story_135 3 rfl ?_
    refine z_goto (tgt := 161) dX12_story_137 (by decide) ?_
    cases h
    exact z_ireturn dX12_story_161 rfl rfl ⟨rfl, rfl⟩
def F_X12_story_119 (rc49 : Int32 → Int32 → Int32 → Int32 → Int32 → Int32 → Mm → Option (Int32 × Mm)) (x1 : Int32) (x2 : Int32) (x3 : Int32) (x5 : Int32) (x6 : Int32) (x7 : Int32) (σ : Mm) : Option (Int32 × Mm) := (rc49 x1 x2 x3 x5 x6 (x7 + 1) σ)
set_option maxRecDepth 20000 in
theorem zb_X12_story_119 {S : Shp} {rc49 : Int32 → Int32 → Int32 → Int32 → Int32 → Int32 → Mm → Option (Int32 × Mm)} (hrc49 : ∀ {x1 : Int32} {x2 : Int32} {x3 : Int32} {x5 : Int32} {x6 : Int32} {x7 : Int32} {σ : Mm} {r : Int32 × Mm}, rc49 x1 x2 x3 x5 x6 x7 σ = some r → Z m_X12_story S (Qi r) 49 [(0, .ref (sL S 3 0 0)), (1, .int (x1)), (2, .int (x2)), (3, .int (x3)), (5, .int (x5)), (6, .int (x6)), (7, .int (x7))] [] σ) {x1 : Int32} {x2 : Int32} {x3 : Int32} {x5 : Int32} {x6 : Int32} {x7 : Int32} {σ : Mm} {r : Int32 × Mm} (h : F_X12_story_119 rc49 x1 x2 x3 x5 x6 x7 σ = some r) : Z m_X12_story S (Qi r) 119 [(0, .ref (sL S 3 0 0)), (1, .int (x1)), (2, .int (x2)), (3, .int (x3)), (5, .int (x5)), (6, .int (x6)), (7, .int (x7))] [] σ := by
  unfold F_X12_story_119 at h
  refine z_iinc (j := 6) (v := x7 + 1) (lv' := [(0, .ref (sL S 3 0 0)), (1, .int (x1)), (2, .int (x2)), (3, .int (x3)), (5, .int (x5)), (6, .int (x6)), (7, .int (x7 + 1))]) dX12_story_119 rfl rfl (by decide) [1, 2, 3, 4, 5, 6, 0] rfl ?_
  refine z_goto (tgt := 49) dX12_story_122 (by decide) ?_
  exact hrc49 h
def F_X12_story_116 (rc49 : Int32 → Int32 → Int32 → Int32 → Int32 → Int32 → Mm → Option (Int32 × Mm)) (x1 : Int32) (x2 : Int32) (x3 : Int32) (x5 : Int32) (x7 : Int32) (s0 : Int32) (s1 : Int32) (σ : Mm) : Option (Int32 × Mm) := (F_X12_story_119 rc49 x1 x2 x3 x5 (s1 + s0) x7 σ)
set_option maxRecDepth 20000 in
theorem zb_X12_story_116 {S : Shp} {rc49 : Int32 → Int32 → Int32 → Int32 → Int32 → Int32 → Mm → Option (Int32 × Mm)} (hrc49 : ∀ {x1 : Int32} {x2 : Int32} {x3 : Int32} {x5 : Int32} {x6 : Int32} {x7 : Int32} {σ : Mm} {r : Int32 × Mm}, rc49 x1 x2 x3 x5 x6 x7 σ = some r → Z m_X12_story S (Qi r) 49 [(0, .ref (sL S 3 0 0)), (1, .int (x1)), (2, .int (x2)), (3, .int (x3)), (5, .int (x5)), (6, .int (x6)), (7, .int (x7))] [] σ) {x1 : Int32} {x2 : Int32} {x3 : Int32} {x5 : Int32} {x7 : Int32} {s0 : Int32} {s1 : Int32} {σ : Mm} {r : Int32 × Mm} (h : F_X12_story_116 rc49 x1 x2 x3 x5 x7 s0 s1 σ = some r) : Z m_X12_story S (Qi r) 116 [(0, .ref (sL S 3 0 0)), (1, .int (x1)), (2, .int (x2)), (3, .int (x3)), (5, .int (x5)), (7, .int (x7))] [.int (s0), .int (s1)] σ := by
  unfold F_X12_story_116 at h
  refine z_iadd dX12_story_116 ?_
  refine z_istore (lv' := [(0, .ref (sL S 3 0 0)), (1, .int (x1)), (2, .int (x2)), (3, .int (x3)), (5, .int (x5)), (6, .int (s1 + s0)), (7, .int (x7))]) dX12_story_117 (by decide) [1, 2, 3, 4, 5, 0, 6] rfl ?_
  exact zb_X12_story_119 hrc49 h
def F_X12_story_99 (rc49 : Int32 → Int32 → Int32 → Int32 → Int32 → Int32 → Mm → Option (Int32 × Mm)) (x1 : Int32) (x2 : Int32) (x3 : Int32) (x5 : Int32) (x6 : Int32) (x7 : Int32) (σ : Mm) : Option (Int32 × Mm) := (if inb x7 196 = true then (if (mA σ 3 0 55 x7.toNatClampNeg) = 0 then (F_X12_story_116 rc49 x1 x2 x3 x5 x7 0 x6 σ) else (F_X12_story_116 rc49 x1 x2 x3 x5 x7 1 x6 σ)) else none)
set_option maxRecDepth 20000 in
theorem zb_X12_story_99 {S : Shp} {rc49 : Int32 → Int32 → Int32 → Int32 → Int32 → Int32 → Mm → Option (Int32 × Mm)} (hrc49 : ∀ {x1 : Int32} {x2 : Int32} {x3 : Int32} {x5 : Int32} {x6 : Int32} {x7 : Int32} {σ : Mm} {r : Int32 × Mm}, rc49 x1 x2 x3 x5 x6 x7 σ = some r → Z m_X12_story S (Qi r) 49 [(0, .ref (sL S 3 0 0)), (1, .int (x1)), (2, .int (x2)), (3, .int (x3)), (5, .int (x5)), (6, .int (x6)), (7, .int (x7))] [] σ) {x1 : Int32} {x2 : Int32} {x3 : Int32} {x5 : Int32} {x6 : Int32} {x7 : Int32} {σ : Mm} {r : Int32 × Mm} (h : F_X12_story_99 rc49 x1 x2 x3 x5 x6 x7 σ = some r) : Z m_X12_story S (Qi r) 99 [(0, .ref (sL S 3 0 0)), (1, .int (x1)), (2, .int (x2)), (3, .int (x3)), (5, .int (x5)), (6, .int (x6)), (7, .int (x7))] [] σ := by
  unfold F_X12_story_99 at h
  obtain ⟨g6, h⟩ := gd h
  refine z_iload dX12_story_99 5 rfl ?_
  refine z_aload_n dX12_story_101 rfl 0 rfl ?_
  refine gf_12_178 rfl dX12_story_102 ?_
  refine z_iload dX12_story_105 6 rfl ?_
  refine ia_3_55 (inb_in g6) dX12_story_107 ?_
  refine z_if_eq (tgt := 115) dX12_story_108 (by decide) (fun q => ?_) (fun q => ?_)
  · have h := (if_pos q).symm.trans h
    refine z_iconst (v := 0) dX12_story_115 (by decide) ?_
    refine Z.lv [0, 1, 2, 3, 4, 6] rfl ?_
    exact zb_X12_story_116 hrc49 h
  · have h := (if_neg q).symm.trans h
    refine z_iconst (v := 1) dX12_story_111 (by decide) ?_
    refine z_goto (tgt := 116) dX12_story_112 (by decide) ?_
    refine Z.lv [0, 1, 2, 3, 4, 6] rfl ?_
    exact zb_X12_story_116 hrc49 h
def F_X12_story_98 (rc49 : Int32 → Int32 → Int32 → Int32 → Int32 → Int32 → Mm → Option (Int32 × Mm)) (x1 : Int32) (x2 : Int32) (x3 : Int32) (x5 : Int32) (x6 : Int32) (x7 : Int32) (s0 : Int32) (s1 : Int32) (σ : Mm) : Option (Int32 × Mm) := (if inb s1 196 = true then (F_X12_story_99 rc49 x1 x2 x3 x5 x6 x7 (setA σ 3 0 55 (upd (mA σ 3 0 55) s1.toNatClampNeg (vp_nar .boolean s0)))) else none)
set_option maxRecDepth 20000 in
theorem zb_X12_story_98 {S : Shp} {rc49 : Int32 → Int32 → Int32 → Int32 → Int32 → Int32 → Mm → Option (Int32 × Mm)} (hrc49 : ∀ {x1 : Int32} {x2 : Int32} {x3 : Int32} {x5 : Int32} {x6 : Int32} {x7 : Int32} {σ : Mm} {r : Int32 × Mm}, rc49 x1 x2 x3 x5 x6 x7 σ = some r → Z m_X12_story S (Qi r) 49 [(0, .ref (sL S 3 0 0)), (1, .int (x1)), (2, .int (x2)), (3, .int (x3)), (5, .int (x5)), (6, .int (x6)), (7, .int (x7))] [] σ) {x1 : Int32} {x2 : Int32} {x3 : Int32} {x5 : Int32} {x6 : Int32} {x7 : Int32} {s0 : Int32} {s1 : Int32} {σ : Mm} {r : Int32 × Mm} (h : F_X12_story_98 rc49 x1 x2 x3 x5 x6 x7 s0 s1 σ = some r) : Z m_X12_story S (Qi r) 98 [(0, .ref (sL S 3 0 0)), (1, .int (x1)), (2, .int (x2)), (3, .int (x3)), (5, .int (x5)), (6, .int (x6)), (7, .int (x7))] [.int (s0), .int (s1), .ref (sL S 3 0 55)] σ := by
  unfold F_X12_story_98 at h
  obtain ⟨g5, h⟩ := gd h
  refine is_3_55 (inb_in g5) dX12_story_98 ?_
  exact zb_X12_story_99 hrc49 h
def F_X12_story_76 (rc49 : Int32 → Int32 → Int32 → Int32 → Int32 → Int32 → Mm → Option (Int32 × Mm)) (x1 : Int32) (x2 : Int32) (x3 : Int32) (x5 : Int32) (x6 : Int32) (x7 : Int32) (σ : Mm) : Option (Int32 × Mm) := (if inb x1 30 = true then (if inb x1 30 = true then (bnd (F_X12_isHeld (mA σ 3 0 26 x1.toNatClampNeg) (mA σ 3 0 27 x1.toNatClampNeg) σ) (fun v τ => (F_X12_story_98 rc49 x1 x2 x3 x5 x6 x7 v x7 τ))) else none) else none)
set_option maxRecDepth 20000 in
theorem zb_X12_story_76 {S : Shp} {rc49 : Int32 → Int32 → Int32 → Int32 → Int32 → Int32 → Mm → Option (Int32 × Mm)} (hrc49 : ∀ {x1 : Int32} {x2 : Int32} {x3 : Int32} {x5 : Int32} {x6 : Int32} {x7 : Int32} {σ : Mm} {r : Int32 × Mm}, rc49 x1 x2 x3 x5 x6 x7 σ = some r → Z m_X12_story S (Qi r) 49 [(0, .ref (sL S 3 0 0)), (1, .int (x1)), (2, .int (x2)), (3, .int (x3)), (5, .int (x5)), (6, .int (x6)), (7, .int (x7))] [] σ) {x1 : Int32} {x2 : Int32} {x3 : Int32} {x5 : Int32} {x6 : Int32} {x7 : Int32} {σ : Mm} {r : Int32 × Mm} (h : F_X12_story_76 rc49 x1 x2 x3 x5 x6 x7 σ = some r) : Z m_X12_story S (Qi r) 76 [(0, .ref (sL S 3 0 0)), (1, .int (x1)), (2, .int (x2)), (3, .int (x3)), (5, .int (x5)), (6, .int (x6)), (7, .int (x7))] [] σ := by
  unfold F_X12_story_76 at h
  obtain ⟨g3, h⟩ := gd h
  refine z_aload_n dX12_story_76 rfl 0 rfl ?_
  refine gf_12_178 rfl dX12_story_77 ?_
  refine z_iload dX12_story_80 6 rfl ?_
  refine z_aload_n dX12_story_82 rfl 0 rfl ?_
  refine z_aload_n dX12_story_83 rfl 0 rfl ?_
  refine gf_12_91 rfl dX12_story_84 ?_
  refine z_iload_n dX12_story_87 rfl 1 rfl ?_
  obtain ⟨g4, h⟩ := gd h
  refine ia_3_26 (inb_in g3) dX12_story_88 ?_
  refine z_aload_n dX12_story_89 rfl 0 rfl ?_
  refine gf_12_94 rfl dX12_story_90 ?_
  refine z_iload_n dX12_story_93 rfl 1 rfl ?_
  refine ia_3_27 (inb_in g4) dX12_story_94 ?_
  obtain ⟨v, τ, hc, h⟩ := bnd_e h
  refine z_callV (M' := m_X12_isHeld) (t := 3) (i := 0) (k := 0) (As := [.int (mA σ 3 0 26 x1.toNatClampNeg), .int (mA σ 3 0 27 x1.toNatClampNeg)]) (rest := [.int (x7), .ref (sL S 3 0 55)]) kl_12_438 oy_X12_isHeld ⟨Nat.le_of_ble_eq_true rfl, Nat.le_of_ble_eq_true rfl⟩ rfl rfl rfl rfl (Nat.le_of_ble_eq_true rfl) rfl dX12_story_95 (c_X12_isHeld hc) (fun v2 τ2 hq => ?_)
  obtain ⟨rfl, hτ⟩ := hq
  subst τ2
  change Z _ _ _ _ _ [.int (v), .int (x7), .ref (sL S 3 0 55)] _
  exact zb_X12_story_98 hrc49 h
def B_X12_story_49 (rc49 : Int32 → Int32 → Int32 → Int32 → Int32 → Int32 → Mm → Option (Int32 × Mm)) (x1 : Int32) (x2 : Int32) (x3 : Int32) (x5 : Int32) (x6 : Int32) (x7 : Int32) (σ : Mm) : Option (Int32 × Mm) := (if (196 : Int32) ≤ x7 then (bnv (F_X12_laySky x3 σ) (fun τ => (F_X12_story_130 x2 x5 x6 τ))) else (if inb x7 196 = true then (if (mA σ 3 0 52 x7.toNatClampNeg) = 0 then (F_X12_story_119 rc49 x1 x2 x3 x5 x6 x7 σ) else (bnv (F_X12_look x7 σ) (fun τ => (F_X12_story_76 rc49 x1 x2 x3 x5 x6 x7 τ)))) else none))
set_option maxRecDepth 20000 in
theorem zB_X12_story_49 {S : Shp} {rc49 : Int32 → Int32 → Int32 → Int32 → Int32 → Int32 → Mm → Option (Int32 × Mm)} (hrc49 : ∀ {x1 : Int32} {x2 : Int32} {x3 : Int32} {x5 : Int32} {x6 : Int32} {x7 : Int32} {σ : Mm} {r : Int32 × Mm}, rc49 x1 x2 x3 x5 x6 x7 σ = some r → Z m_X12_story S (Qi r) 49 [(0, .ref (sL S 3 0 0)), (1, .int (x1)), (2, .int (x2)), (3, .int (x3)), (5, .int (x5)), (6, .int (x6)), (7, .int (x7))] [] σ) {x1 : Int32} {x2 : Int32} {x3 : Int32} {x5 : Int32} {x6 : Int32} {x7 : Int32} {σ : Mm} {r : Int32 × Mm} (h : B_X12_story_49 rc49 x1 x2 x3 x5 x6 x7 σ = some r) : Z m_X12_story S (Qi r) 49 [(0, .ref (sL S 3 0 0)), (1, .int (x1)), (2, .int (x2)), (3, .int (x3)), (5, .int (x5)), (6, .int (x6)), (7, .int (x7))] [] σ := by
  unfold B_X12_story_49 at h
  refine z_iload dX12_story_49 6 rfl ?_
  refine z_sipush (v := 196) dX12_story_51 (by decide) ?_
  refine z_icmp_ge (tgt := 125) dX12_story_54 (by decide) (fun q => ?_) (fun q => ?_)
  · have h := (if_pos q).symm.trans h
    refine z_aload_n dX12_story_125 rfl 0 rfl ?_
    refine z_iload_n dX12_story_126 rfl 3 rfl ?_
    obtain ⟨τ, hc, h⟩ := bnv_e h
    refine z_callV (M' := m_X12_laySky) (t := 3) (i := 0) (k := 0) (As := [.int (x3)]) (rest := []) kl_12_481 oy_X12_laySky ⟨Nat.le_of_ble_eq_true rfl, Nat.le_of_ble_eq_true rfl⟩ rfl rfl rfl rfl (Nat.le_of_ble_eq_true rfl) rfl dX12_story_127 (c_X12_laySky hc) (fun v2 τ2 hq => ?_)
    obtain ⟨rfl, hτ⟩ := hq
    subst τ2
    change Z _ _ _ _ _ [] _
    refine Z.lv [0, 2, 4, 5] rfl ?_
    exact zb_X12_story_130 h
  · have h := (if_neg q).symm.trans h
    obtain ⟨g2, h⟩ := gd h
    refine z_aload_n dX12_story_57 rfl 0 rfl ?_
    refine gf_12_169 rfl dX12_story_58 ?_
    refine z_iload dX12_story_61 6 rfl ?_
    refine ia_3_52 (inb_in g2) dX12_story_63 ?_
    refine z_if_ne (tgt := 70) dX12_story_64 (by decide) (fun q => ?_) (fun q => ?_)
    · have h := (if_neg q).symm.trans h
      refine z_aload_n dX12_story_70 rfl 0 rfl ?_
      refine z_iload dX12_story_71 6 rfl ?_
      obtain ⟨τ, hc, h⟩ := bnv_e h
      refine z_callV (M' := m_X12_look) (t := 3) (i := 0) (k := 0) (As := [.int (x7)]) (rest := []) kl_12_435 oy_X12_look ⟨Nat.le_of_ble_eq_true rfl, Nat.le_of_ble_eq_true rfl⟩ rfl rfl rfl rfl (Nat.le_of_ble_eq_true rfl) rfl dX12_story_73 (c_X12_look hc) (fun v2 τ2 hq => ?_)
      obtain ⟨rfl, hτ⟩ := hq
      subst τ2
      change Z _ _ _ _ _ [] _
      exact zb_X12_story_76 hrc49 h
    · have h := (if_pos q).symm.trans h
      refine z_goto (tgt := 119) dX12_story_67 (by decide) ?_
      exact zb_X12_story_119 hrc49 h
def F_X12_story_49 : Nat → Int32 → Int32 → Int32 → Int32 → Int32 → Int32 → Mm → Option (Int32 × Mm)
  | 0 => fun _ _ _ _ _ _ _ => none
  | n + 1 => B_X12_story_49 (F_X12_story_49 n)
theorem zl_X12_story_49 {S : Shp} : ∀ (nn : Nat) {x1 : Int32} {x2 : Int32} {x3 : Int32} {x5 : Int32} {x6 : Int32} {x7 : Int32} {σ : Mm} {r : Int32 × Mm}, F_X12_story_49 nn x1 x2 x3 x5 x6 x7 σ = some r → Z m_X12_story S (Qi r) 49 [(0, .ref (sL S 3 0 0)), (1, .int (x1)), (2, .int (x2)), (3, .int (x3)), (5, .int (x5)), (6, .int (x6)), (7, .int (x7))] [] σ := by
  intro nn
  induction nn with
  | zero => intro x1 x2 x3 x5 x6 x7 σ r h; cases h
  | succ nn ih => intro x1 x2 x3 x5 x6 x7 σ r h; exact zB_X12_story_49 @ih h
def F_X12_story_43 (x1 : Int32) (x2 : Int32) (x3 : Int32) (x5 : Int32) (σ : Mm) : Option (Int32 × Mm) := (F_X12_story_49 FU x1 x2 x3 x5 0 0 σ)
set_option maxRecDepth 20000 in
theorem zb_X12_story_43 {S : Shp} {x1 : Int32} {x2 : Int32} {x3 : Int32} {x5 : Int32} {σ : Mm} {r : Int32 × Mm} (h : F_X12_story_43 x1 x2 x3 x5 σ = some r) : Z m_X12_story S (Qi r) 43 [(0, .ref (sL S 3 0 0)), (1, .int (x1)), (2, .int (x2)), (3, .int (x3)), (5, .int (x5))] [] σ := by
  unfold F_X12_story_43 at h
  refine z_iconst (v := 0) dX12_story_43 (by decide) ?_
  refine z_istore (lv' := [(0, .ref (sL S 3 0 0)), (1, .int (x1)), (2, .int (x2)), (3, .int (x3)), (5, .int (x5)), (6, .int (0))]) dX12_story_44 (by decide) [1, 2, 3, 4, 5, 0] rfl ?_
  refine z_iconst (v := 0) dX12_story_46 (by decide) ?_
  refine z_istore (lv' := [(0, .ref (sL S 3 0 0)), (1, .int (x1)), (2, .int (x2)), (3, .int (x3)), (5, .int (x5)), (6, .int (0)), (7, .int (0))]) dX12_story_47 (by decide) [1, 2, 3, 4, 5, 6, 0] rfl ?_
  exact zl_X12_story_49 FU h
def F_X12_story_22 (x1 : Int32) (x2 : Int32) (x3 : Int32) (x4 : Int32) (x5 : Int32) (s0 : Int32) (σ : Mm) : Option (Int32 × Mm) := (if s0 = 0 then some ((-1), σ) else (if (f_X12_isIn x5 0 2) = 0 then some ((-1), σ) else (bnv (F_X12_lay x4 σ) (fun τ => (F_X12_story_43 x1 x2 x3 x5 τ)))))
set_option maxRecDepth 20000 in
theorem zb_X12_story_22 {S : Shp} {x1 : Int32} {x2 : Int32} {x3 : Int32} {x4 : Int32} {x5 : Int32} {s0 : Int32} {σ : Mm} {r : Int32 × Mm} (h : F_X12_story_22 x1 x2 x3 x4 x5 s0 σ = some r) : Z m_X12_story S (Qi r) 22 [(0, .ref (sL S 3 0 0)), (1, .int (x1)), (2, .int (x2)), (3, .int (x3)), (4, .int (x4)), (5, .int (x5))] [.int (s0)] σ := by
  unfold F_X12_story_22 at h
  refine z_if_eq (tgt := 35) dX12_story_22 (by decide) (fun q => ?_) (fun q => ?_)
  · have h := (if_pos q).symm.trans h
    refine z_iconst (v := (-1)) dX12_story_35 (by decide) ?_
    cases h
    exact z_ireturn dX12_story_36 rfl rfl ⟨rfl, rfl⟩
  · have h := (if_neg q).symm.trans h
    refine z_iload dX12_story_25 5 rfl ?_
    refine z_iconst (v := 0) dX12_story_27 (by decide) ?_
    refine z_iconst (v := 2) dX12_story_28 (by decide) ?_
    refine z_callS (M' := m_X12_isIn) (As := [.int (x5), .int (0), .int (2)]) (rest := []) kl_12_407 oy_X12_isIn ⟨Nat.le_of_ble_eq_true rfl, Nat.le_of_ble_eq_true rfl⟩ rfl (Nat.le_of_ble_eq_true rfl) rfl dX12_story_29 (c_X12_isIn rfl) (fun v τ hq => ?_)
    obtain ⟨rfl, hτ⟩ := hq
    subst τ
    change Z _ _ _ _ _ [.int (f_X12_isIn x5 0 2)] _
    refine z_if_ne (tgt := 37) dX12_story_32 (by decide) (fun q => ?_) (fun q => ?_)
    · have h := (if_neg q).symm.trans h
      refine z_aload_n dX12_story_37 rfl 0 rfl ?_
      refine z_iload dX12_story_38 4 rfl ?_
      obtain ⟨τ, hc, h⟩ := bnv_e h
      refine z_callV (M' := m_X12_lay) (t := 3) (i := 0) (k := 0) (As := [.int (x4)]) (rest := []) kl_12_463 oy_X12_lay ⟨Nat.le_of_ble_eq_true rfl, Nat.le_of_ble_eq_true rfl⟩ rfl rfl rfl rfl (Nat.le_of_ble_eq_true rfl) rfl dX12_story_40 (c_X12_lay hc) (fun v2 τ2 hq => ?_)
      obtain ⟨rfl, hτ⟩ := hq
      subst τ2
      change Z _ _ _ _ _ [] _
      refine Z.lv [0, 1, 2, 3, 5] rfl ?_
      exact zb_X12_story_43 h
    · have h := (if_pos q).symm.trans h
      refine z_iconst (v := (-1)) dX12_story_35 (by decide) ?_
      cases h
      exact z_ireturn dX12_story_36 rfl rfl ⟨rfl, rfl⟩
def F_X12_story (x1 : Int32) (x2 : Int32) (x3 : Int32) (x4 : Int32) (x5 : Int32) (σ : Mm) : Option (Int32 × Mm) := (if x1 < 0 then some ((-1), σ) else (if inb 0 5 = true then (if (mA σ 3 0 25 (0 : Int32).toNatClampNeg) ≤ x1 then some ((-1), σ) else (bnd (F_X12_isSet x2 x3 x4 σ) (fun v τ => (F_X12_story_22 x1 x2 x3 x4 x5 v τ)))) else none))
set_option maxRecDepth 20000 in
theorem zb_X12_story {S : Shp} {x1 : Int32} {x2 : Int32} {x3 : Int32} {x4 : Int32} {x5 : Int32} {σ : Mm} {r : Int32 × Mm} (h : F_X12_story x1 x2 x3 x4 x5 σ = some r) : Z m_X12_story S (Qi r) 0 [(0, .ref (sL S 3 0 0)), (1, .int (x1)), (2, .int (x2)), (3, .int (x3)), (4, .int (x4)), (5, .int (x5))] [] σ := by
  unfold F_X12_story at h
  refine z_iload_n dX12_story_0 rfl 1 rfl ?_
  refine z_if_lt (tgt := 35) dX12_story_1 (by decide) (fun q => ?_) (fun q => ?_)
  · have h := (if_pos q).symm.trans h
    refine z_iconst (v := (-1)) dX12_story_35 (by decide) ?_
    cases h
    exact z_ireturn dX12_story_36 rfl rfl ⟨rfl, rfl⟩
  · have h := (if_neg q).symm.trans h
    obtain ⟨g1, h⟩ := gd h
    refine z_iload_n dX12_story_4 rfl 1 rfl ?_
    refine z_aload_n dX12_story_5 rfl 0 rfl ?_
    refine gf_12_88 rfl dX12_story_6 ?_
    refine z_iconst (v := 0) dX12_story_9 (by decide) ?_
    refine ia_3_25 (inb_in g1) dX12_story_10 ?_
    refine z_icmp_ge (tgt := 35) dX12_story_11 (by decide) (fun q => ?_) (fun q => ?_)
    · have h := (if_pos q).symm.trans h
      refine z_iconst (v := (-1)) dX12_story_35 (by decide) ?_
      cases h
      exact z_ireturn dX12_story_36 rfl rfl ⟨rfl, rfl⟩
    · have h := (if_neg q).symm.trans h
      refine z_aload_n dX12_story_14 rfl 0 rfl ?_
      refine z_iload_n dX12_story_15 rfl 2 rfl ?_
      refine z_iload_n dX12_story_16 rfl 3 rfl ?_
      refine z_iload dX12_story_17 4 rfl ?_
      obtain ⟨v, τ, hc, h⟩ := bnd_e h
      refine z_callV (M' := m_X12_isSet) (t := 3) (i := 0) (k := 0) (As := [.int (x2), .int (x3), .int (x4)]) (rest := []) kl_12_491 oy_X12_isSet ⟨Nat.le_of_ble_eq_true rfl, Nat.le_of_ble_eq_true rfl⟩ rfl rfl rfl rfl (Nat.le_of_ble_eq_true rfl) rfl dX12_story_19 (c_X12_isSet hc) (fun v2 τ2 hq => ?_)
      obtain ⟨rfl, hτ⟩ := hq
      subst τ2
      change Z _ _ _ _ _ [.int (v)] _
      exact zb_X12_story_22 h
/-- SkyStonesModel.story(IIIII)I -/
theorem c_X12_story {S : Shp} {x1 : Int32} {x2 : Int32} {x3 : Int32} {x4 : Int32} {x5 : Int32} {σ : Mm} {r : Int32 × Mm} (h : F_X12_story x1 x2 x3 x4 x5 σ = some r) : Ct m_X12_story S [.ref (sL S 3 0 0), .int (x1), .int (x2), .int (x3), .int (x4), .int (x5)] σ (Qi r) := Ct.of (by decide +kernel) (Nat.le_of_ble_eq_true rfl) (zb_X12_story h)
def F_X12_striking_38 (x2 : Int32) (σ : Mm) : Option (Int32 × Mm) := (if inb x2 360 = true then some (mA σ 3 0 61 x2.toNatClampNeg, σ) else none)
set_option maxRecDepth 20000 in
theorem zb_X12_striking_38 {S : Shp} {x2 : Int32} {σ : Mm} {r : Int32 × Mm} (h : F_X12_striking_38 x2 σ = some r) : Z m_X12_striking S (Qi r) 38 [(0, .ref (sL S 3 0 0)), (2, .int (x2))] [] σ := by
  unfold F_X12_striking_38 at h
  obtain ⟨g1, h⟩ := gd h
  refine z_aload_n dX12_striking_38 rfl 0 rfl ?_
  refine gf_12_196 rfl dX12_striking_39 ?_
  refine z_iload_n dX12_striking_42 rfl 1 rfl ?_
  refine ia_3_61 (inb_in g1) dX12_striking_43 ?_
  cases h
  exact z_ireturn dX12_striking_44 rfl rfl ⟨rfl, rfl⟩
def F_X12_striking_34 (x2 : Int32) (σ : Mm) : Option (Int32 × Mm) := (bnv (F_X12_strike  σ) (fun τ => (F_X12_striking_38 x2 τ)))
set_option maxRecDepth 20000 in
theorem zb_X12_striking_34 {S : Shp} {x2 : Int32} {σ : Mm} {r : Int32 × Mm} (h : F_X12_striking_34 x2 σ = some r) : Z m_X12_striking S (Qi r) 34 [(0, .ref (sL S 3 0 0)), (2, .int (x2))] [] σ := by
  unfold F_X12_striking_34 at h
  refine z_aload_n dX12_striking_34 rfl 0 rfl ?_
  obtain ⟨τ, hc, h⟩ := bnv_e h
  refine z_callV (M' := m_X12_strike) (t := 3) (i := 0) (k := 0) (As := []) (rest := []) kl_12_506 oy_X12_strike ⟨Nat.le_of_ble_eq_true rfl, Nat.le_of_ble_eq_true rfl⟩ rfl rfl rfl rfl (Nat.le_of_ble_eq_true rfl) rfl dX12_striking_35 (c_X12_strike hc) (fun v2 τ2 hq => ?_)
  obtain ⟨rfl, hτ⟩ := hq
  subst τ2
  change Z _ _ _ _ _ [] _
  exact zb_X12_striking_38 h
def F_X12_striking_23 (x1 : Int32) (x2 : Int32) (x3 : Int32) (s0 : Int32) (σ : Mm) : Option (Int32 × Mm) := (if s0 = 0 then some ((-1), σ) else (bnv (F_X12_layAll x1 x3 σ) (fun τ => (F_X12_striking_34 x2 τ))))
set_option maxRecDepth 20000 in
theorem zb_X12_striking_23 {S : Shp} {x1 : Int32} {x2 : Int32} {x3 : Int32} {s0 : Int32} {σ : Mm} {r : Int32 × Mm} (h : F_X12_striking_23 x1 x2 x3 s0 σ = some r) : Z m_X12_striking S (Qi r) 23 [(0, .ref (sL S 3 0 0)), (1, .int (x1)), (2, .int (x2)), (3, .int (x3))] [.int (s0)] σ := by
  unfold F_X12_striking_23 at h
  refine z_if_ne (tgt := 28) dX12_striking_23 (by decide) (fun q => ?_) (fun q => ?_)
  · have h := (if_neg q).symm.trans h
    refine z_aload_n dX12_striking_28 rfl 0 rfl ?_
    refine z_iload_n dX12_striking_29 rfl 1 rfl ?_
    refine z_iload_n dX12_striking_30 rfl 3 rfl ?_
    obtain ⟨τ, hc, h⟩ := bnv_e h
    refine z_callV (M' := m_X12_layAll) (t := 3) (i := 0) (k := 0) (As := [.int (x1), .int (x3)]) (rest := []) kl_12_494 oy_X12_layAll ⟨Nat.le_of_ble_eq_true rfl, Nat.le_of_ble_eq_true rfl⟩ rfl rfl rfl rfl (Nat.le_of_ble_eq_true rfl) rfl dX12_striking_31 (c_X12_layAll hc) (fun v2 τ2 hq => ?_)
    obtain ⟨rfl, hτ⟩ := hq
    subst τ2
    change Z _ _ _ _ _ [] _
    refine Z.lv [0, 2] rfl ?_
    exact zb_X12_striking_34 h
  · have h := (if_pos q).symm.trans h
    refine z_iconst (v := (-1)) dX12_striking_26 (by decide) ?_
    cases h
    exact z_ireturn dX12_striking_27 rfl rfl ⟨rfl, rfl⟩
def F_X12_striking (x1 : Int32) (x2 : Int32) (x3 : Int32) (σ : Mm) : Option (Int32 × Mm) := (if (f_X12_isYear x1) = 0 then some ((-1), σ) else (if (f_X12_isIn x2 0 359) = 0 then some ((-1), σ) else (bnd (F_X12_isKnown x3 σ) (fun v τ => (F_X12_striking_23 x1 x2 x3 v τ)))))
set_option maxRecDepth 20000 in
theorem zb_X12_striking {S : Shp} {x1 : Int32} {x2 : Int32} {x3 : Int32} {σ : Mm} {r : Int32 × Mm} (h : F_X12_striking x1 x2 x3 σ = some r) : Z m_X12_striking S (Qi r) 0 [(0, .ref (sL S 3 0 0)), (1, .int (x1)), (2, .int (x2)), (3, .int (x3))] [] σ := by
  unfold F_X12_striking at h
  refine z_iload_n dX12_striking_0 rfl 1 rfl ?_
  refine z_callS (M' := m_X12_isYear) (As := [.int (x1)]) (rest := []) kl_12_472 oy_X12_isYear ⟨Nat.le_of_ble_eq_true rfl, Nat.le_of_ble_eq_true rfl⟩ rfl (Nat.le_of_ble_eq_true rfl) rfl dX12_striking_1 (c_X12_isYear rfl) (fun v τ hq => ?_)
  obtain ⟨rfl, hτ⟩ := hq
  subst τ
  change Z _ _ _ _ _ [.int (f_X12_isYear x1)] _
  refine z_if_eq (tgt := 26) dX12_striking_4 (by decide) (fun q => ?_) (fun q => ?_)
  · have h := (if_pos q).symm.trans h
    refine z_iconst (v := (-1)) dX12_striking_26 (by decide) ?_
    cases h
    exact z_ireturn dX12_striking_27 rfl rfl ⟨rfl, rfl⟩
  · have h := (if_neg q).symm.trans h
    refine z_iload_n dX12_striking_7 rfl 2 rfl ?_
    refine z_iconst (v := 0) dX12_striking_8 (by decide) ?_
    refine z_sipush (v := 359) dX12_striking_9 (by decide) ?_
    refine z_callS (M' := m_X12_isIn) (As := [.int (x2), .int (0), .int (359)]) (rest := []) kl_12_407 oy_X12_isIn ⟨Nat.le_of_ble_eq_true rfl, Nat.le_of_ble_eq_true rfl⟩ rfl (Nat.le_of_ble_eq_true rfl) rfl dX12_striking_12 (c_X12_isIn rfl) (fun v τ hq => ?_)
    obtain ⟨rfl, hτ⟩ := hq
    subst τ
    change Z _ _ _ _ _ [.int (f_X12_isIn x2 0 359)] _
    refine z_if_eq (tgt := 26) dX12_striking_15 (by decide) (fun q => ?_) (fun q => ?_)
    · have h := (if_pos q).symm.trans h
      refine z_iconst (v := (-1)) dX12_striking_26 (by decide) ?_
      cases h
      exact z_ireturn dX12_striking_27 rfl rfl ⟨rfl, rfl⟩
    · have h := (if_neg q).symm.trans h
      refine z_aload_n dX12_striking_18 rfl 0 rfl ?_
      refine z_iload_n dX12_striking_19 rfl 3 rfl ?_
      obtain ⟨v, τ, hc, h⟩ := bnd_e h
      refine z_callV (M' := m_X12_isKnown) (t := 3) (i := 0) (k := 0) (As := [.int (x3)]) (rest := []) kl_12_457 oy_X12_isKnown ⟨Nat.le_of_ble_eq_true rfl, Nat.le_of_ble_eq_true rfl⟩ rfl rfl rfl rfl (Nat.le_of_ble_eq_true rfl) rfl dX12_striking_20 (c_X12_isKnown hc) (fun v2 τ2 hq => ?_)
      obtain ⟨rfl, hτ⟩ := hq
      subst τ2
      change Z _ _ _ _ _ [.int (v)] _
      exact zb_X12_striking_23 h
/-- SkyStonesModel.striking(III)I -/
theorem c_X12_striking {S : Shp} {x1 : Int32} {x2 : Int32} {x3 : Int32} {σ : Mm} {r : Int32 × Mm} (h : F_X12_striking x1 x2 x3 σ = some r) : Ct m_X12_striking S [.ref (sL S 3 0 0), .int (x1), .int (x2), .int (x3)] σ (Qi r) := Ct.of (by decide +kernel) (Nat.le_of_ble_eq_true rfl) (zb_X12_striking h)
def F_X12_thing_32 (x1 : Int32) (x2 : Int32) (σ : Mm) : Option (Int32 × Mm) := (if x2 = 0 then (if inb x1 14 = true then some (mA σ 3 0 48 x1.toNatClampNeg, σ) else none) else (if x2 = (1 : Int32) then (if inb x1 14 = true then some (mA σ 3 0 49 x1.toNatClampNeg, σ) else none) else (if x2 = (2 : Int32) then (if inb x1 14 = true then some (mA σ 3 0 50 x1.toNatClampNeg, σ) else none) else (if x2 = (3 : Int32) then (if inb x1 70 = true then (if (mA σ 3 0 9 x1.toNatClampNeg) = 0 then some (0, σ) else some (1, σ)) else none) else (if inb x1 14 = true then (if (mA σ 3 0 51 x1.toNatClampNeg) = 0 then some (0, σ) else some (1, σ)) else none)))))
set_option maxRecDepth 20000 in
theorem zb_X12_thing_32 {S : Shp} {x1 : Int32} {x2 : Int32} {σ : Mm} {r : Int32 × Mm} (h : F_X12_thing_32 x1 x2 σ = some r) : Z m_X12_thing S (Qi r) 32 [(0, .ref (sL S 3 0 0)), (1, .int (x1)), (2, .int (x2))] [] σ := by
  unfold F_X12_thing_32 at h
  refine z_iload_n dX12_thing_32 rfl 2 rfl ?_
  refine z_if_ne (tgt := 45) dX12_thing_33 (by decide) (fun q => ?_) (fun q => ?_)
  · have h := (if_neg q).symm.trans h
    refine z_iload_n dX12_thing_45 rfl 2 rfl ?_
    refine z_iconst (v := 1) dX12_thing_46 (by decide) ?_
    refine z_icmp_ne (tgt := 59) dX12_thing_47 (by decide) (fun q => ?_) (fun q => ?_)
    · have h := (if_neg q).symm.trans h
      refine z_iload_n dX12_thing_59 rfl 2 rfl ?_
      refine z_iconst (v := 2) dX12_thing_60 (by decide) ?_
      refine z_icmp_ne (tgt := 73) dX12_thing_61 (by decide) (fun q => ?_) (fun q => ?_)
      · have h := (if_neg q).symm.trans h
        refine z_iload_n dX12_thing_73 rfl 2 rfl ?_
        refine z_iconst (v := 3) dX12_thing_74 (by decide) ?_
        refine z_icmp_ne (tgt := 95) dX12_thing_75 (by decide) (fun q => ?_) (fun q => ?_)
        · have h := (if_neg q).symm.trans h
          obtain ⟨g1, h⟩ := gd h
          refine z_aload_n dX12_thing_95 rfl 0 rfl ?_
          refine gf_12_166 rfl dX12_thing_96 ?_
          refine z_iload_n dX12_thing_99 rfl 1 rfl ?_
          refine ia_3_51 (inb_in g1) dX12_thing_100 ?_
          refine z_if_eq (tgt := 108) dX12_thing_101 (by decide) (fun q => ?_) (fun q => ?_)
          · have h := (if_pos q).symm.trans h
            refine z_iconst (v := 0) dX12_thing_108 (by decide) ?_
            cases h
            exact z_ireturn dX12_thing_109 rfl rfl ⟨rfl, rfl⟩
          · have h := (if_neg q).symm.trans h
            refine z_iconst (v := 1) dX12_thing_104 (by decide) ?_
            refine z_goto (tgt := 109) dX12_thing_105 (by decide) ?_
            cases h
            exact z_ireturn dX12_thing_109 rfl rfl ⟨rfl, rfl⟩
        · have h := (if_pos q).symm.trans h
          obtain ⟨g2, h⟩ := gd h
          refine z_aload_n dX12_thing_78 rfl 0 rfl ?_
          refine gf_12_40 rfl dX12_thing_79 ?_
          refine z_iload_n dX12_thing_82 rfl 1 rfl ?_
          refine ia_3_9 (inb_in g2) dX12_thing_83 ?_
          refine z_if_eq (tgt := 91) dX12_thing_84 (by decide) (fun q => ?_) (fun q => ?_)
          · have h := (if_pos q).symm.trans h
            refine z_iconst (v := 0) dX12_thing_91 (by decide) ?_
            refine z_goto (tgt := 109) dX12_thing_92 (by decide) ?_
            cases h
            exact z_ireturn dX12_thing_109 rfl rfl ⟨rfl, rfl⟩
          · have h := (if_neg q).symm.trans h
            refine z_iconst (v := 1) dX12_thing_87 (by decide) ?_
            refine z_goto (tgt := 109) dX12_thing_88 (by decide) ?_
            cases h
            exact z_ireturn dX12_thing_109 rfl rfl ⟨rfl, rfl⟩
      · have h := (if_pos q).symm.trans h
        obtain ⟨g3, h⟩ := gd h
        refine z_aload_n dX12_thing_64 rfl 0 rfl ?_
        refine gf_12_163 rfl dX12_thing_65 ?_
        refine z_iload_n dX12_thing_68 rfl 1 rfl ?_
        refine ia_3_50 (inb_in g3) dX12_thing_69 ?_
        refine z_goto (tgt := 109) dX12_thing_70 (by decide) ?_
        cases h
        exact z_ireturn dX12_thing_109 rfl rfl ⟨rfl, rfl⟩
    · have h := (if_pos q).symm.trans h
      obtain ⟨g4, h⟩ := gd h
      refine z_aload_n dX12_thing_50 rfl 0 rfl ?_
      refine gf_12_160 rfl dX12_thing_51 ?_
      refine z_iload_n dX12_thing_54 rfl 1 rfl ?_
      refine ia_3_49 (inb_in g4) dX12_thing_55 ?_
      refine z_goto (tgt := 109) dX12_thing_56 (by decide) ?_
      cases h
      exact z_ireturn dX12_thing_109 rfl rfl ⟨rfl, rfl⟩
  · have h := (if_pos q).symm.trans h
    obtain ⟨g5, h⟩ := gd h
    refine z_aload_n dX12_thing_36 rfl 0 rfl ?_
    refine gf_12_157 rfl dX12_thing_37 ?_
    refine z_iload_n dX12_thing_40 rfl 1 rfl ?_
    refine ia_3_48 (inb_in g5) dX12_thing_41 ?_
    refine z_goto (tgt := 109) dX12_thing_42 (by decide) ?_
    cases h
    exact z_ireturn dX12_thing_109 rfl rfl ⟨rfl, rfl⟩
def F_X12_thing_22 (x1 : Int32) (x2 : Int32) (x3 : Int32) (s0 : Int32) (σ : Mm) : Option (Int32 × Mm) := (if s0 = 0 then some ((-1), σ) else (bnv (F_X12_layThings x3 σ) (fun τ => (F_X12_thing_32 x1 x2 τ))))
set_option maxRecDepth 20000 in
theorem zb_X12_thing_22 {S : Shp} {x1 : Int32} {x2 : Int32} {x3 : Int32} {s0 : Int32} {σ : Mm} {r : Int32 × Mm} (h : F_X12_thing_22 x1 x2 x3 s0 σ = some r) : Z m_X12_thing S (Qi r) 22 [(0, .ref (sL S 3 0 0)), (1, .int (x1)), (2, .int (x2)), (3, .int (x3))] [.int (s0)] σ := by
  unfold F_X12_thing_22 at h
  refine z_if_ne (tgt := 27) dX12_thing_22 (by decide) (fun q => ?_) (fun q => ?_)
  · have h := (if_neg q).symm.trans h
    refine z_aload_n dX12_thing_27 rfl 0 rfl ?_
    refine z_iload_n dX12_thing_28 rfl 3 rfl ?_
    obtain ⟨τ, hc, h⟩ := bnv_e h
    refine z_callV (M' := m_X12_layThings) (t := 3) (i := 0) (k := 0) (As := [.int (x3)]) (rest := []) kl_12_428 oy_X12_layThings ⟨Nat.le_of_ble_eq_true rfl, Nat.le_of_ble_eq_true rfl⟩ rfl rfl rfl rfl (Nat.le_of_ble_eq_true rfl) rfl dX12_thing_29 (c_X12_layThings hc) (fun v2 τ2 hq => ?_)
    obtain ⟨rfl, hτ⟩ := hq
    subst τ2
    change Z _ _ _ _ _ [] _
    refine Z.lv [0, 1, 2] rfl ?_
    exact zb_X12_thing_32 h
  · have h := (if_pos q).symm.trans h
    refine z_iconst (v := (-1)) dX12_thing_25 (by decide) ?_
    cases h
    exact z_ireturn dX12_thing_26 rfl rfl ⟨rfl, rfl⟩
def F_X12_thing_5 (x1 : Int32) (x2 : Int32) (x3 : Int32) (s0 : Int32) (σ : Mm) : Option (Int32 × Mm) := (if s0 = 0 then some ((-1), σ) else (if (f_X12_isIn x2 0 4) = 0 then some ((-1), σ) else (bnd (F_X12_isKnown x3 σ) (fun v τ => (F_X12_thing_22 x1 x2 x3 v τ)))))
set_option maxRecDepth 20000 in
theorem zb_X12_thing_5 {S : Shp} {x1 : Int32} {x2 : Int32} {x3 : Int32} {s0 : Int32} {σ : Mm} {r : Int32 × Mm} (h : F_X12_thing_5 x1 x2 x3 s0 σ = some r) : Z m_X12_thing S (Qi r) 5 [(0, .ref (sL S 3 0 0)), (1, .int (x1)), (2, .int (x2)), (3, .int (x3))] [.int (s0)] σ := by
  unfold F_X12_thing_5 at h
  refine z_if_eq (tgt := 25) dX12_thing_5 (by decide) (fun q => ?_) (fun q => ?_)
  · have h := (if_pos q).symm.trans h
    refine z_iconst (v := (-1)) dX12_thing_25 (by decide) ?_
    cases h
    exact z_ireturn dX12_thing_26 rfl rfl ⟨rfl, rfl⟩
  · have h := (if_neg q).symm.trans h
    refine z_iload_n dX12_thing_8 rfl 2 rfl ?_
    refine z_iconst (v := 0) dX12_thing_9 (by decide) ?_
    refine z_iconst (v := 4) dX12_thing_10 (by decide) ?_
    refine z_callS (M' := m_X12_isIn) (As := [.int (x2), .int (0), .int (4)]) (rest := []) kl_12_407 oy_X12_isIn ⟨Nat.le_of_ble_eq_true rfl, Nat.le_of_ble_eq_true rfl⟩ rfl (Nat.le_of_ble_eq_true rfl) rfl dX12_thing_11 (c_X12_isIn rfl) (fun v τ hq => ?_)
    obtain ⟨rfl, hτ⟩ := hq
    subst τ
    change Z _ _ _ _ _ [.int (f_X12_isIn x2 0 4)] _
    refine z_if_eq (tgt := 25) dX12_thing_14 (by decide) (fun q => ?_) (fun q => ?_)
    · have h := (if_pos q).symm.trans h
      refine z_iconst (v := (-1)) dX12_thing_25 (by decide) ?_
      cases h
      exact z_ireturn dX12_thing_26 rfl rfl ⟨rfl, rfl⟩
    · have h := (if_neg q).symm.trans h
      refine z_aload_n dX12_thing_17 rfl 0 rfl ?_
      refine z_iload_n dX12_thing_18 rfl 3 rfl ?_
      obtain ⟨v, τ, hc, h⟩ := bnd_e h
      refine z_callV (M' := m_X12_isKnown) (t := 3) (i := 0) (k := 0) (As := [.int (x3)]) (rest := []) kl_12_457 oy_X12_isKnown ⟨Nat.le_of_ble_eq_true rfl, Nat.le_of_ble_eq_true rfl⟩ rfl rfl rfl rfl (Nat.le_of_ble_eq_true rfl) rfl dX12_thing_19 (c_X12_isKnown hc) (fun v2 τ2 hq => ?_)
      obtain ⟨rfl, hτ⟩ := hq
      subst τ2
      change Z _ _ _ _ _ [.int (v)] _
      exact zb_X12_thing_22 h
def F_X12_thing (x1 : Int32) (x2 : Int32) (x3 : Int32) (σ : Mm) : Option (Int32 × Mm) := (bnd (F_X12_isThing x1 σ) (fun v τ => (F_X12_thing_5 x1 x2 x3 v τ)))
set_option maxRecDepth 20000 in
theorem zb_X12_thing {S : Shp} {x1 : Int32} {x2 : Int32} {x3 : Int32} {σ : Mm} {r : Int32 × Mm} (h : F_X12_thing x1 x2 x3 σ = some r) : Z m_X12_thing S (Qi r) 0 [(0, .ref (sL S 3 0 0)), (1, .int (x1)), (2, .int (x2)), (3, .int (x3))] [] σ := by
  unfold F_X12_thing at h
  refine z_aload_n dX12_thing_0 rfl 0 rfl ?_
  refine z_iload_n dX12_thing_1 rfl 1 rfl ?_
  obtain ⟨v, τ, hc, h⟩ := bnd_e h
  refine z_callV (M' := m_X12_isThing) (t := 3) (i := 0) (k := 0) (As := [.int (x1)]) (rest := []) kl_12_415 oy_X12_isThing ⟨Nat.le_of_ble_eq_true rfl, Nat.le_of_ble_eq_true rfl⟩ rfl rfl rfl rfl (Nat.le_of_ble_eq_true rfl) rfl dX12_thing_2 (c_X12_isThing hc) (fun v2 τ2 hq => ?_)
  obtain ⟨rfl, hτ⟩ := hq
  subst τ2
  change Z _ _ _ _ _ [.int (v)] _
  exact zb_X12_thing_5 h
/-- SkyStonesModel.thing(III)I -/
theorem c_X12_thing {S : Shp} {x1 : Int32} {x2 : Int32} {x3 : Int32} {σ : Mm} {r : Int32 × Mm} (h : F_X12_thing x1 x2 x3 σ = some r) : Ct m_X12_thing S [.ref (sL S 3 0 0), .int (x1), .int (x2), .int (x3)] σ (Qi r) := Ct.of (by decide +kernel) (Nat.le_of_ble_eq_true rfl) (zb_X12_thing h)
