def F_X12_cond_270 (rc14 : Int32 → Int32 → Mm → Option (Int32 × Mm)) (x1 : Int32) (x2 : Int32) (σ : Mm) : Option (Int32 × Mm) := (rc14 x1 x2 σ)
set_option maxRecDepth 20000 in
theorem zb_X12_cond_270 {S : Shp} {rc14 : Int32 → Int32 → Mm → Option (Int32 × Mm)} (hrc14 : ∀ {x1 : Int32} {x2 : Int32} {σ : Mm} {r : Int32 × Mm}, rc14 x1 x2 σ = some r → Z m_X12_cond S (Qi r) 14 [(0, .ref (sL S 3 0 0)), (1, .int (x1)), (2, .int (x2))] [] σ) {x1 : Int32} {x2 : Int32} {σ : Mm} {r : Int32 × Mm} (h : F_X12_cond_270 rc14 x1 x2 σ = some r) : Z m_X12_cond S (Qi r) 270 [(0, .ref (sL S 3 0 0)), (1, .int (x1)), (2, .int (x2))] [] σ := by
  unfold F_X12_cond_270 at h
  refine z_goto (tgt := 14) dX12_cond_270 (by decide) ?_
  exact hrc14 h
def F_X12_cond_265 (rc14 : Int32 → Int32 → Mm → Option (Int32 × Mm)) (x1 : Int32) (x2 : Int32) (s0 : Int32) (σ : Mm) : Option (Int32 × Mm) := (if s0 = 0 then some (0, σ) else (F_X12_cond_270 rc14 x1 x2 σ))
set_option maxRecDepth 20000 in
theorem zb_X12_cond_265 {S : Shp} {rc14 : Int32 → Int32 → Mm → Option (Int32 × Mm)} (hrc14 : ∀ {x1 : Int32} {x2 : Int32} {σ : Mm} {r : Int32 × Mm}, rc14 x1 x2 σ = some r → Z m_X12_cond S (Qi r) 14 [(0, .ref (sL S 3 0 0)), (1, .int (x1)), (2, .int (x2))] [] σ) {x1 : Int32} {x2 : Int32} {s0 : Int32} {σ : Mm} {r : Int32 × Mm} (h : F_X12_cond_265 rc14 x1 x2 s0 σ = some r) : Z m_X12_cond S (Qi r) 265 [(0, .ref (sL S 3 0 0)), (1, .int (x1)), (2, .int (x2))] [.int (s0)] σ := by
  unfold F_X12_cond_265 at h
  refine z_if_ne (tgt := 270) dX12_cond_265 (by decide) (fun q => ?_) (fun q => ?_)
  · have h := (if_neg q).symm.trans h
    exact zb_X12_cond_270 hrc14 h
  · have h := (if_pos q).symm.trans h
    refine z_iconst (v := 0) dX12_cond_268 (by decide) ?_
    cases h
    exact z_ireturn dX12_cond_269 rfl rfl ⟨rfl, rfl⟩
def F_X12_cond_257 (rc14 : Int32 → Int32 → Mm → Option (Int32 × Mm)) (x1 : Int32) (x2 : Int32) (σ : Mm) : Option (Int32 × Mm) := (if x2 = 0 then (F_X12_cond_270 rc14 x1 x2 σ) else (bnd (F_X12_pass  σ) (fun v τ => (F_X12_cond_265 rc14 x1 x2 v τ))))
set_option maxRecDepth 20000 in
theorem zb_X12_cond_257 {S : Shp} {rc14 : Int32 → Int32 → Mm → Option (Int32 × Mm)} (hrc14 : ∀ {x1 : Int32} {x2 : Int32} {σ : Mm} {r : Int32 × Mm}, rc14 x1 x2 σ = some r → Z m_X12_cond S (Qi r) 14 [(0, .ref (sL S 3 0 0)), (1, .int (x1)), (2, .int (x2))] [] σ) {x1 : Int32} {x2 : Int32} {σ : Mm} {r : Int32 × Mm} (h : F_X12_cond_257 rc14 x1 x2 σ = some r) : Z m_X12_cond S (Qi r) 257 [(0, .ref (sL S 3 0 0)), (1, .int (x1)), (2, .int (x2))] [] σ := by
  unfold F_X12_cond_257 at h
  refine z_iload_n dX12_cond_257 rfl 2 rfl ?_
  refine z_if_eq (tgt := 270) dX12_cond_258 (by decide) (fun q => ?_) (fun q => ?_)
  · have h := (if_pos q).symm.trans h
    exact zb_X12_cond_270 hrc14 h
  · have h := (if_neg q).symm.trans h
    refine z_aload_n dX12_cond_261 rfl 0 rfl ?_
    obtain ⟨v, τ, hc, h⟩ := bnd_e h
    refine z_callV (M' := m_X12_pass) (t := 3) (i := 0) (k := 0) (As := []) (rest := []) kl_12_317 oy_X12_pass ⟨Nat.le_of_ble_eq_true rfl, Nat.le_of_ble_eq_true rfl⟩ rfl rfl rfl rfl (Nat.le_of_ble_eq_true rfl) rfl dX12_cond_262 (c_X12_pass hc) (fun v2 τ2 hq => ?_)
    obtain ⟨rfl, hτ⟩ := hq
    subst τ2
    change Z _ _ _ _ _ [.int (v)] _
    exact zb_X12_cond_265 hrc14 h
def F_X12_cond_251 (rc14 : Int32 → Int32 → Mm → Option (Int32 × Mm)) (x1 : Int32) (x2 : Int32) (s0 : Int32) (σ : Mm) : Option (Int32 × Mm) := (if s0 = 0 then (F_X12_cond_257 rc14 x1 x2 σ) else (F_X12_cond_257 rc14 (x1 + 1) x2 σ))
set_option maxRecDepth 20000 in
theorem zb_X12_cond_251 {S : Shp} {rc14 : Int32 → Int32 → Mm → Option (Int32 × Mm)} (hrc14 : ∀ {x1 : Int32} {x2 : Int32} {σ : Mm} {r : Int32 × Mm}, rc14 x1 x2 σ = some r → Z m_X12_cond S (Qi r) 14 [(0, .ref (sL S 3 0 0)), (1, .int (x1)), (2, .int (x2))] [] σ) {x1 : Int32} {x2 : Int32} {s0 : Int32} {σ : Mm} {r : Int32 × Mm} (h : F_X12_cond_251 rc14 x1 x2 s0 σ = some r) : Z m_X12_cond S (Qi r) 251 [(0, .ref (sL S 3 0 0)), (1, .int (x1)), (2, .int (x2))] [.int (s0)] σ := by
  unfold F_X12_cond_251 at h
  refine z_if_eq (tgt := 257) dX12_cond_251 (by decide) (fun q => ?_) (fun q => ?_)
  · have h := (if_pos q).symm.trans h
    exact zb_X12_cond_257 hrc14 h
  · have h := (if_neg q).symm.trans h
    refine z_iinc (j := 1) (v := x1 + 1) (lv' := [(0, .ref (sL S 3 0 0)), (1, .int (x1 + 1)), (2, .int (x2))]) dX12_cond_254 rfl rfl (by decide) [1, 0, 2] rfl ?_
    exact zb_X12_cond_257 hrc14 h
def F_X12_cond_244 (rc14 : Int32 → Int32 → Mm → Option (Int32 × Mm)) (x1 : Int32) (s0 : Int32) (σ : Mm) : Option (Int32 × Mm) := (bnd (F_X12_isWord 12 σ) (fun v τ => (F_X12_cond_251 rc14 x1 s0 v τ)))
set_option maxRecDepth 20000 in
theorem zb_X12_cond_244 {S : Shp} {rc14 : Int32 → Int32 → Mm → Option (Int32 × Mm)} (hrc14 : ∀ {x1 : Int32} {x2 : Int32} {σ : Mm} {r : Int32 × Mm}, rc14 x1 x2 σ = some r → Z m_X12_cond S (Qi r) 14 [(0, .ref (sL S 3 0 0)), (1, .int (x1)), (2, .int (x2))] [] σ) {x1 : Int32} {s0 : Int32} {σ : Mm} {r : Int32 × Mm} (h : F_X12_cond_244 rc14 x1 s0 σ = some r) : Z m_X12_cond S (Qi r) 244 [(0, .ref (sL S 3 0 0)), (1, .int (x1))] [.int (s0)] σ := by
  unfold F_X12_cond_244 at h
  refine z_istore_n (lv' := [(0, .ref (sL S 3 0 0)), (1, .int (x1)), (2, .int (s0))]) dX12_cond_244 rfl (by decide) [1, 2, 0] rfl ?_
  refine z_aload_n dX12_cond_245 rfl 0 rfl ?_
  refine z_bipush (v := 12) dX12_cond_246 (by decide) ?_
  obtain ⟨v, τ, hc, h⟩ := bnd_e h
  refine z_callV (M' := m_X12_isWord) (t := 3) (i := 0) (k := 0) (As := [.int (12)]) (rest := []) kl_12_358 oy_X12_isWord ⟨Nat.le_of_ble_eq_true rfl, Nat.le_of_ble_eq_true rfl⟩ rfl rfl rfl rfl (Nat.le_of_ble_eq_true rfl) rfl dX12_cond_248 (c_X12_isWord hc) (fun v2 τ2 hq => ?_)
  obtain ⟨rfl, hτ⟩ := hq
  subst τ2
  change Z _ _ _ _ _ [.int (v)] _
  exact zb_X12_cond_251 hrc14 h
def F_X12_cond_239 (rc14 : Int32 → Int32 → Mm → Option (Int32 × Mm)) (x1 : Int32) (σ : Mm) : Option (Int32 × Mm) := (F_X12_cond_244 rc14 x1 1 σ)
set_option maxRecDepth 20000 in
theorem zb_X12_cond_239 {S : Shp} {rc14 : Int32 → Int32 → Mm → Option (Int32 × Mm)} (hrc14 : ∀ {x1 : Int32} {x2 : Int32} {σ : Mm} {r : Int32 × Mm}, rc14 x1 x2 σ = some r → Z m_X12_cond S (Qi r) 14 [(0, .ref (sL S 3 0 0)), (1, .int (x1)), (2, .int (x2))] [] σ) {x1 : Int32} {σ : Mm} {r : Int32 × Mm} (h : F_X12_cond_239 rc14 x1 σ = some r) : Z m_X12_cond S (Qi r) 239 [(0, .ref (sL S 3 0 0)), (1, .int (x1))] [] σ := by
  unfold F_X12_cond_239 at h
  refine z_iconst (v := 1) dX12_cond_239 (by decide) ?_
  refine z_goto (tgt := 244) dX12_cond_240 (by decide) ?_
  exact zb_X12_cond_244 hrc14 h
def F_X12_cond_236 (rc14 : Int32 → Int32 → Mm → Option (Int32 × Mm)) (x1 : Int32) (s0 : Int32) (σ : Mm) : Option (Int32 × Mm) := (if s0 = 0 then (F_X12_cond_244 rc14 x1 0 σ) else (F_X12_cond_239 rc14 x1 σ))
set_option maxRecDepth 20000 in
theorem zb_X12_cond_236 {S : Shp} {rc14 : Int32 → Int32 → Mm → Option (Int32 × Mm)} (hrc14 : ∀ {x1 : Int32} {x2 : Int32} {σ : Mm} {r : Int32 × Mm}, rc14 x1 x2 σ = some r → Z m_X12_cond S (Qi r) 14 [(0, .ref (sL S 3 0 0)), (1, .int (x1)), (2, .int (x2))] [] σ) {x1 : Int32} {s0 : Int32} {σ : Mm} {r : Int32 × Mm} (h : F_X12_cond_236 rc14 x1 s0 σ = some r) : Z m_X12_cond S (Qi r) 236 [(0, .ref (sL S 3 0 0)), (1, .int (x1))] [.int (s0)] σ := by
  unfold F_X12_cond_236 at h
  refine z_if_eq (tgt := 243) dX12_cond_236 (by decide) (fun q => ?_) (fun q => ?_)
  · have h := (if_pos q).symm.trans h
    refine z_iconst (v := 0) dX12_cond_243 (by decide) ?_
    exact zb_X12_cond_244 hrc14 h
  · have h := (if_neg q).symm.trans h
    exact zb_X12_cond_239 hrc14 h
def F_X12_cond_227 (rc14 : Int32 → Int32 → Mm → Option (Int32 × Mm)) (x1 : Int32) (s0 : Int32) (σ : Mm) : Option (Int32 × Mm) := (if s0 = 0 then (bnd (F_X12_isWord 12 σ) (fun v τ => (F_X12_cond_236 rc14 x1 v τ))) else (F_X12_cond_239 rc14 x1 σ))
set_option maxRecDepth 20000 in
theorem zb_X12_cond_227 {S : Shp} {rc14 : Int32 → Int32 → Mm → Option (Int32 × Mm)} (hrc14 : ∀ {x1 : Int32} {x2 : Int32} {σ : Mm} {r : Int32 × Mm}, rc14 x1 x2 σ = some r → Z m_X12_cond S (Qi r) 14 [(0, .ref (sL S 3 0 0)), (1, .int (x1)), (2, .int (x2))] [] σ) {x1 : Int32} {s0 : Int32} {σ : Mm} {r : Int32 × Mm} (h : F_X12_cond_227 rc14 x1 s0 σ = some r) : Z m_X12_cond S (Qi r) 227 [(0, .ref (sL S 3 0 0)), (1, .int (x1))] [.int (s0)] σ := by
  unfold F_X12_cond_227 at h
  refine z_if_ne (tgt := 239) dX12_cond_227 (by decide) (fun q => ?_) (fun q => ?_)
  · have h := (if_neg q).symm.trans h
    exact zb_X12_cond_239 hrc14 h
  · have h := (if_pos q).symm.trans h
    refine z_aload_n dX12_cond_230 rfl 0 rfl ?_
    refine z_bipush (v := 12) dX12_cond_231 (by decide) ?_
    obtain ⟨v, τ, hc, h⟩ := bnd_e h
    refine z_callV (M' := m_X12_isWord) (t := 3) (i := 0) (k := 0) (As := [.int (12)]) (rest := []) kl_12_358 oy_X12_isWord ⟨Nat.le_of_ble_eq_true rfl, Nat.le_of_ble_eq_true rfl⟩ rfl rfl rfl rfl (Nat.le_of_ble_eq_true rfl) rfl dX12_cond_233 (c_X12_isWord hc) (fun v2 τ2 hq => ?_)
    obtain ⟨rfl, hτ⟩ := hq
    subst τ2
    change Z _ _ _ _ _ [.int (v)] _
    exact zb_X12_cond_236 hrc14 h
def F_X12_cond_221 (rc14 : Int32 → Int32 → Mm → Option (Int32 × Mm)) (x1 : Int32) (σ : Mm) : Option (Int32 × Mm) := (bnd (F_X12_isWord 11 σ) (fun v τ => (F_X12_cond_227 rc14 x1 v τ)))
set_option maxRecDepth 20000 in
theorem zb_X12_cond_221 {S : Shp} {rc14 : Int32 → Int32 → Mm → Option (Int32 × Mm)} (hrc14 : ∀ {x1 : Int32} {x2 : Int32} {σ : Mm} {r : Int32 × Mm}, rc14 x1 x2 σ = some r → Z m_X12_cond S (Qi r) 14 [(0, .ref (sL S 3 0 0)), (1, .int (x1)), (2, .int (x2))] [] σ) {x1 : Int32} {σ : Mm} {r : Int32 × Mm} (h : F_X12_cond_221 rc14 x1 σ = some r) : Z m_X12_cond S (Qi r) 221 [(0, .ref (sL S 3 0 0)), (1, .int (x1))] [] σ := by
  unfold F_X12_cond_221 at h
  refine z_aload_n dX12_cond_221 rfl 0 rfl ?_
  refine z_bipush (v := 11) dX12_cond_222 (by decide) ?_
  obtain ⟨v, τ, hc, h⟩ := bnd_e h
  refine z_callV (M' := m_X12_isWord) (t := 3) (i := 0) (k := 0) (As := [.int (11)]) (rest := []) kl_12_358 oy_X12_isWord ⟨Nat.le_of_ble_eq_true rfl, Nat.le_of_ble_eq_true rfl⟩ rfl rfl rfl rfl (Nat.le_of_ble_eq_true rfl) rfl dX12_cond_224 (c_X12_isWord hc) (fun v2 τ2 hq => ?_)
  obtain ⟨rfl, hτ⟩ := hq
  subst τ2
  change Z _ _ _ _ _ [.int (v)] _
  exact zb_X12_cond_227 hrc14 h
def F_X12_cond_211 (rc14 : Int32 → Int32 → Mm → Option (Int32 × Mm)) (x1 : Int32) (σ : Mm) : Option (Int32 × Mm) := (if inb 1 5 = true then (if inb 1 5 = true then (F_X12_cond_221 rc14 x1 (setA σ 3 0 31 (upd (mA σ 3 0 31) (1 : Int32).toNatClampNeg ((mA σ 3 0 31 (1 : Int32).toNatClampNeg) + (1 : Int32))))) else none) else none)
set_option maxRecDepth 20000 in
theorem zb_X12_cond_211 {S : Shp} {rc14 : Int32 → Int32 → Mm → Option (Int32 × Mm)} (hrc14 : ∀ {x1 : Int32} {x2 : Int32} {σ : Mm} {r : Int32 × Mm}, rc14 x1 x2 σ = some r → Z m_X12_cond S (Qi r) 14 [(0, .ref (sL S 3 0 0)), (1, .int (x1)), (2, .int (x2))] [] σ) {x1 : Int32} {σ : Mm} {r : Int32 × Mm} (h : F_X12_cond_211 rc14 x1 σ = some r) : Z m_X12_cond S (Qi r) 211 [(0, .ref (sL S 3 0 0)), (1, .int (x1))] [] σ := by
  unfold F_X12_cond_211 at h
  obtain ⟨g13, h⟩ := gd h
  refine z_aload_n dX12_cond_211 rfl 0 rfl ?_
  refine gf_12_106 rfl dX12_cond_212 ?_
  refine z_iconst (v := 1) dX12_cond_215 (by decide) ?_
  refine z_dup2_11 dX12_cond_216 rfl rfl ?_
  obtain ⟨g14, h⟩ := gd h
  refine ia_3_31 (inb_in g13) dX12_cond_217 ?_
  refine z_iconst (v := 1) dX12_cond_218 (by decide) ?_
  refine z_iadd dX12_cond_219 ?_
  refine is_3_31 (inb_in g14) dX12_cond_220 ?_
  exact zb_X12_cond_221 hrc14 h
def F_X12_cond_204 (rc14 : Int32 → Int32 → Mm → Option (Int32 × Mm)) (x1 : Int32) (x3 : Int32) (σ : Mm) : Option (Int32 × Mm) := (if inb x3 1000 = true then (F_X12_cond_211 rc14 x1 (setA σ 3 0 37 (upd (mA σ 3 0 37) x3.toNatClampNeg x1))) else none)
set_option maxRecDepth 20000 in
theorem zb_X12_cond_204 {S : Shp} {rc14 : Int32 → Int32 → Mm → Option (Int32 × Mm)} (hrc14 : ∀ {x1 : Int32} {x2 : Int32} {σ : Mm} {r : Int32 × Mm}, rc14 x1 x2 σ = some r → Z m_X12_cond S (Qi r) 14 [(0, .ref (sL S 3 0 0)), (1, .int (x1)), (2, .int (x2))] [] σ) {x1 : Int32} {x3 : Int32} {σ : Mm} {r : Int32 × Mm} (h : F_X12_cond_204 rc14 x1 x3 σ = some r) : Z m_X12_cond S (Qi r) 204 [(0, .ref (sL S 3 0 0)), (1, .int (x1)), (3, .int (x3))] [] σ := by
  unfold F_X12_cond_204 at h
  obtain ⟨g12, h⟩ := gd h
  refine z_aload_n dX12_cond_204 rfl 0 rfl ?_
  refine gf_12_124 rfl dX12_cond_205 ?_
  refine z_iload_n dX12_cond_208 rfl 2 rfl ?_
  refine z_iload_n dX12_cond_209 rfl 1 rfl ?_
  refine is_3_37 (inb_in g12) dX12_cond_210 ?_
  refine Z.lv [0, 1] rfl ?_
  exact zb_X12_cond_211 hrc14 h
def F_X12_cond_196 (rc14 : Int32 → Int32 → Mm → Option (Int32 × Mm)) (x1 : Int32) (x3 : Int32) (x4 : Int32) (σ : Mm) : Option (Int32 × Mm) := (if inb x3 1000 = true then (F_X12_cond_204 rc14 x1 x3 (setA σ 3 0 32 (upd (mA σ 3 0 32) x3.toNatClampNeg (vp_nar .boolean x4)))) else none)
set_option maxRecDepth 20000 in
theorem zb_X12_cond_196 {S : Shp} {rc14 : Int32 → Int32 → Mm → Option (Int32 × Mm)} (hrc14 : ∀ {x1 : Int32} {x2 : Int32} {σ : Mm} {r : Int32 × Mm}, rc14 x1 x2 σ = some r → Z m_X12_cond S (Qi r) 14 [(0, .ref (sL S 3 0 0)), (1, .int (x1)), (2, .int (x2))] [] σ) {x1 : Int32} {x3 : Int32} {x4 : Int32} {σ : Mm} {r : Int32 × Mm} (h : F_X12_cond_196 rc14 x1 x3 x4 σ = some r) : Z m_X12_cond S (Qi r) 196 [(0, .ref (sL S 3 0 0)), (1, .int (x1)), (3, .int (x3)), (4, .int (x4))] [] σ := by
  unfold F_X12_cond_196 at h
  obtain ⟨g11, h⟩ := gd h
  refine z_aload_n dX12_cond_196 rfl 0 rfl ?_
  refine gf_12_109 rfl dX12_cond_197 ?_
  refine z_iload_n dX12_cond_200 rfl 2 rfl ?_
  refine z_iload dX12_cond_201 3 rfl ?_
  refine is_3_32 (inb_in g11) dX12_cond_203 ?_
  refine Z.lv [0, 1, 2] rfl ?_
  exact zb_X12_cond_204 hrc14 h
def F_X12_cond_179 (rc14 : Int32 → Int32 → Mm → Option (Int32 × Mm)) (x1 : Int32) (x3 : Int32) (x4 : Int32) (s0 : Int32) (σ : Mm) : Option (Int32 × Mm) := (if s0 = 0 then some (0, σ) else (if inb 1 5 = true then (if inb x3 1000 = true then (F_X12_cond_196 rc14 x1 x3 x4 (setA σ 3 0 36 (upd (mA σ 3 0 36) x3.toNatClampNeg (mA σ 3 0 28 (1 : Int32).toNatClampNeg)))) else none) else none))
set_option maxRecDepth 20000 in
theorem zb_X12_cond_179 {S : Shp} {rc14 : Int32 → Int32 → Mm → Option (Int32 × Mm)} (hrc14 : ∀ {x1 : Int32} {x2 : Int32} {σ : Mm} {r : Int32 × Mm}, rc14 x1 x2 σ = some r → Z m_X12_cond S (Qi r) 14 [(0, .ref (sL S 3 0 0)), (1, .int (x1)), (2, .int (x2))] [] σ) {x1 : Int32} {x3 : Int32} {x4 : Int32} {s0 : Int32} {σ : Mm} {r : Int32 × Mm} (h : F_X12_cond_179 rc14 x1 x3 x4 s0 σ = some r) : Z m_X12_cond S (Qi r) 179 [(0, .ref (sL S 3 0 0)), (1, .int (x1)), (3, .int (x3)), (4, .int (x4))] [.int (s0)] σ := by
  unfold F_X12_cond_179 at h
  refine z_if_ne (tgt := 184) dX12_cond_179 (by decide) (fun q => ?_) (fun q => ?_)
  · have h := (if_neg q).symm.trans h
    obtain ⟨g9, h⟩ := gd h
    refine z_aload_n dX12_cond_184 rfl 0 rfl ?_
    refine gf_12_121 rfl dX12_cond_185 ?_
    refine z_iload_n dX12_cond_188 rfl 2 rfl ?_
    refine z_aload_n dX12_cond_189 rfl 0 rfl ?_
    refine gf_12_97 rfl dX12_cond_190 ?_
    refine z_iconst (v := 1) dX12_cond_193 (by decide) ?_
    obtain ⟨g10, h⟩ := gd h
    refine ia_3_28 (inb_in g9) dX12_cond_194 ?_
    refine is_3_36 (inb_in g10) dX12_cond_195 ?_
    exact zb_X12_cond_196 hrc14 h
  · have h := (if_pos q).symm.trans h
    refine z_iconst (v := 0) dX12_cond_182 (by decide) ?_
    cases h
    exact z_ireturn dX12_cond_183 rfl rfl ⟨rfl, rfl⟩
def F_X12_cond_172 (rc14 : Int32 → Int32 → Mm → Option (Int32 × Mm)) (x1 : Int32) (x3 : Int32) (x4 : Int32) (s0 : Int32) (σ : Mm) : Option (Int32 × Mm) := (if s0 = 0 then some (0, σ) else (bnd (F_X12_expr  σ) (fun v τ => (F_X12_cond_179 rc14 x1 x3 x4 v τ))))
set_option maxRecDepth 20000 in
theorem zb_X12_cond_172 {S : Shp} {rc14 : Int32 → Int32 → Mm → Option (Int32 × Mm)} (hrc14 : ∀ {x1 : Int32} {x2 : Int32} {σ : Mm} {r : Int32 × Mm}, rc14 x1 x2 σ = some r → Z m_X12_cond S (Qi r) 14 [(0, .ref (sL S 3 0 0)), (1, .int (x1)), (2, .int (x2))] [] σ) {x1 : Int32} {x3 : Int32} {x4 : Int32} {s0 : Int32} {σ : Mm} {r : Int32 × Mm} (h : F_X12_cond_172 rc14 x1 x3 x4 s0 σ = some r) : Z m_X12_cond S (Qi r) 172 [(0, .ref (sL S 3 0 0)), (1, .int (x1)), (3, .int (x3)), (4, .int (x4))] [.int (s0)] σ := by
  unfold F_X12_cond_172 at h
  refine z_if_eq (tgt := 182) dX12_cond_172 (by decide) (fun q => ?_) (fun q => ?_)
  · have h := (if_pos q).symm.trans h
    refine z_iconst (v := 0) dX12_cond_182 (by decide) ?_
    cases h
    exact z_ireturn dX12_cond_183 rfl rfl ⟨rfl, rfl⟩
  · have h := (if_neg q).symm.trans h
    refine z_aload_n dX12_cond_175 rfl 0 rfl ?_
    obtain ⟨v, τ, hc, h⟩ := bnd_e h
    refine z_callV (M' := m_X12_expr) (t := 3) (i := 0) (k := 0) (As := []) (rest := []) kl_12_361 oy_X12_expr ⟨Nat.le_of_ble_eq_true rfl, Nat.le_of_ble_eq_true rfl⟩ rfl rfl rfl rfl (Nat.le_of_ble_eq_true rfl) rfl dX12_cond_176 (c_X12_expr hc) (fun v2 τ2 hq => ?_)
    obtain ⟨rfl, hτ⟩ := hq
    subst τ2
    change Z _ _ _ _ _ [.int (v)] _
    exact zb_X12_cond_179 hrc14 h
def F_X12_cond_168 (rc14 : Int32 → Int32 → Mm → Option (Int32 × Mm)) (x1 : Int32) (x3 : Int32) (x4 : Int32) (σ : Mm) : Option (Int32 × Mm) := (bnd (F_X12_pass  σ) (fun v τ => (F_X12_cond_172 rc14 x1 x3 x4 v τ)))
set_option maxRecDepth 20000 in
theorem zb_X12_cond_168 {S : Shp} {rc14 : Int32 → Int32 → Mm → Option (Int32 × Mm)} (hrc14 : ∀ {x1 : Int32} {x2 : Int32} {σ : Mm} {r : Int32 × Mm}, rc14 x1 x2 σ = some r → Z m_X12_cond S (Qi r) 14 [(0, .ref (sL S 3 0 0)), (1, .int (x1)), (2, .int (x2))] [] σ) {x1 : Int32} {x3 : Int32} {x4 : Int32} {σ : Mm} {r : Int32 × Mm} (h : F_X12_cond_168 rc14 x1 x3 x4 σ = some r) : Z m_X12_cond S (Qi r) 168 [(0, .ref (sL S 3 0 0)), (1, .int (x1)), (3, .int (x3)), (4, .int (x4))] [] σ := by
  unfold F_X12_cond_168 at h
  refine z_aload_n dX12_cond_168 rfl 0 rfl ?_
  obtain ⟨v, τ, hc, h⟩ := bnd_e h
  refine z_callV (M' := m_X12_pass) (t := 3) (i := 0) (k := 0) (As := []) (rest := []) kl_12_317 oy_X12_pass ⟨Nat.le_of_ble_eq_true rfl, Nat.le_of_ble_eq_true rfl⟩ rfl rfl rfl rfl (Nat.le_of_ble_eq_true rfl) rfl dX12_cond_169 (c_X12_pass hc) (fun v2 τ2 hq => ?_)
  obtain ⟨rfl, hτ⟩ := hq
  subst τ2
  change Z _ _ _ _ _ [.int (v)] _
  exact zb_X12_cond_172 hrc14 h
def F_X12_cond_152 (s0 : Int32) (σ : Mm) : Option (Int32 × Mm) := (if isB s0 = true then some (s0, σ) else none)
set_option maxRecDepth 20000 in
theorem zb_X12_cond_152 {S : Shp} {s0 : Int32} {σ : Mm} {r : Int32 × Mm} (h : F_X12_cond_152 s0 σ = some r) : Z m_X12_cond S (Qi r) 152 [] [.int (s0)] σ := by
  unfold F_X12_cond_152 at h
  obtain ⟨g8, h⟩ := gd h
  cases h
  exact z_ireturn dX12_cond_152 rfl (isB_n g8) ⟨rfl, rfl⟩
def F_X12_cond_140 (rc14 : Int32 → Int32 → Mm → Option (Int32 × Mm)) (x1 : Int32) (x3 : Int32) (x4 : Int32) (s0 : Int32) (σ : Mm) : Option (Int32 × Mm) := (if s0 = 0 then (bnd (F_X12_wrong 1 σ) (fun v τ => (F_X12_cond_152 v τ))) else (if inb (mA σ 3 0 0 7) 2001 = true then (if inb x3 1000 = true then (F_X12_cond_168 rc14 x1 x3 x4 (setA σ 3 0 33 (upd (mA σ 3 0 33) x3.toNatClampNeg (mA σ 3 0 4 (mA σ 3 0 0 7).toNatClampNeg)))) else none) else none))
set_option maxRecDepth 20000 in
theorem zb_X12_cond_140 {S : Shp} {rc14 : Int32 → Int32 → Mm → Option (Int32 × Mm)} (hrc14 : ∀ {x1 : Int32} {x2 : Int32} {σ : Mm} {r : Int32 × Mm}, rc14 x1 x2 σ = some r → Z m_X12_cond S (Qi r) 14 [(0, .ref (sL S 3 0 0)), (1, .int (x1)), (2, .int (x2))] [] σ) {x1 : Int32} {x3 : Int32} {x4 : Int32} {s0 : Int32} {σ : Mm} {r : Int32 × Mm} (h : F_X12_cond_140 rc14 x1 x3 x4 s0 σ = some r) : Z m_X12_cond S (Qi r) 140 [(0, .ref (sL S 3 0 0)), (1, .int (x1)), (3, .int (x3)), (4, .int (x4))] [.int (s0)] σ := by
  unfold F_X12_cond_140 at h
  refine z_istore (lv' := [(0, .ref (sL S 3 0 0)), (1, .int (x1)), (3, .int (x3)), (4, .int (x4)), (5, .int (s0))]) dX12_cond_140 (by decide) [1, 2, 3, 4, 0] rfl ?_
  refine z_iload dX12_cond_142 4 rfl ?_
  refine z_if_ne (tgt := 153) dX12_cond_144 (by decide) (fun q => ?_) (fun q => ?_)
  · have h := (if_neg q).symm.trans h
    obtain ⟨g6, h⟩ := gd h
    refine z_aload_n dX12_cond_153 rfl 0 rfl ?_
    refine gf_12_112 rfl dX12_cond_154 ?_
    refine z_iload_n dX12_cond_157 rfl 2 rfl ?_
    refine z_aload_n dX12_cond_158 rfl 0 rfl ?_
    refine gf_12_19 rfl dX12_cond_159 ?_
    refine z_aload_n dX12_cond_162 rfl 0 rfl ?_
    refine gf_12_305 rfl dX12_cond_163 ?_
    obtain ⟨g7, h⟩ := gd h
    refine ia_3_4 (inb_in g6) dX12_cond_166 ?_
    refine is_3_33 (inb_in g7) dX12_cond_167 ?_
    refine Z.lv [0, 1, 2, 3] rfl ?_
    exact zb_X12_cond_168 hrc14 h
  · have h := (if_pos q).symm.trans h
    refine z_aload_n dX12_cond_147 rfl 0 rfl ?_
    refine z_iconst (v := 1) dX12_cond_148 (by decide) ?_
    obtain ⟨v, τ, hc, h⟩ := bnd_e h
    refine z_callV (M' := m_X12_wrong) (t := 3) (i := 0) (k := 0) (As := [.int (1)]) (rest := []) kl_12_314 oy_X12_wrong ⟨Nat.le_of_ble_eq_true rfl, Nat.le_of_ble_eq_true rfl⟩ rfl rfl rfl rfl (Nat.le_of_ble_eq_true rfl) rfl dX12_cond_149 (c_X12_wrong hc) (fun v2 τ2 hq => ?_)
    obtain ⟨rfl, hτ⟩ := hq
    subst τ2
    change Z _ _ _ _ _ [.int (v)] _
    refine Z.lv [] rfl ?_
    exact zb_X12_cond_152 h
def F_X12_cond_135 (rc14 : Int32 → Int32 → Mm → Option (Int32 × Mm)) (x1 : Int32) (x3 : Int32) (x4 : Int32) (σ : Mm) : Option (Int32 × Mm) := (F_X12_cond_140 rc14 x1 x3 x4 1 σ)
set_option maxRecDepth 20000 in
theorem zb_X12_cond_135 {S : Shp} {rc14 : Int32 → Int32 → Mm → Option (Int32 × Mm)} (hrc14 : ∀ {x1 : Int32} {x2 : Int32} {σ : Mm} {r : Int32 × Mm}, rc14 x1 x2 σ = some r → Z m_X12_cond S (Qi r) 14 [(0, .ref (sL S 3 0 0)), (1, .int (x1)), (2, .int (x2))] [] σ) {x1 : Int32} {x3 : Int32} {x4 : Int32} {σ : Mm} {r : Int32 × Mm} (h : F_X12_cond_135 rc14 x1 x3 x4 σ = some r) : Z m_X12_cond S (Qi r) 135 [(0, .ref (sL S 3 0 0)), (1, .int (x1)), (3, .int (x3)), (4, .int (x4))] [] σ := by
  unfold F_X12_cond_135 at h
  refine z_iconst (v := 1) dX12_cond_135 (by decide) ?_
  refine z_goto (tgt := 140) dX12_cond_136 (by decide) ?_
  exact zb_X12_cond_140 hrc14 h
def F_X12_cond_132 (rc14 : Int32 → Int32 → Mm → Option (Int32 × Mm)) (x1 : Int32) (x3 : Int32) (x4 : Int32) (s0 : Int32) (σ : Mm) : Option (Int32 × Mm) := (if s0 = 0 then (F_X12_cond_140 rc14 x1 x3 x4 0 σ) else (F_X12_cond_135 rc14 x1 x3 x4 σ))
set_option maxRecDepth 20000 in
theorem zb_X12_cond_132 {S : Shp} {rc14 : Int32 → Int32 → Mm → Option (Int32 × Mm)} (hrc14 : ∀ {x1 : Int32} {x2 : Int32} {σ : Mm} {r : Int32 × Mm}, rc14 x1 x2 σ = some r → Z m_X12_cond S (Qi r) 14 [(0, .ref (sL S 3 0 0)), (1, .int (x1)), (2, .int (x2))] [] σ) {x1 : Int32} {x3 : Int32} {x4 : Int32} {s0 : Int32} {σ : Mm} {r : Int32 × Mm} (h : F_X12_cond_132 rc14 x1 x3 x4 s0 σ = some r) : Z m_X12_cond S (Qi r) 132 [(0, .ref (sL S 3 0 0)), (1, .int (x1)), (3, .int (x3)), (4, .int (x4))] [.int (s0)] σ := by
  unfold F_X12_cond_132 at h
  refine z_if_eq (tgt := 139) dX12_cond_132 (by decide) (fun q => ?_) (fun q => ?_)
  · have h := (if_pos q).symm.trans h
    refine z_iconst (v := 0) dX12_cond_139 (by decide) ?_
    exact zb_X12_cond_140 hrc14 h
  · have h := (if_neg q).symm.trans h
    exact zb_X12_cond_135 hrc14 h
def F_X12_cond_123 (rc14 : Int32 → Int32 → Mm → Option (Int32 × Mm)) (x1 : Int32) (x3 : Int32) (x4 : Int32) (s0 : Int32) (σ : Mm) : Option (Int32 × Mm) := (if s0 = 0 then (bnd (F_X12_isSign 60 σ) (fun v τ => (F_X12_cond_132 rc14 x1 x3 x4 v τ))) else (F_X12_cond_135 rc14 x1 x3 x4 σ))
set_option maxRecDepth 20000 in
theorem zb_X12_cond_123 {S : Shp} {rc14 : Int32 → Int32 → Mm → Option (Int32 × Mm)} (hrc14 : ∀ {x1 : Int32} {x2 : Int32} {σ : Mm} {r : Int32 × Mm}, rc14 x1 x2 σ = some r → Z m_X12_cond S (Qi r) 14 [(0, .ref (sL S 3 0 0)), (1, .int (x1)), (2, .int (x2))] [] σ) {x1 : Int32} {x3 : Int32} {x4 : Int32} {s0 : Int32} {σ : Mm} {r : Int32 × Mm} (h : F_X12_cond_123 rc14 x1 x3 x4 s0 σ = some r) : Z m_X12_cond S (Qi r) 123 [(0, .ref (sL S 3 0 0)), (1, .int (x1)), (3, .int (x3)), (4, .int (x4))] [.int (s0)] σ := by
  unfold F_X12_cond_123 at h
  refine z_if_ne (tgt := 135) dX12_cond_123 (by decide) (fun q => ?_) (fun q => ?_)
  · have h := (if_neg q).symm.trans h
    exact zb_X12_cond_135 hrc14 h
  · have h := (if_pos q).symm.trans h
    refine z_aload_n dX12_cond_126 rfl 0 rfl ?_
    refine z_bipush (v := 60) dX12_cond_127 (by decide) ?_
    obtain ⟨v, τ, hc, h⟩ := bnd_e h
    refine z_callV (M' := m_X12_isSign) (t := 3) (i := 0) (k := 0) (As := [.int (60)]) (rest := []) kl_12_343 oy_X12_isSign ⟨Nat.le_of_ble_eq_true rfl, Nat.le_of_ble_eq_true rfl⟩ rfl rfl rfl rfl (Nat.le_of_ble_eq_true rfl) rfl dX12_cond_129 (c_X12_isSign hc) (fun v2 τ2 hq => ?_)
    obtain ⟨rfl, hτ⟩ := hq
    subst τ2
    change Z _ _ _ _ _ [.int (v)] _
    exact zb_X12_cond_132 hrc14 h
def F_X12_cond_113 (rc14 : Int32 → Int32 → Mm → Option (Int32 × Mm)) (x1 : Int32) (x3 : Int32) (x4 : Int32) (s0 : Int32) (σ : Mm) : Option (Int32 × Mm) := (if s0 = 0 then (bnd (F_X12_isSign 302 σ) (fun v τ => (F_X12_cond_123 rc14 x1 x3 x4 v τ))) else (F_X12_cond_135 rc14 x1 x3 x4 σ))
set_option maxRecDepth 20000 in
theorem zb_X12_cond_113 {S : Shp} {rc14 : Int32 → Int32 → Mm → Option (Int32 × Mm)} (hrc14 : ∀ {x1 : Int32} {x2 : Int32} {σ : Mm} {r : Int32 × Mm}, rc14 x1 x2 σ = some r → Z m_X12_cond S (Qi r) 14 [(0, .ref (sL S 3 0 0)), (1, .int (x1)), (2, .int (x2))] [] σ) {x1 : Int32} {x3 : Int32} {x4 : Int32} {s0 : Int32} {σ : Mm} {r : Int32 × Mm} (h : F_X12_cond_113 rc14 x1 x3 x4 s0 σ = some r) : Z m_X12_cond S (Qi r) 113 [(0, .ref (sL S 3 0 0)), (1, .int (x1)), (3, .int (x3)), (4, .int (x4))] [.int (s0)] σ := by
  unfold F_X12_cond_113 at h
  refine z_if_ne (tgt := 135) dX12_cond_113 (by decide) (fun q => ?_) (fun q => ?_)
  · have h := (if_neg q).symm.trans h
    exact zb_X12_cond_135 hrc14 h
  · have h := (if_pos q).symm.trans h
    refine z_aload_n dX12_cond_116 rfl 0 rfl ?_
    refine z_sipush (v := 302) dX12_cond_117 (by decide) ?_
    obtain ⟨v, τ, hc, h⟩ := bnd_e h
    refine z_callV (M' := m_X12_isSign) (t := 3) (i := 0) (k := 0) (As := [.int (302)]) (rest := []) kl_12_343 oy_X12_isSign ⟨Nat.le_of_ble_eq_true rfl, Nat.le_of_ble_eq_true rfl⟩ rfl rfl rfl rfl (Nat.le_of_ble_eq_true rfl) rfl dX12_cond_120 (c_X12_isSign hc) (fun v2 τ2 hq => ?_)
    obtain ⟨rfl, hτ⟩ := hq
    subst τ2
    change Z _ _ _ _ _ [.int (v)] _
    exact zb_X12_cond_123 hrc14 h
def F_X12_cond_103 (rc14 : Int32 → Int32 → Mm → Option (Int32 × Mm)) (x1 : Int32) (x3 : Int32) (x4 : Int32) (s0 : Int32) (σ : Mm) : Option (Int32 × Mm) := (if s0 = 0 then (bnd (F_X12_isSign 301 σ) (fun v τ => (F_X12_cond_113 rc14 x1 x3 x4 v τ))) else (F_X12_cond_135 rc14 x1 x3 x4 σ))
set_option maxRecDepth 20000 in
theorem zb_X12_cond_103 {S : Shp} {rc14 : Int32 → Int32 → Mm → Option (Int32 × Mm)} (hrc14 : ∀ {x1 : Int32} {x2 : Int32} {σ : Mm} {r : Int32 × Mm}, rc14 x1 x2 σ = some r → Z m_X12_cond S (Qi r) 14 [(0, .ref (sL S 3 0 0)), (1, .int (x1)), (2, .int (x2))] [] σ) {x1 : Int32} {x3 : Int32} {x4 : Int32} {s0 : Int32} {σ : Mm} {r : Int32 × Mm} (h : F_X12_cond_103 rc14 x1 x3 x4 s0 σ = some r) : Z m_X12_cond S (Qi r) 103 [(0, .ref (sL S 3 0 0)), (1, .int (x1)), (3, .int (x3)), (4, .int (x4))] [.int (s0)] σ := by
  unfold F_X12_cond_103 at h
  refine z_if_ne (tgt := 135) dX12_cond_103 (by decide) (fun q => ?_) (fun q => ?_)
  · have h := (if_neg q).symm.trans h
    exact zb_X12_cond_135 hrc14 h
  · have h := (if_pos q).symm.trans h
    refine z_aload_n dX12_cond_106 rfl 0 rfl ?_
    refine z_sipush (v := 301) dX12_cond_107 (by decide) ?_
    obtain ⟨v, τ, hc, h⟩ := bnd_e h
    refine z_callV (M' := m_X12_isSign) (t := 3) (i := 0) (k := 0) (As := [.int (301)]) (rest := []) kl_12_343 oy_X12_isSign ⟨Nat.le_of_ble_eq_true rfl, Nat.le_of_ble_eq_true rfl⟩ rfl rfl rfl rfl (Nat.le_of_ble_eq_true rfl) rfl dX12_cond_110 (c_X12_isSign hc) (fun v2 τ2 hq => ?_)
    obtain ⟨rfl, hτ⟩ := hq
    subst τ2
    change Z _ _ _ _ _ [.int (v)] _
    exact zb_X12_cond_113 hrc14 h
def F_X12_cond_96 (rc14 : Int32 → Int32 → Mm → Option (Int32 × Mm)) (x1 : Int32) (x3 : Int32) (x4 : Int32) (σ : Mm) : Option (Int32 × Mm) := (bnd (F_X12_isSign 300 σ) (fun v τ => (F_X12_cond_103 rc14 x1 x3 x4 v τ)))
set_option maxRecDepth 20000 in
theorem zb_X12_cond_96 {S : Shp} {rc14 : Int32 → Int32 → Mm → Option (Int32 × Mm)} (hrc14 : ∀ {x1 : Int32} {x2 : Int32} {σ : Mm} {r : Int32 × Mm}, rc14 x1 x2 σ = some r → Z m_X12_cond S (Qi r) 14 [(0, .ref (sL S 3 0 0)), (1, .int (x1)), (2, .int (x2))] [] σ) {x1 : Int32} {x3 : Int32} {x4 : Int32} {σ : Mm} {r : Int32 × Mm} (h : F_X12_cond_96 rc14 x1 x3 x4 σ = some r) : Z m_X12_cond S (Qi r) 96 [(0, .ref (sL S 3 0 0)), (1, .int (x1)), (3, .int (x3)), (4, .int (x4))] [] σ := by
  unfold F_X12_cond_96 at h
  refine z_aload_n dX12_cond_96 rfl 0 rfl ?_
  refine z_sipush (v := 300) dX12_cond_97 (by decide) ?_
  obtain ⟨v, τ, hc, h⟩ := bnd_e h
  refine z_callV (M' := m_X12_isSign) (t := 3) (i := 0) (k := 0) (As := [.int (300)]) (rest := []) kl_12_343 oy_X12_isSign ⟨Nat.le_of_ble_eq_true rfl, Nat.le_of_ble_eq_true rfl⟩ rfl rfl rfl rfl (Nat.le_of_ble_eq_true rfl) rfl dX12_cond_100 (c_X12_isSign hc) (fun v2 τ2 hq => ?_)
  obtain ⟨rfl, hτ⟩ := hq
  subst τ2
  change Z _ _ _ _ _ [.int (v)] _
  exact zb_X12_cond_103 hrc14 h
def F_X12_cond_84 (rc14 : Int32 → Int32 → Mm → Option (Int32 × Mm)) (x1 : Int32) (x3 : Int32) (x4 : Int32) (σ : Mm) : Option (Int32 × Mm) := (if inb 1 5 = true then (if inb x3 1000 = true then (F_X12_cond_96 rc14 x1 x3 x4 (setA σ 3 0 35 (upd (mA σ 3 0 35) x3.toNatClampNeg (mA σ 3 0 28 (1 : Int32).toNatClampNeg)))) else none) else none)
set_option maxRecDepth 20000 in
theorem zb_X12_cond_84 {S : Shp} {rc14 : Int32 → Int32 → Mm → Option (Int32 × Mm)} (hrc14 : ∀ {x1 : Int32} {x2 : Int32} {σ : Mm} {r : Int32 × Mm}, rc14 x1 x2 σ = some r → Z m_X12_cond S (Qi r) 14 [(0, .ref (sL S 3 0 0)), (1, .int (x1)), (2, .int (x2))] [] σ) {x1 : Int32} {x3 : Int32} {x4 : Int32} {σ : Mm} {r : Int32 × Mm} (h : F_X12_cond_84 rc14 x1 x3 x4 σ = some r) : Z m_X12_cond S (Qi r) 84 [(0, .ref (sL S 3 0 0)), (1, .int (x1)), (3, .int (x3)), (4, .int (x4))] [] σ := by
  unfold F_X12_cond_84 at h
  obtain ⟨g4, h⟩ := gd h
  refine z_aload_n dX12_cond_84 rfl 0 rfl ?_
  refine gf_12_118 rfl dX12_cond_85 ?_
  refine z_iload_n dX12_cond_88 rfl 2 rfl ?_
  refine z_aload_n dX12_cond_89 rfl 0 rfl ?_
  refine gf_12_97 rfl dX12_cond_90 ?_
  refine z_iconst (v := 1) dX12_cond_93 (by decide) ?_
  obtain ⟨g5, h⟩ := gd h
  refine ia_3_28 (inb_in g4) dX12_cond_94 ?_
  refine is_3_35 (inb_in g5) dX12_cond_95 ?_
  exact zb_X12_cond_96 hrc14 h
def F_X12_cond_69 (rc14 : Int32 → Int32 → Mm → Option (Int32 × Mm)) (x1 : Int32) (x3 : Int32) (x4 : Int32) (s0 : Int32) (σ : Mm) : Option (Int32 × Mm) := (if s0 = 0 then some (0, σ) else (if inb x3 1000 = true then (F_X12_cond_84 rc14 x1 x3 x4 (setA σ 3 0 34 (upd (mA σ 3 0 34) x3.toNatClampNeg (mA σ 3 0 0 58)))) else none))
set_option maxRecDepth 20000 in
theorem zb_X12_cond_69 {S : Shp} {rc14 : Int32 → Int32 → Mm → Option (Int32 × Mm)} (hrc14 : ∀ {x1 : Int32} {x2 : Int32} {σ : Mm} {r : Int32 × Mm}, rc14 x1 x2 σ = some r → Z m_X12_cond S (Qi r) 14 [(0, .ref (sL S 3 0 0)), (1, .int (x1)), (2, .int (x2))] [] σ) {x1 : Int32} {x3 : Int32} {x4 : Int32} {s0 : Int32} {σ : Mm} {r : Int32 × Mm} (h : F_X12_cond_69 rc14 x1 x3 x4 s0 σ = some r) : Z m_X12_cond S (Qi r) 69 [(0, .ref (sL S 3 0 0)), (1, .int (x1)), (3, .int (x3)), (4, .int (x4))] [.int (s0)] σ := by
  unfold F_X12_cond_69 at h
  refine z_if_ne (tgt := 74) dX12_cond_69 (by decide) (fun q => ?_) (fun q => ?_)
  · have h := (if_neg q).symm.trans h
    obtain ⟨g3, h⟩ := gd h
    refine z_aload_n dX12_cond_74 rfl 0 rfl ?_
    refine gf_12_115 rfl dX12_cond_75 ?_
    refine z_iload_n dX12_cond_78 rfl 2 rfl ?_
    refine z_aload_n dX12_cond_79 rfl 0 rfl ?_
    refine gf_12_340 rfl dX12_cond_80 ?_
    refine is_3_34 (inb_in g3) dX12_cond_83 ?_
    exact zb_X12_cond_84 hrc14 h
  · have h := (if_pos q).symm.trans h
    refine z_iconst (v := 0) dX12_cond_72 (by decide) ?_
    cases h
    exact z_ireturn dX12_cond_73 rfl rfl ⟨rfl, rfl⟩
def F_X12_cond_60 (rc14 : Int32 → Int32 → Mm → Option (Int32 × Mm)) (rc32 : Int32 → Int32 → Int32 → Mm → Option (Int32 × Mm)) (x1 : Int32) (x3 : Int32) (s0 : Int32) (σ : Mm) : Option (Int32 × Mm) := (rc32 x1 x3 s0 σ)
set_option maxRecDepth 20000 in
theorem zb_X12_cond_60 {S : Shp} {rc14 : Int32 → Int32 → Mm → Option (Int32 × Mm)} (hrc14 : ∀ {x1 : Int32} {x2 : Int32} {σ : Mm} {r : Int32 × Mm}, rc14 x1 x2 σ = some r → Z m_X12_cond S (Qi r) 14 [(0, .ref (sL S 3 0 0)), (1, .int (x1)), (2, .int (x2))] [] σ) {rc32 : Int32 → Int32 → Int32 → Mm → Option (Int32 × Mm)} (hrc32 : ∀ {x1 : Int32} {x3 : Int32} {x4 : Int32} {σ : Mm} {r : Int32 × Mm}, rc32 x1 x3 x4 σ = some r → Z m_X12_cond S (Qi r) 32 [(0, .ref (sL S 3 0 0)), (1, .int (x1)), (3, .int (x3)), (4, .int (x4))] [] σ) {x1 : Int32} {x3 : Int32} {s0 : Int32} {σ : Mm} {r : Int32 × Mm} (h : F_X12_cond_60 rc14 rc32 x1 x3 s0 σ = some r) : Z m_X12_cond S (Qi r) 60 [(0, .ref (sL S 3 0 0)), (1, .int (x1)), (3, .int (x3))] [.int (s0)] σ := by
  unfold F_X12_cond_60 at h
  refine z_istore (lv' := [(0, .ref (sL S 3 0 0)), (1, .int (x1)), (3, .int (x3)), (4, .int (s0))]) dX12_cond_60 (by decide) [1, 2, 3, 0] rfl ?_
  refine z_goto (tgt := 32) dX12_cond_62 (by decide) ?_
  exact hrc32 h
def F_X12_cond_45 (rc14 : Int32 → Int32 → Mm → Option (Int32 × Mm)) (rc32 : Int32 → Int32 → Int32 → Mm → Option (Int32 × Mm)) (x1 : Int32) (x3 : Int32) (x4 : Int32) (s0 : Int32) (σ : Mm) : Option (Int32 × Mm) := (if s0 = 0 then some (0, σ) else (if x4 = 0 then (F_X12_cond_60 rc14 rc32 x1 x3 1 σ) else (F_X12_cond_60 rc14 rc32 x1 x3 0 σ)))
set_option maxRecDepth 20000 in
theorem zb_X12_cond_45 {S : Shp} {rc14 : Int32 → Int32 → Mm → Option (Int32 × Mm)} (hrc14 : ∀ {x1 : Int32} {x2 : Int32} {σ : Mm} {r : Int32 × Mm}, rc14 x1 x2 σ = some r → Z m_X12_cond S (Qi r) 14 [(0, .ref (sL S 3 0 0)), (1, .int (x1)), (2, .int (x2))] [] σ) {rc32 : Int32 → Int32 → Int32 → Mm → Option (Int32 × Mm)} (hrc32 : ∀ {x1 : Int32} {x3 : Int32} {x4 : Int32} {σ : Mm} {r : Int32 × Mm}, rc32 x1 x3 x4 σ = some r → Z m_X12_cond S (Qi r) 32 [(0, .ref (sL S 3 0 0)), (1, .int (x1)), (3, .int (x3)), (4, .int (x4))] [] σ) {x1 : Int32} {x3 : Int32} {x4 : Int32} {s0 : Int32} {σ : Mm} {r : Int32 × Mm} (h : F_X12_cond_45 rc14 rc32 x1 x3 x4 s0 σ = some r) : Z m_X12_cond S (Qi r) 45 [(0, .ref (sL S 3 0 0)), (1, .int (x1)), (3, .int (x3)), (4, .int (x4))] [.int (s0)] σ := by
  unfold F_X12_cond_45 at h
  refine z_if_ne (tgt := 50) dX12_cond_45 (by decide) (fun q => ?_) (fun q => ?_)
  · have h := (if_neg q).symm.trans h
    refine z_iload dX12_cond_50 3 rfl ?_
    refine z_if_ne (tgt := 59) dX12_cond_52 (by decide) (fun q => ?_) (fun q => ?_)
    · have h := (if_neg q).symm.trans h
      refine z_iconst (v := 0) dX12_cond_59 (by decide) ?_
      refine Z.lv [0, 1, 2] rfl ?_
      exact zb_X12_cond_60 hrc14 hrc32 h
    · have h := (if_pos q).symm.trans h
      refine z_iconst (v := 1) dX12_cond_55 (by decide) ?_
      refine z_goto (tgt := 60) dX12_cond_56 (by decide) ?_
      refine Z.lv [0, 1, 2] rfl ?_
      exact zb_X12_cond_60 hrc14 hrc32 h
  · have h := (if_pos q).symm.trans h
    refine z_iconst (v := 0) dX12_cond_48 (by decide) ?_
    cases h
    exact z_ireturn dX12_cond_49 rfl rfl ⟨rfl, rfl⟩
def F_X12_cond_38 (rc14 : Int32 → Int32 → Mm → Option (Int32 × Mm)) (rc32 : Int32 → Int32 → Int32 → Mm → Option (Int32 × Mm)) (x1 : Int32) (x3 : Int32) (x4 : Int32) (s0 : Int32) (σ : Mm) : Option (Int32 × Mm) := (if s0 = 0 then (bnd (F_X12_expr  σ) (fun v τ => (F_X12_cond_69 rc14 x1 x3 x4 v τ))) else (bnd (F_X12_pass  σ) (fun v τ => (F_X12_cond_45 rc14 rc32 x1 x3 x4 v τ))))
set_option maxRecDepth 20000 in
theorem zb_X12_cond_38 {S : Shp} {rc14 : Int32 → Int32 → Mm → Option (Int32 × Mm)} (hrc14 : ∀ {x1 : Int32} {x2 : Int32} {σ : Mm} {r : Int32 × Mm}, rc14 x1 x2 σ = some r → Z m_X12_cond S (Qi r) 14 [(0, .ref (sL S 3 0 0)), (1, .int (x1)), (2, .int (x2))] [] σ) {rc32 : Int32 → Int32 → Int32 → Mm → Option (Int32 × Mm)} (hrc32 : ∀ {x1 : Int32} {x3 : Int32} {x4 : Int32} {σ : Mm} {r : Int32 × Mm}, rc32 x1 x3 x4 σ = some r → Z m_X12_cond S (Qi r) 32 [(0, .ref (sL S 3 0 0)), (1, .int (x1)), (3, .int (x3)), (4, .int (x4))] [] σ) {x1 : Int32} {x3 : Int32} {x4 : Int32} {s0 : Int32} {σ : Mm} {r : Int32 × Mm} (h : F_X12_cond_38 rc14 rc32 x1 x3 x4 s0 σ = some r) : Z m_X12_cond S (Qi r) 38 [(0, .ref (sL S 3 0 0)), (1, .int (x1)), (3, .int (x3)), (4, .int (x4))] [.int (s0)] σ := by
  unfold F_X12_cond_38 at h
  refine z_if_eq (tgt := 65) dX12_cond_38 (by decide) (fun q => ?_) (fun q => ?_)
  · have h := (if_pos q).symm.trans h
    refine z_aload_n dX12_cond_65 rfl 0 rfl ?_
    obtain ⟨v, τ, hc, h⟩ := bnd_e h
    refine z_callV (M' := m_X12_expr) (t := 3) (i := 0) (k := 0) (As := []) (rest := []) kl_12_361 oy_X12_expr ⟨Nat.le_of_ble_eq_true rfl, Nat.le_of_ble_eq_true rfl⟩ rfl rfl rfl rfl (Nat.le_of_ble_eq_true rfl) rfl dX12_cond_66 (c_X12_expr hc) (fun v2 τ2 hq => ?_)
    obtain ⟨rfl, hτ⟩ := hq
    subst τ2
    change Z _ _ _ _ _ [.int (v)] _
    exact zb_X12_cond_69 hrc14 h
  · have h := (if_neg q).symm.trans h
    refine z_aload_n dX12_cond_41 rfl 0 rfl ?_
    obtain ⟨v, τ, hc, h⟩ := bnd_e h
    refine z_callV (M' := m_X12_pass) (t := 3) (i := 0) (k := 0) (As := []) (rest := []) kl_12_317 oy_X12_pass ⟨Nat.le_of_ble_eq_true rfl, Nat.le_of_ble_eq_true rfl⟩ rfl rfl rfl rfl (Nat.le_of_ble_eq_true rfl) rfl dX12_cond_42 (c_X12_pass hc) (fun v2 τ2 hq => ?_)
    obtain ⟨rfl, hτ⟩ := hq
    subst τ2
    change Z _ _ _ _ _ [.int (v)] _
    exact zb_X12_cond_45 hrc14 hrc32 h
def B_X12_cond_32 (rc14 : Int32 → Int32 → Mm → Option (Int32 × Mm)) (rc32 : Int32 → Int32 → Int32 → Mm → Option (Int32 × Mm)) (x1 : Int32) (x3 : Int32) (x4 : Int32) (σ : Mm) : Option (Int32 × Mm) := (bnd (F_X12_isWord 10 σ) (fun v τ => (F_X12_cond_38 rc14 rc32 x1 x3 x4 v τ)))
set_option maxRecDepth 20000 in
theorem zB_X12_cond_32 {S : Shp} {rc14 : Int32 → Int32 → Mm → Option (Int32 × Mm)} (hrc14 : ∀ {x1 : Int32} {x2 : Int32} {σ : Mm} {r : Int32 × Mm}, rc14 x1 x2 σ = some r → Z m_X12_cond S (Qi r) 14 [(0, .ref (sL S 3 0 0)), (1, .int (x1)), (2, .int (x2))] [] σ) {rc32 : Int32 → Int32 → Int32 → Mm → Option (Int32 × Mm)} (hrc32 : ∀ {x1 : Int32} {x3 : Int32} {x4 : Int32} {σ : Mm} {r : Int32 × Mm}, rc32 x1 x3 x4 σ = some r → Z m_X12_cond S (Qi r) 32 [(0, .ref (sL S 3 0 0)), (1, .int (x1)), (3, .int (x3)), (4, .int (x4))] [] σ) {x1 : Int32} {x3 : Int32} {x4 : Int32} {σ : Mm} {r : Int32 × Mm} (h : B_X12_cond_32 rc14 rc32 x1 x3 x4 σ = some r) : Z m_X12_cond S (Qi r) 32 [(0, .ref (sL S 3 0 0)), (1, .int (x1)), (3, .int (x3)), (4, .int (x4))] [] σ := by
  unfold B_X12_cond_32 at h
  refine z_aload_n dX12_cond_32 rfl 0 rfl ?_
  refine z_bipush (v := 10) dX12_cond_33 (by decide) ?_
  obtain ⟨v, τ, hc, h⟩ := bnd_e h
  refine z_callV (M' := m_X12_isWord) (t := 3) (i := 0) (k := 0) (As := [.int (10)]) (rest := []) kl_12_358 oy_X12_isWord ⟨Nat.le_of_ble_eq_true rfl, Nat.le_of_ble_eq_true rfl⟩ rfl rfl rfl rfl (Nat.le_of_ble_eq_true rfl) rfl dX12_cond_35 (c_X12_isWord hc) (fun v2 τ2 hq => ?_)
  obtain ⟨rfl, hτ⟩ := hq
  subst τ2
  change Z _ _ _ _ _ [.int (v)] _
  exact zb_X12_cond_38 hrc14 hrc32 h
def F_X12_cond_32 (rc14 : Int32 → Int32 → Mm → Option (Int32 × Mm)) : Nat → Int32 → Int32 → Int32 → Mm → Option (Int32 × Mm)
  | 0 => fun _ _ _ _ => none
  | n + 1 => B_X12_cond_32 rc14 (F_X12_cond_32 rc14 n)
theorem zl_X12_cond_32 {S : Shp} {rc14 : Int32 → Int32 → Mm → Option (Int32 × Mm)} (hrc14 : ∀ {x1 : Int32} {x2 : Int32} {σ : Mm} {r : Int32 × Mm}, rc14 x1 x2 σ = some r → Z m_X12_cond S (Qi r) 14 [(0, .ref (sL S 3 0 0)), (1, .int (x1)), (2, .int (x2))] [] σ) : ∀ (nn : Nat) {x1 : Int32} {x3 : Int32} {x4 : Int32} {σ : Mm} {r : Int32 × Mm}, F_X12_cond_32 rc14 nn x1 x3 x4 σ = some r → Z m_X12_cond S (Qi r) 32 [(0, .ref (sL S 3 0 0)), (1, .int (x1)), (3, .int (x3)), (4, .int (x4))] [] σ := by
  intro nn
  induction nn with
  | zero => intro x1 x3 x4 σ r h; cases h
  | succ nn ih => intro x1 x3 x4 σ r h; exact zB_X12_cond_32 hrc14 @ih h
def F_X12_cond_29 (rc14 : Int32 → Int32 → Mm → Option (Int32 × Mm)) (x1 : Int32) (x3 : Int32) (σ : Mm) : Option (Int32 × Mm) := (F_X12_cond_32 rc14 FU x1 x3 0 σ)
set_option maxRecDepth 20000 in
theorem zb_X12_cond_29 {S : Shp} {rc14 : Int32 → Int32 → Mm → Option (Int32 × Mm)} (hrc14 : ∀ {x1 : Int32} {x2 : Int32} {σ : Mm} {r : Int32 × Mm}, rc14 x1 x2 σ = some r → Z m_X12_cond S (Qi r) 14 [(0, .ref (sL S 3 0 0)), (1, .int (x1)), (2, .int (x2))] [] σ) {x1 : Int32} {x3 : Int32} {σ : Mm} {r : Int32 × Mm} (h : F_X12_cond_29 rc14 x1 x3 σ = some r) : Z m_X12_cond S (Qi r) 29 [(0, .ref (sL S 3 0 0)), (1, .int (x1)), (3, .int (x3))] [] σ := by
  unfold F_X12_cond_29 at h
  refine z_iconst (v := 0) dX12_cond_29 (by decide) ?_
  refine z_istore (lv' := [(0, .ref (sL S 3 0 0)), (1, .int (x1)), (3, .int (x3)), (4, .int (0))]) dX12_cond_30 (by decide) [1, 2, 3, 0] rfl ?_
  exact zl_X12_cond_32 hrc14 FU h
def B_X12_cond_14 (rc14 : Int32 → Int32 → Mm → Option (Int32 × Mm)) (x1 : Int32) (x2 : Int32) (σ : Mm) : Option (Int32 × Mm) := (if x2 = 0 then some (1, σ) else (if inb 1 5 = true then (F_X12_cond_29 rc14 x1 ((200 : Int32) + (mA σ 3 0 31 (1 : Int32).toNatClampNeg)) σ) else none))
set_option maxRecDepth 20000 in
theorem zB_X12_cond_14 {S : Shp} {rc14 : Int32 → Int32 → Mm → Option (Int32 × Mm)} (hrc14 : ∀ {x1 : Int32} {x2 : Int32} {σ : Mm} {r : Int32 × Mm}, rc14 x1 x2 σ = some r → Z m_X12_cond S (Qi r) 14 [(0, .ref (sL S 3 0 0)), (1, .int (x1)), (2, .int (x2))] [] σ) {x1 : Int32} {x2 : Int32} {σ : Mm} {r : Int32 × Mm} (h : B_X12_cond_14 rc14 x1 x2 σ = some r) : Z m_X12_cond S (Qi r) 14 [(0, .ref (sL S 3 0 0)), (1, .int (x1)), (2, .int (x2))] [] σ := by
  unfold B_X12_cond_14 at h
  refine z_iload_n dX12_cond_14 rfl 2 rfl ?_
  refine z_if_eq (tgt := 273) dX12_cond_15 (by decide) (fun q => ?_) (fun q => ?_)
  · have h := (if_pos q).symm.trans h
    refine z_iconst (v := 1) dX12_cond_273 (by decide) ?_
    cases h
    exact z_ireturn dX12_cond_274 rfl rfl ⟨rfl, rfl⟩
  · have h := (if_neg q).symm.trans h
    obtain ⟨g2, h⟩ := gd h
    refine z_sipush (v := 200) dX12_cond_18 (by decide) ?_
    refine z_aload_n dX12_cond_21 rfl 0 rfl ?_
    refine gf_12_106 rfl dX12_cond_22 ?_
    refine z_iconst (v := 1) dX12_cond_25 (by decide) ?_
    refine ia_3_31 (inb_in g2) dX12_cond_26 ?_
    refine z_iadd dX12_cond_27 ?_
    refine z_istore_n (lv' := [(0, .ref (sL S 3 0 0)), (1, .int (x1)), (2, .int (x2)), (3, .int ((200 : Int32) + (mA σ 3 0 31 (1 : Int32).toNatClampNeg)))]) dX12_cond_28 rfl (by decide) [1, 2, 3, 0] rfl ?_
    refine Z.lv [0, 1, 3] rfl ?_
    exact zb_X12_cond_29 hrc14 h
def F_X12_cond_14 : Nat → Int32 → Int32 → Mm → Option (Int32 × Mm)
  | 0 => fun _ _ _ => none
  | n + 1 => B_X12_cond_14 (F_X12_cond_14 n)
theorem zl_X12_cond_14 {S : Shp} : ∀ (nn : Nat) {x1 : Int32} {x2 : Int32} {σ : Mm} {r : Int32 × Mm}, F_X12_cond_14 nn x1 x2 σ = some r → Z m_X12_cond S (Qi r) 14 [(0, .ref (sL S 3 0 0)), (1, .int (x1)), (2, .int (x2))] [] σ := by
  intro nn
  induction nn with
  | zero => intro x1 x2 σ r h; cases h
  | succ nn ih => intro x1 x2 σ r h; exact zB_X12_cond_14 @ih h
def F_X12_cond_10 (σ : Mm) : Option (Int32 × Mm) := (F_X12_cond_14 FU 0 1 σ)
set_option maxRecDepth 20000 in
theorem zb_X12_cond_10 {S : Shp} {σ : Mm} {r : Int32 × Mm} (h : F_X12_cond_10 σ = some r) : Z m_X12_cond S (Qi r) 10 [(0, .ref (sL S 3 0 0))] [] σ := by
  unfold F_X12_cond_10 at h
  refine z_iconst (v := 0) dX12_cond_10 (by decide) ?_
  refine z_istore_n (lv' := [(0, .ref (sL S 3 0 0)), (1, .int (0))]) dX12_cond_11 rfl (by decide) [1, 0] rfl ?_
  refine z_iconst (v := 1) dX12_cond_12 (by decide) ?_
  refine z_istore_n (lv' := [(0, .ref (sL S 3 0 0)), (1, .int (0)), (2, .int (1))]) dX12_cond_13 rfl (by decide) [1, 2, 0] rfl ?_
  exact zl_X12_cond_14 FU h
def F_X12_cond (σ : Mm) : Option (Int32 × Mm) := (if inb 1 5 = true then (F_X12_cond_10 (setA σ 3 0 0 (upd (mA σ 3 0 0) 59 (mA σ 3 0 31 (1 : Int32).toNatClampNeg)))) else none)
set_option maxRecDepth 20000 in
theorem zb_X12_cond {S : Shp} {σ : Mm} {r : Int32 × Mm} (h : F_X12_cond σ = some r) : Z m_X12_cond S (Qi r) 0 [(0, .ref (sL S 3 0 0))] [] σ := by
  unfold F_X12_cond at h
  obtain ⟨g1, h⟩ := gd h
  refine z_aload_n dX12_cond_0 rfl 0 rfl ?_
  refine z_aload_n dX12_cond_1 rfl 0 rfl ?_
  refine gf_12_106 rfl dX12_cond_2 ?_
  refine z_iconst (v := 1) dX12_cond_5 (by decide) ?_
  refine ia_3_31 (inb_in g1) dX12_cond_6 ?_
  refine pf_12_355 rfl dX12_cond_7 ?_
  exact zb_X12_cond_10 h
/-- SkyStonesModel.cond()Z -/
theorem c_X12_cond {S : Shp} {σ : Mm} {r : Int32 × Mm} (h : F_X12_cond σ = some r) : Ct m_X12_cond S [.ref (sL S 3 0 0)] σ (Qi r) := Ct.of (by decide +kernel) (Nat.le_of_ble_eq_true rfl) (zb_X12_cond h)
def F_X12_count_143 (s0 : Int32) (s1 : Int32) (σ : Mm) : Option (Int32 × Mm) := (if inb 4 5 = true then (if (mA σ 3 0 6 (4 : Int32).toNatClampNeg) = 0 then some ((s1 + s0) + (0 : Int32), σ) else some ((s1 + s0) + (1 : Int32), σ)) else none)
set_option maxRecDepth 20000 in
theorem zb_X12_count_143 {S : Shp} {s0 : Int32} {s1 : Int32} {σ : Mm} {r : Int32 × Mm} (h : F_X12_count_143 s0 s1 σ = some r) : Z m_X12_count S (Qi r) 143 [(0, .ref (sL S 3 0 0))] [.int (s0), .int (s1)] σ := by
  unfold F_X12_count_143 at h
  obtain ⟨g20, h⟩ := gd h
  refine z_iadd dX12_count_143 ?_
  refine z_aload_n dX12_count_144 rfl 0 rfl ?_
  refine gf_12_30 rfl dX12_count_145 ?_
  refine z_iconst (v := 4) dX12_count_148 (by decide) ?_
  refine ia_3_6 (inb_in g20) dX12_count_149 ?_
  refine z_if_eq (tgt := 157) dX12_count_150 (by decide) (fun q => ?_) (fun q => ?_)
  · have h := (if_pos q).symm.trans h
    refine z_iconst (v := 0) dX12_count_157 (by decide) ?_
    refine z_iadd dX12_count_158 ?_
    cases h
    exact z_ireturn dX12_count_159 rfl rfl ⟨rfl, rfl⟩
  · have h := (if_neg q).symm.trans h
    refine z_iconst (v := 1) dX12_count_153 (by decide) ?_
    refine z_goto (tgt := 158) dX12_count_154 (by decide) ?_
    refine z_iadd dX12_count_158 ?_
    cases h
    exact z_ireturn dX12_count_159 rfl rfl ⟨rfl, rfl⟩
def F_X12_count_129 (s0 : Int32) (σ : Mm) : Option (Int32 × Mm) := (if inb 3 5 = true then (if (mA σ 3 0 6 (3 : Int32).toNatClampNeg) = 0 then (F_X12_count_143 0 s0 σ) else (F_X12_count_143 1 s0 σ)) else none)
set_option maxRecDepth 20000 in
theorem zb_X12_count_129 {S : Shp} {s0 : Int32} {σ : Mm} {r : Int32 × Mm} (h : F_X12_count_129 s0 σ = some r) : Z m_X12_count S (Qi r) 129 [(0, .ref (sL S 3 0 0))] [.int (s0)] σ := by
  unfold F_X12_count_129 at h
  obtain ⟨g19, h⟩ := gd h
  refine z_aload_n dX12_count_129 rfl 0 rfl ?_
  refine gf_12_30 rfl dX12_count_130 ?_
  refine z_iconst (v := 3) dX12_count_133 (by decide) ?_
  refine ia_3_6 (inb_in g19) dX12_count_134 ?_
  refine z_if_eq (tgt := 142) dX12_count_135 (by decide) (fun q => ?_) (fun q => ?_)
  · have h := (if_pos q).symm.trans h
    refine z_iconst (v := 0) dX12_count_142 (by decide) ?_
    exact zb_X12_count_143 h
  · have h := (if_neg q).symm.trans h
    refine z_iconst (v := 1) dX12_count_138 (by decide) ?_
    refine z_goto (tgt := 143) dX12_count_139 (by decide) ?_
    exact zb_X12_count_143 h
def F_X12_count (x1 : Int32) (σ : Mm) : Option (Int32 × Mm) := (if x1 = 0 then (if inb 0 5 = true then some (mA σ 3 0 8 (0 : Int32).toNatClampNeg, σ) else none) else (if x1 = 1 then (if inb 0 5 = true then some (mA σ 3 0 14 (0 : Int32).toNatClampNeg, σ) else none) else (if x1 = 2 then (if inb 0 5 = true then some (mA σ 3 0 17 (0 : Int32).toNatClampNeg, σ) else none) else (if x1 = 3 then (if inb 0 5 = true then some (mA σ 3 0 21 (0 : Int32).toNatClampNeg, σ) else none) else (if x1 = 4 then (if inb 0 5 = true then some (mA σ 3 0 25 (0 : Int32).toNatClampNeg, σ) else none) else (if x1 = 5 then (if inb 0 5 = true then some (mA σ 3 0 7 (0 : Int32).toNatClampNeg, σ) else none) else (if x1 = 6 then (if inb 0 5 = true then some (mA σ 3 0 38 (0 : Int32).toNatClampNeg, σ) else none) else (if x1 = 7 then some (mA σ 3 0 0 52, σ) else (if x1 = 8 then some (mA σ 3 0 0 0, σ) else (if x1 = 9 then (if inb 2 5 = true then (if (mA σ 3 0 6 (2 : Int32).toNatClampNeg) = 0 then (F_X12_count_129 0 σ) else (F_X12_count_129 1 σ)) else none) else some ((-1), σ)))))))))))
set_option maxRecDepth 20000 in
theorem zb_X12_count {S : Shp} {x1 : Int32} {σ : Mm} {r : Int32 × Mm} (h : F_X12_count x1 σ = some r) : Z m_X12_count S (Qi r) 0 [(0, .ref (sL S 3 0 0)), (1, .int (x1))] [] σ := by
  unfold F_X12_count at h
  refine z_iload_n dX12_count_0 rfl 1 rfl ?_
  by_cases g1 : x1 = 0
  · have h := (if_pos g1).symm.trans h
    obtain ⟨g18, h⟩ := gd h
    refine z_tableIn (tgt := 56) (off := 55) dX12_count_1 (by rw [g1]; decide) (by rw [g1]; decide) (by rw [g1]; rfl) (by decide) ?_
    refine z_aload_n dX12_count_56 rfl 0 rfl ?_
    refine gf_12_37 rfl dX12_count_57 ?_
    refine z_iconst (v := 0) dX12_count_60 (by decide) ?_
    refine ia_3_8 (inb_in g18) dX12_count_61 ?_
    cases h
    exact z_ireturn dX12_count_62 rfl rfl ⟨rfl, rfl⟩
  · have h := (if_neg g1).symm.trans h
    by_cases g2 : x1 = 1
    · have h := (if_pos g2).symm.trans h
      obtain ⟨g17, h⟩ := gd h
      refine z_tableIn (tgt := 63) (off := 62) dX12_count_1 (by rw [g2]; decide) (by rw [g2]; decide) (by rw [g2]; rfl) (by decide) ?_
      refine z_aload_n dX12_count_63 rfl 0 rfl ?_
      refine gf_12_55 rfl dX12_count_64 ?_
      refine z_iconst (v := 0) dX12_count_67 (by decide) ?_
      refine ia_3_14 (inb_in g17) dX12_count_68 ?_
      cases h
      exact z_ireturn dX12_count_69 rfl rfl ⟨rfl, rfl⟩
    · have h := (if_neg g2).symm.trans h
      by_cases g3 : x1 = 2
      · have h := (if_pos g3).symm.trans h
        obtain ⟨g16, h⟩ := gd h
        refine z_tableIn (tgt := 70) (off := 69) dX12_count_1 (by rw [g3]; decide) (by rw [g3]; decide) (by rw [g3]; rfl) (by decide) ?_
        refine z_aload_n dX12_count_70 rfl 0 rfl ?_
        refine gf_12_64 rfl dX12_count_71 ?_
        refine z_iconst (v := 0) dX12_count_74 (by decide) ?_
        refine ia_3_17 (inb_in g16) dX12_count_75 ?_
        cases h
        exact z_ireturn dX12_count_76 rfl rfl ⟨rfl, rfl⟩
      · have h := (if_neg g3).symm.trans h
        by_cases g4 : x1 = 3
        · have h := (if_pos g4).symm.trans h
          obtain ⟨g15, h⟩ := gd h
          refine z_tableIn (tgt := 77) (off := 76) dX12_count_1 (by rw [g4]; decide) (by rw [g4]; decide) (by rw [g4]; rfl) (by decide) ?_
          refine z_aload_n dX12_count_77 rfl 0 rfl ?_
          refine gf_12_76 rfl dX12_count_78 ?_
          refine z_iconst (v := 0) dX12_count_81 (by decide) ?_
          refine ia_3_21 (inb_in g15) dX12_count_82 ?_
          cases h
          exact z_ireturn dX12_count_83 rfl rfl ⟨rfl, rfl⟩
        · have h := (if_neg g4).symm.trans h
          by_cases g5 : x1 = 4
          · have h := (if_pos g5).symm.trans h
            obtain ⟨g14, h⟩ := gd h
            refine z_tableIn (tgt := 84) (off := 83) dX12_count_1 (by rw [g5]; decide) (by rw [g5]; decide) (by rw [g5]; rfl) (by decide) ?_
            refine z_aload_n dX12_count_84 rfl 0 rfl ?_
            refine gf_12_88 rfl dX12_count_85 ?_
            refine z_iconst (v := 0) dX12_count_88 (by decide) ?_
            refine ia_3_25 (inb_in g14) dX12_count_89 ?_
            cases h
            exact z_ireturn dX12_count_90 rfl rfl ⟨rfl, rfl⟩
          · have h := (if_neg g5).symm.trans h
            by_cases g6 : x1 = 5
            · have h := (if_pos g6).symm.trans h
              obtain ⟨g13, h⟩ := gd h
              refine z_tableIn (tgt := 91) (off := 90) dX12_count_1 (by rw [g6]; decide) (by rw [g6]; decide) (by rw [g6]; rfl) (by decide) ?_
              refine z_aload_n dX12_count_91 rfl 0 rfl ?_
              refine gf_12_34 rfl dX12_count_92 ?_
              refine z_iconst (v := 0) dX12_count_95 (by decide) ?_
              refine ia_3_7 (inb_in g13) dX12_count_96 ?_
              cases h
              exact z_ireturn dX12_count_97 rfl rfl ⟨rfl, rfl⟩
            · have h := (if_neg g6).symm.trans h
              by_cases g7 : x1 = 6
              · have h := (if_pos g7).symm.trans h
                obtain ⟨g12, h⟩ := gd h
                refine z_tableIn (tgt := 98) (off := 97) dX12_count_1 (by rw [g7]; decide) (by rw [g7]; decide) (by rw [g7]; rfl) (by decide) ?_
                refine z_aload_n dX12_count_98 rfl 0 rfl ?_
                refine gf_12_127 rfl dX12_count_99 ?_
                refine z_iconst (v := 0) dX12_count_102 (by decide) ?_
                refine ia_3_38 (inb_in g12) dX12_count_103 ?_
                cases h
                exact z_ireturn dX12_count_104 rfl rfl ⟨rfl, rfl⟩
              · have h := (if_neg g7).symm.trans h
                by_cases g8 : x1 = 7
                · have h := (if_pos g8).symm.trans h
                  refine z_tableIn (tgt := 105) (off := 104) dX12_count_1 (by rw [g8]; decide) (by rw [g8]; decide) (by rw [g8]; rfl) (by decide) ?_
                  refine z_aload_n dX12_count_105 rfl 0 rfl ?_
                  refine gf_12_513 rfl dX12_count_106 ?_
                  cases h
                  exact z_ireturn dX12_count_109 rfl rfl ⟨rfl, rfl⟩
                · have h := (if_neg g8).symm.trans h
                  by_cases g9 : x1 = 8
                  · have h := (if_pos g9).symm.trans h
                    refine z_tableIn (tgt := 110) (off := 109) dX12_count_1 (by rw [g9]; decide) (by rw [g9]; decide) (by rw [g9]; rfl) (by decide) ?_
                    refine z_aload_n dX12_count_110 rfl 0 rfl ?_
                    refine gf_12_222 rfl dX12_count_111 ?_
                    cases h
                    exact z_ireturn dX12_count_114 rfl rfl ⟨rfl, rfl⟩
                  · have h := (if_neg g9).symm.trans h
                    by_cases g10 : x1 = 9
                    · have h := (if_pos g10).symm.trans h
                      obtain ⟨g11, h⟩ := gd h
                      refine z_tableIn (tgt := 115) (off := 114) dX12_count_1 (by rw [g10]; decide) (by rw [g10]; decide) (by rw [g10]; rfl) (by decide) ?_
                      refine z_aload_n dX12_count_115 rfl 0 rfl ?_
                      refine gf_12_30 rfl dX12_count_116 ?_
                      refine z_iconst (v := 2) dX12_count_119 (by decide) ?_
                      refine ia_3_6 (inb_in g11) dX12_count_120 ?_
                      refine z_if_eq (tgt := 128) dX12_count_121 (by decide) (fun q => ?_) (fun q => ?_)
                      · have h := (if_pos q).symm.trans h
                        refine z_iconst (v := 0) dX12_count_128 (by decide) ?_
                        refine Z.lv [0] rfl ?_
                        exact zb_X12_count_129 h
                      · have h := (if_neg q).symm.trans h
                        refine z_iconst (v := 1) dX12_count_124 (by decide) ?_
                        refine z_goto (tgt := 129) dX12_count_125 (by decide) ?_
                        refine Z.lv [0] rfl ?_
                        exact zb_X12_count_129 h
                    · have h := (if_neg g10).symm.trans h
                      refine z_tableOut (tgt := 160) dX12_count_1 (by have eg1 := nei (n := 0) (by decide) g1; have eg2 := nei (n := 1) (by decide) g2; have eg3 := nei (n := 2) (by decide) g3; have eg4 := nei (n := 3) (by decide) g4; have eg5 := nei (n := 4) (by decide) g5; have eg6 := nei (n := 5) (by decide) g6; have eg7 := nei (n := 6) (by decide) g7; have eg8 := nei (n := 7) (by decide) g8; have eg9 := nei (n := 8) (by decide) g9; have eg10 := nei (n := 9) (by decide) g10; omega) (by decide) ?_
                      refine z_iconst (v := (-1)) dX12_count_160 (by decide) ?_
                      cases h
                      exact z_ireturn dX12_count_161 rfl rfl ⟨rfl, rfl⟩
/-- SkyStonesModel.count(I)I -/
theorem c_X12_count {S : Shp} {x1 : Int32} {σ : Mm} {r : Int32 × Mm} (h : F_X12_count x1 σ = some r) : Ct m_X12_count S [.ref (sL S 3 0 0), .int (x1)] σ (Qi r) := Ct.of (by decide +kernel) (Nat.le_of_ble_eq_true rfl) (zb_X12_count h)
def f_X12_counts (x1 : Int32) (x2 : Int32) (x3 : Int32) (x4 : Int32) (x5 : Int32) (σ : Mm) : Int32 := (if (f_X12_isIn x1 1 100) = 0 then (-1) else (if (f_X12_isIn x2 1 100) = 0 then (-1) else (if (f_X12_isIn x3 1 100) = 0 then (-1) else (if (f_X12_isIn x4 1 9999) = 0 then (-1) else (if (f_X12_isIn x5 0 99) = 0 then (-1) else (if (f_X12_isCounting x1 x2 x3 x4 x5) = 0 then 0 else 1))))))
set_option maxRecDepth 20000 in
theorem zb_X12_counts {S : Shp} {x1 : Int32} {x2 : Int32} {x3 : Int32} {x4 : Int32} {x5 : Int32} {σ : Mm} {r : Int32} (hp : okP σ = true) (h : f_X12_counts x1 x2 x3 x4 x5 σ = r) : Z m_X12_counts S (Qi (r, σ)) 0 [(0, .ref (sL S 3 0 0)), (1, .int (x1)), (2, .int (x2)), (3, .int (x3)), (4, .int (x4)), (5, .int (x5))] [] σ := by
  unfold f_X12_counts at h
  refine z_iload_n dX12_counts_0 rfl 1 rfl ?_
  refine z_iconst (v := 1) dX12_counts_1 (by decide) ?_
  refine z_bipush (v := 100) dX12_counts_2 (by decide) ?_
  refine z_callS (M' := m_X12_isIn) (As := [.int (x1), .int (1), .int (100)]) (rest := []) kl_12_407 oy_X12_isIn ⟨Nat.le_of_ble_eq_true rfl, Nat.le_of_ble_eq_true rfl⟩ rfl (Nat.le_of_ble_eq_true rfl) rfl dX12_counts_4 (c_X12_isIn rfl) (fun v τ hq => ?_)
  obtain ⟨rfl, hτ⟩ := hq
  subst τ
  change Z _ _ _ _ _ [.int (f_X12_isIn x1 1 100)] _
  refine z_if_eq (tgt := 53) dX12_counts_7 (by decide) (fun q => ?_) (fun q => ?_)
  · have h := (if_pos q).symm.trans h
    refine z_iconst (v := (-1)) dX12_counts_53 (by decide) ?_
    subst h
    exact z_ireturn dX12_counts_54 rfl rfl ⟨rfl, rfl⟩
  · have h := (if_neg q).symm.trans h
    refine z_iload_n dX12_counts_10 rfl 2 rfl ?_
    refine z_iconst (v := 1) dX12_counts_11 (by decide) ?_
    refine z_bipush (v := 100) dX12_counts_12 (by decide) ?_
    refine z_callS (M' := m_X12_isIn) (As := [.int (x2), .int (1), .int (100)]) (rest := []) kl_12_407 oy_X12_isIn ⟨Nat.le_of_ble_eq_true rfl, Nat.le_of_ble_eq_true rfl⟩ rfl (Nat.le_of_ble_eq_true rfl) rfl dX12_counts_14 (c_X12_isIn rfl) (fun v τ hq => ?_)
    obtain ⟨rfl, hτ⟩ := hq
    subst τ
    change Z _ _ _ _ _ [.int (f_X12_isIn x2 1 100)] _
    refine z_if_eq (tgt := 53) dX12_counts_17 (by decide) (fun q => ?_) (fun q => ?_)
    · have h := (if_pos q).symm.trans h
      refine z_iconst (v := (-1)) dX12_counts_53 (by decide) ?_
      subst h
      exact z_ireturn dX12_counts_54 rfl rfl ⟨rfl, rfl⟩
    · have h := (if_neg q).symm.trans h
      refine z_iload_n dX12_counts_20 rfl 3 rfl ?_
      refine z_iconst (v := 1) dX12_counts_21 (by decide) ?_
      refine z_bipush (v := 100) dX12_counts_22 (by decide) ?_
      refine z_callS (M' := m_X12_isIn) (As := [.int (x3), .int (1), .int (100)]) (rest := []) kl_12_407 oy_X12_isIn ⟨Nat.le_of_ble_eq_true rfl, Nat.le_of_ble_eq_true rfl⟩ rfl (Nat.le_of_ble_eq_true rfl) rfl dX12_counts_24 (c_X12_isIn rfl) (fun v τ hq => ?_)
      obtain ⟨rfl, hτ⟩ := hq
      subst τ
      change Z _ _ _ _ _ [.int (f_X12_isIn x3 1 100)] _
      refine z_if_eq (tgt := 53) dX12_counts_27 (by decide) (fun q => ?_) (fun q => ?_)
      · have h := (if_pos q).symm.trans h
        refine z_iconst (v := (-1)) dX12_counts_53 (by decide) ?_
        subst h
        exact z_ireturn dX12_counts_54 rfl rfl ⟨rfl, rfl⟩
      · have h := (if_neg q).symm.trans h
        refine z_iload dX12_counts_30 4 rfl ?_
        refine z_iconst (v := 1) dX12_counts_32 (by decide) ?_
        refine z_sipush (v := 9999) dX12_counts_33 (by decide) ?_
        refine z_callS (M' := m_X12_isIn) (As := [.int (x4), .int (1), .int (9999)]) (rest := []) kl_12_407 oy_X12_isIn ⟨Nat.le_of_ble_eq_true rfl, Nat.le_of_ble_eq_true rfl⟩ rfl (Nat.le_of_ble_eq_true rfl) rfl dX12_counts_36 (c_X12_isIn rfl) (fun v τ hq => ?_)
        obtain ⟨rfl, hτ⟩ := hq
        subst τ
        change Z _ _ _ _ _ [.int (f_X12_isIn x4 1 9999)] _
        refine z_if_eq (tgt := 53) dX12_counts_39 (by decide) (fun q => ?_) (fun q => ?_)
        · have h := (if_pos q).symm.trans h
          refine z_iconst (v := (-1)) dX12_counts_53 (by decide) ?_
          subst h
          exact z_ireturn dX12_counts_54 rfl rfl ⟨rfl, rfl⟩
        · have h := (if_neg q).symm.trans h
          refine z_iload dX12_counts_42 5 rfl ?_
          refine z_iconst (v := 0) dX12_counts_44 (by decide) ?_
          refine z_bipush (v := 99) dX12_counts_45 (by decide) ?_
          refine z_callS (M' := m_X12_isIn) (As := [.int (x5), .int (0), .int (99)]) (rest := []) kl_12_407 oy_X12_isIn ⟨Nat.le_of_ble_eq_true rfl, Nat.le_of_ble_eq_true rfl⟩ rfl (Nat.le_of_ble_eq_true rfl) rfl dX12_counts_47 (c_X12_isIn rfl) (fun v τ hq => ?_)
          obtain ⟨rfl, hτ⟩ := hq
          subst τ
          change Z _ _ _ _ _ [.int (f_X12_isIn x5 0 99)] _
          refine z_if_ne (tgt := 55) dX12_counts_50 (by decide) (fun q => ?_) (fun q => ?_)
          · have h := (if_neg q).symm.trans h
            refine z_iload_n dX12_counts_55 rfl 1 rfl ?_
            refine z_iload_n dX12_counts_56 rfl 2 rfl ?_
            refine z_iload_n dX12_counts_57 rfl 3 rfl ?_
            refine z_iload dX12_counts_58 4 rfl ?_
            refine z_iload dX12_counts_60 5 rfl ?_
            refine z_callS (M' := m_X12_isCounting) (As := [.int (x1), .int (x2), .int (x3), .int (x4), .int (x5)]) (rest := []) kl_12_548 oy_X12_isCounting ⟨Nat.le_of_ble_eq_true rfl, Nat.le_of_ble_eq_true rfl⟩ rfl (Nat.le_of_ble_eq_true rfl) rfl dX12_counts_62 (c_X12_isCounting rfl) (fun v τ hq => ?_)
            obtain ⟨rfl, hτ⟩ := hq
            subst τ
            change Z _ _ _ _ _ [.int (f_X12_isCounting x1 x2 x3 x4 x5)] _
            refine z_if_eq (tgt := 72) dX12_counts_65 (by decide) (fun q => ?_) (fun q => ?_)
            · have h := (if_pos q).symm.trans h
              refine z_iconst (v := 0) dX12_counts_72 (by decide) ?_
              subst h
              exact z_ireturn dX12_counts_73 rfl rfl ⟨rfl, rfl⟩
            · have h := (if_neg q).symm.trans h
              refine z_iconst (v := 1) dX12_counts_68 (by decide) ?_
              refine z_goto (tgt := 73) dX12_counts_69 (by decide) ?_
              subst h
              exact z_ireturn dX12_counts_73 rfl rfl ⟨rfl, rfl⟩
          · have h := (if_pos q).symm.trans h
            refine z_iconst (v := (-1)) dX12_counts_53 (by decide) ?_
            subst h
            exact z_ireturn dX12_counts_54 rfl rfl ⟨rfl, rfl⟩
/-- SkyStonesModel.counts(IIIII)I -/
theorem c_X12_counts {S : Shp} {x1 : Int32} {x2 : Int32} {x3 : Int32} {x4 : Int32} {x5 : Int32} {σ : Mm} {r : Int32} (hp : okP σ = true) (h : f_X12_counts x1 x2 x3 x4 x5 σ = r) : Ct m_X12_counts S [.ref (sL S 3 0 0), .int (x1), .int (x2), .int (x3), .int (x4), .int (x5)] σ (Qi (r, σ)) := Ct.of (by decide +kernel) (Nat.le_of_ble_eq_true rfl) (zb_X12_counts hp h)
def F_X12_isThing (x1 : Int32) (σ : Mm) : Option (Int32 × Mm) := (if x1 < 0 then some (0, σ) else (if inb 0 5 = true then (if (mA σ 3 0 8 (0 : Int32).toNatClampNeg) ≤ x1 then some (0, σ) else some (1, σ)) else none))
set_option maxRecDepth 20000 in
theorem zb_X12_isThing {S : Shp} {x1 : Int32} {σ : Mm} {r : Int32 × Mm} (h : F_X12_isThing x1 σ = some r) : Z m_X12_isThing S (Qi r) 0 [(0, .ref (sL S 3 0 0)), (1, .int (x1))] [] σ := by
  unfold F_X12_isThing at h
  refine z_iload_n dX12_isThing_0 rfl 1 rfl ?_
  refine z_if_lt (tgt := 18) dX12_isThing_1 (by decide) (fun q => ?_) (fun q => ?_)
  · have h := (if_pos q).symm.trans h
    refine z_iconst (v := 0) dX12_isThing_18 (by decide) ?_
    cases h
    exact z_ireturn dX12_isThing_19 rfl rfl ⟨rfl, rfl⟩
  · have h := (if_neg q).symm.trans h
    obtain ⟨g1, h⟩ := gd h
    refine z_iload_n dX12_isThing_4 rfl 1 rfl ?_
    refine z_aload_n dX12_isThing_5 rfl 0 rfl ?_
    refine gf_12_37 rfl dX12_isThing_6 ?_
    refine z_iconst (v := 0) dX12_isThing_9 (by decide) ?_
    refine ia_3_8 (inb_in g1) dX12_isThing_10 ?_
    refine z_icmp_ge (tgt := 18) dX12_isThing_11 (by decide) (fun q => ?_) (fun q => ?_)
    · have h := (if_pos q).symm.trans h
      refine z_iconst (v := 0) dX12_isThing_18 (by decide) ?_
      cases h
      exact z_ireturn dX12_isThing_19 rfl rfl ⟨rfl, rfl⟩
    · have h := (if_neg q).symm.trans h
      refine z_iconst (v := 1) dX12_isThing_14 (by decide) ?_
      refine z_goto (tgt := 19) dX12_isThing_15 (by decide) ?_
      cases h
      exact z_ireturn dX12_isThing_19 rfl rfl ⟨rfl, rfl⟩
/-- SkyStonesModel.isThing(I)Z -/
theorem c_X12_isThing {S : Shp} {x1 : Int32} {σ : Mm} {r : Int32 × Mm} (h : F_X12_isThing x1 σ = some r) : Ct m_X12_isThing S [.ref (sL S 3 0 0), .int (x1)] σ (Qi r) := Ct.of (by decide +kernel) (Nat.le_of_ble_eq_true rfl) (zb_X12_isThing h)
def F_X12_date_27 (s0 : Int32) (σ : Mm) : Option (Int32 × Mm) := some (s0, σ)
set_option maxRecDepth 20000 in
theorem zb_X12_date_27 {S : Shp} {s0 : Int32} {σ : Mm} {r : Int32 × Mm} (h : F_X12_date_27 s0 σ = some r) : Z m_X12_date S (Qi r) 27 [] [.int (s0)] σ := by
  unfold F_X12_date_27 at h
  refine z_goto (tgt := 31) dX12_date_27 (by decide) ?_
  cases h
  exact z_ireturn dX12_date_31 rfl rfl ⟨rfl, rfl⟩
def F_X12_date_5 (x1 : Int32) (x2 : Int32) (s0 : Int32) (σ : Mm) : Option (Int32 × Mm) := (if s0 = 0 then some ((-1), σ) else (if (f_X12_isIn x2 0 9999) = 0 then some ((-1), σ) else (bnd (F_X12_fact 3 x1 x2 0 σ) (fun v τ => (F_X12_date_27 v τ)))))
set_option maxRecDepth 20000 in
theorem zb_X12_date_5 {S : Shp} {x1 : Int32} {x2 : Int32} {s0 : Int32} {σ : Mm} {r : Int32 × Mm} (h : F_X12_date_5 x1 x2 s0 σ = some r) : Z m_X12_date S (Qi r) 5 [(0, .ref (sL S 3 0 0)), (1, .int (x1)), (2, .int (x2))] [.int (s0)] σ := by
  unfold F_X12_date_5 at h
  refine z_if_eq (tgt := 30) dX12_date_5 (by decide) (fun q => ?_) (fun q => ?_)
  · have h := (if_pos q).symm.trans h
    refine z_iconst (v := (-1)) dX12_date_30 (by decide) ?_
    cases h
    exact z_ireturn dX12_date_31 rfl rfl ⟨rfl, rfl⟩
  · have h := (if_neg q).symm.trans h
    refine z_iload_n dX12_date_8 rfl 2 rfl ?_
    refine z_iconst (v := 0) dX12_date_9 (by decide) ?_
    refine z_sipush (v := 9999) dX12_date_10 (by decide) ?_
    refine z_callS (M' := m_X12_isIn) (As := [.int (x2), .int (0), .int (9999)]) (rest := []) kl_12_407 oy_X12_isIn ⟨Nat.le_of_ble_eq_true rfl, Nat.le_of_ble_eq_true rfl⟩ rfl (Nat.le_of_ble_eq_true rfl) rfl dX12_date_13 (c_X12_isIn rfl) (fun v τ hq => ?_)
    obtain ⟨rfl, hτ⟩ := hq
    subst τ
    change Z _ _ _ _ _ [.int (f_X12_isIn x2 0 9999)] _
    refine z_if_eq (tgt := 30) dX12_date_16 (by decide) (fun q => ?_) (fun q => ?_)
    · have h := (if_pos q).symm.trans h
      refine z_iconst (v := (-1)) dX12_date_30 (by decide) ?_
      cases h
      exact z_ireturn dX12_date_31 rfl rfl ⟨rfl, rfl⟩
    · have h := (if_neg q).symm.trans h
      refine z_aload_n dX12_date_19 rfl 0 rfl ?_
      refine z_iconst (v := 3) dX12_date_20 (by decide) ?_
      refine z_iload_n dX12_date_21 rfl 1 rfl ?_
      refine z_iload_n dX12_date_22 rfl 2 rfl ?_
      refine z_iconst (v := 0) dX12_date_23 (by decide) ?_
      obtain ⟨v, τ, hc, h⟩ := bnd_e h
      refine z_callV (M' := m_X12_fact) (t := 3) (i := 0) (k := 0) (As := [.int (3), .int (x1), .int (x2), .int (0)]) (rest := []) kl_12_411 oy_X12_fact ⟨Nat.le_of_ble_eq_true rfl, Nat.le_of_ble_eq_true rfl⟩ rfl rfl rfl rfl (Nat.le_of_ble_eq_true rfl) rfl dX12_date_24 (c_X12_fact hc) (fun v2 τ2 hq => ?_)
      obtain ⟨rfl, hτ⟩ := hq
      subst τ2
      change Z _ _ _ _ _ [.int (v)] _
      refine Z.lv [] rfl ?_
      exact zb_X12_date_27 h
def F_X12_date (x1 : Int32) (x2 : Int32) (σ : Mm) : Option (Int32 × Mm) := (bnd (F_X12_isThing x1 σ) (fun v τ => (F_X12_date_5 x1 x2 v τ)))
set_option maxRecDepth 20000 in
theorem zb_X12_date {S : Shp} {x1 : Int32} {x2 : Int32} {σ : Mm} {r : Int32 × Mm} (h : F_X12_date x1 x2 σ = some r) : Z m_X12_date S (Qi r) 0 [(0, .ref (sL S 3 0 0)), (1, .int (x1)), (2, .int (x2))] [] σ := by
  unfold F_X12_date at h
  refine z_aload_n dX12_date_0 rfl 0 rfl ?_
  refine z_iload_n dX12_date_1 rfl 1 rfl ?_
  obtain ⟨v, τ, hc, h⟩ := bnd_e h
  refine z_callV (M' := m_X12_isThing) (t := 3) (i := 0) (k := 0) (As := [.int (x1)]) (rest := []) kl_12_415 oy_X12_isThing ⟨Nat.le_of_ble_eq_true rfl, Nat.le_of_ble_eq_true rfl⟩ rfl rfl rfl rfl (Nat.le_of_ble_eq_true rfl) rfl dX12_date_2 (c_X12_isThing hc) (fun v2 τ2 hq => ?_)
  obtain ⟨rfl, hτ⟩ := hq
  subst τ2
  change Z _ _ _ _ _ [.int (v)] _
  exact zb_X12_date_5 h
/-- SkyStonesModel.date(II)I -/
theorem c_X12_date {S : Shp} {x1 : Int32} {x2 : Int32} {σ : Mm} {r : Int32 × Mm} (h : F_X12_date x1 x2 σ = some r) : Ct m_X12_date S [.ref (sL S 3 0 0), .int (x1), .int (x2)] σ (Qi r) := Ct.of (by decide +kernel) (Nat.le_of_ble_eq_true rfl) (zb_X12_date h)
def F_X12_degree_34 (σ : Mm) : Option (Int32 × Mm) := some ((-1), σ)
set_option maxRecDepth 20000 in
theorem zb_X12_degree_34 {S : Shp} {σ : Mm} {r : Int32 × Mm} (h : F_X12_degree_34 σ = some r) : Z m_X12_degree S (Qi r) 34 [] [] σ := by
  unfold F_X12_degree_34 at h
  refine z_iconst (v := (-1)) dX12_degree_34 (by decide) ?_
  refine z_goto (tgt := 43) dX12_degree_35 (by decide) ?_
  cases h
  exact z_ireturn dX12_degree_43 rfl rfl ⟨rfl, rfl⟩
def F_X12_degree_43 (s0 : Int32) (σ : Mm) : Option (Int32 × Mm) := some (s0, σ)
set_option maxRecDepth 20000 in
theorem zb_X12_degree_43 {S : Shp} {s0 : Int32} {σ : Mm} {r : Int32 × Mm} (h : F_X12_degree_43 s0 σ = some r) : Z m_X12_degree S (Qi r) 43 [] [.int (s0)] σ := by
  unfold F_X12_degree_43 at h
  cases h
  exact z_ireturn dX12_degree_43 rfl rfl ⟨rfl, rfl⟩
def F_X12_degree_38 (x1 : Int32) (x2 : Int32) (σ : Mm) : Option (Int32 × Mm) := (bnd (F_X12_degreeOf x1 x2 σ) (fun v τ => (F_X12_degree_43 v τ)))
set_option maxRecDepth 20000 in
theorem zb_X12_degree_38 {S : Shp} {x1 : Int32} {x2 : Int32} {σ : Mm} {r : Int32 × Mm} (h : F_X12_degree_38 x1 x2 σ = some r) : Z m_X12_degree S (Qi r) 38 [(1, .int (x1)), (2, .int (x2))] [] σ := by
  unfold F_X12_degree_38 at h
  refine z_iload_n dX12_degree_38 rfl 0 rfl ?_
  refine z_iload_n dX12_degree_39 rfl 1 rfl ?_
  obtain ⟨v, τ, hc, h⟩ := bnd_e h
  refine z_callS (M' := m_X12_degreeOf) (As := [.int (x1), .int (x2)]) (rest := []) kl_12_431 oy_X12_degreeOf ⟨Nat.le_of_ble_eq_true rfl, Nat.le_of_ble_eq_true rfl⟩ rfl (Nat.le_of_ble_eq_true rfl) rfl dX12_degree_40 (c_X12_degreeOf hc) (fun v2 τ2 hq => ?_)
  obtain ⟨rfl, hτ⟩ := hq
  subst τ2
  change Z _ _ _ _ _ [.int (v)] _
  refine Z.lv [] rfl ?_
  exact zb_X12_degree_43 h
def F_X12_degree (x1 : Int32) (x2 : Int32) (σ : Mm) : Option (Int32 × Mm) := (if (f_X12_isIn x1 ((-9999)) 9999) = 0 then (F_X12_degree_34 σ) else (if (f_X12_isIn x2 ((-9999)) 9999) = 0 then (F_X12_degree_34 σ) else (if x1 = 0 then (if x2 = 0 then (F_X12_degree_34 σ) else (F_X12_degree_38 x1 x2 σ)) else (F_X12_degree_38 x1 x2 σ))))
set_option maxRecDepth 20000 in
theorem zb_X12_degree {S : Shp} {x1 : Int32} {x2 : Int32} {σ : Mm} {r : Int32 × Mm} (h : F_X12_degree x1 x2 σ = some r) : Z m_X12_degree S (Qi r) 0 [(0, .ref (sL S 3 0 0)), (1, .int (x1)), (2, .int (x2))] [] σ := by
  unfold F_X12_degree at h
  refine z_iload_n dX12_degree_0 rfl 1 rfl ?_
  refine z_sipush (v := (-9999)) dX12_degree_1 (by decide) ?_
  refine z_sipush (v := 9999) dX12_degree_4 (by decide) ?_
  refine z_callS (M' := m_X12_isIn) (As := [.int (x1), .int ((-9999)), .int (9999)]) (rest := []) kl_12_407 oy_X12_isIn ⟨Nat.le_of_ble_eq_true rfl, Nat.le_of_ble_eq_true rfl⟩ rfl (Nat.le_of_ble_eq_true rfl) rfl dX12_degree_7 (c_X12_isIn rfl) (fun v τ hq => ?_)
  obtain ⟨rfl, hτ⟩ := hq
  subst τ
  change Z _ _ _ _ _ [.int (f_X12_isIn x1 ((-9999)) 9999)] _
  refine z_if_eq (tgt := 34) dX12_degree_10 (by decide) (fun q => ?_) (fun q => ?_)
  · have h := (if_pos q).symm.trans h
    refine Z.lv [] rfl ?_
    exact zb_X12_degree_34 h
  · have h := (if_neg q).symm.trans h
    refine z_iload_n dX12_degree_13 rfl 2 rfl ?_
    refine z_sipush (v := (-9999)) dX12_degree_14 (by decide) ?_
    refine z_sipush (v := 9999) dX12_degree_17 (by decide) ?_
    refine z_callS (M' := m_X12_isIn) (As := [.int (x2), .int ((-9999)), .int (9999)]) (rest := []) kl_12_407 oy_X12_isIn ⟨Nat.le_of_ble_eq_true rfl, Nat.le_of_ble_eq_true rfl⟩ rfl (Nat.le_of_ble_eq_true rfl) rfl dX12_degree_20 (c_X12_isIn rfl) (fun v τ hq => ?_)
    obtain ⟨rfl, hτ⟩ := hq
    subst τ
    change Z _ _ _ _ _ [.int (f_X12_isIn x2 ((-9999)) 9999)] _
    refine z_if_eq (tgt := 34) dX12_degree_23 (by decide) (fun q => ?_) (fun q => ?_)
    · have h := (if_pos q).symm.trans h
      refine Z.lv [] rfl ?_
      exact zb_X12_degree_34 h
    · have h := (if_neg q).symm.trans h
      refine z_iload_n dX12_degree_26 rfl 1 rfl ?_
      refine z_if_ne (tgt := 38) dX12_degree_27 (by decide) (fun q => ?_) (fun q => ?_)
      · have h := (if_neg q).symm.trans h
        refine Z.lv [1, 2] rfl ?_
        exact zb_X12_degree_38 h
      · have h := (if_pos q).symm.trans h
        refine z_iload_n dX12_degree_30 rfl 2 rfl ?_
        refine z_if_ne (tgt := 38) dX12_degree_31 (by decide) (fun q => ?_) (fun q => ?_)
        · have h := (if_neg q).symm.trans h
          refine Z.lv [1, 2] rfl ?_
          exact zb_X12_degree_38 h
        · have h := (if_pos q).symm.trans h
          refine Z.lv [] rfl ?_
          exact zb_X12_degree_34 h
/-- SkyStonesModel.degree(II)I -/
theorem c_X12_degree {S : Shp} {x1 : Int32} {x2 : Int32} {σ : Mm} {r : Int32 × Mm} (h : F_X12_degree x1 x2 σ = some r) : Ct m_X12_degree S [.ref (sL S 3 0 0), .int (x1), .int (x2)] σ (Qi r) := Ct.of (by decide +kernel) (Nat.le_of_ble_eq_true rfl) (zb_X12_degree h)
def F_X12_typed_39 (rc2 : Int32 → Int32 → Mm → Option (Mm)) (x1 : Int32) (x2 : Int32) (σ : Mm) : Option (Mm) := (rc2 x1 (x2 + 1) σ)
set_option maxRecDepth 20000 in
theorem zb_X12_typed_39 {S : Shp} {rc2 : Int32 → Int32 → Mm → Option (Mm)} (hrc2 : ∀ {x1 : Int32} {x2 : Int32} {σ : Mm} {r : Mm}, rc2 x1 x2 σ = some r → Z m_X12_typed S (Qv r) 2 [(0, .ref (sL S 3 0 0)), (1, .int (x1)), (2, .int (x2))] [] σ) {x1 : Int32} {x2 : Int32} {σ : Mm} {r : Mm} (h : F_X12_typed_39 rc2 x1 x2 σ = some r) : Z m_X12_typed S (Qv r) 39 [(0, .ref (sL S 3 0 0)), (1, .int (x1)), (2, .int (x2))] [] σ := by
  unfold F_X12_typed_39 at h
  refine z_iinc (j := 2) (v := x2 + 1) (lv' := [(0, .ref (sL S 3 0 0)), (1, .int (x1)), (2, .int (x2 + 1))]) dX12_typed_39 rfl rfl (by decide) [1, 2, 0] rfl ?_
  refine z_goto (tgt := 2) dX12_typed_42 (by decide) ?_
  exact hrc2 h
def F_X12_typed_29 (rc2 : Int32 → Int32 → Mm → Option (Mm)) (x1 : Int32) (x2 : Int32) (σ : Mm) : Option (Mm) := (F_X12_typed_39 rc2 x1 x2 (setA σ 3 0 0 (upd (mA σ 3 0 0) 0 ((mA σ 3 0 0 0) + (1 : Int32)))))
set_option maxRecDepth 20000 in
theorem zb_X12_typed_29 {S : Shp} {rc2 : Int32 → Int32 → Mm → Option (Mm)} (hrc2 : ∀ {x1 : Int32} {x2 : Int32} {σ : Mm} {r : Mm}, rc2 x1 x2 σ = some r → Z m_X12_typed S (Qv r) 2 [(0, .ref (sL S 3 0 0)), (1, .int (x1)), (2, .int (x2))] [] σ) {x1 : Int32} {x2 : Int32} {σ : Mm} {r : Mm} (h : F_X12_typed_29 rc2 x1 x2 σ = some r) : Z m_X12_typed S (Qv r) 29 [(0, .ref (sL S 3 0 0)), (1, .int (x1)), (2, .int (x2))] [] σ := by
  unfold F_X12_typed_29 at h
  refine z_aload_n dX12_typed_29 rfl 0 rfl ?_
  refine z_dup dX12_typed_30 rfl ?_
  refine gf_12_222 rfl dX12_typed_31 ?_
  refine z_iconst (v := 1) dX12_typed_34 (by decide) ?_
  refine z_iadd dX12_typed_35 ?_
  refine pf_12_222 rfl dX12_typed_36 ?_
  exact zb_X12_typed_39 hrc2 h
def B_X12_typed_2 (rc2 : Int32 → Int32 → Mm → Option (Mm)) (x1 : Int32) (x2 : Int32) (σ : Mm) : Option (Mm) := (if (4 : Int32) ≤ x2 then some (σ) else (if inb (mA σ 3 0 0 0) 2000 = true then (F_X12_typed_29 rc2 x1 x2 (setA σ 3 0 1 (upd (mA σ 3 0 1) (mA σ 3 0 0 0).toNatClampNeg ((x1 >>> (((24 : Int32) - ((8 : Int32) * x2)) &&& 31)) &&& (255 : Int32))))) else none))
set_option maxRecDepth 20000 in
theorem zB_X12_typed_2 {S : Shp} {rc2 : Int32 → Int32 → Mm → Option (Mm)} (hrc2 : ∀ {x1 : Int32} {x2 : Int32} {σ : Mm} {r : Mm}, rc2 x1 x2 σ = some r → Z m_X12_typed S (Qv r) 2 [(0, .ref (sL S 3 0 0)), (1, .int (x1)), (2, .int (x2))] [] σ) {x1 : Int32} {x2 : Int32} {σ : Mm} {r : Mm} (h : B_X12_typed_2 rc2 x1 x2 σ = some r) : Z m_X12_typed S (Qv r) 2 [(0, .ref (sL S 3 0 0)), (1, .int (x1)), (2, .int (x2))] [] σ := by
  unfold B_X12_typed_2 at h
  refine z_iload_n dX12_typed_2 rfl 2 rfl ?_
  refine z_iconst (v := 4) dX12_typed_3 (by decide) ?_
  refine z_icmp_ge (tgt := 45) dX12_typed_4 (by decide) (fun q => ?_) (fun q => ?_)
  · have h := (if_pos q).symm.trans h
    cases h
    exact z_return dX12_typed_45 rfl ⟨rfl, rfl⟩
  · have h := (if_neg q).symm.trans h
    obtain ⟨g1, h⟩ := gd h
    refine z_aload_n dX12_typed_7 rfl 0 rfl ?_
    refine gf_12_7 rfl dX12_typed_8 ?_
    refine z_aload_n dX12_typed_11 rfl 0 rfl ?_
    refine gf_12_222 rfl dX12_typed_12 ?_
    refine z_iload_n dX12_typed_15 rfl 1 rfl ?_
    refine z_bipush (v := 24) dX12_typed_16 (by decide) ?_
    refine z_bipush (v := 8) dX12_typed_18 (by decide) ?_
    refine z_iload_n dX12_typed_20 rfl 2 rfl ?_
    refine z_imul dX12_typed_21 ?_
    refine z_isub dX12_typed_22 ?_
    refine z_ishr dX12_typed_23 ?_
    refine z_sipush (v := 255) dX12_typed_24 (by decide) ?_
    refine z_iand dX12_typed_27 ?_
    refine is_3_1 (inb_in g1) dX12_typed_28 ?_
    exact zb_X12_typed_29 hrc2 h
def F_X12_typed_2 : Nat → Int32 → Int32 → Mm → Option (Mm)
  | 0 => fun _ _ _ => none
  | n + 1 => B_X12_typed_2 (F_X12_typed_2 n)
theorem zl_X12_typed_2 {S : Shp} : ∀ (nn : Nat) {x1 : Int32} {x2 : Int32} {σ : Mm} {r : Mm}, F_X12_typed_2 nn x1 x2 σ = some r → Z m_X12_typed S (Qv r) 2 [(0, .ref (sL S 3 0 0)), (1, .int (x1)), (2, .int (x2))] [] σ := by
  intro nn
  induction nn with
  | zero => intro x1 x2 σ r h; cases h
  | succ nn ih => intro x1 x2 σ r h; exact zB_X12_typed_2 @ih h
def F_X12_typed (x1 : Int32) (σ : Mm) : Option (Mm) := (F_X12_typed_2 FU x1 0 σ)
set_option maxRecDepth 20000 in
theorem zb_X12_typed {S : Shp} {x1 : Int32} {σ : Mm} {r : Mm} (h : F_X12_typed x1 σ = some r) : Z m_X12_typed S (Qv r) 0 [(0, .ref (sL S 3 0 0)), (1, .int (x1))] [] σ := by
  unfold F_X12_typed at h
  refine z_iconst (v := 0) dX12_typed_0 (by decide) ?_
  refine z_istore_n (lv' := [(0, .ref (sL S 3 0 0)), (1, .int (x1)), (2, .int (0))]) dX12_typed_1 rfl (by decide) [1, 2, 0] rfl ?_
  exact zl_X12_typed_2 FU h
/-- SkyStonesModel.typed(I)V -/
theorem c_X12_typed {S : Shp} {x1 : Int32} {σ : Mm} {r : Mm} (h : F_X12_typed x1 σ = some r) : Ct m_X12_typed S [.ref (sL S 3 0 0), .int (x1)] σ (Qv r) := Ct.of (by decide +kernel) (Nat.le_of_ble_eq_true rfl) (zb_X12_typed h)
def F_X12_feed_42 (σ : Mm) : Option (Int32 × Mm) := some (mA σ 3 0 0 0, σ)
set_option maxRecDepth 20000 in
theorem zb_X12_feed_42 {S : Shp} {σ : Mm} {r : Int32 × Mm} (h : F_X12_feed_42 σ = some r) : Z m_X12_feed S (Qi r) 42 [(0, .ref (sL S 3 0 0))] [] σ := by
  unfold F_X12_feed_42 at h
  refine z_aload_n dX12_feed_42 rfl 0 rfl ?_
  refine gf_12_222 rfl dX12_feed_43 ?_
  cases h
  exact z_ireturn dX12_feed_46 rfl rfl ⟨rfl, rfl⟩
def F_X12_feed_36 (x5 : Int32) (σ : Mm) : Option (Int32 × Mm) := (bnv (F_X12_typed x5 σ) (fun τ => (F_X12_feed_42 τ)))
set_option maxRecDepth 20000 in
theorem zb_X12_feed_36 {S : Shp} {x5 : Int32} {σ : Mm} {r : Int32 × Mm} (h : F_X12_feed_36 x5 σ = some r) : Z m_X12_feed S (Qi r) 36 [(0, .ref (sL S 3 0 0)), (5, .int (x5))] [] σ := by
  unfold F_X12_feed_36 at h
  refine z_aload_n dX12_feed_36 rfl 0 rfl ?_
  refine z_iload dX12_feed_37 1 rfl ?_
  obtain ⟨τ, hc, h⟩ := bnv_e h
  refine z_callV (M' := m_X12_typed) (t := 3) (i := 0) (k := 0) (As := [.int (x5)]) (rest := []) kl_12_225 oy_X12_typed ⟨Nat.le_of_ble_eq_true rfl, Nat.le_of_ble_eq_true rfl⟩ rfl rfl rfl rfl (Nat.le_of_ble_eq_true rfl) rfl dX12_feed_39 (c_X12_typed hc) (fun v2 τ2 hq => ?_)
  obtain ⟨rfl, hτ⟩ := hq
  subst τ2
  change Z _ _ _ _ _ [] _
  refine Z.lv [0] rfl ?_
  exact zb_X12_feed_42 h
def F_X12_feed_30 (x4 : Int32) (x5 : Int32) (σ : Mm) : Option (Int32 × Mm) := (bnv (F_X12_typed x4 σ) (fun τ => (F_X12_feed_36 x5 τ)))
set_option maxRecDepth 20000 in
theorem zb_X12_feed_30 {S : Shp} {x4 : Int32} {x5 : Int32} {σ : Mm} {r : Int32 × Mm} (h : F_X12_feed_30 x4 x5 σ = some r) : Z m_X12_feed S (Qi r) 30 [(0, .ref (sL S 3 0 0)), (4, .int (x4)), (5, .int (x5))] [] σ := by
  unfold F_X12_feed_30 at h
  refine z_aload_n dX12_feed_30 rfl 0 rfl ?_
  refine z_iload dX12_feed_31 1 rfl ?_
  obtain ⟨τ, hc, h⟩ := bnv_e h
  refine z_callV (M' := m_X12_typed) (t := 3) (i := 0) (k := 0) (As := [.int (x4)]) (rest := []) kl_12_225 oy_X12_typed ⟨Nat.le_of_ble_eq_true rfl, Nat.le_of_ble_eq_true rfl⟩ rfl rfl rfl rfl (Nat.le_of_ble_eq_true rfl) rfl dX12_feed_33 (c_X12_typed hc) (fun v2 τ2 hq => ?_)
  obtain ⟨rfl, hτ⟩ := hq
  subst τ2
  change Z _ _ _ _ _ [] _
  refine Z.lv [0, 2] rfl ?_
  exact zb_X12_feed_36 h
def F_X12_feed_25 (x3 : Int32) (x4 : Int32) (x5 : Int32) (σ : Mm) : Option (Int32 × Mm) := (bnv (F_X12_typed x3 σ) (fun τ => (F_X12_feed_30 x4 x5 τ)))
set_option maxRecDepth 20000 in
theorem zb_X12_feed_25 {S : Shp} {x3 : Int32} {x4 : Int32} {x5 : Int32} {σ : Mm} {r : Int32 × Mm} (h : F_X12_feed_25 x3 x4 x5 σ = some r) : Z m_X12_feed S (Qi r) 25 [(0, .ref (sL S 3 0 0)), (3, .int (x3)), (4, .int (x4)), (5, .int (x5))] [] σ := by
  unfold F_X12_feed_25 at h
  refine z_aload_n dX12_feed_25 rfl 0 rfl ?_
  refine z_iload_n dX12_feed_26 rfl 1 rfl ?_
  obtain ⟨τ, hc, h⟩ := bnv_e h
  refine z_callV (M' := m_X12_typed) (t := 3) (i := 0) (k := 0) (As := [.int (x3)]) (rest := []) kl_12_225 oy_X12_typed ⟨Nat.le_of_ble_eq_true rfl, Nat.le_of_ble_eq_true rfl⟩ rfl rfl rfl rfl (Nat.le_of_ble_eq_true rfl) rfl dX12_feed_27 (c_X12_typed hc) (fun v2 τ2 hq => ?_)
  obtain ⟨rfl, hτ⟩ := hq
  subst τ2
  change Z _ _ _ _ _ [] _
  refine Z.lv [0, 2, 3] rfl ?_
  exact zb_X12_feed_30 h
def F_X12_feed_20 (x2 : Int32) (x3 : Int32) (x4 : Int32) (x5 : Int32) (σ : Mm) : Option (Int32 × Mm) := (bnv (F_X12_typed x2 σ) (fun τ => (F_X12_feed_25 x3 x4 x5 τ)))
set_option maxRecDepth 20000 in
theorem zb_X12_feed_20 {S : Shp} {x2 : Int32} {x3 : Int32} {x4 : Int32} {x5 : Int32} {σ : Mm} {r : Int32 × Mm} (h : F_X12_feed_20 x2 x3 x4 x5 σ = some r) : Z m_X12_feed S (Qi r) 20 [(0, .ref (sL S 3 0 0)), (2, .int (x2)), (3, .int (x3)), (4, .int (x4)), (5, .int (x5))] [] σ := by
  unfold F_X12_feed_20 at h
  refine z_aload_n dX12_feed_20 rfl 0 rfl ?_
  refine z_iload_n dX12_feed_21 rfl 1 rfl ?_
  obtain ⟨τ, hc, h⟩ := bnv_e h
  refine z_callV (M' := m_X12_typed) (t := 3) (i := 0) (k := 0) (As := [.int (x2)]) (rest := []) kl_12_225 oy_X12_typed ⟨Nat.le_of_ble_eq_true rfl, Nat.le_of_ble_eq_true rfl⟩ rfl rfl rfl rfl (Nat.le_of_ble_eq_true rfl) rfl dX12_feed_22 (c_X12_typed hc) (fun v2 τ2 hq => ?_)
  obtain ⟨rfl, hτ⟩ := hq
  subst τ2
  change Z _ _ _ _ _ [] _
  refine Z.lv [0, 2, 3, 4] rfl ?_
  exact zb_X12_feed_25 h
def F_X12_feed (x1 : Int32) (x2 : Int32) (x3 : Int32) (x4 : Int32) (x5 : Int32) (σ : Mm) : Option (Int32 × Mm) := (if ((mA σ 3 0 0 0) + (20 : Int32)) ≤ (2000 : Int32) then (bnv (F_X12_typed x1 σ) (fun τ => (F_X12_feed_20 x2 x3 x4 x5 τ))) else some ((-1), σ))
set_option maxRecDepth 20000 in
theorem zb_X12_feed {S : Shp} {x1 : Int32} {x2 : Int32} {x3 : Int32} {x4 : Int32} {x5 : Int32} {σ : Mm} {r : Int32 × Mm} (h : F_X12_feed x1 x2 x3 x4 x5 σ = some r) : Z m_X12_feed S (Qi r) 0 [(0, .ref (sL S 3 0 0)), (1, .int (x1)), (2, .int (x2)), (3, .int (x3)), (4, .int (x4)), (5, .int (x5))] [] σ := by
  unfold F_X12_feed at h
  refine z_aload_n dX12_feed_0 rfl 0 rfl ?_
  refine gf_12_222 rfl dX12_feed_1 ?_
  refine z_bipush (v := 20) dX12_feed_4 (by decide) ?_
  refine z_iadd dX12_feed_6 ?_
  refine z_sipush (v := 2000) dX12_feed_7 (by decide) ?_
  refine z_icmp_le (tgt := 15) dX12_feed_10 (by decide) (fun q => ?_) (fun q => ?_)
  · have h := (if_pos q).symm.trans h
    refine z_aload_n dX12_feed_15 rfl 0 rfl ?_
    refine z_iload_n dX12_feed_16 rfl 1 rfl ?_
    obtain ⟨τ, hc, h⟩ := bnv_e h
    refine z_callV (M' := m_X12_typed) (t := 3) (i := 0) (k := 0) (As := [.int (x1)]) (rest := []) kl_12_225 oy_X12_typed ⟨Nat.le_of_ble_eq_true rfl, Nat.le_of_ble_eq_true rfl⟩ rfl rfl rfl rfl (Nat.le_of_ble_eq_true rfl) rfl dX12_feed_17 (c_X12_typed hc) (fun v2 τ2 hq => ?_)
    obtain ⟨rfl, hτ⟩ := hq
    subst τ2
    change Z _ _ _ _ _ [] _
    refine Z.lv [0, 2, 3, 4, 5] rfl ?_
    exact zb_X12_feed_20 h
  · have h := (if_neg q).symm.trans h
    refine z_iconst (v := (-1)) dX12_feed_13 (by decide) ?_
    cases h
    exact z_ireturn dX12_feed_14 rfl rfl ⟨rfl, rfl⟩
/-- SkyStonesModel.feed(IIIII)I -/
theorem c_X12_feed {S : Shp} {x1 : Int32} {x2 : Int32} {x3 : Int32} {x4 : Int32} {x5 : Int32} {σ : Mm} {r : Int32 × Mm} (h : F_X12_feed x1 x2 x3 x4 x5 σ = some r) : Ct m_X12_feed S [.ref (sL S 3 0 0), .int (x1), .int (x2), .int (x3), .int (x4), .int (x5)] σ (Qi r) := Ct.of (by decide +kernel) (Nat.le_of_ble_eq_true rfl) (zb_X12_feed h)
def F_X12_found_123 (x4 : Int32) (σ : Mm) : Option (Int32 × Mm) := some (x4, σ)
set_option maxRecDepth 20000 in
theorem zb_X12_found_123 {S : Shp} {x4 : Int32} {σ : Mm} {r : Int32 × Mm} (h : F_X12_found_123 x4 σ = some r) : Z m_X12_found S (Qi r) 123 [(4, .int (x4))] [] σ := by
  unfold F_X12_found_123 at h
  refine z_iload dX12_found_123 0 rfl ?_
  cases h
  exact z_ireturn dX12_found_125 rfl rfl ⟨rfl, rfl⟩
def F_X12_found_113 (x4 : Int32) (σ : Mm) : Option (Int32 × Mm) := (if inb 0 5 = true then (if inb 0 5 = true then (F_X12_found_123 x4 (setA σ 3 0 8 (upd (mA σ 3 0 8) (0 : Int32).toNatClampNeg ((mA σ 3 0 8 (0 : Int32).toNatClampNeg) + (1 : Int32))))) else none) else none)
set_option maxRecDepth 20000 in
theorem zb_X12_found_113 {S : Shp} {x4 : Int32} {σ : Mm} {r : Int32 × Mm} (h : F_X12_found_113 x4 σ = some r) : Z m_X12_found S (Qi r) 113 [(0, .ref (sL S 3 0 0)), (4, .int (x4))] [] σ := by
  unfold F_X12_found_113 at h
  obtain ⟨g9, h⟩ := gd h
  refine z_aload_n dX12_found_113 rfl 0 rfl ?_
  refine gf_12_37 rfl dX12_found_114 ?_
  refine z_iconst (v := 0) dX12_found_117 (by decide) ?_
  refine z_dup2_11 dX12_found_118 rfl rfl ?_
  obtain ⟨g10, h⟩ := gd h
  refine ia_3_8 (inb_in g9) dX12_found_119 ?_
  refine z_iconst (v := 1) dX12_found_120 (by decide) ?_
  refine z_iadd dX12_found_121 ?_
  refine is_3_8 (inb_in g10) dX12_found_122 ?_
  refine Z.lv [1] rfl ?_
  exact zb_X12_found_123 h
def F_X12_found_105 (x3 : Int32) (x4 : Int32) (σ : Mm) : Option (Int32 × Mm) := (if inb x4 70 = true then (F_X12_found_113 x4 (setA σ 3 0 12 (upd (mA σ 3 0 12) x4.toNatClampNeg x3))) else none)
set_option maxRecDepth 20000 in
theorem zb_X12_found_105 {S : Shp} {x3 : Int32} {x4 : Int32} {σ : Mm} {r : Int32 × Mm} (h : F_X12_found_105 x3 x4 σ = some r) : Z m_X12_found S (Qi r) 105 [(0, .ref (sL S 3 0 0)), (3, .int (x3)), (4, .int (x4))] [] σ := by
  unfold F_X12_found_105 at h
  obtain ⟨g8, h⟩ := gd h
  refine z_aload_n dX12_found_105 rfl 0 rfl ?_
  refine gf_12_49 rfl dX12_found_106 ?_
  refine z_iload dX12_found_109 2 rfl ?_
  refine z_iload_n dX12_found_111 rfl 1 rfl ?_
  refine is_3_12 (inb_in g8) dX12_found_112 ?_
  refine Z.lv [0, 2] rfl ?_
  exact zb_X12_found_113 h
def F_X12_found_97 (x2 : Int32) (x3 : Int32) (x4 : Int32) (σ : Mm) : Option (Int32 × Mm) := (if inb x4 70 = true then (F_X12_found_105 x3 x4 (setA σ 3 0 11 (upd (mA σ 3 0 11) x4.toNatClampNeg x2))) else none)
set_option maxRecDepth 20000 in
theorem zb_X12_found_97 {S : Shp} {x2 : Int32} {x3 : Int32} {x4 : Int32} {σ : Mm} {r : Int32 × Mm} (h : F_X12_found_97 x2 x3 x4 σ = some r) : Z m_X12_found S (Qi r) 97 [(0, .ref (sL S 3 0 0)), (2, .int (x2)), (3, .int (x3)), (4, .int (x4))] [] σ := by
  unfold F_X12_found_97 at h
  obtain ⟨g7, h⟩ := gd h
  refine z_aload_n dX12_found_97 rfl 0 rfl ?_
  refine gf_12_46 rfl dX12_found_98 ?_
  refine z_iload dX12_found_101 3 rfl ?_
  refine z_iload_n dX12_found_103 rfl 1 rfl ?_
  refine is_3_11 (inb_in g7) dX12_found_104 ?_
  refine Z.lv [0, 2, 3] rfl ?_
  exact zb_X12_found_105 h
def F_X12_found_89 (x1 : Int32) (x2 : Int32) (x3 : Int32) (x4 : Int32) (σ : Mm) : Option (Int32 × Mm) := (if inb x4 70 = true then (F_X12_found_97 x2 x3 x4 (setA σ 3 0 10 (upd (mA σ 3 0 10) x4.toNatClampNeg x1))) else none)
set_option maxRecDepth 20000 in
theorem zb_X12_found_89 {S : Shp} {x1 : Int32} {x2 : Int32} {x3 : Int32} {x4 : Int32} {σ : Mm} {r : Int32 × Mm} (h : F_X12_found_89 x1 x2 x3 x4 σ = some r) : Z m_X12_found S (Qi r) 89 [(0, .ref (sL S 3 0 0)), (1, .int (x1)), (2, .int (x2)), (3, .int (x3)), (4, .int (x4))] [] σ := by
  unfold F_X12_found_89 at h
  obtain ⟨g6, h⟩ := gd h
  refine z_aload_n dX12_found_89 rfl 0 rfl ?_
  refine gf_12_43 rfl dX12_found_90 ?_
  refine z_iload dX12_found_93 4 rfl ?_
  refine z_iload_n dX12_found_95 rfl 1 rfl ?_
  refine is_3_10 (inb_in g6) dX12_found_96 ?_
  refine Z.lv [0, 2, 3, 4] rfl ?_
  exact zb_X12_found_97 h
def F_X12_found_81 (x1 : Int32) (x2 : Int32) (x3 : Int32) (x4 : Int32) (σ : Mm) : Option (Int32 × Mm) := (if inb x4 70 = true then (F_X12_found_89 x1 x2 x3 x4 (setA σ 3 0 9 (upd (mA σ 3 0 9) x4.toNatClampNeg (vp_nar .boolean 0)))) else none)
set_option maxRecDepth 20000 in
theorem zb_X12_found_81 {S : Shp} {x1 : Int32} {x2 : Int32} {x3 : Int32} {x4 : Int32} {σ : Mm} {r : Int32 × Mm} (h : F_X12_found_81 x1 x2 x3 x4 σ = some r) : Z m_X12_found S (Qi r) 81 [(0, .ref (sL S 3 0 0)), (1, .int (x1)), (2, .int (x2)), (3, .int (x3)), (4, .int (x4))] [] σ := by
  unfold F_X12_found_81 at h
  obtain ⟨g5, h⟩ := gd h
  refine z_aload_n dX12_found_81 rfl 0 rfl ?_
  refine gf_12_40 rfl dX12_found_82 ?_
  refine z_iload dX12_found_85 4 rfl ?_
  refine z_iconst (v := 0) dX12_found_87 (by decide) ?_
  refine is_3_9 (inb_in g5) dX12_found_88 ?_
  exact zb_X12_found_89 h
def F_X12_found_80 (x1 : Int32) (x2 : Int32) (x3 : Int32) (x4 : Int32) (s0 : Int32) (s1 : Int32) (σ : Mm) : Option (Int32 × Mm) := (if inb s1 70 = true then (F_X12_found_81 x1 x2 x3 x4 (setA σ 3 0 13 (upd (mA σ 3 0 13) s1.toNatClampNeg s0))) else none)
set_option maxRecDepth 20000 in
theorem zb_X12_found_80 {S : Shp} {x1 : Int32} {x2 : Int32} {x3 : Int32} {x4 : Int32} {s0 : Int32} {s1 : Int32} {σ : Mm} {r : Int32 × Mm} (h : F_X12_found_80 x1 x2 x3 x4 s0 s1 σ = some r) : Z m_X12_found S (Qi r) 80 [(0, .ref (sL S 3 0 0)), (1, .int (x1)), (2, .int (x2)), (3, .int (x3)), (4, .int (x4))] [.int (s0), .int (s1), .ref (sL S 3 0 13)] σ := by
  unfold F_X12_found_80 at h
  obtain ⟨g4, h⟩ := gd h
  refine is_3_13 (inb_in g4) dX12_found_80 ?_
  exact zb_X12_found_81 h
def F_X12_found_65 (x1 : Int32) (x2 : Int32) (x3 : Int32) (x4 : Int32) (σ : Mm) : Option (Int32 × Mm) := (bnd (F_X12_fact 0 x4 x1 x2 σ) (fun v τ => (F_X12_found_80 x1 x2 x3 x4 v x4 τ)))
set_option maxRecDepth 20000 in
theorem zb_X12_found_65 {S : Shp} {x1 : Int32} {x2 : Int32} {x3 : Int32} {x4 : Int32} {σ : Mm} {r : Int32 × Mm} (h : F_X12_found_65 x1 x2 x3 x4 σ = some r) : Z m_X12_found S (Qi r) 65 [(0, .ref (sL S 3 0 0)), (1, .int (x1)), (2, .int (x2)), (3, .int (x3)), (4, .int (x4))] [] σ := by
  unfold F_X12_found_65 at h
  refine z_aload_n dX12_found_65 rfl 0 rfl ?_
  refine gf_12_52 rfl dX12_found_66 ?_
  refine z_iload dX12_found_69 4 rfl ?_
  refine z_aload_n dX12_found_71 rfl 0 rfl ?_
  refine z_iconst (v := 0) dX12_found_72 (by decide) ?_
  refine z_iload dX12_found_73 4 rfl ?_
  refine z_iload_n dX12_found_75 rfl 1 rfl ?_
  refine z_iload_n dX12_found_76 rfl 2 rfl ?_
  obtain ⟨v, τ, hc, h⟩ := bnd_e h
  refine z_callV (M' := m_X12_fact) (t := 3) (i := 0) (k := 0) (As := [.int (0), .int (x4), .int (x1), .int (x2)]) (rest := [.int (x4), .ref (sL S 3 0 13)]) kl_12_411 oy_X12_fact ⟨Nat.le_of_ble_eq_true rfl, Nat.le_of_ble_eq_true rfl⟩ rfl rfl rfl rfl (Nat.le_of_ble_eq_true rfl) rfl dX12_found_77 (c_X12_fact hc) (fun v2 τ2 hq => ?_)
  obtain ⟨rfl, hτ⟩ := hq
  subst τ2
  change Z _ _ _ _ _ [.int (v), .int (x4), .ref (sL S 3 0 13)] _
  exact zb_X12_found_80 h
def F_X12_found (x1 : Int32) (x2 : Int32) (x3 : Int32) (σ : Mm) : Option (Int32 × Mm) := (if inb 0 5 = true then (if (mA σ 3 0 8 (0 : Int32).toNatClampNeg) = (14 : Int32) then some ((-1), σ) else (if inb 0 5 = true then (if (mA σ 3 0 38 (0 : Int32).toNatClampNeg) = (60 : Int32) then some ((-1), σ) else (if (f_X12_isIn x1 0 999) = 0 then some ((-1), σ) else (if (f_X12_isIn x2 0 999) = 0 then some ((-1), σ) else (if (f_X12_isIn x3 0 9999) = 0 then some ((-1), σ) else (if inb 0 5 = true then (F_X12_found_65 x1 x2 x3 (mA σ 3 0 8 (0 : Int32).toNatClampNeg) σ) else none))))) else none)) else none)
set_option maxRecDepth 20000 in
theorem zb_X12_found {S : Shp} {x1 : Int32} {x2 : Int32} {x3 : Int32} {σ : Mm} {r : Int32 × Mm} (h : F_X12_found x1 x2 x3 σ = some r) : Z m_X12_found S (Qi r) 0 [(0, .ref (sL S 3 0 0)), (1, .int (x1)), (2, .int (x2)), (3, .int (x3))] [] σ := by
  unfold F_X12_found at h
  obtain ⟨g1, h⟩ := gd h
  refine z_aload_n dX12_found_0 rfl 0 rfl ?_
  refine gf_12_37 rfl dX12_found_1 ?_
  refine z_iconst (v := 0) dX12_found_4 (by decide) ?_
  refine ia_3_8 (inb_in g1) dX12_found_5 ?_
  refine z_bipush (v := 14) dX12_found_6 (by decide) ?_
  refine z_icmp_eq (tgt := 55) dX12_found_8 (by decide) (fun q => ?_) (fun q => ?_)
  · have h := (if_pos q).symm.trans h
    refine z_iconst (v := (-1)) dX12_found_55 (by decide) ?_
    cases h
    exact z_ireturn dX12_found_56 rfl rfl ⟨rfl, rfl⟩
  · have h := (if_neg q).symm.trans h
    obtain ⟨g2, h⟩ := gd h
    refine z_aload_n dX12_found_11 rfl 0 rfl ?_
    refine gf_12_127 rfl dX12_found_12 ?_
    refine z_iconst (v := 0) dX12_found_15 (by decide) ?_
    refine ia_3_38 (inb_in g2) dX12_found_16 ?_
    refine z_bipush (v := 60) dX12_found_17 (by decide) ?_
    refine z_icmp_eq (tgt := 55) dX12_found_19 (by decide) (fun q => ?_) (fun q => ?_)
    · have h := (if_pos q).symm.trans h
      refine z_iconst (v := (-1)) dX12_found_55 (by decide) ?_
      cases h
      exact z_ireturn dX12_found_56 rfl rfl ⟨rfl, rfl⟩
    · have h := (if_neg q).symm.trans h
      refine z_iload_n dX12_found_22 rfl 1 rfl ?_
      refine z_iconst (v := 0) dX12_found_23 (by decide) ?_
      refine z_sipush (v := 999) dX12_found_24 (by decide) ?_
      refine z_callS (M' := m_X12_isIn) (As := [.int (x1), .int (0), .int (999)]) (rest := []) kl_12_407 oy_X12_isIn ⟨Nat.le_of_ble_eq_true rfl, Nat.le_of_ble_eq_true rfl⟩ rfl (Nat.le_of_ble_eq_true rfl) rfl dX12_found_27 (c_X12_isIn rfl) (fun v τ hq => ?_)
      obtain ⟨rfl, hτ⟩ := hq
      subst τ
      change Z _ _ _ _ _ [.int (f_X12_isIn x1 0 999)] _
      refine z_if_eq (tgt := 55) dX12_found_30 (by decide) (fun q => ?_) (fun q => ?_)
      · have h := (if_pos q).symm.trans h
        refine z_iconst (v := (-1)) dX12_found_55 (by decide) ?_
        cases h
        exact z_ireturn dX12_found_56 rfl rfl ⟨rfl, rfl⟩
      · have h := (if_neg q).symm.trans h
        refine z_iload_n dX12_found_33 rfl 2 rfl ?_
        refine z_iconst (v := 0) dX12_found_34 (by decide) ?_
        refine z_sipush (v := 999) dX12_found_35 (by decide) ?_
        refine z_callS (M' := m_X12_isIn) (As := [.int (x2), .int (0), .int (999)]) (rest := []) kl_12_407 oy_X12_isIn ⟨Nat.le_of_ble_eq_true rfl, Nat.le_of_ble_eq_true rfl⟩ rfl (Nat.le_of_ble_eq_true rfl) rfl dX12_found_38 (c_X12_isIn rfl) (fun v τ hq => ?_)
        obtain ⟨rfl, hτ⟩ := hq
        subst τ
        change Z _ _ _ _ _ [.int (f_X12_isIn x2 0 999)] _
        refine z_if_eq (tgt := 55) dX12_found_41 (by decide) (fun q => ?_) (fun q => ?_)
        · have h := (if_pos q).symm.trans h
          refine z_iconst (v := (-1)) dX12_found_55 (by decide) ?_
          cases h
          exact z_ireturn dX12_found_56 rfl rfl ⟨rfl, rfl⟩
        · have h := (if_neg q).symm.trans h
          refine z_iload_n dX12_found_44 rfl 3 rfl ?_
          refine z_iconst (v := 0) dX12_found_45 (by decide) ?_
          refine z_sipush (v := 9999) dX12_found_46 (by decide) ?_
          refine z_callS (M' := m_X12_isIn) (As := [.int (x3), .int (0), .int (9999)]) (rest := []) kl_12_407 oy_X12_isIn ⟨Nat.le_of_ble_eq_true rfl, Nat.le_of_ble_eq_true rfl⟩ rfl (Nat.le_of_ble_eq_true rfl) rfl dX12_found_49 (c_X12_isIn rfl) (fun v τ hq => ?_)
          obtain ⟨rfl, hτ⟩ := hq
          subst τ
          change Z _ _ _ _ _ [.int (f_X12_isIn x3 0 9999)] _
          refine z_if_ne (tgt := 57) dX12_found_52 (by decide) (fun q => ?_) (fun q => ?_)
          · have h := (if_neg q).symm.trans h
            obtain ⟨g3, h⟩ := gd h
            refine z_aload_n dX12_found_57 rfl 0 rfl ?_
            refine gf_12_37 rfl dX12_found_58 ?_
            refine z_iconst (v := 0) dX12_found_61 (by decide) ?_
            refine ia_3_8 (inb_in g3) dX12_found_62 ?_
            refine z_istore (lv' := [(0, .ref (sL S 3 0 0)), (1, .int (x1)), (2, .int (x2)), (3, .int (x3)), (4, .int (mA σ 3 0 8 (0 : Int32).toNatClampNeg))]) dX12_found_63 (by decide) [1, 2, 3, 4, 0] rfl ?_
            exact zb_X12_found_65 h
          · have h := (if_pos q).symm.trans h
            refine z_iconst (v := (-1)) dX12_found_55 (by decide) ?_
            cases h
            exact z_ireturn dX12_found_56 rfl rfl ⟨rfl, rfl⟩
/-- SkyStonesModel.found(III)I -/
theorem c_X12_found {S : Shp} {x1 : Int32} {x2 : Int32} {x3 : Int32} {σ : Mm} {r : Int32 × Mm} (h : F_X12_found x1 x2 x3 σ = some r) : Ct m_X12_found S [.ref (sL S 3 0 0), .int (x1), .int (x2), .int (x3)] σ (Qi r) := Ct.of (by decide +kernel) (Nat.le_of_ble_eq_true rfl) (zb_X12_found h)
def F_X12_isSpan_7 (x3 : Int32) (x4 : Int32) (x5 : Int32) (s0 : Int32) (σ : Mm) : Option (Int32 × Mm) := (if s0 = 0 then some (0, σ) else (if (f_X12_isIn x4 1 100) = 0 then some (0, σ) else (if (f_X12_isIn x5 1 200) = 0 then some (0, σ) else (if (5000 : Int32) < (x3 + (x4 * (x5 - (1 : Int32)))) then some (0, σ) else some (1, σ)))))
set_option maxRecDepth 20000 in
theorem zb_X12_isSpan_7 {S : Shp} {x3 : Int32} {x4 : Int32} {x5 : Int32} {s0 : Int32} {σ : Mm} {r : Int32 × Mm} (h : F_X12_isSpan_7 x3 x4 x5 s0 σ = some r) : Z m_X12_isSpan S (Qi r) 7 [(3, .int (x3)), (4, .int (x4)), (5, .int (x5))] [.int (s0)] σ := by
  unfold F_X12_isSpan_7 at h
  refine z_if_eq (tgt := 52) dX12_isSpan_7 (by decide) (fun q => ?_) (fun q => ?_)
  · have h := (if_pos q).symm.trans h
    refine z_iconst (v := 0) dX12_isSpan_52 (by decide) ?_
    cases h
    exact z_ireturn dX12_isSpan_53 rfl rfl ⟨rfl, rfl⟩
  · have h := (if_neg q).symm.trans h
    refine z_iload dX12_isSpan_10 1 rfl ?_
    refine z_iconst (v := 1) dX12_isSpan_12 (by decide) ?_
    refine z_bipush (v := 100) dX12_isSpan_13 (by decide) ?_
    refine z_callS (M' := m_X12_isIn) (As := [.int (x4), .int (1), .int (100)]) (rest := []) kl_12_407 oy_X12_isIn ⟨Nat.le_of_ble_eq_true rfl, Nat.le_of_ble_eq_true rfl⟩ rfl (Nat.le_of_ble_eq_true rfl) rfl dX12_isSpan_15 (c_X12_isIn rfl) (fun v τ hq => ?_)
    obtain ⟨rfl, hτ⟩ := hq
    subst τ
    change Z _ _ _ _ _ [.int (f_X12_isIn x4 1 100)] _
    refine z_if_eq (tgt := 52) dX12_isSpan_18 (by decide) (fun q => ?_) (fun q => ?_)
    · have h := (if_pos q).symm.trans h
      refine z_iconst (v := 0) dX12_isSpan_52 (by decide) ?_
      cases h
      exact z_ireturn dX12_isSpan_53 rfl rfl ⟨rfl, rfl⟩
    · have h := (if_neg q).symm.trans h
      refine z_iload dX12_isSpan_21 2 rfl ?_
      refine z_iconst (v := 1) dX12_isSpan_23 (by decide) ?_
      refine z_sipush (v := 200) dX12_isSpan_24 (by decide) ?_
      refine z_callS (M' := m_X12_isIn) (As := [.int (x5), .int (1), .int (200)]) (rest := []) kl_12_407 oy_X12_isIn ⟨Nat.le_of_ble_eq_true rfl, Nat.le_of_ble_eq_true rfl⟩ rfl (Nat.le_of_ble_eq_true rfl) rfl dX12_isSpan_27 (c_X12_isIn rfl) (fun v τ hq => ?_)
      obtain ⟨rfl, hτ⟩ := hq
      subst τ
      change Z _ _ _ _ _ [.int (f_X12_isIn x5 1 200)] _
      refine z_if_eq (tgt := 52) dX12_isSpan_30 (by decide) (fun q => ?_) (fun q => ?_)
      · have h := (if_pos q).symm.trans h
        refine z_iconst (v := 0) dX12_isSpan_52 (by decide) ?_
        cases h
        exact z_ireturn dX12_isSpan_53 rfl rfl ⟨rfl, rfl⟩
      · have h := (if_neg q).symm.trans h
        refine z_iload_n dX12_isSpan_33 rfl 0 rfl ?_
        refine z_iload dX12_isSpan_34 1 rfl ?_
        refine z_iload dX12_isSpan_36 2 rfl ?_
        refine z_iconst (v := 1) dX12_isSpan_38 (by decide) ?_
        refine z_isub dX12_isSpan_39 ?_
        refine z_imul dX12_isSpan_40 ?_
        refine z_iadd dX12_isSpan_41 ?_
        refine z_sipush (v := 5000) dX12_isSpan_42 (by decide) ?_
        refine z_icmp_gt (tgt := 52) dX12_isSpan_45 (by decide) (fun q => ?_) (fun q => ?_)
        · have h := (if_pos q).symm.trans h
          refine z_iconst (v := 0) dX12_isSpan_52 (by decide) ?_
          cases h
          exact z_ireturn dX12_isSpan_53 rfl rfl ⟨rfl, rfl⟩
        · have h := (if_neg q).symm.trans h
          refine z_iconst (v := 1) dX12_isSpan_48 (by decide) ?_
          refine z_goto (tgt := 53) dX12_isSpan_49 (by decide) ?_
          cases h
          exact z_ireturn dX12_isSpan_53 rfl rfl ⟨rfl, rfl⟩
def F_X12_isSpan (x1 : Int32) (x2 : Int32) (x3 : Int32) (x4 : Int32) (x5 : Int32) (σ : Mm) : Option (Int32 × Mm) := (bnd (F_X12_isSet x1 x3 x2 σ) (fun v τ => (F_X12_isSpan_7 x3 x4 x5 v τ)))
set_option maxRecDepth 20000 in
theorem zb_X12_isSpan {S : Shp} {x1 : Int32} {x2 : Int32} {x3 : Int32} {x4 : Int32} {x5 : Int32} {σ : Mm} {r : Int32 × Mm} (h : F_X12_isSpan x1 x2 x3 x4 x5 σ = some r) : Z m_X12_isSpan S (Qi r) 0 [(0, .ref (sL S 3 0 0)), (1, .int (x1)), (2, .int (x2)), (3, .int (x3)), (4, .int (x4)), (5, .int (x5))] [] σ := by
  unfold F_X12_isSpan at h
  refine z_aload_n dX12_isSpan_0 rfl 0 rfl ?_
  refine z_iload_n dX12_isSpan_1 rfl 1 rfl ?_
  refine z_iload_n dX12_isSpan_2 rfl 3 rfl ?_
  refine z_iload_n dX12_isSpan_3 rfl 2 rfl ?_
  obtain ⟨v, τ, hc, h⟩ := bnd_e h
  refine z_callV (M' := m_X12_isSet) (t := 3) (i := 0) (k := 0) (As := [.int (x1), .int (x3), .int (x2)]) (rest := []) kl_12_491 oy_X12_isSet ⟨Nat.le_of_ble_eq_true rfl, Nat.le_of_ble_eq_true rfl⟩ rfl rfl rfl rfl (Nat.le_of_ble_eq_true rfl) rfl dX12_isSpan_4 (c_X12_isSet hc) (fun v2 τ2 hq => ?_)
  obtain ⟨rfl, hτ⟩ := hq
  subst τ2
  change Z _ _ _ _ _ [.int (v)] _
  refine Z.lv [3, 4, 5] rfl ?_
  exact zb_X12_isSpan_7 h
/-- SkyStonesModel.isSpan(IIIII)Z -/
theorem c_X12_isSpan {S : Shp} {x1 : Int32} {x2 : Int32} {x3 : Int32} {x4 : Int32} {x5 : Int32} {σ : Mm} {r : Int32 × Mm} (h : F_X12_isSpan x1 x2 x3 x4 x5 σ = some r) : Ct m_X12_isSpan S [.ref (sL S 3 0 0), .int (x1), .int (x2), .int (x3), .int (x4), .int (x5)] σ (Qi r) := Ct.of (by decide +kernel) (Nat.le_of_ble_eq_true rfl) (zb_X12_isSpan h)
def F_X12_free_80 (rc30 : Int32 → Int32 → Int32 → Int32 → Int32 → Int32 → Int32 → Mm → Option (Int32 × Mm)) (x1 : Int32) (x3 : Int32) (x4 : Int32) (x5 : Int32) (x6 : Int32) (x7 : Int32) (x8 : Int32) (σ : Mm) : Option (Int32 × Mm) := (rc30 x1 x3 x4 x5 x6 x7 (x8 + 1) σ)
set_option maxRecDepth 20000 in
theorem zb_X12_free_80 {S : Shp} {rc30 : Int32 → Int32 → Int32 → Int32 → Int32 → Int32 → Int32 → Mm → Option (Int32 × Mm)} (hrc30 : ∀ {x1 : Int32} {x3 : Int32} {x4 : Int32} {x5 : Int32} {x6 : Int32} {x7 : Int32} {x8 : Int32} {σ : Mm} {r : Int32 × Mm}, rc30 x1 x3 x4 x5 x6 x7 x8 σ = some r → Z m_X12_free S (Qi r) 30 [(0, .ref (sL S 3 0 0)), (1, .int (x1)), (3, .int (x3)), (4, .int (x4)), (5, .int (x5)), (6, .int (x6)), (7, .int (x7)), (8, .int (x8))] [] σ) {x1 : Int32} {x3 : Int32} {x4 : Int32} {x5 : Int32} {x6 : Int32} {x7 : Int32} {x8 : Int32} {σ : Mm} {r : Int32 × Mm} (h : F_X12_free_80 rc30 x1 x3 x4 x5 x6 x7 x8 σ = some r) : Z m_X12_free S (Qi r) 80 [(0, .ref (sL S 3 0 0)), (1, .int (x1)), (3, .int (x3)), (4, .int (x4)), (5, .int (x5)), (6, .int (x6)), (7, .int (x7)), (8, .int (x8))] [] σ := by
  unfold F_X12_free_80 at h
  refine z_iinc (j := 7) (v := x8 + 1) (lv' := [(0, .ref (sL S 3 0 0)), (1, .int (x1)), (3, .int (x3)), (4, .int (x4)), (5, .int (x5)), (6, .int (x6)), (7, .int (x7)), (8, .int (x8 + 1))]) dX12_free_80 rfl rfl (by decide) [1, 2, 3, 4, 5, 6, 7, 0] rfl ?_
  refine z_goto (tgt := 30) dX12_free_83 (by decide) ?_
  exact hrc30 h
def F_X12_free_55 (rc30 : Int32 → Int32 → Int32 → Int32 → Int32 → Int32 → Int32 → Mm → Option (Int32 × Mm)) (x1 : Int32) (x3 : Int32) (x4 : Int32) (x5 : Int32) (x6 : Int32) (x7 : Int32) (x8 : Int32) (s0 : Int32) (σ : Mm) : Option (Int32 × Mm) := (if x6 < s0 then (F_X12_free_80 rc30 x1 x3 x4 x5 s0 (x3 + (x4 * x8)) x8 σ) else (F_X12_free_80 rc30 x1 x3 x4 x5 x6 x7 x8 σ))
set_option maxRecDepth 20000 in
theorem zb_X12_free_55 {S : Shp} {rc30 : Int32 → Int32 → Int32 → Int32 → Int32 → Int32 → Int32 → Mm → Option (Int32 × Mm)} (hrc30 : ∀ {x1 : Int32} {x3 : Int32} {x4 : Int32} {x5 : Int32} {x6 : Int32} {x7 : Int32} {x8 : Int32} {σ : Mm} {r : Int32 × Mm}, rc30 x1 x3 x4 x5 x6 x7 x8 σ = some r → Z m_X12_free S (Qi r) 30 [(0, .ref (sL S 3 0 0)), (1, .int (x1)), (3, .int (x3)), (4, .int (x4)), (5, .int (x5)), (6, .int (x6)), (7, .int (x7)), (8, .int (x8))] [] σ) {x1 : Int32} {x3 : Int32} {x4 : Int32} {x5 : Int32} {x6 : Int32} {x7 : Int32} {x8 : Int32} {s0 : Int32} {σ : Mm} {r : Int32 × Mm} (h : F_X12_free_55 rc30 x1 x3 x4 x5 x6 x7 x8 s0 σ = some r) : Z m_X12_free S (Qi r) 55 [(0, .ref (sL S 3 0 0)), (1, .int (x1)), (3, .int (x3)), (4, .int (x4)), (5, .int (x5)), (6, .int (x6)), (7, .int (x7)), (8, .int (x8))] [.int (s0)] σ := by
  unfold F_X12_free_55 at h
  refine z_istore (lv' := [(0, .ref (sL S 3 0 0)), (1, .int (x1)), (3, .int (x3)), (4, .int (x4)), (5, .int (x5)), (6, .int (x6)), (7, .int (x7)), (8, .int (x8)), (9, .int (s0))]) dX12_free_55 (by decide) [1, 2, 3, 4, 5, 6, 7, 8, 0] rfl ?_
  refine z_iload dX12_free_57 8 rfl ?_
  refine z_iload dX12_free_59 5 rfl ?_
  refine z_icmp_gt (tgt := 67) dX12_free_61 (by decide) (fun q => ?_) (fun q => ?_)
  · have h := (if_pos q).symm.trans h
    refine z_iload dX12_free_67 8 rfl ?_
    refine z_istore (lv' := [(0, .ref (sL S 3 0 0)), (1, .int (x1)), (3, .int (x3)), (4, .int (x4)), (5, .int (x5)), (6, .int (s0)), (7, .int (x7)), (8, .int (x8)), (9, .int (s0))]) dX12_free_69 (by decide) [1, 2, 3, 4, 5, 0, 6, 7, 8] rfl ?_
    refine z_iload_n dX12_free_71 rfl 2 rfl ?_
    refine z_iload dX12_free_72 3 rfl ?_
    refine z_iload dX12_free_74 7 rfl ?_
    refine z_imul dX12_free_76 ?_
    refine z_iadd dX12_free_77 ?_
    refine z_istore (lv' := [(0, .ref (sL S 3 0 0)), (1, .int (x1)), (3, .int (x3)), (4, .int (x4)), (5, .int (x5)), (6, .int (s0)), (7, .int (x3 + (x4 * x8))), (8, .int (x8)), (9, .int (s0))]) dX12_free_78 (by decide) [1, 2, 3, 4, 5, 6, 0, 7, 8] rfl ?_
    refine Z.lv [0, 1, 2, 3, 4, 5, 6, 7] rfl ?_
    exact zb_X12_free_80 hrc30 h
  · have h := (if_neg q).symm.trans h
    refine z_goto (tgt := 80) dX12_free_64 (by decide) ?_
    refine Z.lv [0, 1, 2, 3, 4, 5, 6, 7] rfl ?_
    exact zb_X12_free_80 hrc30 h
def F_X12_free_48 (rc30 : Int32 → Int32 → Int32 → Int32 → Int32 → Int32 → Int32 → Mm → Option (Int32 × Mm)) (x1 : Int32) (x3 : Int32) (x4 : Int32) (x5 : Int32) (x6 : Int32) (x7 : Int32) (x8 : Int32) (σ : Mm) : Option (Int32 × Mm) := (bnd (F_X12_hitsOf x1 0 0 σ) (fun v τ => (F_X12_free_55 rc30 x1 x3 x4 x5 x6 x7 x8 v τ)))
set_option maxRecDepth 20000 in
theorem zb_X12_free_48 {S : Shp} {rc30 : Int32 → Int32 → Int32 → Int32 → Int32 → Int32 → Int32 → Mm → Option (Int32 × Mm)} (hrc30 : ∀ {x1 : Int32} {x3 : Int32} {x4 : Int32} {x5 : Int32} {x6 : Int32} {x7 : Int32} {x8 : Int32} {σ : Mm} {r : Int32 × Mm}, rc30 x1 x3 x4 x5 x6 x7 x8 σ = some r → Z m_X12_free S (Qi r) 30 [(0, .ref (sL S 3 0 0)), (1, .int (x1)), (3, .int (x3)), (4, .int (x4)), (5, .int (x5)), (6, .int (x6)), (7, .int (x7)), (8, .int (x8))] [] σ) {x1 : Int32} {x3 : Int32} {x4 : Int32} {x5 : Int32} {x6 : Int32} {x7 : Int32} {x8 : Int32} {σ : Mm} {r : Int32 × Mm} (h : F_X12_free_48 rc30 x1 x3 x4 x5 x6 x7 x8 σ = some r) : Z m_X12_free S (Qi r) 48 [(0, .ref (sL S 3 0 0)), (1, .int (x1)), (3, .int (x3)), (4, .int (x4)), (5, .int (x5)), (6, .int (x6)), (7, .int (x7)), (8, .int (x8))] [] σ := by
  unfold F_X12_free_48 at h
  refine z_aload_n dX12_free_48 rfl 0 rfl ?_
  refine z_iload_n dX12_free_49 rfl 1 rfl ?_
  refine z_iconst (v := 0) dX12_free_50 (by decide) ?_
  refine z_iconst (v := 0) dX12_free_51 (by decide) ?_
  obtain ⟨v, τ, hc, h⟩ := bnd_e h
  refine z_callV (M' := m_X12_hitsOf) (t := 3) (i := 0) (k := 0) (As := [.int (x1), .int (0), .int (0)]) (rest := []) kl_12_497 oy_X12_hitsOf ⟨Nat.le_of_ble_eq_true rfl, Nat.le_of_ble_eq_true rfl⟩ rfl rfl rfl rfl (Nat.le_of_ble_eq_true rfl) rfl dX12_free_52 (c_X12_hitsOf hc) (fun v2 τ2 hq => ?_)
  obtain ⟨rfl, hτ⟩ := hq
  subst τ2
  change Z _ _ _ _ _ [.int (v)] _
  exact zb_X12_free_55 hrc30 h
def B_X12_free_30 (rc30 : Int32 → Int32 → Int32 → Int32 → Int32 → Int32 → Int32 → Mm → Option (Int32 × Mm)) (x1 : Int32) (x3 : Int32) (x4 : Int32) (x5 : Int32) (x6 : Int32) (x7 : Int32) (x8 : Int32) (σ : Mm) : Option (Int32 × Mm) := (if x5 ≤ x8 then some (x7, σ) else (bnv (F_X12_laySky (x3 + (x4 * x8)) σ) (fun τ => (F_X12_free_48 rc30 x1 x3 x4 x5 x6 x7 x8 τ))))
set_option maxRecDepth 20000 in
theorem zB_X12_free_30 {S : Shp} {rc30 : Int32 → Int32 → Int32 → Int32 → Int32 → Int32 → Int32 → Mm → Option (Int32 × Mm)} (hrc30 : ∀ {x1 : Int32} {x3 : Int32} {x4 : Int32} {x5 : Int32} {x6 : Int32} {x7 : Int32} {x8 : Int32} {σ : Mm} {r : Int32 × Mm}, rc30 x1 x3 x4 x5 x6 x7 x8 σ = some r → Z m_X12_free S (Qi r) 30 [(0, .ref (sL S 3 0 0)), (1, .int (x1)), (3, .int (x3)), (4, .int (x4)), (5, .int (x5)), (6, .int (x6)), (7, .int (x7)), (8, .int (x8))] [] σ) {x1 : Int32} {x3 : Int32} {x4 : Int32} {x5 : Int32} {x6 : Int32} {x7 : Int32} {x8 : Int32} {σ : Mm} {r : Int32 × Mm} (h : B_X12_free_30 rc30 x1 x3 x4 x5 x6 x7 x8 σ = some r) : Z m_X12_free S (Qi r) 30 [(0, .ref (sL S 3 0 0)), (1, .int (x1)), (3, .int (x3)), (4, .int (x4)), (5, .int (x5)), (6, .int (x6)), (7, .int (x7)), (8, .int (x8))] [] σ := by
  unfold B_X12_free_30 at h
  refine z_iload dX12_free_30 7 rfl ?_
  refine z_iload dX12_free_32 4 rfl ?_
  refine z_icmp_ge (tgt := 86) dX12_free_34 (by decide) (fun q => ?_) (fun q => ?_)
  · have h := (if_pos q).symm.trans h
    refine z_iload dX12_free_86 6 rfl ?_
    cases h
    exact z_ireturn dX12_free_88 rfl rfl ⟨rfl, rfl⟩
  · have h := (if_neg q).symm.trans h
    refine z_aload_n dX12_free_37 rfl 0 rfl ?_
    refine z_iload_n dX12_free_38 rfl 2 rfl ?_
    refine z_iload dX12_free_39 3 rfl ?_
    refine z_iload dX12_free_41 7 rfl ?_
    refine z_imul dX12_free_43 ?_
    refine z_iadd dX12_free_44 ?_
    obtain ⟨τ, hc, h⟩ := bnv_e h
    refine z_callV (M' := m_X12_laySky) (t := 3) (i := 0) (k := 0) (As := [.int (x3 + (x4 * x8))]) (rest := []) kl_12_481 oy_X12_laySky ⟨Nat.le_of_ble_eq_true rfl, Nat.le_of_ble_eq_true rfl⟩ rfl rfl rfl rfl (Nat.le_of_ble_eq_true rfl) rfl dX12_free_45 (c_X12_laySky hc) (fun v2 τ2 hq => ?_)
    obtain ⟨rfl, hτ⟩ := hq
    subst τ2
    change Z _ _ _ _ _ [] _
    exact zb_X12_free_48 hrc30 h
def F_X12_free_30 : Nat → Int32 → Int32 → Int32 → Int32 → Int32 → Int32 → Int32 → Mm → Option (Int32 × Mm)
  | 0 => fun _ _ _ _ _ _ _ _ => none
  | n + 1 => B_X12_free_30 (F_X12_free_30 n)
theorem zl_X12_free_30 {S : Shp} : ∀ (nn : Nat) {x1 : Int32} {x3 : Int32} {x4 : Int32} {x5 : Int32} {x6 : Int32} {x7 : Int32} {x8 : Int32} {σ : Mm} {r : Int32 × Mm}, F_X12_free_30 nn x1 x3 x4 x5 x6 x7 x8 σ = some r → Z m_X12_free S (Qi r) 30 [(0, .ref (sL S 3 0 0)), (1, .int (x1)), (3, .int (x3)), (4, .int (x4)), (5, .int (x5)), (6, .int (x6)), (7, .int (x7)), (8, .int (x8))] [] σ := by
  intro nn
  induction nn with
  | zero => intro x1 x3 x4 x5 x6 x7 x8 σ r h; cases h
  | succ nn ih => intro x1 x3 x4 x5 x6 x7 x8 σ r h; exact zB_X12_free_30 @ih h
def F_X12_free_21 (x1 : Int32) (x3 : Int32) (x4 : Int32) (x5 : Int32) (σ : Mm) : Option (Int32 × Mm) := (F_X12_free_30 FU x1 x3 x4 x5 ((-1)) ((-1)) 0 σ)
set_option maxRecDepth 20000 in
theorem zb_X12_free_21 {S : Shp} {x1 : Int32} {x3 : Int32} {x4 : Int32} {x5 : Int32} {σ : Mm} {r : Int32 × Mm} (h : F_X12_free_21 x1 x3 x4 x5 σ = some r) : Z m_X12_free S (Qi r) 21 [(0, .ref (sL S 3 0 0)), (1, .int (x1)), (3, .int (x3)), (4, .int (x4)), (5, .int (x5))] [] σ := by
  unfold F_X12_free_21 at h
  refine z_iconst (v := (-1)) dX12_free_21 (by decide) ?_
  refine z_istore (lv' := [(0, .ref (sL S 3 0 0)), (1, .int (x1)), (3, .int (x3)), (4, .int (x4)), (5, .int (x5)), (6, .int ((-1)))]) dX12_free_22 (by decide) [1, 2, 3, 4, 5, 0] rfl ?_
  refine z_iconst (v := (-1)) dX12_free_24 (by decide) ?_
  refine z_istore (lv' := [(0, .ref (sL S 3 0 0)), (1, .int (x1)), (3, .int (x3)), (4, .int (x4)), (5, .int (x5)), (6, .int ((-1))), (7, .int ((-1)))]) dX12_free_25 (by decide) [1, 2, 3, 4, 5, 6, 0] rfl ?_
  refine z_iconst (v := 0) dX12_free_27 (by decide) ?_
  refine z_istore (lv' := [(0, .ref (sL S 3 0 0)), (1, .int (x1)), (3, .int (x3)), (4, .int (x4)), (5, .int (x5)), (6, .int ((-1))), (7, .int ((-1))), (8, .int (0))]) dX12_free_28 (by decide) [1, 2, 3, 4, 5, 6, 7, 0] rfl ?_
  exact zl_X12_free_30 FU h
def F_X12_free_11 (x1 : Int32) (x2 : Int32) (x3 : Int32) (x4 : Int32) (x5 : Int32) (s0 : Int32) (σ : Mm) : Option (Int32 × Mm) := (if s0 = 0 then some ((-1), σ) else (bnv (F_X12_lay x2 σ) (fun τ => (F_X12_free_21 x1 x3 x4 x5 τ))))
set_option maxRecDepth 20000 in
theorem zb_X12_free_11 {S : Shp} {x1 : Int32} {x2 : Int32} {x3 : Int32} {x4 : Int32} {x5 : Int32} {s0 : Int32} {σ : Mm} {r : Int32 × Mm} (h : F_X12_free_11 x1 x2 x3 x4 x5 s0 σ = some r) : Z m_X12_free S (Qi r) 11 [(0, .ref (sL S 3 0 0)), (1, .int (x1)), (2, .int (x2)), (3, .int (x3)), (4, .int (x4)), (5, .int (x5))] [.int (s0)] σ := by
  unfold F_X12_free_11 at h
  refine z_if_ne (tgt := 16) dX12_free_11 (by decide) (fun q => ?_) (fun q => ?_)
  · have h := (if_neg q).symm.trans h
    refine z_aload_n dX12_free_16 rfl 0 rfl ?_
    refine z_iload_n dX12_free_17 rfl 2 rfl ?_
    obtain ⟨τ, hc, h⟩ := bnv_e h
    refine z_callV (M' := m_X12_lay) (t := 3) (i := 0) (k := 0) (As := [.int (x2)]) (rest := []) kl_12_463 oy_X12_lay ⟨Nat.le_of_ble_eq_true rfl, Nat.le_of_ble_eq_true rfl⟩ rfl rfl rfl rfl (Nat.le_of_ble_eq_true rfl) rfl dX12_free_18 (c_X12_lay hc) (fun v2 τ2 hq => ?_)
    obtain ⟨rfl, hτ⟩ := hq
    subst τ2
    change Z _ _ _ _ _ [] _
    refine Z.lv [0, 1, 3, 4, 5] rfl ?_
    exact zb_X12_free_21 h
  · have h := (if_pos q).symm.trans h
    refine z_iconst (v := (-1)) dX12_free_14 (by decide) ?_
    cases h
    exact z_ireturn dX12_free_15 rfl rfl ⟨rfl, rfl⟩
def F_X12_free (x1 : Int32) (x2 : Int32) (x3 : Int32) (x4 : Int32) (x5 : Int32) (σ : Mm) : Option (Int32 × Mm) := (bnd (F_X12_isSpan x1 x2 x3 x4 x5 σ) (fun v τ => (F_X12_free_11 x1 x2 x3 x4 x5 v τ)))
set_option maxRecDepth 20000 in
theorem zb_X12_free {S : Shp} {x1 : Int32} {x2 : Int32} {x3 : Int32} {x4 : Int32} {x5 : Int32} {σ : Mm} {r : Int32 × Mm} (h : F_X12_free x1 x2 x3 x4 x5 σ = some r) : Z m_X12_free S (Qi r) 0 [(0, .ref (sL S 3 0 0)), (1, .int (x1)), (2, .int (x2)), (3, .int (x3)), (4, .int (x4)), (5, .int (x5))] [] σ := by
  unfold F_X12_free at h
  refine z_aload_n dX12_free_0 rfl 0 rfl ?_
  refine z_iload_n dX12_free_1 rfl 1 rfl ?_
  refine z_iload_n dX12_free_2 rfl 2 rfl ?_
  refine z_iload_n dX12_free_3 rfl 3 rfl ?_
  refine z_iload dX12_free_4 4 rfl ?_
  refine z_iload dX12_free_6 5 rfl ?_
  obtain ⟨v, τ, hc, h⟩ := bnd_e h
  refine z_callV (M' := m_X12_isSpan) (t := 3) (i := 0) (k := 0) (As := [.int (x1), .int (x2), .int (x3), .int (x4), .int (x5)]) (rest := []) kl_12_509 oy_X12_isSpan ⟨Nat.le_of_ble_eq_true rfl, Nat.le_of_ble_eq_true rfl⟩ rfl rfl rfl rfl (Nat.le_of_ble_eq_true rfl) rfl dX12_free_8 (c_X12_isSpan hc) (fun v2 τ2 hq => ?_)
  obtain ⟨rfl, hτ⟩ := hq
  subst τ2
  change Z _ _ _ _ _ [.int (v)] _
  exact zb_X12_free_11 h
/-- SkyStonesModel.free(IIIII)I -/
theorem c_X12_free {S : Shp} {x1 : Int32} {x2 : Int32} {x3 : Int32} {x4 : Int32} {x5 : Int32} {σ : Mm} {r : Int32 × Mm} (h : F_X12_free x1 x2 x3 x4 x5 σ = some r) : Ct m_X12_free S [.ref (sL S 3 0 0), .int (x1), .int (x2), .int (x3), .int (x4), .int (x5)] σ (Qi r) := Ct.of (by decide +kernel) (Nat.le_of_ble_eq_true rfl) (zb_X12_free h)
def F_X12_freer_83 (rc46 : Int32 → Int32 → Int32 → Int32 → Int32 → Int32 → Int32 → Mm → Option (Int32 × Mm)) (x1 : Int32) (x3 : Int32) (x4 : Int32) (x5 : Int32) (x7 : Int32) (x9 : Int32) (s0 : Int32) (s1 : Int32) (σ : Mm) : Option (Int32 × Mm) := (rc46 x1 x3 x4 x5 x7 (s1 + s0) (x9 + 1) σ)
set_option maxRecDepth 20000 in
theorem zb_X12_freer_83 {S : Shp} {rc46 : Int32 → Int32 → Int32 → Int32 → Int32 → Int32 → Int32 → Mm → Option (Int32 × Mm)} (hrc46 : ∀ {x1 : Int32} {x3 : Int32} {x4 : Int32} {x5 : Int32} {x7 : Int32} {x8 : Int32} {x9 : Int32} {σ : Mm} {r : Int32 × Mm}, rc46 x1 x3 x4 x5 x7 x8 x9 σ = some r → Z m_X12_freer S (Qi r) 46 [(0, .ref (sL S 3 0 0)), (1, .int (x1)), (3, .int (x3)), (4, .int (x4)), (5, .int (x5)), (7, .int (x7)), (8, .int (x8)), (9, .int (x9))] [] σ) {x1 : Int32} {x3 : Int32} {x4 : Int32} {x5 : Int32} {x7 : Int32} {x9 : Int32} {s0 : Int32} {s1 : Int32} {σ : Mm} {r : Int32 × Mm} (h : F_X12_freer_83 rc46 x1 x3 x4 x5 x7 x9 s0 s1 σ = some r) : Z m_X12_freer S (Qi r) 83 [(0, .ref (sL S 3 0 0)), (1, .int (x1)), (3, .int (x3)), (4, .int (x4)), (5, .int (x5)), (7, .int (x7)), (9, .int (x9))] [.int (s0), .int (s1)] σ := by
  unfold F_X12_freer_83 at h
  refine z_iadd dX12_freer_83 ?_
  refine z_istore (lv' := [(0, .ref (sL S 3 0 0)), (1, .int (x1)), (3, .int (x3)), (4, .int (x4)), (5, .int (x5)), (7, .int (x7)), (8, .int (s1 + s0)), (9, .int (x9))]) dX12_freer_84 (by decide) [1, 2, 3, 4, 5, 6, 0, 7] rfl ?_
  refine z_iinc (j := 7) (v := x9 + 1) (lv' := [(0, .ref (sL S 3 0 0)), (1, .int (x1)), (3, .int (x3)), (4, .int (x4)), (5, .int (x5)), (7, .int (x7)), (8, .int (s1 + s0)), (9, .int (x9 + 1))]) dX12_freer_86 rfl rfl (by decide) [1, 2, 3, 4, 5, 6, 7, 0] rfl ?_
  refine z_goto (tgt := 46) dX12_freer_89 (by decide) ?_
  exact hrc46 h
def F_X12_freer_73 (rc46 : Int32 → Int32 → Int32 → Int32 → Int32 → Int32 → Int32 → Mm → Option (Int32 × Mm)) (x1 : Int32) (x3 : Int32) (x4 : Int32) (x5 : Int32) (x7 : Int32) (x9 : Int32) (s0 : Int32) (s1 : Int32) (σ : Mm) : Option (Int32 × Mm) := (if s0 < x7 then (F_X12_freer_83 rc46 x1 x3 x4 x5 x7 x9 0 s1 σ) else (F_X12_freer_83 rc46 x1 x3 x4 x5 x7 x9 1 s1 σ))
set_option maxRecDepth 20000 in
theorem zb_X12_freer_73 {S : Shp} {rc46 : Int32 → Int32 → Int32 → Int32 → Int32 → Int32 → Int32 → Mm → Option (Int32 × Mm)} (hrc46 : ∀ {x1 : Int32} {x3 : Int32} {x4 : Int32} {x5 : Int32} {x7 : Int32} {x8 : Int32} {x9 : Int32} {σ : Mm} {r : Int32 × Mm}, rc46 x1 x3 x4 x5 x7 x8 x9 σ = some r → Z m_X12_freer S (Qi r) 46 [(0, .ref (sL S 3 0 0)), (1, .int (x1)), (3, .int (x3)), (4, .int (x4)), (5, .int (x5)), (7, .int (x7)), (8, .int (x8)), (9, .int (x9))] [] σ) {x1 : Int32} {x3 : Int32} {x4 : Int32} {x5 : Int32} {x7 : Int32} {x9 : Int32} {s0 : Int32} {s1 : Int32} {σ : Mm} {r : Int32 × Mm} (h : F_X12_freer_73 rc46 x1 x3 x4 x5 x7 x9 s0 s1 σ = some r) : Z m_X12_freer S (Qi r) 73 [(0, .ref (sL S 3 0 0)), (1, .int (x1)), (3, .int (x3)), (4, .int (x4)), (5, .int (x5)), (7, .int (x7)), (9, .int (x9))] [.int (s0), .int (s1)] σ := by
  unfold F_X12_freer_73 at h
  refine z_iload dX12_freer_73 5 rfl ?_
  refine z_icmp_lt (tgt := 82) dX12_freer_75 (by decide) (fun q => ?_) (fun q => ?_)
  · have h := (if_pos q).symm.trans h
    refine z_iconst (v := 0) dX12_freer_82 (by decide) ?_
    exact zb_X12_freer_83 hrc46 h
  · have h := (if_neg q).symm.trans h
    refine z_iconst (v := 1) dX12_freer_78 (by decide) ?_
    refine z_goto (tgt := 83) dX12_freer_79 (by decide) ?_
    exact zb_X12_freer_83 hrc46 h
def F_X12_freer_64 (rc46 : Int32 → Int32 → Int32 → Int32 → Int32 → Int32 → Int32 → Mm → Option (Int32 × Mm)) (x1 : Int32) (x3 : Int32) (x4 : Int32) (x5 : Int32) (x7 : Int32) (x8 : Int32) (x9 : Int32) (σ : Mm) : Option (Int32 × Mm) := (bnd (F_X12_hitsOf x1 0 0 σ) (fun v τ => (F_X12_freer_73 rc46 x1 x3 x4 x5 x7 x9 v x8 τ)))
set_option maxRecDepth 20000 in
theorem zb_X12_freer_64 {S : Shp} {rc46 : Int32 → Int32 → Int32 → Int32 → Int32 → Int32 → Int32 → Mm → Option (Int32 × Mm)} (hrc46 : ∀ {x1 : Int32} {x3 : Int32} {x4 : Int32} {x5 : Int32} {x7 : Int32} {x8 : Int32} {x9 : Int32} {σ : Mm} {r : Int32 × Mm}, rc46 x1 x3 x4 x5 x7 x8 x9 σ = some r → Z m_X12_freer S (Qi r) 46 [(0, .ref (sL S 3 0 0)), (1, .int (x1)), (3, .int (x3)), (4, .int (x4)), (5, .int (x5)), (7, .int (x7)), (8, .int (x8)), (9, .int (x9))] [] σ) {x1 : Int32} {x3 : Int32} {x4 : Int32} {x5 : Int32} {x7 : Int32} {x8 : Int32} {x9 : Int32} {σ : Mm} {r : Int32 × Mm} (h : F_X12_freer_64 rc46 x1 x3 x4 x5 x7 x8 x9 σ = some r) : Z m_X12_freer S (Qi r) 64 [(0, .ref (sL S 3 0 0)), (1, .int (x1)), (3, .int (x3)), (4, .int (x4)), (5, .int (x5)), (7, .int (x7)), (8, .int (x8)), (9, .int (x9))] [] σ := by
  unfold F_X12_freer_64 at h
  refine z_iload dX12_freer_64 6 rfl ?_
  refine z_aload_n dX12_freer_66 rfl 0 rfl ?_
  refine z_iload_n dX12_freer_67 rfl 1 rfl ?_
  refine z_iconst (v := 0) dX12_freer_68 (by decide) ?_
  refine z_iconst (v := 0) dX12_freer_69 (by decide) ?_
  obtain ⟨v, τ, hc, h⟩ := bnd_e h
  refine z_callV (M' := m_X12_hitsOf) (t := 3) (i := 0) (k := 0) (As := [.int (x1), .int (0), .int (0)]) (rest := [.int (x8)]) kl_12_497 oy_X12_hitsOf ⟨Nat.le_of_ble_eq_true rfl, Nat.le_of_ble_eq_true rfl⟩ rfl rfl rfl rfl (Nat.le_of_ble_eq_true rfl) rfl dX12_freer_70 (c_X12_hitsOf hc) (fun v2 τ2 hq => ?_)
  obtain ⟨rfl, hτ⟩ := hq
  subst τ2
  change Z _ _ _ _ _ [.int (v), .int (x8)] _
  refine Z.lv [0, 1, 2, 3, 4, 5, 7] rfl ?_
  exact zb_X12_freer_73 hrc46 h
def B_X12_freer_46 (rc46 : Int32 → Int32 → Int32 → Int32 → Int32 → Int32 → Int32 → Mm → Option (Int32 × Mm)) (x1 : Int32) (x3 : Int32) (x4 : Int32) (x5 : Int32) (x7 : Int32) (x8 : Int32) (x9 : Int32) (σ : Mm) : Option (Int32 × Mm) := (if x5 ≤ x9 then some (x8, σ) else (bnv (F_X12_laySky (x3 + (x4 * x9)) σ) (fun τ => (F_X12_freer_64 rc46 x1 x3 x4 x5 x7 x8 x9 τ))))
set_option maxRecDepth 20000 in
theorem zB_X12_freer_46 {S : Shp} {rc46 : Int32 → Int32 → Int32 → Int32 → Int32 → Int32 → Int32 → Mm → Option (Int32 × Mm)} (hrc46 : ∀ {x1 : Int32} {x3 : Int32} {x4 : Int32} {x5 : Int32} {x7 : Int32} {x8 : Int32} {x9 : Int32} {σ : Mm} {r : Int32 × Mm}, rc46 x1 x3 x4 x5 x7 x8 x9 σ = some r → Z m_X12_freer S (Qi r) 46 [(0, .ref (sL S 3 0 0)), (1, .int (x1)), (3, .int (x3)), (4, .int (x4)), (5, .int (x5)), (7, .int (x7)), (8, .int (x8)), (9, .int (x9))] [] σ) {x1 : Int32} {x3 : Int32} {x4 : Int32} {x5 : Int32} {x7 : Int32} {x8 : Int32} {x9 : Int32} {σ : Mm} {r : Int32 × Mm} (h : B_X12_freer_46 rc46 x1 x3 x4 x5 x7 x8 x9 σ = some r) : Z m_X12_freer S (Qi r) 46 [(0, .ref (sL S 3 0 0)), (1, .int (x1)), (3, .int (x3)), (4, .int (x4)), (5, .int (x5)), (7, .int (x7)), (8, .int (x8)), (9, .int (x9))] [] σ := by
  unfold B_X12_freer_46 at h
  refine z_iload dX12_freer_46 7 rfl ?_
  refine z_iload dX12_freer_48 4 rfl ?_
  refine z_icmp_ge (tgt := 92) dX12_freer_50 (by decide) (fun q => ?_) (fun q => ?_)
  · have h := (if_pos q).symm.trans h
    refine z_iload dX12_freer_92 6 rfl ?_
    cases h
    exact z_ireturn dX12_freer_94 rfl rfl ⟨rfl, rfl⟩
  · have h := (if_neg q).symm.trans h
    refine z_aload_n dX12_freer_53 rfl 0 rfl ?_
    refine z_iload_n dX12_freer_54 rfl 2 rfl ?_
    refine z_iload dX12_freer_55 3 rfl ?_
    refine z_iload dX12_freer_57 7 rfl ?_
    refine z_imul dX12_freer_59 ?_
    refine z_iadd dX12_freer_60 ?_
    obtain ⟨τ, hc, h⟩ := bnv_e h
    refine z_callV (M' := m_X12_laySky) (t := 3) (i := 0) (k := 0) (As := [.int (x3 + (x4 * x9))]) (rest := []) kl_12_481 oy_X12_laySky ⟨Nat.le_of_ble_eq_true rfl, Nat.le_of_ble_eq_true rfl⟩ rfl rfl rfl rfl (Nat.le_of_ble_eq_true rfl) rfl dX12_freer_61 (c_X12_laySky hc) (fun v2 τ2 hq => ?_)
    obtain ⟨rfl, hτ⟩ := hq
    subst τ2
    change Z _ _ _ _ _ [] _
    exact zb_X12_freer_64 hrc46 h
def F_X12_freer_46 : Nat → Int32 → Int32 → Int32 → Int32 → Int32 → Int32 → Int32 → Mm → Option (Int32 × Mm)
  | 0 => fun _ _ _ _ _ _ _ _ => none
  | n + 1 => B_X12_freer_46 (F_X12_freer_46 n)
theorem zl_X12_freer_46 {S : Shp} : ∀ (nn : Nat) {x1 : Int32} {x3 : Int32} {x4 : Int32} {x5 : Int32} {x7 : Int32} {x8 : Int32} {x9 : Int32} {σ : Mm} {r : Int32 × Mm}, F_X12_freer_46 nn x1 x3 x4 x5 x7 x8 x9 σ = some r → Z m_X12_freer S (Qi r) 46 [(0, .ref (sL S 3 0 0)), (1, .int (x1)), (3, .int (x3)), (4, .int (x4)), (5, .int (x5)), (7, .int (x7)), (8, .int (x8)), (9, .int (x9))] [] σ := by
  intro nn
  induction nn with
  | zero => intro x1 x3 x4 x5 x7 x8 x9 σ r h; cases h
  | succ nn ih => intro x1 x3 x4 x5 x7 x8 x9 σ r h; exact zB_X12_freer_46 @ih h
def F_X12_freer_38 (x1 : Int32) (x3 : Int32) (x4 : Int32) (x5 : Int32) (s0 : Int32) (σ : Mm) : Option (Int32 × Mm) := (F_X12_freer_46 FU x1 x3 x4 x5 s0 0 0 σ)
set_option maxRecDepth 20000 in
theorem zb_X12_freer_38 {S : Shp} {x1 : Int32} {x3 : Int32} {x4 : Int32} {x5 : Int32} {s0 : Int32} {σ : Mm} {r : Int32 × Mm} (h : F_X12_freer_38 x1 x3 x4 x5 s0 σ = some r) : Z m_X12_freer S (Qi r) 38 [(0, .ref (sL S 3 0 0)), (1, .int (x1)), (3, .int (x3)), (4, .int (x4)), (5, .int (x5))] [.int (s0)] σ := by
  unfold F_X12_freer_38 at h
  refine z_istore (lv' := [(0, .ref (sL S 3 0 0)), (1, .int (x1)), (3, .int (x3)), (4, .int (x4)), (5, .int (x5)), (7, .int (s0))]) dX12_freer_38 (by decide) [1, 2, 3, 4, 5, 0] rfl ?_
  refine z_iconst (v := 0) dX12_freer_40 (by decide) ?_
  refine z_istore (lv' := [(0, .ref (sL S 3 0 0)), (1, .int (x1)), (3, .int (x3)), (4, .int (x4)), (5, .int (x5)), (7, .int (s0)), (8, .int (0))]) dX12_freer_41 (by decide) [1, 2, 3, 4, 5, 6, 0] rfl ?_
  refine z_iconst (v := 0) dX12_freer_43 (by decide) ?_
  refine z_istore (lv' := [(0, .ref (sL S 3 0 0)), (1, .int (x1)), (3, .int (x3)), (4, .int (x4)), (5, .int (x5)), (7, .int (s0)), (8, .int (0)), (9, .int (0))]) dX12_freer_44 (by decide) [1, 2, 3, 4, 5, 6, 7, 0] rfl ?_
  exact zl_X12_freer_46 FU h
def F_X12_freer_31 (x1 : Int32) (x3 : Int32) (x4 : Int32) (x5 : Int32) (σ : Mm) : Option (Int32 × Mm) := (bnd (F_X12_hitsOf x1 0 0 σ) (fun v τ => (F_X12_freer_38 x1 x3 x4 x5 v τ)))
set_option maxRecDepth 20000 in
theorem zb_X12_freer_31 {S : Shp} {x1 : Int32} {x3 : Int32} {x4 : Int32} {x5 : Int32} {σ : Mm} {r : Int32 × Mm} (h : F_X12_freer_31 x1 x3 x4 x5 σ = some r) : Z m_X12_freer S (Qi r) 31 [(0, .ref (sL S 3 0 0)), (1, .int (x1)), (3, .int (x3)), (4, .int (x4)), (5, .int (x5))] [] σ := by
  unfold F_X12_freer_31 at h
  refine z_aload_n dX12_freer_31 rfl 0 rfl ?_
  refine z_iload_n dX12_freer_32 rfl 1 rfl ?_
  refine z_iconst (v := 0) dX12_freer_33 (by decide) ?_
  refine z_iconst (v := 0) dX12_freer_34 (by decide) ?_
  obtain ⟨v, τ, hc, h⟩ := bnd_e h
  refine z_callV (M' := m_X12_hitsOf) (t := 3) (i := 0) (k := 0) (As := [.int (x1), .int (0), .int (0)]) (rest := []) kl_12_497 oy_X12_hitsOf ⟨Nat.le_of_ble_eq_true rfl, Nat.le_of_ble_eq_true rfl⟩ rfl rfl rfl rfl (Nat.le_of_ble_eq_true rfl) rfl dX12_freer_35 (c_X12_hitsOf hc) (fun v2 τ2 hq => ?_)
  obtain ⟨rfl, hτ⟩ := hq
  subst τ2
  change Z _ _ _ _ _ [.int (v)] _
  exact zb_X12_freer_38 h
def F_X12_freer_11 (x1 : Int32) (x2 : Int32) (x3 : Int32) (x4 : Int32) (x5 : Int32) (x6 : Int32) (s0 : Int32) (σ : Mm) : Option (Int32 × Mm) := (if s0 = 0 then some ((-1), σ) else (if (f_X12_isYear x6) = 0 then some ((-1), σ) else (bnv (F_X12_layAll x6 x2 σ) (fun τ => (F_X12_freer_31 x1 x3 x4 x5 τ)))))
set_option maxRecDepth 20000 in
theorem zb_X12_freer_11 {S : Shp} {x1 : Int32} {x2 : Int32} {x3 : Int32} {x4 : Int32} {x5 : Int32} {x6 : Int32} {s0 : Int32} {σ : Mm} {r : Int32 × Mm} (h : F_X12_freer_11 x1 x2 x3 x4 x5 x6 s0 σ = some r) : Z m_X12_freer S (Qi r) 11 [(0, .ref (sL S 3 0 0)), (1, .int (x1)), (2, .int (x2)), (3, .int (x3)), (4, .int (x4)), (5, .int (x5)), (6, .int (x6))] [.int (s0)] σ := by
  unfold F_X12_freer_11 at h
  refine z_if_eq (tgt := 22) dX12_freer_11 (by decide) (fun q => ?_) (fun q => ?_)
  · have h := (if_pos q).symm.trans h
    refine z_iconst (v := (-1)) dX12_freer_22 (by decide) ?_
    cases h
    exact z_ireturn dX12_freer_23 rfl rfl ⟨rfl, rfl⟩
  · have h := (if_neg q).symm.trans h
    refine z_iload dX12_freer_14 6 rfl ?_
    refine z_callS (M' := m_X12_isYear) (As := [.int (x6)]) (rest := []) kl_12_472 oy_X12_isYear ⟨Nat.le_of_ble_eq_true rfl, Nat.le_of_ble_eq_true rfl⟩ rfl (Nat.le_of_ble_eq_true rfl) rfl dX12_freer_16 (c_X12_isYear rfl) (fun v τ hq => ?_)
    obtain ⟨rfl, hτ⟩ := hq
    subst τ
    change Z _ _ _ _ _ [.int (f_X12_isYear x6)] _
    refine z_if_ne (tgt := 24) dX12_freer_19 (by decide) (fun q => ?_) (fun q => ?_)
    · have h := (if_neg q).symm.trans h
      refine z_aload_n dX12_freer_24 rfl 0 rfl ?_
      refine z_iload dX12_freer_25 6 rfl ?_
      refine z_iload_n dX12_freer_27 rfl 2 rfl ?_
      obtain ⟨τ, hc, h⟩ := bnv_e h
      refine z_callV (M' := m_X12_layAll) (t := 3) (i := 0) (k := 0) (As := [.int (x6), .int (x2)]) (rest := []) kl_12_494 oy_X12_layAll ⟨Nat.le_of_ble_eq_true rfl, Nat.le_of_ble_eq_true rfl⟩ rfl rfl rfl rfl (Nat.le_of_ble_eq_true rfl) rfl dX12_freer_28 (c_X12_layAll hc) (fun v2 τ2 hq => ?_)
      obtain ⟨rfl, hτ⟩ := hq
      subst τ2
      change Z _ _ _ _ _ [] _
      refine Z.lv [0, 1, 3, 4, 5] rfl ?_
      exact zb_X12_freer_31 h
    · have h := (if_pos q).symm.trans h
      refine z_iconst (v := (-1)) dX12_freer_22 (by decide) ?_
      cases h
      exact z_ireturn dX12_freer_23 rfl rfl ⟨rfl, rfl⟩
def F_X12_freer (x1 : Int32) (x2 : Int32) (x3 : Int32) (x4 : Int32) (x5 : Int32) (x6 : Int32) (σ : Mm) : Option (Int32 × Mm) := (bnd (F_X12_isSpan x1 x2 x3 x4 x5 σ) (fun v τ => (F_X12_freer_11 x1 x2 x3 x4 x5 x6 v τ)))
set_option maxRecDepth 20000 in
theorem zb_X12_freer {S : Shp} {x1 : Int32} {x2 : Int32} {x3 : Int32} {x4 : Int32} {x5 : Int32} {x6 : Int32} {σ : Mm} {r : Int32 × Mm} (h : F_X12_freer x1 x2 x3 x4 x5 x6 σ = some r) : Z m_X12_freer S (Qi r) 0 [(0, .ref (sL S 3 0 0)), (1, .int (x1)), (2, .int (x2)), (3, .int (x3)), (4, .int (x4)), (5, .int (x5)), (6, .int (x6))] [] σ := by
  unfold F_X12_freer at h
  refine z_aload_n dX12_freer_0 rfl 0 rfl ?_
  refine z_iload_n dX12_freer_1 rfl 1 rfl ?_
  refine z_iload_n dX12_freer_2 rfl 2 rfl ?_
  refine z_iload_n dX12_freer_3 rfl 3 rfl ?_
  refine z_iload dX12_freer_4 4 rfl ?_
  refine z_iload dX12_freer_6 5 rfl ?_
  obtain ⟨v, τ, hc, h⟩ := bnd_e h
  refine z_callV (M' := m_X12_isSpan) (t := 3) (i := 0) (k := 0) (As := [.int (x1), .int (x2), .int (x3), .int (x4), .int (x5)]) (rest := []) kl_12_509 oy_X12_isSpan ⟨Nat.le_of_ble_eq_true rfl, Nat.le_of_ble_eq_true rfl⟩ rfl rfl rfl rfl (Nat.le_of_ble_eq_true rfl) rfl dX12_freer_8 (c_X12_isSpan hc) (fun v2 τ2 hq => ?_)
  obtain ⟨rfl, hτ⟩ := hq
  subst τ2
  change Z _ _ _ _ _ [.int (v)] _
  exact zb_X12_freer_11 h
/-- SkyStonesModel.freer(IIIIII)I -/
theorem c_X12_freer {S : Shp} {x1 : Int32} {x2 : Int32} {x3 : Int32} {x4 : Int32} {x5 : Int32} {x6 : Int32} {σ : Mm} {r : Int32 × Mm} (h : F_X12_freer x1 x2 x3 x4 x5 x6 σ = some r) : Ct m_X12_freer S [.ref (sL S 3 0 0), .int (x1), .int (x2), .int (x3), .int (x4), .int (x5), .int (x6)] σ (Qi r) := Ct.of (by decide +kernel) (Nat.le_of_ble_eq_true rfl) (zb_X12_freer h)
