def F_X12_look_20 (rc2 : Int32 → Int32 → Mm → Option (Mm)) (x1 : Int32) (x2 : Int32) (σ : Mm) : Option (Mm) := (rc2 x1 (x2 + 1) σ)
set_option maxRecDepth 20000 in
theorem zb_X12_look_20 {S : Shp} {rc2 : Int32 → Int32 → Mm → Option (Mm)} (hrc2 : ∀ {x1 : Int32} {x2 : Int32} {σ : Mm} {r : Mm}, rc2 x1 x2 σ = some r → Z m_X12_look S (Qv r) 2 [(0, .ref (sL S 3 0 0)), (1, .int (x1)), (2, .int (x2))] [] σ) {x1 : Int32} {x2 : Int32} {σ : Mm} {r : Mm} (h : F_X12_look_20 rc2 x1 x2 σ = some r) : Z m_X12_look S (Qv r) 20 [(0, .ref (sL S 3 0 0)), (1, .int (x1)), (2, .int (x2))] [] σ := by
  unfold F_X12_look_20 at h
  refine z_iinc (j := 2) (v := x2 + 1) (lv' := [(0, .ref (sL S 3 0 0)), (1, .int (x1)), (2, .int (x2 + 1))]) dX12_look_20 rfl rfl (by decide) [1, 2, 0] rfl ?_
  refine z_goto (tgt := 2) dX12_look_23 (by decide) ?_
  exact hrc2 h
def F_X12_look_19 (rc2 : Int32 → Int32 → Mm → Option (Mm)) (x1 : Int32) (x2 : Int32) (s0 : Int32) (s1 : Int32) (σ : Mm) : Option (Mm) := (if inb s1 9 = true then (F_X12_look_20 rc2 x1 x2 (setA σ 3 0 56 (upd (mA σ 3 0 56) s1.toNatClampNeg s0))) else none)
set_option maxRecDepth 20000 in
theorem zb_X12_look_19 {S : Shp} {rc2 : Int32 → Int32 → Mm → Option (Mm)} (hrc2 : ∀ {x1 : Int32} {x2 : Int32} {σ : Mm} {r : Mm}, rc2 x1 x2 σ = some r → Z m_X12_look S (Qv r) 2 [(0, .ref (sL S 3 0 0)), (1, .int (x1)), (2, .int (x2))] [] σ) {x1 : Int32} {x2 : Int32} {s0 : Int32} {s1 : Int32} {σ : Mm} {r : Mm} (h : F_X12_look_19 rc2 x1 x2 s0 s1 σ = some r) : Z m_X12_look S (Qv r) 19 [(0, .ref (sL S 3 0 0)), (1, .int (x1)), (2, .int (x2))] [.int (s0), .int (s1), .ref (sL S 3 0 56)] σ := by
  unfold F_X12_look_19 at h
  obtain ⟨g1, h⟩ := gd h
  refine is_3_56 (inb_in g1) dX12_look_19 ?_
  exact zb_X12_look_20 hrc2 h
def B_X12_look_2 (rc2 : Int32 → Int32 → Mm → Option (Mm)) (x1 : Int32) (x2 : Int32) (σ : Mm) : Option (Mm) := (if (9 : Int32) ≤ x2 then some (σ) else (bnd (F_X12_lineOf x1 x2 σ) (fun v τ => (F_X12_look_19 rc2 x1 x2 v x2 τ))))
set_option maxRecDepth 20000 in
theorem zB_X12_look_2 {S : Shp} {rc2 : Int32 → Int32 → Mm → Option (Mm)} (hrc2 : ∀ {x1 : Int32} {x2 : Int32} {σ : Mm} {r : Mm}, rc2 x1 x2 σ = some r → Z m_X12_look S (Qv r) 2 [(0, .ref (sL S 3 0 0)), (1, .int (x1)), (2, .int (x2))] [] σ) {x1 : Int32} {x2 : Int32} {σ : Mm} {r : Mm} (h : B_X12_look_2 rc2 x1 x2 σ = some r) : Z m_X12_look S (Qv r) 2 [(0, .ref (sL S 3 0 0)), (1, .int (x1)), (2, .int (x2))] [] σ := by
  unfold B_X12_look_2 at h
  refine z_iload_n dX12_look_2 rfl 2 rfl ?_
  refine z_bipush (v := 9) dX12_look_3 (by decide) ?_
  refine z_icmp_ge (tgt := 26) dX12_look_5 (by decide) (fun q => ?_) (fun q => ?_)
  · have h := (if_pos q).symm.trans h
    cases h
    exact z_return dX12_look_26 rfl ⟨rfl, rfl⟩
  · have h := (if_neg q).symm.trans h
    refine z_aload_n dX12_look_8 rfl 0 rfl ?_
    refine gf_12_181 rfl dX12_look_9 ?_
    refine z_iload_n dX12_look_12 rfl 2 rfl ?_
    refine z_aload_n dX12_look_13 rfl 0 rfl ?_
    refine z_iload_n dX12_look_14 rfl 1 rfl ?_
    refine z_iload_n dX12_look_15 rfl 2 rfl ?_
    obtain ⟨v, τ, hc, h⟩ := bnd_e h
    refine z_callV (M' := m_X12_lineOf) (t := 3) (i := 0) (k := 0) (As := [.int (x1), .int (x2)]) (rest := [.int (x2), .ref (sL S 3 0 56)]) kl_12_441 oy_X12_lineOf ⟨Nat.le_of_ble_eq_true rfl, Nat.le_of_ble_eq_true rfl⟩ rfl rfl rfl rfl (Nat.le_of_ble_eq_true rfl) rfl dX12_look_16 (c_X12_lineOf hc) (fun v2 τ2 hq => ?_)
    obtain ⟨rfl, hτ⟩ := hq
    subst τ2
    change Z _ _ _ _ _ [.int (v), .int (x2), .ref (sL S 3 0 56)] _
    exact zb_X12_look_19 hrc2 h
def F_X12_look_2 : Nat → Int32 → Int32 → Mm → Option (Mm)
  | 0 => fun _ _ _ => none
  | n + 1 => B_X12_look_2 (F_X12_look_2 n)
theorem zl_X12_look_2 {S : Shp} : ∀ (nn : Nat) {x1 : Int32} {x2 : Int32} {σ : Mm} {r : Mm}, F_X12_look_2 nn x1 x2 σ = some r → Z m_X12_look S (Qv r) 2 [(0, .ref (sL S 3 0 0)), (1, .int (x1)), (2, .int (x2))] [] σ := by
  intro nn
  induction nn with
  | zero => intro x1 x2 σ r h; cases h
  | succ nn ih => intro x1 x2 σ r h; exact zB_X12_look_2 @ih h
def F_X12_look (x1 : Int32) (σ : Mm) : Option (Mm) := (F_X12_look_2 FU x1 0 σ)
set_option maxRecDepth 20000 in
theorem zb_X12_look {S : Shp} {x1 : Int32} {σ : Mm} {r : Mm} (h : F_X12_look x1 σ = some r) : Z m_X12_look S (Qv r) 0 [(0, .ref (sL S 3 0 0)), (1, .int (x1))] [] σ := by
  unfold F_X12_look at h
  refine z_iconst (v := 0) dX12_look_0 (by decide) ?_
  refine z_istore_n (lv' := [(0, .ref (sL S 3 0 0)), (1, .int (x1)), (2, .int (0))]) dX12_look_1 rfl (by decide) [1, 2, 0] rfl ?_
  exact zl_X12_look_2 FU h
/-- SkyStonesModel.look(I)V -/
theorem c_X12_look {S : Shp} {x1 : Int32} {σ : Mm} {r : Mm} (h : F_X12_look x1 σ = some r) : Ct m_X12_look S [.ref (sL S 3 0 0), .int (x1)] σ (Qv r) := Ct.of (by decide +kernel) (Nat.le_of_ble_eq_true rfl) (zb_X12_look h)
def F_X12_lay_288 (rc7 : Int32 → Mm → Option (Mm)) (x2 : Int32) (σ : Mm) : Option (Mm) := (rc7 (x2 + 1) σ)
set_option maxRecDepth 20000 in
theorem zb_X12_lay_288 {S : Shp} {rc7 : Int32 → Mm → Option (Mm)} (hrc7 : ∀ {x2 : Int32} {σ : Mm} {r : Mm}, rc7 x2 σ = some r → Z m_X12_lay S (Qv r) 7 [(0, .ref (sL S 3 0 0)), (2, .int (x2))] [] σ) {x2 : Int32} {σ : Mm} {r : Mm} (h : F_X12_lay_288 rc7 x2 σ = some r) : Z m_X12_lay S (Qv r) 288 [(0, .ref (sL S 3 0 0)), (2, .int (x2))] [] σ := by
  unfold F_X12_lay_288 at h
  refine z_iinc (j := 1) (v := x2 + 1) (lv' := [(0, .ref (sL S 3 0 0)), (2, .int (x2 + 1))]) dX12_lay_288 rfl rfl (by decide) [1, 0] rfl ?_
  refine z_goto (tgt := 7) dX12_lay_291 (by decide) ?_
  exact hrc7 h
def F_X12_lay_282 (rc7 : Int32 → Mm → Option (Mm)) (rc238 : Int32 → Int32 → Mm → Option (Mm)) (x2 : Int32) (x7 : Int32) (σ : Mm) : Option (Mm) := (rc238 x2 (x7 + 1) σ)
set_option maxRecDepth 20000 in
theorem zb_X12_lay_282 {S : Shp} {rc7 : Int32 → Mm → Option (Mm)} (hrc7 : ∀ {x2 : Int32} {σ : Mm} {r : Mm}, rc7 x2 σ = some r → Z m_X12_lay S (Qv r) 7 [(0, .ref (sL S 3 0 0)), (2, .int (x2))] [] σ) {rc238 : Int32 → Int32 → Mm → Option (Mm)} (hrc238 : ∀ {x2 : Int32} {x7 : Int32} {σ : Mm} {r : Mm}, rc238 x2 x7 σ = some r → Z m_X12_lay S (Qv r) 238 [(0, .ref (sL S 3 0 0)), (2, .int (x2)), (7, .int (x7))] [] σ) {x2 : Int32} {x7 : Int32} {σ : Mm} {r : Mm} (h : F_X12_lay_282 rc7 rc238 x2 x7 σ = some r) : Z m_X12_lay S (Qv r) 282 [(0, .ref (sL S 3 0 0)), (2, .int (x2)), (7, .int (x7))] [] σ := by
  unfold F_X12_lay_282 at h
  refine z_iinc (j := 2) (v := x7 + 1) (lv' := [(0, .ref (sL S 3 0 0)), (2, .int (x2)), (7, .int (x7 + 1))]) dX12_lay_282 rfl rfl (by decide) [1, 2, 0] rfl ?_
  refine z_goto (tgt := 238) dX12_lay_285 (by decide) ?_
  exact hrc238 h
def F_X12_lay_281 (rc7 : Int32 → Mm → Option (Mm)) (rc238 : Int32 → Int32 → Mm → Option (Mm)) (x2 : Int32) (x7 : Int32) (s0 : Int32) (s1 : Int32) (σ : Mm) : Option (Mm) := (if inb s1 196 = true then (F_X12_lay_282 rc7 rc238 x2 x7 (setA σ 3 0 55 (upd (mA σ 3 0 55) s1.toNatClampNeg (vp_nar .boolean s0)))) else none)
set_option maxRecDepth 20000 in
theorem zb_X12_lay_281 {S : Shp} {rc7 : Int32 → Mm → Option (Mm)} (hrc7 : ∀ {x2 : Int32} {σ : Mm} {r : Mm}, rc7 x2 σ = some r → Z m_X12_lay S (Qv r) 7 [(0, .ref (sL S 3 0 0)), (2, .int (x2))] [] σ) {rc238 : Int32 → Int32 → Mm → Option (Mm)} (hrc238 : ∀ {x2 : Int32} {x7 : Int32} {σ : Mm} {r : Mm}, rc238 x2 x7 σ = some r → Z m_X12_lay S (Qv r) 238 [(0, .ref (sL S 3 0 0)), (2, .int (x2)), (7, .int (x7))] [] σ) {x2 : Int32} {x7 : Int32} {s0 : Int32} {s1 : Int32} {σ : Mm} {r : Mm} (h : F_X12_lay_281 rc7 rc238 x2 x7 s0 s1 σ = some r) : Z m_X12_lay S (Qv r) 281 [(0, .ref (sL S 3 0 0)), (2, .int (x2)), (7, .int (x7))] [.int (s0), .int (s1), .ref (sL S 3 0 55)] σ := by
  unfold F_X12_lay_281 at h
  obtain ⟨g24, h⟩ := gd h
  refine is_3_55 (inb_in g24) dX12_lay_281 ?_
  exact zb_X12_lay_282 hrc7 hrc238 h
def B_X12_lay_238 (rc7 : Int32 → Mm → Option (Mm)) (rc238 : Int32 → Int32 → Mm → Option (Mm)) (x2 : Int32) (x7 : Int32) (σ : Mm) : Option (Mm) := (if inb 0 5 = true then (if (mA σ 3 0 25 (0 : Int32).toNatClampNeg) ≤ x7 then (F_X12_lay_288 rc7 x2 σ) else (if inb x2 196 = true then (if (mA σ 3 0 55 x2.toNatClampNeg) = 0 then (if inb x7 30 = true then (if inb x7 30 = true then (bnd (F_X12_isHeld (mA σ 3 0 26 x7.toNatClampNeg) (mA σ 3 0 27 x7.toNatClampNeg) σ) (fun v τ => (F_X12_lay_281 rc7 rc238 x2 x7 v x2 τ))) else none) else none) else (F_X12_lay_288 rc7 x2 σ)) else none)) else none)
set_option maxRecDepth 20000 in
theorem zB_X12_lay_238 {S : Shp} {rc7 : Int32 → Mm → Option (Mm)} (hrc7 : ∀ {x2 : Int32} {σ : Mm} {r : Mm}, rc7 x2 σ = some r → Z m_X12_lay S (Qv r) 7 [(0, .ref (sL S 3 0 0)), (2, .int (x2))] [] σ) {rc238 : Int32 → Int32 → Mm → Option (Mm)} (hrc238 : ∀ {x2 : Int32} {x7 : Int32} {σ : Mm} {r : Mm}, rc238 x2 x7 σ = some r → Z m_X12_lay S (Qv r) 238 [(0, .ref (sL S 3 0 0)), (2, .int (x2)), (7, .int (x7))] [] σ) {x2 : Int32} {x7 : Int32} {σ : Mm} {r : Mm} (h : B_X12_lay_238 rc7 rc238 x2 x7 σ = some r) : Z m_X12_lay S (Qv r) 238 [(0, .ref (sL S 3 0 0)), (2, .int (x2)), (7, .int (x7))] [] σ := by
  unfold B_X12_lay_238 at h
  obtain ⟨g20, h⟩ := gd h
  refine z_iload dX12_lay_238 2 rfl ?_
  refine z_aload_n dX12_lay_240 rfl 0 rfl ?_
  refine gf_12_88 rfl dX12_lay_241 ?_
  refine z_iconst (v := 0) dX12_lay_244 (by decide) ?_
  refine ia_3_25 (inb_in g20) dX12_lay_245 ?_
  refine z_icmp_ge (tgt := 288) dX12_lay_246 (by decide) (fun q => ?_) (fun q => ?_)
  · have h := (if_pos q).symm.trans h
    refine Z.lv [0, 1] rfl ?_
    exact zb_X12_lay_288 hrc7 h
  · have h := (if_neg q).symm.trans h
    obtain ⟨g21, h⟩ := gd h
    refine z_aload_n dX12_lay_249 rfl 0 rfl ?_
    refine gf_12_178 rfl dX12_lay_250 ?_
    refine z_iload_n dX12_lay_253 rfl 1 rfl ?_
    refine ia_3_55 (inb_in g21) dX12_lay_254 ?_
    refine z_if_ne (tgt := 288) dX12_lay_255 (by decide) (fun q => ?_) (fun q => ?_)
    · have h := (if_neg q).symm.trans h
      refine Z.lv [0, 1] rfl ?_
      exact zb_X12_lay_288 hrc7 h
    · have h := (if_pos q).symm.trans h
      obtain ⟨g22, h⟩ := gd h
      refine z_aload_n dX12_lay_258 rfl 0 rfl ?_
      refine gf_12_178 rfl dX12_lay_259 ?_
      refine z_iload_n dX12_lay_262 rfl 1 rfl ?_
      refine z_aload_n dX12_lay_263 rfl 0 rfl ?_
      refine z_aload_n dX12_lay_264 rfl 0 rfl ?_
      refine gf_12_91 rfl dX12_lay_265 ?_
      refine z_iload dX12_lay_268 2 rfl ?_
      obtain ⟨g23, h⟩ := gd h
      refine ia_3_26 (inb_in g22) dX12_lay_270 ?_
      refine z_aload_n dX12_lay_271 rfl 0 rfl ?_
      refine gf_12_94 rfl dX12_lay_272 ?_
      refine z_iload dX12_lay_275 2 rfl ?_
      refine ia_3_27 (inb_in g23) dX12_lay_277 ?_
      obtain ⟨v, τ, hc, h⟩ := bnd_e h
      refine z_callV (M' := m_X12_isHeld) (t := 3) (i := 0) (k := 0) (As := [.int (mA σ 3 0 26 x7.toNatClampNeg), .int (mA σ 3 0 27 x7.toNatClampNeg)]) (rest := [.int (x2), .ref (sL S 3 0 55)]) kl_12_438 oy_X12_isHeld ⟨Nat.le_of_ble_eq_true rfl, Nat.le_of_ble_eq_true rfl⟩ rfl rfl rfl rfl (Nat.le_of_ble_eq_true rfl) rfl dX12_lay_278 (c_X12_isHeld hc) (fun v2 τ2 hq => ?_)
      obtain ⟨rfl, hτ⟩ := hq
      subst τ2
      change Z _ _ _ _ _ [.int (v), .int (x2), .ref (sL S 3 0 55)] _
      exact zb_X12_lay_281 hrc7 hrc238 h
def F_X12_lay_238 (rc7 : Int32 → Mm → Option (Mm)) : Nat → Int32 → Int32 → Mm → Option (Mm)
  | 0 => fun _ _ _ => none
  | n + 1 => B_X12_lay_238 rc7 (F_X12_lay_238 rc7 n)
theorem zl_X12_lay_238 {S : Shp} {rc7 : Int32 → Mm → Option (Mm)} (hrc7 : ∀ {x2 : Int32} {σ : Mm} {r : Mm}, rc7 x2 σ = some r → Z m_X12_lay S (Qv r) 7 [(0, .ref (sL S 3 0 0)), (2, .int (x2))] [] σ) : ∀ (nn : Nat) {x2 : Int32} {x7 : Int32} {σ : Mm} {r : Mm}, F_X12_lay_238 rc7 nn x2 x7 σ = some r → Z m_X12_lay S (Qv r) 238 [(0, .ref (sL S 3 0 0)), (2, .int (x2)), (7, .int (x7))] [] σ := by
  intro nn
  induction nn with
  | zero => intro x2 x7 σ r h; cases h
  | succ nn ih => intro x2 x7 σ r h; exact zB_X12_lay_238 hrc7 @ih h
def F_X12_lay_235 (rc7 : Int32 → Mm → Option (Mm)) (x2 : Int32) (σ : Mm) : Option (Mm) := (F_X12_lay_238 rc7 FU x2 0 σ)
set_option maxRecDepth 20000 in
theorem zb_X12_lay_235 {S : Shp} {rc7 : Int32 → Mm → Option (Mm)} (hrc7 : ∀ {x2 : Int32} {σ : Mm} {r : Mm}, rc7 x2 σ = some r → Z m_X12_lay S (Qv r) 7 [(0, .ref (sL S 3 0 0)), (2, .int (x2))] [] σ) {x2 : Int32} {σ : Mm} {r : Mm} (h : F_X12_lay_235 rc7 x2 σ = some r) : Z m_X12_lay S (Qv r) 235 [(0, .ref (sL S 3 0 0)), (2, .int (x2))] [] σ := by
  unfold F_X12_lay_235 at h
  refine z_iconst (v := 0) dX12_lay_235 (by decide) ?_
  refine z_istore (lv' := [(0, .ref (sL S 3 0 0)), (2, .int (x2)), (7, .int (0))]) dX12_lay_236 (by decide) [1, 2, 0] rfl ?_
  exact zl_X12_lay_238 hrc7 FU h
def F_X12_lay_230 (rc7 : Int32 → Mm → Option (Mm)) (x2 : Int32) (σ : Mm) : Option (Mm) := (bnv (F_X12_look x2 σ) (fun τ => (F_X12_lay_235 rc7 x2 τ)))
set_option maxRecDepth 20000 in
theorem zb_X12_lay_230 {S : Shp} {rc7 : Int32 → Mm → Option (Mm)} (hrc7 : ∀ {x2 : Int32} {σ : Mm} {r : Mm}, rc7 x2 σ = some r → Z m_X12_lay S (Qv r) 7 [(0, .ref (sL S 3 0 0)), (2, .int (x2))] [] σ) {x2 : Int32} {σ : Mm} {r : Mm} (h : F_X12_lay_230 rc7 x2 σ = some r) : Z m_X12_lay S (Qv r) 230 [(0, .ref (sL S 3 0 0)), (2, .int (x2))] [] σ := by
  unfold F_X12_lay_230 at h
  refine z_aload_n dX12_lay_230 rfl 0 rfl ?_
  refine z_iload_n dX12_lay_231 rfl 1 rfl ?_
  obtain ⟨τ, hc, h⟩ := bnv_e h
  refine z_callV (M' := m_X12_look) (t := 3) (i := 0) (k := 0) (As := [.int (x2)]) (rest := []) kl_12_435 oy_X12_look ⟨Nat.le_of_ble_eq_true rfl, Nat.le_of_ble_eq_true rfl⟩ rfl rfl rfl rfl (Nat.le_of_ble_eq_true rfl) rfl dX12_lay_232 (c_X12_look hc) (fun v2 τ2 hq => ?_)
  obtain ⟨rfl, hτ⟩ := hq
  subst τ2
  change Z _ _ _ _ _ [] _
  exact zb_X12_lay_235 hrc7 h
def F_X12_lay_229 (rc7 : Int32 → Mm → Option (Mm)) (x2 : Int32) (s0 : Int32) (s1 : Int32) (σ : Mm) : Option (Mm) := (if inb s1 196 = true then (F_X12_lay_230 rc7 x2 (setA σ 3 0 55 (upd (mA σ 3 0 55) s1.toNatClampNeg (vp_nar .boolean s0)))) else none)
set_option maxRecDepth 20000 in
theorem zb_X12_lay_229 {S : Shp} {rc7 : Int32 → Mm → Option (Mm)} (hrc7 : ∀ {x2 : Int32} {σ : Mm} {r : Mm}, rc7 x2 σ = some r → Z m_X12_lay S (Qv r) 7 [(0, .ref (sL S 3 0 0)), (2, .int (x2))] [] σ) {x2 : Int32} {s0 : Int32} {s1 : Int32} {σ : Mm} {r : Mm} (h : F_X12_lay_229 rc7 x2 s0 s1 σ = some r) : Z m_X12_lay S (Qv r) 229 [(0, .ref (sL S 3 0 0)), (2, .int (x2))] [.int (s0), .int (s1), .ref (sL S 3 0 55)] σ := by
  unfold F_X12_lay_229 at h
  obtain ⟨g19, h⟩ := gd h
  refine is_3_55 (inb_in g19) dX12_lay_229 ?_
  exact zb_X12_lay_230 hrc7 h
def F_X12_lay_210 (rc7 : Int32 → Mm → Option (Mm)) (x2 : Int32) (σ : Mm) : Option (Mm) := (if inb 0 5 = true then (if (mA σ 3 0 25 (0 : Int32).toNatClampNeg) = 0 then (F_X12_lay_229 rc7 x2 1 x2 σ) else (F_X12_lay_229 rc7 x2 0 x2 σ)) else none)
set_option maxRecDepth 20000 in
theorem zb_X12_lay_210 {S : Shp} {rc7 : Int32 → Mm → Option (Mm)} (hrc7 : ∀ {x2 : Int32} {σ : Mm} {r : Mm}, rc7 x2 σ = some r → Z m_X12_lay S (Qv r) 7 [(0, .ref (sL S 3 0 0)), (2, .int (x2))] [] σ) {x2 : Int32} {σ : Mm} {r : Mm} (h : F_X12_lay_210 rc7 x2 σ = some r) : Z m_X12_lay S (Qv r) 210 [(0, .ref (sL S 3 0 0)), (2, .int (x2))] [] σ := by
  unfold F_X12_lay_210 at h
  obtain ⟨g18, h⟩ := gd h
  refine z_aload_n dX12_lay_210 rfl 0 rfl ?_
  refine gf_12_178 rfl dX12_lay_211 ?_
  refine z_iload_n dX12_lay_214 rfl 1 rfl ?_
  refine z_aload_n dX12_lay_215 rfl 0 rfl ?_
  refine gf_12_88 rfl dX12_lay_216 ?_
  refine z_iconst (v := 0) dX12_lay_219 (by decide) ?_
  refine ia_3_25 (inb_in g18) dX12_lay_220 ?_
  refine z_if_ne (tgt := 228) dX12_lay_221 (by decide) (fun q => ?_) (fun q => ?_)
  · have h := (if_neg q).symm.trans h
    refine z_iconst (v := 0) dX12_lay_228 (by decide) ?_
    exact zb_X12_lay_229 hrc7 h
  · have h := (if_pos q).symm.trans h
    refine z_iconst (v := 1) dX12_lay_224 (by decide) ?_
    refine z_goto (tgt := 229) dX12_lay_225 (by decide) ?_
    exact zb_X12_lay_229 hrc7 h
def F_X12_lay_209 (rc7 : Int32 → Mm → Option (Mm)) (x2 : Int32) (s0 : Int32) (s1 : Int32) (σ : Mm) : Option (Mm) := (if inb s1 196 = true then (F_X12_lay_210 rc7 x2 (setA σ 3 0 54 (upd (mA σ 3 0 54) s1.toNatClampNeg s0))) else none)
set_option maxRecDepth 20000 in
theorem zb_X12_lay_209 {S : Shp} {rc7 : Int32 → Mm → Option (Mm)} (hrc7 : ∀ {x2 : Int32} {σ : Mm} {r : Mm}, rc7 x2 σ = some r → Z m_X12_lay S (Qv r) 7 [(0, .ref (sL S 3 0 0)), (2, .int (x2))] [] σ) {x2 : Int32} {s0 : Int32} {s1 : Int32} {σ : Mm} {r : Mm} (h : F_X12_lay_209 rc7 x2 s0 s1 σ = some r) : Z m_X12_lay S (Qv r) 209 [(0, .ref (sL S 3 0 0)), (2, .int (x2))] [.int (s0), .int (s1), .ref (sL S 3 0 54)] σ := by
  unfold F_X12_lay_209 at h
  obtain ⟨g17, h⟩ := gd h
  refine is_3_54 (inb_in g17) dX12_lay_209 ?_
  exact zb_X12_lay_210 hrc7 h
def F_X12_lay_178 (rc7 : Int32 → Mm → Option (Mm)) (x2 : Int32) (x5 : Int32) (x6 : Int32) (σ : Mm) : Option (Mm) := (if (f_X12_plain x5) ≤ (f_X12_plain x6) then (F_X12_lay_209 rc7 x2 (f_X12_plain x6) x2 σ) else (F_X12_lay_209 rc7 x2 (f_X12_plain x5) x2 σ))
set_option maxRecDepth 20000 in
theorem zb_X12_lay_178 {S : Shp} {rc7 : Int32 → Mm → Option (Mm)} (hrc7 : ∀ {x2 : Int32} {σ : Mm} {r : Mm}, rc7 x2 σ = some r → Z m_X12_lay S (Qv r) 7 [(0, .ref (sL S 3 0 0)), (2, .int (x2))] [] σ) {x2 : Int32} {x5 : Int32} {x6 : Int32} {σ : Mm} {r : Mm} (h : F_X12_lay_178 rc7 x2 x5 x6 σ = some r) : Z m_X12_lay S (Qv r) 178 [(0, .ref (sL S 3 0 0)), (2, .int (x2)), (5, .int (x5)), (6, .int (x6))] [] σ := by
  unfold F_X12_lay_178 at h
  refine z_aload_n dX12_lay_178 rfl 0 rfl ?_
  refine gf_12_175 rfl dX12_lay_179 ?_
  refine z_iload_n dX12_lay_182 rfl 1 rfl ?_
  refine z_iload dX12_lay_183 2 rfl ?_
  refine z_callS (M' := m_X12_plain) (As := [.int (x5)]) (rest := [.int (x2), .ref (sL S 3 0 54)]) kl_12_425 oy_X12_plain ⟨Nat.le_of_ble_eq_true rfl, Nat.le_of_ble_eq_true rfl⟩ rfl (Nat.le_of_ble_eq_true rfl) rfl dX12_lay_185 (c_X12_plain rfl) (fun v τ hq => ?_)
  obtain ⟨rfl, hτ⟩ := hq
  subst τ
  change Z _ _ _ _ _ [.int (f_X12_plain x5), .int (x2), .ref (sL S 3 0 54)] _
  refine z_iload dX12_lay_188 3 rfl ?_
  refine z_callS (M' := m_X12_plain) (As := [.int (x6)]) (rest := [.int (f_X12_plain x5), .int (x2), .ref (sL S 3 0 54)]) kl_12_425 oy_X12_plain ⟨Nat.le_of_ble_eq_true rfl, Nat.le_of_ble_eq_true rfl⟩ rfl (Nat.le_of_ble_eq_true rfl) rfl dX12_lay_190 (c_X12_plain rfl) (fun v τ hq => ?_)
  obtain ⟨rfl, hτ⟩ := hq
  subst τ
  change Z _ _ _ _ _ [.int (f_X12_plain x6), .int (f_X12_plain x5), .int (x2), .ref (sL S 3 0 54)] _
  refine z_icmp_le (tgt := 204) dX12_lay_193 (by decide) (fun q => ?_) (fun q => ?_)
  · have h := (if_pos q).symm.trans h
    refine z_iload dX12_lay_204 3 rfl ?_
    refine z_callS (M' := m_X12_plain) (As := [.int (x6)]) (rest := [.int (x2), .ref (sL S 3 0 54)]) kl_12_425 oy_X12_plain ⟨Nat.le_of_ble_eq_true rfl, Nat.le_of_ble_eq_true rfl⟩ rfl (Nat.le_of_ble_eq_true rfl) rfl dX12_lay_206 (c_X12_plain rfl) (fun v τ hq => ?_)
    obtain ⟨rfl, hτ⟩ := hq
    subst τ
    change Z _ _ _ _ _ [.int (f_X12_plain x6), .int (x2), .ref (sL S 3 0 54)] _
    refine Z.lv [0, 1] rfl ?_
    exact zb_X12_lay_209 hrc7 h
  · have h := (if_neg q).symm.trans h
    refine z_iload dX12_lay_196 2 rfl ?_
    refine z_callS (M' := m_X12_plain) (As := [.int (x5)]) (rest := [.int (x2), .ref (sL S 3 0 54)]) kl_12_425 oy_X12_plain ⟨Nat.le_of_ble_eq_true rfl, Nat.le_of_ble_eq_true rfl⟩ rfl (Nat.le_of_ble_eq_true rfl) rfl dX12_lay_198 (c_X12_plain rfl) (fun v τ hq => ?_)
    obtain ⟨rfl, hτ⟩ := hq
    subst τ
    change Z _ _ _ _ _ [.int (f_X12_plain x5), .int (x2), .ref (sL S 3 0 54)] _
    refine z_goto (tgt := 209) dX12_lay_201 (by decide) ?_
    refine Z.lv [0, 1] rfl ?_
    exact zb_X12_lay_209 hrc7 h
def F_X12_lay_177 (rc7 : Int32 → Mm → Option (Mm)) (x2 : Int32) (x5 : Int32) (x6 : Int32) (s0 : Int32) (s1 : Int32) (σ : Mm) : Option (Mm) := (if inb s1 196 = true then (F_X12_lay_178 rc7 x2 x5 x6 (setA σ 3 0 53 (upd (mA σ 3 0 53) s1.toNatClampNeg s0))) else none)
set_option maxRecDepth 20000 in
theorem zb_X12_lay_177 {S : Shp} {rc7 : Int32 → Mm → Option (Mm)} (hrc7 : ∀ {x2 : Int32} {σ : Mm} {r : Mm}, rc7 x2 σ = some r → Z m_X12_lay S (Qv r) 7 [(0, .ref (sL S 3 0 0)), (2, .int (x2))] [] σ) {x2 : Int32} {x5 : Int32} {x6 : Int32} {s0 : Int32} {s1 : Int32} {σ : Mm} {r : Mm} (h : F_X12_lay_177 rc7 x2 x5 x6 s0 s1 σ = some r) : Z m_X12_lay S (Qv r) 177 [(0, .ref (sL S 3 0 0)), (2, .int (x2)), (5, .int (x5)), (6, .int (x6))] [.int (s0), .int (s1), .ref (sL S 3 0 53)] σ := by
  unfold F_X12_lay_177 at h
  obtain ⟨g16, h⟩ := gd h
  refine is_3_53 (inb_in g16) dX12_lay_177 ?_
  exact zb_X12_lay_178 hrc7 h
def F_X12_lay_165 (rc7 : Int32 → Mm → Option (Mm)) (x2 : Int32) (x5 : Int32) (x6 : Int32) (σ : Mm) : Option (Mm) := (bnd (F_X12_degreeOf x5 x6 σ) (fun v τ => (F_X12_lay_177 rc7 x2 x5 x6 v x2 τ)))
set_option maxRecDepth 20000 in
theorem zb_X12_lay_165 {S : Shp} {rc7 : Int32 → Mm → Option (Mm)} (hrc7 : ∀ {x2 : Int32} {σ : Mm} {r : Mm}, rc7 x2 σ = some r → Z m_X12_lay S (Qv r) 7 [(0, .ref (sL S 3 0 0)), (2, .int (x2))] [] σ) {x2 : Int32} {x5 : Int32} {x6 : Int32} {σ : Mm} {r : Mm} (h : F_X12_lay_165 rc7 x2 x5 x6 σ = some r) : Z m_X12_lay S (Qv r) 165 [(0, .ref (sL S 3 0 0)), (2, .int (x2)), (5, .int (x5)), (6, .int (x6))] [] σ := by
  unfold F_X12_lay_165 at h
  refine z_aload_n dX12_lay_165 rfl 0 rfl ?_
  refine gf_12_172 rfl dX12_lay_166 ?_
  refine z_iload_n dX12_lay_169 rfl 1 rfl ?_
  refine z_iload dX12_lay_170 2 rfl ?_
  refine z_iload dX12_lay_172 3 rfl ?_
  obtain ⟨v, τ, hc, h⟩ := bnd_e h
  refine z_callS (M' := m_X12_degreeOf) (As := [.int (x5), .int (x6)]) (rest := [.int (x2), .ref (sL S 3 0 53)]) kl_12_431 oy_X12_degreeOf ⟨Nat.le_of_ble_eq_true rfl, Nat.le_of_ble_eq_true rfl⟩ rfl (Nat.le_of_ble_eq_true rfl) rfl dX12_lay_174 (c_X12_degreeOf hc) (fun v2 τ2 hq => ?_)
  obtain ⟨rfl, hτ⟩ := hq
  subst τ2
  change Z _ _ _ _ _ [.int (v), .int (x2), .ref (sL S 3 0 53)] _
  exact zb_X12_lay_177 hrc7 h
def F_X12_lay_149 (rc7 : Int32 → Mm → Option (Mm)) (x2 : Int32) (x3 : Int32) (x4 : Int32) (x5 : Int32) (σ : Mm) : Option (Mm) := (if inb x4 14 = true then (if inb x3 14 = true then (F_X12_lay_165 rc7 x2 x5 ((mA σ 3 0 49 x4.toNatClampNeg) - (mA σ 3 0 49 x3.toNatClampNeg)) σ) else none) else none)
set_option maxRecDepth 20000 in
theorem zb_X12_lay_149 {S : Shp} {rc7 : Int32 → Mm → Option (Mm)} (hrc7 : ∀ {x2 : Int32} {σ : Mm} {r : Mm}, rc7 x2 σ = some r → Z m_X12_lay S (Qv r) 7 [(0, .ref (sL S 3 0 0)), (2, .int (x2))] [] σ) {x2 : Int32} {x3 : Int32} {x4 : Int32} {x5 : Int32} {σ : Mm} {r : Mm} (h : F_X12_lay_149 rc7 x2 x3 x4 x5 σ = some r) : Z m_X12_lay S (Qv r) 149 [(0, .ref (sL S 3 0 0)), (2, .int (x2)), (3, .int (x3)), (4, .int (x4)), (5, .int (x5))] [] σ := by
  unfold F_X12_lay_149 at h
  obtain ⟨g14, h⟩ := gd h
  refine z_aload_n dX12_lay_149 rfl 0 rfl ?_
  refine gf_12_160 rfl dX12_lay_150 ?_
  refine z_iload dX12_lay_153 3 rfl ?_
  obtain ⟨g15, h⟩ := gd h
  refine ia_3_49 (inb_in g14) dX12_lay_155 ?_
  refine z_aload_n dX12_lay_156 rfl 0 rfl ?_
  refine gf_12_160 rfl dX12_lay_157 ?_
  refine z_iload_n dX12_lay_160 rfl 2 rfl ?_
  refine ia_3_49 (inb_in g15) dX12_lay_161 ?_
  refine z_isub dX12_lay_162 ?_
  refine z_istore (lv' := [(0, .ref (sL S 3 0 0)), (2, .int (x2)), (3, .int (x3)), (4, .int (x4)), (5, .int (x5)), (6, .int ((mA σ 3 0 49 x4.toNatClampNeg) - (mA σ 3 0 49 x3.toNatClampNeg)))]) dX12_lay_163 (by decide) [1, 2, 3, 4, 5, 0] rfl ?_
  refine Z.lv [0, 1, 4, 5] rfl ?_
  exact zb_X12_lay_165 hrc7 h
def F_X12_lay_121 (rc7 : Int32 → Mm → Option (Mm)) (x2 : Int32) (x3 : Int32) (x4 : Int32) (σ : Mm) : Option (Mm) := (if inb x2 196 = true then (if (mA σ 3 0 52 x2.toNatClampNeg) = 0 then (F_X12_lay_288 rc7 x2 σ) else (if inb x4 14 = true then (if inb x3 14 = true then (F_X12_lay_149 rc7 x2 x3 x4 ((mA σ 3 0 48 x4.toNatClampNeg) - (mA σ 3 0 48 x3.toNatClampNeg)) σ) else none) else none)) else none)
set_option maxRecDepth 20000 in
theorem zb_X12_lay_121 {S : Shp} {rc7 : Int32 → Mm → Option (Mm)} (hrc7 : ∀ {x2 : Int32} {σ : Mm} {r : Mm}, rc7 x2 σ = some r → Z m_X12_lay S (Qv r) 7 [(0, .ref (sL S 3 0 0)), (2, .int (x2))] [] σ) {x2 : Int32} {x3 : Int32} {x4 : Int32} {σ : Mm} {r : Mm} (h : F_X12_lay_121 rc7 x2 x3 x4 σ = some r) : Z m_X12_lay S (Qv r) 121 [(0, .ref (sL S 3 0 0)), (2, .int (x2)), (3, .int (x3)), (4, .int (x4))] [] σ := by
  unfold F_X12_lay_121 at h
  obtain ⟨g11, h⟩ := gd h
  refine z_aload_n dX12_lay_121 rfl 0 rfl ?_
  refine gf_12_169 rfl dX12_lay_122 ?_
  refine z_iload_n dX12_lay_125 rfl 1 rfl ?_
  refine ia_3_52 (inb_in g11) dX12_lay_126 ?_
  refine z_if_ne (tgt := 133) dX12_lay_127 (by decide) (fun q => ?_) (fun q => ?_)
  · have h := (if_neg q).symm.trans h
    obtain ⟨g12, h⟩ := gd h
    refine z_aload_n dX12_lay_133 rfl 0 rfl ?_
    refine gf_12_157 rfl dX12_lay_134 ?_
    refine z_iload dX12_lay_137 3 rfl ?_
    obtain ⟨g13, h⟩ := gd h
    refine ia_3_48 (inb_in g12) dX12_lay_139 ?_
    refine z_aload_n dX12_lay_140 rfl 0 rfl ?_
    refine gf_12_157 rfl dX12_lay_141 ?_
    refine z_iload_n dX12_lay_144 rfl 2 rfl ?_
    refine ia_3_48 (inb_in g13) dX12_lay_145 ?_
    refine z_isub dX12_lay_146 ?_
    refine z_istore (lv' := [(0, .ref (sL S 3 0 0)), (2, .int (x2)), (3, .int (x3)), (4, .int (x4)), (5, .int ((mA σ 3 0 48 x4.toNatClampNeg) - (mA σ 3 0 48 x3.toNatClampNeg)))]) dX12_lay_147 (by decide) [1, 2, 3, 4, 0] rfl ?_
    exact zb_X12_lay_149 hrc7 h
  · have h := (if_pos q).symm.trans h
    refine z_goto (tgt := 288) dX12_lay_130 (by decide) ?_
    refine Z.lv [0, 1] rfl ?_
    exact zb_X12_lay_288 hrc7 h
def F_X12_lay_114 (rc7 : Int32 → Mm → Option (Mm)) (x2 : Int32) (x3 : Int32) (x4 : Int32) (σ : Mm) : Option (Mm) := (if inb x2 196 = true then (F_X12_lay_121 rc7 x2 x3 x4 (setA σ 3 0 55 (upd (mA σ 3 0 55) x2.toNatClampNeg (vp_nar .boolean 0)))) else none)
set_option maxRecDepth 20000 in
theorem zb_X12_lay_114 {S : Shp} {rc7 : Int32 → Mm → Option (Mm)} (hrc7 : ∀ {x2 : Int32} {σ : Mm} {r : Mm}, rc7 x2 σ = some r → Z m_X12_lay S (Qv r) 7 [(0, .ref (sL S 3 0 0)), (2, .int (x2))] [] σ) {x2 : Int32} {x3 : Int32} {x4 : Int32} {σ : Mm} {r : Mm} (h : F_X12_lay_114 rc7 x2 x3 x4 σ = some r) : Z m_X12_lay S (Qv r) 114 [(0, .ref (sL S 3 0 0)), (2, .int (x2)), (3, .int (x3)), (4, .int (x4))] [] σ := by
  unfold F_X12_lay_114 at h
  obtain ⟨g10, h⟩ := gd h
  refine z_aload_n dX12_lay_114 rfl 0 rfl ?_
  refine gf_12_178 rfl dX12_lay_115 ?_
  refine z_iload_n dX12_lay_118 rfl 1 rfl ?_
  refine z_iconst (v := 0) dX12_lay_119 (by decide) ?_
  refine is_3_55 (inb_in g10) dX12_lay_120 ?_
  exact zb_X12_lay_121 hrc7 h
def F_X12_lay_113 (rc7 : Int32 → Mm → Option (Mm)) (x2 : Int32) (x3 : Int32) (x4 : Int32) (s0 : Int32) (s1 : Int32) (σ : Mm) : Option (Mm) := (if inb s1 196 = true then (F_X12_lay_114 rc7 x2 x3 x4 (setA σ 3 0 52 (upd (mA σ 3 0 52) s1.toNatClampNeg (vp_nar .boolean s0)))) else none)
set_option maxRecDepth 20000 in
theorem zb_X12_lay_113 {S : Shp} {rc7 : Int32 → Mm → Option (Mm)} (hrc7 : ∀ {x2 : Int32} {σ : Mm} {r : Mm}, rc7 x2 σ = some r → Z m_X12_lay S (Qv r) 7 [(0, .ref (sL S 3 0 0)), (2, .int (x2))] [] σ) {x2 : Int32} {x3 : Int32} {x4 : Int32} {s0 : Int32} {s1 : Int32} {σ : Mm} {r : Mm} (h : F_X12_lay_113 rc7 x2 x3 x4 s0 s1 σ = some r) : Z m_X12_lay S (Qv r) 113 [(0, .ref (sL S 3 0 0)), (2, .int (x2)), (3, .int (x3)), (4, .int (x4))] [.int (s0), .int (s1), .ref (sL S 3 0 52)] σ := by
  unfold F_X12_lay_113 at h
  obtain ⟨g9, h⟩ := gd h
  refine is_3_52 (inb_in g9) dX12_lay_113 ?_
  exact zb_X12_lay_114 hrc7 h
def F_X12_lay_112 (rc7 : Int32 → Mm → Option (Mm)) (x2 : Int32) (x3 : Int32) (x4 : Int32) (s0 : Int32) (σ : Mm) : Option (Mm) := (F_X12_lay_113 rc7 x2 x3 x4 0 s0 σ)
set_option maxRecDepth 20000 in
theorem zb_X12_lay_112 {S : Shp} {rc7 : Int32 → Mm → Option (Mm)} (hrc7 : ∀ {x2 : Int32} {σ : Mm} {r : Mm}, rc7 x2 σ = some r → Z m_X12_lay S (Qv r) 7 [(0, .ref (sL S 3 0 0)), (2, .int (x2))] [] σ) {x2 : Int32} {x3 : Int32} {x4 : Int32} {s0 : Int32} {σ : Mm} {r : Mm} (h : F_X12_lay_112 rc7 x2 x3 x4 s0 σ = some r) : Z m_X12_lay S (Qv r) 112 [(0, .ref (sL S 3 0 0)), (2, .int (x2)), (3, .int (x3)), (4, .int (x4))] [.int (s0), .ref (sL S 3 0 52)] σ := by
  unfold F_X12_lay_112 at h
  refine z_iconst (v := 0) dX12_lay_112 (by decide) ?_
  exact zb_X12_lay_113 hrc7 h
def F_X12_lay_108 (rc7 : Int32 → Mm → Option (Mm)) (x2 : Int32) (x3 : Int32) (x4 : Int32) (s0 : Int32) (σ : Mm) : Option (Mm) := (F_X12_lay_113 rc7 x2 x3 x4 1 s0 σ)
set_option maxRecDepth 20000 in
theorem zb_X12_lay_108 {S : Shp} {rc7 : Int32 → Mm → Option (Mm)} (hrc7 : ∀ {x2 : Int32} {σ : Mm} {r : Mm}, rc7 x2 σ = some r → Z m_X12_lay S (Qv r) 7 [(0, .ref (sL S 3 0 0)), (2, .int (x2))] [] σ) {x2 : Int32} {x3 : Int32} {x4 : Int32} {s0 : Int32} {σ : Mm} {r : Mm} (h : F_X12_lay_108 rc7 x2 x3 x4 s0 σ = some r) : Z m_X12_lay S (Qv r) 108 [(0, .ref (sL S 3 0 0)), (2, .int (x2)), (3, .int (x3)), (4, .int (x4))] [.int (s0), .ref (sL S 3 0 52)] σ := by
  unfold F_X12_lay_108 at h
  refine z_iconst (v := 1) dX12_lay_108 (by decide) ?_
  refine z_goto (tgt := 113) dX12_lay_109 (by decide) ?_
  exact zb_X12_lay_113 hrc7 h
def F_X12_lay_25 (rc7 : Int32 → Mm → Option (Mm)) (x2 : Int32) (x3 : Int32) (x4 : Int32) (σ : Mm) : Option (Mm) := (if x3 = x4 then (F_X12_lay_112 rc7 x2 x3 x4 x2 σ) else (if inb 0 5 = true then (if (mA σ 3 0 8 (0 : Int32).toNatClampNeg) ≤ x3 then (F_X12_lay_112 rc7 x2 x3 x4 x2 σ) else (if inb 0 5 = true then (if (mA σ 3 0 8 (0 : Int32).toNatClampNeg) ≤ x4 then (F_X12_lay_112 rc7 x2 x3 x4 x2 σ) else (if inb x3 14 = true then (if (mA σ 3 0 51 x3.toNatClampNeg) = 0 then (if inb x4 14 = true then (if (mA σ 3 0 51 x4.toNatClampNeg) = 0 then (if inb x3 14 = true then (if inb x4 14 = true then (if (mA σ 3 0 48 x3.toNatClampNeg) = (mA σ 3 0 48 x4.toNatClampNeg) then (if inb x3 14 = true then (if inb x4 14 = true then (if (mA σ 3 0 49 x3.toNatClampNeg) = (mA σ 3 0 49 x4.toNatClampNeg) then (F_X12_lay_112 rc7 x2 x3 x4 x2 σ) else (F_X12_lay_108 rc7 x2 x3 x4 x2 σ)) else none) else none) else (F_X12_lay_108 rc7 x2 x3 x4 x2 σ)) else none) else none) else (F_X12_lay_112 rc7 x2 x3 x4 x2 σ)) else none) else (F_X12_lay_112 rc7 x2 x3 x4 x2 σ)) else none)) else none)) else none))
set_option maxRecDepth 20000 in
theorem zb_X12_lay_25 {S : Shp} {rc7 : Int32 → Mm → Option (Mm)} (hrc7 : ∀ {x2 : Int32} {σ : Mm} {r : Mm}, rc7 x2 σ = some r → Z m_X12_lay S (Qv r) 7 [(0, .ref (sL S 3 0 0)), (2, .int (x2))] [] σ) {x2 : Int32} {x3 : Int32} {x4 : Int32} {σ : Mm} {r : Mm} (h : F_X12_lay_25 rc7 x2 x3 x4 σ = some r) : Z m_X12_lay S (Qv r) 25 [(0, .ref (sL S 3 0 0)), (2, .int (x2)), (3, .int (x3)), (4, .int (x4))] [] σ := by
  unfold F_X12_lay_25 at h
  refine z_aload_n dX12_lay_25 rfl 0 rfl ?_
  refine gf_12_169 rfl dX12_lay_26 ?_
  refine z_iload_n dX12_lay_29 rfl 1 rfl ?_
  refine z_iload_n dX12_lay_30 rfl 2 rfl ?_
  refine z_iload dX12_lay_31 3 rfl ?_
  refine z_icmp_eq (tgt := 112) dX12_lay_33 (by decide) (fun q => ?_) (fun q => ?_)
  · have h := (if_pos q).symm.trans h
    exact zb_X12_lay_112 hrc7 h
  · have h := (if_neg q).symm.trans h
    obtain ⟨g1, h⟩ := gd h
    refine z_iload_n dX12_lay_36 rfl 2 rfl ?_
    refine z_aload_n dX12_lay_37 rfl 0 rfl ?_
    refine gf_12_37 rfl dX12_lay_38 ?_
    refine z_iconst (v := 0) dX12_lay_41 (by decide) ?_
    refine ia_3_8 (inb_in g1) dX12_lay_42 ?_
    refine z_icmp_ge (tgt := 112) dX12_lay_43 (by decide) (fun q => ?_) (fun q => ?_)
    · have h := (if_pos q).symm.trans h
      exact zb_X12_lay_112 hrc7 h
    · have h := (if_neg q).symm.trans h
      obtain ⟨g2, h⟩ := gd h
      refine z_iload dX12_lay_46 3 rfl ?_
      refine z_aload_n dX12_lay_48 rfl 0 rfl ?_
      refine gf_12_37 rfl dX12_lay_49 ?_
      refine z_iconst (v := 0) dX12_lay_52 (by decide) ?_
      refine ia_3_8 (inb_in g2) dX12_lay_53 ?_
      refine z_icmp_ge (tgt := 112) dX12_lay_54 (by decide) (fun q => ?_) (fun q => ?_)
      · have h := (if_pos q).symm.trans h
        exact zb_X12_lay_112 hrc7 h
      · have h := (if_neg q).symm.trans h
        obtain ⟨g3, h⟩ := gd h
        refine z_aload_n dX12_lay_57 rfl 0 rfl ?_
        refine gf_12_166 rfl dX12_lay_58 ?_
        refine z_iload_n dX12_lay_61 rfl 2 rfl ?_
        refine ia_3_51 (inb_in g3) dX12_lay_62 ?_
        refine z_if_ne (tgt := 112) dX12_lay_63 (by decide) (fun q => ?_) (fun q => ?_)
        · have h := (if_neg q).symm.trans h
          exact zb_X12_lay_112 hrc7 h
        · have h := (if_pos q).symm.trans h
          obtain ⟨g4, h⟩ := gd h
          refine z_aload_n dX12_lay_66 rfl 0 rfl ?_
          refine gf_12_166 rfl dX12_lay_67 ?_
          refine z_iload dX12_lay_70 3 rfl ?_
          refine ia_3_51 (inb_in g4) dX12_lay_72 ?_
          refine z_if_ne (tgt := 112) dX12_lay_73 (by decide) (fun q => ?_) (fun q => ?_)
          · have h := (if_neg q).symm.trans h
            exact zb_X12_lay_112 hrc7 h
          · have h := (if_pos q).symm.trans h
            obtain ⟨g5, h⟩ := gd h
            refine z_aload_n dX12_lay_76 rfl 0 rfl ?_
            refine gf_12_157 rfl dX12_lay_77 ?_
            refine z_iload_n dX12_lay_80 rfl 2 rfl ?_
            obtain ⟨g6, h⟩ := gd h
            refine ia_3_48 (inb_in g5) dX12_lay_81 ?_
            refine z_aload_n dX12_lay_82 rfl 0 rfl ?_
            refine gf_12_157 rfl dX12_lay_83 ?_
            refine z_iload dX12_lay_86 3 rfl ?_
            refine ia_3_48 (inb_in g6) dX12_lay_88 ?_
            refine z_icmp_ne (tgt := 108) dX12_lay_89 (by decide) (fun q => ?_) (fun q => ?_)
            · have h := (if_neg q).symm.trans h
              exact zb_X12_lay_108 hrc7 h
            · have h := (if_pos q).symm.trans h
              obtain ⟨g7, h⟩ := gd h
              refine z_aload_n dX12_lay_92 rfl 0 rfl ?_
              refine gf_12_160 rfl dX12_lay_93 ?_
              refine z_iload_n dX12_lay_96 rfl 2 rfl ?_
              obtain ⟨g8, h⟩ := gd h
              refine ia_3_49 (inb_in g7) dX12_lay_97 ?_
              refine z_aload_n dX12_lay_98 rfl 0 rfl ?_
              refine gf_12_160 rfl dX12_lay_99 ?_
              refine z_iload dX12_lay_102 3 rfl ?_
              refine ia_3_49 (inb_in g8) dX12_lay_104 ?_
              refine z_icmp_eq (tgt := 112) dX12_lay_105 (by decide) (fun q => ?_) (fun q => ?_)
              · have h := (if_pos q).symm.trans h
                exact zb_X12_lay_112 hrc7 h
              · have h := (if_neg q).symm.trans h
                exact zb_X12_lay_108 hrc7 h
def B_X12_lay_7 (rc7 : Int32 → Mm → Option (Mm)) (x2 : Int32) (σ : Mm) : Option (Mm) := (if (196 : Int32) ≤ x2 then some (σ) else (F_X12_lay_25 rc7 x2 (x2 / (14 : Int32)) (x2 - x2 / (14 : Int32) * (14 : Int32)) σ))
set_option maxRecDepth 20000 in
theorem zB_X12_lay_7 {S : Shp} {rc7 : Int32 → Mm → Option (Mm)} (hrc7 : ∀ {x2 : Int32} {σ : Mm} {r : Mm}, rc7 x2 σ = some r → Z m_X12_lay S (Qv r) 7 [(0, .ref (sL S 3 0 0)), (2, .int (x2))] [] σ) {x2 : Int32} {σ : Mm} {r : Mm} (h : B_X12_lay_7 rc7 x2 σ = some r) : Z m_X12_lay S (Qv r) 7 [(0, .ref (sL S 3 0 0)), (2, .int (x2))] [] σ := by
  unfold B_X12_lay_7 at h
  refine z_iload_n dX12_lay_7 rfl 1 rfl ?_
  refine z_sipush (v := 196) dX12_lay_8 (by decide) ?_
  refine z_icmp_ge (tgt := 294) dX12_lay_11 (by decide) (fun q => ?_) (fun q => ?_)
  · have h := (if_pos q).symm.trans h
    cases h
    exact z_return dX12_lay_294 rfl ⟨rfl, rfl⟩
  · have h := (if_neg q).symm.trans h
    refine z_iload_n dX12_lay_14 rfl 1 rfl ?_
    refine z_bipush (v := 14) dX12_lay_15 (by decide) ?_
    refine z_idiv dX12_lay_17 (by decide) ?_
    refine z_istore_n (lv' := [(0, .ref (sL S 3 0 0)), (2, .int (x2)), (3, .int (x2 / (14 : Int32)))]) dX12_lay_18 rfl (by decide) [1, 2, 0] rfl ?_
    refine z_iload_n dX12_lay_19 rfl 1 rfl ?_
    refine z_bipush (v := 14) dX12_lay_20 (by decide) ?_
    refine z_irem dX12_lay_22 (by decide) ?_
    refine z_istore (lv' := [(0, .ref (sL S 3 0 0)), (2, .int (x2)), (3, .int (x2 / (14 : Int32))), (4, .int (x2 - x2 / (14 : Int32) * (14 : Int32)))]) dX12_lay_23 (by decide) [1, 2, 3, 0] rfl ?_
    exact zb_X12_lay_25 hrc7 h
def F_X12_lay_7 : Nat → Int32 → Mm → Option (Mm)
  | 0 => fun _ _ => none
  | n + 1 => B_X12_lay_7 (F_X12_lay_7 n)
theorem zl_X12_lay_7 {S : Shp} : ∀ (nn : Nat) {x2 : Int32} {σ : Mm} {r : Mm}, F_X12_lay_7 nn x2 σ = some r → Z m_X12_lay S (Qv r) 7 [(0, .ref (sL S 3 0 0)), (2, .int (x2))] [] σ := by
  intro nn
  induction nn with
  | zero => intro x2 σ r h; cases h
  | succ nn ih => intro x2 σ r h; exact zB_X12_lay_7 @ih h
def F_X12_lay_5 (σ : Mm) : Option (Mm) := (F_X12_lay_7 FU 0 σ)
set_option maxRecDepth 20000 in
theorem zb_X12_lay_5 {S : Shp} {σ : Mm} {r : Mm} (h : F_X12_lay_5 σ = some r) : Z m_X12_lay S (Qv r) 5 [(0, .ref (sL S 3 0 0))] [] σ := by
  unfold F_X12_lay_5 at h
  refine z_iconst (v := 0) dX12_lay_5 (by decide) ?_
  refine z_istore_n (lv' := [(0, .ref (sL S 3 0 0)), (2, .int (0))]) dX12_lay_6 rfl (by decide) [1, 0] rfl ?_
  exact zl_X12_lay_7 FU h
def F_X12_lay (x1 : Int32) (σ : Mm) : Option (Mm) := (bnv (F_X12_layThings x1 σ) (fun τ => (F_X12_lay_5 τ)))
set_option maxRecDepth 20000 in
theorem zb_X12_lay {S : Shp} {x1 : Int32} {σ : Mm} {r : Mm} (h : F_X12_lay x1 σ = some r) : Z m_X12_lay S (Qv r) 0 [(0, .ref (sL S 3 0 0)), (1, .int (x1))] [] σ := by
  unfold F_X12_lay at h
  refine z_aload_n dX12_lay_0 rfl 0 rfl ?_
  refine z_iload_n dX12_lay_1 rfl 1 rfl ?_
  obtain ⟨τ, hc, h⟩ := bnv_e h
  refine z_callV (M' := m_X12_layThings) (t := 3) (i := 0) (k := 0) (As := [.int (x1)]) (rest := []) kl_12_428 oy_X12_layThings ⟨Nat.le_of_ble_eq_true rfl, Nat.le_of_ble_eq_true rfl⟩ rfl rfl rfl rfl (Nat.le_of_ble_eq_true rfl) rfl dX12_lay_2 (c_X12_layThings hc) (fun v2 τ2 hq => ?_)
  obtain ⟨rfl, hτ⟩ := hq
  subst τ2
  change Z _ _ _ _ _ [] _
  refine Z.lv [0] rfl ?_
  exact zb_X12_lay_5 h
/-- SkyStonesModel.lay(I)V -/
theorem c_X12_lay {S : Shp} {x1 : Int32} {σ : Mm} {r : Mm} (h : F_X12_lay x1 σ = some r) : Ct m_X12_lay S [.ref (sL S 3 0 0), .int (x1)] σ (Qv r) := Ct.of (by decide +kernel) (Nat.le_of_ble_eq_true rfl) (zb_X12_lay h)
def F_X12_heightOf_81 (rc9 : Int32 → Int32 → Mm → Option (Int32 × Mm)) (x1 : Int32) (x2 : Int32) (s0 : Int32) (σ : Mm) : Option (Int32 × Mm) := (if s0 = 0 then (rc9 x1 (x2 + (-1)) σ) else (if inb x2 60 = true then some (mA σ 3 0 20 x2.toNatClampNeg, σ) else none))
set_option maxRecDepth 20000 in
theorem zb_X12_heightOf_81 {S : Shp} {rc9 : Int32 → Int32 → Mm → Option (Int32 × Mm)} (hrc9 : ∀ {x1 : Int32} {x2 : Int32} {σ : Mm} {r : Int32 × Mm}, rc9 x1 x2 σ = some r → Z m_X12_heightOf S (Qi r) 9 [(0, .ref (sL S 3 0 0)), (1, .int (x1)), (2, .int (x2))] [] σ) {x1 : Int32} {x2 : Int32} {s0 : Int32} {σ : Mm} {r : Int32 × Mm} (h : F_X12_heightOf_81 rc9 x1 x2 s0 σ = some r) : Z m_X12_heightOf S (Qi r) 81 [(0, .ref (sL S 3 0 0)), (1, .int (x1)), (2, .int (x2))] [.int (s0)] σ := by
  unfold F_X12_heightOf_81 at h
  refine z_istore_n (lv' := [(0, .ref (sL S 3 0 0)), (1, .int (x1)), (2, .int (x2)), (3, .int (s0))]) dX12_heightOf_81 rfl (by decide) [1, 2, 3, 0] rfl ?_
  refine z_iload_n dX12_heightOf_82 rfl 3 rfl ?_
  refine z_if_eq (tgt := 93) dX12_heightOf_83 (by decide) (fun q => ?_) (fun q => ?_)
  · have h := (if_pos q).symm.trans h
    refine z_iinc (j := 2) (v := x2 + (-1)) (lv' := [(0, .ref (sL S 3 0 0)), (1, .int (x1)), (2, .int (x2 + (-1))), (3, .int (s0))]) dX12_heightOf_93 rfl rfl (by decide) [1, 2, 0, 3] rfl ?_
    refine z_goto (tgt := 9) dX12_heightOf_96 (by decide) ?_
    refine Z.lv [0, 1, 2] rfl ?_
    exact hrc9 h
  · have h := (if_neg q).symm.trans h
    obtain ⟨g8, h⟩ := gd h
    refine z_aload_n dX12_heightOf_86 rfl 0 rfl ?_
    refine gf_12_73 rfl dX12_heightOf_87 ?_
    refine z_iload_n dX12_heightOf_90 rfl 2 rfl ?_
    refine ia_3_20 (inb_in g8) dX12_heightOf_91 ?_
    cases h
    exact z_ireturn dX12_heightOf_92 rfl rfl ⟨rfl, rfl⟩
def F_X12_heightOf_76 (rc9 : Int32 → Int32 → Mm → Option (Int32 × Mm)) (x1 : Int32) (x2 : Int32) (σ : Mm) : Option (Int32 × Mm) := (F_X12_heightOf_81 rc9 x1 x2 1 σ)
set_option maxRecDepth 20000 in
theorem zb_X12_heightOf_76 {S : Shp} {rc9 : Int32 → Int32 → Mm → Option (Int32 × Mm)} (hrc9 : ∀ {x1 : Int32} {x2 : Int32} {σ : Mm} {r : Int32 × Mm}, rc9 x1 x2 σ = some r → Z m_X12_heightOf S (Qi r) 9 [(0, .ref (sL S 3 0 0)), (1, .int (x1)), (2, .int (x2))] [] σ) {x1 : Int32} {x2 : Int32} {σ : Mm} {r : Int32 × Mm} (h : F_X12_heightOf_76 rc9 x1 x2 σ = some r) : Z m_X12_heightOf S (Qi r) 76 [(0, .ref (sL S 3 0 0)), (1, .int (x1)), (2, .int (x2))] [] σ := by
  unfold F_X12_heightOf_76 at h
  refine z_iconst (v := 1) dX12_heightOf_76 (by decide) ?_
  refine z_goto (tgt := 81) dX12_heightOf_77 (by decide) ?_
  exact zb_X12_heightOf_81 hrc9 h
def F_X12_heightOf_52 (rc9 : Int32 → Int32 → Mm → Option (Int32 × Mm)) (x1 : Int32) (x2 : Int32) (σ : Mm) : Option (Int32 × Mm) := (F_X12_heightOf_81 rc9 x1 x2 0 σ)
set_option maxRecDepth 20000 in
theorem zb_X12_heightOf_52 {S : Shp} {rc9 : Int32 → Int32 → Mm → Option (Int32 × Mm)} (hrc9 : ∀ {x1 : Int32} {x2 : Int32} {σ : Mm} {r : Int32 × Mm}, rc9 x1 x2 σ = some r → Z m_X12_heightOf S (Qi r) 9 [(0, .ref (sL S 3 0 0)), (1, .int (x1)), (2, .int (x2))] [] σ) {x1 : Int32} {x2 : Int32} {σ : Mm} {r : Int32 × Mm} (h : F_X12_heightOf_52 rc9 x1 x2 σ = some r) : Z m_X12_heightOf S (Qi r) 52 [(0, .ref (sL S 3 0 0)), (1, .int (x1)), (2, .int (x2))] [] σ := by
  unfold F_X12_heightOf_52 at h
  refine z_iconst (v := 0) dX12_heightOf_52 (by decide) ?_
  refine z_goto (tgt := 81) dX12_heightOf_53 (by decide) ?_
  exact zb_X12_heightOf_81 hrc9 h
def B_X12_heightOf_9 (rc9 : Int32 → Int32 → Mm → Option (Int32 × Mm)) (x1 : Int32) (x2 : Int32) (σ : Mm) : Option (Int32 × Mm) := (if x2 < 0 then some (0, σ) else (if inb x2 60 = true then (if inb x2 60 = true then (if (mA σ 3 0 19 x2.toNatClampNeg) < (mA σ 3 0 18 x2.toNatClampNeg) then (if inb x2 60 = true then (if (mA σ 3 0 18 x2.toNatClampNeg) ≤ x1 then (F_X12_heightOf_76 rc9 x1 x2 σ) else (if inb x2 60 = true then (if (mA σ 3 0 19 x2.toNatClampNeg) < x1 then (F_X12_heightOf_81 rc9 x1 x2 0 σ) else (F_X12_heightOf_76 rc9 x1 x2 σ)) else none)) else none) else (if inb x2 60 = true then (if x1 < (mA σ 3 0 18 x2.toNatClampNeg) then (F_X12_heightOf_52 rc9 x1 x2 σ) else (if inb x2 60 = true then (if (mA σ 3 0 19 x2.toNatClampNeg) < x1 then (F_X12_heightOf_52 rc9 x1 x2 σ) else (F_X12_heightOf_81 rc9 x1 x2 1 σ)) else none)) else none)) else none) else none))
set_option maxRecDepth 20000 in
theorem zB_X12_heightOf_9 {S : Shp} {rc9 : Int32 → Int32 → Mm → Option (Int32 × Mm)} (hrc9 : ∀ {x1 : Int32} {x2 : Int32} {σ : Mm} {r : Int32 × Mm}, rc9 x1 x2 σ = some r → Z m_X12_heightOf S (Qi r) 9 [(0, .ref (sL S 3 0 0)), (1, .int (x1)), (2, .int (x2))] [] σ) {x1 : Int32} {x2 : Int32} {σ : Mm} {r : Int32 × Mm} (h : B_X12_heightOf_9 rc9 x1 x2 σ = some r) : Z m_X12_heightOf S (Qi r) 9 [(0, .ref (sL S 3 0 0)), (1, .int (x1)), (2, .int (x2))] [] σ := by
  unfold B_X12_heightOf_9 at h
  refine z_iload_n dX12_heightOf_9 rfl 2 rfl ?_
  refine z_if_lt (tgt := 99) dX12_heightOf_10 (by decide) (fun q => ?_) (fun q => ?_)
  · have h := (if_pos q).symm.trans h
    refine z_iconst (v := 0) dX12_heightOf_99 (by decide) ?_
    cases h
    exact z_ireturn dX12_heightOf_100 rfl rfl ⟨rfl, rfl⟩
  · have h := (if_neg q).symm.trans h
    obtain ⟨g2, h⟩ := gd h
    refine z_aload_n dX12_heightOf_13 rfl 0 rfl ?_
    refine gf_12_67 rfl dX12_heightOf_14 ?_
    refine z_iload_n dX12_heightOf_17 rfl 2 rfl ?_
    obtain ⟨g3, h⟩ := gd h
    refine ia_3_18 (inb_in g2) dX12_heightOf_18 ?_
    refine z_aload_n dX12_heightOf_19 rfl 0 rfl ?_
    refine gf_12_70 rfl dX12_heightOf_20 ?_
    refine z_iload_n dX12_heightOf_23 rfl 2 rfl ?_
    refine ia_3_19 (inb_in g3) dX12_heightOf_24 ?_
    refine z_icmp_gt (tgt := 56) dX12_heightOf_25 (by decide) (fun q => ?_) (fun q => ?_)
    · have h := (if_pos q).symm.trans h
      obtain ⟨g4, h⟩ := gd h
      refine z_iload_n dX12_heightOf_56 rfl 1 rfl ?_
      refine z_aload_n dX12_heightOf_57 rfl 0 rfl ?_
      refine gf_12_67 rfl dX12_heightOf_58 ?_
      refine z_iload_n dX12_heightOf_61 rfl 2 rfl ?_
      refine ia_3_18 (inb_in g4) dX12_heightOf_62 ?_
      refine z_icmp_ge (tgt := 76) dX12_heightOf_63 (by decide) (fun q => ?_) (fun q => ?_)
      · have h := (if_pos q).symm.trans h
        exact zb_X12_heightOf_76 hrc9 h
      · have h := (if_neg q).symm.trans h
        obtain ⟨g5, h⟩ := gd h
        refine z_iload_n dX12_heightOf_66 rfl 1 rfl ?_
        refine z_aload_n dX12_heightOf_67 rfl 0 rfl ?_
        refine gf_12_70 rfl dX12_heightOf_68 ?_
        refine z_iload_n dX12_heightOf_71 rfl 2 rfl ?_
        refine ia_3_19 (inb_in g5) dX12_heightOf_72 ?_
        refine z_icmp_gt (tgt := 80) dX12_heightOf_73 (by decide) (fun q => ?_) (fun q => ?_)
        · have h := (if_pos q).symm.trans h
          refine z_iconst (v := 0) dX12_heightOf_80 (by decide) ?_
          exact zb_X12_heightOf_81 hrc9 h
        · have h := (if_neg q).symm.trans h
          exact zb_X12_heightOf_76 hrc9 h
    · have h := (if_neg q).symm.trans h
      obtain ⟨g6, h⟩ := gd h
      refine z_iload_n dX12_heightOf_28 rfl 1 rfl ?_
      refine z_aload_n dX12_heightOf_29 rfl 0 rfl ?_
      refine gf_12_67 rfl dX12_heightOf_30 ?_
      refine z_iload_n dX12_heightOf_33 rfl 2 rfl ?_
      refine ia_3_18 (inb_in g6) dX12_heightOf_34 ?_
      refine z_icmp_lt (tgt := 52) dX12_heightOf_35 (by decide) (fun q => ?_) (fun q => ?_)
      · have h := (if_pos q).symm.trans h
        exact zb_X12_heightOf_52 hrc9 h
      · have h := (if_neg q).symm.trans h
        obtain ⟨g7, h⟩ := gd h
        refine z_iload_n dX12_heightOf_38 rfl 1 rfl ?_
        refine z_aload_n dX12_heightOf_39 rfl 0 rfl ?_
        refine gf_12_70 rfl dX12_heightOf_40 ?_
        refine z_iload_n dX12_heightOf_43 rfl 2 rfl ?_
        refine ia_3_19 (inb_in g7) dX12_heightOf_44 ?_
        refine z_icmp_gt (tgt := 52) dX12_heightOf_45 (by decide) (fun q => ?_) (fun q => ?_)
        · have h := (if_pos q).symm.trans h
          exact zb_X12_heightOf_52 hrc9 h
        · have h := (if_neg q).symm.trans h
          refine z_iconst (v := 1) dX12_heightOf_48 (by decide) ?_
          refine z_goto (tgt := 81) dX12_heightOf_49 (by decide) ?_
          exact zb_X12_heightOf_81 hrc9 h
def F_X12_heightOf_9 : Nat → Int32 → Int32 → Mm → Option (Int32 × Mm)
  | 0 => fun _ _ _ => none
  | n + 1 => B_X12_heightOf_9 (F_X12_heightOf_9 n)
theorem zl_X12_heightOf_9 {S : Shp} : ∀ (nn : Nat) {x1 : Int32} {x2 : Int32} {σ : Mm} {r : Int32 × Mm}, F_X12_heightOf_9 nn x1 x2 σ = some r → Z m_X12_heightOf S (Qi r) 9 [(0, .ref (sL S 3 0 0)), (1, .int (x1)), (2, .int (x2))] [] σ := by
  intro nn
  induction nn with
  | zero => intro x1 x2 σ r h; cases h
  | succ nn ih => intro x1 x2 σ r h; exact zB_X12_heightOf_9 @ih h
def F_X12_heightOf (x1 : Int32) (σ : Mm) : Option (Int32 × Mm) := (if inb 0 5 = true then (F_X12_heightOf_9 FU x1 ((mA σ 3 0 17 (0 : Int32).toNatClampNeg) - (1 : Int32)) σ) else none)
set_option maxRecDepth 20000 in
theorem zb_X12_heightOf {S : Shp} {x1 : Int32} {σ : Mm} {r : Int32 × Mm} (h : F_X12_heightOf x1 σ = some r) : Z m_X12_heightOf S (Qi r) 0 [(0, .ref (sL S 3 0 0)), (1, .int (x1))] [] σ := by
  unfold F_X12_heightOf at h
  obtain ⟨g1, h⟩ := gd h
  refine z_aload_n dX12_heightOf_0 rfl 0 rfl ?_
  refine gf_12_64 rfl dX12_heightOf_1 ?_
  refine z_iconst (v := 0) dX12_heightOf_4 (by decide) ?_
  refine ia_3_17 (inb_in g1) dX12_heightOf_5 ?_
  refine z_iconst (v := 1) dX12_heightOf_6 (by decide) ?_
  refine z_isub dX12_heightOf_7 ?_
  refine z_istore_n (lv' := [(0, .ref (sL S 3 0 0)), (1, .int (x1)), (2, .int ((mA σ 3 0 17 (0 : Int32).toNatClampNeg) - (1 : Int32)))]) dX12_heightOf_8 rfl (by decide) [1, 2, 0] rfl ?_
  exact zl_X12_heightOf_9 FU h
/-- SkyStonesModel.heightOf(I)I -/
theorem c_X12_heightOf {S : Shp} {x1 : Int32} {σ : Mm} {r : Int32 × Mm} (h : F_X12_heightOf x1 σ = some r) : Ct m_X12_heightOf S [.ref (sL S 3 0 0), .int (x1)] σ (Qi r) := Ct.of (by decide +kernel) (Nat.le_of_ble_eq_true rfl) (zb_X12_heightOf h)
def F_X12_skyAt_60 (x4 : Int32) (σ : Mm) : Option (Int32 × Mm) := (if 0 ≤ x4 then some (x4, σ) else some (x4 + (360 : Int32), σ))
set_option maxRecDepth 20000 in
theorem zb_X12_skyAt_60 {S : Shp} {x4 : Int32} {σ : Mm} {r : Int32 × Mm} (h : F_X12_skyAt_60 x4 σ = some r) : Z m_X12_skyAt S (Qi r) 60 [(4, .int (x4))] [] σ := by
  unfold F_X12_skyAt_60 at h
  refine z_iload dX12_skyAt_60 0 rfl ?_
  refine z_if_ge (tgt := 74) dX12_skyAt_62 (by decide) (fun q => ?_) (fun q => ?_)
  · have h := (if_pos q).symm.trans h
    refine z_iload dX12_skyAt_74 0 rfl ?_
    cases h
    exact z_ireturn dX12_skyAt_76 rfl rfl ⟨rfl, rfl⟩
  · have h := (if_neg q).symm.trans h
    refine z_iload dX12_skyAt_65 0 rfl ?_
    refine z_sipush (v := 360) dX12_skyAt_67 (by decide) ?_
    refine z_iadd dX12_skyAt_70 ?_
    refine z_goto (tgt := 76) dX12_skyAt_71 (by decide) ?_
    cases h
    exact z_ireturn dX12_skyAt_76 rfl rfl ⟨rfl, rfl⟩
def F_X12_skyAt_54 (s0 : Int32) (σ : Mm) : Option (Int32 × Mm) := (F_X12_skyAt_60 (s0 - s0 / (360 : Int32) * (360 : Int32)) σ)
set_option maxRecDepth 20000 in
theorem zb_X12_skyAt_54 {S : Shp} {s0 : Int32} {σ : Mm} {r : Int32 × Mm} (h : F_X12_skyAt_54 s0 σ = some r) : Z m_X12_skyAt S (Qi r) 54 [] [.int (s0)] σ := by
  unfold F_X12_skyAt_54 at h
  refine z_sipush (v := 360) dX12_skyAt_54 (by decide) ?_
  refine z_irem dX12_skyAt_57 (by decide) ?_
  refine z_istore (lv' := [(4, .int (s0 - s0 / (360 : Int32) * (360 : Int32)))]) dX12_skyAt_58 (by decide) [0] rfl ?_
  exact zb_X12_skyAt_60 h
def F_X12_skyAt_38 (x1 : Int32) (σ : Mm) : Option (Int32 × Mm) := (if inb x1 25 = true then (if inb x1 25 = true then (bnd (F_X12_sum (mA σ 3 0 23 x1.toNatClampNeg) (mA σ 3 0 24 x1.toNatClampNeg) σ) (fun v τ => (F_X12_skyAt_54 v τ))) else none) else none)
set_option maxRecDepth 20000 in
theorem zb_X12_skyAt_38 {S : Shp} {x1 : Int32} {σ : Mm} {r : Int32 × Mm} (h : F_X12_skyAt_38 x1 σ = some r) : Z m_X12_skyAt S (Qi r) 38 [(0, .ref (sL S 3 0 0)), (1, .int (x1))] [] σ := by
  unfold F_X12_skyAt_38 at h
  obtain ⟨g4, h⟩ := gd h
  refine z_aload_n dX12_skyAt_38 rfl 0 rfl ?_
  refine z_aload_n dX12_skyAt_39 rfl 0 rfl ?_
  refine gf_12_82 rfl dX12_skyAt_40 ?_
  refine z_iload_n dX12_skyAt_43 rfl 1 rfl ?_
  obtain ⟨g5, h⟩ := gd h
  refine ia_3_23 (inb_in g4) dX12_skyAt_44 ?_
  refine z_aload_n dX12_skyAt_45 rfl 0 rfl ?_
  refine gf_12_85 rfl dX12_skyAt_46 ?_
  refine z_iload_n dX12_skyAt_49 rfl 1 rfl ?_
  refine ia_3_24 (inb_in g5) dX12_skyAt_50 ?_
  obtain ⟨v, τ, hc, h⟩ := bnd_e h
  refine z_callV (M' := m_X12_sum) (t := 3) (i := 0) (k := 0) (As := [.int (mA σ 3 0 23 x1.toNatClampNeg), .int (mA σ 3 0 24 x1.toNatClampNeg)]) (rest := []) kl_12_451 oy_X12_sum ⟨Nat.le_of_ble_eq_true rfl, Nat.le_of_ble_eq_true rfl⟩ rfl rfl rfl rfl (Nat.le_of_ble_eq_true rfl) rfl dX12_skyAt_51 (c_X12_sum hc) (fun v2 τ2 hq => ?_)
  obtain ⟨rfl, hτ⟩ := hq
  subst τ2
  change Z _ _ _ _ _ [.int (v)] _
  refine Z.lv [] rfl ?_
  exact zb_X12_skyAt_54 h
def F_X12_skyAt_31 (x1 : Int32) (x3 : Int32) (σ : Mm) : Option (Int32 × Mm) := (if inb 1 9 = true then (F_X12_skyAt_38 x1 (setA σ 3 0 56 (upd (mA σ 3 0 56) (1 : Int32).toNatClampNeg x3))) else none)
set_option maxRecDepth 20000 in
theorem zb_X12_skyAt_31 {S : Shp} {x1 : Int32} {x3 : Int32} {σ : Mm} {r : Int32 × Mm} (h : F_X12_skyAt_31 x1 x3 σ = some r) : Z m_X12_skyAt S (Qi r) 31 [(0, .ref (sL S 3 0 0)), (1, .int (x1)), (3, .int (x3))] [] σ := by
  unfold F_X12_skyAt_31 at h
  obtain ⟨g3, h⟩ := gd h
  refine z_aload_n dX12_skyAt_31 rfl 0 rfl ?_
  refine gf_12_181 rfl dX12_skyAt_32 ?_
  refine z_iconst (v := 1) dX12_skyAt_35 (by decide) ?_
  refine z_iload_n dX12_skyAt_36 rfl 2 rfl ?_
  refine is_3_56 (inb_in g3) dX12_skyAt_37 ?_
  refine Z.lv [0, 1] rfl ?_
  exact zb_X12_skyAt_38 h
def F_X12_skyAt_18 (rc3 : Int32 → Int32 → Int32 → Int32 → Mm → Option (Int32 × Mm)) (x1 : Int32) (x2 : Int32) (x3 : Int32) (x4 : Int32) (σ : Mm) : Option (Int32 × Mm) := (rc3 x1 x2 x3 (x4 + 1) σ)
set_option maxRecDepth 20000 in
theorem zb_X12_skyAt_18 {S : Shp} {rc3 : Int32 → Int32 → Int32 → Int32 → Mm → Option (Int32 × Mm)} (hrc3 : ∀ {x1 : Int32} {x2 : Int32} {x3 : Int32} {x4 : Int32} {σ : Mm} {r : Int32 × Mm}, rc3 x1 x2 x3 x4 σ = some r → Z m_X12_skyAt S (Qi r) 3 [(0, .ref (sL S 3 0 0)), (1, .int (x1)), (2, .int (x2)), (3, .int (x3)), (4, .int (x4))] [] σ) {x1 : Int32} {x2 : Int32} {x3 : Int32} {x4 : Int32} {σ : Mm} {r : Int32 × Mm} (h : F_X12_skyAt_18 rc3 x1 x2 x3 x4 σ = some r) : Z m_X12_skyAt S (Qi r) 18 [(0, .ref (sL S 3 0 0)), (1, .int (x1)), (2, .int (x2)), (3, .int (x3)), (4, .int (x4))] [] σ := by
  unfold F_X12_skyAt_18 at h
  refine z_iinc (j := 4) (v := x4 + 1) (lv' := [(0, .ref (sL S 3 0 0)), (1, .int (x1)), (2, .int (x2)), (3, .int (x3)), (4, .int (x4 + 1))]) dX12_skyAt_18 rfl rfl (by decide) [1, 2, 3, 4, 0] rfl ?_
  refine z_goto (tgt := 3) dX12_skyAt_21 (by decide) ?_
  exact hrc3 h
def B_X12_skyAt_3 (rc3 : Int32 → Int32 → Int32 → Int32 → Mm → Option (Int32 × Mm)) (x1 : Int32) (x2 : Int32) (x3 : Int32) (x4 : Int32) (σ : Mm) : Option (Int32 × Mm) := (if (9 : Int32) ≤ x4 then (if inb 0 9 = true then (F_X12_skyAt_31 x1 x3 (setA σ 3 0 56 (upd (mA σ 3 0 56) (0 : Int32).toNatClampNeg x2))) else none) else (if inb x4 9 = true then (F_X12_skyAt_18 rc3 x1 x2 x3 x4 (setA σ 3 0 56 (upd (mA σ 3 0 56) x4.toNatClampNeg 0))) else none))
set_option maxRecDepth 20000 in
theorem zB_X12_skyAt_3 {S : Shp} {rc3 : Int32 → Int32 → Int32 → Int32 → Mm → Option (Int32 × Mm)} (hrc3 : ∀ {x1 : Int32} {x2 : Int32} {x3 : Int32} {x4 : Int32} {σ : Mm} {r : Int32 × Mm}, rc3 x1 x2 x3 x4 σ = some r → Z m_X12_skyAt S (Qi r) 3 [(0, .ref (sL S 3 0 0)), (1, .int (x1)), (2, .int (x2)), (3, .int (x3)), (4, .int (x4))] [] σ) {x1 : Int32} {x2 : Int32} {x3 : Int32} {x4 : Int32} {σ : Mm} {r : Int32 × Mm} (h : B_X12_skyAt_3 rc3 x1 x2 x3 x4 σ = some r) : Z m_X12_skyAt S (Qi r) 3 [(0, .ref (sL S 3 0 0)), (1, .int (x1)), (2, .int (x2)), (3, .int (x3)), (4, .int (x4))] [] σ := by
  unfold B_X12_skyAt_3 at h
  refine z_iload dX12_skyAt_3 4 rfl ?_
  refine z_bipush (v := 9) dX12_skyAt_5 (by decide) ?_
  refine z_icmp_ge (tgt := 24) dX12_skyAt_7 (by decide) (fun q => ?_) (fun q => ?_)
  · have h := (if_pos q).symm.trans h
    obtain ⟨g1, h⟩ := gd h
    refine z_aload_n dX12_skyAt_24 rfl 0 rfl ?_
    refine gf_12_181 rfl dX12_skyAt_25 ?_
    refine z_iconst (v := 0) dX12_skyAt_28 (by decide) ?_
    refine z_iload_n dX12_skyAt_29 rfl 2 rfl ?_
    refine is_3_56 (inb_in g1) dX12_skyAt_30 ?_
    refine Z.lv [0, 1, 3] rfl ?_
    exact zb_X12_skyAt_31 h
  · have h := (if_neg q).symm.trans h
    obtain ⟨g2, h⟩ := gd h
    refine z_aload_n dX12_skyAt_10 rfl 0 rfl ?_
    refine gf_12_181 rfl dX12_skyAt_11 ?_
    refine z_iload dX12_skyAt_14 4 rfl ?_
    refine z_iconst (v := 0) dX12_skyAt_16 (by decide) ?_
    refine is_3_56 (inb_in g2) dX12_skyAt_17 ?_
    exact zb_X12_skyAt_18 hrc3 h
def F_X12_skyAt_3 : Nat → Int32 → Int32 → Int32 → Int32 → Mm → Option (Int32 × Mm)
  | 0 => fun _ _ _ _ _ => none
  | n + 1 => B_X12_skyAt_3 (F_X12_skyAt_3 n)
theorem zl_X12_skyAt_3 {S : Shp} : ∀ (nn : Nat) {x1 : Int32} {x2 : Int32} {x3 : Int32} {x4 : Int32} {σ : Mm} {r : Int32 × Mm}, F_X12_skyAt_3 nn x1 x2 x3 x4 σ = some r → Z m_X12_skyAt S (Qi r) 3 [(0, .ref (sL S 3 0 0)), (1, .int (x1)), (2, .int (x2)), (3, .int (x3)), (4, .int (x4))] [] σ := by
  intro nn
  induction nn with
  | zero => intro x1 x2 x3 x4 σ r h; cases h
  | succ nn ih => intro x1 x2 x3 x4 σ r h; exact zB_X12_skyAt_3 @ih h
def F_X12_skyAt (x1 : Int32) (x2 : Int32) (x3 : Int32) (σ : Mm) : Option (Int32 × Mm) := (F_X12_skyAt_3 FU x1 x2 x3 0 σ)
set_option maxRecDepth 20000 in
theorem zb_X12_skyAt {S : Shp} {x1 : Int32} {x2 : Int32} {x3 : Int32} {σ : Mm} {r : Int32 × Mm} (h : F_X12_skyAt x1 x2 x3 σ = some r) : Z m_X12_skyAt S (Qi r) 0 [(0, .ref (sL S 3 0 0)), (1, .int (x1)), (2, .int (x2)), (3, .int (x3))] [] σ := by
  unfold F_X12_skyAt at h
  refine z_iconst (v := 0) dX12_skyAt_0 (by decide) ?_
  refine z_istore (lv' := [(0, .ref (sL S 3 0 0)), (1, .int (x1)), (2, .int (x2)), (3, .int (x3)), (4, .int (0))]) dX12_skyAt_1 (by decide) [1, 2, 3, 4, 0] rfl ?_
  exact zl_X12_skyAt_3 FU h
/-- SkyStonesModel.skyAt(III)I -/
theorem c_X12_skyAt {S : Shp} {x1 : Int32} {x2 : Int32} {x3 : Int32} {σ : Mm} {r : Int32 × Mm} (h : F_X12_skyAt x1 x2 x3 σ = some r) : Ct m_X12_skyAt S [.ref (sL S 3 0 0), .int (x1), .int (x2), .int (x3)] σ (Qi r) := Ct.of (by decide +kernel) (Nat.le_of_ble_eq_true rfl) (zb_X12_skyAt h)
def F_X12_riseOf_19 (s0 : Int32) (σ : Mm) : Option (Int32 × Mm) := some (s0, σ)
set_option maxRecDepth 20000 in
theorem zb_X12_riseOf_19 {S : Shp} {s0 : Int32} {σ : Mm} {r : Int32 × Mm} (h : F_X12_riseOf_19 s0 σ = some r) : Z m_X12_riseOf S (Qi r) 19 [] [.int (s0)] σ := by
  unfold F_X12_riseOf_19 at h
  cases h
  exact z_ireturn dX12_riseOf_19 rfl rfl ⟨rfl, rfl⟩
def F_X12_riseOf_16 (s0 : Int32) (s1 : Int32) (s2 : Int32) (σ : Mm) : Option (Int32 × Mm) := (bnd (F_X12_skyAt s2 s1 s0 σ) (fun v τ => (F_X12_riseOf_19 v τ)))
set_option maxRecDepth 20000 in
theorem zb_X12_riseOf_16 {S : Shp} {s0 : Int32} {s1 : Int32} {s2 : Int32} {σ : Mm} {r : Int32 × Mm} (h : F_X12_riseOf_16 s0 s1 s2 σ = some r) : Z m_X12_riseOf S (Qi r) 16 [] [.int (s0), .int (s1), .int (s2), .ref (sL S 3 0 0)] σ := by
  unfold F_X12_riseOf_16 at h
  obtain ⟨v, τ, hc, h⟩ := bnd_e h
  refine z_callV (M' := m_X12_skyAt) (t := 3) (i := 0) (k := 0) (As := [.int (s2), .int (s1), .int (s0)]) (rest := []) kl_12_469 oy_X12_skyAt ⟨Nat.le_of_ble_eq_true rfl, Nat.le_of_ble_eq_true rfl⟩ rfl rfl rfl rfl (Nat.le_of_ble_eq_true rfl) rfl dX12_riseOf_16 (c_X12_skyAt hc) (fun v2 τ2 hq => ?_)
  obtain ⟨rfl, hτ⟩ := hq
  subst τ2
  change Z _ _ _ _ _ [.int (v)] _
  exact zb_X12_riseOf_19 h
def F_X12_riseOf_7 (x1 : Int32) (x2 : Int32) (s0 : Int32) (σ : Mm) : Option (Int32 × Mm) := (bnd (F_X12_heightOf s0 σ) (fun v τ => (F_X12_riseOf_16 v x2 x1 τ)))
set_option maxRecDepth 20000 in
theorem zb_X12_riseOf_7 {S : Shp} {x1 : Int32} {x2 : Int32} {s0 : Int32} {σ : Mm} {r : Int32 × Mm} (h : F_X12_riseOf_7 x1 x2 s0 σ = some r) : Z m_X12_riseOf S (Qi r) 7 [(0, .ref (sL S 3 0 0)), (1, .int (x1)), (2, .int (x2))] [.int (s0)] σ := by
  unfold F_X12_riseOf_7 at h
  refine z_istore_n (lv' := [(0, .ref (sL S 3 0 0)), (1, .int (x1)), (2, .int (x2)), (3, .int (s0))]) dX12_riseOf_7 rfl (by decide) [1, 2, 3, 0] rfl ?_
  refine z_aload_n dX12_riseOf_8 rfl 0 rfl ?_
  refine z_iload_n dX12_riseOf_9 rfl 1 rfl ?_
  refine z_iload_n dX12_riseOf_10 rfl 2 rfl ?_
  refine z_aload_n dX12_riseOf_11 rfl 0 rfl ?_
  refine z_iload_n dX12_riseOf_12 rfl 3 rfl ?_
  obtain ⟨v, τ, hc, h⟩ := bnd_e h
  refine z_callV (M' := m_X12_heightOf) (t := 3) (i := 0) (k := 0) (As := [.int (s0)]) (rest := [.int (x2), .int (x1), .ref (sL S 3 0 0)]) kl_12_466 oy_X12_heightOf ⟨Nat.le_of_ble_eq_true rfl, Nat.le_of_ble_eq_true rfl⟩ rfl rfl rfl rfl (Nat.le_of_ble_eq_true rfl) rfl dX12_riseOf_13 (c_X12_heightOf hc) (fun v2 τ2 hq => ?_)
  obtain ⟨rfl, hτ⟩ := hq
  subst τ2
  change Z _ _ _ _ _ [.int (v), .int (x2), .int (x1), .ref (sL S 3 0 0)] _
  refine Z.lv [] rfl ?_
  exact zb_X12_riseOf_16 h
def F_X12_riseOf (x1 : Int32) (x2 : Int32) (σ : Mm) : Option (Int32 × Mm) := (bnd (F_X12_skyAt x1 x2 0 σ) (fun v τ => (F_X12_riseOf_7 x1 x2 v τ)))
set_option maxRecDepth 20000 in
theorem zb_X12_riseOf {S : Shp} {x1 : Int32} {x2 : Int32} {σ : Mm} {r : Int32 × Mm} (h : F_X12_riseOf x1 x2 σ = some r) : Z m_X12_riseOf S (Qi r) 0 [(0, .ref (sL S 3 0 0)), (1, .int (x1)), (2, .int (x2))] [] σ := by
  unfold F_X12_riseOf at h
  refine z_aload_n dX12_riseOf_0 rfl 0 rfl ?_
  refine z_iload_n dX12_riseOf_1 rfl 1 rfl ?_
  refine z_iload_n dX12_riseOf_2 rfl 2 rfl ?_
  refine z_iconst (v := 0) dX12_riseOf_3 (by decide) ?_
  obtain ⟨v, τ, hc, h⟩ := bnd_e h
  refine z_callV (M' := m_X12_skyAt) (t := 3) (i := 0) (k := 0) (As := [.int (x1), .int (x2), .int (0)]) (rest := []) kl_12_469 oy_X12_skyAt ⟨Nat.le_of_ble_eq_true rfl, Nat.le_of_ble_eq_true rfl⟩ rfl rfl rfl rfl (Nat.le_of_ble_eq_true rfl) rfl dX12_riseOf_4 (c_X12_skyAt hc) (fun v2 τ2 hq => ?_)
  obtain ⟨rfl, hτ⟩ := hq
  subst τ2
  change Z _ _ _ _ _ [.int (v)] _
  exact zb_X12_riseOf_7 h
/-- SkyStonesModel.riseOf(II)I -/
theorem c_X12_riseOf {S : Shp} {x1 : Int32} {x2 : Int32} {σ : Mm} {r : Int32 × Mm} (h : F_X12_riseOf x1 x2 σ = some r) : Ct m_X12_riseOf S [.ref (sL S 3 0 0), .int (x1), .int (x2)] σ (Qi r) := Ct.of (by decide +kernel) (Nat.le_of_ble_eq_true rfl) (zb_X12_riseOf h)
def F_X12_laySky_24 (rc2 : Int32 → Int32 → Mm → Option (Mm)) (x1 : Int32) (x2 : Int32) (σ : Mm) : Option (Mm) := (rc2 x1 (x2 + 1) σ)
set_option maxRecDepth 20000 in
theorem zb_X12_laySky_24 {S : Shp} {rc2 : Int32 → Int32 → Mm → Option (Mm)} (hrc2 : ∀ {x1 : Int32} {x2 : Int32} {σ : Mm} {r : Mm}, rc2 x1 x2 σ = some r → Z m_X12_laySky S (Qv r) 2 [(0, .ref (sL S 3 0 0)), (1, .int (x1)), (2, .int (x2))] [] σ) {x1 : Int32} {x2 : Int32} {σ : Mm} {r : Mm} (h : F_X12_laySky_24 rc2 x1 x2 σ = some r) : Z m_X12_laySky S (Qv r) 24 [(0, .ref (sL S 3 0 0)), (1, .int (x1)), (2, .int (x2))] [] σ := by
  unfold F_X12_laySky_24 at h
  refine z_iinc (j := 2) (v := x2 + 1) (lv' := [(0, .ref (sL S 3 0 0)), (1, .int (x1)), (2, .int (x2 + 1))]) dX12_laySky_24 rfl rfl (by decide) [1, 2, 0] rfl ?_
  refine z_goto (tgt := 2) dX12_laySky_27 (by decide) ?_
  exact hrc2 h
def F_X12_laySky_23 (rc2 : Int32 → Int32 → Mm → Option (Mm)) (x1 : Int32) (x2 : Int32) (s0 : Int32) (s1 : Int32) (σ : Mm) : Option (Mm) := (if inb s1 5 = true then (F_X12_laySky_24 rc2 x1 x2 (setA σ 3 0 58 (upd (mA σ 3 0 58) s1.toNatClampNeg s0))) else none)
set_option maxRecDepth 20000 in
theorem zb_X12_laySky_23 {S : Shp} {rc2 : Int32 → Int32 → Mm → Option (Mm)} (hrc2 : ∀ {x1 : Int32} {x2 : Int32} {σ : Mm} {r : Mm}, rc2 x1 x2 σ = some r → Z m_X12_laySky S (Qv r) 2 [(0, .ref (sL S 3 0 0)), (1, .int (x1)), (2, .int (x2))] [] σ) {x1 : Int32} {x2 : Int32} {s0 : Int32} {s1 : Int32} {σ : Mm} {r : Mm} (h : F_X12_laySky_23 rc2 x1 x2 s0 s1 σ = some r) : Z m_X12_laySky S (Qv r) 23 [(0, .ref (sL S 3 0 0)), (1, .int (x1)), (2, .int (x2))] [.int (s0), .int (s1), .ref (sL S 3 0 58)] σ := by
  unfold F_X12_laySky_23 at h
  obtain ⟨g2, h⟩ := gd h
  refine is_3_58 (inb_in g2) dX12_laySky_23 ?_
  exact zb_X12_laySky_24 hrc2 h
def B_X12_laySky_2 (rc2 : Int32 → Int32 → Mm → Option (Mm)) (x1 : Int32) (x2 : Int32) (σ : Mm) : Option (Mm) := (if inb 0 5 = true then (if (mA σ 3 0 21 (0 : Int32).toNatClampNeg) ≤ x2 then some (σ) else (bnd (F_X12_riseOf x2 x1 σ) (fun v τ => (F_X12_laySky_23 rc2 x1 x2 v x2 τ)))) else none)
set_option maxRecDepth 20000 in
theorem zB_X12_laySky_2 {S : Shp} {rc2 : Int32 → Int32 → Mm → Option (Mm)} (hrc2 : ∀ {x1 : Int32} {x2 : Int32} {σ : Mm} {r : Mm}, rc2 x1 x2 σ = some r → Z m_X12_laySky S (Qv r) 2 [(0, .ref (sL S 3 0 0)), (1, .int (x1)), (2, .int (x2))] [] σ) {x1 : Int32} {x2 : Int32} {σ : Mm} {r : Mm} (h : B_X12_laySky_2 rc2 x1 x2 σ = some r) : Z m_X12_laySky S (Qv r) 2 [(0, .ref (sL S 3 0 0)), (1, .int (x1)), (2, .int (x2))] [] σ := by
  unfold B_X12_laySky_2 at h
  obtain ⟨g1, h⟩ := gd h
  refine z_iload_n dX12_laySky_2 rfl 2 rfl ?_
  refine z_aload_n dX12_laySky_3 rfl 0 rfl ?_
  refine gf_12_76 rfl dX12_laySky_4 ?_
  refine z_iconst (v := 0) dX12_laySky_7 (by decide) ?_
  refine ia_3_21 (inb_in g1) dX12_laySky_8 ?_
  refine z_icmp_ge (tgt := 30) dX12_laySky_9 (by decide) (fun q => ?_) (fun q => ?_)
  · have h := (if_pos q).symm.trans h
    cases h
    exact z_return dX12_laySky_30 rfl ⟨rfl, rfl⟩
  · have h := (if_neg q).symm.trans h
    refine z_aload_n dX12_laySky_12 rfl 0 rfl ?_
    refine gf_12_187 rfl dX12_laySky_13 ?_
    refine z_iload_n dX12_laySky_16 rfl 2 rfl ?_
    refine z_aload_n dX12_laySky_17 rfl 0 rfl ?_
    refine z_iload_n dX12_laySky_18 rfl 2 rfl ?_
    refine z_iload_n dX12_laySky_19 rfl 1 rfl ?_
    obtain ⟨v, τ, hc, h⟩ := bnd_e h
    refine z_callV (M' := m_X12_riseOf) (t := 3) (i := 0) (k := 0) (As := [.int (x2), .int (x1)]) (rest := [.int (x2), .ref (sL S 3 0 58)]) kl_12_475 oy_X12_riseOf ⟨Nat.le_of_ble_eq_true rfl, Nat.le_of_ble_eq_true rfl⟩ rfl rfl rfl rfl (Nat.le_of_ble_eq_true rfl) rfl dX12_laySky_20 (c_X12_riseOf hc) (fun v2 τ2 hq => ?_)
    obtain ⟨rfl, hτ⟩ := hq
    subst τ2
    change Z _ _ _ _ _ [.int (v), .int (x2), .ref (sL S 3 0 58)] _
    exact zb_X12_laySky_23 hrc2 h
def F_X12_laySky_2 : Nat → Int32 → Int32 → Mm → Option (Mm)
  | 0 => fun _ _ _ => none
  | n + 1 => B_X12_laySky_2 (F_X12_laySky_2 n)
theorem zl_X12_laySky_2 {S : Shp} : ∀ (nn : Nat) {x1 : Int32} {x2 : Int32} {σ : Mm} {r : Mm}, F_X12_laySky_2 nn x1 x2 σ = some r → Z m_X12_laySky S (Qv r) 2 [(0, .ref (sL S 3 0 0)), (1, .int (x1)), (2, .int (x2))] [] σ := by
  intro nn
  induction nn with
  | zero => intro x1 x2 σ r h; cases h
  | succ nn ih => intro x1 x2 σ r h; exact zB_X12_laySky_2 @ih h
def F_X12_laySky (x1 : Int32) (σ : Mm) : Option (Mm) := (F_X12_laySky_2 FU x1 0 σ)
set_option maxRecDepth 20000 in
theorem zb_X12_laySky {S : Shp} {x1 : Int32} {σ : Mm} {r : Mm} (h : F_X12_laySky x1 σ = some r) : Z m_X12_laySky S (Qv r) 0 [(0, .ref (sL S 3 0 0)), (1, .int (x1))] [] σ := by
  unfold F_X12_laySky at h
  refine z_iconst (v := 0) dX12_laySky_0 (by decide) ?_
  refine z_istore_n (lv' := [(0, .ref (sL S 3 0 0)), (1, .int (x1)), (2, .int (0))]) dX12_laySky_1 rfl (by decide) [1, 2, 0] rfl ?_
  exact zl_X12_laySky_2 FU h
/-- SkyStonesModel.laySky(I)V -/
theorem c_X12_laySky {S : Shp} {x1 : Int32} {σ : Mm} {r : Mm} (h : F_X12_laySky x1 σ = some r) : Ct m_X12_laySky S [.ref (sL S 3 0 0), .int (x1)] σ (Qv r) := Ct.of (by decide +kernel) (Nat.le_of_ble_eq_true rfl) (zb_X12_laySky h)
def F_X12_layAll_5 (x1 : Int32) (σ : Mm) : Option (Mm) := (bnv (F_X12_laySky x1 σ) (fun τ => some (τ)))
set_option maxRecDepth 20000 in
theorem zb_X12_layAll_5 {S : Shp} {x1 : Int32} {σ : Mm} {r : Mm} (h : F_X12_layAll_5 x1 σ = some r) : Z m_X12_layAll S (Qv r) 5 [(0, .ref (sL S 3 0 0)), (1, .int (x1))] [] σ := by
  unfold F_X12_layAll_5 at h
  refine z_aload_n dX12_layAll_5 rfl 0 rfl ?_
  refine z_iload_n dX12_layAll_6 rfl 1 rfl ?_
  obtain ⟨τ, hc, h⟩ := bnv_e h
  refine z_callV (M' := m_X12_laySky) (t := 3) (i := 0) (k := 0) (As := [.int (x1)]) (rest := []) kl_12_481 oy_X12_laySky ⟨Nat.le_of_ble_eq_true rfl, Nat.le_of_ble_eq_true rfl⟩ rfl rfl rfl rfl (Nat.le_of_ble_eq_true rfl) rfl dX12_layAll_7 (c_X12_laySky hc) (fun v2 τ2 hq => ?_)
  obtain ⟨rfl, hτ⟩ := hq
  subst τ2
  change Z _ _ _ _ _ [] _
  cases h
  exact z_return dX12_layAll_10 rfl ⟨rfl, rfl⟩
def F_X12_layAll (x1 : Int32) (x2 : Int32) (σ : Mm) : Option (Mm) := (bnv (F_X12_lay x2 σ) (fun τ => (F_X12_layAll_5 x1 τ)))
set_option maxRecDepth 20000 in
theorem zb_X12_layAll {S : Shp} {x1 : Int32} {x2 : Int32} {σ : Mm} {r : Mm} (h : F_X12_layAll x1 x2 σ = some r) : Z m_X12_layAll S (Qv r) 0 [(0, .ref (sL S 3 0 0)), (1, .int (x1)), (2, .int (x2))] [] σ := by
  unfold F_X12_layAll at h
  refine z_aload_n dX12_layAll_0 rfl 0 rfl ?_
  refine z_iload_n dX12_layAll_1 rfl 2 rfl ?_
  obtain ⟨τ, hc, h⟩ := bnv_e h
  refine z_callV (M' := m_X12_lay) (t := 3) (i := 0) (k := 0) (As := [.int (x2)]) (rest := []) kl_12_463 oy_X12_lay ⟨Nat.le_of_ble_eq_true rfl, Nat.le_of_ble_eq_true rfl⟩ rfl rfl rfl rfl (Nat.le_of_ble_eq_true rfl) rfl dX12_layAll_2 (c_X12_lay hc) (fun v2 τ2 hq => ?_)
  obtain ⟨rfl, hτ⟩ := hq
  subst τ2
  change Z _ _ _ _ _ [] _
  refine Z.lv [0, 1] rfl ?_
  exact zb_X12_layAll_5 h
/-- SkyStonesModel.layAll(II)V -/
theorem c_X12_layAll {S : Shp} {x1 : Int32} {x2 : Int32} {σ : Mm} {r : Mm} (h : F_X12_layAll x1 x2 σ = some r) : Ct m_X12_layAll S [.ref (sL S 3 0 0), .int (x1), .int (x2)] σ (Qv r) := Ct.of (by decide +kernel) (Nat.le_of_ble_eq_true rfl) (zb_X12_layAll h)
def F_X12_allHits_42 (rc24 : Int32 → Int32 → Int32 → Mm → Option (Int32 × Mm)) (x1 : Int32) (x5 : Int32) (s0 : Int32) (s1 : Int32) (σ : Mm) : Option (Int32 × Mm) := (rc24 x1 (s1 + s0) (x5 + 1) σ)
set_option maxRecDepth 20000 in
theorem zb_X12_allHits_42 {S : Shp} {rc24 : Int32 → Int32 → Int32 → Mm → Option (Int32 × Mm)} (hrc24 : ∀ {x1 : Int32} {x4 : Int32} {x5 : Int32} {σ : Mm} {r : Int32 × Mm}, rc24 x1 x4 x5 σ = some r → Z m_X12_allHits S (Qi r) 24 [(0, .ref (sL S 3 0 0)), (1, .int (x1)), (4, .int (x4)), (5, .int (x5))] [] σ) {x1 : Int32} {x5 : Int32} {s0 : Int32} {s1 : Int32} {σ : Mm} {r : Int32 × Mm} (h : F_X12_allHits_42 rc24 x1 x5 s0 s1 σ = some r) : Z m_X12_allHits S (Qi r) 42 [(0, .ref (sL S 3 0 0)), (1, .int (x1)), (5, .int (x5))] [.int (s0), .int (s1)] σ := by
  unfold F_X12_allHits_42 at h
  refine z_iadd dX12_allHits_42 ?_
  refine z_istore (lv' := [(0, .ref (sL S 3 0 0)), (1, .int (x1)), (4, .int (s1 + s0)), (5, .int (x5))]) dX12_allHits_43 (by decide) [1, 2, 0, 3] rfl ?_
  refine z_iinc (j := 3) (v := x5 + 1) (lv' := [(0, .ref (sL S 3 0 0)), (1, .int (x1)), (4, .int (s1 + s0)), (5, .int (x5 + 1))]) dX12_allHits_45 rfl rfl (by decide) [1, 2, 3, 0] rfl ?_
  refine z_goto (tgt := 24) dX12_allHits_48 (by decide) ?_
  exact hrc24 h
def B_X12_allHits_24 (rc24 : Int32 → Int32 → Int32 → Mm → Option (Int32 × Mm)) (x1 : Int32) (x4 : Int32) (x5 : Int32) (σ : Mm) : Option (Int32 × Mm) := (if (360 : Int32) ≤ x5 then some (x4, σ) else (bnd (F_X12_hitsOf x1 x5 0 σ) (fun v τ => (F_X12_allHits_42 rc24 x1 x5 v x4 τ))))
set_option maxRecDepth 20000 in
theorem zB_X12_allHits_24 {S : Shp} {rc24 : Int32 → Int32 → Int32 → Mm → Option (Int32 × Mm)} (hrc24 : ∀ {x1 : Int32} {x4 : Int32} {x5 : Int32} {σ : Mm} {r : Int32 × Mm}, rc24 x1 x4 x5 σ = some r → Z m_X12_allHits S (Qi r) 24 [(0, .ref (sL S 3 0 0)), (1, .int (x1)), (4, .int (x4)), (5, .int (x5))] [] σ) {x1 : Int32} {x4 : Int32} {x5 : Int32} {σ : Mm} {r : Int32 × Mm} (h : B_X12_allHits_24 rc24 x1 x4 x5 σ = some r) : Z m_X12_allHits S (Qi r) 24 [(0, .ref (sL S 3 0 0)), (1, .int (x1)), (4, .int (x4)), (5, .int (x5))] [] σ := by
  unfold B_X12_allHits_24 at h
  refine z_iload dX12_allHits_24 3 rfl ?_
  refine z_sipush (v := 360) dX12_allHits_26 (by decide) ?_
  refine z_icmp_ge (tgt := 51) dX12_allHits_29 (by decide) (fun q => ?_) (fun q => ?_)
  · have h := (if_pos q).symm.trans h
    refine z_iload dX12_allHits_51 2 rfl ?_
    cases h
    exact z_ireturn dX12_allHits_53 rfl rfl ⟨rfl, rfl⟩
  · have h := (if_neg q).symm.trans h
    refine z_iload dX12_allHits_32 2 rfl ?_
    refine z_aload_n dX12_allHits_34 rfl 0 rfl ?_
    refine z_iload_n dX12_allHits_35 rfl 1 rfl ?_
    refine z_iload dX12_allHits_36 3 rfl ?_
    refine z_iconst (v := 0) dX12_allHits_38 (by decide) ?_
    obtain ⟨v, τ, hc, h⟩ := bnd_e h
    refine z_callV (M' := m_X12_hitsOf) (t := 3) (i := 0) (k := 0) (As := [.int (x1), .int (x5), .int (0)]) (rest := [.int (x4)]) kl_12_497 oy_X12_hitsOf ⟨Nat.le_of_ble_eq_true rfl, Nat.le_of_ble_eq_true rfl⟩ rfl rfl rfl rfl (Nat.le_of_ble_eq_true rfl) rfl dX12_allHits_39 (c_X12_hitsOf hc) (fun v2 τ2 hq => ?_)
    obtain ⟨rfl, hτ⟩ := hq
    subst τ2
    change Z _ _ _ _ _ [.int (v), .int (x4)] _
    refine Z.lv [0, 1, 3] rfl ?_
    exact zb_X12_allHits_42 hrc24 h
def F_X12_allHits_24 : Nat → Int32 → Int32 → Int32 → Mm → Option (Int32 × Mm)
  | 0 => fun _ _ _ _ => none
  | n + 1 => B_X12_allHits_24 (F_X12_allHits_24 n)
theorem zl_X12_allHits_24 {S : Shp} : ∀ (nn : Nat) {x1 : Int32} {x4 : Int32} {x5 : Int32} {σ : Mm} {r : Int32 × Mm}, F_X12_allHits_24 nn x1 x4 x5 σ = some r → Z m_X12_allHits S (Qi r) 24 [(0, .ref (sL S 3 0 0)), (1, .int (x1)), (4, .int (x4)), (5, .int (x5))] [] σ := by
  intro nn
  induction nn with
  | zero => intro x1 x4 x5 σ r h; cases h
  | succ nn ih => intro x1 x4 x5 σ r h; exact zB_X12_allHits_24 @ih h
def F_X12_allHits_18 (x1 : Int32) (σ : Mm) : Option (Int32 × Mm) := (F_X12_allHits_24 FU x1 0 0 σ)
set_option maxRecDepth 20000 in
theorem zb_X12_allHits_18 {S : Shp} {x1 : Int32} {σ : Mm} {r : Int32 × Mm} (h : F_X12_allHits_18 x1 σ = some r) : Z m_X12_allHits S (Qi r) 18 [(0, .ref (sL S 3 0 0)), (1, .int (x1))] [] σ := by
  unfold F_X12_allHits_18 at h
  refine z_iconst (v := 0) dX12_allHits_18 (by decide) ?_
  refine z_istore (lv' := [(0, .ref (sL S 3 0 0)), (1, .int (x1)), (4, .int (0))]) dX12_allHits_19 (by decide) [1, 2, 0] rfl ?_
  refine z_iconst (v := 0) dX12_allHits_21 (by decide) ?_
  refine z_istore (lv' := [(0, .ref (sL S 3 0 0)), (1, .int (x1)), (4, .int (0)), (5, .int (0))]) dX12_allHits_22 (by decide) [1, 2, 3, 0] rfl ?_
  exact zl_X12_allHits_24 FU h
def F_X12_allHits_7 (x1 : Int32) (x2 : Int32) (x3 : Int32) (s0 : Int32) (σ : Mm) : Option (Int32 × Mm) := (if s0 = 0 then some ((-1), σ) else (bnv (F_X12_layAll x2 x3 σ) (fun τ => (F_X12_allHits_18 x1 τ))))
set_option maxRecDepth 20000 in
theorem zb_X12_allHits_7 {S : Shp} {x1 : Int32} {x2 : Int32} {x3 : Int32} {s0 : Int32} {σ : Mm} {r : Int32 × Mm} (h : F_X12_allHits_7 x1 x2 x3 s0 σ = some r) : Z m_X12_allHits S (Qi r) 7 [(0, .ref (sL S 3 0 0)), (1, .int (x1)), (2, .int (x2)), (3, .int (x3))] [.int (s0)] σ := by
  unfold F_X12_allHits_7 at h
  refine z_if_ne (tgt := 12) dX12_allHits_7 (by decide) (fun q => ?_) (fun q => ?_)
  · have h := (if_neg q).symm.trans h
    refine z_aload_n dX12_allHits_12 rfl 0 rfl ?_
    refine z_iload_n dX12_allHits_13 rfl 2 rfl ?_
    refine z_iload_n dX12_allHits_14 rfl 3 rfl ?_
    obtain ⟨τ, hc, h⟩ := bnv_e h
    refine z_callV (M' := m_X12_layAll) (t := 3) (i := 0) (k := 0) (As := [.int (x2), .int (x3)]) (rest := []) kl_12_494 oy_X12_layAll ⟨Nat.le_of_ble_eq_true rfl, Nat.le_of_ble_eq_true rfl⟩ rfl rfl rfl rfl (Nat.le_of_ble_eq_true rfl) rfl dX12_allHits_15 (c_X12_layAll hc) (fun v2 τ2 hq => ?_)
    obtain ⟨rfl, hτ⟩ := hq
    subst τ2
    change Z _ _ _ _ _ [] _
    refine Z.lv [0, 1] rfl ?_
    exact zb_X12_allHits_18 h
  · have h := (if_pos q).symm.trans h
    refine z_iconst (v := (-1)) dX12_allHits_10 (by decide) ?_
    cases h
    exact z_ireturn dX12_allHits_11 rfl rfl ⟨rfl, rfl⟩
def F_X12_allHits (x1 : Int32) (x2 : Int32) (x3 : Int32) (σ : Mm) : Option (Int32 × Mm) := (bnd (F_X12_isSet x1 x2 x3 σ) (fun v τ => (F_X12_allHits_7 x1 x2 x3 v τ)))
set_option maxRecDepth 20000 in
theorem zb_X12_allHits {S : Shp} {x1 : Int32} {x2 : Int32} {x3 : Int32} {σ : Mm} {r : Int32 × Mm} (h : F_X12_allHits x1 x2 x3 σ = some r) : Z m_X12_allHits S (Qi r) 0 [(0, .ref (sL S 3 0 0)), (1, .int (x1)), (2, .int (x2)), (3, .int (x3))] [] σ := by
  unfold F_X12_allHits at h
  refine z_aload_n dX12_allHits_0 rfl 0 rfl ?_
  refine z_iload_n dX12_allHits_1 rfl 1 rfl ?_
  refine z_iload_n dX12_allHits_2 rfl 2 rfl ?_
  refine z_iload_n dX12_allHits_3 rfl 3 rfl ?_
  obtain ⟨v, τ, hc, h⟩ := bnd_e h
  refine z_callV (M' := m_X12_isSet) (t := 3) (i := 0) (k := 0) (As := [.int (x1), .int (x2), .int (x3)]) (rest := []) kl_12_491 oy_X12_isSet ⟨Nat.le_of_ble_eq_true rfl, Nat.le_of_ble_eq_true rfl⟩ rfl rfl rfl rfl (Nat.le_of_ble_eq_true rfl) rfl dX12_allHits_4 (c_X12_isSet hc) (fun v2 τ2 hq => ?_)
  obtain ⟨rfl, hτ⟩ := hq
  subst τ2
  change Z _ _ _ _ _ [.int (v)] _
  exact zb_X12_allHits_7 h
/-- SkyStonesModel.allHits(III)I -/
theorem c_X12_allHits {S : Shp} {x1 : Int32} {x2 : Int32} {x3 : Int32} {σ : Mm} {r : Int32 × Mm} (h : F_X12_allHits x1 x2 x3 σ = some r) : Ct m_X12_allHits S [.ref (sL S 3 0 0), .int (x1), .int (x2), .int (x3)] σ (Qi r) := Ct.of (by decide +kernel) (Nat.le_of_ble_eq_true rfl) (zb_X12_allHits h)
def F_X12_alone_286 (rc155 : Int32 → Int32 → Mm → Option (Int32 × Mm)) (x4 : Int32) (x5 : Int32) (σ : Mm) : Option (Int32 × Mm) := (rc155 x4 (x5 + 1) σ)
set_option maxRecDepth 20000 in
theorem zb_X12_alone_286 {S : Shp} {rc155 : Int32 → Int32 → Mm → Option (Int32 × Mm)} (hrc155 : ∀ {x4 : Int32} {x5 : Int32} {σ : Mm} {r : Int32 × Mm}, rc155 x4 x5 σ = some r → Z m_X12_alone S (Qi r) 155 [(0, .ref (sL S 3 0 0)), (4, .int (x4)), (5, .int (x5))] [] σ) {x4 : Int32} {x5 : Int32} {σ : Mm} {r : Int32 × Mm} (h : F_X12_alone_286 rc155 x4 x5 σ = some r) : Z m_X12_alone S (Qi r) 286 [(0, .ref (sL S 3 0 0)), (4, .int (x4)), (5, .int (x5))] [] σ := by
  unfold F_X12_alone_286 at h
  refine z_iinc (j := 2) (v := x5 + 1) (lv' := [(0, .ref (sL S 3 0 0)), (4, .int (x4)), (5, .int (x5 + 1))]) dX12_alone_286 rfl rfl (by decide) [1, 2, 0] rfl ?_
  refine z_goto (tgt := 155) dX12_alone_289 (by decide) ?_
  exact hrc155 h
def F_X12_alone_271 (rc155 : Int32 → Int32 → Mm → Option (Int32 × Mm)) (rc207 : Int32 → Int32 → Int32 → Int32 → Int32 → Int32 → Mm → Option (Int32 × Mm)) (x4 : Int32) (x5 : Int32) (x6 : Int32) (x7 : Int32) (x8 : Int32) (x9 : Int32) (σ : Mm) : Option (Int32 × Mm) := (rc207 x4 x5 x6 x7 x8 (x9 + 1) σ)
set_option maxRecDepth 20000 in
theorem zb_X12_alone_271 {S : Shp} {rc155 : Int32 → Int32 → Mm → Option (Int32 × Mm)} (hrc155 : ∀ {x4 : Int32} {x5 : Int32} {σ : Mm} {r : Int32 × Mm}, rc155 x4 x5 σ = some r → Z m_X12_alone S (Qi r) 155 [(0, .ref (sL S 3 0 0)), (4, .int (x4)), (5, .int (x5))] [] σ) {rc207 : Int32 → Int32 → Int32 → Int32 → Int32 → Int32 → Mm → Option (Int32 × Mm)} (hrc207 : ∀ {x4 : Int32} {x5 : Int32} {x6 : Int32} {x7 : Int32} {x8 : Int32} {x9 : Int32} {σ : Mm} {r : Int32 × Mm}, rc207 x4 x5 x6 x7 x8 x9 σ = some r → Z m_X12_alone S (Qi r) 207 [(0, .ref (sL S 3 0 0)), (4, .int (x4)), (5, .int (x5)), (6, .int (x6)), (7, .int (x7)), (8, .int (x8)), (9, .int (x9))] [] σ) {x4 : Int32} {x5 : Int32} {x6 : Int32} {x7 : Int32} {x8 : Int32} {x9 : Int32} {σ : Mm} {r : Int32 × Mm} (h : F_X12_alone_271 rc155 rc207 x4 x5 x6 x7 x8 x9 σ = some r) : Z m_X12_alone S (Qi r) 271 [(0, .ref (sL S 3 0 0)), (4, .int (x4)), (5, .int (x5)), (6, .int (x6)), (7, .int (x7)), (8, .int (x8)), (9, .int (x9))] [] σ := by
  unfold F_X12_alone_271 at h
  refine z_iinc (j := 6) (v := x9 + 1) (lv' := [(0, .ref (sL S 3 0 0)), (4, .int (x4)), (5, .int (x5)), (6, .int (x6)), (7, .int (x7)), (8, .int (x8)), (9, .int (x9 + 1))]) dX12_alone_271 rfl rfl (by decide) [1, 2, 3, 4, 5, 6, 0] rfl ?_
  refine z_goto (tgt := 207) dX12_alone_274 (by decide) ?_
  exact hrc207 h
def F_X12_alone_260 (rc155 : Int32 → Int32 → Mm → Option (Int32 × Mm)) (rc207 : Int32 → Int32 → Int32 → Int32 → Int32 → Int32 → Mm → Option (Int32 × Mm)) (x4 : Int32) (x5 : Int32) (x6 : Int32) (x7 : Int32) (x8 : Int32) (x9 : Int32) (x10 : Int32) (σ : Mm) : Option (Int32 × Mm) := (if x10 ≤ x8 then (F_X12_alone_271 rc155 rc207 x4 x5 x6 x7 x8 x9 σ) else (F_X12_alone_271 rc155 rc207 x4 x5 x6 x7 x10 x9 σ))
set_option maxRecDepth 20000 in
theorem zb_X12_alone_260 {S : Shp} {rc155 : Int32 → Int32 → Mm → Option (Int32 × Mm)} (hrc155 : ∀ {x4 : Int32} {x5 : Int32} {σ : Mm} {r : Int32 × Mm}, rc155 x4 x5 σ = some r → Z m_X12_alone S (Qi r) 155 [(0, .ref (sL S 3 0 0)), (4, .int (x4)), (5, .int (x5))] [] σ) {rc207 : Int32 → Int32 → Int32 → Int32 → Int32 → Int32 → Mm → Option (Int32 × Mm)} (hrc207 : ∀ {x4 : Int32} {x5 : Int32} {x6 : Int32} {x7 : Int32} {x8 : Int32} {x9 : Int32} {σ : Mm} {r : Int32 × Mm}, rc207 x4 x5 x6 x7 x8 x9 σ = some r → Z m_X12_alone S (Qi r) 207 [(0, .ref (sL S 3 0 0)), (4, .int (x4)), (5, .int (x5)), (6, .int (x6)), (7, .int (x7)), (8, .int (x8)), (9, .int (x9))] [] σ) {x4 : Int32} {x5 : Int32} {x6 : Int32} {x7 : Int32} {x8 : Int32} {x9 : Int32} {x10 : Int32} {σ : Mm} {r : Int32 × Mm} (h : F_X12_alone_260 rc155 rc207 x4 x5 x6 x7 x8 x9 x10 σ = some r) : Z m_X12_alone S (Qi r) 260 [(0, .ref (sL S 3 0 0)), (4, .int (x4)), (5, .int (x5)), (6, .int (x6)), (7, .int (x7)), (8, .int (x8)), (9, .int (x9)), (10, .int (x10))] [] σ := by
  unfold F_X12_alone_260 at h
  refine z_iload dX12_alone_260 7 rfl ?_
  refine z_iload dX12_alone_262 5 rfl ?_
  refine z_icmp_le (tgt := 271) dX12_alone_264 (by decide) (fun q => ?_) (fun q => ?_)
  · have h := (if_pos q).symm.trans h
    refine Z.lv [0, 1, 2, 3, 4, 5, 6] rfl ?_
    exact zb_X12_alone_271 hrc155 hrc207 h
  · have h := (if_neg q).symm.trans h
    refine z_iload dX12_alone_267 7 rfl ?_
    refine z_istore (lv' := [(0, .ref (sL S 3 0 0)), (4, .int (x4)), (5, .int (x5)), (6, .int (x6)), (7, .int (x7)), (8, .int (x10)), (9, .int (x9)), (10, .int (x10))]) dX12_alone_269 (by decide) [1, 2, 3, 4, 5, 0, 6, 7] rfl ?_
    refine Z.lv [0, 1, 2, 3, 4, 5, 6] rfl ?_
    exact zb_X12_alone_271 hrc155 hrc207 h
def B_X12_alone_207 (rc155 : Int32 → Int32 → Mm → Option (Int32 × Mm)) (rc207 : Int32 → Int32 → Int32 → Int32 → Int32 → Int32 → Mm → Option (Int32 × Mm)) (x4 : Int32) (x5 : Int32) (x6 : Int32) (x7 : Int32) (x8 : Int32) (x9 : Int32) (σ : Mm) : Option (Int32 × Mm) := (if (14 : Int32) ≤ x9 then (if inb x5 16384 = true then (F_X12_alone_286 rc155 x4 x5 (setA σ 3 0 59 (upd (mA σ 3 0 59) x5.toNatClampNeg x8))) else none) else (if ((x7 >>> (x9 &&& 31)) &&& (1 : Int32)) = 0 then (F_X12_alone_271 rc155 rc207 x4 x5 x6 x7 x8 x9 σ) else (if inb x6 14 = true then (if (((mA σ 3 0 60 x6.toNatClampNeg) >>> (x9 &&& 31)) &&& (1 : Int32)) = 0 then (F_X12_alone_271 rc155 rc207 x4 x5 x6 x7 x8 x9 σ) else (if inb (x7 &&& (((1 : Int32) <<< (x9 &&& 31)) ^^^ (-1 : Int32))) 16384 = true then (F_X12_alone_260 rc155 rc207 x4 x5 x6 x7 x8 x9 ((mA σ 3 0 59 (x7 &&& (((1 : Int32) <<< (x9 &&& 31)) ^^^ (-1 : Int32))).toNatClampNeg) + (1 : Int32)) σ) else none)) else none)))
set_option maxRecDepth 20000 in
theorem zB_X12_alone_207 {S : Shp} {rc155 : Int32 → Int32 → Mm → Option (Int32 × Mm)} (hrc155 : ∀ {x4 : Int32} {x5 : Int32} {σ : Mm} {r : Int32 × Mm}, rc155 x4 x5 σ = some r → Z m_X12_alone S (Qi r) 155 [(0, .ref (sL S 3 0 0)), (4, .int (x4)), (5, .int (x5))] [] σ) {rc207 : Int32 → Int32 → Int32 → Int32 → Int32 → Int32 → Mm → Option (Int32 × Mm)} (hrc207 : ∀ {x4 : Int32} {x5 : Int32} {x6 : Int32} {x7 : Int32} {x8 : Int32} {x9 : Int32} {σ : Mm} {r : Int32 × Mm}, rc207 x4 x5 x6 x7 x8 x9 σ = some r → Z m_X12_alone S (Qi r) 207 [(0, .ref (sL S 3 0 0)), (4, .int (x4)), (5, .int (x5)), (6, .int (x6)), (7, .int (x7)), (8, .int (x8)), (9, .int (x9))] [] σ) {x4 : Int32} {x5 : Int32} {x6 : Int32} {x7 : Int32} {x8 : Int32} {x9 : Int32} {σ : Mm} {r : Int32 × Mm} (h : B_X12_alone_207 rc155 rc207 x4 x5 x6 x7 x8 x9 σ = some r) : Z m_X12_alone S (Qi r) 207 [(0, .ref (sL S 3 0 0)), (4, .int (x4)), (5, .int (x5)), (6, .int (x6)), (7, .int (x7)), (8, .int (x8)), (9, .int (x9))] [] σ := by
  unfold B_X12_alone_207 at h
  refine z_iload dX12_alone_207 6 rfl ?_
  refine z_bipush (v := 14) dX12_alone_209 (by decide) ?_
  refine z_icmp_ge (tgt := 277) dX12_alone_211 (by decide) (fun q => ?_) (fun q => ?_)
  · have h := (if_pos q).symm.trans h
    obtain ⟨g13, h⟩ := gd h
    refine z_aload_n dX12_alone_277 rfl 0 rfl ?_
    refine gf_12_190 rfl dX12_alone_278 ?_
    refine z_iload dX12_alone_281 2 rfl ?_
    refine z_iload dX12_alone_283 5 rfl ?_
    refine is_3_59 (inb_in g13) dX12_alone_285 ?_
    refine Z.lv [0, 1, 2] rfl ?_
    exact zb_X12_alone_286 hrc155 h
  · have h := (if_neg q).symm.trans h
    refine z_iload dX12_alone_214 4 rfl ?_
    refine z_iload dX12_alone_216 6 rfl ?_
    refine z_ishr dX12_alone_218 ?_
    refine z_iconst (v := 1) dX12_alone_219 (by decide) ?_
    refine z_iand dX12_alone_220 ?_
    refine z_if_eq (tgt := 271) dX12_alone_221 (by decide) (fun q => ?_) (fun q => ?_)
    · have h := (if_pos q).symm.trans h
      exact zb_X12_alone_271 hrc155 hrc207 h
    · have h := (if_neg q).symm.trans h
      obtain ⟨g14, h⟩ := gd h
      refine z_aload_n dX12_alone_224 rfl 0 rfl ?_
      refine gf_12_193 rfl dX12_alone_225 ?_
      refine z_iload dX12_alone_228 3 rfl ?_
      refine ia_3_60 (inb_in g14) dX12_alone_230 ?_
      refine z_iload dX12_alone_231 6 rfl ?_
      refine z_ishr dX12_alone_233 ?_
      refine z_iconst (v := 1) dX12_alone_234 (by decide) ?_
      refine z_iand dX12_alone_235 ?_
      refine z_if_ne (tgt := 242) dX12_alone_236 (by decide) (fun q => ?_) (fun q => ?_)
      · have h := (if_neg q).symm.trans h
        obtain ⟨g15, h⟩ := gd h
        refine z_aload_n dX12_alone_242 rfl 0 rfl ?_
        refine gf_12_190 rfl dX12_alone_243 ?_
        refine z_iload dX12_alone_246 4 rfl ?_
        refine z_iconst (v := 1) dX12_alone_248 (by decide) ?_
        refine z_iload dX12_alone_249 6 rfl ?_
        refine z_ishl dX12_alone_251 ?_
        refine z_iconst (v := (-1)) dX12_alone_252 (by decide) ?_
        refine z_ixor dX12_alone_253 ?_
        refine z_iand dX12_alone_254 ?_
        refine ia_3_59 (inb_in g15) dX12_alone_255 ?_
        refine z_iconst (v := 1) dX12_alone_256 (by decide) ?_
        refine z_iadd dX12_alone_257 ?_
        refine z_istore (lv' := [(0, .ref (sL S 3 0 0)), (4, .int (x4)), (5, .int (x5)), (6, .int (x6)), (7, .int (x7)), (8, .int (x8)), (9, .int (x9)), (10, .int ((mA σ 3 0 59 (x7 &&& (((1 : Int32) <<< (x9 &&& 31)) ^^^ (-1 : Int32))).toNatClampNeg) + (1 : Int32)))]) dX12_alone_258 (by decide) [1, 2, 3, 4, 5, 6, 7, 0] rfl ?_
        exact zb_X12_alone_260 hrc155 hrc207 h
      · have h := (if_pos q).symm.trans h
        refine z_goto (tgt := 271) dX12_alone_239 (by decide) ?_
        exact zb_X12_alone_271 hrc155 hrc207 h
def F_X12_alone_207 (rc155 : Int32 → Int32 → Mm → Option (Int32 × Mm)) : Nat → Int32 → Int32 → Int32 → Int32 → Int32 → Int32 → Mm → Option (Int32 × Mm)
  | 0 => fun _ _ _ _ _ _ _ => none
  | n + 1 => B_X12_alone_207 rc155 (F_X12_alone_207 rc155 n)
theorem zl_X12_alone_207 {S : Shp} {rc155 : Int32 → Int32 → Mm → Option (Int32 × Mm)} (hrc155 : ∀ {x4 : Int32} {x5 : Int32} {σ : Mm} {r : Int32 × Mm}, rc155 x4 x5 σ = some r → Z m_X12_alone S (Qi r) 155 [(0, .ref (sL S 3 0 0)), (4, .int (x4)), (5, .int (x5))] [] σ) : ∀ (nn : Nat) {x4 : Int32} {x5 : Int32} {x6 : Int32} {x7 : Int32} {x8 : Int32} {x9 : Int32} {σ : Mm} {r : Int32 × Mm}, F_X12_alone_207 rc155 nn x4 x5 x6 x7 x8 x9 σ = some r → Z m_X12_alone S (Qi r) 207 [(0, .ref (sL S 3 0 0)), (4, .int (x4)), (5, .int (x5)), (6, .int (x6)), (7, .int (x7)), (8, .int (x8)), (9, .int (x9))] [] σ := by
  intro nn
  induction nn with
  | zero => intro x4 x5 x6 x7 x8 x9 σ r h; cases h
  | succ nn ih => intro x4 x5 x6 x7 x8 x9 σ r h; exact zB_X12_alone_207 hrc155 @ih h
def F_X12_alone_192 (rc155 : Int32 → Int32 → Mm → Option (Int32 × Mm)) (x4 : Int32) (x5 : Int32) (x6 : Int32) (x7 : Int32) (σ : Mm) : Option (Int32 × Mm) := (if inb x7 16384 = true then (F_X12_alone_207 rc155 FU x4 x5 x6 x7 (mA σ 3 0 59 x7.toNatClampNeg) (x6 + (1 : Int32)) σ) else none)
set_option maxRecDepth 20000 in
theorem zb_X12_alone_192 {S : Shp} {rc155 : Int32 → Int32 → Mm → Option (Int32 × Mm)} (hrc155 : ∀ {x4 : Int32} {x5 : Int32} {σ : Mm} {r : Int32 × Mm}, rc155 x4 x5 σ = some r → Z m_X12_alone S (Qi r) 155 [(0, .ref (sL S 3 0 0)), (4, .int (x4)), (5, .int (x5))] [] σ) {x4 : Int32} {x5 : Int32} {x6 : Int32} {x7 : Int32} {σ : Mm} {r : Int32 × Mm} (h : F_X12_alone_192 rc155 x4 x5 x6 x7 σ = some r) : Z m_X12_alone S (Qi r) 192 [(0, .ref (sL S 3 0 0)), (4, .int (x4)), (5, .int (x5)), (6, .int (x6)), (7, .int (x7))] [] σ := by
  unfold F_X12_alone_192 at h
  obtain ⟨g12, h⟩ := gd h
  refine z_aload_n dX12_alone_192 rfl 0 rfl ?_
  refine gf_12_190 rfl dX12_alone_193 ?_
  refine z_iload dX12_alone_196 4 rfl ?_
  refine ia_3_59 (inb_in g12) dX12_alone_198 ?_
  refine z_istore (lv' := [(0, .ref (sL S 3 0 0)), (4, .int (x4)), (5, .int (x5)), (6, .int (x6)), (7, .int (x7)), (8, .int (mA σ 3 0 59 x7.toNatClampNeg))]) dX12_alone_199 (by decide) [1, 2, 3, 4, 5, 0] rfl ?_
  refine z_iload dX12_alone_201 3 rfl ?_
  refine z_iconst (v := 1) dX12_alone_203 (by decide) ?_
  refine z_iadd dX12_alone_204 ?_
  refine z_istore (lv' := [(0, .ref (sL S 3 0 0)), (4, .int (x4)), (5, .int (x5)), (6, .int (x6)), (7, .int (x7)), (8, .int (mA σ 3 0 59 x7.toNatClampNeg)), (9, .int (x6 + (1 : Int32)))]) dX12_alone_205 (by decide) [1, 2, 3, 4, 5, 6, 0] rfl ?_
  exact zl_X12_alone_207 hrc155 FU h
def B_X12_alone_165 (rc155 : Int32 → Int32 → Mm → Option (Int32 × Mm)) (rc165 : Int32 → Int32 → Int32 → Mm → Option (Int32 × Mm)) (x4 : Int32) (x5 : Int32) (x6 : Int32) (σ : Mm) : Option (Int32 × Mm) := (if ((x5 >>> (x6 &&& 31)) &&& (1 : Int32)) = 0 then (rc165 x4 x5 (x6 + 1) σ) else (F_X12_alone_192 rc155 x4 x5 x6 (x5 &&& (((1 : Int32) <<< (x6 &&& 31)) ^^^ (-1 : Int32))) σ))
set_option maxRecDepth 20000 in
theorem zB_X12_alone_165 {S : Shp} {rc155 : Int32 → Int32 → Mm → Option (Int32 × Mm)} (hrc155 : ∀ {x4 : Int32} {x5 : Int32} {σ : Mm} {r : Int32 × Mm}, rc155 x4 x5 σ = some r → Z m_X12_alone S (Qi r) 155 [(0, .ref (sL S 3 0 0)), (4, .int (x4)), (5, .int (x5))] [] σ) {rc165 : Int32 → Int32 → Int32 → Mm → Option (Int32 × Mm)} (hrc165 : ∀ {x4 : Int32} {x5 : Int32} {x6 : Int32} {σ : Mm} {r : Int32 × Mm}, rc165 x4 x5 x6 σ = some r → Z m_X12_alone S (Qi r) 165 [(0, .ref (sL S 3 0 0)), (4, .int (x4)), (5, .int (x5)), (6, .int (x6))] [] σ) {x4 : Int32} {x5 : Int32} {x6 : Int32} {σ : Mm} {r : Int32 × Mm} (h : B_X12_alone_165 rc155 rc165 x4 x5 x6 σ = some r) : Z m_X12_alone S (Qi r) 165 [(0, .ref (sL S 3 0 0)), (4, .int (x4)), (5, .int (x5)), (6, .int (x6))] [] σ := by
  unfold B_X12_alone_165 at h
  refine z_iload dX12_alone_165 2 rfl ?_
  refine z_iload dX12_alone_167 3 rfl ?_
  refine z_ishr dX12_alone_169 ?_
  refine z_iconst (v := 1) dX12_alone_170 (by decide) ?_
  refine z_iand dX12_alone_171 ?_
  refine z_if_ne (tgt := 181) dX12_alone_172 (by decide) (fun q => ?_) (fun q => ?_)
  · have h := (if_neg q).symm.trans h
    refine z_iload dX12_alone_181 2 rfl ?_
    refine z_iconst (v := 1) dX12_alone_183 (by decide) ?_
    refine z_iload dX12_alone_184 3 rfl ?_
    refine z_ishl dX12_alone_186 ?_
    refine z_iconst (v := (-1)) dX12_alone_187 (by decide) ?_
    refine z_ixor dX12_alone_188 ?_
    refine z_iand dX12_alone_189 ?_
    refine z_istore (lv' := [(0, .ref (sL S 3 0 0)), (4, .int (x4)), (5, .int (x5)), (6, .int (x6)), (7, .int (x5 &&& (((1 : Int32) <<< (x6 &&& 31)) ^^^ (-1 : Int32))))]) dX12_alone_190 (by decide) [1, 2, 3, 4, 0] rfl ?_
    exact zb_X12_alone_192 hrc155 h
  · have h := (if_pos q).symm.trans h
    refine z_iinc (j := 3) (v := x6 + 1) (lv' := [(0, .ref (sL S 3 0 0)), (4, .int (x4)), (5, .int (x5)), (6, .int (x6 + 1))]) dX12_alone_175 rfl rfl (by decide) [1, 2, 3, 0] rfl ?_
    refine z_goto (tgt := 165) dX12_alone_178 (by decide) ?_
    exact hrc165 h
def F_X12_alone_165 (rc155 : Int32 → Int32 → Mm → Option (Int32 × Mm)) : Nat → Int32 → Int32 → Int32 → Mm → Option (Int32 × Mm)
  | 0 => fun _ _ _ _ => none
  | n + 1 => B_X12_alone_165 rc155 (F_X12_alone_165 rc155 n)
theorem zl_X12_alone_165 {S : Shp} {rc155 : Int32 → Int32 → Mm → Option (Int32 × Mm)} (hrc155 : ∀ {x4 : Int32} {x5 : Int32} {σ : Mm} {r : Int32 × Mm}, rc155 x4 x5 σ = some r → Z m_X12_alone S (Qi r) 155 [(0, .ref (sL S 3 0 0)), (4, .int (x4)), (5, .int (x5))] [] σ) : ∀ (nn : Nat) {x4 : Int32} {x5 : Int32} {x6 : Int32} {σ : Mm} {r : Int32 × Mm}, F_X12_alone_165 rc155 nn x4 x5 x6 σ = some r → Z m_X12_alone S (Qi r) 165 [(0, .ref (sL S 3 0 0)), (4, .int (x4)), (5, .int (x5)), (6, .int (x6))] [] σ := by
  intro nn
  induction nn with
  | zero => intro x4 x5 x6 σ r h; cases h
  | succ nn ih => intro x4 x5 x6 σ r h; exact zB_X12_alone_165 hrc155 @ih h
def B_X12_alone_155 (rc155 : Int32 → Int32 → Mm → Option (Int32 × Mm)) (x4 : Int32) (x5 : Int32) (σ : Mm) : Option (Int32 × Mm) := (if x4 ≤ x5 then (if inb (x4 - (1 : Int32)) 16384 = true then some (mA σ 3 0 59 (x4 - (1 : Int32)).toNatClampNeg, σ) else none) else (F_X12_alone_165 rc155 FU x4 x5 0 σ))
set_option maxRecDepth 20000 in
theorem zB_X12_alone_155 {S : Shp} {rc155 : Int32 → Int32 → Mm → Option (Int32 × Mm)} (hrc155 : ∀ {x4 : Int32} {x5 : Int32} {σ : Mm} {r : Int32 × Mm}, rc155 x4 x5 σ = some r → Z m_X12_alone S (Qi r) 155 [(0, .ref (sL S 3 0 0)), (4, .int (x4)), (5, .int (x5))] [] σ) {x4 : Int32} {x5 : Int32} {σ : Mm} {r : Int32 × Mm} (h : B_X12_alone_155 rc155 x4 x5 σ = some r) : Z m_X12_alone S (Qi r) 155 [(0, .ref (sL S 3 0 0)), (4, .int (x4)), (5, .int (x5))] [] σ := by
  unfold B_X12_alone_155 at h
  refine z_iload dX12_alone_155 2 rfl ?_
  refine z_iload dX12_alone_157 1 rfl ?_
  refine z_icmp_ge (tgt := 292) dX12_alone_159 (by decide) (fun q => ?_) (fun q => ?_)
  · have h := (if_pos q).symm.trans h
    obtain ⟨g11, h⟩ := gd h
    refine z_aload_n dX12_alone_292 rfl 0 rfl ?_
    refine gf_12_190 rfl dX12_alone_293 ?_
    refine z_iload dX12_alone_296 1 rfl ?_
    refine z_iconst (v := 1) dX12_alone_298 (by decide) ?_
    refine z_isub dX12_alone_299 ?_
    refine ia_3_59 (inb_in g11) dX12_alone_300 ?_
    cases h
    exact z_ireturn dX12_alone_301 rfl rfl ⟨rfl, rfl⟩
  · have h := (if_neg q).symm.trans h
    refine z_iconst (v := 0) dX12_alone_162 (by decide) ?_
    refine z_istore (lv' := [(0, .ref (sL S 3 0 0)), (4, .int (x4)), (5, .int (x5)), (6, .int (0))]) dX12_alone_163 (by decide) [1, 2, 3, 0] rfl ?_
    exact zl_X12_alone_165 hrc155 FU h
def F_X12_alone_155 : Nat → Int32 → Int32 → Mm → Option (Int32 × Mm)
  | 0 => fun _ _ _ => none
  | n + 1 => B_X12_alone_155 (F_X12_alone_155 n)
theorem zl_X12_alone_155 {S : Shp} : ∀ (nn : Nat) {x4 : Int32} {x5 : Int32} {σ : Mm} {r : Int32 × Mm}, F_X12_alone_155 nn x4 x5 σ = some r → Z m_X12_alone S (Qi r) 155 [(0, .ref (sL S 3 0 0)), (4, .int (x4)), (5, .int (x5))] [] σ := by
  intro nn
  induction nn with
  | zero => intro x4 x5 σ r h; cases h
  | succ nn ih => intro x4 x5 σ r h; exact zB_X12_alone_155 @ih h
def F_X12_alone_152 (x4 : Int32) (σ : Mm) : Option (Int32 × Mm) := (F_X12_alone_155 FU x4 1 σ)
set_option maxRecDepth 20000 in
theorem zb_X12_alone_152 {S : Shp} {x4 : Int32} {σ : Mm} {r : Int32 × Mm} (h : F_X12_alone_152 x4 σ = some r) : Z m_X12_alone S (Qi r) 152 [(0, .ref (sL S 3 0 0)), (4, .int (x4))] [] σ := by
  unfold F_X12_alone_152 at h
  refine z_iconst (v := 1) dX12_alone_152 (by decide) ?_
  refine z_istore (lv' := [(0, .ref (sL S 3 0 0)), (4, .int (x4)), (5, .int (1))]) dX12_alone_153 (by decide) [1, 2, 0] rfl ?_
  exact zl_X12_alone_155 FU h
def F_X12_alone_145 (x4 : Int32) (σ : Mm) : Option (Int32 × Mm) := (if inb 0 16384 = true then (F_X12_alone_152 x4 (setA σ 3 0 59 (upd (mA σ 3 0 59) (0 : Int32).toNatClampNeg 0))) else none)
set_option maxRecDepth 20000 in
theorem zb_X12_alone_145 {S : Shp} {x4 : Int32} {σ : Mm} {r : Int32 × Mm} (h : F_X12_alone_145 x4 σ = some r) : Z m_X12_alone S (Qi r) 145 [(0, .ref (sL S 3 0 0)), (4, .int (x4))] [] σ := by
  unfold F_X12_alone_145 at h
  obtain ⟨g6, h⟩ := gd h
  refine z_aload_n dX12_alone_145 rfl 0 rfl ?_
  refine gf_12_190 rfl dX12_alone_146 ?_
  refine z_iconst (v := 0) dX12_alone_149 (by decide) ?_
  refine z_iconst (v := 0) dX12_alone_150 (by decide) ?_
  refine is_3_59 (inb_in g6) dX12_alone_151 ?_
  exact zb_X12_alone_152 h
def F_X12_alone_129 (rc45 : Int32 → Int32 → Mm → Option (Int32 × Mm)) (x1 : Int32) (x4 : Int32) (σ : Mm) : Option (Int32 × Mm) := (rc45 x1 (x4 + 1) σ)
set_option maxRecDepth 20000 in
theorem zb_X12_alone_129 {S : Shp} {rc45 : Int32 → Int32 → Mm → Option (Int32 × Mm)} (hrc45 : ∀ {x1 : Int32} {x4 : Int32} {σ : Mm} {r : Int32 × Mm}, rc45 x1 x4 σ = some r → Z m_X12_alone S (Qi r) 45 [(0, .ref (sL S 3 0 0)), (1, .int (x1)), (4, .int (x4))] [] σ) {x1 : Int32} {x4 : Int32} {σ : Mm} {r : Int32 × Mm} (h : F_X12_alone_129 rc45 x1 x4 σ = some r) : Z m_X12_alone S (Qi r) 129 [(0, .ref (sL S 3 0 0)), (1, .int (x1)), (4, .int (x4))] [] σ := by
  unfold F_X12_alone_129 at h
  refine z_iinc (j := 2) (v := x4 + 1) (lv' := [(0, .ref (sL S 3 0 0)), (1, .int (x1)), (4, .int (x4 + 1))]) dX12_alone_129 rfl rfl (by decide) [1, 2, 0] rfl ?_
  refine z_goto (tgt := 45) dX12_alone_132 (by decide) ?_
  exact hrc45 h
def F_X12_alone_109 (rc45 : Int32 → Int32 → Mm → Option (Int32 × Mm)) (x1 : Int32) (x4 : Int32) (σ : Mm) : Option (Int32 × Mm) := (if inb (x4 - x4 / (14 : Int32) * (14 : Int32)) 14 = true then (if inb (x4 - x4 / (14 : Int32) * (14 : Int32)) 14 = true then (F_X12_alone_129 rc45 x1 x4 (setA σ 3 0 60 (upd (mA σ 3 0 60) (x4 - x4 / (14 : Int32) * (14 : Int32)).toNatClampNeg ((mA σ 3 0 60 (x4 - x4 / (14 : Int32) * (14 : Int32)).toNatClampNeg) ||| ((1 : Int32) <<< ((x4 / (14 : Int32)) &&& 31)))))) else none) else none)
set_option maxRecDepth 20000 in
theorem zb_X12_alone_109 {S : Shp} {rc45 : Int32 → Int32 → Mm → Option (Int32 × Mm)} (hrc45 : ∀ {x1 : Int32} {x4 : Int32} {σ : Mm} {r : Int32 × Mm}, rc45 x1 x4 σ = some r → Z m_X12_alone S (Qi r) 45 [(0, .ref (sL S 3 0 0)), (1, .int (x1)), (4, .int (x4))] [] σ) {x1 : Int32} {x4 : Int32} {σ : Mm} {r : Int32 × Mm} (h : F_X12_alone_109 rc45 x1 x4 σ = some r) : Z m_X12_alone S (Qi r) 109 [(0, .ref (sL S 3 0 0)), (1, .int (x1)), (4, .int (x4))] [] σ := by
  unfold F_X12_alone_109 at h
  obtain ⟨g9, h⟩ := gd h
  refine z_aload_n dX12_alone_109 rfl 0 rfl ?_
  refine gf_12_193 rfl dX12_alone_110 ?_
  refine z_iload dX12_alone_113 2 rfl ?_
  refine z_bipush (v := 14) dX12_alone_115 (by decide) ?_
  refine z_irem dX12_alone_117 (by decide) ?_
  refine z_dup2_11 dX12_alone_118 rfl rfl ?_
  obtain ⟨g10, h⟩ := gd h
  refine ia_3_60 (inb_in g9) dX12_alone_119 ?_
  refine z_iconst (v := 1) dX12_alone_120 (by decide) ?_
  refine z_iload dX12_alone_121 2 rfl ?_
  refine z_bipush (v := 14) dX12_alone_123 (by decide) ?_
  refine z_idiv dX12_alone_125 (by decide) ?_
  refine z_ishl dX12_alone_126 ?_
  refine z_ior dX12_alone_127 ?_
  refine is_3_60 (inb_in g10) dX12_alone_128 ?_
  exact zb_X12_alone_129 hrc45 h
def F_X12_alone_81 (rc45 : Int32 → Int32 → Mm → Option (Int32 × Mm)) (x1 : Int32) (x4 : Int32) (s0 : Int32) (σ : Mm) : Option (Int32 × Mm) := (if (s0 &&& x1) = 0 then (F_X12_alone_129 rc45 x1 x4 σ) else (if inb (x4 / (14 : Int32)) 14 = true then (if inb (x4 / (14 : Int32)) 14 = true then (F_X12_alone_109 rc45 x1 x4 (setA σ 3 0 60 (upd (mA σ 3 0 60) (x4 / (14 : Int32)).toNatClampNeg ((mA σ 3 0 60 (x4 / (14 : Int32)).toNatClampNeg) ||| ((1 : Int32) <<< ((x4 - x4 / (14 : Int32) * (14 : Int32)) &&& 31)))))) else none) else none))
set_option maxRecDepth 20000 in
theorem zb_X12_alone_81 {S : Shp} {rc45 : Int32 → Int32 → Mm → Option (Int32 × Mm)} (hrc45 : ∀ {x1 : Int32} {x4 : Int32} {σ : Mm} {r : Int32 × Mm}, rc45 x1 x4 σ = some r → Z m_X12_alone S (Qi r) 45 [(0, .ref (sL S 3 0 0)), (1, .int (x1)), (4, .int (x4))] [] σ) {x1 : Int32} {x4 : Int32} {s0 : Int32} {σ : Mm} {r : Int32 × Mm} (h : F_X12_alone_81 rc45 x1 x4 s0 σ = some r) : Z m_X12_alone S (Qi r) 81 [(0, .ref (sL S 3 0 0)), (1, .int (x1)), (4, .int (x4))] [.int (s0)] σ := by
  unfold F_X12_alone_81 at h
  refine z_iload_n dX12_alone_81 rfl 1 rfl ?_
  refine z_iand dX12_alone_82 ?_
  refine z_if_ne (tgt := 89) dX12_alone_83 (by decide) (fun q => ?_) (fun q => ?_)
  · have h := (if_neg q).symm.trans h
    obtain ⟨g7, h⟩ := gd h
    refine z_aload_n dX12_alone_89 rfl 0 rfl ?_
    refine gf_12_193 rfl dX12_alone_90 ?_
    refine z_iload dX12_alone_93 2 rfl ?_
    refine z_bipush (v := 14) dX12_alone_95 (by decide) ?_
    refine z_idiv dX12_alone_97 (by decide) ?_
    refine z_dup2_11 dX12_alone_98 rfl rfl ?_
    obtain ⟨g8, h⟩ := gd h
    refine ia_3_60 (inb_in g7) dX12_alone_99 ?_
    refine z_iconst (v := 1) dX12_alone_100 (by decide) ?_
    refine z_iload dX12_alone_101 2 rfl ?_
    refine z_bipush (v := 14) dX12_alone_103 (by decide) ?_
    refine z_irem dX12_alone_105 (by decide) ?_
    refine z_ishl dX12_alone_106 ?_
    refine z_ior dX12_alone_107 ?_
    refine is_3_60 (inb_in g8) dX12_alone_108 ?_
    exact zb_X12_alone_109 hrc45 h
  · have h := (if_pos q).symm.trans h
    refine z_goto (tgt := 129) dX12_alone_86 (by decide) ?_
    exact zb_X12_alone_129 hrc45 h
def B_X12_alone_45 (rc45 : Int32 → Int32 → Mm → Option (Int32 × Mm)) (x1 : Int32) (x4 : Int32) (σ : Mm) : Option (Int32 × Mm) := (if (196 : Int32) ≤ x4 then (if inb 0 5 = true then (F_X12_alone_145 ((1 : Int32) <<< ((mA σ 3 0 8 (0 : Int32).toNatClampNeg) &&& 31)) σ) else none) else (if inb x4 196 = true then (if (mA σ 3 0 55 x4.toNatClampNeg) = 0 then (F_X12_alone_129 rc45 x1 x4 σ) else (if inb x4 196 = true then (if inb 0 5 = true then (bnd (F_X12_hitBy (mA σ 3 0 53 x4.toNatClampNeg) (mA σ 3 0 7 (0 : Int32).toNatClampNeg) 0 σ) (fun v τ => (F_X12_alone_81 rc45 x1 x4 v τ))) else none) else none)) else none))
set_option maxRecDepth 20000 in
theorem zB_X12_alone_45 {S : Shp} {rc45 : Int32 → Int32 → Mm → Option (Int32 × Mm)} (hrc45 : ∀ {x1 : Int32} {x4 : Int32} {σ : Mm} {r : Int32 × Mm}, rc45 x1 x4 σ = some r → Z m_X12_alone S (Qi r) 45 [(0, .ref (sL S 3 0 0)), (1, .int (x1)), (4, .int (x4))] [] σ) {x1 : Int32} {x4 : Int32} {σ : Mm} {r : Int32 × Mm} (h : B_X12_alone_45 rc45 x1 x4 σ = some r) : Z m_X12_alone S (Qi r) 45 [(0, .ref (sL S 3 0 0)), (1, .int (x1)), (4, .int (x4))] [] σ := by
  unfold B_X12_alone_45 at h
  refine z_iload dX12_alone_45 2 rfl ?_
  refine z_sipush (v := 196) dX12_alone_47 (by decide) ?_
  refine z_icmp_ge (tgt := 135) dX12_alone_50 (by decide) (fun q => ?_) (fun q => ?_)
  · have h := (if_pos q).symm.trans h
    obtain ⟨g2, h⟩ := gd h
    refine z_iconst (v := 1) dX12_alone_135 (by decide) ?_
    refine z_aload_n dX12_alone_136 rfl 0 rfl ?_
    refine gf_12_37 rfl dX12_alone_137 ?_
    refine z_iconst (v := 0) dX12_alone_140 (by decide) ?_
    refine ia_3_8 (inb_in g2) dX12_alone_141 ?_
    refine z_ishl dX12_alone_142 ?_
    refine z_istore (lv' := [(0, .ref (sL S 3 0 0)), (1, .int (x1)), (4, .int ((1 : Int32) <<< ((mA σ 3 0 8 (0 : Int32).toNatClampNeg) &&& 31)))]) dX12_alone_143 (by decide) [1, 2, 0] rfl ?_
    refine Z.lv [0, 2] rfl ?_
    exact zb_X12_alone_145 h
  · have h := (if_neg q).symm.trans h
    obtain ⟨g3, h⟩ := gd h
    refine z_aload_n dX12_alone_53 rfl 0 rfl ?_
    refine gf_12_178 rfl dX12_alone_54 ?_
    refine z_iload dX12_alone_57 2 rfl ?_
    refine ia_3_55 (inb_in g3) dX12_alone_59 ?_
    refine z_if_eq (tgt := 129) dX12_alone_60 (by decide) (fun q => ?_) (fun q => ?_)
    · have h := (if_pos q).symm.trans h
      exact zb_X12_alone_129 hrc45 h
    · have h := (if_neg q).symm.trans h
      obtain ⟨g4, h⟩ := gd h
      refine z_aload_n dX12_alone_63 rfl 0 rfl ?_
      refine z_aload_n dX12_alone_64 rfl 0 rfl ?_
      refine gf_12_172 rfl dX12_alone_65 ?_
      refine z_iload dX12_alone_68 2 rfl ?_
      obtain ⟨g5, h⟩ := gd h
      refine ia_3_53 (inb_in g4) dX12_alone_70 ?_
      refine z_aload_n dX12_alone_71 rfl 0 rfl ?_
      refine gf_12_34 rfl dX12_alone_72 ?_
      refine z_iconst (v := 0) dX12_alone_75 (by decide) ?_
      refine ia_3_7 (inb_in g5) dX12_alone_76 ?_
      refine z_iconst (v := 0) dX12_alone_77 (by decide) ?_
      obtain ⟨v, τ, hc, h⟩ := bnd_e h
      refine z_callV (M' := m_X12_hitBy) (t := 3) (i := 0) (k := 0) (As := [.int (mA σ 3 0 53 x4.toNatClampNeg), .int (mA σ 3 0 7 (0 : Int32).toNatClampNeg), .int (0)]) (rest := []) kl_12_484 oy_X12_hitBy ⟨Nat.le_of_ble_eq_true rfl, Nat.le_of_ble_eq_true rfl⟩ rfl rfl rfl rfl (Nat.le_of_ble_eq_true rfl) rfl dX12_alone_78 (c_X12_hitBy hc) (fun v2 τ2 hq => ?_)
      obtain ⟨rfl, hτ⟩ := hq
      subst τ2
      change Z _ _ _ _ _ [.int (v)] _
      exact zb_X12_alone_81 hrc45 h
def F_X12_alone_45 : Nat → Int32 → Int32 → Mm → Option (Int32 × Mm)
  | 0 => fun _ _ _ => none
  | n + 1 => B_X12_alone_45 (F_X12_alone_45 n)
theorem zl_X12_alone_45 {S : Shp} : ∀ (nn : Nat) {x1 : Int32} {x4 : Int32} {σ : Mm} {r : Int32 × Mm}, F_X12_alone_45 nn x1 x4 σ = some r → Z m_X12_alone S (Qi r) 45 [(0, .ref (sL S 3 0 0)), (1, .int (x1)), (4, .int (x4))] [] σ := by
  intro nn
  induction nn with
  | zero => intro x1 x4 σ r h; cases h
  | succ nn ih => intro x1 x4 σ r h; exact zB_X12_alone_45 @ih h
def F_X12_alone_36 (rc21 : Int32 → Int32 → Mm → Option (Int32 × Mm)) (x1 : Int32) (x4 : Int32) (σ : Mm) : Option (Int32 × Mm) := (rc21 x1 (x4 + 1) σ)
set_option maxRecDepth 20000 in
theorem zb_X12_alone_36 {S : Shp} {rc21 : Int32 → Int32 → Mm → Option (Int32 × Mm)} (hrc21 : ∀ {x1 : Int32} {x4 : Int32} {σ : Mm} {r : Int32 × Mm}, rc21 x1 x4 σ = some r → Z m_X12_alone S (Qi r) 21 [(0, .ref (sL S 3 0 0)), (1, .int (x1)), (4, .int (x4))] [] σ) {x1 : Int32} {x4 : Int32} {σ : Mm} {r : Int32 × Mm} (h : F_X12_alone_36 rc21 x1 x4 σ = some r) : Z m_X12_alone S (Qi r) 36 [(0, .ref (sL S 3 0 0)), (1, .int (x1)), (4, .int (x4))] [] σ := by
  unfold F_X12_alone_36 at h
  refine z_iinc (j := 2) (v := x4 + 1) (lv' := [(0, .ref (sL S 3 0 0)), (1, .int (x1)), (4, .int (x4 + 1))]) dX12_alone_36 rfl rfl (by decide) [1, 2, 0] rfl ?_
  refine z_goto (tgt := 21) dX12_alone_39 (by decide) ?_
  exact hrc21 h
def B_X12_alone_21 (rc21 : Int32 → Int32 → Mm → Option (Int32 × Mm)) (x1 : Int32) (x4 : Int32) (σ : Mm) : Option (Int32 × Mm) := (if (14 : Int32) ≤ x4 then (F_X12_alone_45 FU x1 0 σ) else (if inb x4 14 = true then (F_X12_alone_36 rc21 x1 x4 (setA σ 3 0 60 (upd (mA σ 3 0 60) x4.toNatClampNeg 0))) else none))
set_option maxRecDepth 20000 in
theorem zB_X12_alone_21 {S : Shp} {rc21 : Int32 → Int32 → Mm → Option (Int32 × Mm)} (hrc21 : ∀ {x1 : Int32} {x4 : Int32} {σ : Mm} {r : Int32 × Mm}, rc21 x1 x4 σ = some r → Z m_X12_alone S (Qi r) 21 [(0, .ref (sL S 3 0 0)), (1, .int (x1)), (4, .int (x4))] [] σ) {x1 : Int32} {x4 : Int32} {σ : Mm} {r : Int32 × Mm} (h : B_X12_alone_21 rc21 x1 x4 σ = some r) : Z m_X12_alone S (Qi r) 21 [(0, .ref (sL S 3 0 0)), (1, .int (x1)), (4, .int (x4))] [] σ := by
  unfold B_X12_alone_21 at h
  refine z_iload dX12_alone_21 2 rfl ?_
  refine z_bipush (v := 14) dX12_alone_23 (by decide) ?_
  refine z_icmp_ge (tgt := 42) dX12_alone_25 (by decide) (fun q => ?_) (fun q => ?_)
  · have h := (if_pos q).symm.trans h
    refine z_iconst (v := 0) dX12_alone_42 (by decide) ?_
    refine z_istore (lv' := [(0, .ref (sL S 3 0 0)), (1, .int (x1)), (4, .int (0))]) dX12_alone_43 (by decide) [1, 2, 0] rfl ?_
    exact zl_X12_alone_45 FU h
  · have h := (if_neg q).symm.trans h
    obtain ⟨g1, h⟩ := gd h
    refine z_aload_n dX12_alone_28 rfl 0 rfl ?_
    refine gf_12_193 rfl dX12_alone_29 ?_
    refine z_iload dX12_alone_32 2 rfl ?_
    refine z_iconst (v := 0) dX12_alone_34 (by decide) ?_
    refine is_3_60 (inb_in g1) dX12_alone_35 ?_
    exact zb_X12_alone_36 hrc21 h
def F_X12_alone_21 : Nat → Int32 → Int32 → Mm → Option (Int32 × Mm)
  | 0 => fun _ _ _ => none
  | n + 1 => B_X12_alone_21 (F_X12_alone_21 n)
theorem zl_X12_alone_21 {S : Shp} : ∀ (nn : Nat) {x1 : Int32} {x4 : Int32} {σ : Mm} {r : Int32 × Mm}, F_X12_alone_21 nn x1 x4 σ = some r → Z m_X12_alone S (Qi r) 21 [(0, .ref (sL S 3 0 0)), (1, .int (x1)), (4, .int (x4))] [] σ := by
  intro nn
  induction nn with
  | zero => intro x1 x4 σ r h; cases h
  | succ nn ih => intro x1 x4 σ r h; exact zB_X12_alone_21 @ih h
def F_X12_alone_18 (x1 : Int32) (σ : Mm) : Option (Int32 × Mm) := (F_X12_alone_21 FU x1 0 σ)
set_option maxRecDepth 20000 in
theorem zb_X12_alone_18 {S : Shp} {x1 : Int32} {σ : Mm} {r : Int32 × Mm} (h : F_X12_alone_18 x1 σ = some r) : Z m_X12_alone S (Qi r) 18 [(0, .ref (sL S 3 0 0)), (1, .int (x1))] [] σ := by
  unfold F_X12_alone_18 at h
  refine z_iconst (v := 0) dX12_alone_18 (by decide) ?_
  refine z_istore (lv' := [(0, .ref (sL S 3 0 0)), (1, .int (x1)), (4, .int (0))]) dX12_alone_19 (by decide) [1, 2, 0] rfl ?_
  exact zl_X12_alone_21 FU h
def F_X12_alone_7 (x1 : Int32) (x2 : Int32) (x3 : Int32) (s0 : Int32) (σ : Mm) : Option (Int32 × Mm) := (if s0 = 0 then some ((-1), σ) else (bnv (F_X12_layAll x2 x3 σ) (fun τ => (F_X12_alone_18 x1 τ))))
set_option maxRecDepth 20000 in
theorem zb_X12_alone_7 {S : Shp} {x1 : Int32} {x2 : Int32} {x3 : Int32} {s0 : Int32} {σ : Mm} {r : Int32 × Mm} (h : F_X12_alone_7 x1 x2 x3 s0 σ = some r) : Z m_X12_alone S (Qi r) 7 [(0, .ref (sL S 3 0 0)), (1, .int (x1)), (2, .int (x2)), (3, .int (x3))] [.int (s0)] σ := by
  unfold F_X12_alone_7 at h
  refine z_if_ne (tgt := 12) dX12_alone_7 (by decide) (fun q => ?_) (fun q => ?_)
  · have h := (if_neg q).symm.trans h
    refine z_aload_n dX12_alone_12 rfl 0 rfl ?_
    refine z_iload_n dX12_alone_13 rfl 2 rfl ?_
    refine z_iload_n dX12_alone_14 rfl 3 rfl ?_
    obtain ⟨τ, hc, h⟩ := bnv_e h
    refine z_callV (M' := m_X12_layAll) (t := 3) (i := 0) (k := 0) (As := [.int (x2), .int (x3)]) (rest := []) kl_12_494 oy_X12_layAll ⟨Nat.le_of_ble_eq_true rfl, Nat.le_of_ble_eq_true rfl⟩ rfl rfl rfl rfl (Nat.le_of_ble_eq_true rfl) rfl dX12_alone_15 (c_X12_layAll hc) (fun v2 τ2 hq => ?_)
    obtain ⟨rfl, hτ⟩ := hq
    subst τ2
    change Z _ _ _ _ _ [] _
    refine Z.lv [0, 1] rfl ?_
    exact zb_X12_alone_18 h
  · have h := (if_pos q).symm.trans h
    refine z_iconst (v := (-1)) dX12_alone_10 (by decide) ?_
    cases h
    exact z_ireturn dX12_alone_11 rfl rfl ⟨rfl, rfl⟩
def F_X12_alone (x1 : Int32) (x2 : Int32) (x3 : Int32) (σ : Mm) : Option (Int32 × Mm) := (bnd (F_X12_isSet x1 x2 x3 σ) (fun v τ => (F_X12_alone_7 x1 x2 x3 v τ)))
set_option maxRecDepth 20000 in
theorem zb_X12_alone {S : Shp} {x1 : Int32} {x2 : Int32} {x3 : Int32} {σ : Mm} {r : Int32 × Mm} (h : F_X12_alone x1 x2 x3 σ = some r) : Z m_X12_alone S (Qi r) 0 [(0, .ref (sL S 3 0 0)), (1, .int (x1)), (2, .int (x2)), (3, .int (x3))] [] σ := by
  unfold F_X12_alone at h
  refine z_aload_n dX12_alone_0 rfl 0 rfl ?_
  refine z_iload_n dX12_alone_1 rfl 1 rfl ?_
  refine z_iload_n dX12_alone_2 rfl 2 rfl ?_
  refine z_iload_n dX12_alone_3 rfl 3 rfl ?_
  obtain ⟨v, τ, hc, h⟩ := bnd_e h
  refine z_callV (M' := m_X12_isSet) (t := 3) (i := 0) (k := 0) (As := [.int (x1), .int (x2), .int (x3)]) (rest := []) kl_12_491 oy_X12_isSet ⟨Nat.le_of_ble_eq_true rfl, Nat.le_of_ble_eq_true rfl⟩ rfl rfl rfl rfl (Nat.le_of_ble_eq_true rfl) rfl dX12_alone_4 (c_X12_isSet hc) (fun v2 τ2 hq => ?_)
  obtain ⟨rfl, hτ⟩ := hq
  subst τ2
  change Z _ _ _ _ _ [.int (v)] _
  exact zb_X12_alone_7 h
/-- SkyStonesModel.alone(III)I -/
theorem c_X12_alone {S : Shp} {x1 : Int32} {x2 : Int32} {x3 : Int32} {σ : Mm} {r : Int32 × Mm} (h : F_X12_alone x1 x2 x3 σ = some r) : Ct m_X12_alone S [.ref (sL S 3 0 0), .int (x1), .int (x2), .int (x3)] σ (Qi r) := Ct.of (by decide +kernel) (Nat.le_of_ble_eq_true rfl) (zb_X12_alone h)
def F_X12_fact_64 (x5 : Int32) (σ : Mm) : Option (Int32 × Mm) := some (x5, σ)
set_option maxRecDepth 20000 in
theorem zb_X12_fact_64 {S : Shp} {x5 : Int32} {σ : Mm} {r : Int32 × Mm} (h : F_X12_fact_64 x5 σ = some r) : Z m_X12_fact S (Qi r) 64 [(5, .int (x5))] [] σ := by
  unfold F_X12_fact_64 at h
  refine z_iload dX12_fact_64 0 rfl ?_
  cases h
  exact z_ireturn dX12_fact_66 rfl rfl ⟨rfl, rfl⟩
def F_X12_fact_54 (x5 : Int32) (σ : Mm) : Option (Int32 × Mm) := (if inb 0 5 = true then (if inb 0 5 = true then (F_X12_fact_64 x5 (setA σ 3 0 38 (upd (mA σ 3 0 38) (0 : Int32).toNatClampNeg ((mA σ 3 0 38 (0 : Int32).toNatClampNeg) + (1 : Int32))))) else none) else none)
set_option maxRecDepth 20000 in
theorem zb_X12_fact_54 {S : Shp} {x5 : Int32} {σ : Mm} {r : Int32 × Mm} (h : F_X12_fact_54 x5 σ = some r) : Z m_X12_fact S (Qi r) 54 [(0, .ref (sL S 3 0 0)), (5, .int (x5))] [] σ := by
  unfold F_X12_fact_54 at h
  obtain ⟨g7, h⟩ := gd h
  refine z_aload_n dX12_fact_54 rfl 0 rfl ?_
  refine gf_12_127 rfl dX12_fact_55 ?_
  refine z_iconst (v := 0) dX12_fact_58 (by decide) ?_
  refine z_dup2_11 dX12_fact_59 rfl rfl ?_
  obtain ⟨g8, h⟩ := gd h
  refine ia_3_38 (inb_in g7) dX12_fact_60 ?_
  refine z_iconst (v := 1) dX12_fact_61 (by decide) ?_
  refine z_iadd dX12_fact_62 ?_
  refine is_3_38 (inb_in g8) dX12_fact_63 ?_
  refine Z.lv [1] rfl ?_
  exact zb_X12_fact_64 h
def F_X12_fact_45 (x4 : Int32) (x5 : Int32) (σ : Mm) : Option (Int32 × Mm) := (if inb x5 300 = true then (F_X12_fact_54 x5 (setA σ 3 0 42 (upd (mA σ 3 0 42) x5.toNatClampNeg x4))) else none)
set_option maxRecDepth 20000 in
theorem zb_X12_fact_45 {S : Shp} {x4 : Int32} {x5 : Int32} {σ : Mm} {r : Int32 × Mm} (h : F_X12_fact_45 x4 x5 σ = some r) : Z m_X12_fact S (Qi r) 45 [(0, .ref (sL S 3 0 0)), (4, .int (x4)), (5, .int (x5))] [] σ := by
  unfold F_X12_fact_45 at h
  obtain ⟨g6, h⟩ := gd h
  refine z_aload_n dX12_fact_45 rfl 0 rfl ?_
  refine gf_12_139 rfl dX12_fact_46 ?_
  refine z_iload dX12_fact_49 2 rfl ?_
  refine z_iload dX12_fact_51 1 rfl ?_
  refine is_3_42 (inb_in g6) dX12_fact_53 ?_
  refine Z.lv [0, 2] rfl ?_
  exact zb_X12_fact_54 h
def F_X12_fact_37 (x3 : Int32) (x4 : Int32) (x5 : Int32) (σ : Mm) : Option (Int32 × Mm) := (if inb x5 300 = true then (F_X12_fact_45 x4 x5 (setA σ 3 0 41 (upd (mA σ 3 0 41) x5.toNatClampNeg x3))) else none)
set_option maxRecDepth 20000 in
theorem zb_X12_fact_37 {S : Shp} {x3 : Int32} {x4 : Int32} {x5 : Int32} {σ : Mm} {r : Int32 × Mm} (h : F_X12_fact_37 x3 x4 x5 σ = some r) : Z m_X12_fact S (Qi r) 37 [(0, .ref (sL S 3 0 0)), (3, .int (x3)), (4, .int (x4)), (5, .int (x5))] [] σ := by
  unfold F_X12_fact_37 at h
  obtain ⟨g5, h⟩ := gd h
  refine z_aload_n dX12_fact_37 rfl 0 rfl ?_
  refine gf_12_136 rfl dX12_fact_38 ?_
  refine z_iload dX12_fact_41 3 rfl ?_
  refine z_iload_n dX12_fact_43 rfl 1 rfl ?_
  refine is_3_41 (inb_in g5) dX12_fact_44 ?_
  refine Z.lv [0, 2, 3] rfl ?_
  exact zb_X12_fact_45 h
def F_X12_fact_29 (x2 : Int32) (x3 : Int32) (x4 : Int32) (x5 : Int32) (σ : Mm) : Option (Int32 × Mm) := (if inb x5 300 = true then (F_X12_fact_37 x3 x4 x5 (setA σ 3 0 40 (upd (mA σ 3 0 40) x5.toNatClampNeg x2))) else none)
set_option maxRecDepth 20000 in
theorem zb_X12_fact_29 {S : Shp} {x2 : Int32} {x3 : Int32} {x4 : Int32} {x5 : Int32} {σ : Mm} {r : Int32 × Mm} (h : F_X12_fact_29 x2 x3 x4 x5 σ = some r) : Z m_X12_fact S (Qi r) 29 [(0, .ref (sL S 3 0 0)), (2, .int (x2)), (3, .int (x3)), (4, .int (x4)), (5, .int (x5))] [] σ := by
  unfold F_X12_fact_29 at h
  obtain ⟨g4, h⟩ := gd h
  refine z_aload_n dX12_fact_29 rfl 0 rfl ?_
  refine gf_12_133 rfl dX12_fact_30 ?_
  refine z_iload dX12_fact_33 4 rfl ?_
  refine z_iload_n dX12_fact_35 rfl 1 rfl ?_
  refine is_3_40 (inb_in g4) dX12_fact_36 ?_
  refine Z.lv [0, 2, 3, 4] rfl ?_
  exact zb_X12_fact_37 h
def F_X12_fact_21 (x1 : Int32) (x2 : Int32) (x3 : Int32) (x4 : Int32) (x5 : Int32) (σ : Mm) : Option (Int32 × Mm) := (if inb x5 300 = true then (F_X12_fact_29 x2 x3 x4 x5 (setA σ 3 0 39 (upd (mA σ 3 0 39) x5.toNatClampNeg x1))) else none)
set_option maxRecDepth 20000 in
theorem zb_X12_fact_21 {S : Shp} {x1 : Int32} {x2 : Int32} {x3 : Int32} {x4 : Int32} {x5 : Int32} {σ : Mm} {r : Int32 × Mm} (h : F_X12_fact_21 x1 x2 x3 x4 x5 σ = some r) : Z m_X12_fact S (Qi r) 21 [(0, .ref (sL S 3 0 0)), (1, .int (x1)), (2, .int (x2)), (3, .int (x3)), (4, .int (x4)), (5, .int (x5))] [] σ := by
  unfold F_X12_fact_21 at h
  obtain ⟨g3, h⟩ := gd h
  refine z_aload_n dX12_fact_21 rfl 0 rfl ?_
  refine gf_12_130 rfl dX12_fact_22 ?_
  refine z_iload dX12_fact_25 5 rfl ?_
  refine z_iload_n dX12_fact_27 rfl 1 rfl ?_
  refine is_3_39 (inb_in g3) dX12_fact_28 ?_
  refine Z.lv [0, 2, 3, 4, 5] rfl ?_
  exact zb_X12_fact_29 h
def F_X12_fact (x1 : Int32) (x2 : Int32) (x3 : Int32) (x4 : Int32) (σ : Mm) : Option (Int32 × Mm) := (if inb 0 5 = true then (if (mA σ 3 0 38 (0 : Int32).toNatClampNeg) = (60 : Int32) then some ((-1), σ) else (if inb 0 5 = true then (F_X12_fact_21 x1 x2 x3 x4 (mA σ 3 0 38 (0 : Int32).toNatClampNeg) σ) else none)) else none)
set_option maxRecDepth 20000 in
theorem zb_X12_fact {S : Shp} {x1 : Int32} {x2 : Int32} {x3 : Int32} {x4 : Int32} {σ : Mm} {r : Int32 × Mm} (h : F_X12_fact x1 x2 x3 x4 σ = some r) : Z m_X12_fact S (Qi r) 0 [(0, .ref (sL S 3 0 0)), (1, .int (x1)), (2, .int (x2)), (3, .int (x3)), (4, .int (x4))] [] σ := by
  unfold F_X12_fact at h
  obtain ⟨g1, h⟩ := gd h
  refine z_aload_n dX12_fact_0 rfl 0 rfl ?_
  refine gf_12_127 rfl dX12_fact_1 ?_
  refine z_iconst (v := 0) dX12_fact_4 (by decide) ?_
  refine ia_3_38 (inb_in g1) dX12_fact_5 ?_
  refine z_bipush (v := 60) dX12_fact_6 (by decide) ?_
  refine z_icmp_ne (tgt := 13) dX12_fact_8 (by decide) (fun q => ?_) (fun q => ?_)
  · have h := (if_neg q).symm.trans h
    obtain ⟨g2, h⟩ := gd h
    refine z_aload_n dX12_fact_13 rfl 0 rfl ?_
    refine gf_12_127 rfl dX12_fact_14 ?_
    refine z_iconst (v := 0) dX12_fact_17 (by decide) ?_
    refine ia_3_38 (inb_in g2) dX12_fact_18 ?_
    refine z_istore (lv' := [(0, .ref (sL S 3 0 0)), (1, .int (x1)), (2, .int (x2)), (3, .int (x3)), (4, .int (x4)), (5, .int (mA σ 3 0 38 (0 : Int32).toNatClampNeg))]) dX12_fact_19 (by decide) [1, 2, 3, 4, 5, 0] rfl ?_
    exact zb_X12_fact_21 h
  · have h := (if_pos q).symm.trans h
    refine z_iconst (v := (-1)) dX12_fact_11 (by decide) ?_
    cases h
    exact z_ireturn dX12_fact_12 rfl rfl ⟨rfl, rfl⟩
/-- SkyStonesModel.fact(IIII)I -/
theorem c_X12_fact {S : Shp} {x1 : Int32} {x2 : Int32} {x3 : Int32} {x4 : Int32} {σ : Mm} {r : Int32 × Mm} (h : F_X12_fact x1 x2 x3 x4 σ = some r) : Ct m_X12_fact S [.ref (sL S 3 0 0), .int (x1), .int (x2), .int (x3), .int (x4)] σ (Qi r) := Ct.of (by decide +kernel) (Nat.le_of_ble_eq_true rfl) (zb_X12_fact h)
def f_X12_isIn (x0 : Int32) (x1 : Int32) (x2 : Int32) : Int32 := (if x0 < x1 then 0 else (if x2 < x0 then 0 else 1))
set_option maxRecDepth 20000 in
theorem zb_X12_isIn {S : Shp} {x0 : Int32} {x1 : Int32} {x2 : Int32} {σ : Mm} {r : Int32} (h : f_X12_isIn x0 x1 x2 = r) : Z m_X12_isIn S (Qi (r, σ)) 0 [(0, .int (x0)), (1, .int (x1)), (2, .int (x2))] [] σ := by
  unfold f_X12_isIn at h
  refine z_iload_n dX12_isIn_0 rfl 0 rfl ?_
  refine z_iload_n dX12_isIn_1 rfl 1 rfl ?_
  refine z_icmp_lt (tgt := 14) dX12_isIn_2 (by decide) (fun q => ?_) (fun q => ?_)
  · have h := (if_pos q).symm.trans h
    refine z_iconst (v := 0) dX12_isIn_14 (by decide) ?_
    subst h
    exact z_ireturn dX12_isIn_15 rfl rfl ⟨rfl, rfl⟩
  · have h := (if_neg q).symm.trans h
    refine z_iload_n dX12_isIn_5 rfl 0 rfl ?_
    refine z_iload_n dX12_isIn_6 rfl 2 rfl ?_
    refine z_icmp_gt (tgt := 14) dX12_isIn_7 (by decide) (fun q => ?_) (fun q => ?_)
    · have h := (if_pos q).symm.trans h
      refine z_iconst (v := 0) dX12_isIn_14 (by decide) ?_
      subst h
      exact z_ireturn dX12_isIn_15 rfl rfl ⟨rfl, rfl⟩
    · have h := (if_neg q).symm.trans h
      refine z_iconst (v := 1) dX12_isIn_10 (by decide) ?_
      refine z_goto (tgt := 15) dX12_isIn_11 (by decide) ?_
      subst h
      exact z_ireturn dX12_isIn_15 rfl rfl ⟨rfl, rfl⟩
/-- SkyStonesModel.isIn(III)Z -/
theorem c_X12_isIn {S : Shp} {x0 : Int32} {x1 : Int32} {x2 : Int32} {σ : Mm} {r : Int32} (h : f_X12_isIn x0 x1 x2 = r) : Ct m_X12_isIn S [.int (x0), .int (x1), .int (x2)] σ (Qi (r, σ)) := Ct.of (by decide +kernel) (Nat.le_of_ble_eq_true rfl) (zb_X12_isIn h)
def F_X12_annul_34 (s0 : Int32) (σ : Mm) : Option (Int32 × Mm) := some (s0, σ)
set_option maxRecDepth 20000 in
theorem zb_X12_annul_34 {S : Shp} {s0 : Int32} {σ : Mm} {r : Int32 × Mm} (h : F_X12_annul_34 s0 σ = some r) : Z m_X12_annul S (Qi r) 34 [] [.int (s0)] σ := by
  unfold F_X12_annul_34 at h
  refine z_goto (tgt := 38) dX12_annul_34 (by decide) ?_
  cases h
  exact z_ireturn dX12_annul_38 rfl rfl ⟨rfl, rfl⟩
def F_X12_annul (x1 : Int32) (σ : Mm) : Option (Int32 × Mm) := (if inb 0 5 = true then (if (f_X12_isIn x1 0 ((mA σ 3 0 38 (0 : Int32).toNatClampNeg) - (1 : Int32))) = 0 then some ((-1), σ) else (if inb x1 300 = true then (if (mA σ 3 0 39 x1.toNatClampNeg) = (4 : Int32) then some ((-1), σ) else (bnd (F_X12_fact 4 ((-1)) x1 0 σ) (fun v τ => (F_X12_annul_34 v τ)))) else none)) else none)
set_option maxRecDepth 20000 in
theorem zb_X12_annul {S : Shp} {x1 : Int32} {σ : Mm} {r : Int32 × Mm} (h : F_X12_annul x1 σ = some r) : Z m_X12_annul S (Qi r) 0 [(0, .ref (sL S 3 0 0)), (1, .int (x1))] [] σ := by
  unfold F_X12_annul at h
  obtain ⟨g1, h⟩ := gd h
  refine z_iload_n dX12_annul_0 rfl 1 rfl ?_
  refine z_iconst (v := 0) dX12_annul_1 (by decide) ?_
  refine z_aload_n dX12_annul_2 rfl 0 rfl ?_
  refine gf_12_127 rfl dX12_annul_3 ?_
  refine z_iconst (v := 0) dX12_annul_6 (by decide) ?_
  refine ia_3_38 (inb_in g1) dX12_annul_7 ?_
  refine z_iconst (v := 1) dX12_annul_8 (by decide) ?_
  refine z_isub dX12_annul_9 ?_
  refine z_callS (M' := m_X12_isIn) (As := [.int (x1), .int (0), .int ((mA σ 3 0 38 (0 : Int32).toNatClampNeg) - (1 : Int32))]) (rest := []) kl_12_407 oy_X12_isIn ⟨Nat.le_of_ble_eq_true rfl, Nat.le_of_ble_eq_true rfl⟩ rfl (Nat.le_of_ble_eq_true rfl) rfl dX12_annul_10 (c_X12_isIn rfl) (fun v τ hq => ?_)
  obtain ⟨rfl, hτ⟩ := hq
  subst τ
  change Z _ _ _ _ _ [.int (f_X12_isIn x1 0 ((mA σ 3 0 38 (0 : Int32).toNatClampNeg) - (1 : Int32)))] _
  refine z_if_eq (tgt := 37) dX12_annul_13 (by decide) (fun q => ?_) (fun q => ?_)
  · have h := (if_pos q).symm.trans h
    refine z_iconst (v := (-1)) dX12_annul_37 (by decide) ?_
    cases h
    exact z_ireturn dX12_annul_38 rfl rfl ⟨rfl, rfl⟩
  · have h := (if_neg q).symm.trans h
    obtain ⟨g2, h⟩ := gd h
    refine z_aload_n dX12_annul_16 rfl 0 rfl ?_
    refine gf_12_130 rfl dX12_annul_17 ?_
    refine z_iload_n dX12_annul_20 rfl 1 rfl ?_
    refine ia_3_39 (inb_in g2) dX12_annul_21 ?_
    refine z_iconst (v := 4) dX12_annul_22 (by decide) ?_
    refine z_icmp_eq (tgt := 37) dX12_annul_23 (by decide) (fun q => ?_) (fun q => ?_)
    · have h := (if_pos q).symm.trans h
      refine z_iconst (v := (-1)) dX12_annul_37 (by decide) ?_
      cases h
      exact z_ireturn dX12_annul_38 rfl rfl ⟨rfl, rfl⟩
    · have h := (if_neg q).symm.trans h
      refine z_aload_n dX12_annul_26 rfl 0 rfl ?_
      refine z_iconst (v := 4) dX12_annul_27 (by decide) ?_
      refine z_iconst (v := (-1)) dX12_annul_28 (by decide) ?_
      refine z_iload_n dX12_annul_29 rfl 1 rfl ?_
      refine z_iconst (v := 0) dX12_annul_30 (by decide) ?_
      obtain ⟨v, τ, hc, h⟩ := bnd_e h
      refine z_callV (M' := m_X12_fact) (t := 3) (i := 0) (k := 0) (As := [.int (4), .int ((-1)), .int (x1), .int (0)]) (rest := []) kl_12_411 oy_X12_fact ⟨Nat.le_of_ble_eq_true rfl, Nat.le_of_ble_eq_true rfl⟩ rfl rfl rfl rfl (Nat.le_of_ble_eq_true rfl) rfl dX12_annul_31 (c_X12_fact hc) (fun v2 τ2 hq => ?_)
      obtain ⟨rfl, hτ⟩ := hq
      subst τ2
      change Z _ _ _ _ _ [.int (v)] _
      refine Z.lv [] rfl ?_
      exact zb_X12_annul_34 h
/-- SkyStonesModel.annul(I)I -/
theorem c_X12_annul {S : Shp} {x1 : Int32} {σ : Mm} {r : Int32 × Mm} (h : F_X12_annul x1 σ = some r) : Ct m_X12_annul S [.ref (sL S 3 0 0), .int (x1)] σ (Qi r) := Ct.of (by decide +kernel) (Nat.le_of_ble_eq_true rfl) (zb_X12_annul h)
def f_X12_isCounting (x0 : Int32) (x1 : Int32) (x2 : Int32) (x3 : Int32) (x4 : Int32) : Int32 := (if (x4 * x1) < (f_X12_plain ((x0 * x2) - (x3 * x1))) then 0 else 1)
set_option maxRecDepth 20000 in
theorem zb_X12_isCounting {S : Shp} {x0 : Int32} {x1 : Int32} {x2 : Int32} {x3 : Int32} {x4 : Int32} {σ : Mm} {r : Int32} (h : f_X12_isCounting x0 x1 x2 x3 x4 = r) : Z m_X12_isCounting S (Qi (r, σ)) 0 [(0, .int (x0)), (1, .int (x1)), (2, .int (x2)), (3, .int (x3)), (4, .int (x4))] [] σ := by
  unfold f_X12_isCounting at h
  refine z_iload_n dX12_isCounting_0 rfl 0 rfl ?_
  refine z_iload_n dX12_isCounting_1 rfl 2 rfl ?_
  refine z_imul dX12_isCounting_2 ?_
  refine z_iload_n dX12_isCounting_3 rfl 3 rfl ?_
  refine z_iload_n dX12_isCounting_4 rfl 1 rfl ?_
  refine z_imul dX12_isCounting_5 ?_
  refine z_isub dX12_isCounting_6 ?_
  refine z_callS (M' := m_X12_plain) (As := [.int ((x0 * x2) - (x3 * x1))]) (rest := []) kl_12_425 oy_X12_plain ⟨Nat.le_of_ble_eq_true rfl, Nat.le_of_ble_eq_true rfl⟩ rfl (Nat.le_of_ble_eq_true rfl) rfl dX12_isCounting_7 (c_X12_plain rfl) (fun v τ hq => ?_)
  obtain ⟨rfl, hτ⟩ := hq
  subst τ
  change Z _ _ _ _ _ [.int (f_X12_plain ((x0 * x2) - (x3 * x1)))] _
  refine z_iload dX12_isCounting_10 4 rfl ?_
  refine z_iload_n dX12_isCounting_12 rfl 1 rfl ?_
  refine z_imul dX12_isCounting_13 ?_
  refine z_icmp_gt (tgt := 21) dX12_isCounting_14 (by decide) (fun q => ?_) (fun q => ?_)
  · have h := (if_pos q).symm.trans h
    refine z_iconst (v := 0) dX12_isCounting_21 (by decide) ?_
    subst h
    exact z_ireturn dX12_isCounting_22 rfl rfl ⟨rfl, rfl⟩
  · have h := (if_neg q).symm.trans h
    refine z_iconst (v := 1) dX12_isCounting_17 (by decide) ?_
    refine z_goto (tgt := 22) dX12_isCounting_18 (by decide) ?_
    subst h
    exact z_ireturn dX12_isCounting_22 rfl rfl ⟨rfl, rfl⟩
/-- SkyStonesModel.isCounting(IIIII)Z -/
theorem c_X12_isCounting {S : Shp} {x0 : Int32} {x1 : Int32} {x2 : Int32} {x3 : Int32} {x4 : Int32} {σ : Mm} {r : Int32} (h : f_X12_isCounting x0 x1 x2 x3 x4 = r) : Ct m_X12_isCounting S [.int (x0), .int (x1), .int (x2), .int (x3), .int (x4)] σ (Qi (r, σ)) := Ct.of (by decide +kernel) (Nat.le_of_ble_eq_true rfl) (zb_X12_isCounting h)
def F_X12_anything_137 (rc61 : Int32 → Int32 → Int32 → Int32 → Int32 → Int32 → Int32 → Mm → Option (Int32 × Mm)) (x1 : Int32) (x2 : Int32) (x3 : Int32) (x4 : Int32) (x5 : Int32) (x7 : Int32) (s0 : Int32) (s1 : Int32) (σ : Mm) : Option (Int32 × Mm) := (rc61 x1 x2 x3 x4 x5 (s1 + s0) (x7 + 1) σ)
set_option maxRecDepth 20000 in
theorem zb_X12_anything_137 {S : Shp} {rc61 : Int32 → Int32 → Int32 → Int32 → Int32 → Int32 → Int32 → Mm → Option (Int32 × Mm)} (hrc61 : ∀ {x1 : Int32} {x2 : Int32} {x3 : Int32} {x4 : Int32} {x5 : Int32} {x6 : Int32} {x7 : Int32} {σ : Mm} {r : Int32 × Mm}, rc61 x1 x2 x3 x4 x5 x6 x7 σ = some r → Z m_X12_anything S (Qi r) 61 [(1, .int (x1)), (2, .int (x2)), (3, .int (x3)), (4, .int (x4)), (5, .int (x5)), (6, .int (x6)), (7, .int (x7))] [] σ) {x1 : Int32} {x2 : Int32} {x3 : Int32} {x4 : Int32} {x5 : Int32} {x7 : Int32} {s0 : Int32} {s1 : Int32} {σ : Mm} {r : Int32 × Mm} (h : F_X12_anything_137 rc61 x1 x2 x3 x4 x5 x7 s0 s1 σ = some r) : Z m_X12_anything S (Qi r) 137 [(1, .int (x1)), (2, .int (x2)), (3, .int (x3)), (4, .int (x4)), (5, .int (x5)), (7, .int (x7))] [.int (s0), .int (s1)] σ := by
  unfold F_X12_anything_137 at h
  refine z_iadd dX12_anything_137 ?_
  refine z_istore (lv' := [(1, .int (x1)), (2, .int (x2)), (3, .int (x3)), (4, .int (x4)), (5, .int (x5)), (6, .int (s1 + s0)), (7, .int (x7))]) dX12_anything_138 (by decide) [1, 2, 3, 4, 5, 0, 6] rfl ?_
  refine z_iinc (j := 6) (v := x7 + 1) (lv' := [(1, .int (x1)), (2, .int (x2)), (3, .int (x3)), (4, .int (x4)), (5, .int (x5)), (6, .int (s1 + s0)), (7, .int (x7 + 1))]) dX12_anything_140 rfl rfl (by decide) [1, 2, 3, 4, 5, 6, 0] rfl ?_
  refine z_goto (tgt := 61) dX12_anything_143 (by decide) ?_
  exact hrc61 h
def F_X12_anything_125 (rc61 : Int32 → Int32 → Int32 → Int32 → Int32 → Int32 → Int32 → Mm → Option (Int32 × Mm)) (x1 : Int32) (x2 : Int32) (x3 : Int32) (x4 : Int32) (x5 : Int32) (x6 : Int32) (x7 : Int32) (x8 : Int32) (σ : Mm) : Option (Int32 × Mm) := (if x8 = 0 then (F_X12_anything_137 rc61 x1 x2 x3 x4 x5 x7 0 x6 σ) else (F_X12_anything_137 rc61 x1 x2 x3 x4 x5 x7 1 x6 σ))
set_option maxRecDepth 20000 in
theorem zb_X12_anything_125 {S : Shp} {rc61 : Int32 → Int32 → Int32 → Int32 → Int32 → Int32 → Int32 → Mm → Option (Int32 × Mm)} (hrc61 : ∀ {x1 : Int32} {x2 : Int32} {x3 : Int32} {x4 : Int32} {x5 : Int32} {x6 : Int32} {x7 : Int32} {σ : Mm} {r : Int32 × Mm}, rc61 x1 x2 x3 x4 x5 x6 x7 σ = some r → Z m_X12_anything S (Qi r) 61 [(1, .int (x1)), (2, .int (x2)), (3, .int (x3)), (4, .int (x4)), (5, .int (x5)), (6, .int (x6)), (7, .int (x7))] [] σ) {x1 : Int32} {x2 : Int32} {x3 : Int32} {x4 : Int32} {x5 : Int32} {x6 : Int32} {x7 : Int32} {x8 : Int32} {σ : Mm} {r : Int32 × Mm} (h : F_X12_anything_125 rc61 x1 x2 x3 x4 x5 x6 x7 x8 σ = some r) : Z m_X12_anything S (Qi r) 125 [(1, .int (x1)), (2, .int (x2)), (3, .int (x3)), (4, .int (x4)), (5, .int (x5)), (6, .int (x6)), (7, .int (x7)), (8, .int (x8))] [] σ := by
  unfold F_X12_anything_125 at h
  refine z_iload dX12_anything_125 5 rfl ?_
  refine z_iload dX12_anything_127 7 rfl ?_
  refine z_if_eq (tgt := 136) dX12_anything_129 (by decide) (fun q => ?_) (fun q => ?_)
  · have h := (if_pos q).symm.trans h
    refine z_iconst (v := 0) dX12_anything_136 (by decide) ?_
    refine Z.lv [0, 1, 2, 3, 4, 6] rfl ?_
    exact zb_X12_anything_137 hrc61 h
  · have h := (if_neg q).symm.trans h
    refine z_iconst (v := 1) dX12_anything_132 (by decide) ?_
    refine z_goto (tgt := 137) dX12_anything_133 (by decide) ?_
    refine Z.lv [0, 1, 2, 3, 4, 6] rfl ?_
    exact zb_X12_anything_137 hrc61 h
def F_X12_anything_119 (rc61 : Int32 → Int32 → Int32 → Int32 → Int32 → Int32 → Int32 → Mm → Option (Int32 × Mm)) (rc74 : Int32 → Int32 → Int32 → Int32 → Int32 → Int32 → Int32 → Int32 → Int32 → Mm → Option (Int32 × Mm)) (x1 : Int32) (x2 : Int32) (x3 : Int32) (x4 : Int32) (x5 : Int32) (x6 : Int32) (x7 : Int32) (x8 : Int32) (x9 : Int32) (σ : Mm) : Option (Int32 × Mm) := (rc74 x1 x2 x3 x4 x5 x6 x7 x8 (x9 + 1) σ)
set_option maxRecDepth 20000 in
theorem zb_X12_anything_119 {S : Shp} {rc61 : Int32 → Int32 → Int32 → Int32 → Int32 → Int32 → Int32 → Mm → Option (Int32 × Mm)} (hrc61 : ∀ {x1 : Int32} {x2 : Int32} {x3 : Int32} {x4 : Int32} {x5 : Int32} {x6 : Int32} {x7 : Int32} {σ : Mm} {r : Int32 × Mm}, rc61 x1 x2 x3 x4 x5 x6 x7 σ = some r → Z m_X12_anything S (Qi r) 61 [(1, .int (x1)), (2, .int (x2)), (3, .int (x3)), (4, .int (x4)), (5, .int (x5)), (6, .int (x6)), (7, .int (x7))] [] σ) {rc74 : Int32 → Int32 → Int32 → Int32 → Int32 → Int32 → Int32 → Int32 → Int32 → Mm → Option (Int32 × Mm)} (hrc74 : ∀ {x1 : Int32} {x2 : Int32} {x3 : Int32} {x4 : Int32} {x5 : Int32} {x6 : Int32} {x7 : Int32} {x8 : Int32} {x9 : Int32} {σ : Mm} {r : Int32 × Mm}, rc74 x1 x2 x3 x4 x5 x6 x7 x8 x9 σ = some r → Z m_X12_anything S (Qi r) 74 [(1, .int (x1)), (2, .int (x2)), (3, .int (x3)), (4, .int (x4)), (5, .int (x5)), (6, .int (x6)), (7, .int (x7)), (8, .int (x8)), (9, .int (x9))] [] σ) {x1 : Int32} {x2 : Int32} {x3 : Int32} {x4 : Int32} {x5 : Int32} {x6 : Int32} {x7 : Int32} {x8 : Int32} {x9 : Int32} {σ : Mm} {r : Int32 × Mm} (h : F_X12_anything_119 rc61 rc74 x1 x2 x3 x4 x5 x6 x7 x8 x9 σ = some r) : Z m_X12_anything S (Qi r) 119 [(1, .int (x1)), (2, .int (x2)), (3, .int (x3)), (4, .int (x4)), (5, .int (x5)), (6, .int (x6)), (7, .int (x7)), (8, .int (x8)), (9, .int (x9))] [] σ := by
  unfold F_X12_anything_119 at h
  refine z_iinc (j := 8) (v := x9 + 1) (lv' := [(1, .int (x1)), (2, .int (x2)), (3, .int (x3)), (4, .int (x4)), (5, .int (x5)), (6, .int (x6)), (7, .int (x7)), (8, .int (x8)), (9, .int (x9 + 1))]) dX12_anything_119 rfl rfl (by decide) [1, 2, 3, 4, 5, 6, 7, 8, 0] rfl ?_
  refine z_goto (tgt := 74) dX12_anything_122 (by decide) ?_
  exact hrc74 h
def F_X12_anything_113 (rc61 : Int32 → Int32 → Int32 → Int32 → Int32 → Int32 → Int32 → Mm → Option (Int32 × Mm)) (rc74 : Int32 → Int32 → Int32 → Int32 → Int32 → Int32 → Int32 → Int32 → Int32 → Mm → Option (Int32 × Mm)) (rc88 : Int32 → Int32 → Int32 → Int32 → Int32 → Int32 → Int32 → Int32 → Int32 → Int32 → Mm → Option (Int32 × Mm)) (x1 : Int32) (x2 : Int32) (x3 : Int32) (x4 : Int32) (x5 : Int32) (x6 : Int32) (x7 : Int32) (x8 : Int32) (x9 : Int32) (x10 : Int32) (σ : Mm) : Option (Int32 × Mm) := (rc88 x1 x2 x3 x4 x5 x6 x7 x8 x9 (x10 + 1) σ)
set_option maxRecDepth 20000 in
theorem zb_X12_anything_113 {S : Shp} {rc61 : Int32 → Int32 → Int32 → Int32 → Int32 → Int32 → Int32 → Mm → Option (Int32 × Mm)} (hrc61 : ∀ {x1 : Int32} {x2 : Int32} {x3 : Int32} {x4 : Int32} {x5 : Int32} {x6 : Int32} {x7 : Int32} {σ : Mm} {r : Int32 × Mm}, rc61 x1 x2 x3 x4 x5 x6 x7 σ = some r → Z m_X12_anything S (Qi r) 61 [(1, .int (x1)), (2, .int (x2)), (3, .int (x3)), (4, .int (x4)), (5, .int (x5)), (6, .int (x6)), (7, .int (x7))] [] σ) {rc74 : Int32 → Int32 → Int32 → Int32 → Int32 → Int32 → Int32 → Int32 → Int32 → Mm → Option (Int32 × Mm)} (hrc74 : ∀ {x1 : Int32} {x2 : Int32} {x3 : Int32} {x4 : Int32} {x5 : Int32} {x6 : Int32} {x7 : Int32} {x8 : Int32} {x9 : Int32} {σ : Mm} {r : Int32 × Mm}, rc74 x1 x2 x3 x4 x5 x6 x7 x8 x9 σ = some r → Z m_X12_anything S (Qi r) 74 [(1, .int (x1)), (2, .int (x2)), (3, .int (x3)), (4, .int (x4)), (5, .int (x5)), (6, .int (x6)), (7, .int (x7)), (8, .int (x8)), (9, .int (x9))] [] σ) {rc88 : Int32 → Int32 → Int32 → Int32 → Int32 → Int32 → Int32 → Int32 → Int32 → Int32 → Mm → Option (Int32 × Mm)} (hrc88 : ∀ {x1 : Int32} {x2 : Int32} {x3 : Int32} {x4 : Int32} {x5 : Int32} {x6 : Int32} {x7 : Int32} {x8 : Int32} {x9 : Int32} {x10 : Int32} {σ : Mm} {r : Int32 × Mm}, rc88 x1 x2 x3 x4 x5 x6 x7 x8 x9 x10 σ = some r → Z m_X12_anything S (Qi r) 88 [(1, .int (x1)), (2, .int (x2)), (3, .int (x3)), (4, .int (x4)), (5, .int (x5)), (6, .int (x6)), (7, .int (x7)), (8, .int (x8)), (9, .int (x9)), (10, .int (x10))] [] σ) {x1 : Int32} {x2 : Int32} {x3 : Int32} {x4 : Int32} {x5 : Int32} {x6 : Int32} {x7 : Int32} {x8 : Int32} {x9 : Int32} {x10 : Int32} {σ : Mm} {r : Int32 × Mm} (h : F_X12_anything_113 rc61 rc74 rc88 x1 x2 x3 x4 x5 x6 x7 x8 x9 x10 σ = some r) : Z m_X12_anything S (Qi r) 113 [(1, .int (x1)), (2, .int (x2)), (3, .int (x3)), (4, .int (x4)), (5, .int (x5)), (6, .int (x6)), (7, .int (x7)), (8, .int (x8)), (9, .int (x9)), (10, .int (x10))] [] σ := by
  unfold F_X12_anything_113 at h
  refine z_iinc (j := 9) (v := x10 + 1) (lv' := [(1, .int (x1)), (2, .int (x2)), (3, .int (x3)), (4, .int (x4)), (5, .int (x5)), (6, .int (x6)), (7, .int (x7)), (8, .int (x8)), (9, .int (x9)), (10, .int (x10 + 1))]) dX12_anything_113 rfl rfl (by decide) [1, 2, 3, 4, 5, 6, 7, 8, 9, 0] rfl ?_
  refine z_goto (tgt := 88) dX12_anything_116 (by decide) ?_
  exact hrc88 h
def B_X12_anything_88 (rc61 : Int32 → Int32 → Int32 → Int32 → Int32 → Int32 → Int32 → Mm → Option (Int32 × Mm)) (rc74 : Int32 → Int32 → Int32 → Int32 → Int32 → Int32 → Int32 → Int32 → Int32 → Mm → Option (Int32 × Mm)) (rc88 : Int32 → Int32 → Int32 → Int32 → Int32 → Int32 → Int32 → Int32 → Int32 → Int32 → Mm → Option (Int32 × Mm)) (x1 : Int32) (x2 : Int32) (x3 : Int32) (x4 : Int32) (x5 : Int32) (x6 : Int32) (x7 : Int32) (x8 : Int32) (x9 : Int32) (x10 : Int32) (σ : Mm) : Option (Int32 × Mm) := (if x3 < x10 then (F_X12_anything_119 rc61 rc74 x1 x2 x3 x4 x5 x6 x7 x8 x9 σ) else (if x8 = 0 then (F_X12_anything_113 rc61 rc74 rc88 x1 x2 x3 x4 x5 x6 x7 (f_X12_isCounting x1 x9 x10 x7 x4) x9 x10 σ) else (F_X12_anything_119 rc61 rc74 x1 x2 x3 x4 x5 x6 x7 x8 x9 σ)))
set_option maxRecDepth 20000 in
theorem zB_X12_anything_88 {S : Shp} {rc61 : Int32 → Int32 → Int32 → Int32 → Int32 → Int32 → Int32 → Mm → Option (Int32 × Mm)} (hrc61 : ∀ {x1 : Int32} {x2 : Int32} {x3 : Int32} {x4 : Int32} {x5 : Int32} {x6 : Int32} {x7 : Int32} {σ : Mm} {r : Int32 × Mm}, rc61 x1 x2 x3 x4 x5 x6 x7 σ = some r → Z m_X12_anything S (Qi r) 61 [(1, .int (x1)), (2, .int (x2)), (3, .int (x3)), (4, .int (x4)), (5, .int (x5)), (6, .int (x6)), (7, .int (x7))] [] σ) {rc74 : Int32 → Int32 → Int32 → Int32 → Int32 → Int32 → Int32 → Int32 → Int32 → Mm → Option (Int32 × Mm)} (hrc74 : ∀ {x1 : Int32} {x2 : Int32} {x3 : Int32} {x4 : Int32} {x5 : Int32} {x6 : Int32} {x7 : Int32} {x8 : Int32} {x9 : Int32} {σ : Mm} {r : Int32 × Mm}, rc74 x1 x2 x3 x4 x5 x6 x7 x8 x9 σ = some r → Z m_X12_anything S (Qi r) 74 [(1, .int (x1)), (2, .int (x2)), (3, .int (x3)), (4, .int (x4)), (5, .int (x5)), (6, .int (x6)), (7, .int (x7)), (8, .int (x8)), (9, .int (x9))] [] σ) {rc88 : Int32 → Int32 → Int32 → Int32 → Int32 → Int32 → Int32 → Int32 → Int32 → Int32 → Mm → Option (Int32 × Mm)} (hrc88 : ∀ {x1 : Int32} {x2 : Int32} {x3 : Int32} {x4 : Int32} {x5 : Int32} {x6 : Int32} {x7 : Int32} {x8 : Int32} {x9 : Int32} {x10 : Int32} {σ : Mm} {r : Int32 × Mm}, rc88 x1 x2 x3 x4 x5 x6 x7 x8 x9 x10 σ = some r → Z m_X12_anything S (Qi r) 88 [(1, .int (x1)), (2, .int (x2)), (3, .int (x3)), (4, .int (x4)), (5, .int (x5)), (6, .int (x6)), (7, .int (x7)), (8, .int (x8)), (9, .int (x9)), (10, .int (x10))] [] σ) {x1 : Int32} {x2 : Int32} {x3 : Int32} {x4 : Int32} {x5 : Int32} {x6 : Int32} {x7 : Int32} {x8 : Int32} {x9 : Int32} {x10 : Int32} {σ : Mm} {r : Int32 × Mm} (h : B_X12_anything_88 rc61 rc74 rc88 x1 x2 x3 x4 x5 x6 x7 x8 x9 x10 σ = some r) : Z m_X12_anything S (Qi r) 88 [(1, .int (x1)), (2, .int (x2)), (3, .int (x3)), (4, .int (x4)), (5, .int (x5)), (6, .int (x6)), (7, .int (x7)), (8, .int (x8)), (9, .int (x9)), (10, .int (x10))] [] σ := by
  unfold B_X12_anything_88 at h
  refine z_iload dX12_anything_88 9 rfl ?_
  refine z_iload_n dX12_anything_90 rfl 2 rfl ?_
  refine z_icmp_gt (tgt := 119) dX12_anything_91 (by decide) (fun q => ?_) (fun q => ?_)
  · have h := (if_pos q).symm.trans h
    refine Z.lv [0, 1, 2, 3, 4, 5, 6, 7, 8] rfl ?_
    exact zb_X12_anything_119 hrc61 hrc74 h
  · have h := (if_neg q).symm.trans h
    refine z_iload dX12_anything_94 7 rfl ?_
    refine z_if_ne (tgt := 119) dX12_anything_96 (by decide) (fun q => ?_) (fun q => ?_)
    · have h := (if_neg q).symm.trans h
      refine Z.lv [0, 1, 2, 3, 4, 5, 6, 7, 8] rfl ?_
      exact zb_X12_anything_119 hrc61 hrc74 h
    · have h := (if_pos q).symm.trans h
      refine z_iload_n dX12_anything_99 rfl 0 rfl ?_
      refine z_iload dX12_anything_100 8 rfl ?_
      refine z_iload dX12_anything_102 9 rfl ?_
      refine z_iload dX12_anything_104 6 rfl ?_
      refine z_iload dX12_anything_106 3 rfl ?_
      refine z_callS (M' := m_X12_isCounting) (As := [.int (x1), .int (x9), .int (x10), .int (x7), .int (x4)]) (rest := []) kl_12_548 oy_X12_isCounting ⟨Nat.le_of_ble_eq_true rfl, Nat.le_of_ble_eq_true rfl⟩ rfl (Nat.le_of_ble_eq_true rfl) rfl dX12_anything_108 (c_X12_isCounting rfl) (fun v τ hq => ?_)
      obtain ⟨rfl, hτ⟩ := hq
      subst τ
      change Z _ _ _ _ _ [.int (f_X12_isCounting x1 x9 x10 x7 x4)] _
      refine z_istore (lv' := [(1, .int (x1)), (2, .int (x2)), (3, .int (x3)), (4, .int (x4)), (5, .int (x5)), (6, .int (x6)), (7, .int (x7)), (8, .int (f_X12_isCounting x1 x9 x10 x7 x4)), (9, .int (x9)), (10, .int (x10))]) dX12_anything_111 (by decide) [1, 2, 3, 4, 5, 6, 7, 0, 8, 9] rfl ?_
      exact zb_X12_anything_113 hrc61 hrc74 hrc88 h
def F_X12_anything_88 (rc61 : Int32 → Int32 → Int32 → Int32 → Int32 → Int32 → Int32 → Mm → Option (Int32 × Mm)) (rc74 : Int32 → Int32 → Int32 → Int32 → Int32 → Int32 → Int32 → Int32 → Int32 → Mm → Option (Int32 × Mm)) : Nat → Int32 → Int32 → Int32 → Int32 → Int32 → Int32 → Int32 → Int32 → Int32 → Int32 → Mm → Option (Int32 × Mm)
  | 0 => fun _ _ _ _ _ _ _ _ _ _ _ => none
  | n + 1 => B_X12_anything_88 rc61 rc74 (F_X12_anything_88 rc61 rc74 n)
theorem zl_X12_anything_88 {S : Shp} {rc61 : Int32 → Int32 → Int32 → Int32 → Int32 → Int32 → Int32 → Mm → Option (Int32 × Mm)} (hrc61 : ∀ {x1 : Int32} {x2 : Int32} {x3 : Int32} {x4 : Int32} {x5 : Int32} {x6 : Int32} {x7 : Int32} {σ : Mm} {r : Int32 × Mm}, rc61 x1 x2 x3 x4 x5 x6 x7 σ = some r → Z m_X12_anything S (Qi r) 61 [(1, .int (x1)), (2, .int (x2)), (3, .int (x3)), (4, .int (x4)), (5, .int (x5)), (6, .int (x6)), (7, .int (x7))] [] σ) {rc74 : Int32 → Int32 → Int32 → Int32 → Int32 → Int32 → Int32 → Int32 → Int32 → Mm → Option (Int32 × Mm)} (hrc74 : ∀ {x1 : Int32} {x2 : Int32} {x3 : Int32} {x4 : Int32} {x5 : Int32} {x6 : Int32} {x7 : Int32} {x8 : Int32} {x9 : Int32} {σ : Mm} {r : Int32 × Mm}, rc74 x1 x2 x3 x4 x5 x6 x7 x8 x9 σ = some r → Z m_X12_anything S (Qi r) 74 [(1, .int (x1)), (2, .int (x2)), (3, .int (x3)), (4, .int (x4)), (5, .int (x5)), (6, .int (x6)), (7, .int (x7)), (8, .int (x8)), (9, .int (x9))] [] σ) : ∀ (nn : Nat) {x1 : Int32} {x2 : Int32} {x3 : Int32} {x4 : Int32} {x5 : Int32} {x6 : Int32} {x7 : Int32} {x8 : Int32} {x9 : Int32} {x10 : Int32} {σ : Mm} {r : Int32 × Mm}, F_X12_anything_88 rc61 rc74 nn x1 x2 x3 x4 x5 x6 x7 x8 x9 x10 σ = some r → Z m_X12_anything S (Qi r) 88 [(1, .int (x1)), (2, .int (x2)), (3, .int (x3)), (4, .int (x4)), (5, .int (x5)), (6, .int (x6)), (7, .int (x7)), (8, .int (x8)), (9, .int (x9)), (10, .int (x10))] [] σ := by
  intro nn
  induction nn with
  | zero => intro x1 x2 x3 x4 x5 x6 x7 x8 x9 x10 σ r h; cases h
  | succ nn ih => intro x1 x2 x3 x4 x5 x6 x7 x8 x9 x10 σ r h; exact zB_X12_anything_88 hrc61 hrc74 @ih h
def B_X12_anything_74 (rc61 : Int32 → Int32 → Int32 → Int32 → Int32 → Int32 → Int32 → Mm → Option (Int32 × Mm)) (rc74 : Int32 → Int32 → Int32 → Int32 → Int32 → Int32 → Int32 → Int32 → Int32 → Mm → Option (Int32 × Mm)) (x1 : Int32) (x2 : Int32) (x3 : Int32) (x4 : Int32) (x5 : Int32) (x6 : Int32) (x7 : Int32) (x8 : Int32) (x9 : Int32) (σ : Mm) : Option (Int32 × Mm) := (if x2 < x9 then (F_X12_anything_125 rc61 x1 x2 x3 x4 x5 x6 x7 x8 σ) else (if x8 = 0 then (F_X12_anything_88 rc61 rc74 FU x1 x2 x3 x4 x5 x6 x7 x8 x9 1 σ) else (F_X12_anything_125 rc61 x1 x2 x3 x4 x5 x6 x7 x8 σ)))
set_option maxRecDepth 20000 in
theorem zB_X12_anything_74 {S : Shp} {rc61 : Int32 → Int32 → Int32 → Int32 → Int32 → Int32 → Int32 → Mm → Option (Int32 × Mm)} (hrc61 : ∀ {x1 : Int32} {x2 : Int32} {x3 : Int32} {x4 : Int32} {x5 : Int32} {x6 : Int32} {x7 : Int32} {σ : Mm} {r : Int32 × Mm}, rc61 x1 x2 x3 x4 x5 x6 x7 σ = some r → Z m_X12_anything S (Qi r) 61 [(1, .int (x1)), (2, .int (x2)), (3, .int (x3)), (4, .int (x4)), (5, .int (x5)), (6, .int (x6)), (7, .int (x7))] [] σ) {rc74 : Int32 → Int32 → Int32 → Int32 → Int32 → Int32 → Int32 → Int32 → Int32 → Mm → Option (Int32 × Mm)} (hrc74 : ∀ {x1 : Int32} {x2 : Int32} {x3 : Int32} {x4 : Int32} {x5 : Int32} {x6 : Int32} {x7 : Int32} {x8 : Int32} {x9 : Int32} {σ : Mm} {r : Int32 × Mm}, rc74 x1 x2 x3 x4 x5 x6 x7 x8 x9 σ = some r → Z m_X12_anything S (Qi r) 74 [(1, .int (x1)), (2, .int (x2)), (3, .int (x3)), (4, .int (x4)), (5, .int (x5)), (6, .int (x6)), (7, .int (x7)), (8, .int (x8)), (9, .int (x9))] [] σ) {x1 : Int32} {x2 : Int32} {x3 : Int32} {x4 : Int32} {x5 : Int32} {x6 : Int32} {x7 : Int32} {x8 : Int32} {x9 : Int32} {σ : Mm} {r : Int32 × Mm} (h : B_X12_anything_74 rc61 rc74 x1 x2 x3 x4 x5 x6 x7 x8 x9 σ = some r) : Z m_X12_anything S (Qi r) 74 [(1, .int (x1)), (2, .int (x2)), (3, .int (x3)), (4, .int (x4)), (5, .int (x5)), (6, .int (x6)), (7, .int (x7)), (8, .int (x8)), (9, .int (x9))] [] σ := by
  unfold B_X12_anything_74 at h
  refine z_iload dX12_anything_74 8 rfl ?_
  refine z_iload_n dX12_anything_76 rfl 1 rfl ?_
  refine z_icmp_gt (tgt := 125) dX12_anything_77 (by decide) (fun q => ?_) (fun q => ?_)
  · have h := (if_pos q).symm.trans h
    refine Z.lv [0, 1, 2, 3, 4, 5, 6, 7] rfl ?_
    exact zb_X12_anything_125 hrc61 h
  · have h := (if_neg q).symm.trans h
    refine z_iload dX12_anything_80 7 rfl ?_
    refine z_if_ne (tgt := 125) dX12_anything_82 (by decide) (fun q => ?_) (fun q => ?_)
    · have h := (if_neg q).symm.trans h
      refine Z.lv [0, 1, 2, 3, 4, 5, 6, 7] rfl ?_
      exact zb_X12_anything_125 hrc61 h
    · have h := (if_pos q).symm.trans h
      refine z_iconst (v := 1) dX12_anything_85 (by decide) ?_
      refine z_istore (lv' := [(1, .int (x1)), (2, .int (x2)), (3, .int (x3)), (4, .int (x4)), (5, .int (x5)), (6, .int (x6)), (7, .int (x7)), (8, .int (x8)), (9, .int (x9)), (10, .int (1))]) dX12_anything_86 (by decide) [1, 2, 3, 4, 5, 6, 7, 8, 9, 0] rfl ?_
      exact zl_X12_anything_88 hrc61 hrc74 FU h
def F_X12_anything_74 (rc61 : Int32 → Int32 → Int32 → Int32 → Int32 → Int32 → Int32 → Mm → Option (Int32 × Mm)) : Nat → Int32 → Int32 → Int32 → Int32 → Int32 → Int32 → Int32 → Int32 → Int32 → Mm → Option (Int32 × Mm)
  | 0 => fun _ _ _ _ _ _ _ _ _ _ => none
  | n + 1 => B_X12_anything_74 rc61 (F_X12_anything_74 rc61 n)
theorem zl_X12_anything_74 {S : Shp} {rc61 : Int32 → Int32 → Int32 → Int32 → Int32 → Int32 → Int32 → Mm → Option (Int32 × Mm)} (hrc61 : ∀ {x1 : Int32} {x2 : Int32} {x3 : Int32} {x4 : Int32} {x5 : Int32} {x6 : Int32} {x7 : Int32} {σ : Mm} {r : Int32 × Mm}, rc61 x1 x2 x3 x4 x5 x6 x7 σ = some r → Z m_X12_anything S (Qi r) 61 [(1, .int (x1)), (2, .int (x2)), (3, .int (x3)), (4, .int (x4)), (5, .int (x5)), (6, .int (x6)), (7, .int (x7))] [] σ) : ∀ (nn : Nat) {x1 : Int32} {x2 : Int32} {x3 : Int32} {x4 : Int32} {x5 : Int32} {x6 : Int32} {x7 : Int32} {x8 : Int32} {x9 : Int32} {σ : Mm} {r : Int32 × Mm}, F_X12_anything_74 rc61 nn x1 x2 x3 x4 x5 x6 x7 x8 x9 σ = some r → Z m_X12_anything S (Qi r) 74 [(1, .int (x1)), (2, .int (x2)), (3, .int (x3)), (4, .int (x4)), (5, .int (x5)), (6, .int (x6)), (7, .int (x7)), (8, .int (x8)), (9, .int (x9))] [] σ := by
  intro nn
  induction nn with
  | zero => intro x1 x2 x3 x4 x5 x6 x7 x8 x9 σ r h; cases h
  | succ nn ih => intro x1 x2 x3 x4 x5 x6 x7 x8 x9 σ r h; exact zB_X12_anything_74 hrc61 @ih h
def B_X12_anything_61 (rc61 : Int32 → Int32 → Int32 → Int32 → Int32 → Int32 → Int32 → Mm → Option (Int32 × Mm)) (x1 : Int32) (x2 : Int32) (x3 : Int32) (x4 : Int32) (x5 : Int32) (x6 : Int32) (x7 : Int32) (σ : Mm) : Option (Int32 × Mm) := (if x5 < x7 then some (x6, σ) else (F_X12_anything_74 rc61 FU x1 x2 x3 x4 x5 x6 x7 0 1 σ))
set_option maxRecDepth 20000 in
theorem zB_X12_anything_61 {S : Shp} {rc61 : Int32 → Int32 → Int32 → Int32 → Int32 → Int32 → Int32 → Mm → Option (Int32 × Mm)} (hrc61 : ∀ {x1 : Int32} {x2 : Int32} {x3 : Int32} {x4 : Int32} {x5 : Int32} {x6 : Int32} {x7 : Int32} {σ : Mm} {r : Int32 × Mm}, rc61 x1 x2 x3 x4 x5 x6 x7 σ = some r → Z m_X12_anything S (Qi r) 61 [(1, .int (x1)), (2, .int (x2)), (3, .int (x3)), (4, .int (x4)), (5, .int (x5)), (6, .int (x6)), (7, .int (x7))] [] σ) {x1 : Int32} {x2 : Int32} {x3 : Int32} {x4 : Int32} {x5 : Int32} {x6 : Int32} {x7 : Int32} {σ : Mm} {r : Int32 × Mm} (h : B_X12_anything_61 rc61 x1 x2 x3 x4 x5 x6 x7 σ = some r) : Z m_X12_anything S (Qi r) 61 [(1, .int (x1)), (2, .int (x2)), (3, .int (x3)), (4, .int (x4)), (5, .int (x5)), (6, .int (x6)), (7, .int (x7))] [] σ := by
  unfold B_X12_anything_61 at h
  refine z_iload dX12_anything_61 6 rfl ?_
  refine z_iload dX12_anything_63 4 rfl ?_
  refine z_icmp_gt (tgt := 146) dX12_anything_65 (by decide) (fun q => ?_) (fun q => ?_)
  · have h := (if_pos q).symm.trans h
    refine z_iload dX12_anything_146 5 rfl ?_
    cases h
    exact z_ireturn dX12_anything_148 rfl rfl ⟨rfl, rfl⟩
  · have h := (if_neg q).symm.trans h
    refine z_iconst (v := 0) dX12_anything_68 (by decide) ?_
    refine z_istore (lv' := [(1, .int (x1)), (2, .int (x2)), (3, .int (x3)), (4, .int (x4)), (5, .int (x5)), (6, .int (x6)), (7, .int (x7)), (8, .int (0))]) dX12_anything_69 (by decide) [1, 2, 3, 4, 5, 6, 7, 0] rfl ?_
    refine z_iconst (v := 1) dX12_anything_71 (by decide) ?_
    refine z_istore (lv' := [(1, .int (x1)), (2, .int (x2)), (3, .int (x3)), (4, .int (x4)), (5, .int (x5)), (6, .int (x6)), (7, .int (x7)), (8, .int (0)), (9, .int (1))]) dX12_anything_72 (by decide) [1, 2, 3, 4, 5, 6, 7, 8, 0] rfl ?_
    exact zl_X12_anything_74 hrc61 FU h
def F_X12_anything_61 : Nat → Int32 → Int32 → Int32 → Int32 → Int32 → Int32 → Int32 → Mm → Option (Int32 × Mm)
  | 0 => fun _ _ _ _ _ _ _ _ => none
  | n + 1 => B_X12_anything_61 (F_X12_anything_61 n)
theorem zl_X12_anything_61 {S : Shp} : ∀ (nn : Nat) {x1 : Int32} {x2 : Int32} {x3 : Int32} {x4 : Int32} {x5 : Int32} {x6 : Int32} {x7 : Int32} {σ : Mm} {r : Int32 × Mm}, F_X12_anything_61 nn x1 x2 x3 x4 x5 x6 x7 σ = some r → Z m_X12_anything S (Qi r) 61 [(1, .int (x1)), (2, .int (x2)), (3, .int (x3)), (4, .int (x4)), (5, .int (x5)), (6, .int (x6)), (7, .int (x7))] [] σ := by
  intro nn
  induction nn with
  | zero => intro x1 x2 x3 x4 x5 x6 x7 σ r h; cases h
  | succ nn ih => intro x1 x2 x3 x4 x5 x6 x7 σ r h; exact zB_X12_anything_61 @ih h
def F_X12_anything (x1 : Int32) (x2 : Int32) (x3 : Int32) (x4 : Int32) (x5 : Int32) (σ : Mm) : Option (Int32 × Mm) := (if (f_X12_isIn x1 1 100) = 0 then some ((-1), σ) else (if (f_X12_isIn x2 1 20) = 0 then some ((-1), σ) else (if (f_X12_isIn x3 1 20) = 0 then some ((-1), σ) else (if (f_X12_isIn x4 0 9) = 0 then some ((-1), σ) else (if (f_X12_isIn x5 1 2000) = 0 then some ((-1), σ) else (F_X12_anything_61 FU x1 x2 x3 x4 x5 0 1 σ))))))
set_option maxRecDepth 20000 in
theorem zb_X12_anything {S : Shp} {x1 : Int32} {x2 : Int32} {x3 : Int32} {x4 : Int32} {x5 : Int32} {σ : Mm} {r : Int32 × Mm} (h : F_X12_anything x1 x2 x3 x4 x5 σ = some r) : Z m_X12_anything S (Qi r) 0 [(0, .ref (sL S 3 0 0)), (1, .int (x1)), (2, .int (x2)), (3, .int (x3)), (4, .int (x4)), (5, .int (x5))] [] σ := by
  unfold F_X12_anything at h
  refine z_iload_n dX12_anything_0 rfl 1 rfl ?_
  refine z_iconst (v := 1) dX12_anything_1 (by decide) ?_
  refine z_bipush (v := 100) dX12_anything_2 (by decide) ?_
  refine z_callS (M' := m_X12_isIn) (As := [.int (x1), .int (1), .int (100)]) (rest := []) kl_12_407 oy_X12_isIn ⟨Nat.le_of_ble_eq_true rfl, Nat.le_of_ble_eq_true rfl⟩ rfl (Nat.le_of_ble_eq_true rfl) rfl dX12_anything_4 (c_X12_isIn rfl) (fun v τ hq => ?_)
  obtain ⟨rfl, hτ⟩ := hq
  subst τ
  change Z _ _ _ _ _ [.int (f_X12_isIn x1 1 100)] _
  refine z_if_eq (tgt := 53) dX12_anything_7 (by decide) (fun q => ?_) (fun q => ?_)
  · have h := (if_pos q).symm.trans h
    refine z_iconst (v := (-1)) dX12_anything_53 (by decide) ?_
    cases h
    exact z_ireturn dX12_anything_54 rfl rfl ⟨rfl, rfl⟩
  · have h := (if_neg q).symm.trans h
    refine z_iload_n dX12_anything_10 rfl 2 rfl ?_
    refine z_iconst (v := 1) dX12_anything_11 (by decide) ?_
    refine z_bipush (v := 20) dX12_anything_12 (by decide) ?_
    refine z_callS (M' := m_X12_isIn) (As := [.int (x2), .int (1), .int (20)]) (rest := []) kl_12_407 oy_X12_isIn ⟨Nat.le_of_ble_eq_true rfl, Nat.le_of_ble_eq_true rfl⟩ rfl (Nat.le_of_ble_eq_true rfl) rfl dX12_anything_14 (c_X12_isIn rfl) (fun v τ hq => ?_)
    obtain ⟨rfl, hτ⟩ := hq
    subst τ
    change Z _ _ _ _ _ [.int (f_X12_isIn x2 1 20)] _
    refine z_if_eq (tgt := 53) dX12_anything_17 (by decide) (fun q => ?_) (fun q => ?_)
    · have h := (if_pos q).symm.trans h
      refine z_iconst (v := (-1)) dX12_anything_53 (by decide) ?_
      cases h
      exact z_ireturn dX12_anything_54 rfl rfl ⟨rfl, rfl⟩
    · have h := (if_neg q).symm.trans h
      refine z_iload_n dX12_anything_20 rfl 3 rfl ?_
      refine z_iconst (v := 1) dX12_anything_21 (by decide) ?_
      refine z_bipush (v := 20) dX12_anything_22 (by decide) ?_
      refine z_callS (M' := m_X12_isIn) (As := [.int (x3), .int (1), .int (20)]) (rest := []) kl_12_407 oy_X12_isIn ⟨Nat.le_of_ble_eq_true rfl, Nat.le_of_ble_eq_true rfl⟩ rfl (Nat.le_of_ble_eq_true rfl) rfl dX12_anything_24 (c_X12_isIn rfl) (fun v τ hq => ?_)
      obtain ⟨rfl, hτ⟩ := hq
      subst τ
      change Z _ _ _ _ _ [.int (f_X12_isIn x3 1 20)] _
      refine z_if_eq (tgt := 53) dX12_anything_27 (by decide) (fun q => ?_) (fun q => ?_)
      · have h := (if_pos q).symm.trans h
        refine z_iconst (v := (-1)) dX12_anything_53 (by decide) ?_
        cases h
        exact z_ireturn dX12_anything_54 rfl rfl ⟨rfl, rfl⟩
      · have h := (if_neg q).symm.trans h
        refine z_iload dX12_anything_30 4 rfl ?_
        refine z_iconst (v := 0) dX12_anything_32 (by decide) ?_
        refine z_bipush (v := 9) dX12_anything_33 (by decide) ?_
        refine z_callS (M' := m_X12_isIn) (As := [.int (x4), .int (0), .int (9)]) (rest := []) kl_12_407 oy_X12_isIn ⟨Nat.le_of_ble_eq_true rfl, Nat.le_of_ble_eq_true rfl⟩ rfl (Nat.le_of_ble_eq_true rfl) rfl dX12_anything_35 (c_X12_isIn rfl) (fun v τ hq => ?_)
        obtain ⟨rfl, hτ⟩ := hq
        subst τ
        change Z _ _ _ _ _ [.int (f_X12_isIn x4 0 9)] _
        refine z_if_eq (tgt := 53) dX12_anything_38 (by decide) (fun q => ?_) (fun q => ?_)
        · have h := (if_pos q).symm.trans h
          refine z_iconst (v := (-1)) dX12_anything_53 (by decide) ?_
          cases h
          exact z_ireturn dX12_anything_54 rfl rfl ⟨rfl, rfl⟩
        · have h := (if_neg q).symm.trans h
          refine z_iload dX12_anything_41 5 rfl ?_
          refine z_iconst (v := 1) dX12_anything_43 (by decide) ?_
          refine z_sipush (v := 2000) dX12_anything_44 (by decide) ?_
          refine z_callS (M' := m_X12_isIn) (As := [.int (x5), .int (1), .int (2000)]) (rest := []) kl_12_407 oy_X12_isIn ⟨Nat.le_of_ble_eq_true rfl, Nat.le_of_ble_eq_true rfl⟩ rfl (Nat.le_of_ble_eq_true rfl) rfl dX12_anything_47 (c_X12_isIn rfl) (fun v τ hq => ?_)
          obtain ⟨rfl, hτ⟩ := hq
          subst τ
          change Z _ _ _ _ _ [.int (f_X12_isIn x5 1 2000)] _
          refine z_if_ne (tgt := 55) dX12_anything_50 (by decide) (fun q => ?_) (fun q => ?_)
          · have h := (if_neg q).symm.trans h
            refine z_iconst (v := 0) dX12_anything_55 (by decide) ?_
            refine z_istore (lv' := [(0, .ref (sL S 3 0 0)), (1, .int (x1)), (2, .int (x2)), (3, .int (x3)), (4, .int (x4)), (5, .int (x5)), (6, .int (0))]) dX12_anything_56 (by decide) [1, 2, 3, 4, 5, 6, 0] rfl ?_
            refine z_iconst (v := 1) dX12_anything_58 (by decide) ?_
            refine z_istore (lv' := [(0, .ref (sL S 3 0 0)), (1, .int (x1)), (2, .int (x2)), (3, .int (x3)), (4, .int (x4)), (5, .int (x5)), (6, .int (0)), (7, .int (1))]) dX12_anything_59 (by decide) [1, 2, 3, 4, 5, 6, 7, 0] rfl ?_
            refine Z.lv [1, 2, 3, 4, 5, 6, 7] rfl ?_
            exact zl_X12_anything_61 FU h
          · have h := (if_pos q).symm.trans h
            refine z_iconst (v := (-1)) dX12_anything_53 (by decide) ?_
            cases h
            exact z_ireturn dX12_anything_54 rfl rfl ⟨rfl, rfl⟩
/-- SkyStonesModel.anything(IIIII)I -/
theorem c_X12_anything {S : Shp} {x1 : Int32} {x2 : Int32} {x3 : Int32} {x4 : Int32} {x5 : Int32} {σ : Mm} {r : Int32 × Mm} (h : F_X12_anything x1 x2 x3 x4 x5 σ = some r) : Ct m_X12_anything S [.ref (sL S 3 0 0), .int (x1), .int (x2), .int (x3), .int (x4), .int (x5)] σ (Qi r) := Ct.of (by decide +kernel) (Nat.le_of_ble_eq_true rfl) (zb_X12_anything h)
