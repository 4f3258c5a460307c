theorem law_in {i L : Nat} (hL : L ≤ 3584) (hiL : i ≤ L + 7) (q : ¬ Int32.ofNat L - 7 < nI i) : i + 7 ≤ L := by
  apply Nat.le_of_not_lt
  intro h
  apply q
  rw [Int32.lt_iff_toInt_lt, nI_toInt (by omega), show Int32.ofNat L - 7 = nI L - nI 7 from rfl, pk_sub_toInt (by omega) (by omega)]
  omega
/-! hold as a pure function; one step of the law as a pure statement; the law's loop out of any invariant that the step keeps -/
def iniT (σ : Mm) (i : Nat) : Mm := (fun t i' k => if t = 1 ∧ i' = i then (if k = 0 then (fun f => if f = 0 then 2 else 0) else (fun _ => 0)) else mA σ t i' k, mL σ, mP σ)
def iniS (σ : Mm) (i : Nat) : Mm := (fun t i' k => if t = 2 ∧ i' = i then (fun _ => 0) else mA σ t i' k, mL σ, mP σ)
def F_hold (h : Nat → Bool) (x : Int32) (σ : Mm) : Option (Int32 × (Nat → Bool) × Mm) :=
  if x < 0 then some (0, h, σ) else if 3 ≤ x then some (0, h, σ) else
  (fun σ0 : Mm => if okP σ0 = true then bnv (F_X9_copy (2 + x.toNatClampNeg) (mP σ0 0) σ0) (fun τ => bnv (F_X7_copy (1 + x.toNatClampNeg) 0 τ) (fun υ => some (1, (fun a => if a = x.toNatClampNeg then true else h a), υ))) else none)
    (if h x.toNatClampNeg = true then σ else iniS (iniT σ (2 + x.toNatClampNeg)) (1 + x.toNatClampNeg))
def nh (h : Nat → Bool) : Nat := (if h 0 then 1 else 0) + ((if h 1 then 1 else 0) + (if h 2 then 1 else 0))
def stp (I : (Nat → Bool) → Mm → Prop) (h : Nat → Bool) (σ : Mm) (k : Nat) (a1 a2 a3 a4 a5 a6 : Int32) : Prop := match k with
  | 0 => ∃ (r : Int32) (σ1 : Mm) (σ2 : Mm), F_X11_feed a1 a2 a3 a4 a5 σ = some (r, σ1) ∧ F_X12_feed a1 a2 a3 a4 a5 σ1 = some (r, σ2) ∧ I h σ2
  | 1 => ∃ (r : Int32) (σ1 : Mm) (σ2 : Mm), F_X11_back a1 σ = some (r, σ1) ∧ F_X12_back a1 σ1 = some (r, σ2) ∧ I h σ2
  | 2 => ∃ (r : Int32) (σ1 : Mm) (σ2 : Mm), F_X11_read σ = some (r, σ1) ∧ F_X12_read σ1 = some (r, σ2) ∧ I h σ2
  | 3 => ∃ (r : Int32), f_X11_place σ = r ∧ okP σ = true ∧ f_X12_place σ = r ∧ okP σ = true ∧ I h σ
  | 4 => ∃ (r : Int32) (σ1 : Mm) (σ2 : Mm), F_X11_found a1 a2 a3 σ = some (r, σ1) ∧ F_X12_found a1 a2 a3 σ1 = some (r, σ2) ∧ I h σ2
  | 5 => ∃ (r : Int32) (σ1 : Mm) (σ2 : Mm), F_X11_move a1 a2 a3 σ = some (r, σ1) ∧ F_X12_move a1 a2 a3 σ1 = some (r, σ2) ∧ I h σ2
  | 6 => ∃ (r : Int32) (σ1 : Mm) (σ2 : Mm), F_X11_gone a1 σ = some (r, σ1) ∧ F_X12_gone a1 σ1 = some (r, σ2) ∧ I h σ2
  | 7 => ∃ (r : Int32) (σ1 : Mm) (σ2 : Mm), F_X11_date a1 a2 σ = some (r, σ1) ∧ F_X12_date a1 a2 σ1 = some (r, σ2) ∧ I h σ2
  | 8 => ∃ (r : Int32) (σ1 : Mm) (σ2 : Mm), F_X11_annul a1 σ = some (r, σ1) ∧ F_X12_annul a1 σ1 = some (r, σ2) ∧ I h σ2
  | 9 => ∃ (r : Int32) (σ1 : Mm) (σ2 : Mm), F_X11_thing a1 a2 a3 σ = some (r, σ1) ∧ F_X12_thing a1 a2 a3 σ1 = some (r, σ2) ∧ I h σ2
  | 10 => ∃ (r : Int32) (σ1 : Mm) (σ2 : Mm), F_X11_degree a1 a2 σ = some (r, σ1) ∧ F_X12_degree a1 a2 σ1 = some (r, σ2) ∧ I h σ2
  | 11 => ∃ (r : Int32), f_X11_vector a1 a2 σ = r ∧ okP σ = true ∧ f_X12_vector a1 a2 σ = r ∧ okP σ = true ∧ I h σ
  | 12 => ∃ (r : Int32) (σ1 : Mm) (σ2 : Mm), F_X11_line a1 a2 a3 σ = some (r, σ1) ∧ F_X12_line a1 a2 a3 σ1 = some (r, σ2) ∧ I h σ2
  | 13 => ∃ (r : Int32) (σ1 : Mm) (σ2 : Mm), F_X11_lines (if a1 = 0 then 0 else 1) a2 σ = some (r, σ1) ∧ F_X12_lines (if a1 = 0 then 0 else 1) a2 σ1 = some (r, σ2) ∧ I h σ2
  | 14 => ∃ (r : Int32) (σ1 : Mm) (σ2 : Mm), F_X11_height a1 σ = some (r, σ1) ∧ F_X12_height a1 σ1 = some (r, σ2) ∧ I h σ2
  | 15 => ∃ (r : Int32) (σ1 : Mm) (σ2 : Mm), F_X11_rise a1 a2 σ = some (r, σ1) ∧ F_X12_rise a1 a2 σ1 = some (r, σ2) ∧ I h σ2
  | 16 => ∃ (r : Int32) (σ1 : Mm) (σ2 : Mm), F_X11_hit a1 a2 a3 a4 σ = some (r, σ1) ∧ F_X12_hit a1 a2 a3 a4 σ1 = some (r, σ2) ∧ I h σ2
  | 17 => ∃ (r : Int32) (σ1 : Mm) (σ2 : Mm), F_X11_hits a1 a2 a3 (if a4 = 0 then 0 else 1) a5 σ = some (r, σ1) ∧ F_X12_hits a1 a2 a3 (if a4 = 0 then 0 else 1) a5 σ1 = some (r, σ2) ∧ I h σ2
  | 18 => ∃ (r : Int32) (σ1 : Mm) (σ2 : Mm), F_X11_hitAt a1 a2 (if a3 = 0 then 0 else 1) a4 a5 σ = some (r, σ1) ∧ F_X12_hitAt a1 a2 (if a3 = 0 then 0 else 1) a4 a5 σ1 = some (r, σ2) ∧ I h σ2
  | 19 => ∃ (r : Int32) (σ1 : Mm) (σ2 : Mm), F_X11_many a1 a2 a3 σ = some (r, σ1) ∧ F_X12_many a1 a2 a3 σ1 = some (r, σ2) ∧ I h σ2
  | 20 => ∃ (r : Int32) (σ1 : Mm) (σ2 : Mm), F_X11_allHits a1 a2 a3 σ = some (r, σ1) ∧ F_X12_allHits a1 a2 a3 σ1 = some (r, σ2) ∧ I h σ2
  | 21 => ∃ (r : Int32) (σ1 : Mm) (σ2 : Mm), F_X11_alone a1 a2 a3 σ = some (r, σ1) ∧ F_X12_alone a1 a2 a3 σ1 = some (r, σ2) ∧ I h σ2
  | 22 => ∃ (r : Int32) (σ1 : Mm) (σ2 : Mm), F_X11_striking a1 a2 a3 σ = some (r, σ1) ∧ F_X12_striking a1 a2 a3 σ1 = some (r, σ2) ∧ I h σ2
  | 23 => ∃ (r : Int32) (σ1 : Mm) (σ2 : Mm), F_X11_price a1 a2 σ = some (r, σ1) ∧ F_X12_price a1 a2 σ1 = some (r, σ2) ∧ I h σ2
  | 24 => ∃ (r : Int32) (σ1 : Mm) (σ2 : Mm), F_X11_story a1 a2 a3 a4 a5 σ = some (r, σ1) ∧ F_X12_story a1 a2 a3 a4 a5 σ1 = some (r, σ2) ∧ I h σ2
  | 25 => ∃ (r : Int32) (σ1 : Mm) (σ2 : Mm), F_X11_otherwise a1 a2 a3 a4 σ = some (r, σ1) ∧ F_X12_otherwise a1 a2 a3 a4 σ1 = some (r, σ2) ∧ I h σ2
  | 26 => ∃ (r : Int32) (σ1 : Mm) (σ2 : Mm), F_X11_free a1 a2 a3 a4 a5 σ = some (r, σ1) ∧ F_X12_free a1 a2 a3 a4 a5 σ1 = some (r, σ2) ∧ I h σ2
  | 27 => ∃ (r : Int32) (σ1 : Mm) (σ2 : Mm), F_X11_freer a1 a2 a3 a4 a5 a6 σ = some (r, σ1) ∧ F_X12_freer a1 a2 a3 a4 a5 a6 σ1 = some (r, σ2) ∧ I h σ2
  | 28 => ∃ (r : Int32) (σ1 : Mm) (σ2 : Mm), F_X11_next a1 a2 a3 σ = some (r, σ1) ∧ F_X12_next a1 a2 a3 σ1 = some (r, σ2) ∧ I h σ2
  | 29 => ∃ (r : Int32) (σ1 : Mm) (σ2 : Mm), F_X11_site a1 a2 σ = some (r, σ1) ∧ F_X12_site a1 a2 σ1 = some (r, σ2) ∧ I h σ2
  | 30 => ∃ (r : Int32) (σ1 : Mm) (σ2 : Mm), F_X11_clear σ = some (r, σ1) ∧ F_X12_clear σ1 = some (r, σ2) ∧ I h σ2
  | 31 => ∃ (r : Int32) (σ1 : Mm) (σ2 : Mm), F_X11_pointing a1 a2 (if a3 = 0 then 0 else 1) σ = some (r, σ1) ∧ F_X12_pointing a1 a2 (if a3 = 0 then 0 else 1) σ1 = some (r, σ2) ∧ I h σ2
  | 32 => ∃ (r : Int64) (σ1 : Mm) (σ2 : Mm), F_X11_chance a1 a2 σ = some (r, σ1) ∧ F_X12_chance a1 a2 σ1 = some (r, σ2) ∧ I h σ2
  | 33 => ∃ (r : Int32) (σ1 : Mm) (σ2 : Mm), F_X11_made a1 a2 a3 σ = some (r, σ1) ∧ F_X12_made a1 a2 a3 σ1 = some (r, σ2) ∧ I h σ2
  | 34 => ∃ (r : Int32) (σ1 : Mm) (σ2 : Mm), F_X11_madeAt a1 a2 a3 a4 a5 σ = some (r, σ1) ∧ F_X12_madeAt a1 a2 a3 a4 a5 σ1 = some (r, σ2) ∧ I h σ2
  | 35 => ∃ (r : Int32) (σ1 : Mm) (σ2 : Mm), F_X11_odds a1 a2 a3 a4 a5 σ = some (r, σ1) ∧ F_X12_odds a1 a2 a3 a4 a5 σ1 = some (r, σ2) ∧ I h σ2
  | 36 => ∃ (r : Int32), f_X11_counts a1 a2 a3 a4 a5 σ = r ∧ okP σ = true ∧ f_X12_counts a1 a2 a3 a4 a5 σ = r ∧ okP σ = true ∧ I h σ
  | 37 => ∃ (r : Int32) (σ1 : Mm) (σ2 : Mm), F_X11_anything a1 a2 a3 a4 a5 σ = some (r, σ1) ∧ F_X12_anything a1 a2 a3 a4 a5 σ1 = some (r, σ2) ∧ I h σ2
  | 38 => ∃ (r : Int32) (σ1 : Mm) (σ2 : Mm), F_X11_life a1 a2 a3 a4 σ = some (r, σ1) ∧ F_X12_life a1 a2 a3 a4 σ1 = some (r, σ2) ∧ I h σ2
  | 39 => ∃ (r : Int64) (σ1 : Mm) (σ2 : Mm), F_X11_seen a1 a2 a3 a4 σ = some (r, σ1) ∧ F_X12_seen a1 a2 a3 a4 σ1 = some (r, σ2) ∧ I h σ2
  | 40 => ∃ (r : Int32) (σ1 : Mm) (σ2 : Mm), F_X11_say a1 a2 a3 σ = some (r, σ1) ∧ F_X12_say a1 a2 a3 σ1 = some (r, σ2) ∧ I h σ2
  | 41 => ∃ (r : Int32) (h1 : Nat → Bool) (σ1 σ2 : Mm), F_hold h a1 σ = some (r, h1, σ1) ∧ F_X12_hold a1 σ1 = some (r, σ2) ∧ I h1 σ2
  | 42 => ∃ (r : Int32) (σ1 : Mm) (σ2 : Mm), F_X11_again h a1 σ = some (r, σ1) ∧ F_X12_again a1 σ1 = some (r, σ2) ∧ I h σ2
  | 43 => ∃ (r : Int32) (σ1 : Mm) (σ2 : Mm), F_X11_count h a1 σ = some (r, σ1) ∧ F_X12_count a1 σ1 = some (r, σ2) ∧ I h σ2
  | _ => I h σ
