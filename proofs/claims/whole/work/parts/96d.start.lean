/-! the start: the cells that the constructors made, as the layout has them -/
def ids0 : List (Nat × Nat × Nat) := (List.range 43).map (fun k => (0, 0, k)) ++ ((List.range 16).map (fun k => (1, 0, k)) ++ ((List.range 16).map (fun k => (1, 1, k)) ++ (List.range 6).map (fun k => (2, 0, k))))
def ids3 : List (Nat × Nat × Nat) := (List.range 68).map (fun k => (3, 0, k))
set_option maxRecDepth 100000 in
theorem ids_no : ids (fun _ => false) = ids0 ++ ids3 := by decide +kernel
abbrev U11 : Type := (Nat → Nat) × (Nat → Nat) × ((Nat → Nat) × (Nat → Nat)) × ((Nat → Nat) × (Nat → Nat)) × (Nat → Nat) × (Nat → Nat) × (Nat → Nat) × (Nat → Nat) × (Nat → Nat) × (Nat → Nat) × (Nat → Nat)
def slI (h0 : Nat) (u : U11) : Nat → Nat → Nat → Nat := fun t i k => match t with
  | 0 => ([h0, u.1 5, u.1 6, u.1 12, u.1 13, u.1 14,
      u.1 0, u.2.1 0, u.2.1 1, u.2.1 2, u.2.1 3, u.2.1 4,
      u.1 3, u.2.2.2.2.1 0, u.2.2.2.2.1 1,
      u.1 7, u.2.2.2.2.2.2.1 0, u.2.2.2.2.2.2.1 1, u.2.2.2.2.2.2.1 2, u.2.2.2.2.2.2.1 3, u.2.2.2.2.2.2.1 4, u.2.2.2.2.2.2.1 5, u.2.2.2.2.2.2.1 6, u.2.2.2.2.2.2.1 7, u.2.2.2.2.2.2.1 8,
      u.1 8, u.2.2.2.2.2.2.2.1 0, u.2.2.2.2.2.2.2.1 1, u.2.2.2.2.2.2.2.1 2,
      u.1 9, u.2.2.2.2.2.2.2.2.1 0, u.2.2.2.2.2.2.2.2.1 1, u.2.2.2.2.2.2.2.2.1 2, u.2.2.2.2.2.2.2.2.1 3, u.2.2.2.2.2.2.2.2.1 4, u.2.2.2.2.2.2.2.2.1 5, u.2.2.2.2.2.2.2.2.1 6,
      u.1 10, u.2.2.2.2.2.2.2.2.2.1 0, u.2.2.2.2.2.2.2.2.2.1 1,
      u.1 11, u.2.2.2.2.2.2.2.2.2.2 0, u.2.2.2.2.2.2.2.2.2.2 1] : List Nat).getD k 0
  | 1 => match i with
    | 0 => ([u.1 1, u.2.2.1.1 0, u.2.2.1.1 1, u.2.2.1.1 2, u.2.2.1.1 3, u.2.2.1.1 4, u.2.2.1.1 5, u.2.2.1.1 6, u.2.2.1.1 7, u.2.2.1.1 8, u.2.2.1.1 9, u.2.2.1.2 0, u.2.2.1.2 1, u.2.2.1.2 2, u.2.2.1.2 3, u.2.2.1.2 4] : List Nat).getD k 0
    | _ => ([u.1 2, u.2.2.2.1.1 0, u.2.2.2.1.1 1, u.2.2.2.1.1 2, u.2.2.2.1.1 3, u.2.2.2.1.1 4, u.2.2.2.1.1 5, u.2.2.2.1.1 6, u.2.2.2.1.1 7, u.2.2.2.1.1 8, u.2.2.2.1.1 9, u.2.2.2.1.2 0, u.2.2.2.1.2 1, u.2.2.2.1.2 2, u.2.2.2.1.2 3, u.2.2.2.1.2 4] : List Nat).getD k 0
  | 2 => ([u.1 4, u.2.2.2.2.2.1 0, u.2.2.2.2.2.1 1, u.2.2.2.2.2.1 2, u.2.2.2.2.2.1 3, u.2.2.2.2.2.1 4] : List Nat).getD k 0
  | _ => 0
/-- the shape without the model's cells -/
def S0of (E : Nat → ClassId) (D : va_G) (K V B h0 : Nat) (u : U11) : Shp := (E, D, slI h0 u, fun _ => false, K, V, B)
def S3of (S : Shp) (h : Nat) (a : Nat → Nat) : Shp := (sE S, sD S, fun t i k => match t with
  | 3 => if k = 0 then h else a (k - 1)
  | t => sL S t i k, sH S, sK S, sV S, sB S)
def wr0 (S : Shp) : va_W := ids0.map (cl S sgI)
theorem pm16 {α : Type} {T A B R V x1 x2 G K U P M x3 x4 x5 : List α} : ((((((((((((((([] ++ T) ++ A) ++ B) ++ R) ++ V) ++ x1) ++ x2) ++ G) ++ K) ++ U) ++ P) ++ M) ++ x3) ++ x4) ++ x5).Perm (((x1 ++ (x2 ++ (x3 ++ (x4 ++ x5)))) ++ (T ++ (R ++ (G ++ (K ++ (U ++ (P ++ M))))))) ++ (A ++ (B ++ V))) := by
  classical
  rw [List.perm_iff_count]
  intro a
  simp only [List.count_append, List.count_nil]
  omega
set_option maxRecDepth 100000 in
set_option maxHeartbeats 4000000 in
theorem wr0_eq {E : Nat → ClassId} {D : va_G} {K V B h0 : Nat} {u : U11} : wr0 (S0of E D K V B h0 u) = (h0, .inr (10, [.ref (u.1 0), .ref (u.1 1), .ref (u.1 2), .ref (u.1 3), .ref (u.1 4), .ref (u.1 5), .ref (u.1 6), .ref (u.1 7), .ref (u.1 8), .ref (u.1 9), .ref (u.1 10), .ref (u.1 11), .int 0, .ref (u.1 12), .ref (u.1 13), .ref (u.1 14)])) ::
    ((([(u.1 5, .inl (E 4, 3, .inr (.inr (.inr (.inr (fun _ => none))))))] ++ ([(u.1 6, .inl (E 5, 3, .inr (.inr (.inr (.inr (fun _ => none))))))] ++ ([(u.1 12, .inl (E 0, 6, .inl fun _ => 0))] ++ ([(u.1 13, .inl (E 0, 6, .inl fun _ => 0))] ++ [(u.1 14, .inl (E 2, 2001, .inl fun _ => 0))])))) ++
      (CSX8 (S0of E D K V B h0 u) (u.1 0) u.2.1 ++ (CSX5 (S0of E D K V B h0 u) (u.1 0) (u.1 2) (u.1 3) u.2.2.2.2.1 ++ (CSX2 (S0of E D K V B h0 u) (u.1 7) u.2.2.2.2.2.2.1 ++ (CSX6 (S0of E D K V B h0 u) (u.1 8) u.2.2.2.2.2.2.2.1 ++ (CSX10 (S0of E D K V B h0 u) (u.1 9) u.2.2.2.2.2.2.2.2.1 ++ (CSX4 (S0of E D K V B h0 u) (u.1 10) u.2.2.2.2.2.2.2.2.2.1 ++ CSX3 (S0of E D K V B h0 u) (u.1 11) u.2.2.2.2.2.2.2.2.2.2))))))) ++
      (CSX9 (S0of E D K V B h0 u) (u.1 1) u.2.2.1 ++ (CSX9 (S0of E D K V B h0 u) (u.1 2) u.2.2.2.1 ++ CSX7 (S0of E D K V B h0 u) (u.1 4) u.2.2.2.2.2.1))) := by
  rfl
theorem start_perm {E : Nat → ClassId} {D : va_G} {K V B h0 : Nat} {u : U11} : (CSX11 (S0of E D K V B h0 u) h0 u).Perm (wr0 (S0of E D K V B h0 u)) := by
  rw [wr0_eq]
  exact List.Perm.cons _ pm16
theorem cl_S3 {S : Shp} {h : Nat} {a : Nat → Nat} {t i k : Nat} (ht : t < 3) : cl (S3of S h a) sgI (t, i, k) = cl S sgI (t, i, k) := by
  match t, ht with
  | 0, _ => rfl
  | 1, _ => rfl
  | 2, _ => rfl
theorem ids0_lt : ∀ z ∈ ids0, z.1 < 3 := by decide +kernel
set_option maxRecDepth 100000 in
theorem cM_0 {S : Shp} {h : Nat} {a : Nat → Nat} : cl (S3of S h a) sgI (3, 0, 0) = (h, .inr (11, [.int 0, .ref (a 0), .int 0, .ref (a 1), .ref (a 2), .ref (a 3), .ref (a 4), .int 0, .int 0, .int (-1), .int 0, .int 0, .ref (a 5), .ref (a 6), .ref (a 7), .ref (a 8), .ref (a 9), .ref (a 10), .ref (a 11), .ref (a 12), .ref (a 13), .ref (a 14), .ref (a 15), .ref (a 16), .ref (a 17), .ref (a 18), .ref (a 19), .ref (a 20), .ref (a 21), .ref (a 22), .ref (a 23), .ref (a 24), .ref (a 25), .ref (a 26), .ref (a 27), .ref (a 28), .ref (a 29), .ref (a 30), .ref (a 31), .ref (a 32), .ref (a 33), .ref (a 34), .ref (a 35), .ref (a 36), .ref (a 37), .ref (a 38), .ref (a 39), .ref (a 40), .ref (a 41), .int 0, .ref (a 42), .ref (a 43), .int 0, .ref (a 44), .ref (a 45), .int 0, .int 0, .ref (a 46), .int 0, .int 0, .ref (a 47), .ref (a 48), .ref (a 49), .ref (a 50), .ref (a 51), .ref (a 52), .ref (a 53), .ref (a 54), .ref (a 55), .int 0, .ref (a 56), .ref (a 57), .ref (a 58), .ref (a 59), .ref (a 60), .ref (a 61), .ref (a 62), .ref (a 63), .ref (a 64), .ref (a 65), .ref (a 66)])) := rfl
theorem cM_1 {S : Shp} {h : Nat} {a : Nat → Nat} : cl (S3of S h a) sgI (3, 0, 1) = (a 0, .inl (sE S 0, 2000, .inl fun _ => 0)) := rfl
theorem cM_2 {S : Shp} {h : Nat} {a : Nat → Nat} : cl (S3of S h a) sgI (3, 0, 2) = (a 1, .inl (sE S 0, 2001, .inl fun _ => 0)) := rfl
theorem cM_3 {S : Shp} {h : Nat} {a : Nat → Nat} : cl (S3of S h a) sgI (3, 0, 3) = (a 2, .inl (sE S 0, 2001, .inl fun _ => 0)) := rfl
theorem cM_4 {S : Shp} {h : Nat} {a : Nat → Nat} : cl (S3of S h a) sgI (3, 0, 4) = (a 3, .inl (sE S 0, 2001, .inl fun _ => 0)) := rfl
theorem cM_5 {S : Shp} {h : Nat} {a : Nat → Nat} : cl (S3of S h a) sgI (3, 0, 5) = (a 4, .inl (sE S 3, 2001, .inr (.inl fun _ => 0))) := rfl
theorem cM_6 {S : Shp} {h : Nat} {a : Nat → Nat} : cl (S3of S h a) sgI (3, 0, 6) = (a 5, .inl (sE S 2, 5, .inl fun _ => 0)) := rfl
theorem cM_7 {S : Shp} {h : Nat} {a : Nat → Nat} : cl (S3of S h a) sgI (3, 0, 7) = (a 6, .inl (sE S 0, 5, .inl fun _ => 0)) := rfl
theorem cM_8 {S : Shp} {h : Nat} {a : Nat → Nat} : cl (S3of S h a) sgI (3, 0, 8) = (a 7, .inl (sE S 0, 5, .inl fun _ => 0)) := rfl
theorem cM_9 {S : Shp} {h : Nat} {a : Nat → Nat} : cl (S3of S h a) sgI (3, 0, 9) = (a 8, .inl (sE S 2, 70, .inl fun _ => 0)) := rfl
theorem cM_10 {S : Shp} {h : Nat} {a : Nat → Nat} : cl (S3of S h a) sgI (3, 0, 10) = (a 9, .inl (sE S 0, 70, .inl fun _ => 0)) := rfl
theorem cM_11 {S : Shp} {h : Nat} {a : Nat → Nat} : cl (S3of S h a) sgI (3, 0, 11) = (a 10, .inl (sE S 0, 70, .inl fun _ => 0)) := rfl
theorem cM_12 {S : Shp} {h : Nat} {a : Nat → Nat} : cl (S3of S h a) sgI (3, 0, 12) = (a 11, .inl (sE S 0, 70, .inl fun _ => 0)) := rfl
theorem cM_13 {S : Shp} {h : Nat} {a : Nat → Nat} : cl (S3of S h a) sgI (3, 0, 13) = (a 12, .inl (sE S 0, 70, .inl fun _ => 0)) := rfl
theorem cM_14 {S : Shp} {h : Nat} {a : Nat → Nat} : cl (S3of S h a) sgI (3, 0, 14) = (a 13, .inl (sE S 0, 5, .inl fun _ => 0)) := rfl
theorem cM_15 {S : Shp} {h : Nat} {a : Nat → Nat} : cl (S3of S h a) sgI (3, 0, 15) = (a 14, .inl (sE S 0, 40, .inl fun _ => 0)) := rfl
theorem cM_16 {S : Shp} {h : Nat} {a : Nat → Nat} : cl (S3of S h a) sgI (3, 0, 16) = (a 15, .inl (sE S 0, 40, .inl fun _ => 0)) := rfl
theorem cM_17 {S : Shp} {h : Nat} {a : Nat → Nat} : cl (S3of S h a) sgI (3, 0, 17) = (a 16, .inl (sE S 0, 5, .inl fun _ => 0)) := rfl
theorem cM_18 {S : Shp} {h : Nat} {a : Nat → Nat} : cl (S3of S h a) sgI (3, 0, 18) = (a 17, .inl (sE S 0, 60, .inl fun _ => 0)) := rfl
theorem cM_19 {S : Shp} {h : Nat} {a : Nat → Nat} : cl (S3of S h a) sgI (3, 0, 19) = (a 18, .inl (sE S 0, 60, .inl fun _ => 0)) := rfl
theorem cM_20 {S : Shp} {h : Nat} {a : Nat → Nat} : cl (S3of S h a) sgI (3, 0, 20) = (a 19, .inl (sE S 0, 60, .inl fun _ => 0)) := rfl
theorem cM_21 {S : Shp} {h : Nat} {a : Nat → Nat} : cl (S3of S h a) sgI (3, 0, 21) = (a 20, .inl (sE S 0, 5, .inl fun _ => 0)) := rfl
theorem cM_22 {S : Shp} {h : Nat} {a : Nat → Nat} : cl (S3of S h a) sgI (3, 0, 22) = (a 21, .inl (sE S 0, 25, .inl fun _ => 0)) := rfl
theorem cM_23 {S : Shp} {h : Nat} {a : Nat → Nat} : cl (S3of S h a) sgI (3, 0, 23) = (a 22, .inl (sE S 0, 25, .inl fun _ => 0)) := rfl
theorem cM_24 {S : Shp} {h : Nat} {a : Nat → Nat} : cl (S3of S h a) sgI (3, 0, 24) = (a 23, .inl (sE S 0, 25, .inl fun _ => 0)) := rfl
theorem cM_25 {S : Shp} {h : Nat} {a : Nat → Nat} : cl (S3of S h a) sgI (3, 0, 25) = (a 24, .inl (sE S 0, 5, .inl fun _ => 0)) := rfl
theorem cM_26 {S : Shp} {h : Nat} {a : Nat → Nat} : cl (S3of S h a) sgI (3, 0, 26) = (a 25, .inl (sE S 0, 30, .inl fun _ => 0)) := rfl
theorem cM_27 {S : Shp} {h : Nat} {a : Nat → Nat} : cl (S3of S h a) sgI (3, 0, 27) = (a 26, .inl (sE S 0, 30, .inl fun _ => 0)) := rfl
theorem cM_28 {S : Shp} {h : Nat} {a : Nat → Nat} : cl (S3of S h a) sgI (3, 0, 28) = (a 27, .inl (sE S 0, 5, .inl fun _ => 0)) := rfl
theorem cM_29 {S : Shp} {h : Nat} {a : Nat → Nat} : cl (S3of S h a) sgI (3, 0, 29) = (a 28, .inl (sE S 0, 2500, .inl fun _ => 0)) := rfl
theorem cM_30 {S : Shp} {h : Nat} {a : Nat → Nat} : cl (S3of S h a) sgI (3, 0, 30) = (a 29, .inl (sE S 0, 2500, .inl fun _ => 0)) := rfl
theorem cM_31 {S : Shp} {h : Nat} {a : Nat → Nat} : cl (S3of S h a) sgI (3, 0, 31) = (a 30, .inl (sE S 0, 5, .inl fun _ => 0)) := rfl
theorem cM_32 {S : Shp} {h : Nat} {a : Nat → Nat} : cl (S3of S h a) sgI (3, 0, 32) = (a 31, .inl (sE S 2, 1000, .inl fun _ => 0)) := rfl
theorem cM_33 {S : Shp} {h : Nat} {a : Nat → Nat} : cl (S3of S h a) sgI (3, 0, 33) = (a 32, .inl (sE S 0, 1000, .inl fun _ => 0)) := rfl
theorem cM_34 {S : Shp} {h : Nat} {a : Nat → Nat} : cl (S3of S h a) sgI (3, 0, 34) = (a 33, .inl (sE S 0, 1000, .inl fun _ => 0)) := rfl
theorem cM_35 {S : Shp} {h : Nat} {a : Nat → Nat} : cl (S3of S h a) sgI (3, 0, 35) = (a 34, .inl (sE S 0, 1000, .inl fun _ => 0)) := rfl
theorem cM_36 {S : Shp} {h : Nat} {a : Nat → Nat} : cl (S3of S h a) sgI (3, 0, 36) = (a 35, .inl (sE S 0, 1000, .inl fun _ => 0)) := rfl
theorem cM_37 {S : Shp} {h : Nat} {a : Nat → Nat} : cl (S3of S h a) sgI (3, 0, 37) = (a 36, .inl (sE S 0, 1000, .inl fun _ => 0)) := rfl
theorem cM_38 {S : Shp} {h : Nat} {a : Nat → Nat} : cl (S3of S h a) sgI (3, 0, 38) = (a 37, .inl (sE S 0, 5, .inl fun _ => 0)) := rfl
theorem cM_39 {S : Shp} {h : Nat} {a : Nat → Nat} : cl (S3of S h a) sgI (3, 0, 39) = (a 38, .inl (sE S 0, 300, .inl fun _ => 0)) := rfl
theorem cM_40 {S : Shp} {h : Nat} {a : Nat → Nat} : cl (S3of S h a) sgI (3, 0, 40) = (a 39, .inl (sE S 0, 300, .inl fun _ => 0)) := rfl
theorem cM_41 {S : Shp} {h : Nat} {a : Nat → Nat} : cl (S3of S h a) sgI (3, 0, 41) = (a 40, .inl (sE S 0, 300, .inl fun _ => 0)) := rfl
theorem cM_42 {S : Shp} {h : Nat} {a : Nat → Nat} : cl (S3of S h a) sgI (3, 0, 42) = (a 41, .inl (sE S 0, 300, .inl fun _ => 0)) := rfl
theorem cM_43 {S : Shp} {h : Nat} {a : Nat → Nat} : cl (S3of S h a) sgI (3, 0, 43) = (a 42, .inl (sE S 3, 20, .inr (.inl fun _ => 0))) := rfl
theorem cM_44 {S : Shp} {h : Nat} {a : Nat → Nat} : cl (S3of S h a) sgI (3, 0, 44) = (a 43, .inl (sE S 0, 20, .inl fun _ => 0)) := rfl
theorem cM_45 {S : Shp} {h : Nat} {a : Nat → Nat} : cl (S3of S h a) sgI (3, 0, 45) = (a 44, .inl (sE S 0, 6, .inl fun _ => 0)) := rfl
theorem cM_46 {S : Shp} {h : Nat} {a : Nat → Nat} : cl (S3of S h a) sgI (3, 0, 46) = (a 45, .inl (sE S 0, 6, .inl fun _ => 0)) := rfl
theorem cM_47 {S : Shp} {h : Nat} {a : Nat → Nat} : cl (S3of S h a) sgI (3, 0, 47) = (a 46, .inl (sE S 0, 500, .inl fun _ => 0)) := rfl
theorem cM_48 {S : Shp} {h : Nat} {a : Nat → Nat} : cl (S3of S h a) sgI (3, 0, 48) = (a 47, .inl (sE S 0, 14, .inl fun _ => 0)) := rfl
theorem cM_49 {S : Shp} {h : Nat} {a : Nat → Nat} : cl (S3of S h a) sgI (3, 0, 49) = (a 48, .inl (sE S 0, 14, .inl fun _ => 0)) := rfl
theorem cM_50 {S : Shp} {h : Nat} {a : Nat → Nat} : cl (S3of S h a) sgI (3, 0, 50) = (a 49, .inl (sE S 0, 14, .inl fun _ => 0)) := rfl
theorem cM_51 {S : Shp} {h : Nat} {a : Nat → Nat} : cl (S3of S h a) sgI (3, 0, 51) = (a 50, .inl (sE S 2, 14, .inl fun _ => 0)) := rfl
theorem cM_52 {S : Shp} {h : Nat} {a : Nat → Nat} : cl (S3of S h a) sgI (3, 0, 52) = (a 51, .inl (sE S 2, 196, .inl fun _ => 0)) := rfl
theorem cM_53 {S : Shp} {h : Nat} {a : Nat → Nat} : cl (S3of S h a) sgI (3, 0, 53) = (a 52, .inl (sE S 0, 196, .inl fun _ => 0)) := rfl
theorem cM_54 {S : Shp} {h : Nat} {a : Nat → Nat} : cl (S3of S h a) sgI (3, 0, 54) = (a 53, .inl (sE S 0, 196, .inl fun _ => 0)) := rfl
theorem cM_55 {S : Shp} {h : Nat} {a : Nat → Nat} : cl (S3of S h a) sgI (3, 0, 55) = (a 54, .inl (sE S 2, 196, .inl fun _ => 0)) := rfl
theorem cM_56 {S : Shp} {h : Nat} {a : Nat → Nat} : cl (S3of S h a) sgI (3, 0, 56) = (a 55, .inl (sE S 0, 9, .inl fun _ => 0)) := rfl
theorem cM_57 {S : Shp} {h : Nat} {a : Nat → Nat} : cl (S3of S h a) sgI (3, 0, 57) = (a 56, .inl (sE S 0, 500, .inl fun _ => 0)) := rfl
theorem cM_58 {S : Shp} {h : Nat} {a : Nat → Nat} : cl (S3of S h a) sgI (3, 0, 58) = (a 57, .inl (sE S 0, 5, .inl fun _ => 0)) := rfl
theorem cM_59 {S : Shp} {h : Nat} {a : Nat → Nat} : cl (S3of S h a) sgI (3, 0, 59) = (a 58, .inl (sE S 0, 16384, .inl fun _ => 0)) := rfl
theorem cM_60 {S : Shp} {h : Nat} {a : Nat → Nat} : cl (S3of S h a) sgI (3, 0, 60) = (a 59, .inl (sE S 0, 14, .inl fun _ => 0)) := rfl
theorem cM_61 {S : Shp} {h : Nat} {a : Nat → Nat} : cl (S3of S h a) sgI (3, 0, 61) = (a 60, .inl (sE S 0, 360, .inl fun _ => 0)) := rfl
theorem cM_62 {S : Shp} {h : Nat} {a : Nat → Nat} : cl (S3of S h a) sgI (3, 0, 62) = (a 61, .inl (sE S 0, 360, .inl fun _ => 0)) := rfl
theorem cM_63 {S : Shp} {h : Nat} {a : Nat → Nat} : cl (S3of S h a) sgI (3, 0, 63) = (a 62, .inl (sE S 0, 200, .inl fun _ => 0)) := rfl
theorem cM_64 {S : Shp} {h : Nat} {a : Nat → Nat} : cl (S3of S h a) sgI (3, 0, 64) = (a 63, .inl (sE S 0, 70560, .inl fun _ => 0)) := rfl
theorem cM_65 {S : Shp} {h : Nat} {a : Nat → Nat} : cl (S3of S h a) sgI (3, 0, 65) = (a 64, .inl (sE S 2, 196, .inl fun _ => 0)) := rfl
theorem cM_66 {S : Shp} {h : Nat} {a : Nat → Nat} : cl (S3of S h a) sgI (3, 0, 66) = (a 65, .inl (sE S 0, 14, .inl fun _ => 0)) := rfl
theorem cM_67 {S : Shp} {h : Nat} {a : Nat → Nat} : cl (S3of S h a) sgI (3, 0, 67) = (a 66, .inl (sE S 0, 14, .inl fun _ => 0)) := rfl
theorem ids3_x : ids3 = [(3, 0, 0), (3, 0, 1), (3, 0, 2), (3, 0, 3), (3, 0, 4), (3, 0, 5), (3, 0, 6), (3, 0, 7), (3, 0, 8), (3, 0, 9), (3, 0, 10), (3, 0, 11), (3, 0, 12), (3, 0, 13), (3, 0, 14), (3, 0, 15), (3, 0, 16), (3, 0, 17), (3, 0, 18), (3, 0, 19), (3, 0, 20), (3, 0, 21), (3, 0, 22), (3, 0, 23), (3, 0, 24), (3, 0, 25), (3, 0, 26), (3, 0, 27), (3, 0, 28), (3, 0, 29), (3, 0, 30), (3, 0, 31), (3, 0, 32), (3, 0, 33), (3, 0, 34), (3, 0, 35), (3, 0, 36), (3, 0, 37), (3, 0, 38), (3, 0, 39), (3, 0, 40), (3, 0, 41), (3, 0, 42), (3, 0, 43), (3, 0, 44), (3, 0, 45), (3, 0, 46), (3, 0, 47), (3, 0, 48), (3, 0, 49), (3, 0, 50), (3, 0, 51), (3, 0, 52), (3, 0, 53), (3, 0, 54), (3, 0, 55), (3, 0, 56), (3, 0, 57), (3, 0, 58), (3, 0, 59), (3, 0, 60), (3, 0, 61), (3, 0, 62), (3, 0, 63), (3, 0, 64), (3, 0, 65), (3, 0, 66), (3, 0, 67)] := by decide +kernel
set_option maxRecDepth 100000 in
set_option maxHeartbeats 2000000 in
theorem ids3_eq {S : Shp} {h : Nat} {a : Nat → Nat} : ids3.map (cl (S3of S h a) sgI) = CSX12 S h a := by
  rw [ids3_x]
  simp only [List.map_cons, List.map_nil, cM_0, cM_1, cM_2, cM_3, cM_4, cM_5, cM_6, cM_7, cM_8, cM_9, cM_10, cM_11, cM_12, cM_13, cM_14, cM_15, cM_16, cM_17, cM_18, cM_19, cM_20, cM_21, cM_22, cM_23, cM_24, cM_25, cM_26, cM_27, cM_28, cM_29, cM_30, cM_31, cM_32, cM_33, cM_34, cM_35, cM_36, cM_37, cM_38, cM_39, cM_40, cM_41, cM_42, cM_43, cM_44, cM_45, cM_46, cM_47, cM_48, cM_49, cM_50, cM_51, cM_52, cM_53, cM_54, cM_55, cM_56, cM_57, cM_58, cM_59, cM_60, cM_61, cM_62, cM_63, cM_64, cM_65, cM_66, cM_67]
  unfold CSX12
  simp only [List.nil_append, List.append_assoc, List.cons_append]
theorem wr_S3 {E : Nat → ClassId} {D : va_G} {K V B h0 : Nat} {u : U11} {h : Nat} {a : Nat → Nat} : wr (S3of (S0of E D K V B h0 u) h a) sgI = wr0 (S0of E D K V B h0 u) ++ CSX12 (S0of E D K V B h0 u) h a := by
  have e : wr (S3of (S0of E D K V B h0 u) h a) sgI = (ids (fun _ => false)).map (cl (S3of (S0of E D K V B h0 u) h a) sgI) := rfl
  rw [e, ids_no, List.map_append, ids3_eq]
  exact congrArg (fun z => z ++ CSX12 (S0of E D K V B h0 u) h a) (List.map_congr_left (fun z hz => cl_S3 (t := z.1) (i := z.2.1) (k := z.2.2) (ids0_lt z hz)))
/-- the model's constructor, over the class's cells: the start of all -/
def A3 (S : Shp) (h sz : Nat) : Nat → Prop := va_A (wr0 S ++ [(h, .inr (11, zsX12))]) sz
set_option maxHeartbeats 4000000 in
theorem cm_X12 {E : Nat → ClassId} {D : va_G} {K V B h0 : Nat} {u : U11} (l : Launch) (h sz : Nat) : Met l (my m_X12_init) (wI m_X12_init) (rI m_X12_init 67 113007) (va_Pc [.ref h] (fun Y => Y.heap.size = sz ∧ va_P (sD (S0of E D K V B h0 u)) vwCl (wr0 (S0of E D K V B h0 u) ++ [(h, .inr (11, zsX12))]) Y.heap ∧ va_K (sD (S0of E D K V B h0 u)) vwCl (sT (S0of E D K V B h0 u)) Y ∧ va_D (fun _ => True) (wr0 (S0of E D K V B h0 u) ++ [(h, .inr (11, zsX12))]) ∧ Nn Y ∧ En (S0of E D K V B h0 u) (A3 (S0of E D K V B h0 u) h sz) Y Y.heap))
    (va_Qv (fun _ : Nat → Nat => True) (fun a t => ∃ τ, Iv (fun _ => false) τ ∧ va_P (sD (S0of E D K V B h0 u)) vwCl (wr (S3of (S0of E D K V B h0 u) h a) τ) t.heap ∧ va_D (A3 (S0of E D K V B h0 u) h sz) (wr (S3of (S0of E D K V B h0 u) h a) τ)) (A3 (S0of E D K V B h0 u) h sz)) 67 113007 (A3 (S0of E D K V B h0 u) h sz) := by
  have wS : ∀ a, wr (S3of (S0of E D K V B h0 u) h a) sgI = wr0 (S0of E D K V B h0 u) ++ CSX12 (S0of E D K V B h0 u) h a := fun a => wr_S3
  generalize hS : S0of E D K V B h0 u = S at wS ⊢
  refine Met.ofWF (cc := mb m_X12_init) (maxL := 1) (ret := none) (by decide +kernel) rfl ?_
  intro p e s m args below meth c s₁ Bd hml hv
  obtain ⟨rfl, hsz, hP, hK, hD0, hN, hE⟩ := hv
  subst hsz
  have hl := lv_entry [.ref h] (n := 1) (Nat.le_of_ble_eq_true rfl)
  rw [lg_entry_eq]
  generalize (lg_sl [Value.ref h] ++ List.replicate (1 - (lg_sl [Value.ref h]).length) Slot.unset).toArray = ls at hl ⊢
  have hl : lv_has ls 1 [(0, .ref h)] := hl
  have X : Cg (my m_X12_init).cls (mb m_X12_init) (mn m_X12_init) (wI m_X12_init) S p s m _ c := ⟨Bd.exec, Bd.bytes, hml, findClass_of_methodNamed Bd.named, atoms_spec (ws := wI m_X12_init) Bd.pre, fun w hw => List.mem_cons_of_mem _ hw, hK, hN⟩
  have W0 : Wd S (va_A [(h, .inr (11, zsX12))] s.heap.size) s.heap s.heap [] [(h, .inr (11, zsX12))] := ⟨va_P_mem hP (fun z hz => List.mem_append_right _ hz), (hD0.sub [(wr0 S).length] rfl (by simp)).self, va_S.rf⟩
  have hFc : ∀ q, va_A [(h, .inr (11, zsX12))] s.heap.size q → A3 S h s.heap.size q := va_free (wc := [(h, .inr (11, zsX12))]) (H0 := s.heap) (locs := []) hD0.self va_S.rf (fun q hq => Or.inr hq) [(wr0 S).length] (by simp)
  refine mk_X12 (fun q hq => Or.inr hq) X (name_of_methodNamed Bd.named Bd.method).1 hl W0 (fun a H locs W1 => ?_)
  obtain ⟨hP2, hD2⟩ := va_join (wr := wr0 S) (w1 := CSX12 S h a) hP hD0.self [(wr0 S).length] (List.range (wr0 S).length) (by simp) nd_range (va_nd_of _ List.nodup_range) (fun i hi hj => by rw [List.mem_range] at hi; rw [List.mem_singleton] at hj; omega) (fun q h1 h2 => W1.2.2.2.1 q h1 h2) hFc W1.1 W1.2.1
  rw [← wS] at hP2 hD2
  have W2 : Wd (S3of S h a) (A3 S h s.heap.size) s.heap H locs (wr (S3of S h a) sgI) := ⟨hP2, hD2, ⟨W1.2.2.1, fun q h1 h2 => W1.2.2.2.1 q h1 (fun z => h2 (hFc q z)), fun q hq => hFc _ (W1.2.2.2.2 q hq)⟩⟩
  obtain ⟨r, hb, hI⟩ := Iv_I
  refine lv_aload_n X.1 X.2.1 dX12_init_562 rfl (lv_at hl 0 rfl) ?_
  refine lv_iconst (v := 0) X.1 X.2.1 dX12_init_563 (by decide) ?_
  have X3 : Cg (my m_X12_init).cls (mb m_X12_init) (mn m_X12_init) (wI m_X12_init) (S3of S h a) p s m _ c := X
  have hE3 : En (S3of S h a) (A3 S h s.heap.size) s s.heap := hE
  refine nw_callC (S := S3of S h a) (M' := m_X12_begin) (t := 3) (i := 0) (k := 0) (As := [.int 0]) (rest := []) X3 hE3 (fun q h => Or.inr h) kl_12_218 oy_X12_begin ⟨Nat.le_of_ble_eq_true rfl, Nat.le_of_ble_eq_true rfl⟩ ⟨Nat.le_of_ble_eq_true rfl, Nat.le_of_ble_eq_true rfl⟩ rfl rfl rfl rfl (Nat.le_of_ble_eq_true rfl) rfl hl.1 W2 dX12_init_564 (c_X12_begin hb) (fun v τ H1 L1 hq W3 => ?_)
  obtain ⟨rfl, rfl⟩ := hq
  exact W.vret X.1 X.2.1 Bd.returns (fun t ht _ => ⟨⟨a, rfl, trivial, _, hI, by rw [ht]; exact W3.1, W3.2.1⟩, W3.2.2.F ht⟩) W3.2.2.2.2 dX12_init_567 Bd.notSynchronized
