/-! every call of the law: both sides answer alike -/
theorem hstep : ∀ (h : Nat → Bool) (σ : Mm) (k : Nat) (a1 a2 a3 a4 a5 a6 : Int32), Iv h σ → stp Iv h σ k a1 a2 a3 a4 a5 a6 := by
  intro h σ k a1 a2 a3 a4 a5 a6 hI
  match k with
  | 0 => exact p_feed hI a1 a2 a3 a4 a5
  | 1 => exact p_back hI a1
  | 2 => exact p_read hI
  | 3 => exact p_place hI
  | 4 => exact p_found hI a1 a2 a3
  | 5 => exact p_move hI a1 a2 a3
  | 6 => exact p_gone hI a1
  | 7 => exact p_date hI a1 a2
  | 8 => exact p_annul hI a1
  | 9 => exact p_thing hI a1 a2 a3
  | 10 => exact p_degree hI a1 a2
  | 11 => exact p_vector hI a1 a2
  | 12 => exact p_line hI a1 a2 a3
  | 13 => exact p_lines hI (if a1 = 0 then 0 else 1) a2
  | 14 => exact p_height hI a1
  | 15 => exact p_rise hI a1 a2
  | 16 => exact p_hit hI a1 a2 a3 a4
  | 17 => exact p_hits hI a1 a2 a3 (if a4 = 0 then 0 else 1) a5
  | 18 => exact p_hitAt hI a1 a2 (if a3 = 0 then 0 else 1) a4 a5
  | 19 => exact p_many hI a1 a2 a3
  | 20 => exact p_allHits hI a1 a2 a3
  | 21 => exact p_alone hI a1 a2 a3
  | 22 => exact p_striking hI a1 a2 a3
  | 23 => exact p_price hI a1 a2
  | 24 => exact p_story hI a1 a2 a3 a4 a5
  | 25 => exact p_otherwise hI a1 a2 a3 a4
  | 26 => exact p_free hI a1 a2 a3 a4 a5
  | 27 => exact p_freer hI a1 a2 a3 a4 a5 a6
  | 28 => exact p_next hI a1 a2 a3
  | 29 => exact p_site hI a1 a2
  | 30 => exact p_clear hI
  | 31 => exact p_pointing hI a1 a2 (if a3 = 0 then 0 else 1)
  | 32 => exact p_chance hI a1 a2
  | 33 => exact p_made hI a1 a2 a3
  | 34 => exact p_madeAt hI a1 a2 a3 a4 a5
  | 35 => exact p_odds hI a1 a2 a3 a4 a5
  | 36 => exact p_counts hI a1 a2 a3 a4 a5
  | 37 => exact p_anything hI a1 a2 a3 a4 a5
  | 38 => exact p_life hI a1 a2 a3 a4
  | 39 => exact p_seen hI a1 a2 a3 a4
  | 40 => exact p_say hI a1 a2 a3
  | 41 => exact p_hold hI a1
  | 42 => exact p_again hI a1
  | 43 => exact p_count hI a1
  | _ + 44 => exact hI
