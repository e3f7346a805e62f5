/-! ===== PURE, 62: the law's loop ===== -/
theorem vl_sc32 (sc : Nat × (Nat → Int32)) (i : Int) : vl_r32 (vl_sc sc i) := by
  unfold vl_sc
  have h1 := Int32.le_toInt (sc.2 i.toNat)
  have h2 := Int32.toInt_lt (sc.2 i.toNat)
  exact ⟨by omega, by omega⟩
theorem t_law {sc : Nat × (Nat → Int32)} {w N : Nat} (hN : 10000000000000 ≤ N) (hsc : sc.1 ≤ 3074) (hpack : ∀ (n : Nat) (m r : vl_M) (φ : Int → Int), q_top n w m r φ → ∃ v m' r' φ', fn_X7_pack w N m = some (v, m') ∧ fn_X8_pack N r = some (v, r') ∧ vl_r32 v ∧ q_top (n + 1) w m' r' φ') : ∀ (k fu n : Nat) (v : Int) (m r : vl_M) (φ : Int → Int), (2 ≤ v ∧ v ≤ 3100) → (sc.1 : Int) - v < 6 * (k : Int) + 6 → k < fu → n + k ≤ 1000 → q_top n w m r φ → fn_L_law_L38 sc w N (fun (v4 : Int) (m5 : vl_M) (m6 : vl_M) => some (1)) fu v m r = some 1 := by
  have hN1 : 100000 ≤ N := by omega
  intro k
  induction k with
  | zero =>
    intro fu n v m r φ h1 h2 h3 h4 h
    obtain ⟨fu, rfl⟩ : ∃ x, fu = x + 1 := ⟨fu - 1, by omega⟩
    rw [fn_L_law_L38]
    rw [pu_gd ⟨by omega, by omega⟩, pu_gd ⟨by omega, by omega⟩, if_pos (by omega)]
  | succ k ih =>
    intro fu n v m r φ h1 h2 h3 h4 h
    obtain ⟨fu, rfl⟩ : ∃ x, fu = x + 1 := ⟨fu - 1, by omega⟩
    by_cases c : (sc.1 : Int) - 6 < v
    · rw [fn_L_law_L38, pu_gd ⟨by omega, by omega⟩, pu_gd ⟨by omega, by omega⟩, if_pos c]
    · have s : ∀ j : Int, vl_r32 (vl_sc sc (v + j)) := fun j => vl_sc32 sc (v + j)
      have hop : 0 ≤ vl_sc sc v % 16 ∧ vl_sc sc v % 16 < 16 := ⟨Int.emod_nonneg _ (by decide), Int.emod_lt_of_pos _ (by decide)⟩
      have g1 : 0 ≤ v + 1 ∧ v + 1 < (sc.1 : Int) := ⟨by omega, by omega⟩
      have g2 : 0 ≤ v + 2 ∧ v + 2 < (sc.1 : Int) := ⟨by omega, by omega⟩
      have g3 : 0 ≤ v + 3 ∧ v + 3 < (sc.1 : Int) := ⟨by omega, by omega⟩
      have g4 : 0 ≤ v + 4 ∧ v + 4 < (sc.1 : Int) := ⟨by omega, by omega⟩
      have g5 : 0 ≤ v + 5 ∧ v + 5 < (sc.1 : Int) := ⟨by omega, by omega⟩
      rw [fn_L_law_L38, pu_gd ⟨by omega, by omega⟩, pu_gd ⟨by omega, by omega⟩, if_neg c, pu_gd ⟨by omega, by omega⟩, pu_gd ⟨by omega, by omega⟩]
      by_cases e0 : vl_sc sc v % 16 = 0
      · obtain ⟨x, m', r', φ', y1, y2, y3, y4⟩ := t_insert hN1 h (s 1) (s 2) (s 3) (s 4) (s 5)
        rw [if_pos e0, pu_gd g1, pu_gd g2, pu_gd g3, pu_gd g4, pu_gd g5, y1, Option.bind_some, pu_un, pu_gd g1, pu_gd g2, pu_gd g3, pu_gd g4, pu_gd g5, y2, Option.bind_some, pu_un, pu_gd y3, pu_gd y3, if_pos rfl, pu_lt]
        exact ih fu (n + 1) (v + 6) m' r' φ' ⟨by omega, by omega⟩ (by omega) (by omega) (by omega) y4
      rw [if_neg e0]
      by_cases e1 : vl_sc sc v % 16 = 1
      · obtain ⟨x, m', r', φ', y1, y2, y3, y4⟩ := t_remove hN1 h (s 1) (s 2) (s 3) (s 4) (s 5)
        rw [if_pos e1, pu_gd g1, pu_gd g2, pu_gd g3, pu_gd g4, pu_gd g5, y1, Option.bind_some, pu_un, pu_gd g1, pu_gd g2, pu_gd g3, pu_gd g4, pu_gd g5, y2, Option.bind_some, pu_un, pu_gd y3, pu_gd y3, if_pos rfl, pu_lt]
        exact ih fu (n + 1) (v + 6) m' r' φ' ⟨by omega, by omega⟩ (by omega) (by omega) (by omega) y4
      rw [if_neg e1]
      by_cases e2 : vl_sc sc v % 16 = 2
      · obtain ⟨x, m', r', y1, y2, y3, y4⟩ := t_window h (s 1) (s 2) (s 3) (s 4)
        rw [if_pos e2, pu_gd g1, pu_gd g2, pu_gd g3, pu_gd g4, y1, Option.bind_some, pu_un, pu_gd g1, pu_gd g2, pu_gd g3, pu_gd g4, y2, Option.bind_some, pu_un, pu_gd y3, pu_gd y3, if_pos rfl, pu_lt]
        exact ih fu (n + 1) (v + 6) m' r' φ ⟨by omega, by omega⟩ (by omega) (by omega) (by omega) (q_top_mono y4)
      rw [if_neg e2]
      by_cases e3 : vl_sc sc v % 16 = 3
      · obtain ⟨x, m', r', y1, y2, y3, y4⟩ := t_next hN h
        rw [if_pos e3, y1, Option.bind_some, pu_un, y2, Option.bind_some, pu_un, pu_gd y3, pu_gd y3, if_pos rfl, pu_lt]
        exact ih fu (n + 1) (v + 6) m' r' φ ⟨by omega, by omega⟩ (by omega) (by omega) (by omega) (q_top_mono y4)
      rw [if_neg e3]
      by_cases e4 : vl_sc sc v % 16 = 4
      · obtain ⟨x, m', y1, y2, y3, y4⟩ := t_countIn hN1 h (s 1) (s 2) (s 3) (s 4)
        rw [if_pos e4, pu_gd g1, pu_gd g2, pu_gd g3, pu_gd g4, y1, Option.bind_some, pu_un, pu_gd g1, pu_gd g2, pu_gd g3, pu_gd g4, y2, Option.bind_some, pu_gd y3, pu_gd y3, if_pos rfl, pu_lt]
        exact ih fu (n + 1) (v + 6) m' r φ ⟨by omega, by omega⟩ (by omega) (by omega) (by omega) (q_top_mono y4)
      rw [if_neg e4]
      by_cases e5 : vl_sc sc v % 16 = 5
      · obtain ⟨x, m', r', y1, y2, y3, y4⟩ := t_nearest hN1 h (s 1) (s 2) (s 3)
        rw [if_pos e5, pu_gd g1, pu_gd g2, pu_gd g3, y1, Option.bind_some, pu_un, pu_gd g1, pu_gd g2, pu_gd g3, y2, Option.bind_some, pu_un, pu_gd y3, pu_gd y3, if_pos rfl, pu_lt]
        exact ih fu (n + 1) (v + 6) m' r' φ ⟨by omega, by omega⟩ (by omega) (by omega) (by omega) (q_top_mono y4)
      rw [if_neg e5]
      by_cases e6 : vl_sc sc v % 16 = 6
      · obtain ⟨x, y1, y2, y3⟩ := t_distance h
        rw [if_pos e6, y1, Option.bind_some, y2, Option.bind_some, pu_gd y3, pu_gd y3, if_pos rfl, pu_lt]
        exact ih fu (n + 1) (v + 6) m r φ ⟨by omega, by omega⟩ (by omega) (by omega) (by omega) (q_top_mono h)
      rw [if_neg e6]
      by_cases e7 : vl_sc sc v % 16 = 7
      · obtain ⟨x, y1, y2, y3⟩ := t_pairs hN1 h
        rw [if_pos e7, y1, Option.bind_some, y2, Option.bind_some, pu_gd y3, pu_gd y3, if_pos rfl, pu_lt]
        exact ih fu (n + 1) (v + 6) m r φ ⟨by omega, by omega⟩ (by omega) (by omega) (by omega) (q_top_mono h)
      rw [if_neg e7]
      by_cases e8 : vl_sc sc v % 16 = 8
      · obtain ⟨x, y1, y2, y3⟩ := t_visited hN1 h (s 1)
        rw [if_pos e8, pu_gd g1, y1, Option.bind_some, pu_gd g1, y2, Option.bind_some, pu_gd y3, pu_gd y3, if_pos rfl, pu_lt]
        exact ih fu (n + 1) (v + 6) m r φ ⟨by omega, by omega⟩ (by omega) (by omega) (by omega) (q_top_mono h)
      rw [if_neg e8]
      by_cases e9 : vl_sc sc v % 16 = 9
      · obtain ⟨x, m', r', φ', y1, y2, y3, y4⟩ := hpack n m r φ h
        rw [if_pos e9, y1, Option.bind_some, pu_un, y2, Option.bind_some, pu_un, pu_gd y3, pu_gd y3, if_pos rfl, pu_lt]
        exact ih fu (n + 1) (v + 6) m' r' φ' ⟨by omega, by omega⟩ (by omega) (by omega) (by omega) y4
      rw [if_neg e9]
      by_cases e10 : vl_sc sc v % 16 = 10
      · obtain ⟨x, m', r', φ', y1, y2, y3, y4⟩ := t_clear hN1 h
        rw [if_pos e10, y1, Option.bind_some, pu_un, y2, Option.bind_some, pu_un, pu_gd y3, pu_gd y3, if_pos rfl, pu_lt]
        exact ih fu (n + 1) (v + 6) m' r' φ' ⟨by omega, by omega⟩ (by omega) (by omega) (by omega) y4
      rw [if_neg e10]
      by_cases e11 : vl_sc sc v % 16 = 11
      · obtain ⟨x, r', y1, y2, y3, y4⟩ := t_count hN1 (by omega) h (s 1)
        rw [if_pos e11, pu_gd g1, y1, Option.bind_some, pu_gd g1, y2, Option.bind_some, pu_un, pu_gd y3, pu_gd y3, if_pos rfl, pu_lt]
        exact ih fu (n + 1) (v + 6) m r' φ ⟨by omega, by omega⟩ (by omega) (by omega) (by omega) (q_top_mono y4)
      rw [if_neg e11]
      by_cases e12 : vl_sc sc v % 16 = 12
      · obtain ⟨x, r', y1, y2, y3, y4⟩ := t_node hN1 h (s 1) (s 2)
        rw [if_pos e12, pu_gd g1, pu_gd g2, y1, Option.bind_some, pu_gd g1, pu_gd g2, y2, Option.bind_some, pu_un, pu_gd y3, pu_gd y3, if_pos rfl, pu_lt]
        exact ih fu (n + 1) (v + 6) m r' φ ⟨by omega, by omega⟩ (by omega) (by omega) (by omega) (q_top_mono y4)
      rw [if_neg e12]
      by_cases e13 : vl_sc sc v % 16 = 13
      · obtain ⟨x, r', y1, y2, y3, y4⟩ := t_held hN1 h (s 1) (s 2) (s 3)
        rw [if_pos e13, pu_gd g1, pu_gd g2, pu_gd g3, y1, Option.bind_some, pu_gd g1, pu_gd g2, pu_gd g3, y2, Option.bind_some, pu_un, pu_gd y3, pu_gd y3, if_pos rfl, pu_lt]
        exact ih fu (n + 1) (v + 6) m r' φ ⟨by omega, by omega⟩ (by omega) (by omega) (by omega) (q_top_mono y4)
      rw [if_neg e13]
      by_cases e14 : vl_sc sc v % 16 = 14
      · obtain ⟨x, m', r', y1, y2, y3, y4⟩ := t_audit hN1 h
        have y5 : vl_r32 x := by rcases y3 with z | z <;> rw [z] <;> decide
        rw [if_pos e14, y1, Option.bind_some, pu_un, y2, Option.bind_some, pu_un, pu_gd y5, pu_gd y5, if_pos rfl, pu_lt]
        exact ih fu (n + 1) (v + 6) m' r' φ ⟨by omega, by omega⟩ (by omega) (by omega) (by omega) (q_top_mono y4)
      rw [if_neg e14]
      rw [pu_lt]
      exact ih fu (n + 1) (v + 6) m r φ ⟨by omega, by omega⟩ (by omega) (by omega) (by omega) (q_top_mono h)
/-- everything, if packing is alike -/
theorem pure_of (hpack : ∀ (w N n : Nat) (m r : vl_M) (φ : Int → Int), 10000000000000 ≤ N → q_top n w m r φ → ∃ v m' r' φ', fn_X7_pack w N m = some (v, m') ∧ fn_X8_pack N r = some (v, r') ∧ vl_r32 v ∧ q_top (n + 1) w m' r' φ') : vl_pure := by
  intro sc hsc
  have hc : ∀ i : Int, (i = 0 ∨ i = 1) → ∃ a, fn_L_cell sc i = some a ∧ vl_r32 a := fun i hi => by
    unfold fn_L_cell
    rw [pu_gd ⟨by omega, by omega⟩, pu_gd ⟨by omega, by omega⟩]
    by_cases c : i < (sc.1 : Int)
    · rw [if_pos c, pu_gd ⟨by omega, c⟩]
      exact ⟨_, rfl, vl_sc32 sc i⟩
    · rw [if_neg c]
      exact ⟨0, rfl, by decide⟩
  obtain ⟨a1, e1, h1⟩ := hc 0 (Or.inl rfl)
  obtain ⟨a2, e2, h2⟩ := hc 1 (Or.inr rfl)
  obtain ⟨w, hw, m, r, φ, f1, f2, f3⟩ := t_init (N := 10000000000000) (by omega) h1 h2
  have ez : ∀ h, vl_z (fun _ _ => 0) h = (fun _ _ => 0) := fun h => vl_z_id (fun _ => rfl)
  refine ⟨w, 10000000000000, hw, ?_⟩
  unfold fn_L_start
  rw [pu_lt, ez, e1, Option.bind_some, e2, Option.bind_some, f1, Option.bind_some, pu_lt, ez, Option.bind_some, Option.bind_some, f2, Option.bind_some]
  unfold fn_L_law
  exact t_law (Nat.le_refl _) hsc (fun n m r φ h => hpack w _ n m r φ (Nat.le_refl _) h) 600 _ 1 2 m r φ ⟨by omega, by omega⟩ (by omega) (by omega) (by omega) f3
