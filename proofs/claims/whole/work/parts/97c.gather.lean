/-! ===== PURE, 60: gathering and slicing ===== -/
theorem c_gaL {N : Nat} {m : vl_M} {κ : Int → vl_M → Option vl_M} (ht : 0 ≤ m 1 13 ∧ m 1 13 ≤ 400) (hV : q_V m) : ∀ (n fu v : Nat) (mm : vl_M), (v : Int) + (n : Int) = m 1 13 → n < fu → (∀ h : Nat, h ≠ 16 → h ≠ 17 → mm h = m h) → (∀ j, j ≠ 3 → mm 16 j = m 16 j) → mm 16 3 = (((pu_seq v 0).filter (fun e => decide (m 2 e = -1))).length : Int) → (∀ (k : Nat) x, ((pu_seq v 0).filter (fun e => decide (m 2 e = -1)))[k]? = some x → mm 17 (k : Int) = x) →
    ∃ mm', fn_X1_gather_L7 N κ fu (v : Int) mm = κ (m 1 13) mm' ∧ (∀ h : Nat, h ≠ 16 → h ≠ 17 → mm' h = m h) ∧ (∀ j, j ≠ 3 → mm' 16 j = m 16 j) ∧ mm' 16 3 = ((q_E m).length : Int) ∧ ∀ (k : Nat) x, (q_E m)[k]? = some x → mm' 17 (k : Int) = x := by
  intro n
  induction n with
  | zero =>
    intro fu v mm h1 h2 hm hj h3 h4
    obtain ⟨fu, rfl⟩ : ∃ x, fu = x + 1 := ⟨fu - 1, by omega⟩
    have e1 : mm 1 = m 1 := hm 1 (by decide) (by decide)
    have ev : (m 1 13).toNat = v := by omega
    refine ⟨mm, ?_, hm, hj, ?_, ?_⟩
    · rw [fn_X1_gather_L7, pu_gd ⟨by omega, by omega⟩, e1, pu_gd ⟨by omega, by omega⟩, if_neg (by omega), show (v : Int) = m 1 13 by omega]
    · unfold q_E; rw [ev]; exact h3
    · unfold q_E; rw [ev]; exact h4
  | succ n ih =>
    intro fu v mm h1 h2 hm hj h3 h4
    obtain ⟨fu, rfl⟩ : ∃ x, fu = x + 1 := ⟨fu - 1, by omega⟩
    have e1 : mm 1 = m 1 := hm 1 (by decide) (by decide)
    have e2 : mm 2 = m 2 := hm 2 (by decide) (by decide)
    have hl := List.length_filter_le (fun e => decide (m 2 e = -1)) (pu_seq v 0)
    rw [pu_seq_len] at hl
    have esn : (pu_seq (v + 1) 0).filter (fun e => decide (m 2 e = -1)) = (pu_seq v 0).filter (fun e => decide (m 2 e = -1)) ++ (if m 2 (v : Int) = -1 then [(v : Int)] else []) := by
      rw [pu_seq_snoc, List.filter_append, show (0 : Int) + (v : Int) = (v : Int) by omega]
      by_cases c : m 2 (v : Int) = -1
      · rw [if_pos c, List.filter_cons_of_pos (by simpa using c), List.filter_nil]
      · rw [if_neg c, List.filter_cons_of_neg (by simpa using c), List.filter_nil]
    have ev : (v : Int) + 1 = ((v + 1 : Nat) : Int) := by omega
    by_cases c : m 2 (v : Int) = -1
    · rw [if_pos c] at esn
      generalize hm1 : vl_up (vl_up mm 16 3 (mm 16 3 + 1)) 17 (mm 16 3) (v : Int) = m1
      have m117 : ∀ k, m1 17 k = if k = mm 16 3 then (v : Int) else mm 17 k := fun k => by
        rw [← hm1]
        by_cases z : k = mm 16 3
        · rw [z, up_s, if_pos rfl]
        · rw [up_i _ _ z, if_neg z, up_h _ _ _ (by decide)]
      obtain ⟨mm', g1, g2⟩ := ih fu (v + 1) m1 (by omega) (by omega) (fun h a b => by rw [← hm1, up_h _ _ _ b, up_h _ _ _ a, hm h a b]) (fun j a => by rw [← hm1, up_h _ _ _ (by decide), up_i _ _ a, hj j a]) (by rw [← hm1, up_h _ _ _ (by decide), up_s, h3, esn, List.length_append]; simp) (fun k x hx => by
        rw [esn] at hx
        rw [m117, h3]
        by_cases z : k < ((pu_seq v 0).filter (fun e => decide (m 2 e = -1))).length
        · rw [List.getElem?_append_left z] at hx
          rw [if_neg (by omega)]
          exact h4 k x hx
        · rw [List.getElem?_append_right (by omega)] at hx
          have hk := (List.getElem?_eq_some_iff.mp hx).1
          have hk2 : k - ((pu_seq v 0).filter (fun e => decide (m 2 e = -1))).length < 1 := by simpa using hk
          have hk0 : k = ((pu_seq v 0).filter (fun e => decide (m 2 e = -1))).length := by omega
          rw [hk0, Nat.sub_self] at hx
          rw [if_pos (by omega)]
          simpa using hx)
      refine ⟨mm', ?_, g2⟩
      rw [fn_X1_gather_L7, pu_gd ⟨by omega, by omega⟩, e1, pu_gd ⟨by omega, by omega⟩, if_pos (by omega), c_isE ⟨by omega, by omega⟩ (by rw [e2]; exact hV v (by omega) (by omega)), Option.bind_some, e2, if_pos c, pu_gd (by decide), pu_jn, if_neg (by decide), pu_lt, pu_gd ⟨by omega, by omega⟩, pu_lt, hm1]
      dsimp only
      rw [pu_lt, ev, g1]
    · rw [if_neg c, List.append_nil] at esn
      obtain ⟨mm', g1, g2⟩ := ih fu (v + 1) mm (by omega) (by omega) hm hj (by rw [esn]; exact h3) (by rw [esn]; exact h4)
      refine ⟨mm', ?_, g2⟩
      rw [fn_X1_gather_L7, pu_gd ⟨by omega, by omega⟩, e1, pu_gd ⟨by omega, by omega⟩, if_pos (by omega), c_isE ⟨by omega, by omega⟩ (by rw [e2]; exact hV v (by omega) (by omega)), Option.bind_some, e2, if_neg c, pu_gd (by decide), pu_jn, if_pos rfl]
      dsimp only
      rw [pu_lt, ev, g1]
theorem d_gaL {N : Nat} {r : vl_M} (h24 : ∀ i, 0 ≤ i → i < 400 → vl_r32 (r 24 i)) : ∀ (n fu v : Nat) (rr : vl_M), v + n = 400 → n < fu → (∀ h : Nat, h ≠ 45 → rr h = r h) → (∀ (k : Nat) x, ((pu_seq v 0).filter (fun i => decide (0 ≤ r 24 i)))[k]? = some x → rr 45 (k : Int) = x) →
    ∃ rr', (∀ κ : Int → Int → vl_M → Option (Int × vl_M), fn_X8_pack_L9 N κ fu (((pu_seq v 0).filter (fun i => decide (0 ≤ r 24 i))).length : Int) (v : Int) rr = κ ((q_Ir r).length : Int) 400 rr') ∧ (∀ h : Nat, h ≠ 45 → rr' h = r h) ∧ ∀ (k : Nat) x, (q_Ir r)[k]? = some x → rr' 45 (k : Int) = x := by
  intro n
  induction n with
  | zero =>
    intro fu v rr h1 h2 hm h4
    obtain ⟨fu, rfl⟩ : ∃ x, fu = x + 1 := ⟨fu - 1, by omega⟩
    have ev : v = 400 := by omega
    subst ev
    refine ⟨rr, fun κ => ?_, hm, h4⟩
    rw [fn_X8_pack_L9, pu_gd ⟨by omega, by omega⟩, if_neg (by omega)]
    rfl
  | succ n ih =>
    intro fu v rr h1 h2 hm h4
    obtain ⟨fu, rfl⟩ : ∃ x, fu = x + 1 := ⟨fu - 1, by omega⟩
    have e24 : rr 24 = r 24 := hm 24 (by decide)
    have hl := List.length_filter_le (fun i => decide (0 ≤ r 24 i)) (pu_seq v 0)
    rw [pu_seq_len] at hl
    have esn : (pu_seq (v + 1) 0).filter (fun i => decide (0 ≤ r 24 i)) = (pu_seq v 0).filter (fun i => decide (0 ≤ r 24 i)) ++ (if 0 ≤ r 24 (v : Int) then [(v : Int)] else []) := by
      rw [pu_seq_snoc, List.filter_append, show (0 : Int) + (v : Int) = (v : Int) by omega]
      by_cases c : 0 ≤ r 24 (v : Int)
      · rw [if_pos c, List.filter_cons_of_pos (by simpa using c), List.filter_nil]
      · rw [if_neg c, List.filter_cons_of_neg (by simpa using c), List.filter_nil]
    have ev : (v : Int) + 1 = ((v + 1 : Nat) : Int) := by omega
    by_cases c : 0 ≤ r 24 (v : Int)
    · rw [if_pos c] at esn
      generalize hr1 : vl_up rr 45 (((pu_seq v 0).filter (fun i => decide (0 ≤ r 24 i))).length : Int) (v : Int) = r1
      have r145 : ∀ k, r1 45 k = if k = (((pu_seq v 0).filter (fun i => decide (0 ≤ r 24 i))).length : Int) then (v : Int) else rr 45 k := fun k => by
        rw [← hr1]
        by_cases z : k = (((pu_seq v 0).filter (fun i => decide (0 ≤ r 24 i))).length : Int)
        · rw [z, up_s, if_pos rfl]
        · rw [up_i _ _ z, if_neg z]
      have elen : (((pu_seq (v + 1) 0).filter (fun i => decide (0 ≤ r 24 i))).length : Int) = (((pu_seq v 0).filter (fun i => decide (0 ≤ r 24 i))).length : Int) + 1 := by rw [esn, List.length_append]; simp
      obtain ⟨rr', g1, g2⟩ := ih fu (v + 1) r1 (by omega) (by omega) (fun h a => by rw [← hr1, up_h _ _ _ a, hm h a]) (fun k x hx => by
        rw [esn] at hx
        rw [r145]
        by_cases z : k < ((pu_seq v 0).filter (fun i => decide (0 ≤ r 24 i))).length
        · rw [List.getElem?_append_left z] at hx
          rw [if_neg (by omega)]
          exact h4 k x hx
        · rw [List.getElem?_append_right (by omega)] at hx
          have hk := (List.getElem?_eq_some_iff.mp hx).1
          have hk2 : k - ((pu_seq v 0).filter (fun i => decide (0 ≤ r 24 i))).length < 1 := by simpa using hk
          have hk0 : k = ((pu_seq v 0).filter (fun i => decide (0 ≤ r 24 i))).length := by omega
          rw [hk0, Nat.sub_self] at hx
          rw [if_pos (by omega)]
          simpa using hx)
      refine ⟨rr', fun κ => ?_, g2⟩
      rw [elen] at g1
      rw [fn_X8_pack_L9, pu_gd ⟨by omega, by omega⟩, if_pos (by omega), pu_gd ⟨by omega, by omega⟩, e24, pu_gd (h24 v (by omega) (by omega)), pu_jn, if_neg (by omega), pu_gd ⟨by omega, by omega⟩, pu_lt, hr1, pu_lt]
      dsimp only
      rw [pu_lt, ev, g1]
    · rw [if_neg c, List.append_nil] at esn
      obtain ⟨rr', g1, g2⟩ := ih fu (v + 1) rr (by omega) (by omega) hm (by rw [esn]; exact h4)
      refine ⟨rr', fun κ => ?_, g2⟩
      rw [esn] at g1
      rw [fn_X8_pack_L9, pu_gd ⟨by omega, by omega⟩, if_pos (by omega), pu_gd ⟨by omega, by omega⟩, e24, pu_gd (h24 v (by omega) (by omega)), pu_jn, if_pos (by omega)]
      dsimp only
      rw [pu_lt, ev, g1]
/-- how many slices -/
theorem q_slices {N : Nat} {m2 r2 : vl_M} {b v5 : Int} (hb : 0 ≤ b ∧ b ≤ 100) : ∀ (n fu fu' : Nat) (s : Int), 1 ≤ s → s + (n : Int) = 21 → n < fu → n < fu' → ∃ s', (∀ κ : Int → Option vl_M, fn_X1_sortSlices_L21 N m2 b κ fu s = κ s') ∧ (∀ κ' : Int → Option (Int × vl_M), fn_X8_pack_L102 N r2 v5 b κ' fu' s = κ' s') ∧ (1 ≤ s' ∧ s' ≤ 21) ∧ b ≤ s' * s' := by
  intro n
  induction n with
  | zero =>
    intro fu fu' s h1 h2 h3 h4
    obtain ⟨fu, rfl⟩ : ∃ x, fu = x + 1 := ⟨fu - 1, by omega⟩
    obtain ⟨fu', rfl⟩ : ∃ x, fu' = x + 1 := ⟨fu' - 1, by omega⟩
    have es : s = 21 := by omega
    subst es
    refine ⟨21, fun κ => ?_, fun κ' => ?_, ⟨by omega, by omega⟩, by omega⟩
    · rw [fn_X1_sortSlices_L21, pu_gd (by decide), pu_gd ⟨by omega, by omega⟩, if_neg (by omega)]
    · rw [fn_X8_pack_L102, pu_gd (by decide), pu_gd ⟨by omega, by omega⟩, if_neg (by omega)]
  | succ n ih =>
    intro fu fu' s h1 h2 h3 h4
    obtain ⟨fu, rfl⟩ : ∃ x, fu = x + 1 := ⟨fu - 1, by omega⟩
    obtain ⟨fu', rfl⟩ : ∃ x, fu' = x + 1 := ⟨fu' - 1, by omega⟩
    have hs1 : s * s ≤ 21 * 21 := Int.mul_le_mul (by omega) (by omega) (by omega) (by omega)
    have hs2 : 0 ≤ s * s := Int.mul_nonneg (by omega) (by omega)
    by_cases c : s * s < b
    · obtain ⟨s', g1, g2, g3⟩ := ih fu fu' (s + 1) (by omega) (by omega) (by omega) (by omega)
      refine ⟨s', fun κ => ?_, fun κ' => ?_, g3⟩
      · rw [fn_X1_sortSlices_L21, pu_gd ⟨by omega, by omega⟩, pu_gd ⟨by omega, by omega⟩, if_pos c, pu_lt, g1]
      · rw [fn_X8_pack_L102, pu_gd ⟨by omega, by omega⟩, pu_gd ⟨by omega, by omega⟩, if_pos c, pu_lt, g2]
    · refine ⟨s, fun κ => ?_, fun κ' => ?_, ⟨h1, by omega⟩, by omega⟩
      · rw [fn_X1_sortSlices_L21, pu_gd ⟨by omega, by omega⟩, pu_gd ⟨by omega, by omega⟩, if_neg c]
      · rw [fn_X8_pack_L102, pu_gd ⟨by omega, by omega⟩, pu_gd ⟨by omega, by omega⟩, if_neg c]
