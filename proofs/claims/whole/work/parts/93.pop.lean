/-! ===== PURE, 54: the heap, popping ===== -/
/-- the lesser below p, among n -/
theorem h_lb {m mm : vl_M} {x y p n : Int} (hx : 0 ≤ x ∧ x ≤ 32767) (hy : 0 ≤ y ∧ y ≤ 32767) (he : n_eq m mm) (hp : 0 ≤ p ∧ p ≤ 807) (hn : 0 ≤ n ∧ n ≤ 806) (h4 : mm 19 4 = n) (hall : ∀ i, 0 ≤ i → i < n → i ≠ p → n_st m (mm 20 i) ∧ mm 21 (mm 20 i) = n_sq (c_rt m (mm 20 i)) x y) : ∃ b, fn_X2_lesserBelow mm p = some b ∧ (b = 2 * p + 1 ∨ (b = 2 * p + 2 ∧ 2 * p + 2 < n)) ∧ ∀ i, 0 < i → i < n → (i - 1) / 2 = p → lx (n_key m x y (mm 20 i)) (n_key m x y (mm 20 b)) = false := by
  unfold fn_X2_lesserBelow
  rw [pu_lt, pu_gd ⟨by omega, by omega⟩, h4]
  by_cases c : 2 * p + 1 + 1 < n
  · obtain ⟨a1, a2⟩ := hall (2 * p + 1 + 1) (by omega) c (by omega)
    obtain ⟨b1, b2⟩ := hall (2 * p + 1) (by omega) (by omega) (by omega)
    have hb := n_bf hx hy he a1 b1 a2 b2
    rw [pu_gd ⟨by omega, by omega⟩, if_pos c, pu_gd ⟨by omega, by omega⟩, pu_gd ⟨by omega, by omega⟩, hb, Option.bind_some]
    by_cases cb : lx (n_key m x y (mm 20 (2 * p + 1 + 1))) (n_key m x y (mm 20 (2 * p + 1))) = true
    · rw [if_pos cb, pu_gd (by decide), if_neg (by decide)]
      refine ⟨2 * p + 1 + 1, rfl, Or.inr ⟨by omega, by omega⟩, fun i i1 i2 i3 => ?_⟩
      by_cases e : i = 2 * p + 1 + 1
      · rw [e, lx_irr]
      · rw [show i = 2 * p + 1 by omega]
        exact lx_asym cb
    · rw [if_neg cb, pu_gd (by decide), if_pos rfl]
      refine ⟨2 * p + 1, rfl, Or.inl rfl, fun i i1 i2 i3 => ?_⟩
      by_cases e : i = 2 * p + 1
      · rw [e, lx_irr]
      · rw [show i = 2 * p + 1 + 1 by omega]
        cases hh : lx (n_key m x y (mm 20 (2 * p + 1 + 1))) (n_key m x y (mm 20 (2 * p + 1))) with
        | false => rfl
        | true => exact absurd hh cb
  · rw [pu_gd ⟨by omega, by omega⟩, if_neg c]
    refine ⟨2 * p + 1, rfl, Or.inl rfl, fun i i1 i2 i3 => ?_⟩
    rw [show i = 2 * p + 1 by omega, lx_irr]
/-- sinking -/
theorem h_dn {N : Nat} {m : vl_M} {x y s top n : Int} {Q : List Int} {κ : Int → Int → vl_M → Option (Int × vl_M)} (hx : 0 ≤ x ∧ x ≤ 32767) (hy : 0 ≤ y ∧ y ≤ 32767) (hn : 0 ≤ n ∧ n ≤ 806) (hs : n_st m s) : ∀ (fu : Nat) (p b : Int) (mm : vl_M), 0 ≤ p → (p < n ∨ p = 0) → n - p < (fu : Int) → n_eq m mm → mm 19 4 = n → mm 21 s = n_sq (c_rt m s) x y → (∀ i, 0 ≤ i → i < n → i ≠ p → n_st m (mm 20 i) ∧ mm 21 (mm 20 i) = n_sq (c_rt m (mm 20 i)) x y) → h_S (h_u (mm 20) p s) n Q → (∀ i, 0 < i → i < n → (i - 1) / 2 ≠ p → lx (n_key m x y (h_u (mm 20) p s i)) (n_key m x y (h_u (mm 20) p s ((i - 1) / 2))) = false) → (0 < p → ∀ i, 0 < i → i < n → (i - 1) / 2 = p → lx (n_key m x y (mm 20 i)) (n_key m x y (mm 20 ((p - 1) / 2))) = false) → (b = 2 * p + 1 ∨ (b = 2 * p + 2 ∧ 2 * p + 2 < n)) → (∀ i, 0 < i → i < n → (i - 1) / 2 = p → lx (n_key m x y (mm 20 i)) (n_key m x y (mm 20 b)) = false) →
    ∃ q z mm', fn_X2_pop_L36 N top s κ fu p b mm = κ q z mm' ∧ (0 ≤ q ∧ q ≤ 806) ∧ ((∀ h : Nat, h ≠ 20 → mm' h = mm h) ∧ h_S (h_u (mm' 20) q s) n Q ∧ h_P (n_key m x y) (h_u (mm' 20) q s) n) := by
  intro fu
  induction fu with
  | zero => intro p b mm h1 h2 h3; omega
  | succ fu ih =>
    intro p b mm h1 h2 h3 he h4 hsq hall hS hJ1 hJ2 hb hmin
    by_cases c : b < n
    · obtain ⟨o1, o2⟩ := hall b (by omega) c (by omega)
      have hbf := n_bf hx hy he o1 hs o2 hsq
      by_cases cb : lx (n_key m x y (mm 20 b)) (n_key m x y s) = true
      · rw [if_pos cb] at hbf
        have hbp : (b - 1) / 2 = p := by omega
        generalize hm1 : vl_up mm 20 p (mm 20 b) = m1
        have m1h : ∀ h : Nat, h ≠ 20 → m1 h = mm h := fun h z => by rw [← hm1, up_h _ _ _ z]
        have m120 : m1 20 = h_u (mm 20) p (mm 20 b) := by rw [← hm1, h_u_up]
        have e20 : ∀ i, i ≠ p → m1 20 i = mm 20 i := fun i z => by rw [m120, h_u_n _ _ z]
        have e20p : m1 20 p = mm 20 b := by rw [m120, h_u_s]
        have v1 : ∀ i, i ≠ p → i ≠ b → h_u (m1 20) b s i = mm 20 i := fun i z1 z2 => by rw [h_u_n _ _ z2, e20 i z1]
        have v2 : h_u (m1 20) b s p = mm 20 b := by rw [h_u_n _ _ (by omega), e20p]
        have v3 : h_u (m1 20) b s b = s := h_u_s _ _ _
        have he1 : n_eq m m1 := fun h z1 z2 z3 => by rw [m1h h z2, he h z1 z2 z3]
        have hall1 : ∀ i, 0 ≤ i → i < n → i ≠ b → n_st m (m1 20 i) ∧ m1 21 (m1 20 i) = n_sq (c_rt m (m1 20 i)) x y := fun i i1 i2 i3 => by
          rw [m1h 21 (by decide)]
          by_cases e : i = p
          · rw [e, e20p]; exact ⟨o1, o2⟩
          · rw [e20 i e]; exact hall i i1 i2 e
        obtain ⟨b', f1, f2, f3⟩ := h_lb (m := m) (mm := m1) (p := b) (n := n) hx hy he1 ⟨by omega, by omega⟩ hn (by rw [m1h 19 (by decide)]; exact h4) hall1
        obtain ⟨q, z, mm', g1, g2, g3, g4⟩ := ih b b' m1 (by omega) (Or.inl c) (by omega) he1 (by rw [m1h 19 (by decide)]; exact h4) (by rw [m1h 21 (by decide)]; exact hsq) hall1 (by
          refine h_S_swap (H1 := h_u (mm 20) p s) (p := p) (q := b) ⟨by omega, by omega⟩ ⟨by omega, by omega⟩ ?_ ?_ (fun i z1 z2 => ?_) hS
          · rw [v2, h_u_n _ _ (by omega)]
          · rw [v3, h_u_s]
          · rw [v1 i z1 z2, h_u_n _ _ z1]) (fun i i1 i2 i3 => by
          by_cases e : i = b
          · rw [e, v3, hbp, v2]; exact lx_asym cb
          · by_cases e0 : i = p
            · rw [e0, v2, v1 _ (by omega) (by omega)]
              exact hJ2 (by omega) b (by omega) c hbp
            · rw [v1 i e0 e]
              by_cases e1 : (i - 1) / 2 = p
              · rw [e1, v2]; exact hmin i i1 i2 e1
              · rw [v1 _ e1 i3]
                have := hJ1 i i1 i2 e1
                rw [h_u_n _ _ e0, h_u_n _ _ e1] at this
                exact this) (fun _ i i1 i2 i3 => by
          rw [hbp, e20p, e20 i (by omega)]
          have := hJ1 i i1 i2 (by omega)
          rw [h_u_n _ _ (by omega), i3, h_u_n _ _ (by omega)] at this
          exact this) f2 f3
        refine ⟨q, z, mm', ?_, g2, ⟨fun h z => by rw [g3 h z, m1h h z], g4⟩⟩
        rw [fn_X2_pop_L36, pu_gd ⟨by omega, by omega⟩, h4, pu_gd ⟨by omega, by omega⟩, if_pos c, pu_gd ⟨by omega, by omega⟩, hbf, Option.bind_some, pu_gd (by decide), if_neg (by decide), pu_gd ⟨by omega, by omega⟩, pu_lt, hm1, f1, Option.bind_some, g1]
      · rw [if_neg cb] at hbf
        have cb' : lx (n_key m x y (mm 20 b)) (n_key m x y s) = false := by
          cases hh : lx (n_key m x y (mm 20 b)) (n_key m x y s) with
          | false => rfl
          | true => exact absurd hh cb
        refine ⟨p, b, mm, ?_, ⟨h1, by omega⟩, ⟨fun _ _ => rfl, hS, fun i i1 i2 => ?_⟩⟩
        · rw [fn_X2_pop_L36, pu_gd ⟨by omega, by omega⟩, h4, pu_gd ⟨by omega, by omega⟩, if_pos c, pu_gd ⟨by omega, by omega⟩, hbf, Option.bind_some, pu_gd (by decide), if_pos rfl]
        · by_cases e : (i - 1) / 2 = p
          · rw [e, h_u_s, h_u_n _ _ (by omega)]
            exact lx_le (hmin i i1 i2 e) cb' rfl rfl
          · exact hJ1 i i1 i2 e
    · refine ⟨p, b, mm, ?_, ⟨h1, by omega⟩, ⟨fun _ _ => rfl, hS, fun i i1 i2 => ?_⟩⟩
      · rw [fn_X2_pop_L36, pu_gd ⟨by omega, by omega⟩, h4, pu_gd ⟨by omega, by omega⟩, if_neg c]
      · by_cases e : (i - 1) / 2 = p
        · omega
        · exact hJ1 i i1 i2 e
/-- the first is before all -/
theorem h_top {K : Int → List Int} {H : Int → Int} {n : Int} (hK : ∀ a b, (K a).length = (K b).length) (h : h_P K H n) : ∀ (k : Nat) (i : Int), i ≤ (k : Int) → 0 ≤ i → i < n → lx (K (H i)) (K (H 0)) = false := by
  intro k
  induction k with
  | zero => intro i h1 h2 h3; rw [show i = 0 by omega, lx_irr]
  | succ k ih =>
    intro i h1 h2 h3
    by_cases c : i = 0
    · rw [c, lx_irr]
    · exact lx_le (h i (by omega) h3) (ih ((i - 1) / 2) (by omega) (by omega) (by omega)) (hK _ _) (hK _ _)
theorem h_pop {N : Nat} {m mm : vl_M} {x y : Int} {Q : List Int} (hN : 100000 ≤ N) (hx : 0 ≤ x ∧ x ≤ 32767) (hy : 0 ≤ y ∧ y ≤ 32767) (h : n_Q m mm x y Q) (hpos : 0 < Q.length) (hlen : (Q.length : Int) ≤ 806) : ∃ t mm', fn_X2_pop N mm = some (t, mm') ∧ t ∈ Q ∧ (∀ z, z ∈ Q → lx (n_key m x y z) (n_key m x y t) = false) ∧ n_Q m mm' x y (Q.filter (fun z => decide (z ≠ t))) ∧ (∀ j, j ≠ 4 → mm' 19 j = mm 19 j) ∧ mm' 21 = mm 21 := by
  obtain ⟨⟨he, h4, hnd⟩, hS, hP, hall⟩ := h
  have hin : ∀ i, 0 ≤ i → i < (Q.length : Int) → mm 20 i ∈ Q := fun i i1 i2 => (hS.1 _).mpr ⟨i, i1, i2, rfl⟩
  have ht : mm 20 0 ∈ Q := hin 0 (by omega) (by omega)
  have hQl : ((Q.filter (fun z => decide (z ≠ mm 20 0))).length : Int) = (Q.length : Int) - 1 := by
    have := (pu_perm_out Q hnd ht).length_eq
    rw [List.length_cons] at this
    omega
  generalize hm4 : vl_up mm 19 4 (mm 19 4 - 1) = m4
  have m4h : ∀ h : Nat, h ≠ 19 → m4 h = mm h := fun h a => by rw [← hm4, up_h _ _ _ a]
  have m44 : m4 19 4 = (Q.length : Int) - 1 := by rw [← hm4, up_s, h4]
  have m4j : ∀ j, j ≠ 4 → m4 19 j = mm 19 j := fun j hj => by rw [← hm4, up_i _ _ hj]
  have he4 : n_eq m m4 := fun h a b c => by rw [m4h h a, he h a b c]
  have m420 : m4 20 = mm 20 := m4h 20 (by decide)
  have m421 : m4 21 = mm 21 := m4h 21 (by decide)
  have hsin := hin ((Q.length : Int) - 1) (by omega) (by omega)
  obtain ⟨hs1, hs2⟩ := hall _ hsin
  have hall4 : ∀ i, 0 ≤ i → i < (Q.length : Int) - 1 → i ≠ 0 → n_st m (m4 20 i) ∧ m4 21 (m4 20 i) = n_sq (c_rt m (m4 20 i)) x y := fun i i1 i2 _ => by
    rw [m420, m421]; exact hall _ (hin i i1 (by omega))
  obtain ⟨b, f1, f2, f3⟩ := h_lb (m := m) (mm := m4) (p := 0) (n := (Q.length : Int) - 1) hx hy he4 ⟨by omega, by omega⟩ ⟨by omega, by omega⟩ m44 hall4
  generalize hs : mm 20 ((Q.length : Int) - 1) = s at *
  obtain ⟨q, z, mm', g1, g2, g3, g4, g5⟩ := h_dn (N := N) (m := m) (s := s) (top := mm 20 0) (n := (Q.length : Int) - 1) (Q := Q.filter (fun z => decide (z ≠ mm 20 0))) (κ := fun (v12 : Int) (v13 : Int) (m14 : vl_M) => vl_gd (0 ≤ v12 ∧ v12 < 807) <| vl_lt (vl_up m14 20 v12 s) fun m15 => some (mm 20 0, m15)) hx hy ⟨by omega, by omega⟩ hs1 N 0 b m4 (by omega) (Or.inr rfl) (by omega) he4 m44 (by rw [m421]; exact hs2) hall4 (by
    rw [m420]
    refine ⟨fun z => ?_, fun i j i1 i2 j1 j2 e => ?_⟩
    · rw [List.mem_filter]
      constructor
      · rintro ⟨a1, a2⟩
        have a2' := of_decide_eq_true a2
        obtain ⟨i, i1, i2, e⟩ := (hS.1 z).mp a1
        have hi0 : i ≠ 0 := fun y => a2' (by rw [← e, y])
        by_cases c : i = (Q.length : Int) - 1
        · exact ⟨0, by omega, by omega, by rw [h_u_s, ← hs, ← c]; exact e⟩
        · exact ⟨i, i1, by omega, by rw [h_u_n _ _ hi0]; exact e⟩
      · rintro ⟨i, i1, i2, e⟩
        by_cases c : i = 0
        · rw [c, h_u_s] at e
          rw [← e, ← hs]
          refine ⟨hin _ (by omega) (by omega), decide_eq_true (fun y => ?_)⟩
          have := hS.2 _ _ (by omega) (by omega) (by omega) (by omega) y
          omega
        · rw [h_u_n _ _ c] at e
          rw [← e]
          refine ⟨hin _ i1 (by omega), decide_eq_true (fun y => ?_)⟩
          have := hS.2 _ _ i1 (by omega) (by omega) (by omega) y
          omega
    · by_cases c : i = 0
      · by_cases c' : j = 0
        · rw [c, c']
        · rw [c, h_u_s, h_u_n _ _ c', ← hs] at e
          have := hS.2 _ _ (by omega) (by omega) j1 (by omega) e
          omega
      · by_cases c' : j = 0
        · rw [c', h_u_s, h_u_n _ _ c, ← hs] at e
          have := hS.2 _ _ i1 (by omega) (by omega) (by omega) e
          omega
        · rw [h_u_n _ _ c, h_u_n _ _ c'] at e
          exact hS.2 i j i1 (by omega) j1 (by omega) e) (fun i i1 i2 i3 => by
    rw [m420, h_u_n _ _ (by omega), h_u_n _ _ i3]
    exact hP i i1 (by omega)) (fun hp => absurd hp (by omega)) f2 f3
  refine ⟨mm 20 0, vl_up mm' 20 q s, ?_, ht, fun z hz => ?_, ⟨⟨?_, ?_, List.Nodup.sublist List.filter_sublist hnd⟩, ?_, ?_, fun z hz => ?_⟩, fun j hj => ?_, ?_⟩
  · unfold fn_X2_pop
    rw [pu_gd ⟨by decide, by decide⟩, pu_lt, pu_lt, hm4, m44, pu_gd ⟨by omega, by omega⟩, pu_lt, m420, hs, f1, Option.bind_some, g1, pu_gd ⟨by omega, by omega⟩, pu_lt]
  · obtain ⟨i, i1, i2, e⟩ := (hS.1 z).mp hz
    rw [← e]
    exact h_top (n_key_len m x y) hP i.toNat i (by omega) i1 i2
  · intro h a b c
    rw [up_h _ _ _ b, g3 h b]; exact he4 h a b c
  · rw [up_h _ _ _ (by decide), g3 19 (by decide), m44, hQl]
  · rw [h_u_up, hQl]; exact g4
  · rw [h_u_up, hQl]; exact g5
  · rw [up_h _ _ _ (by decide), g3 21 (by decide), m421]
    exact hall z (List.mem_filter.mp hz).1
  · rw [up_h _ _ _ (by decide), g3 19 (by decide), m4j j hj]
  · rw [up_h _ _ _ (by decide), g3 21 (by decide), m421]
