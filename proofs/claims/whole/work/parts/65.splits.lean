/-! ===== PURE, 26: splitting upwards ===== -/
theorem q_F_mono {k l : Int} {m m' r r' : vl_M} {φ ψ : Int → Int} (h : q_F k m m' r r' φ ψ) (hk : k ≤ l) : q_F l m m' r r' φ ψ := by
  obtain ⟨a, b, ⟨c1, c2, c3⟩, d⟩ := h
  exact ⟨a, b, ⟨c1, c2, by omega⟩, d⟩
theorem q_upL {w N : Nat} {m r : vl_M} {φ : Int → Int} {X : Int → Prop} {a : Int} {κ : Int → vl_M → Option vl_M} (h : q_I w m r φ X a) (hz : ∀ s, c_LN m s → m 9 s ≤ m 1 0) : ∀ (k fu : Nat) (u : Int), c_LN m u → c_con m X k u → k + 1 < fu → fn_X8_put_L39 N κ fu (φ u) r = κ (-2) r := by
  obtain ⟨⟨hP, hK, hA, hR⟩, -, hT, ⟨hsn, hsi, -, -⟩, hrr⟩ := id h
  have hpm : m 1 0 = (w : Int) - 1 := hP.2.1.2
  have hw11 : w ≤ 11 := hP.1.2
  intro k
  induction k with
  | zero =>
    intro fu u hu hc hf
    obtain ⟨fu, rfl⟩ : ∃ x, fu = x + 2 := ⟨fu - 2, by omega⟩
    obtain ⟨⟨b1, b2, b3⟩, -, b5, b6⟩ := hsn u hu
    have hc' : u = m 11 6 := hc
    have h1 := hz u hu
    have h0 := (hK u hu).1.2.1
    rw [fn_X8_put_L39, pu_gd ⟨by omega, by omega⟩, if_neg (by omega), pu_gd b1, pu_lt, b3, pu_gd ⟨by omega, by omega⟩, hrr.2.1.1, pu_gd ⟨by omega, by omega⟩, pu_jn, if_neg (by omega), b6 hc']
    dsimp only
    rw [fn_X8_put_L39, pu_gd (by decide), if_pos (by decide)]
  | succ k ih =>
    intro fu u hu hc hf
    obtain ⟨fu, rfl⟩ : ∃ x, fu = x + 1 := ⟨fu - 1, by omega⟩
    obtain ⟨c1, c2, c3⟩ := hc
    obtain ⟨⟨b1, b2, b3⟩, -, b5, b6⟩ := hsn u hu
    have h1 := hz u hu
    have h0 := (hK u hu).1.2.1
    rw [fn_X8_put_L39, pu_gd ⟨by omega, by omega⟩, if_neg (by omega), pu_gd b1, pu_lt, b3, pu_gd ⟨by omega, by omega⟩, hrr.2.1.1, pu_gd ⟨by omega, by omega⟩, pu_jn, if_neg (by omega), b5 c1 c2]
    exact ih fu (m 8 u) (hA u (Or.inr hu) c1 c2).1 c3 (by omega)
theorem q_splits {w N : Nat} {X : Int → Prop} {κ : Int → Int → vl_M → Option vl_M} {κ' : Int → vl_M → Option vl_M} (hN : 100000 ≤ N) : ∀ (k : Nat) (m r : vl_M) (φ : Int → Int) (s : Int) (fu fu' : Nat) (v : Int), q_I w m r φ X (-1) → c_LN m s → q_Z m s (-1) → c_con m X k s → 0 ≤ v → v + (k : Int) + 1 < 40 → k + 2 < fu → k + 2 < fu' →
    ∃ m' r' ψ z1 z2, fn_X5_splitUpwards_L4 w N κ fu s v m = κ z1 z2 m' ∧ fn_X8_put_L39 N κ' fu' (φ s) r = κ' (-2) r' ∧ q_I w m' r' ψ X (-1) ∧ (q_Z m' (-1) (-1) ∧ (q_W m → q_W m')) ∧ q_F ((k : Int) + 1) m m' r r' φ ψ := by
  intro k
  induction k with
  | zero =>
    intro m r φ s fu fu' v h hs hZ hc v1 v2 h1 h2
    obtain ⟨⟨hP, hK, hA, hR⟩, -, hT, ⟨hsn, hsi, -, -⟩, hrr⟩ := id h
    have hpm : m 1 0 = (w : Int) - 1 := hP.2.1.2
    have hw11 : w ≤ 11 := hP.1.2
    have hsz := (hK s hs).1.2
    have hnd := c_LN_nd hP hs
    have hc' : s = m 11 6 := hc
    obtain ⟨fu, rfl⟩ : ∃ x, fu = x + 2 := ⟨fu - 2, by omega⟩
    obtain ⟨fu', rfl⟩ : ∃ x, fu' = x + 2 := ⟨fu' - 2, by omega⟩
    by_cases c : m 1 0 < m 9 s
    · obtain ⟨m', r', ψ, ⟨e1, e2⟩, ⟨q1, q2, q3⟩, q4, q5⟩ := q_raise hN h (by decide) hs (by omega) hZ hc'
      obtain ⟨⟨b1, b2, b3⟩, -, b5, b6⟩ := hsn s hs
      have hP' := q1.1.1
      have hR' := q1.1.2.2.2
      have hnd' := c_LN_nd hP' hR'.1.1
      have hm0 : m' 1 0 = m 1 0 := q3.1.2.1 0 (by decide) (by decide)
      have hw5 : 5 ≤ w := hP.1.1
      have est : fn_X5_splitUpwards_L4 w N κ (fu + 2) s v m = κ (m' 8 s) (v + 1) m' := by
        rw [e1 κ (fu + 1) v v1 (by omega), q4, fn_X5_splitUpwards_L4, pu_gd ⟨by omega, by omega⟩, if_pos (by omega), pu_gd ⟨by omega, by omega⟩, if_neg (by omega), pu_gd ⟨by omega, by omega⟩, q5, pu_gd (by decide), pu_gd (by rw [hm0]; exact ⟨by omega, by omega⟩), if_neg (by omega)]
      refine ⟨m', r', ψ, _, _, est, ?_, q1, ⟨?_, fun _ _ => by rw [q5]; exact Int.le_refl _⟩, by simpa using q3⟩
      · rw [fn_X8_put_L39, pu_gd ⟨by omega, by omega⟩, if_neg (by omega), pu_gd b1, pu_lt, b3, pu_gd ⟨by omega, by omega⟩, hrr.2.1.1, pu_gd ⟨by omega, by omega⟩, pu_jn, if_pos c, e2, Option.bind_some, b6 hc']
        dsimp only
        rw [fn_X8_put_L39, pu_gd (by decide), if_pos (by decide)]
      · refine ⟨fun t ht => ⟨(q2.1 t ht).1, fun _ => ?_⟩, q2.2⟩
        by_cases ct : t = m' 8 s
        · rw [ct, q4, q5]; omega
        · exact (q2.1 t ht).2 ct
    · have est : fn_X5_splitUpwards_L4 w N κ (fu + 2) s v m = κ s v m := by
        rw [fn_X5_splitUpwards_L4, pu_gd ⟨by omega, by omega⟩, if_pos (by omega), pu_gd ⟨by omega, by omega⟩, if_neg (by omega), pu_gd ⟨by omega, by omega⟩, pu_gd ⟨by omega, by omega⟩, pu_gd ⟨by omega, by omega⟩, if_neg c]
      have hz : ∀ t, c_LN m t → m 9 t ≤ m 1 0 := fun t ht => by
        by_cases ct : t = s
        · rw [ct]; omega
        · exact (hZ.1 t ht).2 ct
      exact ⟨m, r, φ, _, _, est, q_upL h hz 0 _ s hs hc (by omega), h, ⟨⟨fun t ht => ⟨(hZ.1 t ht).1, fun _ => hz t ht⟩, hZ.2⟩, fun z => z⟩, q_F_mono (q_F_refl m r φ) (by omega)⟩
  | succ k ih =>
    intro m r φ s fu fu' v h hs hZ hc v1 v2 h1 h2
    obtain ⟨⟨hP, hK, hA, hR⟩, -, hT, ⟨hsn, hsi, -, -⟩, hrr⟩ := id h
    have hpm : m 1 0 = (w : Int) - 1 := hP.2.1.2
    have hw11 : w ≤ 11 := hP.1.2
    have hsz := (hK s hs).1.2
    have hnd := c_LN_nd hP hs
    obtain ⟨fu, rfl⟩ : ∃ x, fu = x + 1 := ⟨fu - 1, by omega⟩
    obtain ⟨fu', rfl⟩ : ∃ x, fu' = x + 1 := ⟨fu' - 1, by omega⟩
    by_cases c : m 1 0 < m 9 s
    · obtain ⟨m', r', ψ, ⟨e1, e2⟩, ⟨q1, q2, q3⟩, ⟨q4, q5⟩, q6, q7⟩ := q_behind hN h (by decide) hs (by omega) hZ hc
      obtain ⟨⟨b1, b2, b3⟩, -, b5, b6⟩ := hsn s hs
      obtain ⟨c1, c2, c3⟩ := hc
      have hup := (hA s (Or.inr hs) c1 c2).1
      obtain ⟨g1, g2, g3⟩ := q3.2.1.2 _ hup
      rw [q4] at q2
      obtain ⟨m'', r'', χ, z1, z2, f1, f2, f3, f4, f5⟩ := ih m' r' ψ (m 8 s) fu fu' (v + 1) q1 g1 q2 q6 (by omega) (by omega) (by omega) (by omega)
      refine ⟨m'', r'', χ, z1, z2, ?_, ?_, f3, ⟨f4.1, fun z => f4.2 (q7 z)⟩, ?_⟩
      · rw [e1 κ fu v v1 (by omega), q4, f1]
      · rw [fn_X8_put_L39, pu_gd ⟨by omega, by omega⟩, if_neg (by omega), pu_gd b1, pu_lt, b3, pu_gd ⟨by omega, by omega⟩, hrr.2.1.1, pu_gd ⟨by omega, by omega⟩, pu_jn, if_pos c, e2, Option.bind_some, b5 c1 c2, ← g3]
        exact f2
      · exact q_F_mono (q_F_trans q3 f5) (by omega)
    · have est : fn_X5_splitUpwards_L4 w N κ (fu + 1) s v m = κ s v m := by
        rw [fn_X5_splitUpwards_L4, pu_gd ⟨by omega, by omega⟩, if_pos (by omega), pu_gd ⟨by omega, by omega⟩, if_neg (by omega), pu_gd ⟨by omega, by omega⟩, pu_gd ⟨by omega, by omega⟩, pu_gd ⟨by omega, by omega⟩, if_neg c]
      have hz : ∀ t, c_LN m t → m 9 t ≤ m 1 0 := fun t ht => by
        by_cases ct : t = s
        · rw [ct]; omega
        · exact (hZ.1 t ht).2 ct
      exact ⟨m, r, φ, _, _, est, q_upL h hz (k + 1) _ s hs hc (by omega), h, ⟨⟨fun t ht => ⟨(hZ.1 t ht).1, fun _ => hz t ht⟩, hZ.2⟩, fun z => z⟩, q_F_mono (q_F_refl m r φ) (by omega)⟩
