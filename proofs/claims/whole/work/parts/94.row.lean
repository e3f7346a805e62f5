/-! ===== PURE, 55: the reference's row ===== -/
theorem h_S_rm {G : Int → Int} {n b : Int} {Q : List Int} (hb : 0 ≤ b ∧ b < n) (h : h_S G n Q) : h_S (h_u G b (G (n - 1))) (n - 1) (Q.filter (fun z => decide (z ≠ G b))) := by
  refine ⟨fun z => ?_, fun i j i1 i2 j1 j2 e => ?_⟩
  · rw [List.mem_filter]
    constructor
    · rintro ⟨a1, a2⟩
      have a2' := of_decide_eq_true a2
      obtain ⟨i, i1, i2, e⟩ := (h.1 z).mp a1
      have hib : i ≠ b := fun y => a2' (by rw [← e, y])
      by_cases c : i = n - 1
      · exact ⟨b, hb.1, by omega, by rw [h_u_s, ← c]; exact e⟩
      · exact ⟨i, i1, by omega, by rw [h_u_n _ _ hib]; exact e⟩
    · rintro ⟨i, i1, i2, e⟩
      by_cases c : i = b
      · rw [c, h_u_s] at e
        rw [← e]
        refine ⟨(h.1 _).mpr ⟨n - 1, by omega, by omega, rfl⟩, decide_eq_true (fun y => ?_)⟩
        have := h.2 _ _ (by omega) (by omega) hb.1 hb.2 y
        omega
      · rw [h_u_n _ _ c] at e
        rw [← e]
        refine ⟨(h.1 _).mpr ⟨i, i1, by omega, rfl⟩, decide_eq_true (fun y => ?_)⟩
        have := h.2 _ _ i1 (by omega) hb.1 hb.2 y
        omega
  · by_cases c : i = b
    · by_cases c' : j = b
      · rw [c, c']
      · rw [c, h_u_s, h_u_n _ _ c'] at e
        have := h.2 _ _ (by omega) (by omega) j1 (by omega) e
        omega
    · by_cases c' : j = b
      · rw [c', h_u_s, h_u_n _ _ c] at e
        have := h.2 _ _ i1 (by omega) (by omega) (by omega) e
        omega
      · rw [h_u_n _ _ c, h_u_n _ _ c'] at e
        exact h.2 i j i1 (by omega) j1 (by omega) e
theorem h_S_add {G : Int → Int} {n s : Int} {Q : List Int} (hn : 0 ≤ n) (hs : s ∉ Q) (h : h_S G n Q) : h_S (h_u G n s) (n + 1) (s :: Q) := by
  have hin : ∀ i, 0 ≤ i → i < n → G i ∈ Q := fun i i1 i2 => (h.1 _).mpr ⟨i, i1, i2, rfl⟩
  refine ⟨fun z => ?_, fun i j i1 i2 j1 j2 e => ?_⟩
  · rw [List.mem_cons]
    constructor
    · rintro (a | a)
      · exact ⟨n, by omega, by omega, by rw [h_u_s, a]⟩
      · obtain ⟨i, i1, i2, e⟩ := (h.1 z).mp a
        exact ⟨i, i1, by omega, by rw [h_u_n _ _ (by omega)]; exact e⟩
    · rintro ⟨i, i1, i2, e⟩
      by_cases c : i = n
      · rw [c, h_u_s] at e; exact Or.inl e.symm
      · rw [h_u_n _ _ c] at e
        exact Or.inr ((h.1 z).mpr ⟨i, i1, by omega, e⟩)
  · by_cases c : i = n
    · by_cases c' : j = n
      · rw [c, c']
      · rw [c, h_u_s, h_u_n _ _ c'] at e
        exact absurd (by rw [e]; exact hin j j1 (by omega)) hs
    · by_cases c' : j = n
      · rw [c', h_u_s, h_u_n _ _ c] at e
        exact absurd (by rw [← e]; exact hin i i1 (by omega)) hs
      · rw [h_u_n _ _ c, h_u_n _ _ c'] at e
        exact h.2 i j i1 (by omega) j1 (by omega) e
/-- what the reference's search leaves alone -/
def n_req (r rr : vl_M) : Prop := (∀ h : Nat, h ≠ 23 → h ≠ 42 → h ≠ 43 → rr h = r h) ∧ ∀ j, j ≠ 27 → j ≠ 28 → j ≠ 29 → j ≠ 37 → rr 23 j = r 23 j
/-- what both know of a thing -/
def n_tw (m r : vl_M) (φ : Int → Int) (s : Int) : Prop := n_st m s ∧ (d_in (m 2 s) (φ s) ∧ d_rt r (m 2 s) (φ s) = c_rt m s) ∧ (m 2 s = -1 ∨ 0 ≤ m 2 s) ∧ (m 2 s = -1 → r 24 (φ s) = m 7 s) ∧ (0 ≤ m 2 s → (r 27 (φ s) ≠ 0 ∧ vl_r32 (r 27 (φ s))) ∧ r 44 (φ s) = m 7 s)
theorem d_ibL {N : Nat} {r : vl_M} {a b : Int} {qa qb : pR} {κ : Int → Option Int} (ha : 0 ≤ a ∧ a < 401) (hb : 0 ≤ b ∧ b < 401) (ea : d_rt r (-1) a = qa) (eb : d_rt r (-1) b = qb) (oa : r_ok qa) (ob : r_ok qb) (hκ : ∀ z, κ z = some 0) (hN : 4 < N) : fn_X8_isBefore_L38 N r a b κ N 0 = some (if lx [qa.1, qa.2.1, qa.2.2.1, qa.2.2.2] [qb.1, qb.2.1, qb.2.2.1, qb.2.2.2] = true then 1 else 0) := by
  obtain ⟨N', rfl⟩ : ∃ k, N = k + 5 := ⟨N - 5, by omega⟩
  have e1 : (r 25 (4 * a), r 25 (4 * a + 1), r 25 (4 * a + 2), r 25 (4 * a + 3)) = qa := by rw [← ea]; unfold d_rt; rw [if_pos (by decide)]
  have e2 : (r 25 (4 * b), r 25 (4 * b + 1), r 25 (4 * b + 2), r 25 (4 * b + 3)) = qb := by rw [← eb]; unfold d_rt; rw [if_pos (by decide)]
  subst e1
  subst e2
  obtain ⟨a1, a2, a3, a4⟩ := r_ok32 oa
  obtain ⟨b1, b2, b3, b4⟩ := r_ok32 ob
  dsimp only at a1 a2 a3 a4 b1 b2 b3 b4 ⊢
  have fin : ∀ (u v : Int) (l k : List Int), u ≠ v → (if u < v then (some (1 : Int)) else some 0) = some (if lx (u :: l) (v :: k) = true then 1 else 0) := fun u v l k hne => by
    by_cases c : u < v
    · rw [if_pos c, if_pos (lx_lt c _ _)]
    · rw [if_neg c, lx_gt (by omega)]; rfl
  rw [fn_X8_isBefore_L38, pu_gd (by decide), if_pos (by decide), Int.add_zero, Int.add_zero, pu_gd ⟨by omega, by omega⟩, pu_gd ⟨by omega, by omega⟩, pu_gd a1, pu_gd b1]
  by_cases c0 : r 25 (4 * a) = r 25 (4 * b)
  · rw [if_pos c0, pu_lt, c0, lx_eq, show (0 : Int) + 1 = 1 by decide, fn_X8_isBefore_L38, pu_gd (by decide), if_pos (by decide), pu_gd ⟨by omega, by omega⟩, pu_gd ⟨by omega, by omega⟩, pu_gd a2, pu_gd b2]
    by_cases c1 : r 25 (4 * a + 1) = r 25 (4 * b + 1)
    · rw [if_pos c1, pu_lt, c1, lx_eq, show (1 : Int) + 1 = 2 by decide, fn_X8_isBefore_L38, pu_gd (by decide), if_pos (by decide), pu_gd ⟨by omega, by omega⟩, pu_gd ⟨by omega, by omega⟩, pu_gd a3, pu_gd b3]
      by_cases c2 : r 25 (4 * a + 2) = r 25 (4 * b + 2)
      · rw [if_pos c2, pu_lt, c2, lx_eq, show (2 : Int) + 1 = 3 by decide, fn_X8_isBefore_L38, pu_gd (by decide), if_pos (by decide), pu_gd ⟨by omega, by omega⟩, pu_gd ⟨by omega, by omega⟩, pu_gd a4, pu_gd b4]
        by_cases c3 : r 25 (4 * a + 3) = r 25 (4 * b + 3)
        · rw [if_pos c3, pu_lt, c3, lx_irr, show (3 : Int) + 1 = 4 by decide, fn_X8_isBefore_L38, pu_gd (by decide), if_neg (by decide), hκ]
          rfl
        · rw [if_neg c3]; exact fin _ _ _ _ c3
      · rw [if_neg c2]; exact fin _ _ _ _ c2
    · rw [if_neg c1]; exact fin _ _ _ _ c1
  · rw [if_neg c0]; exact fin _ _ _ _ c0
theorem d_nearer {N : Nat} {m r rr : vl_M} {φ : Int → Int} {x y i j a b : Int} (hN : 100000 ≤ N) (hx : 0 ≤ x ∧ x ≤ 32767) (hy : 0 ≤ y ∧ y ≤ 32767) (he : n_req r rr) (hi : 0 ≤ i ∧ i < 1000) (hj : 0 ≤ j ∧ j < 1000) (ia : rr 42 i = φ a ∧ rr 43 i = m 2 a) (jb : rr 42 j = φ b ∧ rr 43 j = m 2 b) (ha : n_tw m r φ a) (hb : n_tw m r φ b) (hinj : 0 ≤ m 2 a → 0 ≤ m 2 b → m 7 a = m 7 b → a = b) : fn_X8_isNearer N rr i j x y = some (if lx (n_key m x y a) (n_key m x y b) = true then 1 else 0) := by
  obtain ⟨⟨a1, a2, a3, a4⟩, ⟨a5, a6⟩, a7, a8, a9⟩ := ha
  obtain ⟨⟨b1, b2, b3, b4⟩, ⟨b5, b6⟩, b7, b8, b9⟩ := hb
  have sa := n_sq_le a4 hx hy
  have sb := n_sq_le b4 hx hy
  have ert : ∀ l t, d_rt rr l t = d_rt r l t := fun l t => d_rt_congr (he.1 25 (by decide) (by decide) (by decide)) (he.1 29 (by decide) (by decide) (by decide)) l t
  have fa : fn_X8_far rr (m 2 a) (φ a) x y = some (n_sq (c_rt m a) x y) := d_far a5 (by rw [ert]; exact a6) a4 hx hy
  have fb : fn_X8_far rr (m 2 b) (φ b) x y = some (n_sq (c_rt m b) x y) := d_far b5 (by rw [ert]; exact b6) b4 hx hy
  have r24 : rr 24 = r 24 := he.1 24 (by decide) (by decide) (by decide)
  have r27 : rr 27 = r 27 := he.1 27 (by decide) (by decide) (by decide)
  have r44 : rr 44 = r 44 := he.1 44 (by decide) (by decide) (by decide)
  -- the end, when both distances are known
  have body : ∀ v4 v9 : Int, v4 = n_sq (c_rt m a) x y → v9 = n_sq (c_rt m b) x y → (vl_gd (vl_r64 v4) <| vl_gd (vl_r64 v9) <| if v4 = v9 then (vl_jn (fun (v13 : Int) => 
    vl_jn (fun (v15 : Int) => 
    vl_gd (vl_r32 v13) <| vl_gd (vl_r32 v15) <| if v13 = v15 then (if (m 2 a) < 0 then ((fn_X8_isBefore N rr (φ a) (φ b)).bind fun b26 => vl_gd (b26 = 0 ∨ b26 = 1) <| some (b26)) else vl_gd (0 ≤ (φ a) ∧ (φ a) < 500) <| vl_gd (0 ≤ (φ b) ∧ (φ b) < 500) <| vl_gd (vl_r32 (rr 44 (φ a))) <| vl_gd (vl_r32 (rr 44 (φ b))) <| if (rr 44 (φ a)) < (rr 44 (φ b)) then (some (1)) else some (0)) else if (m 2 a) < 0 then (some (1)) else some (0)) fun κ16 => if (m 2 b) < 0 then (κ16 1) else κ16 0) fun κ14 => if (m 2 a) < 0 then (κ14 1) else κ14 0) else if v4 < v9 then (some (1)) else some (0)) = some (if lx (n_key m x y a) (n_key m x y b) = true then (1 : Int) else 0) := fun v4 v9 h4 h9 => by
    subst h4
    subst h9
    unfold n_key
    rw [pu_gd (pu_r64 (by omega) (by omega)), pu_gd (pu_r64 (by omega) (by omega))]
    by_cases c0 : n_sq (c_rt m a) x y = n_sq (c_rt m b) x y
    · rw [if_pos c0, c0, lx_eq, pu_jn]
      rcases a7 with ea | ea
      · rw [if_pos (by omega), if_pos ea]
        dsimp only
        rw [pu_jn]
        rcases b7 with eb | eb
        · rw [if_pos (by omega), if_pos eb, lx_eq]
          dsimp only
          rw [pu_gd (by decide), pu_gd (by decide), if_pos rfl, if_pos (by omega)]
          have n7a : rr 24 (φ a) = m 7 a := by rw [r24]; exact a8 ea
          have n7b : rr 24 (φ b) = m 7 b := by rw [r24]; exact b8 eb
          rw [ea] at a5 a6
          rw [eb] at b5 b6
          have da : 0 ≤ φ a ∧ φ a < 401 := ⟨a5.2.1, a5.2.2.1 (by decide)⟩
          have db : 0 ≤ φ b ∧ φ b < 401 := ⟨b5.2.1, b5.2.2.1 (by decide)⟩
          have hib : fn_X8_isBefore N rr (φ a) (φ b) = some (if lx [m 7 a, m 3 a, m 4 a, m 5 a, m 6 a] [m 7 b, m 3 b, m 4 b, m 5 b, m 6 b] = true then 1 else 0) := by
            unfold fn_X8_isBefore
            rw [pu_gd da, pu_gd db, n7a, n7b, pu_gd a3, pu_gd b3]
            by_cases c7 : m 7 a = m 7 b
            · rw [if_pos c7, c7, lx_eq]
              exact d_ibL da db (by rw [ert]; exact a6) (by rw [ert]; exact b6) a4 b4 (fun _ => rfl) (by omega)
            · rw [if_neg c7]
              by_cases c8 : m 7 a < m 7 b
              · rw [if_pos c8, if_pos (lx_lt c8 _ _)]
              · rw [if_neg c8, lx_gt (by omega)]; rfl
          rw [hib, Option.bind_some, pu_gd (by by_cases z : lx [m 7 a, m 3 a, m 4 a, m 5 a, m 6 a] [m 7 b, m 3 b, m 4 b, m 5 b, m 6 b] = true; (rw [if_pos z]; exact Or.inr rfl); (rw [if_neg z]; exact Or.inl rfl))]
        · rw [if_neg (show ¬ m 2 b < 0 by omega), if_neg (show ¬ m 2 b = -1 by omega), lx_lt (by decide)]
          dsimp only
          rw [pu_gd (by decide), pu_gd (by decide), if_neg (by decide), if_pos (by omega)]
          rfl
      · rw [if_neg (show ¬ m 2 a < 0 by omega), if_neg (show ¬ m 2 a = -1 by omega)]
        dsimp only
        rw [pu_jn]
        rcases b7 with eb | eb
        · rw [if_pos (by omega), if_pos eb, lx_gt (by decide)]
          dsimp only
          rw [pu_gd (by decide), pu_gd (by decide), if_neg (by decide), if_neg (by omega)]
          rfl
        · obtain ⟨-, w1⟩ := a9 ea
          obtain ⟨-, w2⟩ := b9 eb
          have da : 0 ≤ φ a ∧ φ a < 500 := ⟨a5.2.1, a5.2.2.2 (by omega)⟩
          have db : 0 ≤ φ b ∧ φ b < 500 := ⟨b5.2.1, b5.2.2.2 (by omega)⟩
          rw [if_neg (show ¬ m 2 b < 0 by omega), if_neg (show ¬ m 2 b = -1 by omega), lx_eq]
          dsimp only
          rw [pu_gd (by decide), pu_gd (by decide), if_pos rfl, if_neg (by omega), pu_gd da, pu_gd db, r44, w1, w2, pu_gd a3, pu_gd b3]
          by_cases c7 : m 7 a = m 7 b
          · have := hinj ea eb c7
            rw [this, lx_irr, if_neg (by omega)]
            rfl
          · by_cases c8 : m 7 a < m 7 b
            · rw [if_pos c8, if_pos (lx_lt c8 _ _)]
            · rw [if_neg c8, lx_gt (by omega)]; rfl
    · rw [if_neg c0]
      by_cases c1 : n_sq (c_rt m a) x y < n_sq (c_rt m b) x y
      · rw [if_pos c1, if_pos (lx_lt c1 _ _)]
      · rw [if_neg c1, lx_gt (by omega)]; rfl
  unfold fn_X8_isNearer
  rw [ia.1, ia.2, jb.1, jb.2, r27, pu_gd hi, pu_gd a2, pu_jn, pu_jn]
  have second : ∀ v4 : Int, v4 = n_sq (c_rt m a) x y → (vl_gd (0 ≤ j ∧ j < 1000) <| vl_gd (vl_r32 (m 2 b)) <| vl_jn (fun (v9 : Int) => 
    vl_gd (vl_r64 v4) <| vl_gd (vl_r64 v9) <| if v4 = v9 then (vl_jn (fun (v13 : Int) => 
    vl_jn (fun (v15 : Int) => 
    vl_gd (vl_r32 v13) <| vl_gd (vl_r32 v15) <| if v13 = v15 then (if (m 2 a) < 0 then ((fn_X8_isBefore N rr (φ a) (φ b)).bind fun b26 => vl_gd (b26 = 0 ∨ b26 = 1) <| some (b26)) else vl_gd (0 ≤ (φ a) ∧ (φ a) < 500) <| vl_gd (0 ≤ (φ b) ∧ (φ b) < 500) <| vl_gd (vl_r32 (rr 44 (φ a))) <| vl_gd (vl_r32 (rr 44 (φ b))) <| if (rr 44 (φ a)) < (rr 44 (φ b)) then (some (1)) else some (0)) else if (m 2 a) < 0 then (some (1)) else some (0)) fun κ16 => if (m 2 b) < 0 then (κ16 1) else κ16 0) fun κ14 => if (m 2 a) < 0 then (κ14 1) else κ14 0) else if v4 < v9 then (some (1)) else some (0)) fun κ10 => vl_jn (fun (u_κ35 : Unit) => 
    (fn_X8_far rr (m 2 b) (φ b) x y).bind fun b36 => κ10 b36) fun κ35 => if (m 2 b) < 0 then (κ35 ()) else vl_gd (0 ≤ (φ b) ∧ (φ b) < 500) <| vl_gd (vl_r32 (r 27 (φ b))) <| if (r 27 (φ b)) = 0 then (κ10 0) else κ35 ()) = some (if lx (n_key m x y a) (n_key m x y b) = true then (1 : Int) else 0) := fun v4 h4 => by
    rw [pu_gd hj, pu_gd b2, pu_jn, pu_jn]
    rcases b7 with eb | eb
    · rw [if_pos (by omega)]
      dsimp only
      rw [fb, Option.bind_some]
      exact body v4 _ h4 rfl
    · obtain ⟨⟨w1, w3⟩, -⟩ := b9 eb
      rw [if_neg (by omega), pu_gd ⟨b5.2.1, b5.2.2.2 (by omega)⟩, pu_gd w3, if_neg w1]
      dsimp only
      rw [fb, Option.bind_some]
      exact body v4 _ h4 rfl
  rcases a7 with ea | ea
  · rw [if_pos (by omega)]
    dsimp only
    rw [fa, Option.bind_some]
    exact second _ rfl
  · obtain ⟨⟨w1, w3⟩, -⟩ := a9 ea
    rw [if_neg (by omega), pu_gd ⟨a5.2.1, a5.2.2.2 (by omega)⟩, pu_gd w3, if_neg w1]
    dsimp only
    rw [fa, Option.bind_some]
    exact second _ rfl
