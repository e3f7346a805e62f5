/-! ===== PURE, 43: insert and remove ===== -/
theorem q_top_mono {n w : Nat} {m r : vl_M} {φ : Int → Int} (h : q_top n w m r φ) : q_top (n + 1) w m r φ := by
  obtain ⟨a, ⟨⟨b1, b2, b3, b4⟩, b⟩, c⟩ := h
  exact ⟨a, ⟨⟨b1, ⟨by omega, by omega⟩, ⟨by omega, by omega⟩, ⟨by omega, by omega⟩⟩, b⟩, c⟩
/-- after a change of the tree the nodes are numbered -/
theorem t_fin {n w N : Nat} {m0 m r0 r : vl_M} {φ : Int → Int} (hN : 100000 ≤ N) (hB : q_B w m r φ) (hF : q_Ft 400 m0 m r0 r) (hC : q_Cn n m0 r0) (hS : q_Sr m0 r0) (h18 : m 18 2 = 0) (h20 : r 23 20 = 0) : ∃ m', fn_X5_renumber w N m = some m' ∧ q_top (n + 1) w m' r φ ∧ m' 1 = m 1 ∧ q_O w m' := by
  obtain ⟨⟨hP, hK, hA, hR⟩, -, -, -, hrr⟩ := id hB.1
  obtain ⟨-, hlv, -⟩ := q_B_lv hB
  obtain ⟨m', g1, g2, g3, g4, g5⟩ := c_renumber hP hK hR.1.1 hN (hlv _ hR.1.1)
  obtain ⟨⟨f1, f2⟩, ⟨f3, f4, f5⟩, f6⟩ := hF
  obtain ⟨c1, c2, c3, c4⟩ := hC
  have e11 : ∀ j, j ≠ 5 → m' 11 j = m 11 j := g5
  refine ⟨m', g1, ⟨⟨q_B_cg hB (g3 1 (by decide) (by decide) (by decide)) (g3 2 (by decide) (by decide) (by decide)) (g3 8 (by decide) (by decide) (by decide)) (g3 9 (by decide) (by decide) (by decide)) (g3 10 (by decide) (by decide) (by decide)) (e11 6 (by decide)) (fun u u1 u2 => g4 u (fun z => by have := z.1; omega)) (fun u _ _ => c_rt_congr (g3 3 (by decide) (by decide) (by decide)) (g3 4 (by decide) (by decide) (by decide)) (g3 5 (by decide) (by decide) (by decide)) (g3 6 (by decide) (by decide) (by decide))) (fun _ _ _ => rfl) ⟨rfl, rfl⟩ ⟨rfl, rfl⟩ ⟨by rw [e11 7 (by decide)]; exact hrr.2.2.2.1, by rw [e11 8 (by decide)]; exact hrr.2.2.2.2⟩, g2⟩, ⟨⟨?_, ?_, ?_, ?_⟩, ?_⟩, ⟨?_, ?_⟩, ?_⟩, g3 1 (by decide) (by decide) (by decide), g2⟩
  · rw [e11 9 (by decide)]; omega
  · rw [e11 7 (by decide)]; constructor <;> omega
  · rw [e11 8 (by decide)]; constructor <;> omega
  · rw [e11 9 (by decide)]; constructor <;> omega
  · unfold q_Sr
    rw [g3 19 (by decide) (by decide) (by decide), f1 19 (by decide), f2 27 (by decide), f2 28 (by decide), f2 29 (by decide)]
    exact hS
  · rw [g3 18 (by decide) (by decide) (by decide), h18, h20]
  · rw [g3 18 (by decide) (by decide) (by decide)]; exact Or.inl h18
  · intro z
    rw [g3 18 (by decide) (by decide) (by decide), h18] at z
    exact absurd z (by decide)
/-- the asked one is described -/
theorem t_desc {n w : Nat} {m r : vl_M} {φ : Int → Int} (h : q_top n w m r φ) (a : Int) (q : pR) : q_top n w (c_set (vl_up m 7 805 a) 805 q) r φ ∧ c_set (vl_up m 7 805 a) 805 q 7 805 = a ∧ c_rt (c_set (vl_up m 7 805 a) 805 q) 805 = q ∧ (∀ h : Nat, (h < 3 ∨ 7 < h) → c_set (vl_up m 7 805 a) 805 q h = m h) := by
  have hh : ∀ h : Nat, (h < 3 ∨ 7 < h) → c_set (vl_up m 7 805 a) 805 q h = m h := fun h x => by rw [c_set_h _ _ _ (by omega) (by omega) (by omega) (by omega), up_h _ _ _ (by omega)]
  refine ⟨q_top_cg h (fun h x => hh h (by omega)) (fun u hu => by rw [c_set_h _ _ _ (by decide) (by decide) (by decide) (by decide), up_i _ _ hu]) (fun u hu => by rw [c_set_ne _ _ hu]; exact c_rt_congr (up_h _ _ _ (by decide)) (up_h _ _ _ (by decide)) (up_h _ _ _ (by decide)) (up_h _ _ _ (by decide))) (fun _ _ => rfl) (fun _ _ _ => rfl) ?_, by rw [c_set_h _ _ _ (by decide) (by decide) (by decide) (by decide), up_s], c_set_s _ _ _, hh⟩
  unfold q_Sr
  rw [hh 19 (by omega)]
  exact h.2.1.2
theorem q_N_le {m : vl_M} (h : q_N m) : 0 ≤ m 1 12 ∧ m 1 12 ≤ 400 := by
  unfold q_N at h
  have := pu_cnt_le (fun e => decide (m 2 e = -1 ∧ e < m 1 13)) 400
  omega
theorem t_insert {n w N : Nat} {m r : vl_M} {φ : Int → Int} {a1 a2 a3 a4 a5 : Int} (hN : 100000 ≤ N) (h : q_top n w m r φ) (h1 : vl_r32 a1) (h2 : vl_r32 a2) (h3 : vl_r32 a3) (h4 : vl_r32 a4) (h5 : vl_r32 a5) :
    ∃ v m' r' φ', fn_X7_insert w N m a1 a2 a3 a4 a5 = some (v, m') ∧ fn_X8_insert N r a1 a2 a3 a4 a5 = some (v, r') ∧ vl_r32 v ∧ q_top (n + 1) w m' r' φ' := by
  obtain ⟨i1, i2⟩ := a_id h1
  obtain ⟨c1, c2⟩ := a_rect h2 h3 h4 h5
  obtain ⟨b1, b2⟩ := b_entry h1 h2 h3 h4 h5
  by_cases hid : 0 ≤ a1 ∧ a1 ≤ 999
  · by_cases hq : r_ok (a2, a3, a4, a5)
    · obtain ⟨d1, d2, d3, d4⟩ := t_desc h a1 (a2, a3, a4, a5)
      generalize hm6 : c_set (vl_up m 7 805 a1) 805 (a2, a3, a4, a5) = m6 at *
      obtain ⟨⟨hB, hO⟩, ⟨hC, hS⟩, hW⟩ := id d1
      have hfind := q_find (k := 805) hN hB.1 hB.2.2.1 hB.2.2.2.2 (by decide) (by rw [d2]; exact hid) (by rw [d3]; exact hq)
      rw [d2, d3] at hfind
      dsimp only at hfind
      have h12 := q_N_le hB.2.2.2.1
      have hP := hB.1.1.1
      rcases hfind with ⟨p, p1, p2, p3, p4⟩ | ⟨p1, p2, p3⟩
      · have hlt := c_LE_lt hP p1
        have hφ := (hB.1.2.2.2.1.2.2.2 p p1).1
        refine ⟨-2, m6, r, φ, ?_, ?_, by decide, q_top_mono d1⟩
        · unfold fn_X7_insert
          rw [i1 hid, Option.bind_some, pu_gd (by decide), if_neg (by decide), c1 hq, Option.bind_some, pu_gd (by decide), if_neg (by decide), c_desc (by decide), Option.bind_some, hm6, p3, Option.bind_some, pu_gd ⟨by omega, by omega⟩, if_neg (by omega)]
        · unfold fn_X8_insert
          rw [b1 ⟨hid, hq⟩, Option.bind_some, pu_gd (by decide), if_neg (by decide), p4, Option.bind_some, pu_gd ⟨by omega, by omega⟩, if_neg (by omega)]
      · have hr5 : r 23 5 = m6 1 12 := hB.1.2.2.2.2.2.2.1
        by_cases hc : m6 1 12 < 400
        · have m11h : ∀ h : Nat, h ≠ 18 → vl_up m6 18 2 0 h = m6 h := fun h x => up_h _ _ _ x
          have m11rt : ∀ u, c_rt (vl_up m6 18 2 0) u = c_rt m6 u := fun u => c_rt_congr (m11h 3 (by decide)) (m11h 4 (by decide)) (m11h 5 (by decide)) (m11h 6 (by decide))
          have hrr := hB.1.2.2.2.2
          have hB1 : q_B w (vl_up m6 18 2 0) r φ := q_B_cg hB (m11h 1 (by decide)) (m11h 2 (by decide)) (m11h 8 (by decide)) (m11h 9 (by decide)) (m11h 10 (by decide)) (by rw [m11h 11 (by decide)]) (fun u _ _ => by rw [m11h 7 (by decide)]) (fun u _ _ => m11rt u) (fun _ _ _ => rfl) ⟨rfl, rfl⟩ ⟨rfl, rfl⟩ ⟨by rw [m11h 11 (by decide)]; exact hrr.2.2.2.1, by rw [m11h 11 (by decide)]; exact hrr.2.2.2.2⟩
          have m1118 : vl_up m6 18 2 0 18 2 = 0 := up_s _ _ _ _
          have hshut : fn_X6_shut m6 = some (vl_up m6 18 2 0) := rfl
          generalize hm11 : vl_up m6 18 2 0 = m11 at *
          obtain ⟨o, ψ, m15, r26, ψ', ⟨g1, g2⟩, ⟨g3, g4, g5⟩, g6, g7⟩ := q_insert1 hN hB1 (by rw [m11h 7 (by decide), d2]; exact hid) (by rw [m11rt, d3]; exact hq) (fun e he z => by
            have he' : c_LE m6 e := by
              unfold c_LE at he ⊢
              rw [m11h 1 (by decide), m11h 2 (by decide)] at he
              exact he
            rw [m11h 7 (by decide), m11rt, m11rt, d2, d3] at z
            exact p1 e he' z) (by rw [m11h 1 (by decide)]; exact hc)
          rw [m11h 7 (by decide), m11rt, d2, d3] at g5 g7
          have hrn : vl_up (vl_up (vl_up (vl_up (vl_up (vl_up r 24 o a1) 25 (4 * o) a2) 25 (4 * o + 1) a3) 25 (4 * o + 2) a4) 25 (4 * o + 3) a5) 23 5 (r 23 5 + 1) = d_newe r o a1 (a2, a3, a4, a5) := rfl
          have hr23 : vl_up (vl_up (vl_up (vl_up (vl_up r 24 o a1) 25 (4 * o) a2) 25 (4 * o + 1) a3) 25 (4 * o + 2) a4) 25 (4 * o + 3) a5 23 5 = r 23 5 := by
            rw [up_h _ _ _ (by decide), up_h _ _ _ (by decide), up_h _ _ _ (by decide), up_h _ _ _ (by decide), up_h _ _ _ (by decide)]
          obtain ⟨⟨x1, x2, x3⟩, ⟨x4, x5⟩, ⟨x6, x7, x8⟩, x9, x10⟩ := g7
          have hne : ∀ h : Nat, (h = 0 ∨ 7 < h) → c_newe m11 805 h = m11 h := fun h x => c_newe_h _ _ x
          have hF : q_Ft 400 m11 m15 (vl_up r 23 20 0) r26 := by
            refine ⟨⟨fun h x => by rw [x1 h (by omega), hne h (by omega)], fun j x => ?_⟩, ⟨⟨?_, ?_⟩, ⟨?_, ?_⟩, ⟨?_, ?_⟩⟩, ?_⟩
            · rw [x10 j (by omega) (by omega)]
              by_cases e : j = 20
              · rw [e, up_s, up_s]
              · rw [up_i _ _ e, up_i _ _ e, d_newe_23 _ _ _ _ (by omega)]
            · rw [hne 11 (by omega)] at x7; exact x7
            · rw [hne 11 (by omega)] at x8; omega
            · rw [x3 8 (by decide) (by decide), hne 11 (by omega)]; exact Int.le_refl _
            · rw [x3 8 (by decide) (by decide), hne 11 (by omega)]; omega
            · rw [x3 9 (by decide) (by decide), hne 11 (by omega)]; exact Int.le_refl _
            · rw [x3 9 (by decide) (by decide), hne 11 (by omega)]; omega
            · rw [x10 14 (by decide) (by decide), up_i _ _ (by decide), up_i _ _ (by decide), d_newe_23 _ _ _ _ (by decide), x3 9 (by decide) (by decide), hne 11 (by omega)]; omega
          have hC1 : q_Cn n m11 (vl_up r 23 20 0) := by
            unfold q_Cn
            rw [up_i _ _ (by decide), m11h 11 (by decide)]; exact hC
          have hS1 : q_Sr m11 (vl_up r 23 20 0) := by
            unfold q_Sr
            rw [up_i _ _ (by decide), up_i _ _ (by decide), up_i _ _ (by decide), m11h 19 (by decide)]; exact hS
          obtain ⟨m17, y1, y2, y3, -⟩ := t_fin hN g6 hF hC1 hS1 (by rw [x1 18 (by omega), hne 18 (by omega)]; exact m1118) (by rw [x10 20 (by decide) (by decide), up_s])
          have hv : r26 23 5 = m17 1 12 := by rw [y3]; exact g6.1.2.2.2.2.2.2.1
          have hv2 := q_N_le g6.2.2.2.1
          refine ⟨m17 1 12, m17, r26, ψ', ?_, ?_, by rw [y3]; exact ⟨by omega, by omega⟩, y2⟩
          · unfold fn_X7_insert
            rw [i1 hid, Option.bind_some, pu_gd (by decide), if_neg (by decide), c1 hq, Option.bind_some, pu_gd (by decide), if_neg (by decide), c_desc (by decide), Option.bind_some, hm6, p2, Option.bind_some, pu_gd (by decide), if_pos rfl, pu_gd ⟨by omega, by omega⟩, if_pos hc, hshut, Option.bind_some, g1, Option.bind_some, pu_un, g2, Option.bind_some, y1, Option.bind_some]
          · unfold fn_X8_insert
            rw [b1 ⟨hid, hq⟩, Option.bind_some, pu_gd (by decide), if_neg (by decide), p3, Option.bind_some, pu_gd (by decide), if_pos (by decide), pu_gd ⟨by omega, by omega⟩, if_neg (by omega), g3, pu_gd ⟨by omega, by omega⟩, pu_lt, pu_gd ⟨by omega, by omega⟩, pu_lt, pu_gd ⟨by omega, by omega⟩, pu_lt, pu_gd ⟨by omega, by omega⟩, pu_lt, pu_gd ⟨by omega, by omega⟩, pu_lt, hr23, pu_lt, pu_lt, hrn, g5, Option.bind_some, hv]
        · refine ⟨-3, m6, r, φ, ?_, ?_, by decide, q_top_mono d1⟩
          · unfold fn_X7_insert
            rw [i1 hid, Option.bind_some, pu_gd (by decide), if_neg (by decide), c1 hq, Option.bind_some, pu_gd (by decide), if_neg (by decide), c_desc (by decide), Option.bind_some, hm6, p2, Option.bind_some, pu_gd (by decide), if_pos rfl, pu_gd ⟨by omega, by omega⟩, if_neg hc]
          · unfold fn_X8_insert
            rw [b1 ⟨hid, hq⟩, Option.bind_some, pu_gd (by decide), if_neg (by decide), p3, Option.bind_some, pu_gd (by decide), if_pos (by decide), pu_gd ⟨by omega, by omega⟩, if_pos (by omega)]
    · refine ⟨-1, m, r, φ, ?_, ?_, by decide, q_top_mono h⟩
      · unfold fn_X7_insert
        rw [i1 hid, Option.bind_some, pu_gd (by decide), if_neg (by decide), c2 hq, Option.bind_some, pu_gd (by decide), if_pos rfl]
      · unfold fn_X8_insert
        rw [b2 (fun z => hq z.2), Option.bind_some, pu_gd (by decide), if_pos rfl]
  · refine ⟨-1, m, r, φ, ?_, ?_, by decide, q_top_mono h⟩
    · unfold fn_X7_insert
      rw [i2 hid, Option.bind_some, pu_gd (by decide), if_pos rfl]
    · unfold fn_X8_insert
      rw [b2 (fun z => hid z.1), Option.bind_some, pu_gd (by decide), if_pos rfl]
theorem t_remove {n w N : Nat} {m r : vl_M} {φ : Int → Int} {a1 a2 a3 a4 a5 : Int} (hN : 100000 ≤ N) (h : q_top n w m r φ) (h1 : vl_r32 a1) (h2 : vl_r32 a2) (h3 : vl_r32 a3) (h4 : vl_r32 a4) (h5 : vl_r32 a5) :
    ∃ v m' r' φ', fn_X7_remove w N m a1 a2 a3 a4 a5 = some (v, m') ∧ fn_X8_remove N r a1 a2 a3 a4 a5 = some (v, r') ∧ vl_r32 v ∧ q_top (n + 1) w m' r' φ' := by
  obtain ⟨i1, i2⟩ := a_id h1
  obtain ⟨c1, c2⟩ := a_rect h2 h3 h4 h5
  obtain ⟨b1, b2⟩ := b_entry h1 h2 h3 h4 h5
  by_cases hid : 0 ≤ a1 ∧ a1 ≤ 999
  · by_cases hq : r_ok (a2, a3, a4, a5)
    · obtain ⟨d1, d2, d3, d4⟩ := t_desc h a1 (a2, a3, a4, a5)
      generalize hm6 : c_set (vl_up m 7 805 a1) 805 (a2, a3, a4, a5) = m6 at *
      obtain ⟨⟨hB, hO⟩, ⟨hC, hS⟩, hW⟩ := id d1
      have hfind := q_find (k := 805) hN hB.1 hB.2.2.1 hB.2.2.2.2 (by decide) (by rw [d2]; exact hid) (by rw [d3]; exact hq)
      rw [d2, d3] at hfind
      dsimp only at hfind
      have hP := hB.1.1.1
      rcases hfind with ⟨p, p1, p2, p3, p4⟩ | ⟨p1, p2, p3⟩
      · have hlt := c_LE_lt hP p1
        have hφ := (hB.1.2.2.2.1.2.2.2 p p1).1
        have m11h : ∀ h : Nat, h ≠ 18 → vl_up m6 18 2 0 h = m6 h := fun h x => up_h _ _ _ x
        have m11rt : ∀ u, c_rt (vl_up m6 18 2 0) u = c_rt m6 u := fun u => c_rt_congr (m11h 3 (by decide)) (m11h 4 (by decide)) (m11h 5 (by decide)) (m11h 6 (by decide))
        have r5h : ∀ h : Nat, h ≠ 23 → vl_up r 23 20 0 h = r h := fun h x => up_h _ _ _ x
        have r5j : ∀ j, j ≠ 20 → vl_up r 23 20 0 23 j = r 23 j := fun j x => up_i _ _ x
        have hrr := hB.1.2.2.2.2
        have hB1 : q_B w (vl_up m6 18 2 0) (vl_up r 23 20 0) φ := q_B_cg hB (m11h 1 (by decide)) (m11h 2 (by decide)) (m11h 8 (by decide)) (m11h 9 (by decide)) (m11h 10 (by decide)) (by rw [m11h 11 (by decide)]) (fun u _ _ => by rw [m11h 7 (by decide)]) (fun u _ _ => m11rt u) (fun h x y => r5h h (by omega)) ⟨r5j 1 (by decide), r5j 2 (by decide)⟩ ⟨r5j 5 (by decide), r5j 11 (by decide)⟩ ⟨by rw [r5j 12 (by decide), m11h 11 (by decide)]; exact hrr.2.2.2.1, by rw [r5j 13 (by decide), m11h 11 (by decide)]; exact hrr.2.2.2.2⟩
        have m1118 : vl_up m6 18 2 0 18 2 = 0 := up_s _ _ _ _
        have r520 : vl_up r 23 20 0 23 20 = 0 := up_s _ _ _ _
        have hshut : fn_X6_shut m6 = some (vl_up m6 18 2 0) := rfl
        generalize hm11 : vl_up m6 18 2 0 = m11 at *
        generalize hr5 : vl_up r 23 20 0 = r5 at *
        have hpE : c_LE m11 p := by
          unfold c_LE
          rw [m11h 1 (by decide), m11h 2 (by decide)]; exact p1
        obtain ⟨m12, r12, ψ, g1, g2, g3, g4⟩ := q_remove1 hN hB1 hpE
        have hC1 : q_Cn n m11 r5 := by
          unfold q_Cn
          rw [r5j 14 (by decide), m11h 11 (by decide)]; exact hC
        have hS1 : q_Sr m11 r5 := by
          unfold q_Sr
          rw [r5j 27 (by decide), r5j 28 (by decide), r5j 29 (by decide), m11h 19 (by decide)]; exact hS
        obtain ⟨m14, y1, y2, y3, -⟩ := t_fin hN g3 g4 hC1 hS1 (by rw [g4.1.1 18 (by decide)]; exact m1118) (by rw [g4.1.2 20 (by decide)]; exact r520)
        have hv : r12 23 5 = m14 1 12 := by rw [y3]; exact g3.1.2.2.2.2.2.2.1
        have hv2 := q_N_le g3.2.2.2.1
        refine ⟨m14 1 12, m14, r12, ψ, ?_, ?_, by rw [y3]; exact ⟨by omega, by omega⟩, y2⟩
        · unfold fn_X7_remove
          rw [i1 hid, Option.bind_some, pu_gd (by decide), if_neg (by decide), c1 hq, Option.bind_some, pu_gd (by decide), if_neg (by decide), c_desc (by decide), Option.bind_some, hm6, p3, Option.bind_some, pu_gd ⟨by omega, by omega⟩, if_neg (by omega), hshut, Option.bind_some, g1, Option.bind_some, y1, Option.bind_some]
        · unfold fn_X8_remove
          rw [b1 ⟨hid, hq⟩, Option.bind_some, pu_gd (by decide), if_neg (by decide), p4, Option.bind_some, pu_gd ⟨by omega, by omega⟩, if_neg (by omega), pu_lt, hr5, g2, hv]
      · refine ⟨-2, m6, r, φ, ?_, ?_, by decide, q_top_mono d1⟩
        · unfold fn_X7_remove
          rw [i1 hid, Option.bind_some, pu_gd (by decide), if_neg (by decide), c1 hq, Option.bind_some, pu_gd (by decide), if_neg (by decide), c_desc (by decide), Option.bind_some, hm6, p2, Option.bind_some, pu_gd (by decide), if_pos rfl]
        · unfold fn_X8_remove
          rw [b1 ⟨hid, hq⟩, Option.bind_some, pu_gd (by decide), if_neg (by decide), p3, Option.bind_some, pu_gd (by decide), if_pos (by decide)]
    · refine ⟨-1, m, r, φ, ?_, ?_, by decide, q_top_mono h⟩
      · unfold fn_X7_remove
        rw [i1 hid, Option.bind_some, pu_gd (by decide), if_neg (by decide), c2 hq, Option.bind_some, pu_gd (by decide), if_pos rfl]
      · unfold fn_X8_remove
        rw [b2 (fun z => hq z.2), Option.bind_some, pu_gd (by decide), if_pos rfl]
  · refine ⟨-1, m, r, φ, ?_, ?_, by decide, q_top_mono h⟩
    · unfold fn_X7_remove
      rw [i2 hid, Option.bind_some, pu_gd (by decide), if_pos rfl]
    · unfold fn_X8_remove
      rw [b2 (fun z => hid z.1), Option.bind_some, pu_gd (by decide), if_pos rfl]
