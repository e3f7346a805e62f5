/-! ===== PURE, 45: counts, nodes, what they hold ===== -/
theorem c_pre_self (w : Nat) (m : vl_M) (n : Nat) (u : Int) : u ∈ c_pre w m n u := by
  cases n with
  | zero => show u ∈ [u]; exact List.mem_cons_self
  | succ n => exact List.mem_cons_self
theorem c_pre_up {w : Nat} {m : vl_M} {X : Int → Prop} (hK : s_K w m X) : ∀ (n : Nat) (u x : Int), c_LN m u → m 2 u = (n : Int) → x ∈ c_pre w m n u → x ≠ u → m 8 x ∈ c_pre w m n u := by
  intro n
  induction n with
  | zero =>
    intro u x hu hl hx hne
    have e : x = u := by simpa [c_pre] using hx
    exact absurd e hne
  | succ n ih =>
    intro u x hu hl hx hne
    obtain ⟨c, hc1, hc2⟩ := List.mem_flatMap.mp ((List.mem_cons.mp hx).resolve_left hne)
    obtain ⟨k1, k2, k3, -⟩ := c_kid_LN hK hu (by omega) hc1
    by_cases e : x = c
    · rw [e, k3]; exact c_pre_self _ _ _ _
    · exact List.mem_cons_of_mem _ (List.mem_flatMap.mpr ⟨c, hc1, ih c x k1 (by omega) hc2 e⟩)
theorem c_pre_dn {w : Nat} {m : vl_M} {X : Int → Prop} (hK : s_K w m X) : ∀ (n : Nat) (u x c : Int), c_LN m u → m 2 u = (n : Int) → x ∈ c_pre w m n u → 0 < m 2 x → c ∈ c_kids w m x → c ∈ c_pre w m n u := by
  intro n
  induction n with
  | zero =>
    intro u x c hu hl hx h0 hc
    have e : x = u := by simpa [c_pre] using hx
    rw [e] at h0
    omega
  | succ n ih =>
    intro u x c hu hl hx h0 hc
    rcases List.mem_cons.mp hx with e | hx
    · rw [e] at hc
      exact List.mem_cons_of_mem _ (List.mem_flatMap.mpr ⟨c, hc, c_pre_self _ _ _ _⟩)
    · obtain ⟨d, hd1, hd2⟩ := List.mem_flatMap.mp hx
      obtain ⟨k1, k2, k3, -⟩ := c_kid_LN hK hu (by omega) hd1
      exact List.mem_cons_of_mem _ (List.mem_flatMap.mpr ⟨d, hd1, ih d x c k1 (by omega) hd2 h0 hc⟩)
/-- the reference has found its order -/
theorem q_fo {n w N : Nat} {m r : vl_M} {φ : Int → Int} (hN : 100000 ≤ N) (h : q_top n w m r φ) : ∃ r', fn_X8_findOrder N r = some r' ∧ q_top n w m r' φ ∧ (r' 23 19 = ((c_ord w m).length : Int) ∧ ∀ (k : Nat) x, (c_ord w m)[k]? = some x → r' 33 (k : Int) = φ x ∧ r' 44 (φ x) = (k : Int)) ∧ (∀ h : Nat, h ≠ 23 → h ≠ 33 → h ≠ 44 → r' h = r h) ∧ (∀ j, j ≠ 19 → r' 23 j = r 23 j) := by
  obtain ⟨⟨hB, hO⟩, ⟨hC, hS⟩, hW⟩ := id h
  obtain ⟨-, hlv, -⟩ := q_B_lv hB
  obtain ⟨r', g1, g2, g3, g4⟩ := q_findOrder hN hB.1 (hlv _ hB.1.1.2.2.2.1.1)
  refine ⟨r', g1, q_top_cg h (fun _ _ => rfl) (fun _ _ => rfl) (fun _ _ => rfl) (fun h x => g3 h (by omega) (by omega) (by omega)) (fun j x y => g4 j (by omega)) ?_, g2, g3, g4⟩
  unfold q_Sr
  rw [g4 27 (by decide), g4 28 (by decide), g4 29 (by decide)]
  exact hS
theorem t_distance {n w : Nat} {m r : vl_M} {φ : Int → Int} (h : q_top n w m r φ) : ∃ v, fn_X7_distance m = some v ∧ fn_X8_distance r = some v ∧ vl_r32 v := by
  obtain ⟨-, ⟨-, -, hS⟩, -⟩ := h
  unfold fn_X7_distance fn_X8_distance
  rcases hS with ⟨s1, s2⟩ | ⟨s1, s2, s3, s4⟩
  · exact ⟨-1, by rw [s2], by rw [s1, pu_gd (by decide), if_pos rfl], by decide⟩
  · exact ⟨m 19 6, rfl, by rw [s1, pu_gd (by decide), if_neg (by decide), s2], ⟨by omega, by omega⟩⟩
theorem t_count {n w N : Nat} {m r : vl_M} {φ : Int → Int} {a : Int} (hN : 100000 ≤ N) (hn : n ≤ 1000) (h : q_top n w m r φ) (ha : vl_r32 a) : ∃ v r', fn_X7_count m a = some v ∧ fn_X8_count N r a = some (v, r') ∧ vl_r32 v ∧ q_top n w m r' φ := by
  obtain ⟨⟨hB, hO⟩, ⟨⟨hC1, hC2, hC3, hC4⟩, hS⟩, hW⟩ := id h
  obtain ⟨⟨hP, hK, hA, hR⟩, -, hT, ⟨hsn, -⟩, ⟨q1, ⟨q2, q3⟩, q4, q5, q6⟩⟩ := id hB.1
  obtain ⟨n1, n2, n3⟩ := c_ord_nodup hP hK hR.1.1
  have h12 := q_N_le hB.2.2.2.1
  obtain ⟨⟨b1, b2, b3⟩, -⟩ := hsn _ hR.1.1
  have hrl := (hK _ hR.1.1).1.1
  have hrl0 := hR.1.1.2
  have hrnd := c_LN_nd hP hR.1.1
  have hpm := hP.2.1.2
  have hpl := hP.2.2.1
  have hw11 := hP.1.2
  obtain ⟨r', g1, g2, ⟨g3, -⟩, -, -⟩ := q_fo hN h
  unfold fn_X7_count fn_X8_count
  rw [pu_gd ha, pu_gd ha]
  by_cases c0 : a = 0
  · rw [if_pos c0, if_pos c0, q4]; exact ⟨_, _, rfl, rfl, ⟨by omega, by omega⟩, h⟩
  rw [if_neg c0, if_neg c0]
  by_cases c1 : a = 1
  · rw [if_pos c1, if_pos c1, pu_gd ⟨by omega, by omega⟩, q1, pu_gd b1, b2]; exact ⟨_, _, rfl, rfl, ⟨by omega, by omega⟩, h⟩
  rw [if_neg c1, if_neg c1]
  by_cases c2 : a = 2
  · rw [if_pos c2, if_pos c2, g1, Option.bind_some, hO.1, g3]; exact ⟨_, _, rfl, rfl, ⟨by omega, by omega⟩, g2⟩
  rw [if_neg c2, if_neg c2]
  by_cases c3 : a = 3
  · rw [if_pos c3, if_pos c3, q5]; exact ⟨_, _, rfl, rfl, ⟨by omega, by omega⟩, h⟩
  rw [if_neg c3, if_neg c3]
  by_cases c4 : a = 4
  · rw [if_pos c4, if_pos c4, q6]; exact ⟨_, _, rfl, rfl, ⟨by omega, by omega⟩, h⟩
  rw [if_neg c4, if_neg c4]
  by_cases c5 : a = 5
  · rw [if_pos c5, if_pos c5, hC1]; exact ⟨_, _, rfl, rfl, ⟨by omega, by omega⟩, h⟩
  rw [if_neg c5, if_neg c5]
  by_cases c6 : a = 6
  · rw [if_pos c6, if_pos c6, q2]; exact ⟨_, _, rfl, rfl, ⟨by omega, by omega⟩, h⟩
  rw [if_neg c6, if_neg c6]
  by_cases c7 : a = 7
  · rw [if_pos c7, if_pos c7, q3]; exact ⟨_, _, rfl, rfl, ⟨by omega, by omega⟩, h⟩
  rw [if_neg c7, if_neg c7]
  exact ⟨_, _, rfl, rfl, by decide, h⟩
theorem c_side {m : vl_M} {s k : Int} (hs : c_in s) (hk : 0 ≤ k ∧ k < 4) : fn_X4_side m s k = some (d_c (c_rt m s) k) := by
  unfold fn_X4_side d_c c_rt
  rw [pu_gd ⟨by omega, by omega⟩]
  by_cases c0 : k = 0
  · rw [if_pos c0, if_pos c0, pu_gd hs]
  rw [if_neg c0, if_neg c0]
  by_cases c1 : k = 1
  · rw [if_pos c1, if_pos c1, pu_gd hs]
  rw [if_neg c1, if_neg c1]
  by_cases c2 : k = 2
  · rw [if_pos c2, if_pos c2, pu_gd hs]
  rw [if_neg c2, if_neg c2, if_pos (by omega), pu_gd hs]
theorem d_rt0_at (r : vl_M) (t : Int) {k : Int} (hk : 0 ≤ k ∧ k < 4) : r 29 (4 * t + k) = d_c (d_rt r 0 t) k := by
  have e : d_rt r 0 t = (r 29 (4 * t), r 29 (4 * t + 1), r 29 (4 * t + 2), r 29 (4 * t + 3)) := by unfold d_rt; rw [if_neg (by decide)]
  rw [e]
  unfold d_c
  by_cases c0 : k = 0
  · rw [if_pos c0, c0, Int.add_zero]
  rw [if_neg c0]
  by_cases c1 : k = 1
  · rw [if_pos c1, c1]
  rw [if_neg c1]
  by_cases c2 : k = 2
  · rw [if_pos c2, c2]
  rw [if_neg c2, show k = 3 by omega]
theorem t_node {n w N : Nat} {m r : vl_M} {φ : Int → Int} {a b : Int} (hN : 100000 ≤ N) (h : q_top n w m r φ) (ha : vl_r32 a) (hb : vl_r32 b) : ∃ v r', fn_X7_node m a b = some v ∧ fn_X8_node_ N r a b = some (v, r') ∧ vl_r32 v ∧ q_top n w m r' φ := by
  obtain ⟨⟨hB, hO⟩, -, -⟩ := id h
  obtain ⟨⟨hP, hK, hA, hR⟩, -, hT, ⟨hsn, hsi, -⟩, ⟨q1, -⟩⟩ := id hB.1
  obtain ⟨n1, n2, n3⟩ := c_ord_nodup hP hK hR.1.1
  obtain ⟨r', g1, g2, ⟨g3, g4⟩, g5, g6⟩ := q_fo hN h
  by_cases c0 : a < 0
  · skip
    refine ⟨-1, r', ?_, ?_, by decide, g2⟩
    · unfold fn_X7_node
      rw [pu_gd ha, if_pos c0]
    · unfold fn_X8_node_
      rw [g1, Option.bind_some, pu_gd ha, if_pos c0]
  by_cases c1 : a < ((c_ord w m).length : Int)
  · have hlt : a.toNat < (c_ord w m).length := by omega
    have hgx : (c_ord w m)[a.toNat]? = some (c_ord w m)[a.toNat] := List.getElem?_eq_getElem hlt
    have hxm : (c_ord w m)[a.toNat] ∈ c_ord w m := List.getElem_mem hlt
    generalize hx : (c_ord w m)[a.toNat] = x at *
    obtain ⟨e13, e7⟩ := hO.2 _ _ hgx
    obtain ⟨e33, e44⟩ := g4 _ _ hgx
    rw [show ((a.toNat : Nat) : Int) = a by omega] at e13 e7 e33 e44
    have hxL := n3 x hxm
    have hxnd := c_LN_nd hP hxL
    have hxl := (hK x hxL).1
    have hxl0 := hxL.2
    have hw11 := hP.1.2
    obtain ⟨⟨b1, b2, b3⟩, -, b5, b6⟩ := hsn x hxL
    have r26 : r' 26 = r 26 := g5 26 (by decide) (by decide) (by decide)
    have r27 : r' 27 = r 27 := g5 27 (by decide) (by decide) (by decide)
    have r30 : r' 30 = r 30 := g5 30 (by decide) (by decide) (by decide)
    have r11 : r' 23 11 = φ (m 11 6) := by rw [g6 11 (by decide)]; exact q1
    have hrd := (hsn _ hR.1.1).1.1
    by_cases d0 : b < 0
    · skip
      refine ⟨-1, r', ?_, ?_, by decide, g2⟩
      · unfold fn_X7_node
        rw [pu_gd ha, if_neg c0, hO.1, pu_gd ⟨by omega, by omega⟩, if_pos c1, pu_gd ⟨by omega, by omega⟩, pu_lt, e13, pu_gd hb, if_neg (by omega), if_neg (by omega), if_neg (by omega), if_neg (by omega), if_neg (by omega), if_neg (by omega), if_neg (by omega)]
      · unfold fn_X8_node_
        rw [g1, Option.bind_some, pu_gd ha, if_neg c0, g3, pu_gd ⟨by omega, by omega⟩, if_pos c1, pu_gd hb, if_pos d0]
    by_cases d6 : 6 < b
    · skip
      refine ⟨-1, r', ?_, ?_, by decide, g2⟩
      · unfold fn_X7_node
        rw [pu_gd ha, if_neg c0, hO.1, pu_gd ⟨by omega, by omega⟩, if_pos c1, pu_gd ⟨by omega, by omega⟩, pu_lt, e13, pu_gd hb, if_neg (by omega), if_neg (by omega), if_neg (by omega), if_neg (by omega), if_neg (by omega), if_neg (by omega), if_neg (by omega)]
      · unfold fn_X8_node_
        rw [g1, Option.bind_some, pu_gd ha, if_neg c0, g3, pu_gd ⟨by omega, by omega⟩, if_pos c1, pu_gd hb, if_neg d0, if_pos d6]
    by_cases f0 : b = 0
    · skip
      refine ⟨m 2 x, r', ?_, ?_, ⟨by omega, by omega⟩, g2⟩
      · unfold fn_X7_node
        rw [pu_gd ha, if_neg c0, hO.1, pu_gd ⟨by omega, by omega⟩, if_pos c1, pu_gd ⟨by omega, by omega⟩, pu_lt, e13, pu_gd hb, if_pos f0, pu_gd ⟨by omega, by omega⟩]
      · unfold fn_X8_node_
        rw [g1, Option.bind_some, pu_gd ha, if_neg c0, g3, pu_gd ⟨by omega, by omega⟩, if_pos c1, pu_gd hb, if_neg d0, if_neg d6, pu_gd ⟨by omega, by omega⟩, pu_lt, e33, pu_jn]
        try dsimp only
        rw [if_neg (show ¬ 1 < b by omega)]
        try dsimp only
        rw [if_pos f0, pu_gd b1, r26, b2]
    by_cases f1 : b = 1
    · skip
      refine ⟨m 9 x, r', ?_, ?_, ⟨by omega, by omega⟩, g2⟩
      · unfold fn_X7_node
        rw [pu_gd ha, if_neg c0, hO.1, pu_gd ⟨by omega, by omega⟩, if_pos c1, pu_gd ⟨by omega, by omega⟩, pu_lt, e13, pu_gd hb, if_neg f0, if_pos f1, pu_gd ⟨by omega, by omega⟩]
      · unfold fn_X8_node_
        rw [g1, Option.bind_some, pu_gd ha, if_neg c0, g3, pu_gd ⟨by omega, by omega⟩, if_pos c1, pu_gd hb, if_neg d0, if_neg d6, pu_gd ⟨by omega, by omega⟩, pu_lt, e33, pu_jn]
        try dsimp only
        rw [if_neg (show ¬ 1 < b by omega)]
        try dsimp only
        rw [if_neg f0, if_pos f1, pu_gd b1, r27, b3]
    by_cases f6 : b = 6
    · by_cases fr : x = m 11 6
      · have h8 : m 8 x = -1 := by rw [fr]; exact hR.1.2
        refine ⟨-2, r', ?_, ?_, by decide, g2⟩
        · unfold fn_X7_node
          rw [pu_gd ha, if_neg c0, hO.1, pu_gd ⟨by omega, by omega⟩, if_pos c1, pu_gd ⟨by omega, by omega⟩, pu_lt, e13, pu_gd hb, if_neg f0, if_neg f1, if_neg (by omega), if_neg (by omega), if_neg (by omega), if_neg (by omega), if_pos f6, pu_gd ⟨by omega, by omega⟩, h8, pu_gd (by decide), if_pos rfl]
        · unfold fn_X8_node_
          rw [g1, Option.bind_some, pu_gd ha, if_neg c0, g3, pu_gd ⟨by omega, by omega⟩, if_pos c1, pu_gd hb, if_neg d0, if_neg d6, pu_gd ⟨by omega, by omega⟩, pu_lt, e33, pu_jn]
          try dsimp only
          rw [if_pos (show 1 < b by omega), if_neg (show ¬ b < 6 by omega)]
          try dsimp only
          rw [if_neg f0, if_neg f1, pu_gd ⟨by omega, by omega⟩, r11, pu_gd ⟨by omega, by omega⟩, if_pos (by rw [fr])]
      · obtain ⟨u1, u2, -⟩ := q_up1 hK hA (Or.inr hxL) fr (fun z => z)
        have hund := c_LN_nd hP u1
        have hmem : m 8 x ∈ c_ord w m := c_pre_up hK _ _ x hR.1.1 (by have := hR.1.1.2; omega) hxm fr
        obtain ⟨k, hk⟩ := List.getElem?_of_mem hmem
        have hkl := (List.getElem?_eq_some_iff.mp hk).1
        obtain ⟨-, w7⟩ := hO.2 k _ hk
        obtain ⟨-, w44⟩ := g4 k _ hk
        have hud := (hsn _ u1).1.1
        refine ⟨(k : Int), r', ?_, ?_, ⟨by omega, by omega⟩, g2⟩
        · unfold fn_X7_node
          rw [pu_gd ha, if_neg c0, hO.1, pu_gd ⟨by omega, by omega⟩, if_pos c1, pu_gd ⟨by omega, by omega⟩, pu_lt, e13, pu_gd hb, if_neg f0, if_neg f1, if_neg (by omega), if_neg (by omega), if_neg (by omega), if_neg (by omega), if_pos f6, pu_gd ⟨by omega, by omega⟩, pu_gd ⟨by omega, by omega⟩, if_neg (by omega), pu_gd ⟨by omega, by omega⟩, w7]
        · unfold fn_X8_node_
          rw [g1, Option.bind_some, pu_gd ha, if_neg c0, g3, pu_gd ⟨by omega, by omega⟩, if_pos c1, pu_gd hb, if_neg d0, if_neg d6, pu_gd ⟨by omega, by omega⟩, pu_lt, e33, pu_jn]
          try dsimp only
          rw [if_pos (show 1 < b by omega), if_neg (show ¬ b < 6 by omega)]
          try dsimp only
          rw [if_neg f0, if_neg f1, pu_gd ⟨by omega, by omega⟩, r11, pu_gd ⟨by omega, by omega⟩, if_neg (fun z => fr (hsi.1 x _ hxL hR.1.1 z)), pu_gd b1, r30, b5 fr (fun z => z), pu_gd hud, w44]
    · -- a side
      have hcl : (vl_gd (0 ≤ x ∧ x < 807) <| vl_gd (vl_r32 (m 9 x)) <| if (m 9 x) = 0 then (some (-1)) else (fn_X4_side m x (b - 2)).bind fun b17 => some (b17)) = some (if m 9 x = 0 then -1 else d_c (c_rt m x) (b - 2)) := by
        rw [pu_gd ⟨by omega, by omega⟩, pu_gd ⟨by omega, by omega⟩]
        by_cases z : m 9 x = 0
        · rw [if_pos z, if_pos z]
        · rw [if_neg z, if_neg z, c_side ⟨by omega, by omega⟩ ⟨by omega, by omega⟩, Option.bind_some]
      have hrf : (vl_gd (0 ≤ φ x ∧ φ x < 500) <| vl_gd (vl_r32 (r' 27 (φ x))) <| if (r' 27 (φ x)) = 0 then (some ((-1), r')) else vl_gd (0 ≤ (((4 * φ x) + b) - 2) ∧ (((4 * φ x) + b) - 2) < 2000) <| some ((r' 29 (((4 * φ x) + b) - 2)), r')) = some (if m 9 x = 0 then -1 else d_c (c_rt m x) (b - 2), r') := by
        rw [pu_gd b1, r27, b3, pu_gd ⟨by omega, by omega⟩]
        by_cases z : m 9 x = 0
        · rw [if_pos z, if_pos z]
        · obtain ⟨⟨t1, t2⟩, -⟩ := hT x hxL (by omega) (by omega)
          rw [if_neg z, if_neg z, pu_gd ⟨by omega, by omega⟩, g5 29 (by decide) (by decide) (by decide), show 4 * φ x + b - 2 = 4 * φ x + (b - 2) by omega, d_rt0_at r (φ x) ⟨by omega, by omega⟩, t2]
      have hv : vl_r32 (if m 9 x = 0 then -1 else d_c (c_rt m x) (b - 2)) := by
        by_cases z : m 9 x = 0
        · rw [if_pos z]; decide
        · rw [if_neg z]; exact d_c_32 (hT x hxL (by omega) (by omega)).1.1 _
      refine ⟨_, r', ?_, ?_, hv, g2⟩
      · unfold fn_X7_node
        rw [pu_gd ha, if_neg c0, hO.1, pu_gd ⟨by omega, by omega⟩, if_pos c1, pu_gd ⟨by omega, by omega⟩, pu_lt, e13, pu_gd hb, if_neg f0, if_neg f1]
        by_cases f2 : b = 2
        · rw [if_pos f2]; exact hcl
        rw [if_neg f2]
        by_cases f3 : b = 3
        · rw [if_pos f3]; exact hcl
        rw [if_neg f3]
        by_cases f4 : b = 4
        · rw [if_pos f4]; exact hcl
        rw [if_neg f4, if_pos (by omega)]
        exact hcl
      · unfold fn_X8_node_
        rw [g1, Option.bind_some, pu_gd ha, if_neg c0, g3, pu_gd ⟨by omega, by omega⟩, if_pos c1, pu_gd hb, if_neg d0, if_neg d6, pu_gd ⟨by omega, by omega⟩, pu_lt, e33, pu_jn]
        try dsimp only
        rw [if_pos (show 1 < b by omega), if_pos (show b < 6 by omega)]
        exact hrf
  · skip
    refine ⟨-1, r', ?_, ?_, by decide, g2⟩
    · unfold fn_X7_node
      rw [pu_gd ha, if_neg c0, hO.1, pu_gd ⟨by omega, by omega⟩, if_neg c1]
    · unfold fn_X8_node_
      rw [g1, Option.bind_some, pu_gd ha, if_neg c0, g3, pu_gd ⟨by omega, by omega⟩, if_neg c1]
theorem vl_wr_id {x : Int} (h : vl_r32 x) : vl_wr x = x := by
  unfold vl_wr
  rw [Int32.toInt_ofInt]
  have hs : ((Int32.size : Nat) : Int) = 4294967296 := rfl
  exact Int.bmod_eq_of_le (by omega) (by omega)
theorem c_side_out {m : vl_M} {s k : Int} (hk : vl_r32 k) (h : k < 0 ∨ 3 < k) : fn_X4_side m s k = some (-1) := by
  unfold fn_X4_side
  rw [pu_gd hk, if_neg (by omega), if_neg (by omega), if_neg (by omega), if_neg (by omega)]
theorem t_held {n w N : Nat} {m r : vl_M} {φ : Int → Int} {a b c : Int} (hN : 100000 ≤ N) (h : q_top n w m r φ) (ha : vl_r32 a) (hb : vl_r32 b) (hc : vl_r32 c) : ∃ v r', fn_X7_held w m a b c = some v ∧ fn_X8_held N r a b c = some (v, r') ∧ vl_r32 v ∧ q_top n w m r' φ := by
  obtain ⟨⟨hB, hO⟩, -, -⟩ := id h
  obtain ⟨⟨hP, hK, hA, hR⟩, ⟨hE, -⟩, hT, ⟨hsn, hsi, -, hse⟩, ⟨q1, -⟩⟩ := id hB.1
  obtain ⟨n1, n2, n3⟩ := c_ord_nodup hP hK hR.1.1
  obtain ⟨-, -, hpos⟩ := q_B_lv hB
  obtain ⟨r', g1, g2, ⟨g3, g4⟩, g5, g6⟩ := q_fo hN h
  by_cases c0 : a < 0
  · skip
    refine ⟨-1, r', ?_, ?_, by decide, g2⟩
    · unfold fn_X7_held
      rw [pu_gd ha, if_pos c0]
    · unfold fn_X8_held
      rw [g1, Option.bind_some, pu_gd ha, if_pos c0]
  by_cases c1 : a < ((c_ord w m).length : Int)
  · have hlt : a.toNat < (c_ord w m).length := by omega
    have hgx : (c_ord w m)[a.toNat]? = some (c_ord w m)[a.toNat] := List.getElem?_eq_getElem hlt
    have hxm : (c_ord w m)[a.toNat] ∈ c_ord w m := List.getElem_mem hlt
    generalize hx : (c_ord w m)[a.toNat] = x at *
    obtain ⟨e13, e7⟩ := hO.2 _ _ hgx
    obtain ⟨e33, e44⟩ := g4 _ _ hgx
    rw [show ((a.toNat : Nat) : Int) = a by omega] at e13 e7 e33 e44
    have hxL := n3 x hxm
    have hxnd := c_LN_nd hP hxL
    have hxl := (hK x hxL).1
    have hxl0 := hxL.2
    have hw11 := hP.1.2
    obtain ⟨⟨b1, b2, b3⟩, b4, b5, b6⟩ := hsn x hxL
    have r26 : r' 26 = r 26 := g5 26 (by decide) (by decide) (by decide)
    have r27 : r' 27 = r 27 := g5 27 (by decide) (by decide) (by decide)
    by_cases c2 : b < 0
    · skip
      refine ⟨-1, r', ?_, ?_, by decide, g2⟩
      · unfold fn_X7_held
        rw [pu_gd ha, if_neg c0, hO.1, pu_gd ⟨by omega, by omega⟩, if_pos c1, pu_gd hb, if_pos c2]
      · unfold fn_X8_held
        rw [g1, Option.bind_some, pu_gd ha, if_neg c0, g3, pu_gd ⟨by omega, by omega⟩, if_pos c1, pu_gd hb, if_pos c2]
    by_cases c3 : b < m 9 x
    · obtain ⟨⟨k1, k2⟩, ⟨k3, k4, k5⟩, -⟩ := (hK x hxL).2 b (by omega) c3
      have hkin := c_LT_in hP k1
      obtain ⟨t1, t2, t3⟩ := q_thing hB.1 k1 (by omega) (fun z => hpos _ z k5)
      by_cases c4 : c < 0
      · have hs : fn_X4_side m (c_k w m x b) (vl_wr (c - 1)) = some (-1) := by
          by_cases z : c = -2147483648
          · rw [z]; exact c_side_out (by decide) (Or.inr (by decide))
          · rw [vl_wr_id ⟨by omega, by omega⟩]
            exact c_side_out ⟨by omega, by omega⟩ (Or.inl (by omega))
        refine ⟨-1, r', ?_, ?_, by decide, g2⟩
        · unfold fn_X7_held
          rw [pu_gd ha, if_neg c0, hO.1, pu_gd ⟨by omega, by omega⟩, if_pos c1, pu_gd hb, if_neg c2, pu_gd ⟨by omega, by omega⟩, e13, pu_gd ⟨by omega, by omega⟩, pu_gd ⟨by omega, by omega⟩, if_pos c3, c_thing (N := N) ⟨hP.1.1, hP.1.2, hN, hP.2.1.1⟩ hxnd ⟨by omega, by omega⟩, Option.bind_some, pu_gd hc, if_neg (by omega), hs, Option.bind_some]
        · unfold fn_X8_held
          rw [g1, Option.bind_some, pu_gd ha, if_neg c0, g3, pu_gd ⟨by omega, by omega⟩, if_pos c1, pu_gd hb, if_neg c2, pu_gd ⟨by omega, by omega⟩, e33, pu_gd b1, r27, b3, pu_gd ⟨by omega, by omega⟩, if_pos c3, pu_gd hc, if_pos c4]
      by_cases c5 : 4 < c
      · skip
        refine ⟨-1, r', ?_, ?_, by decide, g2⟩
        · unfold fn_X7_held
          rw [pu_gd ha, if_neg c0, hO.1, pu_gd ⟨by omega, by omega⟩, if_pos c1, pu_gd hb, if_neg c2, pu_gd ⟨by omega, by omega⟩, e13, pu_gd ⟨by omega, by omega⟩, pu_gd ⟨by omega, by omega⟩, if_pos c3, c_thing (N := N) ⟨hP.1.1, hP.1.2, hN, hP.2.1.1⟩ hxnd ⟨by omega, by omega⟩, Option.bind_some, pu_gd hc, if_neg (by omega), vl_wr_id ⟨by omega, by omega⟩, c_side_out ⟨by omega, by omega⟩ (Or.inr (by omega)), Option.bind_some]
        · unfold fn_X8_held
          rw [g1, Option.bind_some, pu_gd ha, if_neg c0, g3, pu_gd ⟨by omega, by omega⟩, if_pos c1, pu_gd hb, if_neg c2, pu_gd ⟨by omega, by omega⟩, e33, pu_gd b1, r27, b3, pu_gd ⟨by omega, by omega⟩, if_pos c3, pu_gd hc, if_neg c4, if_pos c5]
      by_cases c6 : c = 0
      · by_cases c7 : m 2 x = 0
        · have hkE : c_LE m (c_k w m x b) := c_LT_E k1 (by omega)
          obtain ⟨p1, p2, p3⟩ := hse _ hkE
          have := (hE _ hkE).1
          refine ⟨m 7 (c_k w m x b), r', ?_, ?_, ⟨by omega, by omega⟩, g2⟩
          · unfold fn_X7_held
            rw [pu_gd ha, if_neg c0, hO.1, pu_gd ⟨by omega, by omega⟩, if_pos c1, pu_gd hb, if_neg c2, pu_gd ⟨by omega, by omega⟩, e13, pu_gd ⟨by omega, by omega⟩, pu_gd ⟨by omega, by omega⟩, if_pos c3, c_thing (N := N) ⟨hP.1.1, hP.1.2, hN, hP.2.1.1⟩ hxnd ⟨by omega, by omega⟩, Option.bind_some, pu_gd hc, if_pos c6, pu_gd ⟨by omega, by omega⟩]
          · unfold fn_X8_held
            rw [g1, Option.bind_some, pu_gd ha, if_neg c0, g3, pu_gd ⟨by omega, by omega⟩, if_pos c1, pu_gd hb, if_neg c2, pu_gd ⟨by omega, by omega⟩, e33, pu_gd b1, r27, b3, pu_gd ⟨by omega, by omega⟩, if_pos c3, pu_gd hc, if_neg c4, if_neg c5, pu_lt, d_held b1 ⟨by omega, by omega⟩, Option.bind_some, d_k_congr (g5 28 (by decide) (by decide) (by decide)), b4 b (by omega) c3, if_neg (show ¬ 0 < c by omega), pu_gd b1, r26, b2, pu_gd ⟨by omega, by omega⟩, if_pos c7, pu_gd ⟨by omega, by omega⟩, g5 24 (by decide) (by decide) (by decide), p2]
        · have hkN : c_LN m (c_k w m x b) := c_LT_N k1 (by omega)
          have hmem : c_k w m x b ∈ c_ord w m := c_pre_dn hK _ _ x _ hR.1.1 (by have := hR.1.1.2; omega) hxm (by omega) (c_kids_mem.mpr ⟨b, by omega, c3, rfl⟩)
          obtain ⟨k, hk⟩ := List.getElem?_of_mem hmem
          have hkl := (List.getElem?_eq_some_iff.mp hk).1
          obtain ⟨-, w7⟩ := hO.2 k _ hk
          obtain ⟨-, w44⟩ := g4 k _ hk
          refine ⟨(k : Int), r', ?_, ?_, ⟨by omega, by omega⟩, g2⟩
          · unfold fn_X7_held
            rw [pu_gd ha, if_neg c0, hO.1, pu_gd ⟨by omega, by omega⟩, if_pos c1, pu_gd hb, if_neg c2, pu_gd ⟨by omega, by omega⟩, e13, pu_gd ⟨by omega, by omega⟩, pu_gd ⟨by omega, by omega⟩, if_pos c3, c_thing (N := N) ⟨hP.1.1, hP.1.2, hN, hP.2.1.1⟩ hxnd ⟨by omega, by omega⟩, Option.bind_some, pu_gd hc, if_pos c6, pu_gd ⟨by omega, by omega⟩, w7]
          · unfold fn_X8_held
            rw [g1, Option.bind_some, pu_gd ha, if_neg c0, g3, pu_gd ⟨by omega, by omega⟩, if_pos c1, pu_gd hb, if_neg c2, pu_gd ⟨by omega, by omega⟩, e33, pu_gd b1, r27, b3, pu_gd ⟨by omega, by omega⟩, if_pos c3, pu_gd hc, if_neg c4, if_neg c5, pu_lt, d_held b1 ⟨by omega, by omega⟩, Option.bind_some, d_k_congr (g5 28 (by decide) (by decide) (by decide)), b4 b (by omega) c3, if_neg (show ¬ 0 < c by omega), pu_gd b1, r26, b2, pu_gd ⟨by omega, by omega⟩, if_neg c7, pu_gd (hsn _ hkN).1.1, w44]
      · skip
        refine ⟨d_c (c_rt m (c_k w m x b)) (c - 1), r', ?_, ?_, d_c_32 t3 _, g2⟩
        · unfold fn_X7_held
          rw [pu_gd ha, if_neg c0, hO.1, pu_gd ⟨by omega, by omega⟩, if_pos c1, pu_gd hb, if_neg c2, pu_gd ⟨by omega, by omega⟩, e13, pu_gd ⟨by omega, by omega⟩, pu_gd ⟨by omega, by omega⟩, if_pos c3, c_thing (N := N) ⟨hP.1.1, hP.1.2, hN, hP.2.1.1⟩ hxnd ⟨by omega, by omega⟩, Option.bind_some, pu_gd hc, if_neg c6, vl_wr_id ⟨by omega, by omega⟩, c_side hkin ⟨by omega, by omega⟩, Option.bind_some]
        · unfold fn_X8_held
          rw [g1, Option.bind_some, pu_gd ha, if_neg c0, g3, pu_gd ⟨by omega, by omega⟩, if_pos c1, pu_gd hb, if_neg c2, pu_gd ⟨by omega, by omega⟩, e33, pu_gd b1, r27, b3, pu_gd ⟨by omega, by omega⟩, if_pos c3, pu_gd hc, if_neg c4, if_neg c5, pu_lt, d_held b1 ⟨by omega, by omega⟩, Option.bind_some, d_k_congr (g5 28 (by decide) (by decide) (by decide)), b4 b (by omega) c3, if_pos (show 0 < c by omega), pu_gd b1, r26, b2, ← k2, d_side t1 ⟨by omega, by omega⟩, Option.bind_some, d_rt_congr (g5 25 (by decide) (by decide) (by decide)) (g5 29 (by decide) (by decide) (by decide)), t2]
    · skip
      refine ⟨-1, r', ?_, ?_, by decide, g2⟩
      · unfold fn_X7_held
        rw [pu_gd ha, if_neg c0, hO.1, pu_gd ⟨by omega, by omega⟩, if_pos c1, pu_gd hb, if_neg c2, pu_gd ⟨by omega, by omega⟩, e13, pu_gd ⟨by omega, by omega⟩, pu_gd ⟨by omega, by omega⟩, if_neg c3]
      · unfold fn_X8_held
        rw [g1, Option.bind_some, pu_gd ha, if_neg c0, g3, pu_gd ⟨by omega, by omega⟩, if_pos c1, pu_gd hb, if_neg c2, pu_gd ⟨by omega, by omega⟩, e33, pu_gd b1, r27, b3, pu_gd ⟨by omega, by omega⟩, if_neg c3]
  · skip
    refine ⟨-1, r', ?_, ?_, by decide, g2⟩
    · unfold fn_X7_held
      rw [pu_gd ha, if_neg c0, hO.1, pu_gd ⟨by omega, by omega⟩, if_neg c1]
    · unfold fn_X8_held
      rw [g1, Option.bind_some, pu_gd ha, if_neg c0, g3, pu_gd ⟨by omega, by omega⟩, if_neg c1]
