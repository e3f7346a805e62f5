/-! ===== PURE, 67: built anew ===== -/
theorem up_self {m : vl_M} {h : Nat} {i v : Int} (e : m h i = v) : vl_up m h i v = m := by
  funext k j
  unfold vl_up
  by_cases c : k = h ∧ j = i
  · rw [if_pos c, c.1, c.2, e]
  · rw [if_neg c]
theorem d_paL43 {N : Nat} {r : vl_M} {v5 : Int} {κ : Int → vl_M → Option (Int × vl_M)} : ∀ (n fu : Nat) (v : Int), 0 ≤ v → v + (n : Int) = 500 → n < fu → fn_X8_pack_L43 N v5 κ fu v (d_fill r 26 0 v (-2)) = κ 500 (d_fill r 26 0 500 (-2)) := by
  intro n
  induction n with
  | zero =>
    intro fu v h1 h2 h3
    obtain ⟨fu, rfl⟩ : ∃ x, fu = x + 1 := ⟨fu - 1, by omega⟩
    rw [fn_X8_pack_L43, pu_gd ⟨by omega, by omega⟩, if_neg (by omega), show v = 500 by omega]
  | succ n ih =>
    intro fu v h1 h2 h3
    obtain ⟨fu, rfl⟩ : ∃ x, fu = x + 1 := ⟨fu - 1, by omega⟩
    rw [fn_X8_pack_L43, pu_gd ⟨by omega, by omega⟩, if_pos (by omega), pu_gd ⟨by omega, by omega⟩, pu_lt, d_fill_step r 26 h1, pu_lt]
    exact ih fu (v + 1) (by omega) (by omega) (by omega)
/-- how many nodes there are, where none is free -/
theorem q_cnt {w : Nat} {m r : vl_M} {φ : Int → Int} {a : Int} (h : q_I w m r φ (fun _ => False) a) (h16 : m 1 16 = -1) : ((c_ord w m).length : Int) = m 1 15 - 400 := by
  obtain ⟨⟨hP, hK, hA, hR⟩, ⟨hE, hS⟩, -⟩ := h
  obtain ⟨n1, n2, n3⟩ := c_ord_nodup hP hK hR.1.1
  obtain ⟨⟨L, l1, -, l3⟩, -⟩ := hS
  rw [h16] at l1
  have hL : L = [] := by
    cases L with
    | nil => rfl
    | cons a t =>
      have e : -1 = a := l1.1
      have := (l3 a).mp List.mem_cons_self
      omega
  have hp := pu_perm_ext (c_ord w m) (pu_seq (m 1 15 - 400).toNat 400) n1 (pu_seq_nodup _ _) (fun x => ⟨fun hx => by
    have := (n3 x hx).1
    exact (pu_seq_mem _ _ _).mpr ⟨by omega, by omega⟩, fun hx => by
    have hx' := (pu_seq_mem _ _ _).mp hx
    have h2 : 0 ≤ m 2 x := by
      refine Classical.byContradiction (fun z => ?_)
      have := (l3 x).mpr ⟨⟨by omega, by omega⟩, by omega⟩
      rw [hL] at this
      exact (List.not_mem_nil this).elim
    have hs : c_LN m x := ⟨⟨by omega, by omega⟩, h2⟩
    obtain ⟨k, hk⟩ := c_con_ex hK hA (fun _ z => z) 100 x hs (by omega)
    exact c_ord_all hK hA hR.1.1 k x hs hk⟩)
  have := hp.length_eq
  rw [pu_seq_len] at this
  have := hP.2.2.2.1
  omega
theorem t_end {n w N : Nat} {m r : vl_M} {φ : Int → Int} (hN : 100000 ≤ N) (hB : q_B w m r φ) (hC : q_Cn n m r) (hS : q_Sr m r) (h18 : m 18 2 = 0) (h20 : r 23 20 = 0) (h16 : m 1 16 = -1) : ∃ m', fn_X5_renumber w N m = some m' ∧ q_top (n + 1) w m' r φ ∧ m' 11 5 = m 1 15 - 400 := by
  obtain ⟨m', y1, y2, y3, y4⟩ := t_fin (m0 := m) (r0 := r) hN hB ⟨⟨fun _ _ => rfl, fun _ _ => rfl⟩, ⟨⟨Int.le_refl _, by omega⟩, ⟨Int.le_refl _, by omega⟩, ⟨Int.le_refl _, by omega⟩⟩, by omega⟩ hC hS h18 h20
  refine ⟨m', y1, y2, ?_⟩
  rw [y4.1, q_cnt y2.1.1.1 (by rw [y3]; exact h16), y3]
/-- the reference's line, as the class's entries -/
theorem q_ghost {w : Nat} {m r rr : vl_M} {φ : Int → Int} {X : Int → Prop} {a len : Int} (h : q_I w m r φ X a) (hlen : ((q_E m).length : Int) = len) (h45 : ∀ (k : Nat) x, (q_Ir r)[k]? = some x → rr 45 (k : Int) = x) : ∃ G : Int → Int, s_B G 0 len (c_LE m) ∧ ∀ k, 0 ≤ k → k < len → rr 45 k = φ (G k) := by
  have hperm := q_EI h
  have hl : (q_Ir r).length = (q_E m).length := by rw [← hperm.length_eq, List.length_map]
  have hnd : (q_Ir r).Nodup := (pu_seq_nodup 400 0).filter _
  obtain ⟨⟨hP, -⟩, -, -, ⟨-, hsi, -, -⟩, -⟩ := h
  have key : ∀ k, 0 ≤ k → k < len → ∃ e, c_LE m e ∧ φ e = rr 45 k ∧ (q_Ir r)[k.toNat]? = some (rr 45 k) := fun k k1 k2 => by
    have hk : k.toNat < (q_Ir r).length := by omega
    have e1 := List.getElem?_eq_getElem hk
    have e2 := h45 k.toNat _ e1
    rw [show ((k.toNat : Nat) : Int) = k by omega] at e2
    have hm : (q_Ir r)[k.toNat] ∈ q_Ir r := List.getElem_mem hk
    obtain ⟨e, x1, x2⟩ := List.mem_map.mp (hperm.mem_iff.mpr hm)
    exact ⟨e, (q_E_mem hP).mp x1, by rw [x2, e2], by rw [e1, e2]⟩
  obtain ⟨G, hG⟩ : ∃ G : Int → Int, ∀ k, 0 ≤ k → k < len → c_LE m (G k) ∧ φ (G k) = rr 45 k ∧ (q_Ir r)[k.toNat]? = some (rr 45 k) := by
    refine ⟨fun k => if hk : 0 ≤ k ∧ k < len then (key k hk.1 hk.2).choose else 0, fun k k1 k2 => ?_⟩
    dsimp only
    rw [dif_pos ⟨k1, k2⟩]
    exact (key k k1 k2).choose_spec
  refine ⟨G, ⟨fun z => ⟨fun hz => ?_, fun ⟨i, i1, i2, e⟩ => by rw [← e]; exact (hG i i1 i2).1⟩, fun i j i1 i2 j1 j2 e => ?_⟩, fun k k1 k2 => (hG k k1 k2).2.1.symm⟩
  · have hm : φ z ∈ q_Ir r := hperm.mem_iff.mp (List.mem_map.mpr ⟨z, (q_E_mem hP).mpr hz, rfl⟩)
    obtain ⟨k, hk⟩ := List.mem_iff_getElem?.mp hm
    have hk1 := (List.getElem?_eq_some_iff.mp hk).1
    obtain ⟨g1, g2, -⟩ := hG (k : Int) (by omega) (by omega)
    have e45 := h45 k _ hk
    exact ⟨(k : Int), by omega, by omega, hsi.2 _ _ g1 hz (by rw [g2, e45])⟩
  · obtain ⟨-, a2, a3⟩ := hG i i1 i2
    obtain ⟨-, b2, b3⟩ := hG j j1 j2
    have e45 : rr 45 i = rr 45 j := by rw [← a2, ← b2, e]
    rw [e45] at a3
    have := (List.getElem?_inj (i := i.toNat) (by omega) hnd).mp (a3.trans b3.symm)
    omega
theorem q_built {w N : Nat} {m r : vl_M} {φ : Int → Int} {len : Int} {G : Int → Int} (hN : 100000 ≤ N) (hP : s_P w m) (hE : s_E m) (hS : ∃ L, c_ch m (m 1 14) L ∧ L.Nodup ∧ ∀ e, e ∈ L ↔ ((0 ≤ e ∧ e < m 1 13) ∧ m 2 e ≠ -1)) (hD : q_D m) (h26 : ∀ n, 0 ≤ n → n < 500 → r 26 n = -2) (hr1 : r 23 1 = m 1 0 ∧ r 23 2 = m 1 1) (hr5 : r 23 5 = m 1 12) (hc : r 23 12 = m 11 7 ∧ r 23 13 = m 11 8) (hsi : ∀ e e', c_LE m e → c_LE m e' → φ e = φ e' → e = e') (hso : ∀ n, 0 ≤ n → n < 401 → (0 ≤ r 24 n ∧ ∃ e, c_LE m e ∧ φ e = n) ∨ r 24 n = -2) (hse : q_se m r φ) (h3 : m 16 3 = len) (hlen : 1 ≤ len ∧ len ≤ 400) (hBm : s_B (m 17) 0 len (c_LE m)) (hBg : s_B G 0 len (c_LE m)) (hG : ∀ k, 0 ≤ k → k < len → r 45 k = φ (G k)) :
    ∃ s m' r' ψ, ((fn_X1_sortSlices N m).bind fun m5 => (fn_X4_forgetNodes m5).bind fun m7 => fn_X1_buildAnew_L32 w N N 0 m7) = some (vl_up m' 11 6 s) ∧
      ((fn_X8_sort N r 0 len 0).bind fun m14 => vl_gd (0 ≤ ((len + (m14 23 1)) - 1) ∧ ((len + (m14 23 1)) - 1) < 2147483648) <| vl_gd (0 < (m14 23 1) ∧ (m14 23 1) < 2147483648) <| vl_lt ((((len + (m14 23 1)) - 1) / (m14 23 1))) fun v17 => fn_X8_pack_L102 N m14 len v17 (fun (v19 : Int) => 
    fn_X8_pack_L118 N len v19 (fun (v22 : Int) (m23 : vl_M) => 
    fn_X8_pack_L167 N  (fun (v28 : Int) (v29 : Int) (v30 : Int) (m31 : vl_M) => 
    vl_gd (0 ≤ 0 ∧ 0 < 400) <| vl_lt (vl_up m31 23 11 (m31 45 0)) fun m34 => vl_gd (0 ≤ (m34 23 11) ∧ (m34 23 11) < 500) <| vl_lt (vl_up m34 30 (m34 23 11) (-2)) fun m35 => some (v28, m35)) N 0 0 len m23) N 0 m14) N 1) = some (m' 1 15 - 400, vl_up r' 23 11 (ψ s)) ∧
      (q_I w (vl_up m' 11 6 s) (vl_up r' 23 11 (ψ s)) ψ (fun _ => False) (-1) ∧ m' 1 16 = -1) ∧ (∀ u, c_LN m' u → (u ≠ s → m 1 1 ≤ m' 9 u) ∧ m' 9 u ≤ m 1 0) ∧ (1 ≤ m' 9 s ∧ (0 < m' 2 s → 2 ≤ m' 9 s)) ∧ g_F m m' r r' := by
  obtain ⟨p0, ⟨p1, p2⟩, p3, p4, p5⟩ := id hP
  have hM : 4 ≤ m 1 0 ∧ m 1 0 ≤ 10 := by omega
  obtain ⟨m4, r4, g1, g2, g3, g4, g5, g6, g7⟩ := q_sort (f := 0) (lo := 0) (hi := len) (mm := m) (rr := r) (G := G) (P := c_LE m) hN hP hE hse hD (by decide) ⟨by decide, by omega⟩ hlen.2 (fun _ _ => rfl) (fun _ _ => rfl) (fun _ z => z) hBm hBg hG
  generalize hGn : (len + m 1 0 - 1) / m 1 0 = Gn
  obtain ⟨a1, a2, a3, -⟩ := p_G hM hlen hGn
  obtain ⟨s', x1, x2, x3, x4⟩ := q_slices (N := N) (m2 := m4) (r2 := r4) (b := Gn) (v5 := len) ⟨by omega, a1.2⟩ 20 N N 1 (by decide) (by decide) (by omega) (by omega)
  have hE1 : 1 ≤ s' * m 1 0 := by
    have := Int.mul_le_mul (show 1 ≤ s' from x3.1) (show 1 ≤ m 1 0 by omega) (by decide) (by omega)
    omega
  have hE2 : s' * m 1 0 ≤ 300 := by
    have := Int.mul_le_mul (show s' ≤ 21 from x3.2) (show m 1 0 ≤ 10 by omega) (by omega) (by decide)
    omega
  have hend : len ≤ s' * (s' * m 1 0) := by
    have := Int.mul_le_mul_of_nonneg_right x4 (show 0 ≤ m 1 0 by omega)
    rw [Int.mul_assoc] at this
    omega
  obtain ⟨z, m5, r5, y1, y2, y3, y4, y5, y6⟩ := q_cut (w := w) (N := N) (m := m) (r := r) (φ := φ) (s := s') (E := s' * m 1 0) (len := len) hN hP hE hse hD h3 ⟨by omega, hlen.2⟩ x3 ⟨hE1, hE2⟩ (by rw [hr1.1]) hend s'.toNat N N 0 0 m4 r4 (by decide) (by omega) (by rw [Int.zero_mul]) (by omega) (by omega) (by decide) (by decide) g3 g4 g7 (fun k k1 k2 => g6 k k1 k2)
  generalize hm7 : vl_up (vl_up m5 1 15 400) 1 16 (-1) = m7
  have m7h : ∀ h : Nat, h ≠ 1 → h ≠ 17 → m7 h = m h := fun h u v => by rw [← hm7, up_h _ _ _ u, up_h _ _ _ u, y3 h v]
  have m717 : m7 17 = m5 17 := by rw [← hm7, up_h _ _ _ (by decide), up_h _ _ _ (by decide)]
  have m71 : ∀ j, j ≠ 15 → j ≠ 16 → m7 1 j = m 1 j := fun j u v => by rw [← hm7, up_i _ _ v, up_i _ _ u, y3 1 (by decide)]
  have m715 : m7 1 15 = 400 := by rw [← hm7, up_i _ _ (by decide), up_s]
  have m716 : m7 1 16 = -1 := by rw [← hm7, up_s]
  have LE : ∀ e, c_LE m7 e ↔ c_LE m e := fun e => by unfold c_LE; rw [m71 13 (by decide) (by decide), m7h 2 (by decide) (by decide)]
  have ert : ∀ e, c_rt m7 e = c_rt m e := fun e => c_rt_congr (m7h 3 (by decide) (by decide)) (m7h 4 (by decide) (by decide)) (m7h 5 (by decide) (by decide)) (m7h 6 (by decide) (by decide))
  have noN : ∀ u, ¬ c_LN m7 u := fun u z => by have := z.1; omega
  generalize hY : (pu_seq len.toNat 0).map (m5 17) = Y
  have Yl : Y.length = len.toNat := by rw [← hY, List.length_map, pu_seq_len]
  have Yg : ∀ (i : Nat) x, Y[i]? = some x → i < len.toNat ∧ m5 17 (i : Int) = x := fun i x hi => by
    have hi' := (List.getElem?_eq_some_iff.mp hi).1
    refine ⟨by omega, ?_⟩
    rw [← hY, List.getElem?_map, pu_seq_get, if_pos (by omega), Int.zero_add] at hi
    simpa using hi
  have Ym : ∀ x, x ∈ Y ↔ c_LE m x := fun x => by
    rw [y5.1 x, ← hY, List.mem_map]
    constructor
    · rintro ⟨i, i1, i2⟩
      have := (pu_seq_mem _ _ _).mp i1
      exact ⟨i, by omega, by omega, i2⟩
    · rintro ⟨i, i1, i2, i3⟩
      exact ⟨i, (pu_seq_mem _ _ _).mpr ⟨by omega, by omega⟩, i3⟩
  have Yn : Y.Nodup := by
    rw [← hY]
    refine pu_map_nodup _ (fun a b ha hb e => ?_) (pu_seq_nodup _ _)
    have := (pu_seq_mem _ _ _).mp ha
    have := (pu_seq_mem _ _ _).mp hb
    exact y5.2 a b (by omega) (by omega) (by omega) (by omega) e
  have hP7 : s_P w m7 := by
    unfold s_P
    rw [m715, m71 10 (by decide) (by decide), m71 0 (by decide) (by decide), m71 1 (by decide) (by decide), m71 13 (by decide) (by decide)]
    exact ⟨p0, ⟨p1, p2⟩, p3, ⟨by decide, by decide⟩, p5⟩
  have hr7 : r5 23 1 = m7 1 0 ∧ r5 23 2 = m7 1 1 := by rw [y4 23 (by decide), m71 0 (by decide) (by decide), m71 1 (by decide) (by decide)]; exact hr1
  have hO : g_O w N 0 m7 r5 φ Y := by
    refine g_first hN hP7 m715 m716 ?_ ?_ (fun n n1 n2 => by rw [y4 26 (by decide)]; exact h26 n n1 n2) hr7 (by rw [y4 23 (by decide), m71 12 (by decide) (by decide)]; exact hr5) (by rw [y4 23 (by decide), m7h 11 (by decide) (by decide)]; exact hc) (fun e e' he he' u => hsi e e' ((LE e).mp he) ((LE e').mp he') u) (fun n n1 n2 => ?_) (fun e he => ?_) (fun x => by rw [LE]; exact Ym x)
    · intro e he
      rw [m7h 7 (by decide) (by decide), ert]
      exact hE e ((LE e).mp he)
    · obtain ⟨L, l1, l2, l3⟩ := hS
      refine ⟨L, ?_, l2, fun e => ?_⟩
      · rw [m71 14 (by decide) (by decide)]
        exact c_ch_congr L _ (fun b _ => by rw [m7h 8 (by decide) (by decide)]) l1
      · rw [l3 e, m71 13 (by decide) (by decide), m7h 2 (by decide) (by decide)]
    · rw [y4 24 (by decide)]
      rcases hso n n1 n2 with ⟨u, e, v, t⟩ | u
      · exact Or.inl ⟨u, e, (LE e).mpr v, t⟩
      · exact Or.inr u
    · obtain ⟨u1, u2, u3⟩ := hse e ((LE e).mp he)
      rw [y4 24 (by decide), m7h 7 (by decide) (by decide), ert, d_rt_neg (y4 25 (by decide))]
      exact ⟨u1, u2, u3⟩
  have hYl : (Y.length : Int) = len := by omega
  obtain ⟨s, m', r', ψ, l', k1, k2, ⟨k3, k4⟩, k5, k6, k7, k8⟩ := q_levels (w := w) hN 9 N N m7 r5 φ Y 0 0 (by rw [Yl]; omega) ⟨by omega, by omega⟩ (by decide) (by decide) (by omega) (by omega) (Or.inl rfl) hP7 hr7 (by rw [m7h 16 (by decide) (by decide), h3, hYl]) hO Yn (fun x hx => by
    have := ((Ym x).mp hx).2
    rw [m7h 2 (by decide) (by decide), this]; rfl) (fun i x hi => by
    obtain ⟨i1, i2⟩ := Yg i x hi
    rw [m717]
    exact ⟨i2, by rw [y6 (i : Int) (by omega) (by omega), i2]⟩) (fun u hu => absurd hu (noN u))
  rw [hYl, m715] at k2
  rw [m71 0 (by decide) (by decide), m71 1 (by decide) (by decide)] at k6
  have hroot := k3.1.2.2.2.1.1
  rw [up_s] at hroot
  obtain ⟨⟨b1, -, -⟩, -, -, b6⟩ := k3.2.2.2.1.1 s hroot
  have b30 := b6 (up_s _ _ _ _).symm
  have e4 : m4 1 = m 1 := g3 1 (by decide)
  have e416 : m4 16 = m 16 := g3 16 (by decide)
  have e423 : r4 23 = r 23 := g4 23 (by decide)
  refine ⟨s, m', r', ψ, ?_, ?_, ⟨k3, k4⟩, k6, k7, ?_⟩
  · unfold fn_X1_sortSlices fn_X1_groupsOf fn_X4_forgetNodes
    rw [h3, g1, Option.bind_some, e416, h3, e4, pu_gd ⟨by omega, by omega⟩, pu_gd ⟨by omega, by omega⟩, Option.bind_some, hGn, x1, pu_lt, y1, Option.bind_some, pu_lt, pu_lt, hm7, Option.bind_some, k1]
  · rw [g2, Option.bind_some, e423, hr1.1, pu_gd ⟨by omega, by omega⟩, pu_gd ⟨by omega, by omega⟩, pu_lt, hGn, x2, y2, k2, pu_gd (by decide), pu_lt, k5, up_s, pu_gd b1, pu_lt, up_self b30, show (0 : Int) + (m' 1 15 - 400) = m' 1 15 - 400 by omega]
  · refine g_F_t (m' := m7) (r' := r5) ⟨⟨fun h u => m7h h (by omega) (by omega), m71, fun e _ => ⟨by rw [m7h 2 (by decide) (by decide)], ert e⟩⟩, fun h u => y4 h (by omega)⟩ k8
