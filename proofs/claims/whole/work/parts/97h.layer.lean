/-! ===== PURE, 66: layers ===== -/
theorem q_layerL {w N : Nat} {l M L len G : Int} {κ : Int → vl_M → Option vl_M} {κ' : Int → Int → Int → vl_M → Option (Int × vl_M)} (hN : 100000 ≤ N) (hwM : M = (w : Int) - 1) (hM : 4 ≤ M ∧ M ≤ 10) (hL : 2 ≤ L ∧ 2 * L ≤ M) (hlen : 1 ≤ len ∧ len ≤ 400) (hG : (len + M - 1) / M = G) (hl : 0 ≤ l ∧ l < 100) : ∀ (n fu fu' : Nat) (m r : vl_M) (φ : Int → Int) (D R : List Int), (D.length : Int) + (n : Int) + 1 = G → n + 1 < fu → n + 1 < fu' → (m 1 0 = M ∧ m 1 1 = L) → (r 23 1 = M ∧ r 23 2 = L) → m 16 3 = len → (R.length : Int) = len - p_st M L len G (D.length : Int) → g_O w N l m r φ (D ++ R) → (D ++ R).Nodup → g_L l m r φ D R (p_st M L len G (D.length : Int)) → (∀ u, c_LN m u → L ≤ m 9 u ∧ m 9 u ≤ M) →
    ∃ s D' m' r' ψ, fn_X1_groupInto_L11 w N l G κ fu (D.length : Int) m = κ G m' ∧ fn_X8_layer_L8 N l κ' fu' (D.length : Int) (p_st M L len G (D.length : Int)) (len - p_st M L len G (D.length : Int)) r = κ' G len 0 r' ∧ (D'.length : Int) = G ∧ g_S w m' r' ψ D' s ∧ (∀ x, x ∈ D' → m' 2 x = l) ∧ (∀ (i : Nat) x, D'[i]? = some x → m' 17 (i : Int) = x ∧ r' 46 (i : Int) = ψ x) ∧ ((∀ u, c_LN m' u → (u ≠ s → L ≤ m' 9 u) ∧ m' 9 u ≤ M) ∧ (1 < G → L ≤ m' 9 s) ∧ (G = 1 → m' 9 s = len)) ∧ (g_F m m' r r' ∧ m' 16 = m 16 ∧ m' 1 15 = m 1 15 + (n : Int) + 1) := by
  intro n
  induction n with
  | zero =>
    intro fu fu' m r φ D R h1 f1 f2 hm hr h3 hR hO hn hLn hsz
    obtain ⟨fu, rfl⟩ : ∃ x, fu = x + 2 := ⟨fu - 2, by omega⟩
    obtain ⟨fu', rfl⟩ : ∃ x, fu' = x + 2 := ⟨fu' - 2, by omega⟩
    obtain ⟨⟨s1, s2⟩, ⟨s3, s4⟩, ⟨s5, s6⟩, s7, s8⟩ := p_step (g := (D.length : Int)) hM hL hlen hG ⟨by omega, by omega⟩
    have eG : (D.length : Int) + 1 = G := by omega
    have est : p_st M L len G ((D.length : Int) + 1) = len := by unfold p_st; rw [if_pos eG]
    have hG1 := (p_G hM hlen hG).1
    obtain ⟨s, m1, r1, ψ, c1, c2, gS, ⟨⟨g1, -⟩, g2, -⟩, ⟨g3, g4⟩, g5, g6, g7⟩ := q_group (κ := κ) (κ' := κ') (fu := fu + 1) (fu' := fu' + 1) (D := D) (T := R) (R := []) hN ⟨hwM, hm.1, hm.2⟩ hM hL hr h3 hlen hG (by omega) (by rw [est]; exact hR) (by rw [est]; simp) (by rw [List.append_nil]; exact hO) (by rw [List.append_nil]; exact hn) hl (by rw [List.append_nil]; exact hLn) hsz
    rw [List.append_nil] at gS
    rw [est] at c2 s7
    refine ⟨s, D ++ [s], m1, r1, ψ, ?_, ?_, ?_, gS, g1, g2, ⟨g3, fun z => by rw [g4, hR]; exact s7 z, fun z => ?_⟩, g5, g6, by rw [g7]; omega⟩
    · rw [c1, fn_X1_groupInto_L11, pu_gd ⟨by omega, by omega⟩, pu_gd ⟨by omega, by omega⟩, if_neg (by omega), eG]
    · rw [c2, fn_X8_layer_L8, pu_gd ⟨by omega, by omega⟩, if_neg (by omega), eG, Int.sub_self]
    · rw [List.length_append, List.length_singleton]; omega
    · have d0 : (D.length : Int) = 0 := by omega
      have e0 : p_st M L len G 0 = 0 := by unfold p_st; rw [if_neg (by omega), if_neg (by omega), Int.zero_mul]
      rw [g4, hR, d0, e0]; omega
  | succ n ih =>
    intro fu fu' m r φ D R h1 f1 f2 hm hr h3 hR hO hn hLn hsz
    obtain ⟨fu, rfl⟩ : ∃ x, fu = x + 1 := ⟨fu - 1, by omega⟩
    obtain ⟨fu', rfl⟩ : ∃ x, fu' = x + 1 := ⟨fu' - 1, by omega⟩
    obtain ⟨⟨s1, s2⟩, ⟨s3, s4⟩, ⟨s5, s6⟩, s7, s8⟩ := p_step (g := (D.length : Int)) hM hL hlen hG ⟨by omega, by omega⟩
    have hG1 := (p_G hM hlen hG).1
    generalize hk : (p_st M L len G ((D.length : Int) + 1) - p_st M L len G (D.length : Int)).toNat = k
    have eR : R.take k ++ R.drop k = R := List.take_append_drop k R
    have lT : ((R.take k).length : Int) = p_st M L len G ((D.length : Int) + 1) - p_st M L len G (D.length : Int) := by
      rw [List.length_take]; omega
    have lR : ((R.drop k).length : Int) = len - p_st M L len G ((D.length : Int) + 1) := by
      rw [List.length_drop]; omega
    obtain ⟨s, m1, r1, ψ, c1, c2, gS, gL, ⟨g3, g4⟩, g5, g6, g7⟩ := q_group (κ := κ) (κ' := κ') (fu := fu) (fu' := fu') (D := D) (T := R.take k) (R := R.drop k) hN ⟨hwM, hm.1, hm.2⟩ hM hL hr h3 hlen hG (by omega) lT lR (by rw [eR]; exact hO) (by rw [eR]; exact hn) hl (by rw [eR]; exact hLn) hsz
    have hsz1 : ∀ u, c_LN m1 u → L ≤ m1 9 u ∧ m1 9 u ≤ M := fun u hu => by
      refine ⟨?_, (g3 u hu).2⟩
      by_cases c : u = s
      · rw [c, g4, lT]; exact s7 (by omega)
      · exact (g3 u hu).1 c
    have hO1 := g_open (l := l) hN gS (fun u hu => by have := hsz1 u hu; omega) hl
    have eD : (((D ++ [s]).length : Nat) : Int) = (D.length : Int) + 1 := by rw [List.length_append, List.length_singleton]; omega
    obtain ⟨s', D', m', r', ψ', y1, y2, y3, y4, y5, y6, y7, y8, y9, y10⟩ := ih fu fu' m1 r1 ψ (D ++ [s]) (R.drop k) (by rw [eD]; omega) (by omega) (by omega) ⟨by rw [g5.1.2.1 0 (by decide) (by decide)]; exact hm.1, by rw [g5.1.2.1 1 (by decide) (by decide)]; exact hm.2⟩ (by rw [g5.2 23 (by omega)]; exact hr) (by rw [g6]; exact h3) (by rw [eD]; exact lR) hO1 gS.2.2 (by rw [eD]; exact gL) hsz1
    rw [eD] at y1 y2
    refine ⟨s', D', m', r', ψ', by rw [c1, y1], by rw [c2, y2], y3, y4, y5, y6, y7, g_F_t g5 y8, by rw [y9, g6], by rw [y10, g7]; omega⟩
theorem d_l142 {N : Nat} {r : vl_M} {G : Int} {κ : Int → vl_M → Option (Int × vl_M)} (hG : G ≤ 200) : ∀ (n fu : Nat) (v : Int) (rr : vl_M), 0 ≤ v → v + (n : Int) = G → n < fu → (∀ h : Nat, h ≠ 45 → rr h = r h) → (∀ k, 0 ≤ k → k < v → rr 45 k = r 46 k) → ∃ rr', fn_X8_layer_L142 N G κ fu v rr = κ G rr' ∧ (∀ h : Nat, h ≠ 45 → rr' h = r h) ∧ ∀ k, 0 ≤ k → k < G → rr' 45 k = r 46 k := by
  intro n
  induction n with
  | zero =>
    intro fu v rr h1 h2 h3 hr hk
    obtain ⟨fu, rfl⟩ : ∃ x, fu = x + 1 := ⟨fu - 1, by omega⟩
    refine ⟨rr, ?_, hr, fun k k1 k2 => hk k k1 (by omega)⟩
    rw [fn_X8_layer_L142, pu_gd ⟨by omega, by omega⟩, pu_gd ⟨by omega, by omega⟩, if_neg (by omega), show v = G by omega]
  | succ n ih =>
    intro fu v rr h1 h2 h3 hr hk
    obtain ⟨fu, rfl⟩ : ∃ x, fu = x + 1 := ⟨fu - 1, by omega⟩
    obtain ⟨rr', g1, g2⟩ := ih fu (v + 1) (vl_up rr 45 v (rr 46 v)) (by omega) (by omega) (by omega) (fun h x => by rw [up_h _ _ _ x, hr h x]) (fun k k1 k2 => by
      by_cases c : k = v
      · rw [c, up_s, hr 46 (by decide)]
      · rw [up_i _ _ c]; exact hk k k1 (by omega))
    refine ⟨rr', ?_, g2⟩
    rw [fn_X8_layer_L142, pu_gd ⟨by omega, by omega⟩, pu_gd ⟨by omega, by omega⟩, if_pos (by omega), pu_gd ⟨by omega, by omega⟩, pu_gd ⟨by omega, by omega⟩, pu_lt, pu_lt, g1]
/-- one layer -/
theorem q_level {w N : Nat} {m r : vl_M} {φ : Int → Int} {l : Int} {Y : List Int} (hN : 100000 ≤ N) (hP : s_P w m) (hr : r 23 1 = m 1 0 ∧ r 23 2 = m 1 1) (h3 : m 16 3 = (Y.length : Int)) (hlen : 1 ≤ Y.length ∧ Y.length ≤ 400) (hl : 0 ≤ l ∧ l < 100) (hO : g_O w N l m r φ Y) (hn : Y.Nodup) (hlv : ∀ x, x ∈ Y → m 2 x = l - 1) (hx : ∀ (i : Nat) x, Y[i]? = some x → m 17 (i : Int) = x ∧ r 45 (i : Int) = φ x) (hsz : ∀ u, c_LN m u → m 1 1 ≤ m 9 u ∧ m 9 u ≤ m 1 0) :
    ∃ s Y' m' r' ψ, fn_X1_groupInto w N m l = some m' ∧ fn_X8_layer N r l (Y.length : Int) = some ((Y'.length : Int), r') ∧ m' 16 3 = (Y'.length : Int) ∧ (1 ≤ Y'.length ∧ Y'.length ≤ 100 ∧ ∀ K, 1 ≤ K → Y.length ≤ 2 * K → Y'.length ≤ K) ∧ g_S w m' r' ψ Y' s ∧ (∀ x, x ∈ Y' → m' 2 x = l) ∧ (∀ (i : Nat) x, Y'[i]? = some x → m' 17 (i : Int) = x ∧ r' 45 (i : Int) = ψ x) ∧ ((∀ u, c_LN m' u → (u ≠ s → m 1 1 ≤ m' 9 u) ∧ m' 9 u ≤ m 1 0) ∧ (1 < Y'.length → m 1 1 ≤ m' 9 s) ∧ (Y'.length = 1 → m' 9 s = (Y.length : Int))) ∧ (g_F m m' r r' ∧ m' 1 15 = m 1 15 + (Y'.length : Int)) := by
  obtain ⟨p0, ⟨p1, p2⟩, p3, p4, p5⟩ := hP
  have hM : 4 ≤ m 1 0 ∧ m 1 0 ≤ 10 := by omega
  generalize hG : ((Y.length : Int) + m 1 0 - 1) / m 1 0 = G
  obtain ⟨a1, a2, a3, a4⟩ := p_G hM (show 1 ≤ (Y.length : Int) ∧ (Y.length : Int) ≤ 400 by omega) hG
  have e0 : p_st (m 1 0) (m 1 1) (Y.length : Int) G 0 = 0 := by unfold p_st; rw [if_neg (by omega), if_neg (by omega), Int.zero_mul]
  obtain ⟨s, D', m1, r1, ψ, c1, c2, c3, gS, c5, c6, ⟨c7, c8, c9⟩, c10, c11, c12⟩ := q_layerL (w := w) (N := N) (l := l) (M := m 1 0) (L := m 1 1) (len := (Y.length : Int)) (G := G) (κ := fun (v4 : Int) (m5 : vl_M) => vl_lt (vl_up m5 16 3 G) fun m6 => some m6) (κ' := fun (v5 : Int) (v6 : Int) (v7 : Int) (m8 : vl_M) => fn_X8_layer_L142 N v5 (fun (v11 : Int) (m12 : vl_M) => some (v5, m12)) N 0 m8) hN p2 hM p3 (by omega) hG hl (G - 1).toNat N N m r φ [] Y (by simp; omega) (by omega) (by omega) ⟨rfl, rfl⟩ hr h3 (by rw [List.length_nil, show ((0 : Nat) : Int) = 0 by rfl, e0]; omega) hO hn ⟨⟨fun x hx' => (List.not_mem_nil hx').elim, hlv⟩, fun i x hi => by simp at hi, fun i x hi => by
      rw [List.length_nil, show ((0 : Nat) : Int) = 0 by rfl, e0, Int.zero_add]; exact hx i x hi⟩ hsz
  rw [List.length_nil, show ((0 : Nat) : Int) = 0 by rfl, e0, show (Y.length : Int) - 0 = (Y.length : Int) by omega] at c2
  rw [List.length_nil, show ((0 : Nat) : Int) = 0 by rfl] at c1
  obtain ⟨r2, d1, d2, d3⟩ := d_l142 (N := N) (r := r1) (G := G) (κ := fun (v11 : Int) (m12 : vl_M) => some (G, m12)) (by omega) G.toNat N 0 r1 (by omega) (by omega) (by omega) (fun _ _ => rfl) (fun k k1 k2 => by omega)
  generalize hm2 : vl_up m1 16 3 G = m2
  have m2h : ∀ h : Nat, h ≠ 16 → m2 h = m1 h := fun h x => by rw [← hm2, up_h _ _ _ x]
  have gS2 : g_S w m2 r2 ψ D' s := ⟨⟨g_cg gS.1.1 (fun h x _ => m2h h x) (fun h x _ => d2 h x), by rw [m2h 1 (by decide)]; exact gS.1.2⟩, gS.2⟩
  have LN2 : ∀ u, c_LN m2 u ↔ c_LN m1 u := fun u => by unfold c_LN; rw [m2h 1 (by decide), m2h 2 (by decide)]
  refine ⟨s, D', m2, r2, ψ, ?_, ?_, ?_, ⟨by omega, by omega, fun K k1 k2 => ?_⟩, gS2, fun x hx' => by rw [m2h 2 (by decide)]; exact c5 x hx', fun i x hi => ?_, ⟨fun u hu => by rw [m2h 9 (by decide)]; exact c7 u ((LN2 u).mp hu), fun z => by rw [m2h 9 (by decide)]; exact c8 (by omega), fun z => by rw [m2h 9 (by decide)]; exact c9 (by omega)⟩, g_F_t c10 ⟨⟨fun h x => m2h h (by omega), fun j _ _ => by rw [m2h 1 (by decide)], fun e _ => ⟨by rw [m2h 2 (by decide)], c_rt_congr (m2h 3 (by decide)) (m2h 4 (by decide)) (m2h 5 (by decide)) (m2h 6 (by decide))⟩⟩, fun h x => d2 h (by omega)⟩, by rw [m2h 1 (by decide), c12]; omega⟩
  · unfold fn_X1_groupInto fn_X1_groupsOf
    rw [h3, pu_gd ⟨by omega, by omega⟩, pu_gd ⟨by omega, by omega⟩, Option.bind_some, hG, c1, pu_lt, hm2]
  · unfold fn_X8_layer
    rw [c2, d1, c3]
  · rw [← hm2, up_s, c3]
  · have := a4 (K : Int) (by omega) (by omega)
    omega
  · have hi' := (List.getElem?_eq_some_iff.mp hi).1
    rw [m2h 17 (by decide), d3 (i : Int) (by omega) (by omega)]
    exact c6 i x hi
/-- all layers -/
theorem q_levels {w N : Nat} (hN : 100000 ≤ N) : ∀ (b fu fu' : Nat) (m r : vl_M) (φ : Int → Int) (Y : List Int) (l all : Int), Y.length ≤ 2 ^ b → (1 ≤ Y.length ∧ Y.length ≤ 400) → 0 ≤ l → l + (b : Int) ≤ 30 → b + 1 < fu → b + 1 < fu' → (l = 0 ∨ 1 < Y.length) → s_P w m → (r 23 1 = m 1 0 ∧ r 23 2 = m 1 1) → m 16 3 = (Y.length : Int) → g_O w N l m r φ Y → Y.Nodup → (∀ x, x ∈ Y → m 2 x = l - 1) → (∀ (i : Nat) x, Y[i]? = some x → m 17 (i : Int) = x ∧ r 45 (i : Int) = φ x) → (∀ u, c_LN m u → m 1 1 ≤ m 9 u ∧ m 9 u ≤ m 1 0) →
    ∃ s m' r' ψ l', fn_X1_buildAnew_L32 w N fu l m = some (vl_up m' 11 6 s) ∧ (∀ κ' : Int → Int → Int → vl_M → Option (Int × vl_M), fn_X8_pack_L167 N κ' fu' all l (Y.length : Int) r = κ' (all + (m' 1 15 - m 1 15)) l' 1 r') ∧ (q_I w (vl_up m' 11 6 s) (vl_up r' 23 11 (ψ s)) ψ (fun _ => False) (-1) ∧ m' 1 16 = -1) ∧ r' 45 0 = ψ s ∧ (∀ u, c_LN m' u → (u ≠ s → m 1 1 ≤ m' 9 u) ∧ m' 9 u ≤ m 1 0) ∧ (1 ≤ m' 9 s ∧ (0 < m' 2 s → 2 ≤ m' 9 s)) ∧ g_F m m' r r' := by
  intro b
  induction b with
  | zero =>
    intro fu fu' m r φ Y l all hb hlen hl0 hlb f1 f2 hor hP hr h3 hO hn hlv hx hsz
    obtain ⟨fu, rfl⟩ : ∃ x, fu = x + 2 := ⟨fu - 2, by omega⟩
    obtain ⟨fu', rfl⟩ : ∃ x, fu' = x + 1 := ⟨fu' - 1, by omega⟩
    obtain ⟨s, Y', m1, r1, ψ, c1, c2, c3, ⟨c4, c5, c6⟩, gS, c7, c8, ⟨c9, c10, c11⟩, c12, c13⟩ := q_level hN hP hr h3 hlen ⟨hl0, by omega⟩ hO hn hlv hx hsz
    have hY1 : Y'.length = 1 := by
      have := c6 1 (by omega) (by omega)
      omega
    obtain ⟨y, rfl⟩ : ∃ y, Y' = [y] := List.length_eq_one_iff.mp hY1
    obtain ⟨⟨gI, g16⟩, gs, -⟩ := gS
    have ey : s = y := List.mem_singleton.mp gs
    subst ey
    obtain ⟨e17, e45⟩ := c8 0 s rfl
    have e17' : m1 17 0 = s := e17
    have hY' : (([s] : List Int).length : Int) = 1 := rfl
    rw [hY'] at c2 c3 c13
    have eX : (fun x => x ∈ [s] ∧ x ≠ s) = (fun _ => False) := funext fun x => propext ⟨fun z => z.2 (List.mem_singleton.mp z.1), fun z => z.elim⟩
    rw [eX] at gI
    refine ⟨s, m1, r1, ψ, l + 1, ?_, fun κ' => ?_, ⟨gI, g16⟩, e45, c9, ⟨by rw [c11 hY1]; omega, fun z => ?_⟩, c12⟩
    · have fin : fn_X1_buildAnew_L32 w N (fu + 1) (l + 1) m1 = some (vl_up m1 11 6 s) := by
        rw [fn_X1_buildAnew_L32, pu_gd ⟨by omega, by omega⟩, if_neg (by omega), c3, pu_gd (by decide), pu_jn, if_neg (by decide)]
        dsimp only
        rw [pu_gd (by decide), pu_lt, e17']
      rw [fn_X1_buildAnew_L32, pu_gd ⟨by omega, by omega⟩]
      by_cases c : l = 0
      · rw [if_pos c, c1, Option.bind_some, pu_lt, fin]
      · rw [if_neg c, pu_gd (by rw [h3]; exact ⟨by omega, by omega⟩), pu_jn, if_pos (by omega), if_pos (by omega), c1, Option.bind_some, pu_lt, fin]
    · rw [fn_X8_pack_L167, c2, Option.bind_some, pu_un, pu_lt, pu_lt, pu_gd (by decide), if_neg (by decide), c13, show m 1 15 + 1 - m 1 15 = 1 by omega]
    · rw [c7 s (List.mem_singleton.mpr rfl)] at z
      rw [c11 hY1]; omega
  | succ b ih =>
    intro fu fu' m r φ Y l all hb hlen hl0 hlb f1 f2 hor hP hr h3 hO hn hlv hx hsz
    obtain ⟨fu, rfl⟩ : ∃ x, fu = x + 2 := ⟨fu - 2, by omega⟩
    obtain ⟨fu', rfl⟩ : ∃ x, fu' = x + 1 := ⟨fu' - 1, by omega⟩
    have hlb' : l + (b : Int) + 1 ≤ 30 := by omega
    obtain ⟨s, Y', m1, r1, ψ, c1, c2, c3, ⟨c4, c5, c6⟩, gS, c7, c8, ⟨c9, c10, c11⟩, c12, c13⟩ := q_level hN hP hr h3 hlen ⟨hl0, by omega⟩ hO hn hlv hx hsz
    have hpow : 2 ^ (b + 1) = 2 * 2 ^ b := by rw [Nat.pow_succ, Nat.mul_comm]
    have hpos : 1 ≤ 2 ^ b := Nat.one_le_two_pow
    have hstep : ∀ F, fn_X1_buildAnew_L32 w N (fu + 1) (l + 1) m1 = some F → fn_X1_buildAnew_L32 w N (fu + 2) l m = some F := fun F hF => by
      rw [fn_X1_buildAnew_L32, pu_gd ⟨by omega, by omega⟩]
      by_cases c : l = 0
      · rw [if_pos c, c1, Option.bind_some, pu_lt, hF]
      · rw [if_neg c, pu_gd (by rw [h3]; exact ⟨by omega, by omega⟩), pu_jn, if_pos (by omega), if_pos (by omega), c1, Option.bind_some, pu_lt, hF]
    by_cases hY1 : Y'.length = 1
    · obtain ⟨y, rfl⟩ : ∃ y, Y' = [y] := List.length_eq_one_iff.mp hY1
      obtain ⟨⟨gI, g16⟩, gs, -⟩ := gS
      have ey : s = y := List.mem_singleton.mp gs
      subst ey
      obtain ⟨e17, e45⟩ := c8 0 s rfl
      have e17' : m1 17 0 = s := e17
      have hY' : (([s] : List Int).length : Int) = 1 := rfl
      rw [hY'] at c2 c3 c13
      have eX : (fun x => x ∈ [s] ∧ x ≠ s) = (fun _ => False) := funext fun x => propext ⟨fun z => z.2 (List.mem_singleton.mp z.1), fun z => z.elim⟩
      rw [eX] at gI
      refine ⟨s, m1, r1, ψ, l + 1, hstep _ ?_, fun κ' => ?_, ⟨gI, g16⟩, e45, c9, ⟨by rw [c11 hY1]; omega, fun z => ?_⟩, c12⟩
      · rw [fn_X1_buildAnew_L32, pu_gd ⟨by omega, by omega⟩, if_neg (by omega), c3, pu_gd (by decide), pu_jn, if_neg (by decide)]
        dsimp only
        rw [pu_gd (by decide), pu_lt, e17']
      · rw [fn_X8_pack_L167, c2, Option.bind_some, pu_un, pu_lt, pu_lt, pu_gd (by decide), if_neg (by decide), c13, show m 1 15 + 1 - m 1 15 = 1 by omega]
      · rw [c7 s (List.mem_singleton.mpr rfl)] at z
        rw [c11 hY1]; omega
    · have hL2 := hP.2.2.1.1
      have e10 : m1 1 0 = m 1 0 := c12.1.2.1 0 (by decide) (by decide)
      have e11 : m1 1 1 = m 1 1 := c12.1.2.1 1 (by decide) (by decide)
      have hsz1 : ∀ u, c_LN m1 u → m1 1 1 ≤ m1 9 u ∧ m1 9 u ≤ m1 1 0 := fun u hu => by
        rw [e10, e11]
        refine ⟨?_, (c9 u hu).2⟩
        by_cases c : u = s
        · rw [c]; exact c10 (by omega)
        · exact (c9 u hu).1 c
      have hP1 : s_P w m1 := by
        have := gS.1.1.1.1
        unfold s_P at this ⊢
        rw [up_h _ _ _ (show (1 : Nat) ≠ 11 by decide)] at this
        exact this
      obtain ⟨s', m', r', ψ', l', y1, y2, y3, y4, y5, y6, y7⟩ := ih (fu + 1) fu' m1 r1 ψ Y' (l + 1) (all + (Y'.length : Int)) (c6 (2 ^ b) hpos (by omega)) ⟨c4, by omega⟩ (by omega) (by omega) (by omega) (by omega) (Or.inr (by omega)) hP1 (by rw [c12.2 23 (by omega), e10, e11]; exact hr) c3 (g_open hN gS (fun u hu => by have := hsz1 u hu; rw [e11] at this; omega) ⟨by omega, by omega⟩) gS.2.2 (fun x hx' => by rw [c7 x hx']; omega) c8 hsz1
      rw [e10, e11] at y5
      refine ⟨s', m', r', ψ', l', hstep _ y1, fun κ' => ?_, y3, y4, y5, y6, g_F_t c12 y7⟩
      rw [fn_X8_pack_L167, c2, Option.bind_some, pu_un, pu_lt, pu_lt, pu_gd ⟨by omega, by omega⟩, if_pos (by omega), y2, c13, show all + (Y'.length : Int) + (m' 1 15 - (m 1 15 + (Y'.length : Int))) = all + (m' 1 15 - m 1 15) by omega]
