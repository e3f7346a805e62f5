/-! ===== PURE, 65: a group, a layer ===== -/
theorem p_K {α : Type} (K : Int → Option α) {M L v : Int} (hv : 0 ≤ v ∧ v ≤ 1000) (hM : 0 ≤ M ∧ M ≤ 1000) (hL : 0 ≤ L ∧ L ≤ 1000) : (if M < v then (vl_gd (vl_r32 (v - M)) <| vl_gd (vl_r32 L) <| if v - M < L then (if 0 < v - M then (K (v - L)) else K M) else K M) else K v) = K (if M < v then (if v - M < L then (if 0 < v - M then v - L else M) else M) else v) := by
  by_cases a : M < v
  · rw [if_pos a, if_pos a, pu_gd ⟨by omega, by omega⟩, pu_gd ⟨by omega, by omega⟩]
    by_cases b : v - M < L
    · rw [if_pos b, if_pos b]
      by_cases c : 0 < v - M
      · rw [if_pos c, if_pos c]
      · rw [if_neg c, if_neg c]
    · rw [if_neg b, if_neg b]
  · rw [if_neg a, if_neg a]
/-- only the rows that packing itself has have changed -/
theorem g_cg {w : Nat} {m m' r r' : vl_M} {φ : Int → Int} {X : Int → Prop} {a s v : Int} (h : q_I w (vl_up m 11 6 s) (vl_up r 23 11 v) φ X a) (hm : ∀ h : Nat, h ≠ 16 → h ≠ 17 → m' h = m h) (hr : ∀ h : Nat, h ≠ 45 → h ≠ 46 → r' h = r h) : q_I w (vl_up m' 11 6 s) (vl_up r' 23 11 v) φ X a := by
  have hh : ∀ h : Nat, h ≠ 11 → h ≠ 16 → h ≠ 17 → vl_up m' 11 6 s h = vl_up m 11 6 s h := fun h x y z => by rw [up_h _ _ _ x, up_h _ _ _ x, hm h y z]
  have h11 : vl_up m' 11 6 s 11 = vl_up m 11 6 s 11 := by
    funext j
    unfold vl_up
    rw [hm 11 (by decide) (by decide)]
  have h23 : vl_up r' 23 11 v 23 = vl_up r 23 11 v 23 := by
    funext j
    unfold vl_up
    rw [hr 23 (by decide) (by decide)]
  obtain ⟨-, -, -, -, ⟨-, -, -, c1, c2⟩⟩ := id h
  refine q_cg h (hh 1 (by decide) (by decide) (by decide)) (hh 2 (by decide) (by decide) (by decide)) (hh 8 (by decide) (by decide) (by decide)) (hh 9 (by decide) (by decide) (by decide)) (hh 10 (by decide) (by decide) (by decide)) (fun u _ _ => c_rt_congr (hh 3 (by decide) (by decide) (by decide)) (hh 4 (by decide) (by decide) (by decide)) (hh 5 (by decide) (by decide) (by decide)) (hh 6 (by decide) (by decide) (by decide))) (fun u _ _ => by rw [hh 7 (by decide) (by decide) (by decide)]) (by rw [h11]) (fun h x y => by rw [up_h _ _ _ (by omega), up_h _ _ _ (by omega), hr h (by omega) (by omega)]) ⟨by rw [h23], by rw [h23]⟩ ⟨by rw [h23], by rw [h23]⟩ ⟨by rw [h23, h11]; exact c1, by rw [h23, h11]; exact c2⟩
def g_F (m m' r r' : vl_M) : Prop := ((∀ h : Nat, (h = 0 ∨ h = 7 ∨ (11 ≤ h ∧ h ≠ 16 ∧ h ≠ 17)) → m' h = m h) ∧ (∀ j, j ≠ 15 → j ≠ 16 → m' 1 j = m 1 j) ∧ (∀ e, e < 400 → m' 2 e = m 2 e ∧ c_rt m' e = c_rt m e)) ∧ (∀ h : Nat, (h < 26 ∨ (30 < h ∧ h ≠ 45 ∧ h ≠ 46)) → r' h = r h)
theorem g_F_t {m m' m'' r r' r'' : vl_M} (h : g_F m m' r r') (h' : g_F m' m'' r' r'') : g_F m m'' r r'' := by
  obtain ⟨⟨a1, a2, a3⟩, a4⟩ := h
  obtain ⟨⟨b1, b2, b3⟩, b4⟩ := h'
  refine ⟨⟨fun h x => by rw [b1 h x, a1 h x], fun j x y => by rw [b2 j x y, a2 j x y], fun e x => ?_⟩, fun h x => by rw [b4 h x, a4 h x]⟩
  rw [(b3 e x).1, (b3 e x).2]
  exact a3 e x
/-- the things of a line that is still to be grouped, and the nodes that stand already -/
def g_L (l : Int) (m r : vl_M) (φ : Int → Int) (D R : List Int) (st : Int) : Prop := ((∀ x, x ∈ D → m 2 x = l) ∧ ∀ x, x ∈ R → m 2 x = l - 1) ∧ (∀ (i : Nat) x, D[i]? = some x → m 17 (i : Int) = x ∧ r 46 (i : Int) = φ x) ∧ (∀ (i : Nat) x, R[i]? = some x → m 17 (st + (i : Int)) = x ∧ r 45 (st + (i : Int)) = φ x)
theorem q_group {w N : Nat} {m r : vl_M} {φ : Int → Int} {l M L len G : Int} {D T R : List Int} {κ : Int → vl_M → Option vl_M} {κ' : Int → Int → Int → vl_M → Option (Int × vl_M)} {fu fu' : Nat} (hN : 100000 ≤ N) (hw : M = (w : Int) - 1 ∧ m 1 0 = M ∧ m 1 1 = L) (hM : 4 ≤ M ∧ M ≤ 10) (hL : 2 ≤ L ∧ 2 * L ≤ M) (hr : r 23 1 = M ∧ r 23 2 = L) (h3 : m 16 3 = len) (hlen : 1 ≤ len ∧ len ≤ 400) (hG : (len + M - 1) / M = G) (hg : (D.length : Int) < G)
    (hT : (T.length : Int) = p_st M L len G ((D.length : Int) + 1) - p_st M L len G (D.length : Int)) (hR : (R.length : Int) = len - p_st M L len G ((D.length : Int) + 1)) (hO : g_O w N l m r φ (D ++ (T ++ R))) (hn : (D ++ (T ++ R)).Nodup) (hl : 0 ≤ l ∧ l < 100) (hLn : g_L l m r φ D (T ++ R) (p_st M L len G (D.length : Int))) (hsz : ∀ u, c_LN m u → L ≤ m 9 u ∧ m 9 u ≤ M) :
    ∃ s m' r' ψ, fn_X1_groupInto_L11 w N l G κ (fu + 1) (D.length : Int) m = fn_X1_groupInto_L11 w N l G κ fu ((D.length : Int) + 1) m' ∧ fn_X8_layer_L8 N l κ' (fu' + 1) (D.length : Int) (p_st M L len G (D.length : Int)) (len - p_st M L len G (D.length : Int)) r = fn_X8_layer_L8 N l κ' fu' ((D.length : Int) + 1) (p_st M L len G ((D.length : Int) + 1)) (len - p_st M L len G ((D.length : Int) + 1)) r' ∧
      g_S w m' r' ψ ((D ++ [s]) ++ R) s ∧ g_L l m' r' ψ (D ++ [s]) R (p_st M L len G ((D.length : Int) + 1)) ∧ ((∀ u, c_LN m' u → (u ≠ s → L ≤ m' 9 u) ∧ m' 9 u ≤ M) ∧ m' 9 s = (T.length : Int)) ∧ (g_F m m' r r' ∧ m' 16 = m 16 ∧ m' 1 15 = m 1 15 + 1) := by
  have hg0 : (0 : Int) ≤ (D.length : Int) := by omega
  generalize hgg : (D.length : Int) = g at *
  obtain ⟨⟨s1, s2⟩, ⟨s3, s4⟩, ⟨s5, s6⟩, s7, s8⟩ := p_step hM hL hlen hG ⟨hg0, hg⟩
  have hG1 := (p_G hM hlen hG).1
  obtain ⟨s, o, ψ, m1, r1, ⟨n1, n2⟩, ⟨hψ1, hψ2⟩, ⟨gI, hsY⟩, ⟨⟨f1, f2⟩, f3, f4⟩, ⟨f5, f6, f7, f8⟩, ⟨f9, f10⟩, f11⟩ := hO
  obtain ⟨⟨L1, L2⟩, L3, L4⟩ := hLn
  have hpst := fun k (k1 : 0 ≤ k ∧ k ≤ G) => p_start (m := m1) (g := k) (G := G) (len := len) ⟨by omega, by omega⟩ k1 (by rw [f6 0 (by decide) (by decide), hw.2.1]; exact hM) (by rw [f6 0 (by decide) (by decide), f6 1 (by decide) (by decide), hw.2.1, hw.2.2]; exact hL) ⟨by omega, by omega⟩ (by rw [f5 16 (by decide) (by decide) (by decide) (by decide)]; exact h3)
  rw [f6 0 (by decide) (by decide), f6 1 (by decide) (by decide), hw.2.1, hw.2.2] at hpst
  have st0 := hpst g ⟨hg0, by omega⟩
  have st1 := hpst (g + 1) ⟨by omega, by omega⟩
  generalize ha : p_st M L len G g = a at *
  generalize hb : p_st M L len G (g + 1) = b at *
  have hsD : s ∉ D := fun z => hsY (List.mem_append_left _ z)
  have hsT : ∀ x, x ∈ T → x ≠ s := fun x z y => hsY (by rw [← y]; exact List.mem_append_right _ (List.mem_append_left _ z))
  have hsR : ∀ x, x ∈ R → x ≠ s := fun x z y => hsY (by rw [← y]; exact List.mem_append_right _ (List.mem_append_right _ z))
  have hTw : (T.length : Int) ≤ (w : Int) := by omega
  obtain ⟨m2, r2, t1, t2, t3, t4, t5, t6⟩ := q_fill (w := w) (N := N) (φ := ψ) (s := s) (l := l) (D := D) (R := R) (a1 := l) (b1 := G) (v2 := g) (a1' := l) (u1 := g) (u2 := a) (u3 := len - a) (v25 := b - a)
    (κ := fun (v15 : Int) (m16 : vl_M) => vl_gd (0 ≤ g ∧ g < 400) <| vl_lt (vl_up m16 17 g s) fun m17 => vl_lt (g + 1) fun v20 => fn_X1_groupInto_L11 w N l G κ fu v20 m17)
    (κ' := fun (v31 : Int) (m32 : vl_M) => (fn_X8_measure N m32 (ψ s)).bind fun m34 => vl_lt ((a + (b - a))) fun v35 => vl_lt ((len - a - (b - a))) fun v36 => vl_gd (0 ≤ g ∧ g < 200) <| vl_lt (vl_up m34 46 g (ψ s)) fun m37 => vl_lt (g + 1) fun v40 => fn_X8_layer_L8 N l κ' fu' v40 v35 v36 m37) hN T N N a 0 b m1 r1 (by omega) (by omega) (by omega) (by omega) (by omega) (by omega) (by omega) (by omega) (by omega) gI hn f2 (fun x hx => by rw [(f3 x (hsT x hx)).1]; exact L2 x (List.mem_append_left _ hx)) (by omega) (fun i x hi => by
      have hx : x ∈ T := List.mem_of_getElem? hi
      have hi' : (T ++ R)[i]? = some x := by
        have := (List.getElem?_eq_some_iff.mp hi).1
        rw [List.getElem?_append_left this]; exact hi
      rw [f5 17 (by decide) (by decide) (by decide) (by decide), f11 45 (by decide) (by decide) (by decide), hψ2 x (hsT x hx)]
      exact L4 i x hi')
  obtain ⟨u1, u2⟩ := q_done hN t3 (by rw [t4, f1]; omega)
  generalize hm3 : vl_up m2 17 g s = m3
  generalize hr3 : vl_up (d_set r2 (ψ s) (c_rt m2 s)) 46 g (ψ s) = r3
  have m3h : ∀ h : Nat, h ≠ 17 → m3 h = m2 h := fun h x => by rw [← hm3, up_h _ _ _ x]
  have m317 : ∀ k, m3 17 k = if k = g then s else m2 17 k := fun k => by
    rw [← hm3]
    by_cases z : k = g
    · rw [z, up_s, if_pos rfl]
    · rw [up_i _ _ z, if_neg z]
  have r3h : ∀ h : Nat, h ≠ 29 → h ≠ 46 → r3 h = r2 h := fun h x y => by rw [← hr3, up_h _ _ _ y, d_set_h _ _ _ x]
  have r346 : ∀ k, r3 46 k = if k = g then ψ s else r2 46 k := fun k => by
    rw [← hr3]
    by_cases z : k = g
    · rw [z, up_s, if_pos rfl]
    · rw [up_i _ _ z, if_neg z, d_set_h _ _ _ (by decide)]
  have hI3 : q_I w (vl_up m3 11 6 s) (vl_up r3 23 11 (ψ s)) ψ (fun x => x ∈ D ++ R) (-1) := g_cg u2 (fun h x y => m3h h y) (fun h x y => by rw [← hr3, up_h _ _ _ y])
  have eX : (fun x => x ∈ D ++ R) = (fun x => x ∈ (D ++ [s]) ++ R ∧ x ≠ s) := by
    funext x
    refine propext ⟨fun z => ?_, fun ⟨z, y⟩ => ?_⟩
    · refine ⟨?_, fun y => ?_⟩
      · simp only [List.mem_append, List.mem_singleton] at z ⊢
        rcases z with z | z
        · exact Or.inl (Or.inl z)
        · exact Or.inr z
      · subst y
        rcases List.mem_append.mp z with z | z
        · exact hsD z
        · exact hsR x z rfl
    · simp only [List.mem_append, List.mem_singleton] at z ⊢
      rcases z with (z | z) | z
      · exact Or.inl z
      · exact absurd z y
      · exact Or.inr z
  rw [eX] at hI3
  have hnd : ((D ++ [s]) ++ R).Nodup := by
    have hDR : (D ++ R).Nodup := by
      rw [List.nodup_append] at hn ⊢
      obtain ⟨d1, d2, d3⟩ := hn
      exact ⟨d1, (List.nodup_append.mp d2).2.1, fun a ha b hb => d3 a ha b (List.mem_append_right _ hb)⟩
    have hp : ((D ++ [s]) ++ R).Perm (s :: (D ++ R)) := by
      rw [List.append_assoc]
      exact List.perm_middle
    refine hp.nodup_iff.mpr (List.nodup_cons.mpr ⟨fun z => ?_, hDR⟩)
    rcases List.mem_append.mp z with z | z
    · exact hsD z
    · exact hsR s z rfl
  have e31 : m3 1 = m1 1 := by rw [m3h 1 (by decide), t5.1 1 (by omega)]
  have e32 : m3 2 = m1 2 := by rw [m3h 2 (by decide), t5.1 2 (by omega)]
  have e39 : ∀ u, u ≠ s → m3 9 u = m 9 u := fun u hu => by rw [m3h 9 (by decide), (t5.2 u hu).2, (f3 u hu).2]
  have LN3 : ∀ u, c_LN m3 u ↔ (c_LN m u ∨ u = s) := fun u => by
    rw [← f4 u]
    unfold c_LN
    rw [e31, e32]
  have hs9 : m3 9 s = (T.length : Int) := by rw [m3h 9 (by decide), t4, f1]; omega
  have r2h : ∀ h : Nat, h ≠ 26 → h ≠ 27 → h ≠ 28 → h ≠ 30 → r2 h = r h := fun h x y z t => by rw [t6 h y z t, f11 h x y t]
  refine ⟨s, m3, r3, ψ, ?_, ?_, ⟨⟨hI3, by rw [e31]; exact f8⟩, by simp, hnd⟩, ⟨⟨fun x hx => ?_, fun x hx => ?_⟩, fun i x hi => ?_, fun i x hi => ?_⟩, ⟨fun u hu => ?_, hs9⟩, ⟨⟨fun h x => ?_, fun j x y => by rw [e31]; exact f6 j x y, fun e he => ⟨?_, ?_⟩⟩, fun h x => ?_⟩, ?_, by rw [e31, f7]⟩
  · rw [fn_X1_groupInto_L11, pu_gd ⟨by omega, by omega⟩, pu_gd ⟨by omega, by omega⟩, if_pos hg, n1, Option.bind_some, pu_un, st1, Option.bind_some, st0, Option.bind_some, t1, pu_gd ⟨by omega, by omega⟩, pu_lt, hm3, pu_lt]
  · rw [fn_X8_layer_L8, pu_gd ⟨by omega, by omega⟩, if_pos (by omega), pu_lt, hr.1, hr.2, pu_gd ⟨by omega, by omega⟩, pu_jn]
    refine (p_K (fun (v25 : Int) => (fn_X8_node N r l).bind <| vl_un fun b27 m28 => fn_X8_layer_L76 N l g a (len - a) v25 b27 (fun (v31 : Int) (m32 : vl_M) => (fn_X8_measure N m32 b27).bind fun m34 => vl_lt ((a + v25)) fun v35 => vl_lt ((len - a - v25)) fun v36 => vl_gd (0 ≤ g ∧ g < 200) <| vl_lt (vl_up m34 46 g b27) fun m37 => vl_lt (g + 1) fun v40 => fn_X8_layer_L8 N l κ' fu' v40 v35 v36 m37) N 0 m28) (M := M) (L := L) (v := len - a) ⟨by omega, by omega⟩ ⟨by omega, by omega⟩ ⟨by omega, by omega⟩).trans ?_
    rw [s8]
    rw [n2, Option.bind_some, pu_un, ← hψ1, t2, u1, Option.bind_some, pu_lt, pu_lt, pu_gd ⟨by omega, by omega⟩, pu_lt, hr3, pu_lt, show a + (b - a) = b by omega, show len - a - (b - a) = len - b by omega]
  · rw [e32]
    rcases List.mem_append.mp hx with z | z
    · rw [(f3 x (fun y => hsD (by rw [← y]; exact z))).1]; exact L1 x z
    · rw [List.mem_singleton.mp z]; exact f2
  · rw [e32, (f3 x (hsR x hx)).1]; exact L2 x (List.mem_append_right _ hx)
  · rw [m317, r346]
    by_cases c : i < D.length
    · rw [List.getElem?_append_left c] at hi
      have hx : x ∈ D := List.mem_of_getElem? hi
      rw [if_neg (by omega), if_neg (by omega), t5.1 17 (by omega), f5 17 (by decide) (by decide) (by decide) (by decide), r2h 46 (by decide) (by decide) (by decide) (by decide), hψ2 x (fun y => hsD (by rw [← y]; exact hx))]
      exact L3 i x hi
    · rw [List.getElem?_append_right (by omega)] at hi
      have hi2 := (List.getElem?_eq_some_iff.mp hi).1
      have hi3 : i - D.length < 1 := by simpa using hi2
      have hi4 : i = D.length := by omega
      rw [hi4, Nat.sub_self] at hi
      have hx : s = x := by simpa using hi
      rw [if_pos (by omega), if_pos (by omega), hx]
      exact ⟨rfl, rfl⟩
  · have hx : x ∈ R := List.mem_of_getElem? hi
    have hi' : (T ++ R)[T.length + i]? = some x := by
      rw [List.getElem?_append_right (by omega), show T.length + i - T.length = i by omega]; exact hi
    have := L4 (T.length + i) x hi'
    rw [show a + ((T.length + i : Nat) : Int) = b + (i : Int) by omega] at this
    rw [m317, if_neg (by omega), t5.1 17 (by omega), f5 17 (by decide) (by decide) (by decide) (by decide), r3h 45 (by decide) (by decide), r2h 45 (by decide) (by decide) (by decide) (by decide), hψ2 x (hsR x hx)]
    exact this
  · by_cases c : u = s
    · refine ⟨fun z => absurd c z, ?_⟩
      rw [c, hs9]; omega
    · have := hsz u (((LN3 u).mp hu).resolve_right c)
      rw [e39 u c]
      exact ⟨fun _ => this.1, this.2⟩
  · rw [m3h h (by omega), t5.1 h (by omega), f5 h (by omega) (by omega) (by omega) (by omega)]
  · rw [e32, (f3 e (by omega)).1]
  · rw [c_rt_congr (m3h 3 (by decide)) (m3h 4 (by decide)) (m3h 5 (by decide)) (m3h 6 (by decide)), (t5.2 e (by omega)).1]
    exact c_rt_congr (f5 3 (by decide) (by decide) (by decide) (by decide)) (f5 4 (by decide) (by decide) (by decide) (by decide)) (f5 5 (by decide) (by decide) (by decide) (by decide)) (f5 6 (by decide) (by decide) (by decide) (by decide))
  · rw [r3h h (by omega) (by omega), r2h h (by omega) (by omega) (by omega) (by omega)]
  · rw [m3h 16 (by decide), t5.1 16 (by omega), f5 16 (by decide) (by decide) (by decide) (by decide)]
