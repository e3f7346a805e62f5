/-! ===== PURE, 38: the reference's order ===== -/
def d_nb : vl_M → List Int → vl_M
  | r, [] => r
  | r, x :: L => d_nb (vl_up (vl_up r 33 (r 23 19) x) 23 19 (r 23 19 + 1)) L
theorem d_nb_app : ∀ (A B : List Int) (r : vl_M), d_nb r (A ++ B) = d_nb (d_nb r A) B := by
  intro A
  induction A with
  | nil => intro B r; rfl
  | cons x A ih => intro B r; exact ih B _
theorem d_nb_h : ∀ (L : List Int) (r : vl_M) {h : Nat}, h ≠ 23 → h ≠ 33 → d_nb r L h = r h := by
  intro L
  induction L with
  | nil => intro r h _ _; rfl
  | cons x L ih =>
    intro r h h1 h2
    show d_nb (vl_up (vl_up r 33 (r 23 19) x) 23 19 (r 23 19 + 1)) L h = r h
    rw [ih _ h1 h2, up_h _ _ _ h1, up_h _ _ _ h2]
theorem d_nb_19 : ∀ (L : List Int) (r : vl_M), d_nb r L 23 19 = r 23 19 + (L.length : Int) := by
  intro L
  induction L with
  | nil => intro r; show r 23 19 = _; simp
  | cons x L ih =>
    intro r
    show d_nb (vl_up (vl_up r 33 (r 23 19) x) 23 19 (r 23 19 + 1)) L 23 19 = _
    rw [ih, up_s, List.length_cons]; omega
theorem d_nb_23 : ∀ (L : List Int) (r : vl_M) {j : Int}, j ≠ 19 → d_nb r L 23 j = r 23 j := by
  intro L
  induction L with
  | nil => intro r j _; rfl
  | cons x L ih =>
    intro r j hj
    show d_nb (vl_up (vl_up r 33 (r 23 19) x) 23 19 (r 23 19 + 1)) L 23 j = _
    rw [ih _ hj, up_i _ _ hj, up_h _ _ _ (by decide)]
theorem d_nb_33n : ∀ (L : List Int) (r : vl_M) {j : Int}, j < r 23 19 → d_nb r L 33 j = r 33 j := by
  intro L
  induction L with
  | nil => intro r j _; rfl
  | cons y L ih =>
    intro r j hj
    show d_nb (vl_up (vl_up r 33 (r 23 19) y) 23 19 (r 23 19 + 1)) L 33 j = _
    rw [ih _ (by rw [up_s]; omega), up_h _ _ _ (by decide), up_i _ _ (by omega)]
theorem d_nb_at : ∀ (L : List Int) (r : vl_M) (k : Nat) (x : Int), L[k]? = some x → d_nb r L 33 (r 23 19 + (k : Int)) = x := by
  intro L
  induction L with
  | nil => intro r k x hx; simp at hx
  | cons y L ih =>
    intro r k x hx
    have e5 : vl_up (vl_up r 33 (r 23 19) y) 23 19 (r 23 19 + 1) 23 19 = r 23 19 + 1 := up_s _ _ _ _
    show d_nb (vl_up (vl_up r 33 (r 23 19) y) 23 19 (r 23 19 + 1)) L 33 _ = x
    cases k with
    | zero =>
      have e : y = x := by simpa using hx
      subst e
      rw [d_nb_33n L _ (by rw [e5]; omega), up_h _ _ _ (by decide), show r 23 19 + ((0 : Nat) : Int) = r 23 19 by omega, up_s]
    | succ k =>
      have hx' : L[k]? = some x := by simpa using hx
      have g1 := ih (vl_up (vl_up r 33 (r 23 19) y) 23 19 (r 23 19 + 1)) k x hx'
      rw [e5] at g1
      rw [show r 23 19 + ((k + 1 : Nat) : Int) = r 23 19 + 1 + (k : Int) by omega]
      exact g1
theorem d_walkL {w N rr n : Nat} {m r : vl_M} {φ : Int → Int} {u : Int} {κ : Int → vl_M → Option vl_M} (hφ : d_nd (φ u)) (h26 : r 26 (φ u) = (n : Int) + 1) (hn : n < 100) (h27 : r 27 (φ u) = m 9 u) (h9u : 0 ≤ m 9 u ∧ m 9 u ≤ 11) (hk : ∀ i, 0 ≤ i → i < m 9 u → d_k r (φ u) i = φ (c_k w m u i)) (hself : ∀ (i : Int) (r' : vl_M), 0 ≤ i → i < m 9 u → (r' 26 = r 26 ∧ r' 27 = r 27 ∧ r' 28 = r 28) → 0 ≤ r' 23 19 → r' 23 19 + ((c_pre w m n (c_k w m u i)).length : Int) ≤ 404 → fn_X8_walk N rr r' (φ (c_k w m u i)) = some (d_nb r' ((c_pre w m n (c_k w m u i)).map φ))) :
    ∀ (k fu : Nat) (i : Int) (r' : vl_M), 0 ≤ i → i + (k : Int) = m 9 u → k < fu → (r' 26 = r 26 ∧ r' 27 = r 27 ∧ r' 28 = r 28) → 0 ≤ r' 23 19 → r' 23 19 + ((((pu_seq k i).map (c_k w m u)).flatMap (c_pre w m n)).length : Int) ≤ 404 → fn_X8_walk_L22 N (fn_X8_walk N rr) (φ u) κ fu i r' = κ (m 9 u) (d_nb r' ((((pu_seq k i).map (c_k w m u)).flatMap (c_pre w m n)).map φ)) := by
  intro k
  induction k with
  | zero =>
    intro fu i r' h1 h2 h3 hm h5 h6
    obtain ⟨fu, rfl⟩ : ∃ x, fu = x + 1 := ⟨fu - 1, by omega⟩
    rw [fn_X8_walk_L22, pu_gd hφ, hm.1, h26, pu_gd ⟨by omega, by omega⟩, if_pos (by omega), pu_gd ⟨by omega, by omega⟩, hm.2.1, h27, pu_gd ⟨by omega, by omega⟩, if_neg (by omega), show i = m 9 u by omega]
    rfl
  | succ k ih =>
    intro fu i r' h1 h2 h3 hm h5 h6
    obtain ⟨fu, rfl⟩ : ∃ x, fu = x + 1 := ⟨fu - 1, by omega⟩
    have ek : d_k r' (φ u) i = φ (c_k w m u i) := by rw [d_k_congr hm.2.2, hk i h1 (by omega)]
    rw [pu_seq_cons, List.map_cons, List.flatMap_cons, List.length_append] at h6
    have hs := hself i r' h1 (by omega) hm h5 (by omega)
    rw [fn_X8_walk_L22, pu_gd hφ, hm.1, h26, pu_gd ⟨by omega, by omega⟩, if_pos (by omega), pu_gd ⟨by omega, by omega⟩, hm.2.1, h27, pu_gd ⟨by omega, by omega⟩, if_pos (by omega), d_held hφ ⟨by omega, by omega⟩, Option.bind_some, ek, hs, Option.bind_some, pu_lt]
    rw [ih fu (i + 1) _ (by omega) (by omega) (by omega) ⟨by rw [d_nb_h _ _ (by decide) (by decide)]; exact hm.1, by rw [d_nb_h _ _ (by decide) (by decide)]; exact hm.2.1, by rw [d_nb_h _ _ (by decide) (by decide)]; exact hm.2.2⟩ (by rw [d_nb_19]; omega) (by rw [d_nb_19, List.length_map]; omega)]
    rw [pu_seq_cons, List.map_cons, List.flatMap_cons, List.map_append, d_nb_app]
theorem d_walk {w N : Nat} {m r : vl_M} {φ : Int → Int} {X : Int → Prop} (hP : s_P w m) (hK : s_K w m X) (hsn : q_sn w m r φ X) (hN : 100000 ≤ N) : ∀ (n rr : Nat) (r' : vl_M) (u : Int), (r' 26 = r 26 ∧ r' 27 = r 27 ∧ r' 28 = r 28) → c_LN m u → m 2 u = (n : Int) → n < rr → 0 ≤ r' 23 19 → r' 23 19 + ((c_pre w m n u).length : Int) ≤ 404 → fn_X8_walk N rr r' (φ u) = some (d_nb r' ((c_pre w m n u).map φ)) := by
  have hw11 := hP.1.2
  intro n
  induction n with
  | zero =>
    intro rr r' u hm hu hl h1 h4 h5
    obtain ⟨rr, rfl⟩ : ∃ x, rr = x + 1 := ⟨rr - 1, by omega⟩
    obtain ⟨N', e⟩ : ∃ k, N = k + 1 := ⟨N - 1, by omega⟩
    obtain ⟨⟨b1, b2, b3⟩, b4, -⟩ := hsn u hu
    have h5' : r' 23 19 + 1 ≤ 404 := by simpa [c_pre] using h5
    have e5 : vl_up r' 33 (r' 23 19) (φ u) 23 19 = r' 23 19 := by rw [up_h _ _ _ (by decide)]
    have e26 : vl_up (vl_up r' 33 (r' 23 19) (φ u)) 23 19 (r' 23 19 + 1) 26 (φ u) = 0 := by rw [up_h _ _ _ (by decide), up_h _ _ _ (by decide), hm.1, b2, hl]; rfl
    rw [fn_X8_walk, pu_gd ⟨by omega, by omega⟩, pu_lt, e5, pu_lt]
    conv => lhs; arg 5; rw [e]
    rw [fn_X8_walk_L22, pu_gd b1, e26, pu_gd (by decide), if_neg (by decide)]
    rfl
  | succ n ih =>
    intro rr r' u hm hu hl h1 h4 h5
    obtain ⟨rr, rfl⟩ : ∃ x, rr = x + 1 := ⟨rr - 1, by omega⟩
    have hlt := (hK u hu).1
    obtain ⟨⟨b1, b2, b3⟩, b4, -⟩ := hsn u hu
    have h5' : r' 23 19 + 1 + (((c_kids w m u).flatMap (c_pre w m n)).length : Int) ≤ 404 := by
      have e : c_pre w m (n + 1) u = u :: (c_kids w m u).flatMap (c_pre w m n) := rfl
      rw [e, List.length_cons] at h5
      omega
    have e5 : vl_up r' 33 (r' 23 19) (φ u) 23 19 = r' 23 19 := by rw [up_h _ _ _ (by decide)]
    generalize hr1 : vl_up (vl_up r' 33 (r' 23 19) (φ u)) 23 19 (r' 23 19 + 1) = r1
    have r1h : ∀ h : Nat, h ≠ 23 → h ≠ 33 → r1 h = r' h := fun h x y => by rw [← hr1, up_h _ _ _ x, up_h _ _ _ y]
    have r15 : r1 23 19 = r' 23 19 + 1 := by rw [← hr1, up_s]
    have hL := d_walkL (N := N) (rr := rr) (n := n) (r := r) (κ := fun (v7 : Int) (m8 : vl_M) => some m8) b1 (by rw [b2, hl]; omega) (by omega) b3 ⟨hlt.2.1, by omega⟩ b4 (fun i r'' i1 i2 hm' q1 q2 => by
      have hmem : c_k w m u i ∈ c_kids w m u := c_kids_mem.mpr ⟨i, i1, i2, rfl⟩
      obtain ⟨k1, k2, -⟩ := c_kid_LN hK hu (by omega) hmem
      exact ih rr r'' _ hm' k1 (by omega) (by omega) q1 q2) (m 9 u).toNat N 0 r1 (by omega) (by omega) (by omega) ⟨by rw [r1h 26 (by decide) (by decide)]; exact hm.1, by rw [r1h 27 (by decide) (by decide)]; exact hm.2.1, by rw [r1h 28 (by decide) (by decide)]; exact hm.2.2⟩ (by omega) (by rw [r15]; exact h5')
    rw [fn_X8_walk, pu_gd ⟨by omega, by omega⟩, pu_lt, e5, pu_lt, hr1, hL]
    show some (d_nb r1 (((c_kids w m u).flatMap (c_pre w m n)).map φ)) = some (d_nb r' ((u :: (c_kids w m u).flatMap (c_pre w m n)).map φ))
    rw [List.map_cons, ← hr1]; rfl
theorem d_foL {N : Nat} {K : List Int} {κ : Int → vl_M → Option vl_M} (hnd : K.Nodup) (hlen : K.length ≤ 404) (hK : ∀ x, x ∈ K → d_nd x) : ∀ (n fu v : Nat) (r : vl_M), v + n = K.length → n < fu → (∀ (k : Nat) x, K[k]? = some x → r 33 (k : Int) = x) → r 23 19 = (K.length : Int) →
    ∃ r', fn_X8_findOrder_L15 N κ fu (v : Int) r = κ (K.length : Int) r' ∧ (∀ h : Nat, h ≠ 44 → r' h = r h) ∧ (∀ (k : Nat) x, v ≤ k → K[k]? = some x → r' 44 x = (k : Int)) ∧ (∀ y, (∀ (k : Nat), v ≤ k → K[k]? ≠ some y) → r' 44 y = r 44 y) := by
  intro n
  induction n with
  | zero =>
    intro fu v r h1 h2 h3 h4
    obtain ⟨fu, rfl⟩ : ∃ x, fu = x + 1 := ⟨fu - 1, by omega⟩
    refine ⟨r, ?_, fun _ _ => rfl, fun k x k1 k2 => ?_, fun _ _ => rfl⟩
    · rw [fn_X8_findOrder_L15, pu_gd ⟨by omega, by omega⟩, h4, pu_gd ⟨by omega, by omega⟩, if_neg (by omega), show (v : Int) = (K.length : Int) by omega]
    · have := (List.getElem?_eq_some_iff.mp k2).1
      omega
  | succ n ih =>
    intro fu v r h1 h2 h3 h4
    obtain ⟨fu, rfl⟩ : ∃ x, fu = x + 1 := ⟨fu - 1, by omega⟩
    have hv : v < K.length := by omega
    have hgx : K[v]? = some K[v] := List.getElem?_eq_getElem hv
    have hx := h3 v _ hgx
    have hd := hK _ (List.getElem_mem hv)
    generalize hr1 : vl_up r 44 K[v] (v : Int) = r1
    have r1h : ∀ h : Nat, h ≠ 44 → r1 h = r h := fun h x => by rw [← hr1, up_h _ _ _ x]
    obtain ⟨r', g1, g2, g3, g4⟩ := ih fu (v + 1) r1 (by omega) (by omega) (fun k x hx => by rw [r1h 33 (by decide)]; exact h3 k x hx) (by rw [r1h 23 (by decide)]; exact h4)
    refine ⟨r', ?_, fun h x => by rw [g2 h x, r1h h x], fun k x k1 k2 => ?_, fun y hy => ?_⟩
    · rw [fn_X8_findOrder_L15, pu_gd ⟨by omega, by omega⟩, h4, pu_gd ⟨by omega, by omega⟩, if_pos (by omega), pu_gd ⟨by omega, by omega⟩, hx, pu_gd hd, pu_lt, hr1, pu_lt, show (v : Int) + 1 = ((v + 1 : Nat) : Int) by omega, g1]
    · by_cases c : k = v
      · subst c
        have e : K[k] = x := by rw [hgx] at k2; exact Option.some.inj k2
        rw [g4 x (fun j j1 j2 => ?_), ← hr1, ← e, up_s]
        have := (List.getElem?_inj (i := k) hv hnd).mp (k2.trans j2.symm)
        omega
      · exact g3 k x (by omega) k2
    · rw [g4 y (fun k k1 => hy k (by omega)), ← hr1, up_i _ _ (fun z => hy v (Nat.le_refl _) (by rw [hgx, z]))]
/-- the reference's order is the class's -/
theorem q_findOrder {w N : Nat} {m r : vl_M} {φ : Int → Int} {X : Int → Prop} {a : Int} (hN : 100000 ≤ N) (h : q_I w m r φ X a) (hlow : m 2 (m 11 6) ≤ 8) : ∃ r', fn_X8_findOrder N r = some r' ∧ (r' 23 19 = ((c_ord w m).length : Int) ∧ ∀ (k : Nat) x, (c_ord w m)[k]? = some x → r' 33 (k : Int) = φ x ∧ r' 44 (φ x) = (k : Int)) ∧ (∀ h : Nat, h ≠ 23 → h ≠ 33 → h ≠ 44 → r' h = r h) ∧ (∀ j, j ≠ 19 → r' 23 j = r 23 j) := by
  obtain ⟨⟨hP, hK, hA, hR⟩, ⟨hE, hS⟩, hT, ⟨hsn, hsi, hso, hse⟩, hrr⟩ := h
  obtain ⟨n1, n2, n3⟩ := c_ord_nodup hP hK hR.1.1
  have hl := hR.1.1.2
  have e19 : vl_up r 23 19 0 23 19 = 0 := up_s _ _ _ _
  have e11 : vl_up r 23 19 0 23 11 = φ (m 11 6) := by rw [up_i _ _ (by decide)]; exact hrr.1
  have hh : ∀ h : Nat, h ≠ 23 → vl_up r 23 19 0 h = r h := fun h x => up_h _ _ _ x
  have hwk := d_walk hP hK hsn hN (m 2 (m 11 6)).toNat 60 (vl_up r 23 19 0) (m 11 6) ⟨hh 26 (by decide), hh 27 (by decide), hh 28 (by decide)⟩ hR.1.1 (by omega) (by omega) (by rw [e19]; omega) (by rw [e19]; unfold c_ord at n2; omega)
  have hKn : ((c_ord w m).map φ).Nodup := pu_map_nodup _ (fun a b ha hb e => hsi.1 a b (n3 a ha) (n3 b hb) e) n1
  have hat : ∀ (k : Nat) x, ((c_ord w m).map φ)[k]? = some x → d_nb (vl_up r 23 19 0) ((c_ord w m).map φ) 33 (k : Int) = x := fun k x hx => by
    have := d_nb_at _ (vl_up r 23 19 0) k x hx
    rw [e19, show (0 : Int) + (k : Int) = (k : Int) by omega] at this
    exact this
  obtain ⟨r', g1, g2, g3, -⟩ := d_foL (N := N) (κ := fun (v6 : Int) (m7 : vl_M) => some m7) hKn (by rw [List.length_map]; exact n2) (fun x hx => by
    obtain ⟨y, hy1, hy2⟩ := List.mem_map.mp hx
    rw [← hy2]; exact (hsn y (n3 y hy1)).1.1) ((c_ord w m).map φ).length N 0 (d_nb (vl_up r 23 19 0) ((c_ord w m).map φ)) (by omega) (by rw [List.length_map]; omega) hat (by rw [d_nb_19, e19]; omega)
  refine ⟨r', ?_, ⟨?_, fun k x hx => ⟨?_, ?_⟩⟩, fun h x y z => ?_, fun j hj => ?_⟩
  · unfold fn_X8_findOrder
    rw [pu_lt, e11, hwk, Option.bind_some]
    exact g1
  · rw [g2 23 (by decide), d_nb_19, e19, List.length_map]; omega
  · rw [g2 33 (by decide)]
    exact hat k (φ x) (by rw [List.getElem?_map, hx]; rfl)
  · exact g3 k (φ x) (Nat.zero_le _) (by rw [List.getElem?_map, hx]; rfl)
  · rw [g2 h z, d_nb_h _ _ x y, hh h x]
  · rw [g2 23 (by decide), d_nb_23 _ _ hj, up_i _ _ hj]
