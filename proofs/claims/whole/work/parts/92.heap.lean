/-! ===== PURE, 53: the heap ===== -/
def h_u (H : Int → Int) (p v : Int) : Int → Int := fun i => if i = p then v else H i
theorem h_u_s (H : Int → Int) (p v : Int) : h_u H p v p = v := if_pos rfl
theorem h_u_n (H : Int → Int) {p i : Int} (v : Int) (h : i ≠ p) : h_u H p v i = H i := if_neg h
theorem h_u_up (m : vl_M) (h : Nat) (p v : Int) : vl_up m h p v h = h_u (m h) p v := by
  funext i
  unfold vl_up h_u
  by_cases c : i = p
  · rw [if_pos ⟨rfl, c⟩, if_pos c]
  · rw [if_neg (fun z => c z.2), if_neg c]
/-- what stands in the first n places -/
def h_S (H : Int → Int) (n : Int) (Q : List Int) : Prop := (∀ z, z ∈ Q ↔ ∃ i, 0 ≤ i ∧ i < n ∧ H i = z) ∧ (∀ i j, 0 ≤ i → i < n → 0 ≤ j → j < n → H i = H j → i = j)
def h_P (K : Int → List Int) (H : Int → Int) (n : Int) : Prop := ∀ i, 0 < i → i < n → lx (K (H i)) (K (H ((i - 1) / 2))) = false
theorem lx_le {a b c : List Int} (h1 : lx a b = false) (h2 : lx b c = false) (l1 : a.length = b.length) (l2 : b.length = c.length) : lx a c = false := by
  cases hc : lx a c with
  | false => rfl
  | true =>
    by_cases e : b = c
    · rw [e, hc] at h1; exact absurd h1 (by decide)
    · rcases lx_tot b c l2 e with z | z
      · rw [z] at h2; exact absurd h2 (by decide)
      · have := lx_trans a c b hc z
        rw [this] at h1; exact absurd h1 (by decide)
/-- two places change -/
theorem h_S_swap {H1 H2 : Int → Int} {n p q : Int} {Q : List Int} (hp : 0 ≤ p ∧ p < n) (hq : 0 ≤ q ∧ q < n) (h1 : H2 p = H1 q) (h2 : H2 q = H1 p) (h3 : ∀ i, i ≠ p → i ≠ q → H2 i = H1 i) (h : h_S H1 n Q) : h_S H2 n Q := by
  obtain ⟨a1, a2⟩ := h
  -- the place from which a value comes
  have key : ∀ i, 0 ≤ i → i < n → ∃ j, (0 ≤ j ∧ j < n) ∧ H2 i = H1 j ∧ ((i = p ∧ j = q) ∨ (i = q ∧ i ≠ p ∧ j = p) ∨ (i ≠ p ∧ i ≠ q ∧ j = i)) := fun i i1 i2 => by
    by_cases c : i = p
    · exact ⟨q, hq, by rw [c, h1], Or.inl ⟨c, rfl⟩⟩
    · by_cases c2 : i = q
      · exact ⟨p, hp, by rw [c2, h2], Or.inr (Or.inl ⟨c2, c, rfl⟩)⟩
      · exact ⟨i, ⟨i1, i2⟩, h3 i c c2, Or.inr (Or.inr ⟨c, c2, rfl⟩)⟩
  refine ⟨fun z => ?_, fun i j i1 i2 j1 j2 e => ?_⟩
  · rw [a1]
    constructor
    · rintro ⟨i, i1, i2, e⟩
      by_cases c : i = p
      · exact ⟨q, hq.1, hq.2, by rw [h2, ← c]; exact e⟩
      · by_cases c2 : i = q
        · exact ⟨p, hp.1, hp.2, by rw [h1, ← c2]; exact e⟩
        · exact ⟨i, i1, i2, by rw [h3 i c c2]; exact e⟩
    · rintro ⟨i, i1, i2, e⟩
      obtain ⟨j, j1, j2, -⟩ := key i i1 i2
      exact ⟨j, j1.1, j1.2, by rw [← j2]; exact e⟩
  · obtain ⟨a, ⟨b1, b2⟩, b3, b4⟩ := key i i1 i2
    obtain ⟨c, ⟨d1, d2⟩, d3, d4⟩ := key j j1 j2
    have := a2 a c b1 b2 d1 d2 (by rw [← b3, ← d3]; exact e)
    omega
/-- what the search leaves alone -/
def n_eq (m mm : vl_M) : Prop := ∀ h : Nat, h ≠ 19 → h ≠ 20 → h ≠ 21 → mm h = m h
def n_st (m : vl_M) (s : Int) : Prop := c_in s ∧ vl_r32 (m 2 s) ∧ vl_r32 (m 7 s) ∧ r_ok (c_rt m s)
theorem n_bf {m mm : vl_M} {x y a b : Int} (hx : 0 ≤ x ∧ x ≤ 32767) (hy : 0 ≤ y ∧ y ≤ 32767) (he : n_eq m mm) (ha : n_st m a) (hb : n_st m b) (sa : mm 21 a = n_sq (c_rt m a) x y) (sb : mm 21 b = n_sq (c_rt m b) x y) : fn_X2_isBefore mm a b = some (if lx (n_key m x y a) (n_key m x y b) = true then 1 else 0) := by
  have ert : ∀ u, c_rt mm u = c_rt m u := fun u => c_rt_congr (he 3 (by decide) (by decide) (by decide)) (he 4 (by decide) (by decide) (by decide)) (he 5 (by decide) (by decide) (by decide)) (he 6 (by decide) (by decide) (by decide))
  have ek : ∀ u, n_key mm x y u = n_key m x y u := fun u => by
    unfold n_key
    rw [ert, he 2 (by decide) (by decide) (by decide), he 7 (by decide) (by decide) (by decide), he 3 (by decide) (by decide) (by decide), he 4 (by decide) (by decide) (by decide), he 5 (by decide) (by decide) (by decide), he 6 (by decide) (by decide) (by decide)]
  have ok : ∀ u, n_st m u → mm 21 u = n_sq (c_rt m u) x y → n_ok mm x y u := fun u hu su => by
    obtain ⟨u1, u2, u3, u4⟩ := hu
    exact ⟨⟨u1, by rw [he 2 (by decide) (by decide) (by decide)]; exact u2, by rw [he 7 (by decide) (by decide) (by decide)]; exact u3, by rw [ert]; exact u4⟩, by rw [ert]; exact su⟩
  have := c_before hx hy (ok a ha sa) (ok b hb sb)
  rw [ek, ek] at this
  exact this
theorem n_key_len (m : vl_M) (x y a b : Int) : (n_key m x y a).length = (n_key m x y b).length := rfl
/-- rising -/
theorem h_up {N : Nat} {m : vl_M} {x y s n : Int} {Q : List Int} {κ : Int → vl_M → Option vl_M} (hx : 0 ≤ x ∧ x ≤ 32767) (hy : 0 ≤ y ∧ y ≤ 32767) (hn : n < 807) (hs : n_st m s) : ∀ (fu : Nat) (p : Int) (mm : vl_M), 0 ≤ p → p ≤ n → p < (fu : Int) → n_eq m mm → mm 21 s = n_sq (c_rt m s) x y → (∀ i, 0 ≤ i → i ≤ n → i ≠ p → n_st m (mm 20 i) ∧ mm 21 (mm 20 i) = n_sq (c_rt m (mm 20 i)) x y) → h_S (h_u (mm 20) p s) (n + 1) Q → (∀ i, 0 < i → i ≤ n → i ≠ p → lx (n_key m x y (h_u (mm 20) p s i)) (n_key m x y (h_u (mm 20) p s ((i - 1) / 2))) = false) → (0 < p → ∀ i, 0 < i → i ≤ n → (i - 1) / 2 = p → lx (n_key m x y (mm 20 i)) (n_key m x y (mm 20 ((p - 1) / 2))) = false) →
    ∃ q mm', fn_X2_push_L42 N s κ fu p mm = κ q mm' ∧ (0 ≤ q ∧ q ≤ n) ∧ ((∀ h : Nat, h ≠ 20 → mm' h = mm h) ∧ h_S (h_u (mm' 20) q s) (n + 1) Q ∧ h_P (n_key m x y) (h_u (mm' 20) q s) (n + 1)) := by
  intro fu
  induction fu with
  | zero => intro p mm h1 h2 h3; omega
  | succ fu ih =>
    intro p mm h1 h2 h3 he hsq hall hS hI1 hI2
    by_cases c : 0 < p
    · obtain ⟨o1, o2⟩ := hall ((p - 1) / 2) (by omega) (by omega) (by omega)
      have hb := n_bf hx hy he hs o1 hsq o2
      by_cases cb : lx (n_key m x y s) (n_key m x y (mm 20 ((p - 1) / 2))) = true
      · rw [if_pos cb] at hb
        generalize hm1 : vl_up mm 20 p (mm 20 ((p - 1) / 2)) = m1
        have m1h : ∀ h : Nat, h ≠ 20 → m1 h = mm h := fun h z => by rw [← hm1, up_h _ _ _ z]
        have m120 : m1 20 = h_u (mm 20) p (mm 20 ((p - 1) / 2)) := by rw [← hm1, h_u_up]
        have e20 : ∀ i, i ≠ p → m1 20 i = mm 20 i := fun i z => by rw [m120, h_u_n _ _ z]
        have e20p : m1 20 p = mm 20 ((p - 1) / 2) := by rw [m120, h_u_s]
        -- values after
        have v1 : ∀ i, i ≠ p → i ≠ (p - 1) / 2 → h_u (m1 20) ((p - 1) / 2) s i = mm 20 i := fun i z1 z2 => by rw [h_u_n _ _ z2, e20 i z1]
        have v2 : h_u (m1 20) ((p - 1) / 2) s p = mm 20 ((p - 1) / 2) := by rw [h_u_n _ _ (by omega), e20p]
        have v3 : h_u (m1 20) ((p - 1) / 2) s ((p - 1) / 2) = s := h_u_s _ _ _
        obtain ⟨q, mm', g1, g2, g3, g4⟩ := ih ((p - 1) / 2) m1 (by omega) (by omega) (by omega) (fun h z1 z2 z3 => by rw [m1h h z2, he h z1 z2 z3]) (by rw [m1h 21 (by decide)]; exact hsq) (fun i i1 i2 i3 => by
          rw [m1h 21 (by decide)]
          by_cases e : i = p
          · rw [e, e20p]; exact ⟨o1, o2⟩
          · rw [e20 i e]; exact hall i i1 i2 e) (by
          refine h_S_swap (H1 := h_u (mm 20) p s) (p := p) (q := (p - 1) / 2) ⟨by omega, by omega⟩ ⟨by omega, by omega⟩ ?_ ?_ (fun i z1 z2 => ?_) hS
          · rw [v2, h_u_n _ _ (by omega)]
          · rw [v3, h_u_s]
          · rw [v1 i z1 z2, h_u_n _ _ z1]) (fun i i1 i2 i3 => by
          by_cases e : i = p
          · rw [e, v2, v3]; exact lx_asym cb
          · rw [v1 i e i3]
            by_cases e1 : (i - 1) / 2 = (p - 1) / 2
            · rw [e1, v3]
              have := hI1 i i1 i2 e
              rw [h_u_n _ _ e, e1, h_u_n _ _ (by omega)] at this
              exact lx_le this (lx_asym cb) rfl rfl
            · by_cases e2 : (i - 1) / 2 = p
              · rw [e2, v2]; exact hI2 c i i1 i2 e2
              · rw [v1 _ e2 e1]
                have := hI1 i i1 i2 e
                rw [h_u_n _ _ e, h_u_n _ _ e2] at this
                exact this) (fun hq i i1 i2 i3 => by
          have hqq : lx (n_key m x y (mm 20 ((p - 1) / 2))) (n_key m x y (mm 20 (((p - 1) / 2 - 1) / 2))) = false := by
            have := hI1 ((p - 1) / 2) hq (by omega) (by omega)
            rw [h_u_n _ _ (by omega), h_u_n _ _ (by omega)] at this
            exact this
          rw [e20 (((p - 1) / 2 - 1) / 2) (by omega)]
          by_cases e : i = p
          · rw [e, e20p]; exact hqq
          · rw [e20 i e]
            have := hI1 i i1 i2 e
            rw [h_u_n _ _ e, i3, h_u_n _ _ (by omega)] at this
            exact lx_le this hqq rfl rfl)
        refine ⟨q, mm', ?_, g2, ⟨fun h z => by rw [g3 h z, m1h h z], g4⟩⟩
        rw [fn_X2_push_L42, pu_gd ⟨by omega, by omega⟩, if_pos c, pu_gd ⟨by omega, by omega⟩, pu_gd ⟨by omega, by omega⟩, hb, Option.bind_some, pu_gd (by decide), if_neg (by decide), pu_gd ⟨by omega, by omega⟩, pu_lt, hm1, pu_lt, g1]
      · rw [if_neg cb] at hb
        refine ⟨p, mm, ?_, ⟨h1, h2⟩, ⟨fun _ _ => rfl, hS, fun i i1 i2 => ?_⟩⟩
        · rw [fn_X2_push_L42, pu_gd ⟨by omega, by omega⟩, if_pos c, pu_gd ⟨by omega, by omega⟩, pu_gd ⟨by omega, by omega⟩, hb, Option.bind_some, pu_gd (by decide), if_pos rfl]
        · by_cases e : i = p
          · rw [e, h_u_s, h_u_n _ _ (by omega)]
            cases hh : lx (n_key m x y s) (n_key m x y (mm 20 ((p - 1) / 2))) with
            | false => rfl
            | true => exact absurd hh cb
          · exact hI1 i i1 (by omega) e
    · refine ⟨p, mm, ?_, ⟨h1, h2⟩, ⟨fun _ _ => rfl, hS, fun i i1 i2 => hI1 i i1 (by omega) (by omega)⟩⟩
      rw [fn_X2_push_L42, pu_gd ⟨by omega, by omega⟩, if_neg c]
/-- the search's row -/
def n_Q (m mm : vl_M) (x y : Int) (Q : List Int) : Prop := (n_eq m mm ∧ mm 19 4 = (Q.length : Int) ∧ Q.Nodup) ∧ h_S (mm 20) (Q.length : Int) Q ∧ h_P (n_key m x y) (mm 20) (Q.length : Int) ∧ ∀ z, z ∈ Q → n_st m z ∧ mm 21 z = n_sq (c_rt m z) x y
theorem h_push {N : Nat} {m mm : vl_M} {x y s : Int} {Q : List Int} (hN : 100000 ≤ N) (hx : 0 ≤ x ∧ x ≤ 32767) (hy : 0 ≤ y ∧ y ≤ 32767) (h : n_Q m mm x y Q) (hs : n_st m s) (hsQ : s ∉ Q) (hlen : (Q.length : Int) < 806) : ∃ mm', fn_X2_push N mm s x y = some mm' ∧ n_Q m mm' x y (s :: Q) ∧ ∀ j, j ≠ 4 → mm' 19 j = mm 19 j := by
  obtain ⟨⟨he, h4, hnd⟩, hS, hP, hall⟩ := h
  have ert : c_rt mm s = c_rt m s := c_rt_congr (he 3 (by decide) (by decide) (by decide)) (he 4 (by decide) (by decide) (by decide)) (he 5 (by decide) (by decide) (by decide)) (he 6 (by decide) (by decide) (by decide))
  have hsqr := c_square (m := mm) hs.1 (by rw [ert]; exact hs.2.2.2) hx hy
  rw [ert] at hsqr
  have e4 : vl_up mm 21 s (n_sq (c_rt m s) x y) 19 4 = (Q.length : Int) := by rw [up_h _ _ _ (by decide)]; exact h4
  generalize hm1 : vl_up (vl_up mm 21 s (n_sq (c_rt m s) x y)) 19 4 ((Q.length : Int) + 1) = m1
  have m1h : ∀ h : Nat, h ≠ 19 → h ≠ 21 → m1 h = mm h := fun h a b => by rw [← hm1, up_h _ _ _ a, up_h _ _ _ b]
  have m121 : ∀ z, z ≠ s → m1 21 z = mm 21 z := fun z hz => by rw [← hm1, up_h _ _ _ (by decide), up_i _ _ hz]
  have m121s : m1 21 s = n_sq (c_rt m s) x y := by rw [← hm1, up_h _ _ _ (by decide), up_s]
  have m119 : ∀ j, j ≠ 4 → m1 19 j = mm 19 j := fun j hj => by rw [← hm1, up_i _ _ hj, up_h _ _ _ (by decide)]
  have m14 : m1 19 4 = (Q.length : Int) + 1 := by rw [← hm1, up_s]
  have m120 : m1 20 = mm 20 := m1h 20 (by decide) (by decide)
  have hin : ∀ i, 0 ≤ i → i < (Q.length : Int) → mm 20 i ∈ Q := fun i i1 i2 => (hS.1 _).mpr ⟨i, i1, i2, rfl⟩
  obtain ⟨q, mm', g1, g2, g3, g4, g5⟩ := h_up (N := N) (m := m) (x := x) (y := y) (s := s) (n := (Q.length : Int)) (Q := s :: Q) (κ := fun (v10 : Int) (m11 : vl_M) => vl_gd (0 ≤ v10 ∧ v10 < 807) <| vl_lt (vl_up m11 20 v10 s) fun m12 => some m12) hx hy (by omega) hs N (Q.length : Int) m1 (by omega) (Int.le_refl _) (by omega) (fun h a b c => by rw [m1h h a c, he h a b c]) m121s (fun i i1 i2 i3 => by
    rw [m120]
    have hm := hin i i1 (by omega)
    have hne : mm 20 i ≠ s := fun z => hsQ (by rw [← z]; exact hm)
    rw [m121 _ hne]
    exact hall _ hm) (by
    rw [m120]
    refine ⟨fun z => ?_, fun i j i1 i2 j1 j2 e => ?_⟩
    · rw [List.mem_cons]
      constructor
      · rintro (a | a)
        · exact ⟨(Q.length : Int), by omega, by omega, by rw [h_u_s, a]⟩
        · obtain ⟨i, i1, i2, e⟩ := (hS.1 z).mp a
          exact ⟨i, i1, by omega, by rw [h_u_n _ _ (by omega)]; exact e⟩
      · rintro ⟨i, i1, i2, e⟩
        by_cases c : i = (Q.length : Int)
        · rw [c, h_u_s] at e; exact Or.inl e.symm
        · rw [h_u_n _ _ c] at e
          exact Or.inr ((hS.1 z).mpr ⟨i, i1, by omega, e⟩)
    · by_cases c : i = (Q.length : Int)
      · by_cases c' : j = (Q.length : Int)
        · rw [c, c']
        · rw [c, h_u_s, h_u_n _ _ c'] at e
          exact absurd (by rw [e]; exact hin j j1 (by omega)) hsQ
      · by_cases c' : j = (Q.length : Int)
        · rw [c', h_u_s, h_u_n _ _ c] at e
          exact absurd (by rw [← e]; exact hin i i1 (by omega)) hsQ
        · rw [h_u_n _ _ c, h_u_n _ _ c'] at e
          exact hS.2 i j i1 (by omega) j1 (by omega) e) (fun i i1 i2 i3 => by
    rw [m120, h_u_n _ _ i3, h_u_n _ _ (by omega)]
    exact hP i i1 (by omega)) (fun hp i i1 i2 i3 => by omega)
  have hl : ((s :: Q).length : Int) = (Q.length : Int) + 1 := by simp
  refine ⟨vl_up mm' 20 q s, ?_, ⟨⟨?_, ?_, List.nodup_cons.mpr ⟨hsQ, hnd⟩⟩, ?_, ?_, fun z hz => ?_⟩, fun j hj => ?_⟩
  · unfold fn_X2_push
    rw [h4, pu_gd ⟨by omega, by omega⟩, if_pos (by omega), hsqr, Option.bind_some, pu_gd hs.1, pu_lt, e4, pu_lt, hm1, pu_lt, g1, pu_gd ⟨by omega, by omega⟩, pu_lt]
  · intro h a b c
    rw [up_h _ _ _ b, g3 h b, m1h h a c, he h a b c]
  · rw [up_h _ _ _ (by decide), g3 19 (by decide), m14, hl]
  · rw [h_u_up, hl]; exact g4
  · rw [h_u_up, hl]; exact g5
  · rw [up_h _ _ _ (by decide), g3 21 (by decide)]
    rcases List.mem_cons.mp hz with e | e
    · rw [e]; exact ⟨hs, m121s⟩
    · have hne : z ≠ s := fun y => hsQ (by rw [← y]; exact e)
      rw [m121 z hne]
      exact hall z e
  · rw [up_h _ _ _ (by decide), g3 19 (by decide), m119 j hj]
