/-! ===== PURE, 33: a node dissolves, in both ===== -/
theorem c_fren_cg {M M' : vl_M} (s : Int) (h1 : M' 1 = M 1) (h2 : M' 2 = M 2) (h8 : M' 8 = M 8) : c_fren M' s 1 = c_fren M s 1 ∧ c_fren M' s 2 = c_fren M s 2 ∧ c_fren M' s 8 = c_fren M s 8 := by
  refine ⟨?_, ?_, ?_⟩ <;> funext j <;> unfold c_fren vl_up <;> simp [h1, h2, h8]
theorem c_del_cg {w : Nat} {M M' : vl_M} (s p : Int) (h9 : M' 9 = M 9) (h10 : M' 10 = M 10) : c_del w M' s p 9 = c_del w M s p 9 ∧ c_del w M' s p 10 = c_del w M s p 10 := by
  refine ⟨?_, ?_⟩ <;> funext j <;> unfold c_del c_shl vl_up <;> simp [h9, h10]
theorem d_del_cg {R R' : vl_M} (n p : Int) (h7 : R' 27 = R 27) (h8 : R' 28 = R 28) : d_del R' n p 27 = d_del R n p 27 ∧ d_del R' n p 28 = d_del R n p 28 := by
  refine ⟨?_, ?_⟩ <;> funext j <;> unfold d_del d_shl vl_up <;> simp [h7, h8]
theorem c_disL {w N : Nat} {u : Int} {κ : Int → vl_M → Option vl_M} (hu : c_nd u) : ∀ (n fu : Nat) (v : Int) (m : vl_M), c_w w N m → 0 ≤ v → v + (n : Int) = m 9 u → m 9 u ≤ (w : Int) → n < fu → 0 ≤ m 11 3 → m 11 3 + (n : Int) ≤ 160 →
    ∃ m', fn_X5_dissolve_L10 w N u κ fu v m = κ (m 9 u) m' ∧ (∀ h : Nat, h ≠ 11 → h ≠ 12 → m' h = m h) ∧ ((∀ j, j ≠ 3 → j ≠ 9 → m' 11 j = m 11 j) ∧ m' 11 3 = m 11 3 + (n : Int) ∧ m' 11 9 = m 11 9 + (n : Int)) ∧ ∀ j, m' 12 j = if m 11 3 ≤ j ∧ j < m 11 3 + (n : Int) then c_k w m u (v + (j - m 11 3)) else m 12 j := by
  intro n
  induction n with
  | zero =>
    intro fu v m hw h1 h2 h3 h4 h5 h6
    have := hw.2.1
    obtain ⟨fu, rfl⟩ : ∃ x, fu = x + 1 := ⟨fu - 1, by omega⟩
    refine ⟨m, ?_, fun _ _ _ => rfl, ⟨fun _ _ _ => rfl, by simp, by simp⟩, fun j => by rw [if_neg (by omega)]⟩
    rw [fn_X5_dissolve_L10, pu_gd ⟨by omega, by omega⟩, pu_gd ⟨by omega, by omega⟩, pu_gd ⟨by omega, by omega⟩, if_neg (by omega), show v = m 9 u by omega]
  | succ n ih =>
    intro fu v m hw h1 h2 h3 h4 h5 h6
    have h11 := hw.2.1
    obtain ⟨fu, rfl⟩ : ∃ x, fu = x + 1 := ⟨fu - 1, by omega⟩
    have hw1 : c_w w N (vl_up m 11 3 (m 11 3 + 1)) := c_w_up hw (by decide)
    have ek : ∀ i, c_k w (vl_up m 11 3 (m 11 3 + 1)) u i = c_k w m u i := fun i => by unfold c_k; rw [up_h _ _ _ (by decide)]
    have e9 : vl_up (vl_up m 11 3 (m 11 3 + 1)) 12 (m 11 3) (c_k w m u v) 11 9 = m 11 9 := by rw [up_h _ _ _ (by decide), up_i _ _ (by decide)]
    generalize hm1 : vl_up (vl_up (vl_up m 11 3 (m 11 3 + 1)) 12 (m 11 3) (c_k w m u v)) 11 9 (m 11 9 + 1) = m1
    have m1h : ∀ h : Nat, h ≠ 11 → h ≠ 12 → m1 h = m h := fun h x y => by rw [← hm1, up_h _ _ _ x, up_h _ _ _ y, up_h _ _ _ x]
    have m1_11 : ∀ j, j ≠ 3 → j ≠ 9 → m1 11 j = m 11 j := fun j x y => by rw [← hm1, up_i _ _ y, up_h _ _ _ (by decide), up_i _ _ x]
    have m1_3 : m1 11 3 = m 11 3 + 1 := by rw [← hm1, up_i _ _ (by decide), up_h _ _ _ (by decide), up_s]
    have m1_9 : m1 11 9 = m 11 9 + 1 := by rw [← hm1, up_s]
    have m1_12 : ∀ j, m1 12 j = if j = m 11 3 then c_k w m u v else m 12 j := fun j => by
      rw [← hm1, up_h _ _ _ (by decide)]
      by_cases c : j = m 11 3
      · rw [c, up_s, if_pos rfl]
      · rw [up_i _ _ c, if_neg c, up_h _ _ _ (by decide)]
    have e99 : m1 9 = m 9 := m1h 9 (by decide) (by decide)
    obtain ⟨m', g1, g2, ⟨g3, g4, g5⟩, g6⟩ := ih fu (v + 1) m1 (c_w_of hw (m1h 1 (by decide) (by decide))) (by omega) (by rw [e99]; omega) (by rw [e99]; exact h3) (by omega) (by omega) (by omega)
    refine ⟨m', ?_, fun h x y => by rw [g2 h x y, m1h h x y], ⟨fun j x y => by rw [g3 j x y, m1_11 j x y], by rw [g4, m1_3]; omega, by rw [g5, m1_9]; omega⟩, fun j => ?_⟩
    · rw [fn_X5_dissolve_L10, pu_gd ⟨by omega, by omega⟩, pu_gd ⟨by omega, by omega⟩, pu_gd ⟨by omega, by omega⟩, if_pos (by omega), pu_gd ⟨by omega, by omega⟩, if_pos (by omega), pu_lt, c_thing hw1 hu ⟨by omega, by omega⟩, Option.bind_some, pu_gd ⟨by omega, by omega⟩, pu_lt, ek, e9, pu_lt, hm1, pu_lt, g1, e99]
    · rw [g6 j, m1_3, m1_12]
      by_cases c : j = m 11 3
      · rw [if_neg (by omega), if_pos c, if_pos (by omega)]
        congr 1; omega
      · rw [if_neg c]
        by_cases c2 : m 11 3 + 1 ≤ j ∧ j < m 11 3 + 1 + (n : Int)
        · rw [if_pos c2, if_pos (by omega)]
          unfold c_k
          rw [m1h 10 (by decide) (by decide)]
          congr 1; omega
        · rw [if_neg c2, if_neg (by omega)]
theorem d_disL {N : Nat} {a b : Int} {κ : Int → vl_M → Option (Int × vl_M)} (ha : d_nd a) : ∀ (n fu : Nat) (v : Int) (r : vl_M), 0 ≤ v → v + (n : Int) = r 27 a → r 27 a ≤ 11 → n < fu → 0 ≤ r 23 17 → r 23 17 + (n : Int) ≤ 64 →
    ∃ r', fn_X8_remove_L121 N a b κ fu v r = κ (r 27 a) r' ∧ (∀ h : Nat, h ≠ 23 → h ≠ 31 → h ≠ 32 → r' h = r h) ∧ ((∀ j, j ≠ 17 → r' 23 j = r 23 j) ∧ r' 23 17 = r 23 17 + (n : Int)) ∧ (∀ j, r' 31 j = if r 23 17 ≤ j ∧ j < r 23 17 + (n : Int) then d_k r a (v + (j - r 23 17)) else r 31 j) ∧ ∀ j, r' 32 j = if r 23 17 ≤ j ∧ j < r 23 17 + (n : Int) then r 26 a - 1 else r 32 j := by
  intro n
  induction n with
  | zero =>
    intro fu v r h1 h2 h3 h4 h5 h6
    obtain ⟨fu, rfl⟩ : ∃ x, fu = x + 1 := ⟨fu - 1, by omega⟩
    refine ⟨r, ?_, fun _ _ _ _ => rfl, ⟨fun _ _ => rfl, by simp⟩, fun j => by rw [if_neg (by omega)], fun j => by rw [if_neg (by omega)]⟩
    rw [fn_X8_remove_L121, pu_gd ⟨by omega, by omega⟩, pu_gd ⟨by omega, by omega⟩, if_neg (by omega), show v = r 27 a by omega]
  | succ n ih =>
    intro fu v r h1 h2 h3 h4 h5 h6
    obtain ⟨fu, rfl⟩ : ∃ x, fu = x + 1 := ⟨fu - 1, by omega⟩
    have e1 : vl_up r 31 (r 23 17) (d_k r a v) 23 17 = r 23 17 := by rw [up_h _ _ _ (by decide)]
    have e2 : vl_up r 31 (r 23 17) (d_k r a v) 26 a = r 26 a := by rw [up_h _ _ _ (by decide)]
    have e3 : vl_up (vl_up r 31 (r 23 17) (d_k r a v)) 32 (r 23 17) (r 26 a - 1) 23 17 = r 23 17 := by rw [up_h _ _ _ (by decide), up_h _ _ _ (by decide)]
    generalize hr1 : vl_up (vl_up (vl_up r 31 (r 23 17) (d_k r a v)) 32 (r 23 17) (r 26 a - 1)) 23 17 (r 23 17 + 1) = r1
    have r1h : ∀ h : Nat, h ≠ 23 → h ≠ 31 → h ≠ 32 → r1 h = r h := fun h x y z => by rw [← hr1, up_h _ _ _ x, up_h _ _ _ z, up_h _ _ _ y]
    have r1_23 : ∀ j, j ≠ 17 → r1 23 j = r 23 j := fun j x => by rw [← hr1, up_i _ _ x, up_h _ _ _ (by decide), up_h _ _ _ (by decide)]
    have r1_17 : r1 23 17 = r 23 17 + 1 := by rw [← hr1, up_s]
    have r1_31 : ∀ j, r1 31 j = if j = r 23 17 then d_k r a v else r 31 j := fun j => by
      rw [← hr1, up_h _ _ _ (by decide), up_h _ _ _ (by decide)]
      by_cases c : j = r 23 17
      · rw [c, up_s, if_pos rfl]
      · rw [up_i _ _ c, if_neg c]
    have r1_32 : ∀ j, r1 32 j = if j = r 23 17 then r 26 a - 1 else r 32 j := fun j => by
      rw [← hr1, up_h _ _ _ (by decide)]
      by_cases c : j = r 23 17
      · rw [c, up_s, if_pos rfl]
      · rw [up_i _ _ c, if_neg c, up_h _ _ _ (by decide)]
    have e27 : r1 27 = r 27 := r1h 27 (by decide) (by decide) (by decide)
    have e26 : r1 26 = r 26 := r1h 26 (by decide) (by decide) (by decide)
    obtain ⟨r', g1, g2, ⟨g3, g4⟩, g5, g6⟩ := ih fu (v + 1) r1 (by omega) (by rw [e27]; omega) (by rw [e27]; exact h3) (by omega) (by omega) (by omega)
    refine ⟨r', ?_, fun h x y z => by rw [g2 h x y z, r1h h x y z], ⟨fun j x => by rw [g3 j x, r1_23 j x], by rw [g4, r1_17]; omega⟩, fun j => ?_, fun j => ?_⟩
    · rw [fn_X8_remove_L121, pu_gd ⟨by omega, by omega⟩, pu_gd ⟨by omega, by omega⟩, if_pos (by omega), d_held ha ⟨by omega, by omega⟩, Option.bind_some, pu_gd ⟨by omega, by omega⟩, pu_lt, e1, e2, pu_gd ⟨by omega, by omega⟩, pu_lt, e3, pu_lt, hr1, pu_lt, g1, e27]
    · rw [g5 j, r1_17, r1_31]
      by_cases c : j = r 23 17
      · rw [if_neg (by omega), if_pos c, if_pos (by omega)]
        congr 1; omega
      · rw [if_neg c]
        by_cases c2 : r 23 17 + 1 ≤ j ∧ j < r 23 17 + 1 + (n : Int)
        · rw [if_pos c2, if_pos (by omega), d_k_congr (r1h 28 (by decide) (by decide) (by decide))]
          congr 1; omega
        · rw [if_neg c2, if_neg (by omega)]
    · rw [g6 j, r1_17, r1_32, e26]
      by_cases c : j = r 23 17
      · rw [if_neg (by omega), if_pos c, if_pos (by omega)]
      · rw [if_neg c]
        by_cases c2 : r 23 17 + 1 ≤ j ∧ j < r 23 17 + 1 + (n : Int)
        · rw [if_pos c2, if_pos (by omega)]
        · rw [if_neg c2, if_neg (by omega)]
/-- those that wait -/
def q_H (m r : vl_M) (φ : Int → Int) (H : List Int) : Prop := (m 11 3 = (H.length : Int) ∧ r 23 17 = (H.length : Int)) ∧ ∀ (k : Nat) x, H[k]? = some x → m 12 (k : Int) = x ∧ r 31 (k : Int) = φ x ∧ r 32 (k : Int) = m 2 x
/-- what stays while nodes are thinned -/
def q_Fd (k : Int) (m m' r r' : vl_M) : Prop :=
  ((∀ h : Nat, (h = 0 ∨ h = 7 ∨ 13 ≤ h) → m' h = m h) ∧ (∀ j, j ≠ 16 → m' 1 j = m 1 j) ∧ (∀ j, j ≠ 3 → j ≠ 8 → j ≠ 9 → m' 11 j = m 11 j)) ∧
  (∀ u, (u < 400 ∨ 804 ≤ u) → m' 2 u = m 2 u ∧ c_rt m' u = c_rt m u) ∧
  ((m 11 8 ≤ m' 11 8 ∧ m' 11 8 ≤ m 11 8 + k) ∧ m' 11 9 - m' 11 3 = m 11 9 - m 11 3) ∧
  ((∀ h : Nat, (h = 24 ∨ h = 25 ∨ h = 30 ∨ 33 ≤ h) → r' h = r h) ∧ (∀ j, j ≠ 13 → j ≠ 17 → r' 23 j = r 23 j))
theorem q_Fd_trans {k l : Int} {m m' m'' r r' r'' : vl_M} (h : q_Fd k m m' r r') (g : q_Fd l m' m'' r' r'') : q_Fd (k + l) m m'' r r'' := by
  obtain ⟨⟨a1, a2, a3⟩, a4, ⟨⟨a5, a6⟩, a7⟩, a8, a9⟩ := h
  obtain ⟨⟨b1, b2, b3⟩, b4, ⟨⟨b5, b6⟩, b7⟩, b8, b9⟩ := g
  refine ⟨⟨fun h x => by rw [b1 h x, a1 h x], fun j x => by rw [b2 j x, a2 j x], fun j x y z => by rw [b3 j x y z, a3 j x y z]⟩, fun u x => ?_, ⟨⟨by omega, by omega⟩, by omega⟩, fun h x => by rw [b8 h x, a8 h x], fun j x y => by rw [b9 j x y, a9 j x y]⟩
  obtain ⟨c1, c2⟩ := a4 u x
  obtain ⟨d1, d2⟩ := b4 u x
  exact ⟨by rw [d1, c1], by rw [d2, c2]⟩
/-- fitting and measuring a node -/
theorem q_fitm {w N : Nat} {m r : vl_M} {φ : Int → Int} {X : Int → Prop} {u : Int} (hN : 100000 ≤ N) (h : q_I w m r φ X u) (hu : c_LN m u) (h0 : ∀ s, c_LN m s → s ≠ m 11 6 → 0 < m 9 s) (hpos : 0 < m 9 u) :
    ∃ q, r_ok q ∧ r_is q (fun p => ∃ i, 0 ≤ i ∧ i < m 9 u ∧ p = c_rt m (c_k w m u i)) ∧ fn_X4_fitAround w N m u u = some (c_set m u q) ∧ fn_X8_measure N r (φ u) = some (d_set r (φ u) q) := by
  obtain ⟨⟨hP, hK, hA, hR⟩, -⟩ := id h
  have hka : ∀ i, 0 ≤ i → i < m 9 u → c_k w m u i ≠ u := fun i i1 i2 z => by
    have := ((hK u hu).2 i i1 i2).1.2
    rw [z] at this; omega
  obtain ⟨m1, m2⟩ := q_me h hu hka h0
  have hnd := c_LN_nd hP hu
  have hz := (hK u hu).1.2
  have hq : r_is (r_mb (fun i => c_rt m (c_k w m u i)) (m 9 u - 1).toNat) (fun p => ∃ i, 0 ≤ i ∧ i < m 9 u ∧ p = c_rt m (c_k w m u i)) := by
    refine r_is_congr (fun p => ?_) (r_mb_is (fun i => c_rt m (c_k w m u i)) (m 9 u - 1).toNat)
    constructor
    · rintro ⟨i, i1, i2, e⟩
      exact ⟨i, i1, by omega, e⟩
    · rintro ⟨i, i1, i2, e⟩
      exact ⟨i, i1, by omega, e⟩
  refine ⟨_, r_is_ok hq (fun p hp => ?_), hq, ?_, q_mea hN h hu hka h0 hpos hq⟩
  · obtain ⟨i, i1, i2, e⟩ := hp
    rw [e]; exact (m2 i i1 i2).2
  · have := c_fit (N := N) (f := fun i => c_rt m (c_k w m u i)) hnd ⟨by omega, by omega⟩ hz (fun i i1 i2 => ⟨c_LT_in hP ((hK u hu).2 i i1 i2).1.1, hka i i1 i2, rfl, (m2 i i1 i2).2⟩) ⟨hP.1.1, hP.1.2, hN, hP.2.1.1⟩
    rw [if_neg (by omega)] at this
    exact this
theorem q_dis {w N : Nat} {m r : vl_M} {φ : Int → Int} {H : List Int} {u : Int} (hN : 100000 ≤ N) (h : q_I w m r φ (fun x => x ∈ H) u) (hu : c_LN m u) (hur : u ≠ m 11 6) (huX : u ∉ H) (h0 : ∀ s, c_LN m s → s ≠ m 11 6 → 0 < m 9 s) (hH : q_H m r φ H) (hnd : H.Nodup) (hlen : (H.length : Int) + m 9 u ≤ 64) :
    ∃ m' r', (fn_X5_dissolve w N m u = some m' ∧ ∀ (κ : vl_M → Option (Int × vl_M)), fn_X8_remove_L121 N (φ u) (φ (m 8 u)) (fun (v60 : Int) (m61 : vl_M) => (fn_X8_takeFrom N m61 (φ (m 8 u)) (φ u)).bind fun m63 => vl_lt (vl_up m63 26 (φ u) (-2)) fun m64 => vl_lt (vl_up m64 23 13 ((m64 23 13) + 1)) fun m65 => κ m65) N 0 r = κ r') ∧
      q_I w m' r' φ (fun x => x ∈ H ++ (pu_rng (m 9 u).toNat).map (c_k w m u)) (m 8 u) ∧ (q_H m' r' φ (H ++ (pu_rng (m 9 u).toNat).map (c_k w m u)) ∧ (H ++ (pu_rng (m 9 u).toNat).map (c_k w m u)).Nodup) ∧
      ((∀ v, c_LN m' v ↔ (c_LN m v ∧ v ≠ u)) ∧ (∀ v, v ≠ u → m' 2 v = m 2 v ∧ m' 8 v = m 8 v) ∧ (∀ v, m' 9 v = if v = m 8 u then m 9 v - 1 else m 9 v)) ∧ q_Fd 1 m m' r r' := by
  obtain ⟨⟨hP, hK, hA, hR⟩, ⟨hE, hS⟩, hT, ⟨hsn, hsi, hso, hse⟩, hrr⟩ := id h
  have hw11 : w ≤ 11 := hP.1.2
  have hw5 : 5 ≤ w := hP.1.1
  have hpos := h0 u hu hur
  obtain ⟨b1, b2, i, i1, i2, b3⟩ := q_up1 hK hA (Or.inr hu) hur huX
  obtain ⟨q, oq, hq, -, -⟩ := q_fitm hN h hu h0 hpos
  have hq1 := q_fit h hu oq hq
  have hund := c_LN_nd hP hu
  have hpnd := c_LN_nd hP b1
  have hzu := (hK u hu).1.2
  have hzp := (hK _ b1).1.2
  have hpu : m 8 u ≠ u := fun z => by rw [z] at b2; omega
  generalize hp : m 8 u = p at *
  -- the relation, with u measured
  have oh : ∀ h : Nat, h ≠ 3 → h ≠ 4 → h ≠ 5 → h ≠ 6 → c_set m u q h = m h := fun h x y z t => c_set_h _ _ _ x y z t
  have orh : ∀ h : Nat, h ≠ 29 → d_set r (φ u) q h = r h := fun h x => d_set_h _ _ _ x
  have oLN : ∀ v, c_LN (c_set m u q) v ↔ c_LN m v := fun v => by unfold c_LN; rw [oh 1 (by decide) (by decide) (by decide) (by decide), oh 2 (by decide) (by decide) (by decide) (by decide)]
  have ok : ∀ v j, c_k w (c_set m u q) v j = c_k w m v j := fun v j => by unfold c_k; rw [oh 10 (by decide) (by decide) (by decide) (by decide)]
  have hq2 := q_del (p := i) hq1 (Or.inl rfl) ((oLN p).mpr b1) ⟨i1, by rw [oh 9 (by decide) (by decide) (by decide) (by decide)]; exact i2⟩
  rw [ok, b3] at hq2
  have o9 := oh 9 (by decide) (by decide) (by decide) (by decide)
  have o10 := oh 10 (by decide) (by decide) (by decide) (by decide)
  obtain ⟨dc9, dc10⟩ := c_del_cg (w := w) (M := m) (M' := c_set m u q) p i o9 o10
  have d9 : ∀ v, c_del w m p i 9 v = if v = p then m 9 p - 1 else m 9 v := fun v => c_del_9 _ _ _ _ _
  have dh : ∀ h : Nat, h ≠ 9 → h ≠ 10 → c_del w (c_set m u q) p i h = c_set m u q h := fun h x y => c_del_h _ _ _ _ x y
  have dmh : ∀ h : Nat, h ≠ 9 → h ≠ 10 → c_del w m p i h = m h := fun h x y => c_del_h _ _ _ _ x y
  have dku : ∀ j, 0 ≤ j → j < (w : Int) → c_k w (c_del w m p i) u j = c_k w m u j := fun j j1 j2 => by
    rw [c_del_k hw5 hw11 ⟨i1, i2⟩ hzp.2 ⟨j1, j2⟩, if_neg (Ne.symm hpu)]
  have dku' : ∀ j, 0 ≤ j → j < (w : Int) → c_k w (c_del w (c_set m u q) p i) u j = c_k w m u j := fun j j1 j2 => by
    rw [← dku j j1 j2]; unfold c_k; rw [dc10]
  have hq3 := q_freeN (s := u) hq2 (Or.inr rfl) (by
    have : c_LN (c_del w (c_set m u q) p i) u ↔ c_LN m u := by unfold c_LN; rw [dh 1 (by decide) (by decide), dh 2 (by decide) (by decide), oh 1 (by decide) (by decide) (by decide) (by decide), oh 2 (by decide) (by decide) (by decide) (by decide)]
    exact this.mpr hu)
  have du9 : c_del w (c_set m u q) p i 9 u = m 9 u := by rw [dc9, d9, if_neg (Ne.symm hpu)]
  have eX : (fun x => ((x ∈ H ∨ x = u) ∧ x ≠ u) ∨ ∃ j, (0 ≤ j ∧ j < c_del w (c_set m u q) p i 9 u) ∧ x = c_k w (c_del w (c_set m u q) p i) u j) = (fun x => x ∈ H ++ (pu_rng (m 9 u).toNat).map (c_k w m u)) := funext fun x => propext (by
    rw [List.mem_append, List.mem_map, du9]
    constructor
    · rintro (⟨z1 | z1, z2⟩ | ⟨j, z1, z2⟩)
      · exact Or.inl z1
      · exact absurd z1 z2
      · exact Or.inr ⟨j, pu_rng_mem.mpr ⟨z1.1, by omega⟩, by rw [z2, dku' j z1.1 (by omega)]⟩
    · rintro (z | ⟨j, z1, z2⟩)
      · exact Or.inl ⟨Or.inl z, fun y => huX (by rw [← y]; exact z)⟩
      · have z3 := pu_rng_mem.mp z1
        exact Or.inr ⟨j, ⟨z3.1, by omega⟩, by rw [dku' j z3.1 (by omega)]; exact z2.symm⟩)
  rw [eX] at hq3
  -- the class
  have hcw : c_w w N m := ⟨hw5, hw11, hN, hP.2.1.1⟩
  have hfirst : ∀ j, 0 ≤ j → j < i → c_k w m p j ≠ u := fun j j1 j2 z => by
    have := ((hK p b1).2 j j1 (by omega)).2.2 i i1 i2 (by rw [z, b3])
    omega
  have hdet : fn_X4_detach w N m u = some (c_del w m p i) := c_detach hcw ⟨by omega, by omega⟩ hp hpnd (fun j j1 j2 => by have := c_LT_in hP ((hK p b1).2 j j1 j2).1.1; exact ⟨by omega, by omega⟩) hzp.2 ⟨i1, i2⟩ b3 hfirst
  obtain ⟨⟨hH1, hH2⟩, hH3⟩ := hH
  have hdu9 : c_del w m p i 9 u = m 9 u := by rw [d9, if_neg (Ne.symm hpu)]
  have d11 := dmh 11 (by decide) (by decide)
  obtain ⟨m2, g1, g2, ⟨g3, g4, g5⟩, g6⟩ := c_disL (N := N) (κ := fun (v5 : Int) (m6 : vl_M) => (fn_X4_freeNode m6 u).bind fun m8 => vl_lt (vl_up m8 11 8 ((m8 11 8) + 1)) fun m9 => some m9) hund (m 9 u).toNat N 0 (c_del w m p i) (c_w_of hcw (dmh 1 (by decide) (by decide))) (by omega) (by rw [hdu9]; omega) (by rw [hdu9]; omega) (by omega) (by rw [d11]; omega) (by rw [d11]; omega)
  rw [d11] at g3 g4 g5 g6
  have m2h : ∀ h : Nat, h ≠ 9 → h ≠ 10 → h ≠ 11 → h ≠ 12 → m2 h = m h := fun h x y z t => by rw [g2 h z t, dmh h x y]
  -- the reference
  obtain ⟨⟨n1, n2, n3⟩, n4, -⟩ := hsn u hu
  obtain ⟨⟨k1, k2, k3⟩, k4, -⟩ := hsn p b1
  obtain ⟨r1, e1, e2, ⟨e3, e4⟩, e5, e6⟩ := d_disL (N := N) (a := φ u) (b := φ p) (κ := fun _ x => some ((0 : Int), x)) n1 (m 9 u).toNat N 0 r (by omega) (by omega) (by omega) (by omega) (by omega) (by omega)
  have e27 := e2 27 (by decide) (by decide) (by decide)
  have e28 := e2 28 (by decide) (by decide) (by decide)
  have htk : fn_X8_takeFrom N r1 (φ p) (φ u) = some (d_del r1 (φ p) i) := by
    have hkk : ∀ j, 0 ≤ j → j < m 9 p → d_k r1 (φ p) j = φ (c_k w m p j) := fun j j1 j2 => by rw [d_k_congr e28, k4 j j1 j2]
    have hkLN : ∀ j, 0 ≤ j → j < m 9 p → c_LN m (c_k w m p j) := fun j j1 j2 => by
      have := (hK p b1).2 j j1 j2
      exact c_LT_N this.1.1 (by have := hu.2; omega)
    refine d_takeFrom hN k1 ⟨by omega, by omega⟩ ⟨i1, by rw [e27]; omega⟩ (by rw [e27]; omega) (fun j j1 j2 => ?_) (by rw [hkk i i1 i2, b3]) (fun j j1 j2 z => ?_)
    · rw [hkk j j1 (by omega)]
      have := (hsn _ (hkLN j j1 (by omega))).1.1
      exact ⟨by omega, by omega⟩
    · rw [hkk j j1 (by omega)] at z
      exact hfirst j j1 j2 (hsi.1 _ _ (hkLN j j1 (by omega)) hu z)
  obtain ⟨rd27, rd28⟩ := d_del_cg (R := d_set r (φ u) q) (R' := r1) (φ p) i (by rw [e27, orh 27 (by decide)]) (by rw [e28, orh 28 (by decide)])
  have rdh : ∀ h : Nat, h ≠ 27 → h ≠ 28 → d_del r1 (φ p) i h = r1 h := fun h x y => d_del_h _ _ _ x y
  have rdh' : ∀ h : Nat, h ≠ 27 → h ≠ 28 → d_del (d_set r (φ u) q) (φ p) i h = d_set r (φ u) q h := fun h x y => d_del_h _ _ _ x y
  have r3_13 : vl_up (d_del r1 (φ p) i) 26 (φ u) (-2) 23 13 = r 23 13 := by rw [up_h _ _ _ (by decide), rdh 23 (by decide) (by decide), e3 13 (by decide)]
  have f11 : c_fren m2 u 11 = m2 11 := c_fren_h _ _ (by decide) (by decide) (by decide)
  have m3_8 : c_fren m2 u 11 8 = m 11 8 := by rw [f11, g3 8 (by decide) (by decide)]
  refine ⟨vl_up (c_fren m2 u) 11 8 (m 11 8 + 1), vl_up (vl_up (d_del r1 (φ p) i) 26 (φ u) (-2)) 23 13 (r 23 13 + 1), ⟨?_, fun κ => ?_⟩, ?_, ⟨⟨⟨?_, ?_⟩, fun k x hx => ?_⟩, ?_⟩, ⟨fun v => ?_, fun v hv => ⟨?_, ?_⟩, fun v => ?_⟩, ?_⟩
  · unfold fn_X5_dissolve
    rw [hdet, Option.bind_some, g1, c_freeNode ⟨by omega, by omega⟩, Option.bind_some, pu_lt, m3_8]
  · obtain ⟨r1', e1', e2', ⟨e3', e4'⟩, e5', e6'⟩ := d_disL (N := N) (a := φ u) (b := φ p) (κ := fun (v60 : Int) (m61 : vl_M) => (fn_X8_takeFrom N m61 (φ p) (φ u)).bind fun m63 => vl_lt (vl_up m63 26 (φ u) (-2)) fun m64 => vl_lt (vl_up m64 23 13 ((m64 23 13) + 1)) fun m65 => κ m65) n1 (m 9 u).toNat N 0 r (by omega) (by omega) (by omega) (by omega) (by omega) (by omega)
    have er : r1' = r1 := by
      funext h j
      by_cases c1 : h = 31
      · rw [c1, e5', e5]
      · by_cases c2 : h = 32
        · rw [c2, e6', e6]
        · by_cases c3 : h = 23
          · rw [c3]
            by_cases c4 : j = 17
            · rw [c4, e4', e4]
            · rw [e3' j c4, e3 j c4]
          · rw [e2' h c3 c1 c2, e2 h c3 c1 c2]
    rw [e1', er, htk, Option.bind_some, pu_lt, pu_lt, r3_13]
  · -- together
    have e' : ∀ h : Nat, h ≠ 1 → h ≠ 2 → h ≠ 8 → h ≠ 11 → vl_up (c_fren m2 u) 11 8 (m 11 8 + 1) h = m2 h := fun h x y z t => by rw [up_h _ _ _ t, c_fren_h _ _ x y z]
    obtain ⟨cg1, cg2, cg8⟩ := c_fren_cg (M := c_del w (c_set m u q) p i) (M' := m2) u (by rw [m2h 1 (by decide) (by decide) (by decide) (by decide), dh 1 (by decide) (by decide), oh 1 (by decide) (by decide) (by decide) (by decide)]) (by rw [m2h 2 (by decide) (by decide) (by decide) (by decide), dh 2 (by decide) (by decide), oh 2 (by decide) (by decide) (by decide) (by decide)]) (by rw [m2h 8 (by decide) (by decide) (by decide) (by decide), dh 8 (by decide) (by decide), oh 8 (by decide) (by decide) (by decide) (by decide)])
    have cfh : ∀ h : Nat, h ≠ 1 → h ≠ 2 → h ≠ 8 → c_fren (c_del w (c_set m u q) p i) u h = c_del w (c_set m u q) p i h := fun h x y z => c_fren_h _ _ x y z
    refine q_cg2 hq3 (by rw [up_h _ _ _ (by decide), cg1]) (by rw [up_h _ _ _ (by decide), cg2]) (by rw [up_h _ _ _ (by decide), cg8]) (by rw [e' 9 (by decide) (by decide) (by decide) (by decide), g2 9 (by decide) (by decide), cfh 9 (by decide) (by decide) (by decide), dc9]) (by rw [e' 10 (by decide) (by decide) (by decide) (by decide), g2 10 (by decide) (by decide), cfh 10 (by decide) (by decide) (by decide), dc10]) (fun v hv => ?_) (fun v v1 v2 => ?_) ?_ (fun h x y z => ?_) (fun s hs => ?_) ⟨?_, ?_⟩ ⟨?_, ?_⟩ ⟨?_, ?_⟩
    · have hvu : v ≠ u := fun z => by
        have hx := hv
        rw [z] at hx
        unfold c_LT c_LE c_LN at hx
        rw [c_fren_2, if_pos rfl] at hx
        omega
      have x1 : c_rt (vl_up (c_fren m2 u) 11 8 (m 11 8 + 1)) v = c_rt m v := c_rt_congr (by rw [e' 3 (by decide) (by decide) (by decide) (by decide), m2h 3 (by decide) (by decide) (by decide) (by decide)]) (by rw [e' 4 (by decide) (by decide) (by decide) (by decide), m2h 4 (by decide) (by decide) (by decide) (by decide)]) (by rw [e' 5 (by decide) (by decide) (by decide) (by decide), m2h 5 (by decide) (by decide) (by decide) (by decide)]) (by rw [e' 6 (by decide) (by decide) (by decide) (by decide), m2h 6 (by decide) (by decide) (by decide) (by decide)])
      have x2 : c_rt (c_fren (c_del w (c_set m u q) p i) u) v = c_rt (c_set m u q) v := c_rt_congr (by rw [cfh 3 (by decide) (by decide) (by decide), dh 3 (by decide) (by decide)]) (by rw [cfh 4 (by decide) (by decide) (by decide), dh 4 (by decide) (by decide)]) (by rw [cfh 5 (by decide) (by decide) (by decide), dh 5 (by decide) (by decide)]) (by rw [cfh 6 (by decide) (by decide) (by decide), dh 6 (by decide) (by decide)])
      rw [x1, x2, c_set_ne _ _ hvu]
    · rw [e' 7 (by decide) (by decide) (by decide) (by decide), m2h 7 (by decide) (by decide) (by decide) (by decide), cfh 7 (by decide) (by decide) (by decide), dh 7 (by decide) (by decide), oh 7 (by decide) (by decide) (by decide) (by decide)]
    · rw [up_i _ _ (by decide), f11, g3 6 (by decide) (by decide), cfh 11 (by decide) (by decide) (by decide), dh 11 (by decide) (by decide), oh 11 (by decide) (by decide) (by decide) (by decide)]
    · rw [up_h _ _ _ (by omega)]
      by_cases c26 : h = 26
      · subst c26
        funext j
        unfold vl_up
        rw [rdh 26 (by decide) (by decide), e2 26 (by decide) (by decide) (by decide), rdh' 26 (by decide) (by decide), orh 26 (by decide)]
      · rw [up_h _ _ _ c26, up_h _ _ _ c26]
        by_cases c27 : h = 27
        · rw [c27, rd27]
        · by_cases c28 : h = 28
          · rw [c28, rd28]
          · rw [rdh h c27 c28, e2 h (by omega) (by omega) (by omega), rdh' h c27 c28, orh h z]
    · have hsu : s ≠ u := fun z => by
        have hx := hs.2
        rw [z, c_fren_2, if_pos rfl] at hx
        omega
      have hsm : c_LN m s := by
        obtain ⟨y1, y2⟩ := hs
        rw [c_fren_1 _ _ (by decide), dh 1 (by decide) (by decide), oh 1 (by decide) (by decide) (by decide) (by decide)] at y1
        rw [c_fren_2, if_neg hsu, dh 2 (by decide) (by decide), oh 2 (by decide) (by decide) (by decide) (by decide)] at y2
        exact ⟨y1, y2⟩
      have x1 : d_rt (vl_up (vl_up (d_del r1 (φ p) i) 26 (φ u) (-2)) 23 13 (r 23 13 + 1)) 0 (φ s) = d_rt r 0 (φ s) := d_rt_congr (by rw [up_h _ _ _ (by decide), up_h _ _ _ (by decide), rdh 25 (by decide) (by decide), e2 25 (by decide) (by decide) (by decide)]) (by rw [up_h _ _ _ (by decide), up_h _ _ _ (by decide), rdh 29 (by decide) (by decide), e2 29 (by decide) (by decide) (by decide)]) 0 _
      have x2 : d_rt (vl_up (d_del (d_set r (φ u) q) (φ p) i) 26 (φ u) (-2)) 0 (φ s) = d_rt (d_set r (φ u) q) 0 (φ s) := d_rt_congr (by rw [up_h _ _ _ (by decide), rdh' 25 (by decide) (by decide)]) (by rw [up_h _ _ _ (by decide), rdh' 29 (by decide) (by decide)]) 0 _
      rw [x1, x2, d_set_ne _ _ (Or.inr (fun z => hsu (hsi.1 s u hsm hu z)))]
    all_goals first
      | (rw [up_i _ _ (by decide), up_h _ _ _ (by decide), rdh 23 (by decide) (by decide), e3 _ (by decide), up_h _ _ _ (by decide), rdh' 23 (by decide) (by decide), orh 23 (by decide)]; done)
      | (rw [up_i _ _ (by decide), up_h _ _ _ (by decide), rdh 23 (by decide) (by decide), e3 _ (by decide), up_i _ _ (by decide), f11, g3 7 (by decide) (by decide)]; exact hrr.2.2.2.1)
      | (rw [up_s, up_s, hrr.2.2.2.2])
  · rw [up_i _ _ (by decide), f11, g4, hH1, List.length_append, List.length_map, pu_rng_len]; omega
  · rw [up_i _ _ (by decide), up_h _ _ _ (by decide), rdh 23 (by decide) (by decide), e4, hH2, List.length_append, List.length_map, pu_rng_len]; omega
  · have e12 : vl_up (c_fren m2 u) 11 8 (m 11 8 + 1) 12 = m2 12 := by rw [up_h _ _ _ (by decide), c_fren_h _ _ (by decide) (by decide) (by decide)]
    have e31 : vl_up (vl_up (d_del r1 (φ p) i) 26 (φ u) (-2)) 23 13 (r 23 13 + 1) 31 = r1 31 := by rw [up_h _ _ _ (by decide), up_h _ _ _ (by decide), rdh 31 (by decide) (by decide)]
    have e32 : vl_up (vl_up (d_del r1 (φ p) i) 26 (φ u) (-2)) 23 13 (r 23 13 + 1) 32 = r1 32 := by rw [up_h _ _ _ (by decide), up_h _ _ _ (by decide), rdh 32 (by decide) (by decide)]
    have e22 : ∀ v, v ≠ u → vl_up (c_fren m2 u) 11 8 (m 11 8 + 1) 2 v = m 2 v := fun v hv => by rw [up_h _ _ _ (by decide), c_fren_2, if_neg hv, m2h 2 (by decide) (by decide) (by decide) (by decide)]
    rw [e12, e31, e32, g6, e5, e6, hH1, hH2]
    by_cases c : k < H.length
    · rw [List.getElem?_append_left c] at hx
      obtain ⟨y1, y2, y3⟩ := hH3 k x hx
      have hxu : x ≠ u := fun z => huX (by rw [← z]; exact List.mem_of_getElem? hx)
      rw [if_neg (by omega), if_neg (by omega), if_neg (by omega), e22 x hxu, dmh 12 (by decide) (by decide)]
      exact ⟨y1, y2, y3⟩
    · rw [List.getElem?_append_right (by omega), List.getElem?_map] at hx
      obtain ⟨y, hy1, hy2⟩ := Option.map_eq_some_iff.mp hx
      obtain ⟨y3, y4⟩ := pu_rng_get hy1
      have hy5 : (k : Int) - (H.length : Int) = y := by omega
      have hkid := (hK u hu).2 y (by omega) (by omega)
      have hxu : x ≠ u := fun z => by
        rw [← hy2] at z
        have := hkid.1.2
        rw [z] at this; omega
      rw [if_pos (by omega), if_pos (by omega), if_pos (by omega), e22 x hxu, hy5, show (0 : Int) + y = y by omega, dku y (by omega) (by omega), n4 y (by omega) (by omega), n2, ← hy2]
      exact ⟨rfl, rfl, hkid.1.2.symm⟩
  · refine List.nodup_append.mpr ⟨hnd, ?_, fun x hx y hy e => ?_⟩
    · have : ∀ l : List Int, (∀ z, z ∈ l → 0 ≤ z ∧ z < m 9 u) → l.Nodup → (l.map (c_k w m u)).Nodup := by
        intro l
        induction l with
        | nil => intro _ _; exact List.nodup_nil
        | cons z t ih =>
          intro hz hn
          obtain ⟨n1, n2⟩ := List.nodup_cons.mp hn
          rw [List.map_cons]
          refine List.nodup_cons.mpr ⟨fun hm => ?_, ih (fun y hy => hz y (List.mem_cons_of_mem _ hy)) n2⟩
          obtain ⟨y, hy1, hy2⟩ := List.mem_map.mp hm
          have h1 := hz z List.mem_cons_self
          have h2 := hz y (List.mem_cons_of_mem _ hy1)
          have := ((hK u hu).2 z h1.1 h1.2).2.2 y h2.1 h2.2 hy2.symm
          exact n1 (by rw [this]; exact hy1)
      exact this _ (fun z hz => by have := pu_rng_mem.mp hz; exact ⟨this.1, by omega⟩) (pu_rng_nodup _)
    · obtain ⟨z, hz1, hz2⟩ := List.mem_map.mp hy
      have := pu_rng_mem.mp hz1
      have hk := ((hK u hu).2 z this.1 (by omega)).2.1.2.1
      rw [hz2, ← e] at hk
      exact hk hx
  · unfold c_LN
    rw [up_h _ _ _ (by decide), up_h _ _ _ (by decide), c_fren_1 _ _ (by decide), c_fren_2, m2h 1 (by decide) (by decide) (by decide) (by decide), m2h 2 (by decide) (by decide) (by decide) (by decide)]
    by_cases c : v = u
    · rw [if_pos c]
      exact ⟨fun z => absurd z.2 (by decide), fun z => absurd c z.2⟩
    · rw [if_neg c]
      exact ⟨fun z => ⟨z, c⟩, fun z => z.1⟩
  · rw [up_h _ _ _ (by decide), c_fren_2, if_neg hv, m2h 2 (by decide) (by decide) (by decide) (by decide)]
  · rw [up_h _ _ _ (by decide), c_fren_8, if_neg hv, m2h 8 (by decide) (by decide) (by decide) (by decide)]
  · rw [up_h _ _ _ (by decide), c_fren_h _ _ (by decide) (by decide) (by decide), g2 9 (by decide) (by decide), d9]
    by_cases c : v = p
    · rw [if_pos c, if_pos c, c]
    · rw [if_neg c, if_neg c]
  · refine ⟨⟨fun h x => ?_, fun j x => ?_, fun j x y z => ?_⟩, fun v x => ⟨?_, ?_⟩, ⟨⟨?_, ?_⟩, ?_⟩, fun h x => ?_, fun j x y => ?_⟩
    · rw [up_h _ _ _ (by omega), c_fren_h _ _ (by omega) (by omega) (by omega), m2h h (by omega) (by omega) (by omega) (by omega)]
    · rw [up_h _ _ _ (by decide), c_fren_1 _ _ x, m2h 1 (by decide) (by decide) (by decide) (by decide)]
    · rw [up_i _ _ y, f11, g3 j x z]
    · rw [up_h _ _ _ (by decide), c_fren_2, if_neg (by omega), m2h 2 (by decide) (by decide) (by decide) (by decide)]
    · exact c_rt_congr (by rw [up_h _ _ _ (by decide), c_fren_h _ _ (by decide) (by decide) (by decide), m2h 3 (by decide) (by decide) (by decide) (by decide)]) (by rw [up_h _ _ _ (by decide), c_fren_h _ _ (by decide) (by decide) (by decide), m2h 4 (by decide) (by decide) (by decide) (by decide)]) (by rw [up_h _ _ _ (by decide), c_fren_h _ _ (by decide) (by decide) (by decide), m2h 5 (by decide) (by decide) (by decide) (by decide)]) (by rw [up_h _ _ _ (by decide), c_fren_h _ _ (by decide) (by decide) (by decide), m2h 6 (by decide) (by decide) (by decide) (by decide)])
    · rw [up_s]; omega
    · rw [up_s]; omega
    · rw [up_i _ _ (by decide), up_i _ _ (by decide), f11, g4, g5]; omega
    · rw [up_h _ _ _ (by omega), up_h _ _ _ (by omega), rdh h (by omega) (by omega), e2 h (by omega) (by omega) (by omega)]
    · rw [up_i _ _ x, up_h _ _ _ (by decide), rdh 23 (by decide) (by decide), e3 j y]
