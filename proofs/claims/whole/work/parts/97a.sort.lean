/-! ===== PURE, 58: sorting ===== -/
def s_key (m : vl_M) (f e : Int) : List Int := if f = 0 then [m 3 e + m 5 e, m 4 e + m 6 e, m 7 e, m 3 e, m 4 e, m 5 e, m 6 e] else [m 4 e + m 6 e, m 3 e + m 5 e, m 7 e, m 3 e, m 4 e, m 5 e, m 6 e]
theorem s_key_len (m : vl_M) (f a b : Int) : (s_key m f a).length = (s_key m f b).length := by
  unfold s_key
  by_cases c : f = 0
  · rw [if_pos c, if_pos c]; rfl
  · rw [if_neg c, if_neg c]; rfl
def c_j (p q : Int) : Int := if p < q then (-1 : Int) else if p = q then 0 else 1
theorem c_j_r (p q : Int) : vl_r32 (c_j p q) := by
  unfold c_j
  by_cases c : p < q
  · rw [if_pos c]; decide
  · rw [if_neg c]
    by_cases d : p = q
    · rw [if_pos d]; decide
    · rw [if_neg d]; decide
theorem c_j_l {p q : Int} (h : p < q) : c_j p q = -1 := if_pos h
theorem c_j_e (p : Int) : c_j p p = 0 := by unfold c_j; rw [if_neg (Int.lt_irrefl p), if_pos rfl]
theorem c_j_g {p q : Int} (h : q < p) : c_j p q = 1 := by
  unfold c_j
  rw [if_neg (show ¬ p < q by omega), if_neg (show ¬ p = q by omega)]
theorem c_cmp {m : vl_M} {a b f : Int} (hf : vl_r32 f) (ha : c_in a) (hb : c_in b) (na : vl_r32 (m 7 a)) (nb : vl_r32 (m 7 b)) (oa : r_ok (c_rt m a)) (ob : r_ok (c_rt m b)) : ∃ v, fn_X1_compare m a b f = some v ∧ vl_r32 v ∧ (v < 0 ↔ lx (s_key m f a) (s_key m f b) = true) := by
  obtain ⟨⟨a1, a2, a3⟩, a4, a5, a6⟩ : (0 ≤ m 3 a ∧ m 3 a ≤ m 5 a ∧ m 5 a ≤ 32767) ∧ (0 ≤ m 4 a ∧ m 4 a ≤ m 6 a ∧ m 6 a ≤ 32767) := id oa
  obtain ⟨⟨b1, b2, b3⟩, b4, b5, b6⟩ : (0 ≤ m 3 b ∧ m 3 b ≤ m 5 b ∧ m 5 b ≤ 32767) ∧ (0 ≤ m 4 b ∧ m 4 b ≤ m 6 b ∧ m 6 b ≤ 32767) := id ob
  obtain ⟨v, v1, v2, v3⟩ := c_names ha hb na nb oa ob
  have fin : ∀ (p q s t : Int), ∃ v, (vl_gd (vl_r32 (c_j p q)) <| if c_j p q = 0 then (vl_gd (vl_r32 (c_j s t)) <| if c_j s t = 0 then ((fn_X4_compareNames m a b).bind fun b14 => some (b14)) else some (c_j s t)) else some (c_j p q)) = some v ∧ vl_r32 v ∧ (v < 0 ↔ lx [p, s, m 7 a, m 3 a, m 4 a, m 5 a, m 6 a] [q, t, m 7 b, m 3 b, m 4 b, m 5 b, m 6 b] = true) := fun p q s t => by
    rw [pu_gd (c_j_r p q)]
    rcases Int.lt_trichotomy p q with c | c | c
    · rw [c_j_l c, if_neg (by decide)]
      exact ⟨-1, rfl, by decide, ⟨fun _ => lx_lt c _ _, fun _ => by decide⟩⟩
    · subst c
      rw [c_j_e, if_pos rfl, pu_gd (c_j_r s t), lx_eq]
      rcases Int.lt_trichotomy s t with d | d | d
      · rw [c_j_l d, if_neg (by decide)]
        exact ⟨-1, rfl, by decide, ⟨fun _ => lx_lt d _ _, fun _ => by decide⟩⟩
      · subst d
        rw [c_j_e, if_pos rfl, lx_eq, v1, Option.bind_some]
        exact ⟨v, rfl, v2, v3⟩
      · rw [c_j_g d, if_neg (by decide), lx_gt d]
        exact ⟨1, rfl, by decide, ⟨fun z => absurd z (by decide), fun z => absurd z (by decide)⟩⟩
    · rw [c_j_g c, if_neg (by decide), lx_gt c]
      exact ⟨1, rfl, by decide, ⟨fun z => absurd z (by decide), fun z => absurd z (by decide)⟩⟩
  unfold fn_X1_compare s_key
  rw [pu_gd ha, pu_gd hb, j_cmp ⟨by omega, by omega⟩ ⟨by omega, by omega⟩, Option.bind_some, j_cmp ⟨by omega, by omega⟩ ⟨by omega, by omega⟩, Option.bind_some, pu_gd hf, pu_jn]
  by_cases c : f = 0
  · rw [if_pos c, if_pos c, if_pos c]
    dsimp only
    rw [pu_jn, if_pos c]
    exact fin _ _ _ _
  · rw [if_neg c, if_neg c, if_neg c]
    dsimp only
    rw [pu_jn, if_neg c]
    exact fin _ _ _ _
theorem d_packed {N : Nat} {m r : vl_M} {φ : Int → Int} {a b f : Int} (hN : 100000 ≤ N) (hf : vl_r32 f) (ea : (0 ≤ φ a ∧ φ a < 400) ∧ r 24 (φ a) = m 7 a ∧ d_rt r (-1) (φ a) = c_rt m a) (eb : (0 ≤ φ b ∧ φ b < 400) ∧ r 24 (φ b) = m 7 b ∧ d_rt r (-1) (φ b) = c_rt m b) (na : vl_r32 (m 7 a)) (nb : vl_r32 (m 7 b)) (oa : r_ok (c_rt m a)) (ob : r_ok (c_rt m b)) : fn_X8_isPackedBefore N r (φ a) (φ b) f = some (if lx (s_key m f a) (s_key m f b) = true then 1 else 0) := by
  obtain ⟨a0, a7, ar⟩ := ea
  obtain ⟨b0, b7, br⟩ := eb
  have ar' : (r 25 (4 * φ a), r 25 (4 * φ a + 1), r 25 (4 * φ a + 2), r 25 (4 * φ a + 3)) = (m 3 a, m 4 a, m 5 a, m 6 a) := by
    have : d_rt r (-1) (φ a) = (r 25 (4 * φ a), r 25 (4 * φ a + 1), r 25 (4 * φ a + 2), r 25 (4 * φ a + 3)) := by unfold d_rt; rw [if_pos (by decide)]
    rw [← this]; exact ar
  have br' : (r 25 (4 * φ b), r 25 (4 * φ b + 1), r 25 (4 * φ b + 2), r 25 (4 * φ b + 3)) = (m 3 b, m 4 b, m 5 b, m 6 b) := by
    have : d_rt r (-1) (φ b) = (r 25 (4 * φ b), r 25 (4 * φ b + 1), r 25 (4 * φ b + 2), r 25 (4 * φ b + 3)) := by unfold d_rt; rw [if_pos (by decide)]
    rw [← this]; exact br
  simp only [Prod.mk.injEq] at ar' br'
  obtain ⟨p3, p4, p5, p6⟩ := ar'
  obtain ⟨q3, q4, q5, q6⟩ := br'
  obtain ⟨⟨a1, a2, a3⟩, a4, a5, a6⟩ : (0 ≤ m 3 a ∧ m 3 a ≤ m 5 a ∧ m 5 a ≤ 32767) ∧ (0 ≤ m 4 a ∧ m 4 a ≤ m 6 a ∧ m 6 a ≤ 32767) := id oa
  obtain ⟨⟨b1, b2, b3⟩, b4, b5, b6⟩ : (0 ≤ m 3 b ∧ m 3 b ≤ m 5 b ∧ m 5 b ≤ 32767) ∧ (0 ≤ m 4 b ∧ m 4 b ≤ m 6 b ∧ m 6 b ≤ 32767) := id ob
  have hib : fn_X8_isBefore N r (φ a) (φ b) = some (if lx [m 7 a, m 3 a, m 4 a, m 5 a, m 6 a] [m 7 b, m 3 b, m 4 b, m 5 b, m 6 b] = true then 1 else 0) := by
    unfold fn_X8_isBefore
    rw [pu_gd ⟨by omega, by omega⟩, pu_gd ⟨by omega, by omega⟩, a7, b7, pu_gd na, pu_gd nb]
    by_cases c7 : m 7 a = m 7 b
    · rw [if_pos c7, c7, lx_eq]
      exact d_ibL ⟨by omega, by omega⟩ ⟨by omega, by omega⟩ ar br oa ob (fun _ => rfl) (by omega)
    · rw [if_neg c7]
      by_cases c8 : m 7 a < m 7 b
      · rw [if_pos c8, if_pos (lx_lt c8 _ _)]
      · rw [if_neg c8, lx_gt (by omega)]; rfl
  have hlast : ((fn_X8_isBefore N r (φ a) (φ b)).bind fun b27 => vl_gd (b27 = 0 ∨ b27 = 1) <| some (b27)) = some (if lx [m 7 a, m 3 a, m 4 a, m 5 a, m 6 a] [m 7 b, m 3 b, m 4 b, m 5 b, m 6 b] = true then 1 else 0) := by
    rw [hib, Option.bind_some, pu_gd (by by_cases z : lx [m 7 a, m 3 a, m 4 a, m 5 a, m 6 a] [m 7 b, m 3 b, m 4 b, m 5 b, m 6 b] = true; (rw [if_pos z]; exact Or.inr rfl); (rw [if_neg z]; exact Or.inl rfl))]
  unfold fn_X8_isPackedBefore s_key
  rw [pu_gd ⟨by omega, by omega⟩, pu_gd ⟨by omega, by omega⟩, pu_lt, pu_gd ⟨by omega, by omega⟩, pu_gd ⟨by omega, by omega⟩, pu_lt, pu_gd ⟨by omega, by omega⟩, pu_gd ⟨by omega, by omega⟩, pu_lt, pu_gd ⟨by omega, by omega⟩, pu_gd ⟨by omega, by omega⟩, pu_lt, p3, p4, p5, p6, q3, q4, q5, q6, pu_gd hf, pu_jn]
  -- first across, then along
  have tail : (vl_gd (vl_r32 (m 3 a + m 5 a)) <| vl_gd (vl_r32 (m 3 b + m 5 b)) <| if (m 3 a + m 5 a) = (m 3 b + m 5 b) then (vl_gd (vl_r32 (m 4 a + m 6 a)) <| vl_gd (vl_r32 (m 4 b + m 6 b)) <| if (m 4 a + m 6 a) = (m 4 b + m 6 b) then ((fn_X8_isBefore N r (φ a) (φ b)).bind fun b27 => vl_gd (b27 = 0 ∨ b27 = 1) <| some (b27)) else if (m 4 a + m 6 a) < (m 4 b + m 6 b) then (some (1)) else some (0)) else if (m 3 a + m 5 a) < (m 3 b + m 5 b) then (some (1)) else some (0)) = some (if lx [m 3 a + m 5 a, m 4 a + m 6 a, m 7 a, m 3 a, m 4 a, m 5 a, m 6 a] [m 3 b + m 5 b, m 4 b + m 6 b, m 7 b, m 3 b, m 4 b, m 5 b, m 6 b] = true then (1 : Int) else 0) := by
    rw [pu_gd ⟨by omega, by omega⟩, pu_gd ⟨by omega, by omega⟩]
    by_cases c : m 3 a + m 5 a = m 3 b + m 5 b
    · rw [if_pos c, pu_gd ⟨by omega, by omega⟩, pu_gd ⟨by omega, by omega⟩, c, lx_eq]
      by_cases d : m 4 a + m 6 a = m 4 b + m 6 b
      · rw [if_pos d, d, lx_eq]; exact hlast
      · rw [if_neg d]
        by_cases e : m 4 a + m 6 a < m 4 b + m 6 b
        · rw [if_pos e, if_pos (lx_lt e _ _)]
        · rw [if_neg e, lx_gt (by omega)]; rfl
    · rw [if_neg c]
      by_cases e : m 3 a + m 5 a < m 3 b + m 5 b
      · rw [if_pos e, if_pos (lx_lt e _ _)]
      · rw [if_neg e, lx_gt (by omega)]; rfl
  by_cases c : f = 0
  · rw [if_pos c, if_pos c, if_pos c]
    exact tail
  · rw [if_neg c, if_neg c, if_neg c, pu_gd ⟨by omega, by omega⟩, pu_gd ⟨by omega, by omega⟩]
    by_cases d : m 4 a + m 6 a = m 4 b + m 6 b
    · rw [if_pos d, d, lx_eq]
      rw [d] at tail
      have e : lx [m 3 a + m 5 a, m 4 b + m 6 b, m 7 a, m 3 a, m 4 a, m 5 a, m 6 a] [m 3 b + m 5 b, m 4 b + m 6 b, m 7 b, m 3 b, m 4 b, m 5 b, m 6 b] = lx [m 3 a + m 5 a, m 7 a, m 3 a, m 4 a, m 5 a, m 6 a] [m 3 b + m 5 b, m 7 b, m 3 b, m 4 b, m 5 b, m 6 b] := by
        rcases Int.lt_trichotomy (m 3 a + m 5 a) (m 3 b + m 5 b) with z | z | z
        · rw [lx_lt z, lx_lt z]
        · rw [z, lx_eq, lx_eq, lx_eq]
        · rw [lx_gt z, lx_gt z]
      rw [e] at tail
      exact tail
    · rw [if_neg d]
      by_cases e : m 4 a + m 6 a < m 4 b + m 6 b
      · rw [if_pos e, if_pos (lx_lt e _ _)]
      · rw [if_neg e, lx_gt (by omega)]; rfl
/-- what stands in a stretch -/
def s_B (L : Int → Int) (lo hi : Int) (P : Int → Prop) : Prop := (∀ z, P z ↔ ∃ i, lo ≤ i ∧ i < hi ∧ L i = z) ∧ (∀ i j, lo ≤ i → i < hi → lo ≤ j → j < hi → L i = L j → i = j)
theorem s_B_swap {H1 H2 : Int → Int} {lo hi p q : Int} {P : Int → Prop} (hp : lo ≤ p ∧ p < hi) (hq : lo ≤ q ∧ q < hi) (h1 : H2 p = H1 q) (h2 : H2 q = H1 p) (h3 : ∀ i, i ≠ p → i ≠ q → H2 i = H1 i) (h : s_B H1 lo hi P) : s_B H2 lo hi P := by
  obtain ⟨a1, a2⟩ := h
  have key : ∀ i, lo ≤ i → i < hi → ∃ j, (lo ≤ j ∧ j < hi) ∧ H2 i = H1 j ∧ ((i = p ∧ j = q) ∨ (i = q ∧ i ≠ p ∧ j = p) ∨ (i ≠ p ∧ i ≠ q ∧ j = i)) := fun i i1 i2 => by
    by_cases c : i = p
    · exact ⟨q, hq, by rw [c, h1], Or.inl ⟨c, rfl⟩⟩
    · by_cases c2 : i = q
      · exact ⟨p, hp, by rw [c2, h2], Or.inr (Or.inl ⟨c2, c, rfl⟩)⟩
      · exact ⟨i, ⟨i1, i2⟩, h3 i c c2, Or.inr (Or.inr ⟨c, c2, rfl⟩)⟩
  refine ⟨fun z => ?_, fun i j i1 i2 j1 j2 e => ?_⟩
  · rw [a1]
    constructor
    · rintro ⟨i, i1, i2, e⟩
      by_cases c : i = p
      · exact ⟨q, hq.1, hq.2, by rw [h2, ← c]; exact e⟩
      · by_cases c2 : i = q
        · exact ⟨p, hp.1, hp.2, by rw [h1, ← c2]; exact e⟩
        · exact ⟨i, i1, i2, by rw [h3 i c c2]; exact e⟩
    · rintro ⟨i, i1, i2, e⟩
      obtain ⟨j, j1, j2, -⟩ := key i i1 i2
      exact ⟨j, j1.1, j1.2, by rw [← j2]; exact e⟩
  · obtain ⟨a, ⟨b1, b2⟩, b3, b4⟩ := key i i1 i2
    obtain ⟨c, ⟨d1, d2⟩, d3, d4⟩ := key j j1 j2
    have := a2 a c b1 b2 d1 d2 (by rw [← b3, ← d3]; exact e)
    omega
/-- one goes down in a sorted stretch -/
def s_iv (K : Int → List Int) (L : Int → Int) (p v i lo : Int) : Prop := (∀ a b, lo ≤ a → a < b → b ≤ i → a ≠ p → b ≠ p → lx (K (L b)) (K (L a)) = false) ∧ (∀ b, p < b → b ≤ i → lx (K v) (K (L b)) = true)
theorem s_iv_step {K : Int → List Int} {L : Int → Int} {p v i lo : Int} (hp : lo < p ∧ p ≤ i) (hl : lx (K v) (K (L (p - 1))) = true) (h : s_iv K L p v i lo) : s_iv K (h_u L p (L (p - 1))) (p - 1) v i lo := by
  obtain ⟨h1, h2⟩ := h
  refine ⟨fun a b a1 a2 a3 a4 a5 => ?_, fun b b1 b2 => ?_⟩
  · by_cases cb : b = p
    · rw [cb, h_u_s, h_u_n _ _ (by omega)]
      exact h1 a (p - 1) a1 (by omega) (by omega) (by omega) (by omega)
    · rw [h_u_n _ _ cb]
      by_cases ca : a = p
      · rw [ca, h_u_s]
        exact h1 (p - 1) b (by omega) (by omega) a3 (by omega) cb
      · rw [h_u_n _ _ ca]
        exact h1 a b a1 a2 a3 ca cb
  · by_cases cb : b = p
    · rw [cb, h_u_s]; exact hl
    · rw [h_u_n _ _ cb]; exact h2 b (by omega) b2
theorem s_iv_end {K : Int → List Int} {L : Int → Int} {p v i lo : Int} (hK : ∀ a b, (K a).length = (K b).length) (hp : lo ≤ p ∧ p ≤ i) (he : p = lo ∨ lx (K v) (K (L (p - 1))) = false) (h : s_iv K L p v i lo) : ∀ a b, lo ≤ a → a < b → b ≤ i → lx (K (h_u L p v b)) (K (h_u L p v a)) = false := by
  obtain ⟨h1, h2⟩ := h
  intro a b a1 a2 a3
  by_cases ca : a = p
  · rw [ca, h_u_s, h_u_n _ _ (by omega)]
    exact lx_asym (h2 b (by omega) a3)
  · rw [h_u_n _ _ ca]
    by_cases cb : b = p
    · rw [cb, h_u_s]
      rcases he with z | z
      · omega
      · by_cases c : a = p - 1
        · rw [c]; exact z
        · exact lx_le z (h1 a (p - 1) a1 (by omega) (by omega) (by omega) (by omega)) (hK _ _) (hK _ _)
    · rw [h_u_n _ _ cb]
      exact h1 a b a1 a2 a3 ca cb
/-- sorted stretches with the same things are the same -/
theorem s_uni {K : Int → List Int} {L1 L2 : Int → Int} {lo hi : Int} {P : Int → Prop} (hK : ∀ a b, (K a).length = (K b).length) (hinj : ∀ a b, P a → P b → K a = K b → a = b) (h1 : s_B L1 lo hi P) (h2 : s_B L2 lo hi P) (s1 : ∀ a b, lo ≤ a → a < b → b < hi → lx (K (L1 b)) (K (L1 a)) = false) (s2 : ∀ a b, lo ≤ a → a < b → b < hi → lx (K (L2 b)) (K (L2 a)) = false) : ∀ (n : Nat) (a : Int), lo ≤ a → a < hi → a - lo < (n : Int) → L1 a = L2 a := by
  intro n
  induction n with
  | zero => intro a a1 a2 a3; omega
  | succ n ih =>
    intro a a1 a2 a3
    have p1 : P (L1 a) := (h1.1 _).mpr ⟨a, a1, a2, rfl⟩
    have p2 : P (L2 a) := (h2.1 _).mpr ⟨a, a1, a2, rfl⟩
    obtain ⟨b, b1, b2, b3⟩ := (h2.1 _).mp p1
    obtain ⟨c, c1, c2, c3⟩ := (h1.1 _).mp p2
    have hb : a ≤ b := by
      refine Classical.byContradiction (fun z => ?_)
      have := ih b b1 b2 (by omega)
      rw [b3] at this
      have := h1.2 b a b1 b2 a1 a2 this
      omega
    have hc : a ≤ c := by
      refine Classical.byContradiction (fun z => ?_)
      have := ih c c1 c2 (by omega)
      rw [c3] at this
      have := h2.2 a c a1 a2 c1 c2 this
      omega
    by_cases eb : b = a
    · rw [← b3, eb]
    · by_cases ec : c = a
      · rw [← c3, ec]
      · have l1 := s2 a b a1 (by omega) b2
        have l2 := s1 a c a1 (by omega) c2
        rw [b3] at l1
        rw [c3] at l2
        refine hinj _ _ p1 p2 (Classical.byContradiction (fun z => ?_))
        rcases lx_tot _ _ (hK (L1 a) (L2 a)) z with y | y
        · rw [y] at l1; exact absurd l1 (by decide)
        · rw [y] at l2; exact absurd l2 (by decide)
