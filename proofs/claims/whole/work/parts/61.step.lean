/-! ===== PURE, 22: small things for the split of both ===== -/
theorem pu_filter_perm (p : Int → Bool) : ∀ l : List Int, (l.filter p ++ l.filter (fun x => !p x)).Perm l := by
  intro l
  induction l with
  | nil => exact List.Perm.refl _
  | cons a t ih =>
    by_cases c : p a = true
    · rw [List.filter_cons_of_pos c, List.filter_cons_of_neg (by simp [c])]
      exact List.Perm.cons a ih
    · rw [List.filter_cons_of_neg c, List.filter_cons_of_pos (by simpa using c)]
      exact List.perm_middle.trans (List.Perm.cons a ih)
theorem dh_perm {r0 r : vl_M} {f : Int → pR} {n : Nat} {A B C : List Int} (h : dh_I r0 r f n A B C) : (A ++ B).Perm C := by
  obtain ⟨-, -, -, -, -, -, h8, h9⟩ := h
  have := pu_filter_perm (fun x => decide (x ∈ A)) C
  have e : C.filter (fun x => !decide (x ∈ A)) = C.filter (fun x => decide (x ∉ A)) := List.filter_congr (fun x _ => by simp)
  rw [e, h8, h9] at this
  exact this
theorem c_ins_set (w : Nat) (m : vl_M) (s u idx t : Int) (q : pR) : c_ins w (c_set m s q) u idx t = c_set (c_ins w m u idx t) s q := by
  funext h j
  by_cases h8 : h = 8
  · subst h8; simp [c_ins, c_set, c_shr, vl_up]
  by_cases h9 : h = 9
  · subst h9; simp [c_ins, c_set, c_shr, vl_up]
  by_cases h10 : h = 10
  · subst h10; simp [c_ins, c_set, c_shr, vl_up]
  rw [c_ins_h _ _ _ _ _ h8 h9 h10]
  have e : c_ins w m u idx t h = m h := c_ins_h _ _ _ _ _ h8 h9 h10
  unfold c_set vl_up
  rw [e]
theorem c_ins_11 (w : Nat) (m : vl_M) (u idx t j v : Int) : c_ins w (vl_up m 11 j v) u idx t = vl_up (c_ins w m u idx t) 11 j v := by
  funext h k
  by_cases h8 : h = 8
  · subst h8; simp [c_ins, c_shr, vl_up]
  by_cases h9 : h = 9
  · subst h9; simp [c_ins, c_shr, vl_up]
  by_cases h10 : h = 10
  · subst h10; simp [c_ins, c_shr, vl_up]
  rw [c_ins_h _ _ _ _ _ h8 h9 h10]
  have e : c_ins w m u idx t h = m h := c_ins_h _ _ _ _ _ h8 h9 h10
  unfold vl_up
  rw [e]
theorem c_set_11 (m : vl_M) (s j v : Int) (q : pR) : c_set (vl_up m 11 j v) s q = vl_up (c_set m s q) 11 j v := by
  funext h k
  by_cases h11 : h = 11
  · subst h11; simp [c_set, vl_up]
  · rw [up_h _ _ _ h11]
    unfold c_set vl_up
    simp [h11]
theorem c_set_set (m : vl_M) (s : Int) (q q' : pR) : c_set (c_set m s q) s q' = c_set m s q' := by
  funext h k
  unfold c_set vl_up
  by_cases h6 : h = 6 ∧ k = s
  · simp [h6]
  by_cases h5 : h = 5 ∧ k = s
  · simp [h5]
  by_cases h4 : h = 4 ∧ k = s
  · simp [h4]
  by_cases h3 : h = 3 ∧ k = s
  · simp [h3]
  simp [h6, h5, h4, h3]
theorem d_set_self (r : vl_M) (n : Int) : d_set r n (d_rt r 0 n) = r := by
  have e : d_rt r 0 n = (r 29 (4 * n), r 29 (4 * n + 1), r 29 (4 * n + 2), r 29 (4 * n + 3)) := by
    unfold d_rt
    rw [if_neg (by decide)]
  rw [e]
  funext h j
  unfold d_set vl_up
  by_cases h29 : h = 29
  · subst h29
    simp only [true_and]
    by_cases k3 : j = 4 * n + 3
    · rw [if_pos k3, k3]
    rw [if_neg k3]
    by_cases k2 : j = 4 * n + 2
    · rw [if_pos k2, k2]
    rw [if_neg k2]
    by_cases k1 : j = 4 * n + 1
    · rw [if_pos k1, k1]
    rw [if_neg k1]
    by_cases k0 : j = 4 * n + 0
    · rw [if_pos k0, k0]; simp
    rw [if_neg k0]
  · simp [h29]
/-- a part of a node in two: the whole is the same -/
theorem r_is_two {q a b c0 : pR} {P Q : pR → Prop} (h : r_is q P) (hc : P c0) (e : c0 = r_cv a b) (h1 : ∀ p, Q p → (P p ∨ p = a ∨ p = b)) (h2 : ∀ p, P p → (p = c0 ∨ Q p)) (ha : Q a) (hb : Q b) : r_is q Q := by
  obtain ⟨h0, ⟨⟨p1, g1, e1⟩, ⟨p2, g2, e2⟩⟩, ⟨p3, g3, e3⟩, ⟨p4, g4, e4⟩⟩ := h
  have hc0 := h0 c0 hc
  rw [e] at hc0
  simp only [r_cv] at hc0
  refine ⟨fun p hp => ?_, ⟨?_, ?_⟩, ?_, ?_⟩
  · rcases h1 p hp with z | z | z
    · exact h0 p z
    · rw [z]; omega
    · rw [z]; omega
  · rcases h2 p1 g1 with z | z
    · rw [z, e] at e1
      simp only [r_cv] at e1
      by_cases c : a.1 ≤ b.1
      · exact ⟨a, ha, by omega⟩
      · exact ⟨b, hb, by omega⟩
    · exact ⟨p1, z, e1⟩
  · rcases h2 p2 g2 with z | z
    · rw [z, e] at e2
      simp only [r_cv] at e2
      by_cases c : a.2.1 ≤ b.2.1
      · exact ⟨a, ha, by omega⟩
      · exact ⟨b, hb, by omega⟩
    · exact ⟨p2, z, e2⟩
  · rcases h2 p3 g3 with z | z
    · rw [z, e] at e3
      simp only [r_cv] at e3
      by_cases c : b.2.2.1 ≤ a.2.2.1
      · exact ⟨a, ha, by omega⟩
      · exact ⟨b, hb, by omega⟩
    · exact ⟨p3, z, e3⟩
  · rcases h2 p4 g4 with z | z
    · rw [z, e] at e4
      simp only [r_cv] at e4
      by_cases c : b.2.2.2 ≤ a.2.2.2
      · exact ⟨a, ha, by omega⟩
      · exact ⟨b, hb, by omega⟩
    · exact ⟨p4, z, e4⟩
/-- both parts together are the whole -/
theorem r_is_both {a b : pR} {P Q : pR → Prop} (ha : r_is a P) (hb : r_is b Q) : r_is (r_cv a b) (fun p => P p ∨ Q p) := by
  obtain ⟨a0, ⟨⟨p1, h1, e1⟩, ⟨p2, h2, e2⟩⟩, ⟨p3, h3, e3⟩, ⟨p4, h4, e4⟩⟩ := ha
  obtain ⟨b0, ⟨⟨q1, k1, f1⟩, ⟨q2, k2, f2⟩⟩, ⟨q3, k3, f3⟩, ⟨q4, k4, f4⟩⟩ := hb
  refine ⟨fun p hp => ?_, ⟨?_, ?_⟩, ?_, ?_⟩
  · rcases hp with hp | hp
    · have := a0 p hp
      simp only [r_cv]; omega
    · have := b0 p hp
      simp only [r_cv]; omega
  · by_cases c : a.1 ≤ b.1
    · exact ⟨p1, Or.inl h1, by simp only [r_cv]; omega⟩
    · exact ⟨q1, Or.inr k1, by simp only [r_cv]; omega⟩
  · by_cases c : a.2.1 ≤ b.2.1
    · exact ⟨p2, Or.inl h2, by simp only [r_cv]; omega⟩
    · exact ⟨q2, Or.inr k2, by simp only [r_cv]; omega⟩
  · by_cases c : b.2.2.1 ≤ a.2.2.1
    · exact ⟨p3, Or.inl h3, by simp only [r_cv]; omega⟩
    · exact ⟨q3, Or.inr k3, by simp only [r_cv]; omega⟩
  · by_cases c : b.2.2.2 ≤ a.2.2.2
    · exact ⟨p4, Or.inl h4, by simp only [r_cv]; omega⟩
    · exact ⟨q4, Or.inr k4, by simp only [r_cv]; omega⟩
/-- a thing as the reference sees it -/
theorem q_thing {w : Nat} {m r : vl_M} {φ : Int → Int} {X : Int → Prop} {a c : Int} (h : q_I w m r φ X a) (hc : c_LT m c) (hca : c ≠ a) (h0 : c_LN m c → 0 < m 9 c) : d_in (m 2 c) (φ c) ∧ d_rt r (m 2 c) (φ c) = c_rt m c ∧ r_ok (c_rt m c) := by
  obtain ⟨⟨hP, hK, hA, hR⟩, ⟨hE, hS⟩, hT, ⟨hsn, hsi, hso, hse⟩, hrr⟩ := h
  rcases hc with hc | hc
  · have e := hc.2
    obtain ⟨b1, b2, b3⟩ := hse c hc
    rw [e]
    exact ⟨⟨⟨by decide, by decide⟩, b1.1, fun _ => by omega, fun z => absurd (by decide) z⟩, b3, (hE c hc).2⟩
  · obtain ⟨⟨b1, b2, b3⟩, -⟩ := hsn c hc
    have l0 := hc.2
    have l1 := (hK c hc).1.1
    obtain ⟨⟨t1, t2⟩, -⟩ := hT c hc hca (h0 hc)
    refine ⟨⟨⟨by omega, by omega⟩, b1.1, fun z => by omega, fun _ => b1.2⟩, ?_, t1⟩
    rw [d_rt_pos _ _ l0]; exact t2
/-- a node that is not too full can be measured; sizes -/
def q_Z (m : vl_M) (b c : Int) : Prop := (∀ s, c_LN m s → (s ≠ m 11 6 → s ≠ c → m 1 1 ≤ m 9 s) ∧ (s ≠ b → m 9 s ≤ m 1 0)) ∧ (0 < m 2 (m 11 6) → 1 ≤ m 9 (m 11 6))
/-- what is needed to measure u -/
theorem q_me {w : Nat} {m r : vl_M} {φ : Int → Int} {X : Int → Prop} {a u : Int} (h : q_I w m r φ X a) (hu : c_LN m u) (hka : ∀ i, 0 ≤ i → i < m 9 u → c_k w m u i ≠ a) (h0 : ∀ s, c_LN m s → s ≠ m 11 6 → 0 < m 9 s) : d_me r (φ u) ∧ ∀ i, 0 ≤ i → i < m 9 u → d_f r (φ u) i = c_rt m (c_k w m u i) ∧ r_ok (c_rt m (c_k w m u i)) := by
  obtain ⟨⟨hP, hK, hA, hR⟩, -, -, ⟨hsn, hsi, -, -⟩, -⟩ := id h
  obtain ⟨⟨b1, b2, b3⟩, b4, -⟩ := hsn u hu
  have hw11 := hP.1.2
  obtain ⟨⟨k1, k2, k3⟩, k4⟩ := hK u hu
  have hu0 := hu.2
  have key : ∀ i, 0 ≤ i → i < m 9 u → d_in (m 2 u - 1) (φ (c_k w m u i)) ∧ d_rt r (m 2 u - 1) (φ (c_k w m u i)) = c_rt m (c_k w m u i) ∧ r_ok (c_rt m (c_k w m u i)) := fun i i1 i2 => by
    obtain ⟨⟨a1, a2⟩, ⟨a3, a4, a5⟩, -⟩ := k4 i i1 i2
    have := q_thing h a1 (hka i i1 i2) (fun z => h0 _ z a5)
    rw [a2] at this
    exact this
  refine ⟨⟨b1, ⟨by omega, by omega⟩, ⟨by omega, by omega⟩, fun i i1 i2 => ?_⟩, fun i i1 i2 => ?_⟩
  · rw [b3] at i2
    obtain ⟨q1, q2, q3⟩ := key i i1 i2
    rw [b2, b4 i i1 i2, q2]
    refine ⟨q1, ?_, q3⟩
    by_cases c : m 2 u - 1 < 0
    · exact Or.inl c
    · right
      intro z
      obtain ⟨⟨a1, a2⟩, -⟩ := k4 i i1 i2
      have := hsi.1 _ u (c_LT_N a1 (by omega)) hu z
      rw [this] at a2
      omega
  · obtain ⟨q1, q2, q3⟩ := key i i1 i2
    unfold d_f
    rw [b2, b4 i i1 i2]
    exact ⟨q2, q3⟩
/-- measuring, as the least around what the class's node holds -/
theorem q_mea {w N : Nat} {m r : vl_M} {φ : Int → Int} {X : Int → Prop} {a u : Int} {q : pR} (hN : 100000 ≤ N) (h : q_I w m r φ X a) (hu : c_LN m u) (hka : ∀ i, 0 ≤ i → i < m 9 u → c_k w m u i ≠ a) (h0 : ∀ s, c_LN m s → s ≠ m 11 6 → 0 < m 9 s) (hpos : 0 < m 9 u) (hq : r_is q (fun p => ∃ i, 0 ≤ i ∧ i < m 9 u ∧ p = c_rt m (c_k w m u i))) : fn_X8_measure N r (φ u) = some (d_set r (φ u) q) := by
  obtain ⟨m1, m2⟩ := q_me h hu hka h0
  obtain ⟨⟨b1, b2, b3⟩, -⟩ := h.2.2.2.1.1 u hu
  rw [d_measure hN m1]
  unfold d_mea
  rw [if_neg (by omega)]
  congr 2
  refine r_is_uni (r_is_congr (fun p => ?_) (r_mb_is (d_f r (φ u)) (r 27 (φ u) - 1).toNat)) hq
  constructor
  · rintro ⟨i, i1, i2, e⟩
    exact ⟨i, i1, by omega, by rw [e, (m2 i i1 (by omega)).1]⟩
  · rintro ⟨i, i1, i2, e⟩
    exact ⟨i, i1, by omega, by rw [e, (m2 i i1 i2).1]⟩
/-- k steps up is the root -/
def c_con (m : vl_M) (X : Int → Prop) : Nat → Int → Prop
  | 0, u => u = m 11 6
  | k + 1, u => u ≠ m 11 6 ∧ ¬ X u ∧ c_con m X k (m 8 u)
/-- measuring upwards where all is measured -/
theorem q_mup {w N : Nat} {m r : vl_M} {φ : Int → Int} {X : Int → Prop} {a : Int} {κ : Int → vl_M → Option vl_M} (hN : 100000 ≤ N) (h : q_I w m r φ X a) (ha : a < 0) (h0 : ∀ s, c_LN m s → s ≠ m 11 6 → 0 < m 9 s) (h0r : 0 < m 9 (m 11 6)) : ∀ (k fu : Nat) (u : Int), c_LN m u → c_con m X k u → k + 1 < fu → fn_X8_measureUp_L2 N κ fu (φ u) r = κ (-2) r := by
  obtain ⟨⟨hP, hK, hA, hR⟩, -, hT, ⟨hsn, hsi, -, -⟩, -⟩ := id h
  intro k
  induction k with
  | zero =>
    intro fu u hu hc hf
    obtain ⟨fu, rfl⟩ : ∃ x, fu = x + 2 := ⟨fu - 2, by omega⟩
    obtain ⟨⟨b1, b2, b3⟩, -, b5, b6⟩ := hsn u hu
    have hc' : u = m 11 6 := hc
    have hpos : 0 < m 9 u := by rw [hc']; exact h0r
    obtain ⟨⟨t1, t2⟩, t3⟩ := hT u hu (by have := hu.1; omega) hpos
    have hka : ∀ i, 0 ≤ i → i < m 9 u → c_k w m u i ≠ a := fun i i1 i2 z => by
      have := c_LT_in hP ((hK u hu).2 i i1 i2).1.1
      omega
    rw [fn_X8_measureUp_L2, pu_gd ⟨by omega, by omega⟩, if_neg (by omega), q_mea hN h hu hka h0 hpos t3, ← t2, d_set_self, Option.bind_some, pu_gd b1, pu_lt, b6 hc', fn_X8_measureUp_L2, pu_gd (by decide), if_pos (by decide)]
  | succ k ih =>
    intro fu u hu hc hf
    obtain ⟨fu, rfl⟩ : ∃ x, fu = x + 1 := ⟨fu - 1, by omega⟩
    obtain ⟨c1, c2, c3⟩ := hc
    obtain ⟨⟨b1, b2, b3⟩, -, b5, b6⟩ := hsn u hu
    have hpos := h0 u hu c1
    obtain ⟨⟨t1, t2⟩, t3⟩ := hT u hu (by have := hu.1; omega) hpos
    have hka : ∀ i, 0 ≤ i → i < m 9 u → c_k w m u i ≠ a := fun i i1 i2 z => by
      have := c_LT_in hP ((hK u hu).2 i i1 i2).1.1
      omega
    rw [fn_X8_measureUp_L2, pu_gd ⟨by omega, by omega⟩, if_neg (by omega), q_mea hN h hu hka h0 hpos t3, ← t2, d_set_self, Option.bind_some, pu_gd b1, pu_lt, b5 c1 c2]
    exact ih fu (m 8 u) (hA u (Or.inr hu) c1 c2).1 c3 (by omega)
