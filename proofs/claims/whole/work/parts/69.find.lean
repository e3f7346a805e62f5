/-! ===== PURE, 30: what callers give; finding an entry ===== -/
theorem a_place {a : Int} (h : vl_r32 a) : fn_X7_isPlace a = some (if 0 ≤ a ∧ a ≤ 32767 then 1 else 0) := by
  unfold fn_X7_isPlace
  rw [pu_gd h]
  by_cases c : a < 0
  · rw [if_pos c, if_neg (by omega)]
  · rw [if_neg c]
    by_cases c2 : 32767 < a
    · rw [if_pos c2, if_neg (by omega)]
    · rw [if_neg c2, if_pos (by omega)]
theorem b_place (a : Int) : fn_X8_isPlace a = fn_X7_isPlace a := rfl
theorem a_id {a : Int} (h : vl_r32 a) : ((0 ≤ a ∧ a ≤ 999) → fn_X7_isId a = some 1) ∧ (¬ (0 ≤ a ∧ a ≤ 999) → fn_X7_isId a = some 0) := by
  unfold fn_X7_isId
  rw [pu_gd h]
  constructor
  · intro c
    rw [if_neg (by omega), if_neg (by omega)]
  · intro c
    by_cases c1 : a < 0
    · rw [if_pos c1]
    · rw [if_neg c1, if_pos (by omega)]
theorem r_ok_mk {a b c d : Int} : r_ok (a, b, c, d) ↔ ((0 ≤ a ∧ a ≤ c ∧ c ≤ 32767) ∧ (0 ≤ b ∧ b ≤ d ∧ d ≤ 32767)) := Iff.rfl
theorem a_rect {a b c d : Int} (ha : vl_r32 a) (hb : vl_r32 b) (hc : vl_r32 c) (hd : vl_r32 d) : (r_ok (a, b, c, d) → fn_X7_isRectangle a b c d = some 1) ∧ (¬ r_ok (a, b, c, d) → fn_X7_isRectangle a b c d = some 0) := by
  rw [r_ok_mk]
  unfold fn_X7_isRectangle
  rw [a_place ha, Option.bind_some]
  by_cases p1 : 0 ≤ a ∧ a ≤ 32767
  · rw [if_pos p1, pu_gd (by decide), if_neg (by decide), a_place hb, Option.bind_some]
    by_cases p2 : 0 ≤ b ∧ b ≤ 32767
    · rw [if_pos p2, pu_gd (by decide), if_neg (by decide), a_place hc, Option.bind_some]
      by_cases p3 : 0 ≤ c ∧ c ≤ 32767
      · rw [if_pos p3, pu_gd (by decide), if_neg (by decide), a_place hd, Option.bind_some]
        by_cases p4 : 0 ≤ d ∧ d ≤ 32767
        · rw [if_pos p4, pu_gd (by decide), if_neg (by decide), pu_gd ha, pu_gd hc]
          by_cases p5 : c < a
          · rw [if_pos p5]; exact ⟨fun z => by omega, fun _ => rfl⟩
          · rw [if_neg p5, pu_gd hb, pu_gd hd]
            by_cases p6 : d < b
            · rw [if_pos p6]; exact ⟨fun z => by omega, fun _ => rfl⟩
            · rw [if_neg p6]; exact ⟨fun _ => rfl, fun z => absurd (by omega) z⟩
        · rw [if_neg p4, pu_gd (by decide), if_pos rfl]; exact ⟨fun z => absurd (by omega) p4, fun _ => rfl⟩
      · rw [if_neg p3, pu_gd (by decide), if_pos rfl]; exact ⟨fun z => absurd (by omega) p3, fun _ => rfl⟩
    · rw [if_neg p2, pu_gd (by decide), if_pos rfl]; exact ⟨fun z => absurd (by omega) p2, fun _ => rfl⟩
  · rw [if_neg p1, pu_gd (by decide), if_pos rfl]; exact ⟨fun z => absurd (by omega) p1, fun _ => rfl⟩
theorem b_rect (a b c d : Int) : fn_X8_isRect a b c d = fn_X7_isRectangle a b c d := rfl
theorem b_entry {n a b c d : Int} (hn : vl_r32 n) (ha : vl_r32 a) (hb : vl_r32 b) (hc : vl_r32 c) (hd : vl_r32 d) : (((0 ≤ n ∧ n ≤ 999) ∧ r_ok (a, b, c, d)) → fn_X8_isEntry n a b c d = some 1) ∧ (¬ ((0 ≤ n ∧ n ≤ 999) ∧ r_ok (a, b, c, d)) → fn_X8_isEntry n a b c d = some 0) := by
  unfold fn_X8_isEntry
  rw [pu_gd hn, b_rect]
  obtain ⟨r1, r2⟩ := a_rect ha hb hc hd
  by_cases c1 : n < 0
  · rw [if_pos c1]; exact ⟨fun z => by omega, fun _ => rfl⟩
  · rw [if_neg c1]
    by_cases c2 : n < 1000
    · rw [if_pos c2]
      by_cases c3 : r_ok (a, b, c, d)
      · rw [r1 c3, Option.bind_some, pu_gd (by decide), if_neg (by decide)]
        exact ⟨fun _ => rfl, fun z => absurd ⟨⟨by omega, by omega⟩, c3⟩ z⟩
      · rw [r2 c3, Option.bind_some, pu_gd (by decide), if_pos rfl]
        exact ⟨fun z => absurd z.2 c3, fun _ => rfl⟩
    · rw [if_neg c2]; exact ⟨fun z => by omega, fun _ => rfl⟩
theorem c_desc {m : vl_M} {s n a b c d : Int} (hs : c_in s) : fn_X4_describe m s n a b c d = some (c_set (vl_up m 7 s n) s (a, b, c, d)) := by
  unfold fn_X4_describe
  rw [pu_gd hs]
  rfl
theorem c_rt_eq {m : vl_M} {a b : Int} : c_rt m a = c_rt m b ↔ (m 3 a = m 3 b ∧ m 4 a = m 4 b ∧ m 5 a = m 5 b ∧ m 6 a = m 6 b) := by
  unfold c_rt
  simp only [Prod.mk.injEq]
theorem c_same {m : vl_M} {a b : Int} (ha : c_in a) (hb : c_in b) (oa : r_ok (c_rt m a)) (ob : r_ok (c_rt m b)) : (c_rt m a = c_rt m b → fn_X4_sameRectangle m a b = some 1) ∧ (c_rt m a ≠ c_rt m b → fn_X4_sameRectangle m a b = some 0) := by
  obtain ⟨a1, a2, a3, a4⟩ : vl_r32 (m 3 a) ∧ vl_r32 (m 4 a) ∧ vl_r32 (m 5 a) ∧ vl_r32 (m 6 a) := r_ok32 oa
  obtain ⟨b1, b2, b3, b4⟩ : vl_r32 (m 3 b) ∧ vl_r32 (m 4 b) ∧ vl_r32 (m 5 b) ∧ vl_r32 (m 6 b) := r_ok32 ob
  unfold fn_X4_sameRectangle
  rw [pu_gd ha, pu_gd hb, pu_gd a1, pu_gd b1, ne_eq, c_rt_eq]
  by_cases c1 : m 3 a = m 3 b
  · rw [if_pos c1, pu_gd a2, pu_gd b2]
    by_cases c2 : m 4 a = m 4 b
    · rw [if_pos c2, pu_gd a3, pu_gd b3]
      by_cases c3 : m 5 a = m 5 b
      · rw [if_pos c3, pu_gd a4, pu_gd b4]
        by_cases c4 : m 6 a = m 6 b
        · rw [if_pos c4]; exact ⟨fun _ => rfl, fun z => absurd ⟨c1, c2, c3, c4⟩ z⟩
        · rw [if_neg c4]; exact ⟨fun z => absurd z.2.2.2 c4, fun _ => rfl⟩
      · rw [if_neg c3]; exact ⟨fun z => absurd z.2.2.1 c3, fun _ => rfl⟩
    · rw [if_neg c2]; exact ⟨fun z => absurd z.2.1 c2, fun _ => rfl⟩
  · rw [if_neg c1]; exact ⟨fun z => absurd z.1 c1, fun _ => rfl⟩
theorem c_alike {m : vl_M} {a b : Int} (ha : c_in a) (hb : c_in b) (na : vl_r32 (m 7 a)) (nb : vl_r32 (m 7 b)) (oa : r_ok (c_rt m a)) (ob : r_ok (c_rt m b)) : (m 7 a = m 7 b ∧ c_rt m a = c_rt m b → fn_X4_alike m a b = some 1) ∧ (¬ (m 7 a = m 7 b ∧ c_rt m a = c_rt m b) → fn_X4_alike m a b = some 0) := by
  obtain ⟨s1, s2⟩ := c_same ha hb oa ob
  unfold fn_X4_alike
  rw [pu_gd ha, pu_gd hb, pu_gd na, pu_gd nb]
  by_cases c : m 7 a = m 7 b
  · rw [if_pos c]
    by_cases c2 : c_rt m a = c_rt m b
    · rw [s1 c2, Option.bind_some, pu_gd (by decide), if_neg (by decide)]; exact ⟨fun _ => rfl, fun z => absurd ⟨c, c2⟩ z⟩
    · rw [s2 c2, Option.bind_some, pu_gd (by decide), if_pos rfl]; exact ⟨fun z => absurd z.2 c2, fun _ => rfl⟩
  · rw [if_neg c]; exact ⟨fun z => absurd z.1 c, fun _ => rfl⟩
theorem c_isE {m : vl_M} {e : Int} (he : c_in e) (h : vl_r32 (m 2 e)) : fn_X4_isEntry m e = some (if m 2 e = -1 then 1 else 0) := by
  unfold fn_X4_isEntry
  rw [pu_gd he, pu_gd h]
  by_cases c : m 2 e = -1
  · rw [if_pos c, if_pos c]
  · rw [if_neg c, if_neg c]
/-- levels of entry slots are ints -/
def q_V (m : vl_M) : Prop := ∀ e, 0 ≤ e → e < 400 → vl_r32 (m 2 e)
/-- no entry twice -/
def q_D (m : vl_M) : Prop := ∀ e e', c_LE m e → c_LE m e' → m 7 e = m 7 e' → c_rt m e = c_rt m e' → e = e'
/-- the count of entries -/
def q_N (m : vl_M) : Prop := m 1 12 = ((pu_cnt (fun e => decide (m 2 e = -1 ∧ e < m 1 13)) 400 : Nat) : Int)
theorem c_elL {N : Nat} {m : vl_M} {k : Int} {κ : Int → Option Int} (hk : c_in k) (nk : vl_r32 (m 7 k)) (ok : r_ok (c_rt m k)) (ht : 0 ≤ m 1 13 ∧ m 1 13 ≤ 400) (hV : q_V m) (hE : s_E m) : ∀ (fu : Nat) (v : Int), 0 ≤ v → v ≤ m 1 13 → m 1 13 - v < (fu : Int) →
    ((∀ e, v ≤ e → c_LE m e → ¬ (m 7 e = m 7 k ∧ c_rt m e = c_rt m k)) → fn_X4_entryLike_L2 N m k κ fu v = κ (m 1 13)) ∧ (∀ p, v ≤ p → c_LE m p → (m 7 p = m 7 k ∧ c_rt m p = c_rt m k) → (∀ e, v ≤ e → e < p → c_LE m e → ¬ (m 7 e = m 7 k ∧ c_rt m e = c_rt m k)) → fn_X4_entryLike_L2 N m k κ fu v = some p) := by
  intro fu
  induction fu with
  | zero => intro v h1 h2 h3; omega
  | succ fu ih =>
    intro v h1 h2 h3
    rw [fn_X4_entryLike_L2, pu_gd ⟨by omega, by omega⟩, pu_gd ⟨by omega, by omega⟩]
    by_cases c : v < m 1 13
    · rw [if_pos c, c_isE ⟨by omega, by omega⟩ (hV v h1 (by omega)), Option.bind_some]
      obtain ⟨i1, i2⟩ := ih (v + 1) (by omega) (by omega) (by omega)
      by_cases cE : m 2 v = -1
      · have hv : c_LE m v := ⟨⟨h1, c⟩, cE⟩
        obtain ⟨q1, q2⟩ := hE v hv
        obtain ⟨l1, l2⟩ := c_alike (m := m) (a := v) (b := k) ⟨by omega, by omega⟩ hk ⟨by omega, by omega⟩ nk q2 ok
        rw [if_pos cE, pu_gd (by decide), if_neg (by decide)]
        by_cases cl : m 7 v = m 7 k ∧ c_rt m v = c_rt m k
        · rw [l1 cl, Option.bind_some, pu_gd (by decide), if_neg (by decide)]
          refine ⟨fun z => absurd cl (z v (Int.le_refl _) hv), fun p p1 p2 p3 p4 => ?_⟩
          by_cases e : v = p
          · rw [e]
          · exact absurd cl (p4 v (Int.le_refl _) (by omega) hv)
        · rw [l2 cl, Option.bind_some, pu_gd (by decide), if_pos rfl, pu_lt]
          refine ⟨fun z => i1 (fun e e1 e2 => z e (by omega) e2), fun p p1 p2 p3 p4 => ?_⟩
          have : v ≠ p := fun z => cl (by rw [z]; exact p3)
          exact i2 p (by omega) p2 p3 (fun e e1 e2 e3 => p4 e (by omega) e2 e3)
      · rw [if_neg cE, pu_gd (by decide), if_pos rfl, pu_lt]
        refine ⟨fun z => i1 (fun e e1 e2 => z e (by omega) e2), fun p p1 p2 p3 p4 => ?_⟩
        have : v ≠ p := fun z => cE (by rw [z]; exact p2.2)
        exact i2 p (by omega) p2 p3 (fun e e1 e2 e3 => p4 e (by omega) e2 e3)
    · rw [if_neg c]
      refine ⟨fun _ => by rw [show v = m 1 13 by omega], fun p p1 p2 _ _ => ?_⟩
      have := p2.1
      omega
/-- an entry of the reference is as asked -/
def d_lk (r : vl_M) (n : Int) (q : pR) (i : Int) : Prop := r 24 i = n ∧ d_rt r (-1) i = q
theorem d_fiL {N : Nat} {r : vl_M} {n : Int} {q : pR} {κ : Int → Option Int} (hn : vl_r32 n) (hq : r_ok q) (h24 : ∀ i, 0 ≤ i → i < 400 → vl_r32 (r 24 i) ∧ (r 24 i = n → r_ok (d_rt r (-1) i))) : ∀ (fu : Nat) (v : Int), 0 ≤ v → v ≤ 400 → 400 - v < (fu : Int) →
    ((∀ i, v ≤ i → i < 400 → ¬ d_lk r n q i) → fn_X8_find_L3 N r n q.1 q.2.1 q.2.2.1 q.2.2.2 κ fu v = κ 400) ∧ (∀ p, v ≤ p → p < 400 → d_lk r n q p → (∀ i, v ≤ i → i < p → ¬ d_lk r n q i) → fn_X8_find_L3 N r n q.1 q.2.1 q.2.2.1 q.2.2.2 κ fu v = some p) := by
  obtain ⟨q1, q2, q3, q4⟩ := r_ok32 hq
  intro fu
  induction fu with
  | zero => intro v h1 h2 h3; omega
  | succ fu ih =>
    intro v h1 h2 h3
    rw [fn_X8_find_L3, pu_gd ⟨by omega, by omega⟩]
    by_cases c : v < 400
    · obtain ⟨i1, i2⟩ := ih (v + 1) (by omega) (by omega) (by omega)
      obtain ⟨w1, w2⟩ := h24 v h1 c
      have nx : ¬ d_lk r n q v → ((∀ i, v ≤ i → i < 400 → ¬ d_lk r n q i) → fn_X8_find_L3 N r n q.1 q.2.1 q.2.2.1 q.2.2.2 κ fu (v + 1) = κ 400) ∧ (∀ p, v ≤ p → p < 400 → d_lk r n q p → (∀ i, v ≤ i → i < p → ¬ d_lk r n q i) → fn_X8_find_L3 N r n q.1 q.2.1 q.2.2.1 q.2.2.2 κ fu (v + 1) = some p) := fun cl => by
        refine ⟨fun z => i1 (fun e e1 e2 => z e (by omega) e2), fun p p1 p2 p3 p4 => ?_⟩
        have : v ≠ p := fun z => cl (by rw [z]; exact p3)
        exact i2 p (by omega) p2 p3 (fun e e1 e2 => p4 e (by omega) e2)
      have ert : d_rt r (-1) v = (r 25 (4 * v), r 25 (4 * v + 1), r 25 (4 * v + 2), r 25 (4 * v + 3)) := by unfold d_rt; rw [if_pos (by decide)]
      rw [if_pos c, pu_gd ⟨by omega, by omega⟩, pu_gd w1, pu_gd hn]
      by_cases c0 : r 24 v = n
      · obtain ⟨u1, u2, u3, u4⟩ := r_ok32 (w2 c0)
        rw [ert] at u1 u2 u3 u4
        dsimp only at u1 u2 u3 u4
        rw [if_pos c0, pu_gd ⟨by omega, by omega⟩, pu_gd u1, pu_gd q1]
        by_cases c1 : r 25 (4 * v) = q.1
        · rw [if_pos c1, pu_gd ⟨by omega, by omega⟩, pu_gd u2, pu_gd q2]
          by_cases c2 : r 25 (4 * v + 1) = q.2.1
          · rw [if_pos c2, pu_gd ⟨by omega, by omega⟩, pu_gd u3, pu_gd q3]
            by_cases c3 : r 25 (4 * v + 2) = q.2.2.1
            · rw [if_pos c3, pu_gd ⟨by omega, by omega⟩, pu_gd u4, pu_gd q4]
              by_cases c4 : r 25 (4 * v + 3) = q.2.2.2
              · rw [if_pos c4]
                have hl : d_lk r n q v := ⟨c0, by rw [ert, c1, c2, c3, c4]⟩
                refine ⟨fun z => absurd hl (z v (Int.le_refl _) c), fun p p1 p2 p3 p4 => ?_⟩
                by_cases e : v = p
                · rw [e]
                · exact absurd hl (p4 v (Int.le_refl _) (by omega))
              · rw [if_neg c4, pu_lt]
                exact nx (fun z => c4 (by rw [← z.2, ert]))
            · rw [if_neg c3, pu_lt]
              exact nx (fun z => c3 (by rw [← z.2, ert]))
          · rw [if_neg c2, pu_lt]
            exact nx (fun z => c2 (by rw [← z.2, ert]))
        · rw [if_neg c1, pu_lt]
          exact nx (fun z => c1 (by rw [← z.2, ert]))
      · rw [if_neg c0, pu_lt]
        exact nx (fun z => c0 z.1)
    · rw [if_neg c]
      exact ⟨fun _ => by rw [show v = 400 by omega], fun p p1 p2 _ _ => by omega⟩
/-- both find the same -/
theorem q_find {w N : Nat} {m r : vl_M} {φ : Int → Int} {X : Int → Prop} {a k : Int} (hN : 100000 ≤ N) (h : q_I w m r φ X a) (hD : q_D m) (hV : q_V m) (hk : c_in k) (hn : 0 ≤ m 7 k ∧ m 7 k ≤ 999) (hq : r_ok (c_rt m k)) :
    (∃ p, c_LE m p ∧ (m 7 p = m 7 k ∧ c_rt m p = c_rt m k) ∧ fn_X4_entryLike N m k = some p ∧ fn_X8_find N r (m 7 k) (c_rt m k).1 (c_rt m k).2.1 (c_rt m k).2.2.1 (c_rt m k).2.2.2 = some (φ p)) ∨ ((∀ e, c_LE m e → ¬ (m 7 e = m 7 k ∧ c_rt m e = c_rt m k)) ∧ fn_X4_entryLike N m k = some (-1) ∧ fn_X8_find N r (m 7 k) (c_rt m k).1 (c_rt m k).2.1 (c_rt m k).2.2.1 (c_rt m k).2.2.2 = some (-2)) := by
  obtain ⟨⟨hP, hK, hA, hR⟩, ⟨hE, hS⟩, hT, ⟨hsn, hsi, hso, hse⟩, hrr⟩ := h
  have hel := c_elL (N := N) (m := m) (k := k) (κ := fun (v2 : Int) => some (-1)) hk ⟨by omega, by omega⟩ hq hP.2.2.2.2 hV hE N 0 (by omega) hP.2.2.2.2.1 (by have := hP.2.2.2.2; omega)
  have hfi := d_fiL (N := N) (r := r) (n := m 7 k) (q := c_rt m k) (κ := fun (v2 : Int) => some (-2)) ⟨by omega, by omega⟩ hq (fun i i1 i2 => by
    rcases hso.2 i i1 (by omega) with ⟨z, e, he, q⟩ | z
    · obtain ⟨b1, b2, b3⟩ := hse e he
      obtain ⟨c1, c2⟩ := hE e he
      rw [← q, b2]
      exact ⟨⟨by omega, by omega⟩, fun _ => by rw [b3]; exact c2⟩
    · rw [z]; exact ⟨by decide, fun y => by omega⟩) N 0 (by omega) (by omega) (by omega)
  have lk : ∀ i, 0 ≤ i → i < 400 → d_lk r (m 7 k) (c_rt m k) i → ∃ e, c_LE m e ∧ φ e = i ∧ (m 7 e = m 7 k ∧ c_rt m e = c_rt m k) := fun i i1 i2 hl => by
    rcases hso.2 i i1 (by omega) with ⟨z, e, he, q⟩ | z
    · obtain ⟨b1, b2, b3⟩ := hse e he
      rw [q] at b2 b3
      exact ⟨e, he, q, by rw [← b2]; exact hl.1, by rw [← b3]; exact hl.2⟩
    · have := hl.1
      omega
  by_cases c : ∃ p, c_LE m p ∧ (m 7 p = m 7 k ∧ c_rt m p = c_rt m k)
  · obtain ⟨p, p1, p2⟩ := c
    left
    have hp := c_LE_lt hP p1
    obtain ⟨b1, b2, b3⟩ := hse p p1
    refine ⟨p, p1, p2, hel.2 p hp.1 p1 p2 (fun e e1 e2 e3 e4 => ?_), hfi.2 (φ p) b1.1 b1.2 ⟨by rw [b2]; exact p2.1, by rw [b3]; exact p2.2⟩ (fun i i1 i2 hl => ?_)⟩
    · have := hD e p e3 p1 (by rw [e4.1, p2.1]) (by rw [e4.2, p2.2])
      omega
    · obtain ⟨e, he, q, e4⟩ := lk i i1 (by omega) hl
      have := hD e p he p1 (by rw [e4.1, p2.1]) (by rw [e4.2, p2.2])
      rw [this] at q
      omega
  · right
    refine ⟨fun e he z => c ⟨e, he, z⟩, hel.1 (fun e _ he z => c ⟨e, he, z⟩), hfi.1 (fun i i1 i2 hl => ?_)⟩
    obtain ⟨e, he, q, e4⟩ := lk i i1 i2 hl
    exact c ⟨e, he, e4⟩
