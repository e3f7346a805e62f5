/-! ===== PURE, 3: the reference's memory, seen ===== -/
/-- the rectangle of a thing of that level: an entry's, a node's -/
def d_rt (r : vl_M) (l t : Int) : pR := if l < 0 then (r 25 (4 * t), r 25 (4 * t + 1), r 25 (4 * t + 2), r 25 (4 * t + 3)) else (r 29 (4 * t), r 29 (4 * t + 1), r 29 (4 * t + 2), r 29 (4 * t + 3))
abbrev d_in (l t : Int) : Prop := vl_r32 l ∧ 0 ≤ t ∧ (l < 0 → t < 401) ∧ (¬ l < 0 → t < 500)
def d_c (q : pR) (k : Int) : Int := if k = 0 then q.1 else if k = 1 then q.2.1 else if k = 2 then q.2.2.1 else q.2.2.2
theorem d_side {r : vl_M} {l t k : Int} (h : d_in l t) (hk : 0 ≤ k ∧ k < 4) : fn_X8_side r l t k = some (d_c (d_rt r l t) k) := by
  obtain ⟨h1, h2, h3, h4⟩ := h
  unfold fn_X8_side d_rt d_c
  rw [pu_gd h1]
  by_cases hl : l < 0
  · have := h3 hl
    rw [if_pos hl, if_pos hl, pu_gd ⟨by omega, by omega⟩]
    rcases (by omega : k = 0 ∨ k = 1 ∨ k = 2 ∨ k = 3) with rfl | rfl | rfl | rfl <;> simp
  · have := h4 hl
    rw [if_neg hl, if_neg hl, pu_gd ⟨by omega, by omega⟩]
    rcases (by omega : k = 0 ∨ k = 1 ∨ k = 2 ∨ k = 3) with rfl | rfl | rfl | rfl <;> simp
theorem d_side0 {r : vl_M} {l t : Int} (h : d_in l t) : fn_X8_side r l t 0 = some (d_rt r l t).1 := by rw [d_side h (by omega)]; rfl
theorem d_side1 {r : vl_M} {l t : Int} (h : d_in l t) : fn_X8_side r l t 1 = some (d_rt r l t).2.1 := by rw [d_side h (by omega)]; rfl
theorem d_side2 {r : vl_M} {l t : Int} (h : d_in l t) : fn_X8_side r l t 2 = some (d_rt r l t).2.2.1 := by rw [d_side h (by omega)]; rfl
theorem d_side3 {r : vl_M} {l t : Int} (h : d_in l t) : fn_X8_side r l t 3 = some (d_rt r l t).2.2.2 := by rw [d_side h (by omega)]; rfl
theorem d_lesser {a b : Int} (ha : vl_r32 a) (hb : vl_r32 b) : fn_X8_lesser a b = some (min a b) := by
  unfold fn_X8_lesser
  rw [pu_gd ha, pu_gd hb]
  split <;> congr 1 <;> omega
theorem d_greater {a b : Int} (ha : vl_r32 a) (hb : vl_r32 b) : fn_X8_greater a b = some (max a b) := by
  unfold fn_X8_greater
  rw [pu_gd ha, pu_gd hb]
  split <;> congr 1 <;> omega
theorem d_area {q : pR} (h : r_ok q) : fn_X8_area q.1 q.2.1 q.2.2.1 q.2.2.2 = some (r_ar q) := by
  obtain ⟨⟨a1, a2, a3⟩, a4, a5, a6⟩ := h
  unfold fn_X8_area
  rw [pu_gd ⟨by omega, by omega⟩, pu_gd ⟨by omega, by omega⟩]
  rfl
theorem d_areaOf {r : vl_M} {l t : Int} (h : d_in l t) (ho : r_ok (d_rt r l t)) : fn_X8_areaOf r l t = some (r_ar (d_rt r l t)) := by
  unfold fn_X8_areaOf
  rw [d_side0 h, d_side1 h, d_side2 h, d_side3 h]
  simp only [Option.bind_some]
  rw [d_area ho]
  rfl
theorem d_areaBoth {r : vl_M} {l t l2 t2 : Int} (h : d_in l t) (h2 : d_in l2 t2) (ho : r_ok (d_rt r l t)) (ho2 : r_ok (d_rt r l2 t2)) : fn_X8_areaBoth r l t l2 t2 = some (r_ar (r_cv (d_rt r l t) (d_rt r l2 t2))) := by
  have ea := r_ok32 ho
  have eb := r_ok32 ho2
  unfold fn_X8_areaBoth
  rw [d_side0 h, d_side1 h, d_side2 h, d_side3 h, d_side0 h2, d_side1 h2, d_side2 h2, d_side3 h2]
  simp only [Option.bind_some]
  rw [d_lesser ea.1 eb.1, d_lesser ea.2.1 eb.2.1, d_greater ea.2.2.1 eb.2.2.1, d_greater ea.2.2.2 eb.2.2.2]
  simp only [Option.bind_some]
  have := d_area (r_cv_ok ho ho2)
  simp only [r_cv] at this ⊢
  rw [this]
  rfl
theorem d_meet {r : vl_M} {l t l2 t2 : Int} (h : d_in l t) (h2 : d_in l2 t2) (ho : r_ok (d_rt r l t)) (ho2 : r_ok (d_rt r l2 t2)) : (r_mt (d_rt r l t) (d_rt r l2 t2) → fn_X8_meet r l t l2 t2 = some 1) ∧ (¬ r_mt (d_rt r l t) (d_rt r l2 t2) → fn_X8_meet r l t l2 t2 = some 0) := by
  have ea := r_ok32 ho
  have eb := r_ok32 ho2
  unfold fn_X8_meet
  rw [d_side0 h, d_side1 h, d_side2 h, d_side3 h, d_side0 h2, d_side1 h2, d_side2 h2, d_side3 h2]
  simp only [Option.bind_some]
  rw [pu_gd ea.1, pu_gd eb.2.2.1, pu_gd eb.1, pu_gd ea.2.2.1, pu_gd ea.2.1, pu_gd eb.2.2.2, pu_gd eb.2.1, pu_gd ea.2.2.2]
  generalize d_rt r l t = a
  generalize d_rt r l2 t2 = b
  simp only [r_mt]
  constructor
  · intro h
    rw [if_neg (by omega), if_neg (by omega), if_neg (by omega), if_neg (by omega)]
  · intro h
    by_cases h1 : b.2.2.1 < a.1
    · rw [if_pos h1]
    rw [if_neg h1]
    by_cases h2 : a.2.2.1 < b.1
    · rw [if_pos h2]
    rw [if_neg h2]
    by_cases h3 : b.2.2.2 < a.2.1
    · rw [if_pos h3]
    rw [if_neg h3]
    by_cases h4 : a.2.2.2 < b.2.1
    · rw [if_pos h4]
    exact absurd ⟨⟨by omega, by omega⟩, by omega, by omega⟩ h
theorem d_meets {r : vl_M} {l t : Int} {q : pR} (h : d_in l t) (ho : r_ok (d_rt r l t)) (hq : r_ok q) : (r_mt (d_rt r l t) q → fn_X8_meets r l t q.1 q.2.1 q.2.2.1 q.2.2.2 = some 1) ∧ (¬ r_mt (d_rt r l t) q → fn_X8_meets r l t q.1 q.2.1 q.2.2.1 q.2.2.2 = some 0) := by
  have ea := r_ok32 ho
  have eb := r_ok32 hq
  unfold fn_X8_meets
  rw [d_side0 h, d_side1 h, d_side2 h, d_side3 h]
  simp only [Option.bind_some]
  rw [pu_gd ea.1, pu_gd eb.2.2.1, pu_gd eb.1, pu_gd ea.2.2.1, pu_gd ea.2.1, pu_gd eb.2.2.2, pu_gd eb.2.1, pu_gd ea.2.2.2]
  generalize d_rt r l t = a
  simp only [r_mt]
  constructor
  · intro h
    rw [if_neg (by omega), if_neg (by omega), if_neg (by omega), if_neg (by omega)]
  · intro h
    by_cases h1 : q.2.2.1 < a.1
    · rw [if_pos h1]
    rw [if_neg h1]
    by_cases h2 : a.2.2.1 < q.1
    · rw [if_pos h2]
    rw [if_neg h2]
    by_cases h3 : q.2.2.2 < a.2.1
    · rw [if_pos h3]
    rw [if_neg h3]
    by_cases h4 : a.2.2.2 < q.2.1
    · rw [if_pos h4]
    exact absurd ⟨⟨by omega, by omega⟩, by omega, by omega⟩ h
abbrev d_nd (n : Int) : Prop := 0 ≤ n ∧ n < 500
def d_k (r : vl_M) (n i : Int) : Int := r 28 (11 * n + i)
theorem d_held {r : vl_M} {n i : Int} (hn : d_nd n) (hi : 0 ≤ i ∧ i < 11) : fn_X8_heldBy r n i = some (d_k r n i) := by
  unfold fn_X8_heldBy
  rw [pu_gd ⟨by omega, by omega⟩]
  rfl
/-- t comes behind all that n holds -/
def d_app (r : vl_M) (n t : Int) : vl_M := let r1 := vl_up (vl_up r 28 (11 * n + r 27 n) t) 27 n (r 27 n + 1); if 0 < r 26 n then vl_up r1 30 t n else r1
theorem d_hold {r : vl_M} {n t : Int} (hn : d_nd n) (hc : 0 ≤ r 27 n ∧ r 27 n < 11) (hl : vl_r32 (r 26 n)) (ht : 0 < r 26 n → 0 ≤ t ∧ t < 500) : fn_X8_hold r n t = some (d_app r n t) := by
  unfold fn_X8_hold d_app
  simp only [pu_lt]
  rw [pu_gd hn, pu_gd ⟨by omega, by omega⟩]
  simp only [up_h _ _ _ (show (27 : Nat) ≠ 28 by decide), up_h _ _ _ (show (26 : Nat) ≠ 27 by decide), up_h _ _ _ (show (26 : Nat) ≠ 28 by decide)]
  rw [pu_gd hl]
  by_cases h : 0 < r 26 n
  · rw [if_pos h, if_pos h, pu_gd (ht h)]
  · rw [if_neg h, if_neg h]
theorem d_app_h (r : vl_M) (n t : Int) {h : Nat} (h1 : h ≠ 28) (h2 : h ≠ 27) (h3 : h ≠ 30) : d_app r n t h = r h := by
  unfold d_app
  split
  · rw [up_h _ _ _ h3, up_h _ _ _ h2, up_h _ _ _ h1]
  · rw [up_h _ _ _ h2, up_h _ _ _ h1]
theorem d_app_27 (r : vl_M) (n t u : Int) : d_app r n t 27 u = if u = n then r 27 n + 1 else r 27 u := by
  unfold d_app
  split
  · rw [up_h _ _ _ (show (27 : Nat) ≠ 30 by decide)]
    by_cases h : u = n
    · subst h; rw [up_s, if_pos rfl]
    · rw [up_i _ _ h, up_h _ _ _ (show (27 : Nat) ≠ 28 by decide), if_neg h]
  · by_cases h : u = n
    · subst h; rw [up_s, if_pos rfl]
    · rw [up_i _ _ h, up_h _ _ _ (show (27 : Nat) ≠ 28 by decide), if_neg h]
theorem d_app_30 (r : vl_M) (n t u : Int) : d_app r n t 30 u = if 0 < r 26 n ∧ u = t then n else r 30 u := by
  unfold d_app
  by_cases hl : 0 < r 26 n
  · rw [if_pos hl]
    by_cases h : u = t
    · subst h; rw [up_s, if_pos ⟨hl, rfl⟩]
    · rw [up_i _ _ h, up_h _ _ _ (show (30 : Nat) ≠ 27 by decide), up_h _ _ _ (show (30 : Nat) ≠ 28 by decide), if_neg (fun z => h z.2)]
  · rw [if_neg hl, up_h _ _ _ (show (30 : Nat) ≠ 27 by decide), up_h _ _ _ (show (30 : Nat) ≠ 28 by decide), if_neg (fun z => hl z.1)]
theorem d_app_k {r : vl_M} {n t u i : Int} (hc : 0 ≤ r 27 n ∧ r 27 n < 11) (hi : 0 ≤ i ∧ i < 11) : d_k (d_app r n t) u i = if u = n ∧ i = r 27 n then t else d_k r u i := by
  have key : ∀ r1 : vl_M, r1 28 = vl_up r 28 (11 * n + r 27 n) t 28 → d_k r1 u i = if u = n ∧ i = r 27 n then t else d_k r u i := by
    intro r1 e
    unfold d_k
    rw [e]
    by_cases h : u = n ∧ i = r 27 n
    · obtain ⟨rfl, rfl⟩ := h
      rw [up_s, if_pos ⟨rfl, rfl⟩]
    · rw [up_i _ _ (by omega), if_neg h]
  unfold d_app
  split
  · exact key _ (by rw [up_h _ _ _ (show (28 : Nat) ≠ 30 by decide), up_h _ _ _ (show (28 : Nat) ≠ 27 by decide)])
  · exact key _ (by rw [up_h _ _ _ (show (28 : Nat) ≠ 27 by decide)])
/-- a rectangle that is the least around some: its sides are theirs -/
def r_is (q : pR) (P : pR → Prop) : Prop := (∀ p, P p → (q.1 ≤ p.1 ∧ q.2.1 ≤ p.2.1) ∧ (p.2.2.1 ≤ q.2.2.1 ∧ p.2.2.2 ≤ q.2.2.2)) ∧ ((∃ p, P p ∧ p.1 = q.1) ∧ (∃ p, P p ∧ p.2.1 = q.2.1)) ∧ ((∃ p, P p ∧ p.2.2.1 = q.2.2.1) ∧ (∃ p, P p ∧ p.2.2.2 = q.2.2.2))
theorem r_is_uni {a b : pR} {P : pR → Prop} (ha : r_is a P) (hb : r_is b P) : a = b := by
  obtain ⟨a0, ⟨⟨p1, h1, e1⟩, ⟨p2, h2, e2⟩⟩, ⟨p3, h3, e3⟩, ⟨p4, h4, e4⟩⟩ := ha
  obtain ⟨b0, ⟨⟨q1, k1, f1⟩, ⟨q2, k2, f2⟩⟩, ⟨q3, k3, f3⟩, ⟨q4, k4, f4⟩⟩ := hb
  have x1 := a0 q1 k1; have x2 := a0 q2 k2; have x3 := a0 q3 k3; have x4 := a0 q4 k4
  have y1 := b0 p1 h1; have y2 := b0 p2 h2; have y3 := b0 p3 h3; have y4 := b0 p4 h4
  obtain ⟨a1, a2, a3, a4⟩ := a
  obtain ⟨b1, b2, b3, b4⟩ := b
  simp only [Prod.mk.injEq] at *
  omega
theorem r_is_congr {q : pR} {P Q : pR → Prop} (h : ∀ p, P p ↔ Q p) (hq : r_is q P) : r_is q Q := by
  have e : P = Q := funext (fun p => propext (h p))
  rw [← e]; exact hq
theorem r_is_one (q : pR) : r_is q (fun p => p = q) := ⟨fun p h => by subst h; exact ⟨⟨Int.le_refl _, Int.le_refl _⟩, Int.le_refl _, Int.le_refl _⟩, ⟨⟨q, rfl, rfl⟩, ⟨q, rfl, rfl⟩⟩, ⟨q, rfl, rfl⟩, ⟨q, rfl, rfl⟩⟩
/-- one more -/
theorem r_is_add {q b : pR} {P : pR → Prop} (h : r_is q P) : r_is (r_cv q b) (fun p => P p ∨ p = b) := by
  obtain ⟨h0, ⟨⟨p1, h1, e1⟩, ⟨p2, h2, e2⟩⟩, ⟨p3, h3, e3⟩, ⟨p4, h4, e4⟩⟩ := h
  refine ⟨fun p hp => ?_, ⟨?_, ?_⟩, ?_, ?_⟩
  · rcases hp with hp | rfl
    · have := h0 p hp
      simp only [r_cv]
      omega
    · simp only [r_cv]
      omega
  · by_cases c : q.1 ≤ b.1
    · exact ⟨p1, Or.inl h1, by simp only [r_cv]; omega⟩
    · exact ⟨b, Or.inr rfl, by simp only [r_cv]; omega⟩
  · by_cases c : q.2.1 ≤ b.2.1
    · exact ⟨p2, Or.inl h2, by simp only [r_cv]; omega⟩
    · exact ⟨b, Or.inr rfl, by simp only [r_cv]; omega⟩
  · by_cases c : b.2.2.1 ≤ q.2.2.1
    · exact ⟨p3, Or.inl h3, by simp only [r_cv]; omega⟩
    · exact ⟨b, Or.inr rfl, by simp only [r_cv]; omega⟩
  · by_cases c : b.2.2.2 ≤ q.2.2.2
    · exact ⟨p4, Or.inl h4, by simp only [r_cv]; omega⟩
    · exact ⟨b, Or.inr rfl, by simp only [r_cv]; omega⟩
/-- one of them grows by b -/
theorem r_is_grow {q b c0 : pR} {P Q : pR → Prop} (h : r_is q P) (hc : P c0) (h1 : ∀ p, Q p → P p ∨ p = r_cv c0 b) (h2 : ∀ p, P p → p = c0 ∨ Q p) (h3 : Q (r_cv c0 b)) : r_is (r_cv q b) Q := by
  obtain ⟨h0, ⟨⟨p1, g1, e1⟩, ⟨p2, g2, e2⟩⟩, ⟨p3, g3, e3⟩, ⟨p4, g4, e4⟩⟩ := h
  have hc0 := h0 c0 hc
  refine ⟨fun p hp => ?_, ⟨?_, ?_⟩, ?_, ?_⟩
  · rcases h1 p hp with hp | rfl
    · have := h0 p hp
      simp only [r_cv]
      omega
    · simp only [r_cv]
      omega
  · by_cases c : q.1 ≤ b.1
    · rcases h2 p1 g1 with rfl | hq
      · exact ⟨_, h3, by simp only [r_cv]; omega⟩
      · exact ⟨p1, hq, by simp only [r_cv]; omega⟩
    · exact ⟨_, h3, by simp only [r_cv]; omega⟩
  · by_cases c : q.2.1 ≤ b.2.1
    · rcases h2 p2 g2 with rfl | hq
      · exact ⟨_, h3, by simp only [r_cv]; omega⟩
      · exact ⟨p2, hq, by simp only [r_cv]; omega⟩
    · exact ⟨_, h3, by simp only [r_cv]; omega⟩
  · by_cases c : b.2.2.1 ≤ q.2.2.1
    · rcases h2 p3 g3 with rfl | hq
      · exact ⟨_, h3, by simp only [r_cv]; omega⟩
      · exact ⟨p3, hq, by simp only [r_cv]; omega⟩
    · exact ⟨_, h3, by simp only [r_cv]; omega⟩
  · by_cases c : b.2.2.2 ≤ q.2.2.2
    · rcases h2 p4 g4 with rfl | hq
      · exact ⟨_, h3, by simp only [r_cv]; omega⟩
      · exact ⟨p4, hq, by simp only [r_cv]; omega⟩
    · exact ⟨_, h3, by simp only [r_cv]; omega⟩
theorem r_is_ok {q : pR} {P : pR → Prop} (h : r_is q P) (hP : ∀ p, P p → r_ok p) : r_ok q := by
  obtain ⟨h0, ⟨⟨p1, h1, e1⟩, ⟨p2, h2, e2⟩⟩, ⟨p3, h3, e3⟩, ⟨p4, h4, e4⟩⟩ := h
  have a1 := hP p1 h1; have a2 := hP p2 h2; have a3 := hP p3 h3; have a4 := hP p4 h4
  have b1 := h0 p1 h1; have b2 := h0 p2 h2; have b3 := h0 p3 h3; have b4 := h0 p4 h4
  unfold r_ok at *
  omega
/-- the first n + 1 together -/
def r_mb (f : Int → pR) : Nat → pR
  | 0 => f 0
  | n + 1 => r_cv (r_mb f n) (f ((n : Int) + 1))
theorem r_mb_is (f : Int → pR) : ∀ n : Nat, r_is (r_mb f n) (fun p => ∃ i : Int, 0 ≤ i ∧ i < (n : Int) + 1 ∧ p = f i) := by
  intro n
  induction n with
  | zero =>
    refine r_is_congr (fun p => ⟨fun h => ⟨0, by omega, by omega, h⟩, fun ⟨i, h1, h2, h3⟩ => ?_⟩) (r_is_one (f 0))
    have e : i = 0 := by omega
    rw [h3, e]
  | succ n ih =>
    refine r_is_congr (fun p => ⟨fun h => ?_, fun ⟨i, h1, h2, h3⟩ => ?_⟩) (r_is_add (b := f ((n : Int) + 1)) ih)
    · rcases h with ⟨i, h1, h2, h3⟩ | h
      · exact ⟨i, h1, by omega, h3⟩
      · exact ⟨(n : Int) + 1, by omega, by omega, h⟩
    · by_cases e : i = (n : Int) + 1
      · exact Or.inr (by rw [h3, e])
      · exact Or.inl ⟨i, h1, by omega, h3⟩
