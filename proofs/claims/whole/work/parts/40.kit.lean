/-! ===== PURE, 1: the small tools ===== -/
theorem pu_gd {α : Type} {c : Prop} [Decidable c] {E : Option α} (h : c) : vl_gd c E = E := if_pos h
theorem pu_lt {α β : Type} (x : β) (E : β → Option α) : vl_lt x E = E x := rfl
theorem pu_jn {α β : Type} (k : β) (E : β → Option α) : vl_jn k E = E k := rfl
theorem pu_un {α : Type} (f : Int → vl_M → Option α) (a : Int) (b : vl_M) : vl_un f (a, b) = f a b := rfl
theorem up_s (m : vl_M) (h : Nat) (i v : Int) : vl_up m h i v h i = v := by simp [vl_up]
theorem up_i (m : vl_M) {h : Nat} {i j : Int} (v : Int) (hj : j ≠ i) : vl_up m h i v h j = m h j := by simp [vl_up, hj]
theorem up_h (m : vl_M) {h k : Nat} (i v : Int) (hk : k ≠ h) : vl_up m h i v k = m k := by funext j; simp [vl_up, hk]
/-- places: a list of the numbers below n cannot go one to one into fewer -/
theorem pu_pig : ∀ (k n : Nat) (f : Nat → Nat), (∀ i, i < n → f i < k) → (∀ i j, i < n → j < n → f i = f j → i = j) → n ≤ k := by
  intro k
  induction k with
  | zero =>
    intro n f hf _
    cases n with
    | zero => exact Nat.le_refl 0
    | succ n => exact absurd (hf 0 (Nat.succ_pos n)) (Nat.not_lt_zero _)
  | succ k ih =>
    intro n f hf hi
    cases n with
    | zero => exact Nat.zero_le _
    | succ n =>
      -- send whoever goes to k where n goes
      have h := ih n (fun i => if f i = k then f n else f i) (fun i h => by
        have h1 := hf i (by omega)
        by_cases h2 : f i = k
        · simp only [h2, if_true]
          have h3 := hf n (by omega)
          have h4 : f n ≠ k := fun q => by have := hi i n (by omega) (by omega) (by omega); omega
          omega
        · simp only [h2, if_false]
          omega) (fun i j h1 h2 h3 => by
        by_cases a : f i = k <;> by_cases b : f j = k
        · exact hi i j (by omega) (by omega) (by omega)
        · simp only [a, b, if_true, if_false] at h3
          have := hi n j (by omega) (by omega) h3
          omega
        · simp only [a, b, if_true, if_false] at h3
          have := hi i n (by omega) (by omega) h3
          omega
        · simp only [a, b, if_false] at h3
          exact hi i j (by omega) (by omega) h3)
      omega
/-- how many of the first n have it -/
def pu_cnt (p : Int → Bool) : Nat → Nat
  | 0 => 0
  | n + 1 => pu_cnt p n + (if p (n : Int) then 1 else 0)
theorem pu_cnt_le (p : Int → Bool) : ∀ n, pu_cnt p n ≤ n := by
  intro n
  induction n with
  | zero => exact Nat.le_refl 0
  | succ n ih => unfold pu_cnt; split <;> omega
theorem pu_cnt_congr {p q : Int → Bool} : ∀ n, (∀ i : Nat, i < n → p (i : Int) = q (i : Int)) → pu_cnt p n = pu_cnt q n := by
  intro n
  induction n with
  | zero => intro _; rfl
  | succ n ih =>
    intro h
    unfold pu_cnt
    rw [ih (fun i hi => h i (by omega)), h n (by omega)]
/-- it comes to one more -/
theorem pu_cnt_add {p q : Int → Bool} {k : Nat} (hp : p (k : Int) = false) (hq : q (k : Int) = true) (h : ∀ i : Nat, i ≠ k → p (i : Int) = q (i : Int)) : ∀ n, k < n → pu_cnt q n = pu_cnt p n + 1 := by
  intro n
  induction n with
  | zero => intro hk; omega
  | succ n ih =>
    intro hk
    unfold pu_cnt
    by_cases e : n = k
    · subst e
      rw [pu_cnt_congr n (fun i hi => h i (by omega)), hp, hq]
      simp
    · rw [ih (by omega), h n e]
      omega
theorem pu_cnt_free {p : Int → Bool} : ∀ n, pu_cnt p n < n → ∃ k : Nat, k < n ∧ p (k : Int) = false := by
  intro n
  induction n with
  | zero => intro h; omega
  | succ n ih =>
    intro h
    by_cases e : p (n : Int) = true
    · unfold pu_cnt at h
      rw [if_pos e] at h
      obtain ⟨k, h1, h2⟩ := ih (by omega)
      exact ⟨k, by omega, h2⟩
    · exact ⟨n, by omega, by simpa using e⟩
theorem pu_cnt_all {p : Int → Bool} : ∀ n, (∀ i : Nat, i < n → p (i : Int) = true) → pu_cnt p n = n := by
  intro n
  induction n with
  | zero => intro _; rfl
  | succ n ih =>
    intro h
    unfold pu_cnt
    rw [ih (fun i hi => h i (by omega)), if_pos (h n (by omega))]
theorem pu_cnt_pos {p : Int → Bool} : ∀ n, 0 < pu_cnt p n → ∃ k : Nat, k < n ∧ p (k : Int) = true := by
  intro n
  induction n with
  | zero => intro h; exact absurd h (Nat.lt_irrefl 0)
  | succ n ih =>
    intro h
    by_cases e : p (n : Int) = true
    · exact ⟨n, by omega, e⟩
    · unfold pu_cnt at h
      rw [if_neg e] at h
      obtain ⟨k, h1, h2⟩ := ih (by omega)
      exact ⟨k, by omega, h2⟩
/-! ===== rectangles ===== -/
abbrev pR : Type := Int × Int × Int × Int
def r_ok (q : pR) : Prop := (0 ≤ q.1 ∧ q.1 ≤ q.2.2.1 ∧ q.2.2.1 ≤ 32767) ∧ (0 ≤ q.2.1 ∧ q.2.1 ≤ q.2.2.2 ∧ q.2.2.2 ≤ 32767)
def r_ar (q : pR) : Int := (q.2.2.1 - q.1 + 1) * (q.2.2.2 - q.2.1 + 1)
def r_cv (a b : pR) : pR := (min a.1 b.1, min a.2.1 b.2.1, max a.2.2.1 b.2.2.1, max a.2.2.2 b.2.2.2)
def r_gr (a b : pR) : Int := r_ar (r_cv a b) - r_ar a
def r_mt (a b : pR) : Prop := (a.1 ≤ b.2.2.1 ∧ b.1 ≤ a.2.2.1) ∧ (a.2.1 ≤ b.2.2.2 ∧ b.2.1 ≤ a.2.2.2)
theorem r_cv_ok {a b : pR} (ha : r_ok a) (hb : r_ok b) : r_ok (r_cv a b) := by
  obtain ⟨⟨a1, a2, a3⟩, a4, a5, a6⟩ := ha
  obtain ⟨⟨b1, b2, b3⟩, b4, b5, b6⟩ := hb
  refine ⟨⟨?_, ?_, ?_⟩, ?_, ?_, ?_⟩ <;> simp only [r_cv] <;> omega
theorem r_ar_le {q : pR} (h : r_ok q) : 1 ≤ r_ar q ∧ r_ar q ≤ 1073741824 := by
  obtain ⟨⟨a1, a2, a3⟩, a4, a5, a6⟩ := h
  unfold r_ar
  have h1 : 1 ≤ q.2.2.1 - q.1 + 1 := by omega
  have h2 : q.2.2.1 - q.1 + 1 ≤ 32768 := by omega
  have h3 : 1 ≤ q.2.2.2 - q.2.1 + 1 := by omega
  have h4 : q.2.2.2 - q.2.1 + 1 ≤ 32768 := by omega
  generalize q.2.2.1 - q.1 + 1 = x at h1 h2
  generalize q.2.2.2 - q.2.1 + 1 = y at h3 h4
  constructor
  · have := Int.mul_le_mul h1 h3 (by omega) (by omega)
    omega
  · have := Int.mul_le_mul h2 h4 (by omega) (by omega)
    omega
theorem r_cv_mono {a b : pR} (ha : r_ok a) (hb : r_ok b) : r_ar a ≤ r_ar (r_cv a b) := by
  obtain ⟨⟨a1, a2, a3⟩, a4, a5, a6⟩ := ha
  obtain ⟨⟨b1, b2, b3⟩, b4, b5, b6⟩ := hb
  unfold r_ar
  refine Int.mul_le_mul ?_ ?_ ?_ ?_ <;> (try simp only [r_cv]) <;> omega
theorem r_gr_le {a b : pR} (ha : r_ok a) (hb : r_ok b) : 0 ≤ r_gr a b ∧ r_gr a b ≤ 1073741824 := by
  have h1 := r_cv_mono ha hb
  have h2 := r_ar_le (r_cv_ok ha hb)
  have h3 := r_ar_le ha
  unfold r_gr
  omega
theorem r_ok32 {q : pR} (h : r_ok q) : vl_r32 q.1 ∧ vl_r32 q.2.1 ∧ vl_r32 q.2.2.1 ∧ vl_r32 q.2.2.2 := by
  obtain ⟨⟨a1, a2, a3⟩, a4, a5, a6⟩ := h
  refine ⟨⟨?_, ?_⟩, ⟨?_, ?_⟩, ⟨?_, ?_⟩, ?_, ?_⟩ <;> omega
theorem r_cv_comm (a b : pR) : r_cv a b = r_cv b a := by
  simp only [r_cv, Prod.mk.injEq]
  refine ⟨?_, ?_, ?_, ?_⟩ <;> omega
/-! ===== the class's memory, seen ===== -/
def c_rt (m : vl_M) (s : Int) : pR := (m 3 s, m 4 s, m 5 s, m 6 s)
def c_set (m : vl_M) (s : Int) (q : pR) : vl_M := vl_up (vl_up (vl_up (vl_up m 3 s q.1) 4 s q.2.1) 5 s q.2.2.1) 6 s q.2.2.2
theorem c_set_h (m : vl_M) (s : Int) (q : pR) {h : Nat} (h3 : h ≠ 3) (h4 : h ≠ 4) (h5 : h ≠ 5) (h6 : h ≠ 6) : c_set m s q h = m h := by
  funext j; simp [c_set, vl_up, h3, h4, h5, h6]
theorem c_set_s (m : vl_M) (s : Int) (q : pR) : c_rt (c_set m s q) s = q := by
  obtain ⟨a, b, c, d⟩ := q
  simp [c_rt, c_set, vl_up]
theorem c_set_ne (m : vl_M) {s t : Int} (q : pR) (h : t ≠ s) : c_rt (c_set m s q) t = c_rt m t := by
  simp [c_rt, c_set, vl_up, h]
theorem c_rt_congr {m m' : vl_M} {s : Int} (h3 : m' 3 = m 3) (h4 : m' 4 = m 4) (h5 : m' 5 = m 5) (h6 : m' 6 = m 6) : c_rt m' s = c_rt m s := by
  simp [c_rt, h3, h4, h5, h6]
abbrev c_in (s : Int) : Prop := 0 ≤ s ∧ s < 807
theorem c_area {m : vl_M} {s : Int} (h : c_in s) : fn_X4_area m s = some (r_ar (c_rt m s)) := by
  unfold fn_X4_area
  rw [pu_gd h]
  rfl
theorem c_copy {m : vl_M} {a b : Int} (ha : c_in a) (hb : c_in b) : fn_X4_copyRectangle m a b = some (c_set m b (c_rt m a)) := by
  unfold fn_X4_copyRectangle
  rw [pu_gd ha, pu_gd hb]
  simp [pu_lt, c_set, c_rt, vl_up]
theorem c_cover {m : vl_M} {a b : Int} (ha : c_in a) (hb : c_in b) (oa : r_ok (c_rt m a)) (ob : r_ok (c_rt m b)) : fn_X4_cover m a b = some (c_set m a (r_cv (c_rt m a) (c_rt m b))) := by
  have ea := r_ok32 oa
  have eb := r_ok32 ob
  simp only [c_rt] at ea eb
  unfold fn_X4_cover
  simp only [pu_lt]
  rw [pu_gd ha, pu_gd hb, pu_gd ea.1, pu_gd eb.1]
  simp only [up_h _ _ _ (show (4 : Nat) ≠ 3 by decide)]
  rw [pu_gd ea.2.1, pu_gd eb.2.1]
  simp only [up_h _ _ _ (show (5 : Nat) ≠ 3 by decide), up_h _ _ _ (show (5 : Nat) ≠ 4 by decide)]
  rw [pu_gd ea.2.2.1, pu_gd eb.2.2.1]
  simp only [up_h _ _ _ (show (6 : Nat) ≠ 3 by decide), up_h _ _ _ (show (6 : Nat) ≠ 4 by decide), up_h _ _ _ (show (6 : Nat) ≠ 5 by decide)]
  rw [pu_gd ea.2.2.2, pu_gd eb.2.2.2]
  rfl
theorem c_growth {m : vl_M} {a b : Int} (ha : c_in a) (hb : c_in b) (oa : r_ok (c_rt m a)) (ob : r_ok (c_rt m b)) : fn_X4_growth m a b = some (r_gr (c_rt m a) (c_rt m b)) := by
  have ea := r_ok32 oa
  have eb := r_ok32 ob
  simp only [c_rt] at ea eb
  unfold fn_X4_growth
  simp only [pu_lt]
  rw [pu_gd ha, pu_gd hb, pu_gd ea.2.2.1, pu_gd eb.2.2.1, pu_gd ea.1, pu_gd eb.1, pu_gd ea.2.2.2, pu_gd eb.2.2.2, pu_gd ea.2.1, pu_gd eb.2.1, c_area ha]
  rfl
theorem c_meet {m : vl_M} {a b : Int} (ha : c_in a) (hb : c_in b) (oa : r_ok (c_rt m a)) (ob : r_ok (c_rt m b)) : (r_mt (c_rt m a) (c_rt m b) → fn_X4_meet m a b = some 1) ∧ (¬ r_mt (c_rt m a) (c_rt m b) → fn_X4_meet m a b = some 0) := by
  have ea := r_ok32 oa
  have eb := r_ok32 ob
  simp only [c_rt] at ea eb
  unfold fn_X4_meet
  rw [pu_gd ha, pu_gd hb, pu_gd ea.1, pu_gd eb.2.2.1, pu_gd eb.1, pu_gd ea.2.2.1, pu_gd ea.2.1, pu_gd eb.2.2.2, pu_gd eb.2.1, pu_gd ea.2.2.2]
  simp only [r_mt, c_rt]
  constructor
  · intro h
    rw [if_neg (by omega), if_neg (by omega), if_neg (by omega), if_neg (by omega)]
  · intro h
    by_cases h1 : m 5 b < m 3 a
    · rw [if_pos h1]
    rw [if_neg h1]
    by_cases h2 : m 5 a < m 3 b
    · rw [if_pos h2]
    rw [if_neg h2]
    by_cases h3 : m 6 b < m 4 a
    · rw [if_pos h3]
    rw [if_neg h3]
    by_cases h4 : m 6 a < m 4 b
    · rw [if_pos h4]
    exact absurd ⟨⟨by omega, by omega⟩, by omega, by omega⟩ h
