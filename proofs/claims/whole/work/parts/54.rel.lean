/-! ===== PURE, 15: how the class's memory and the reference's belong together ===== -/
/-- rectangles: all nodes but a have the least one around what they hold, and the reference has the same -/
def q_T (w : Nat) (m r : vl_M) (φ : Int → Int) (a : Int) : Prop := ∀ s, c_LN m s → s ≠ a → 0 < m 9 s → (r_ok (c_rt m s) ∧ d_rt r 0 (φ s) = c_rt m s) ∧ r_is (c_rt m s) (fun p => ∃ i, 0 ≤ i ∧ i < m 9 s ∧ p = c_rt m (c_k w m s i))
def q_sn (w : Nat) (m r : vl_M) (φ : Int → Int) (X : Int → Prop) : Prop := ∀ s, c_LN m s → (d_nd (φ s) ∧ r 26 (φ s) = m 2 s ∧ r 27 (φ s) = m 9 s) ∧ (∀ i, 0 ≤ i → i < m 9 s → d_k r (φ s) i = φ (c_k w m s i)) ∧ ((s ≠ m 11 6 → ¬ X s → r 30 (φ s) = φ (m 8 s)) ∧ (s = m 11 6 → r 30 (φ s) = -2))
def q_si (m : vl_M) (φ : Int → Int) : Prop := (∀ s t, c_LN m s → c_LN m t → φ s = φ t → s = t) ∧ (∀ e e', c_LE m e → c_LE m e' → φ e = φ e' → e = e')
def q_so (m r : vl_M) (φ : Int → Int) : Prop := (∀ n, d_nd n → (0 ≤ r 26 n ∧ ∃ s, c_LN m s ∧ φ s = n) ∨ r 26 n = -2) ∧ (∀ n, 0 ≤ n → n < 401 → (0 ≤ r 24 n ∧ ∃ e, c_LE m e ∧ φ e = n) ∨ r 24 n = -2)
def q_se (m r : vl_M) (φ : Int → Int) : Prop := ∀ e, c_LE m e → (0 ≤ φ e ∧ φ e < 400) ∧ r 24 (φ e) = m 7 e ∧ d_rt r (-1) (φ e) = c_rt m e
def q_rr (m r : vl_M) (φ : Int → Int) : Prop := r 23 11 = φ (m 11 6) ∧ (r 23 1 = m 1 0 ∧ r 23 2 = m 1 1) ∧ r 23 5 = m 1 12 ∧ r 23 12 = m 11 7 ∧ r 23 13 = m 11 8
def q_I (w : Nat) (m r : vl_M) (φ : Int → Int) (X : Int → Prop) (a : Int) : Prop := (s_P w m ∧ s_K w m X ∧ s_A w m X ∧ s_R m X) ∧ (s_E m ∧ s_S m) ∧ q_T w m r φ a ∧ (q_sn w m r φ X ∧ q_si m φ ∧ q_so m r φ ∧ q_se m r φ) ∧ q_rr m r φ
/-- a kid has one place -/
theorem q_one {w : Nat} {m : vl_M} {X : Int → Prop} (hK : s_K w m X) {s t i j : Int} (hs : c_LN m s) (ht : c_LN m t) (hi : 0 ≤ i ∧ i < m 9 s) (hj : 0 ≤ j ∧ j < m 9 t) (h : c_k w m s i = c_k w m t j) : s = t ∧ i = j := by
  obtain ⟨-, k1⟩ := hK s hs
  obtain ⟨-, k2⟩ := hK t ht
  obtain ⟨-, ⟨a1, -, -⟩, a3⟩ := k1 i hi.1 hi.2
  obtain ⟨-, ⟨b1, -, -⟩, -⟩ := k2 j hj.1 hj.2
  have e : s = t := by rw [← a1, h, b1]
  subst e
  exact ⟨rfl, a3 j hj.1 hj.2 h⟩
/-! a new node -/
theorem c_newn_h (m : vl_M) (l : Int) {h : Nat} (h1 : h ≠ 1) (h2 : h ≠ 2) (h3 : h ≠ 8) (h4 : h ≠ 9) : c_newn m l h = m h := by
  unfold c_newn
  rw [up_h _ _ _ h3, up_h _ _ _ h4, up_h _ _ _ h2]
  split
  · rw [up_h _ _ _ h1]
  · rw [up_h _ _ _ h1]
theorem c_newn_1 (m : vl_M) (l : Int) {j : Int} (h1 : j ≠ 15) (h2 : j ≠ 16) : c_newn m l 1 j = m 1 j := by
  unfold c_newn
  rw [up_h _ _ _ (by decide), up_h _ _ _ (by decide), up_h _ _ _ (by decide)]
  split
  · rw [up_i _ _ h1]
  · rw [up_i _ _ h2]
theorem c_newn_15 (m : vl_M) (l : Int) : c_newn m l 1 15 = if m 1 16 = -1 then m 1 15 + 1 else m 1 15 := by
  unfold c_newn
  rw [up_h _ _ _ (by decide), up_h _ _ _ (by decide), up_h _ _ _ (by decide)]
  split
  · rw [up_s]
  · rw [up_i _ _ (by decide)]
theorem c_newn_16 (m : vl_M) (l : Int) : c_newn m l 1 16 = if m 1 16 = -1 then -1 else m 8 (m 1 16) := by
  unfold c_newn
  rw [up_h _ _ _ (by decide), up_h _ _ _ (by decide), up_h _ _ _ (by decide)]
  split
  · rw [up_i _ _ (by decide)]; assumption
  · rw [up_s]
theorem c_newn_2 (m : vl_M) (l u : Int) : c_newn m l 2 u = if u = c_fn m then l else m 2 u := by
  unfold c_newn
  rw [up_h _ _ _ (by decide), up_h _ _ _ (by decide)]
  by_cases h : u = c_fn m
  · rw [h, up_s, if_pos rfl]
  · rw [up_i _ _ h, if_neg h]
    split <;> rw [up_h _ _ _ (by decide)]
theorem c_newn_9 (m : vl_M) (l u : Int) : c_newn m l 9 u = if u = c_fn m then 0 else m 9 u := by
  unfold c_newn
  rw [up_h _ _ _ (by decide)]
  by_cases h : u = c_fn m
  · rw [h, up_s, if_pos rfl]
  · rw [up_i _ _ h, if_neg h, up_h _ _ _ (by decide)]
    split <;> rw [up_h _ _ _ (by decide)]
theorem c_newn_8 (m : vl_M) (l u : Int) : c_newn m l 8 u = if u = c_fn m then -1 else m 8 u := by
  unfold c_newn
  by_cases h : u = c_fn m
  · rw [h, up_s, if_pos rfl]
  · rw [up_i _ _ h, if_neg h, up_h _ _ _ (by decide), up_h _ _ _ (by decide)]
    split <;> rw [up_h _ _ _ (by decide)]
theorem c_newn_k (w : Nat) (m : vl_M) (l u i : Int) : c_k w (c_newn m l) u i = c_k w m u i := by
  unfold c_k
  rw [c_newn_h _ _ (by decide) (by decide) (by decide) (by decide)]
theorem c_newn_rt (m : vl_M) (l u : Int) : c_rt (c_newn m l) u = c_rt m u :=
  c_rt_congr (c_newn_h _ _ (by decide) (by decide) (by decide) (by decide)) (c_newn_h _ _ (by decide) (by decide) (by decide) (by decide)) (c_newn_h _ _ (by decide) (by decide) (by decide) (by decide)) (c_newn_h _ _ (by decide) (by decide) (by decide) (by decide))
/-- the next slot is none that is in use -/
theorem c_fn_ok {w : Nat} {m : vl_M} (hP : s_P w m) (hS : s_S m) (hroom : m 1 16 = -1 → m 1 15 < 804) : c_nd (c_fn m) ∧ ¬ c_LN m (c_fn m) ∧ (m 1 16 ≠ -1 → c_nd (m 1 16) ∧ m 1 16 < m 1 15) := by
  obtain ⟨-, -, -, p1, p2⟩ := hP
  obtain ⟨⟨L, l1, l2, l3⟩, -⟩ := hS
  unfold c_fn
  by_cases h : m 1 16 = -1
  · rw [if_pos h]
    exact ⟨⟨by omega, hroom h⟩, fun z => by have := z.1; omega, fun z => absurd h z⟩
  · rw [if_neg h]
    cases L with
    | nil => exact absurd l1 h
    | cons a t =>
      have e : m 1 16 = a := l1.1
      have := (l3 a).mp List.mem_cons_self
      rw [e]
      exact ⟨⟨by omega, by omega⟩, fun z => by have := z.2; omega, fun _ => ⟨⟨by omega, by omega⟩, by omega⟩⟩
theorem c_newn_LN {w : Nat} {m : vl_M} {l : Int} (hP : s_P w m) (hS : s_S m) (hroom : m 1 16 = -1 → m 1 15 < 804) (hl : 0 ≤ l) (u : Int) : c_LN (c_newn m l) u ↔ (c_LN m u ∨ u = c_fn m) := by
  obtain ⟨f1, f2, f3⟩ := c_fn_ok hP hS hroom
  unfold c_LN
  rw [c_newn_15, c_newn_2]
  by_cases h : u = c_fn m
  · rw [if_pos h]
    refine ⟨fun _ => Or.inr h, fun _ => ⟨⟨by omega, ?_⟩, hl⟩⟩
    by_cases h16 : m 1 16 = -1
    · rw [if_pos h16, h]
      unfold c_fn
      rw [if_pos h16]; omega
    · rw [if_neg h16, h]
      unfold c_fn
      rw [if_neg h16]; exact (f3 h16).2
  · rw [if_neg h]
    constructor
    · rintro ⟨⟨a, b⟩, c⟩
      left
      refine ⟨⟨a, ?_⟩, c⟩
      by_cases h16 : m 1 16 = -1
      · rw [if_pos h16] at b
        have : u ≠ m 1 15 := fun z => h (by unfold c_fn; rw [if_pos h16]; exact z)
        omega
      · rw [if_neg h16] at b; exact b
    · rintro (⟨⟨a, b⟩, c⟩ | z)
      · refine ⟨⟨a, ?_⟩, c⟩
        split <;> omega
      · exact absurd z h
theorem c_newn_LE {w : Nat} {m : vl_M} {l : Int} (hP : s_P w m) (hS : s_S m) (hroom : m 1 16 = -1 → m 1 15 < 804) (u : Int) : c_LE (c_newn m l) u ↔ c_LE m u := by
  obtain ⟨f1, -, -⟩ := c_fn_ok hP hS hroom
  obtain ⟨-, -, -, p1, p2⟩ := hP
  unfold c_LE
  rw [c_newn_1 _ _ (by decide) (by decide), c_newn_2]
  constructor
  · rintro ⟨a, b⟩
    rw [if_neg (by omega)] at b
    exact ⟨a, b⟩
  · rintro ⟨a, b⟩
    rw [if_neg (by omega)]
    exact ⟨a, b⟩
theorem d_new_h (r : vl_M) (f l : Int) {h : Nat} (h1 : h ≠ 26) (h2 : h ≠ 27) (h3 : h ≠ 30) : d_new r f l h = r h := by
  unfold d_new
  rw [up_h _ _ _ h3, up_h _ _ _ h2, up_h _ _ _ h1]
theorem d_new_26 (r : vl_M) (f l u : Int) : d_new r f l 26 u = if u = f then l else r 26 u := by
  unfold d_new
  rw [up_h _ _ _ (by decide), up_h _ _ _ (by decide)]
  by_cases h : u = f
  · rw [h, up_s, if_pos rfl]
  · rw [up_i _ _ h, if_neg h]
theorem d_new_27 (r : vl_M) (f l u : Int) : d_new r f l 27 u = if u = f then 0 else r 27 u := by
  unfold d_new
  rw [up_h _ _ _ (by decide)]
  by_cases h : u = f
  · rw [h, up_s, if_pos rfl]
  · rw [up_i _ _ h, if_neg h, up_h _ _ _ (by decide)]
theorem d_new_30 (r : vl_M) (f l u : Int) : d_new r f l 30 u = if u = f then -2 else r 30 u := by
  unfold d_new
  by_cases h : u = f
  · rw [h, up_s, if_pos rfl]
  · rw [up_i _ _ h, if_neg h, up_h _ _ _ (by decide), up_h _ _ _ (by decide)]
/-- the reference always has a number for one node more -/
theorem q_free {w : Nat} {m r : vl_M} {φ : Int → Int} (hP : s_P w m) (hso : q_so m r φ) : ∃ o, 0 ≤ o ∧ o < 500 ∧ r 26 o = -2 ∧ ∀ i, 0 ≤ i → i < o → ¬ r 26 i < 0 := by
  have h : ∃ i : Nat, i < 500 ∧ (fun n => r 26 n < 0) (i : Int) := by
    refine Classical.byContradiction (fun hno => ?_)
    have hall : ∀ i : Nat, i < 500 → ∃ s, c_LN m s ∧ φ s = (i : Int) := fun i hi => by
      rcases hso.1 (i : Int) ⟨by omega, by omega⟩ with ⟨-, h⟩ | h
      · exact h
      · exact absurd ⟨i, hi, by show r 26 (i : Int) < 0; omega⟩ hno
    have := pu_pig 404 500 (fun i => if h : i < 500 then ((hall i h).choose - 400).toNat else 0) (fun i hi => by
      have := (hall i hi).choose_spec.1.1
      obtain ⟨-, -, -, p1, p2⟩ := hP
      simp only [hi, dif_pos]
      omega) (fun i j hi hj hij => by
      have a := (hall i hi).choose_spec
      have b := (hall j hj).choose_spec
      simp only [hi, hj, dif_pos] at hij
      have e : (hall i hi).choose = (hall j hj).choose := by
        have := a.1.1; have := b.1.1; omega
      have : (i : Int) = (j : Int) := by rw [← a.2, ← b.2, e]
      omega)
    omega
  obtain ⟨o, h1, h2, h3, h4⟩ := pu_first (P := fun n => r 26 n < 0) 500 h
  have h2' : o < 500 := h2
  refine ⟨o, h1, h2', ?_, h4⟩
  rcases hso.1 o ⟨h1, h2'⟩ with ⟨z, -⟩ | z
  · omega
  · exact z
theorem d_node' {N : Nat} {w : Nat} {m r : vl_M} {φ : Int → Int} {X : Int → Prop} {l o : Int} (hN : 100000 ≤ N) (hK : s_K w m X) (hsn : q_sn w m r φ X) (hso : q_so m r φ) (h1 : 0 ≤ o ∧ o < 500) (h2 : r 26 o = -2) (h3 : ∀ i, 0 ≤ i → i < o → ¬ r 26 i < 0) : fn_X8_node N r l = some (o, d_new r o l) := by
  refine d_node hN h1 (fun i i1 i2 => ?_) (by rw [h2]; decide) h3
  rcases hso.1 i ⟨i1, by omega⟩ with ⟨-, s, hs, e⟩ | z
  · have := (hsn s hs).1.2.1
    have := (hK s hs).1.1
    have := hs.2
    rw [← e]
    exact ⟨by omega, by omega⟩
  · rw [z]; decide
