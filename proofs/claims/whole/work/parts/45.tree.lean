/-! ===== PURE, 6: the class's tree: what always holds, and how large it can be ===== -/
def c_LN (m : vl_M) (s : Int) : Prop := (400 ≤ s ∧ s < m 1 15) ∧ 0 ≤ m 2 s
def c_LE (m : vl_M) (e : Int) : Prop := (0 ≤ e ∧ e < m 1 13) ∧ m 2 e = -1
def c_LT (m : vl_M) (c : Int) : Prop := c_LE m c ∨ c_LN m c
/-- numbers of the object -/
def s_P (w : Nat) (m : vl_M) : Prop := (5 ≤ w ∧ w ≤ 11) ∧ (m 1 10 = (w : Int) ∧ m 1 0 = (w : Int) - 1) ∧ (2 ≤ m 1 1 ∧ 2 * m 1 1 ≤ m 1 0) ∧ (400 ≤ m 1 15 ∧ m 1 15 ≤ 804) ∧ (0 ≤ m 1 13 ∧ m 1 13 ≤ 400)
/-- what a node holds: things of the level below, each once, that know it; X: things that are held by none just now -/
def s_K (w : Nat) (m : vl_M) (X : Int → Prop) : Prop := ∀ s, c_LN m s → (m 2 s < 100 ∧ 0 ≤ m 9 s ∧ m 9 s ≤ (w : Int)) ∧ ∀ i, 0 ≤ i → i < m 9 s → (c_LT m (c_k w m s i) ∧ m 2 (c_k w m s i) = m 2 s - 1) ∧ (m 8 (c_k w m s i) = s ∧ ¬ X (c_k w m s i) ∧ c_k w m s i ≠ m 11 6) ∧ ∀ j, 0 ≤ j → j < m 9 s → c_k w m s i = c_k w m s j → i = j
/-- all others than the root and X are held -/
def s_A (w : Nat) (m : vl_M) (X : Int → Prop) : Prop := ∀ c, c_LT m c → c ≠ m 11 6 → ¬ X c → c_LN m (m 8 c) ∧ ∃ i, 0 ≤ i ∧ i < m 9 (m 8 c) ∧ c_k w m (m 8 c) i = c
def s_R (m : vl_M) (X : Int → Prop) : Prop := (c_LN m (m 11 6) ∧ m 8 (m 11 6) = -1) ∧ ¬ X (m 11 6) ∧ ∀ c, X c → c_LT m c
def s_E (m : vl_M) : Prop := ∀ e, c_LE m e → (0 ≤ m 7 e ∧ m 7 e ≤ 999) ∧ r_ok (c_rt m e)
def s_S (m : vl_M) : Prop := (∃ L, c_ch m (m 1 16) L ∧ L.Nodup ∧ ∀ s, s ∈ L ↔ ((400 ≤ s ∧ s < m 1 15) ∧ m 2 s < 0)) ∧ (∃ L, c_ch m (m 1 14) L ∧ L.Nodup ∧ ∀ e, e ∈ L ↔ ((0 ≤ e ∧ e < m 1 13) ∧ m 2 e ≠ -1))
theorem c_LT_in {w : Nat} {m : vl_M} (hP : s_P w m) {c : Int} (h : c_LT m c) : c_in c := by
  obtain ⟨-, -, -, h1, h2⟩ := hP
  rcases h with ⟨h, -⟩ | ⟨h, -⟩ <;> constructor <;> omega
theorem c_LN_nd {w : Nat} {m : vl_M} (hP : s_P w m) {s : Int} (h : c_LN m s) : c_nd s := by
  obtain ⟨-, -, -, h1, -⟩ := hP
  obtain ⟨h, -⟩ := h
  constructor <;> omega
/-- a thing of a level: below 0 an entry, else a node -/
theorem c_LT_N {m : vl_M} {c : Int} (h : c_LT m c) (hl : 0 ≤ m 2 c) : c_LN m c := by
  rcases h with h | h
  · have := h.2; omega
  · exact h
theorem c_LT_E {m : vl_M} {c : Int} (h : c_LT m c) (hl : m 2 c < 0) : c_LE m c := by
  rcases h with h | h
  · exact h
  · have := h.2; omega
/-- down j steps, always to the first -/
def c_dn (w : Nat) (m : vl_M) : Nat → Int → Int
  | 0, c => c
  | j + 1, c => c_dn w m j (c_k w m c 0)
/-- up j steps -/
def c_anc (m : vl_M) : Nat → Int → Int
  | 0, c => c
  | j + 1, c => m 8 (c_anc m j c)
theorem c_dn_ok {w : Nat} {m : vl_M} {X : Int → Prop} (hK : s_K w m X) (h1 : ∀ s, c_LN m s → s ≠ m 11 6 → 1 ≤ m 9 s) : ∀ (j : Nat) (c : Int), c_LT m c → c ≠ m 11 6 → (j : Int) ≤ m 2 c + 1 → (c_LT m (c_dn w m j c) ∧ m 2 (c_dn w m j c) = m 2 c - (j : Int)) ∧ c_anc m j (c_dn w m j c) = c := by
  intro j
  induction j with
  | zero => intro c h2 _ _; exact ⟨⟨h2, by show m 2 c = m 2 c - 0; omega⟩, rfl⟩
  | succ j ih =>
    intro c h2 h3 h4
    have hN := c_LT_N h2 (by omega)
    obtain ⟨-, hk⟩ := hK c hN
    obtain ⟨⟨k1, k2⟩, ⟨k3, -, k4⟩, -⟩ := hk 0 (by omega) (by have := h1 c hN h3; omega)
    obtain ⟨⟨a1, a2⟩, a3⟩ := ih (c_k w m c 0) k1 k4 (by omega)
    refine ⟨⟨a1, ?_⟩, ?_⟩
    · show m 2 (c_dn w m j (c_k w m c 0)) = _
      rw [a2, k2]; omega
    · show m 8 (c_anc m j (c_dn w m j (c_k w m c 0))) = c
      rw [a3, k3]
theorem c_anc_add (m : vl_M) (i : Nat) : ∀ (j : Nat) (c : Int), c_anc m (i + j) c = c_anc m i (c_anc m j c) := by
  induction i with
  | zero => intro j c; rw [Nat.zero_add]; rfl
  | succ i ih =>
    intro j c
    have e : i + 1 + j = (i + j) + 1 := by omega
    rw [e]
    show m 8 (c_anc m (i + j) c) = m 8 (c_anc m i (c_anc m j c))
    rw [ih]
/-- what lies i of j steps above the place that is reached is reached by the first j - i -/
theorem c_dn_mid {w : Nat} {m : vl_M} {X : Int → Prop} (hK : s_K w m X) (h1 : ∀ s, c_LN m s → s ≠ m 11 6 → 1 ≤ m 9 s) : ∀ (a i : Nat) (c : Int), c_LT m c → c ≠ m 11 6 → ((a + i : Nat) : Int) ≤ m 2 c + 1 → c_anc m i (c_dn w m (a + i) c) = c_dn w m a c := by
  intro a
  induction a with
  | zero =>
    intro i c h2 h3 h4
    rw [Nat.zero_add] at h4 ⊢
    exact (c_dn_ok hK h1 i c h2 h3 h4).2
  | succ a ih =>
    intro i c h2 h3 h4
    have e : a + 1 + i = (a + i) + 1 := by omega
    rw [e]
    have hN := c_LT_N h2 (by omega)
    obtain ⟨-, hk⟩ := hK c hN
    obtain ⟨⟨k1, k2⟩, ⟨k3, -, k4⟩, -⟩ := hk 0 (by omega) (by have := h1 c hN h3; omega)
    exact ih i (c_k w m c 0) k1 k4 (by omega)
/-- to each node that holds two an entry of its own: under its second, by the first ones -/
def c_own (w : Nat) (m : vl_M) (s : Int) : Int := c_dn w m (m 2 s).toNat (c_k w m s 1)
theorem c_own_ok {w : Nat} {m : vl_M} {X : Int → Prop} (hK : s_K w m X) (h1 : ∀ s, c_LN m s → s ≠ m 11 6 → 1 ≤ m 9 s) {s : Int} (hs : c_LN m s) (h2 : 2 ≤ m 9 s) : c_LE m (c_own w m s) := by
  obtain ⟨-, hk⟩ := hK s hs
  have h0 := hs.2
  obtain ⟨⟨k1, k2⟩, ⟨k3, -, k4⟩, -⟩ := hk 1 (by omega) (by omega)
  obtain ⟨⟨a1, a2⟩, -⟩ := c_dn_ok hK h1 (m 2 s).toNat (c_k w m s 1) k1 k4 (by omega)
  have hlt : m 2 (c_own w m s) < 0 := by unfold c_own; rw [a2]; omega
  exact c_LT_E a1 hlt
theorem c_own_inj {w : Nat} {m : vl_M} {X : Int → Prop} (hK : s_K w m X) (h1 : ∀ s, c_LN m s → s ≠ m 11 6 → 1 ≤ m 9 s) {s t : Int} (hs : c_LN m s) (ht : c_LN m t) (h2 : 2 ≤ m 9 s) (h2t : 2 ≤ m 9 t) (he : c_own w m s = c_own w m t) : s = t := by
  have main : ∀ s t : Int, c_LN m s → c_LN m t → 2 ≤ m 9 s → 2 ≤ m 9 t → c_own w m s = c_own w m t → m 2 s ≤ m 2 t → s = t := by
    intro s t hs ht h2 h2t he hle
    obtain ⟨-, hks⟩ := hK s hs
    obtain ⟨-, hkt⟩ := hK t ht
    have hs0 := hs.2
    have ht0 := ht.2
    obtain ⟨⟨k1, k2⟩, ⟨k3, -, k4⟩, ku⟩ := hks 1 (by omega) (by omega)
    obtain ⟨⟨j1, j2⟩, ⟨j3, -, j4⟩, -⟩ := hkt 1 (by omega) (by omega)
    obtain ⟨-, a3⟩ := c_dn_ok hK h1 (m 2 s).toNat (c_k w m s 1) k1 k4 (by omega)
    have e1 : c_anc m (m 2 s).toNat (c_own w m s) = c_k w m s 1 := a3
    obtain ⟨a, ea⟩ : ∃ a : Nat, (m 2 t).toNat = a + (m 2 s).toNat := ⟨(m 2 t).toNat - (m 2 s).toNat, by omega⟩
    have e2 : c_anc m (m 2 s).toNat (c_own w m t) = c_dn w m a (c_k w m t 1) := by
      unfold c_own
      rw [ea]
      exact c_dn_mid hK h1 a (m 2 s).toNat (c_k w m t 1) j1 j4 (by omega)
    rw [he, e2] at e1
    cases a with
    | zero =>
      have e3 : c_k w m t 1 = c_k w m s 1 := e1
      rw [← k3, ← e3, j3]
    | succ a =>
      exfalso
      -- the other's chain is by first ones
      have e4 : ∀ (b : Nat) (c : Int), c_LT m c → c ≠ m 11 6 → ((b + 1 : Nat) : Int) ≤ m 2 c + 1 → ∃ x, c_LN m x ∧ 1 ≤ m 9 x ∧ c_dn w m (b + 1) c = c_k w m x 0 := by
        intro b
        induction b with
        | zero =>
          intro c g1 g2 g3
          have gN := c_LT_N g1 (by omega)
          exact ⟨c, gN, h1 c gN g2, rfl⟩
        | succ b ihb =>
          intro c g1 g2 g3
          have gN := c_LT_N g1 (by omega)
          obtain ⟨-, hk⟩ := hK c gN
          obtain ⟨⟨q1, q2⟩, ⟨-, -, q4⟩, -⟩ := hk 0 (by omega) (by have := h1 c gN g2; omega)
          exact ihb (c_k w m c 0) q1 q4 (by omega)
      obtain ⟨x, x1, x2, x3⟩ := e4 a (c_k w m t 1) j1 j4 (by omega)
      rw [x3] at e1
      obtain ⟨-, hkx⟩ := hK x x1
      obtain ⟨-, ⟨y3, -, -⟩, -⟩ := hkx 0 (by omega) (by omega)
      have hx : x = s := by rw [← y3, e1, k3]
      subst hx
      have := ku 0 (by omega) (by omega) e1.symm
      omega
  rcases (by omega : m 2 s ≤ m 2 t ∨ m 2 t ≤ m 2 s) with h | h
  · exact main s t hs ht h2 h2t he h
  · exact (main t s ht hs h2t h2 he.symm h).symm
/-- there is always a slot for one node more -/
theorem c_room {w : Nat} {m : vl_M} {X : Int → Prop} (hP : s_P w m) (hK : s_K w m X) (hS : s_S m) (h2 : ∀ s, c_LN m s → s ≠ m 11 6 → 2 ≤ m 9 s) (he : m 1 16 = -1) : m 1 15 < 804 := by
  obtain ⟨⟨L, l1, -, l3⟩, -⟩ := hS
  rw [he] at l1
  have hL : L = [] := by
    cases L with
    | nil => rfl
    | cons a t =>
      have e : (-1 : Int) = a := l1.1
      have := (l3 a).mp List.mem_cons_self
      omega
  have hlive : ∀ s, 400 ≤ s ∧ s < m 1 15 → c_LN m s := by
    intro s hs
    refine ⟨hs, ?_⟩
    by_cases q : m 2 s < 0
    · have := (l3 s).mpr ⟨hs, q⟩
      rw [hL] at this
      cases this
    · omega
  obtain ⟨-, -, -, p1, p2⟩ := hP
  by_cases hlt : m 1 15 < 804
  · exact hlt
  exfalso
  have h804 : m 1 15 = 804 := by omega
  -- leave the root out: 403 nodes, each with an entry of its own among 400
  have h1 : ∀ s, c_LN m s → s ≠ m 11 6 → 1 ≤ m 9 s := fun s a b => by have := h2 s a b; omega
  have hpig := pu_pig 400 403 (fun i => (c_own w m (if (400 : Int) + i < m 11 6 then 400 + i else 401 + i)).toNat) (fun i hi => by
    have hN : c_LN m (if (400 : Int) + i < m 11 6 then 400 + i else 401 + i) := hlive _ (by split <;> omega)
    have hne : (if (400 : Int) + i < m 11 6 then (400 : Int) + i else 401 + i) ≠ m 11 6 := by split <;> omega
    have := c_own_ok hK h1 hN (h2 _ hN hne)
    have := this.1
    omega) (fun i j hi hj hij => by
    have hNi : c_LN m (if (400 : Int) + i < m 11 6 then 400 + i else 401 + i) := hlive _ (by split <;> omega)
    have hnei : (if (400 : Int) + i < m 11 6 then (400 : Int) + i else 401 + i) ≠ m 11 6 := by split <;> omega
    have hNj : c_LN m (if (400 : Int) + j < m 11 6 then 400 + j else 401 + j) := hlive _ (by split <;> omega)
    have hnej : (if (400 : Int) + j < m 11 6 then (400 : Int) + j else 401 + j) ≠ m 11 6 := by split <;> omega
    have oi := c_own_ok hK h1 hNi (h2 _ hNi hnei)
    have oj := c_own_ok hK h1 hNj (h2 _ hNj hnej)
    have := c_own_inj hK h1 hNi hNj (h2 _ hNi hnei) (h2 _ hNj hnej) (by have := oi.1; have := oj.1; omega)
    split at this <;> split at this <;> omega)
  omega
/-- the entry under s by a row of ones and noughts -/
def c_bit (w : Nat) (m : vl_M) : Nat → Int → Nat → Int
  | 0, s, b => c_k w m s ((b % 2 : Nat) : Int)
  | n + 1, s, b => c_bit w m n (c_k w m s ((b % 2 : Nat) : Int)) (b / 2)
theorem c_bit_ok {w : Nat} {m : vl_M} {X : Int → Prop} (hK : s_K w m X) (h2 : ∀ s, c_LN m s → s ≠ m 11 6 → 2 ≤ m 9 s) : ∀ (n : Nat) (s : Int) (b : Nat), c_LN m s → s ≠ m 11 6 → m 2 s = (n : Int) → c_LE m (c_bit w m n s b) ∧ c_anc m (n + 1) (c_bit w m n s b) = s := by
  intro n
  induction n with
  | zero =>
    intro s b hs hr hl
    obtain ⟨-, hk⟩ := hK s hs
    have := h2 s hs hr
    obtain ⟨⟨k1, k2⟩, ⟨k3, -, -⟩, -⟩ := hk ((b % 2 : Nat) : Int) (by omega) (by omega)
    have hE : c_LE m (c_k w m s ((b % 2 : Nat) : Int)) := c_LT_E k1 (by rw [k2]; omega)
    exact ⟨hE, k3⟩
  | succ n ih =>
    intro s b hs hr hl
    obtain ⟨-, hk⟩ := hK s hs
    have := h2 s hs hr
    obtain ⟨⟨k1, k2⟩, ⟨k3, -, k4⟩, -⟩ := hk ((b % 2 : Nat) : Int) (by omega) (by omega)
    obtain ⟨a1, a2⟩ := ih (c_k w m s ((b % 2 : Nat) : Int)) (b / 2) (c_LT_N k1 (by omega)) k4 (by omega)
    refine ⟨a1, ?_⟩
    show m 8 (c_anc m (n + 1) (c_bit w m n (c_k w m s ((b % 2 : Nat) : Int)) (b / 2))) = s
    rw [a2, k3]
theorem c_bit_inj {w : Nat} {m : vl_M} {X : Int → Prop} (hK : s_K w m X) (h2 : ∀ s, c_LN m s → s ≠ m 11 6 → 2 ≤ m 9 s) : ∀ (n : Nat) (s : Int) (b c : Nat), c_LN m s → s ≠ m 11 6 → m 2 s = (n : Int) → b < 2 ^ (n + 1) → c < 2 ^ (n + 1) → c_bit w m n s b = c_bit w m n s c → b = c := by
  intro n
  induction n with
  | zero =>
    intro s b c hs hr hl hb hc he
    obtain ⟨-, hk⟩ := hK s hs
    have := h2 s hs hr
    obtain ⟨-, -, ku⟩ := hk ((b % 2 : Nat) : Int) (by omega) (by omega)
    have := ku ((c % 2 : Nat) : Int) (by omega) (by omega) he
    omega
  | succ n ih =>
    intro s b c hs hr hl hb hc he
    obtain ⟨-, hk⟩ := hK s hs
    have := h2 s hs hr
    obtain ⟨⟨k1, k2⟩, ⟨k3, -, k4⟩, ku⟩ := hk ((b % 2 : Nat) : Int) (by omega) (by omega)
    obtain ⟨⟨j1, j2⟩, ⟨j3, -, j4⟩, -⟩ := hk ((c % 2 : Nat) : Int) (by omega) (by omega)
    have a2 := (c_bit_ok hK h2 n _ (b / 2) (c_LT_N k1 (by omega)) k4 (by omega)).2
    have b2 := (c_bit_ok hK h2 n _ (c / 2) (c_LT_N j1 (by omega)) j4 (by omega)).2
    have he' : c_bit w m n (c_k w m s ((b % 2 : Nat) : Int)) (b / 2) = c_bit w m n (c_k w m s ((c % 2 : Nat) : Int)) (c / 2) := he
    rw [he', b2] at a2
    have e1 := ku ((c % 2 : Nat) : Int) (by omega) (by omega) a2.symm
    rw [← a2] at he'
    have hp : 2 ^ (n + 1 + 1) = 2 * 2 ^ (n + 1) := by rw [Nat.pow_succ]; omega
    have e2 := ih _ (b / 2) (c / 2) (c_LT_N j1 (by omega)) j4 (by omega) (by omega) (by omega) he'
    omega
/-- no node but the root lies higher than level 7 -/
theorem c_low {w : Nat} {m : vl_M} {X : Int → Prop} (hP : s_P w m) (hK : s_K w m X) (h2 : ∀ s, c_LN m s → s ≠ m 11 6 → 2 ≤ m 9 s) {s : Int} (hs : c_LN m s) (hr : s ≠ m 11 6) : m 2 s ≤ 7 := by
  by_cases h : m 2 s ≤ 7
  · exact h
  exfalso
  -- go down to one of level 8
  have hdown : ∀ (k : Nat) (s : Int), c_LN m s → s ≠ m 11 6 → m 2 s = 8 + (k : Int) → ∃ t, c_LN m t ∧ t ≠ m 11 6 ∧ m 2 t = ((8 : Nat) : Int) := by
    intro k
    induction k with
    | zero => intro s a b c; exact ⟨s, a, b, by omega⟩
    | succ k ih =>
      intro s a b c
      obtain ⟨-, hk⟩ := hK s a
      have := h2 s a b
      obtain ⟨⟨k1, k2⟩, ⟨-, -, k4⟩, -⟩ := hk 0 (by omega) (by omega)
      exact ih _ (c_LT_N k1 (by omega)) k4 (by omega)
  obtain ⟨t, t1, t2, t3⟩ := hdown (m 2 s - 8).toNat s hs hr (by omega)
  obtain ⟨-, -, -, p1, p2⟩ := hP
  have := pu_pig 400 512 (fun b => (c_bit w m 8 t b).toNat) (fun b _ => by
    have := (c_bit_ok hK h2 8 t b t1 t2 t3).1.1
    omega) (fun b c hb hc he => by
    have x := (c_bit_ok hK h2 8 t b t1 t2 t3).1.1
    have y := (c_bit_ok hK h2 8 t c t1 t2 t3).1.1
    exact c_bit_inj hK h2 8 t b c t1 t2 t3 hb hc (by omega))
  omega
