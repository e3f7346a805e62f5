/-! ===== PURE, 2: what the class's nodes hold ===== -/
/-- w is the width: 5 to 11; the memory knows it; loops have fuel enough -/
def c_w (w N : Nat) (m : vl_M) : Prop := 5 ≤ w ∧ w ≤ 11 ∧ 100000 ≤ N ∧ m 1 10 = (w : Int)
abbrev c_nd (s : Int) : Prop := 400 ≤ s ∧ s < 804
def c_b (w : Nat) (s : Int) : Int := (s - 400) * (w : Int)
/-- the i-th that s holds -/
def c_k (w : Nat) (m : vl_M) (s i : Int) : Int := m 10 (c_b w s + i)
theorem c_b_in {w : Nat} {s i : Int} (h5 : 5 ≤ w) (h11 : w ≤ 11) (hs : c_nd s) (hi : 0 ≤ i ∧ i < (w : Int)) : 0 ≤ c_b w s + i ∧ c_b w s + i < 404 * (w : Int) := by
  unfold c_b
  rcases (by omega : w = 5 ∨ w = 6 ∨ w = 7 ∨ w = 8 ∨ w = 9 ∨ w = 10 ∨ w = 11) with rfl | rfl | rfl | rfl | rfl | rfl | rfl <;> omega
theorem c_b_inj {w : Nat} {s t i j : Int} (h5 : 5 ≤ w) (h11 : w ≤ 11) (hi : 0 ≤ i ∧ i < (w : Int)) (hj : 0 ≤ j ∧ j < (w : Int)) (h : c_b w s + i = c_b w t + j) : s = t ∧ i = j := by
  unfold c_b at h
  rcases (by omega : w = 5 ∨ w = 6 ∨ w = 7 ∨ w = 8 ∨ w = 9 ∨ w = 10 ∨ w = 11) with rfl | rfl | rfl | rfl | rfl | rfl | rfl <;> omega
/-- what lies in another node's row is not within this one's -/
theorem c_b_out {w : Nat} {s t j : Int} (h5 : 5 ≤ w) (h11 : w ≤ 11) (hne : t ≠ s) (hj : 0 ≤ j ∧ j < (w : Int)) : c_b w t + j < c_b w s ∨ c_b w s + (w : Int) ≤ c_b w t + j := by
  unfold c_b
  rcases (by omega : w = 5 ∨ w = 6 ∨ w = 7 ∨ w = 8 ∨ w = 9 ∨ w = 10 ∨ w = 11) with rfl | rfl | rfl | rfl | rfl | rfl | rfl <;> omega
theorem c_thing {w N : Nat} {m : vl_M} {s i : Int} (hw : c_w w N m) (hs : c_nd s) (hi : 0 ≤ i ∧ i < (w : Int)) : fn_X4_thingAt w m s i = some (c_k w m s i) := by
  obtain ⟨h5, h11, -, e⟩ := hw
  have hb := c_b_in h5 h11 hs hi
  unfold fn_X4_thingAt
  simp only [pu_lt, e]
  have e2 : (s - 400) * (w : Int) + i = c_b w s + i := rfl
  rw [e2, pu_gd ⟨by omega, by omega⟩, if_neg (by omega), pu_gd ⟨by omega, by omega⟩, if_pos hb.2, pu_gd hb]
  rfl
theorem c_place {w N : Nat} {m : vl_M} {s i v : Int} (hw : c_w w N m) (hs : c_nd s) (hi : 0 ≤ i ∧ i < (w : Int)) : fn_X4_placeAt w m s i v = some (vl_up m 10 (c_b w s + i) v) := by
  obtain ⟨h5, h11, -, e⟩ := hw
  have hb := c_b_in h5 h11 hs hi
  unfold fn_X4_placeAt
  simp only [pu_lt, e]
  have e2 : (s - 400) * (w : Int) + i = c_b w s + i := rfl
  rw [e2, pu_gd ⟨by omega, by omega⟩, if_neg (by omega), pu_gd ⟨by omega, by omega⟩, if_pos hb.2, pu_gd hb]
theorem c_w_up {w N : Nat} {m : vl_M} (hw : c_w w N m) {h : Nat} {i v : Int} (hh : h ≠ 1) : c_w w N (vl_up m h i v) := ⟨hw.1, hw.2.1, hw.2.2.1, by rw [up_h _ _ _ (Ne.symm hh)]; exact hw.2.2.2⟩
theorem c_w_of {w N : Nat} {m m' : vl_M} (hw : c_w w N m) (h : m' 1 = m 1) : c_w w N m' := ⟨hw.1, hw.2.1, hw.2.2.1, by rw [h]; exact hw.2.2.2⟩
/-- places lo + 1 .. hi get what stood before them -/
def c_shr (m : vl_M) (b lo hi : Int) : vl_M := fun h j => if h = 10 ∧ b + lo < j ∧ j ≤ b + hi then m 10 (j - 1) else m h j
/-- places lo .. hi - 1 get what stood behind them -/
def c_shl (m : vl_M) (b lo hi : Int) : vl_M := fun h j => if h = 10 ∧ b + lo ≤ j ∧ j < b + hi then m 10 (j + 1) else m h j
theorem c_shr_h (m : vl_M) (b lo hi : Int) {h : Nat} (hh : h ≠ 10) : c_shr m b lo hi h = m h := by funext j; simp [c_shr, hh]
theorem c_shl_h (m : vl_M) (b lo hi : Int) {h : Nat} (hh : h ≠ 10) : c_shl m b lo hi h = m h := by funext j; simp [c_shl, hh]
theorem c_attL {w N : Nat} {a1 a2 a3 : Int} {κ : Int → vl_M → Option vl_M} (hs : c_nd a1) (h2 : 0 ≤ a2) (h2r : a2 < (w : Int)) : ∀ (n : Nat) (v : Int) (m : vl_M), c_w w N m → a2 ≤ v → v < (w : Int) → v - a2 < n → fn_X4_attachAt_L8 w N a1 a2 a3 κ n v m = κ a2 (c_shr m (c_b w a1) a2 v) := by
  intro n
  induction n with
  | zero => intro v m _ h1 _ h3; omega
  | succ n ih =>
    intro v m hw h1 h4 h3
    have h11 := hw.2.1
    rw [fn_X4_attachAt_L8, pu_gd ⟨by omega, by omega⟩, pu_gd ⟨by omega, by omega⟩]
    by_cases hlt : a2 < v
    · rw [if_pos hlt, c_thing hw hs ⟨by omega, by omega⟩]
      simp only [Option.bind_some]
      rw [c_place hw hs ⟨by omega, by omega⟩]
      simp only [Option.bind_some, pu_lt]
      rw [ih _ _ (c_w_up hw (by decide)) (by omega) (by omega) (by omega)]
      congr 1
      funext h j
      unfold c_shr vl_up c_k
      by_cases hh : h = 10
      · subst hh
        simp only [true_and]
        generalize c_b w a1 = b
        by_cases hj : j = b + v
        · subst hj
          rw [if_neg (by omega), if_pos rfl, if_pos (by omega)]
          congr 1; omega
        · rw [if_neg hj]
          by_cases hr : b + a2 < j ∧ j ≤ b + (v + -1)
          · rw [if_pos hr, if_neg (by omega), if_pos (by omega)]
          · rw [if_neg hr, if_neg (by omega)]
      · simp [hh]
    · have e : v = a2 := by omega
      subst e
      rw [if_neg hlt]
      congr 1
      funext h j
      unfold c_shr
      rw [if_neg (by omega)]
/-- t comes to the place idx of s, behind which all go one place on -/
def c_ins (w : Nat) (m : vl_M) (s idx t : Int) : vl_M := vl_up (vl_up (vl_up (c_shr m (c_b w s) idx (m 9 s)) 10 (c_b w s + idx) t) 9 s (m 9 s + 1)) 8 t s
theorem c_attachAt {w N : Nat} {m : vl_M} {s idx t : Int} (hw : c_w w N m) (hs : c_nd s) (ht : c_in t) (h1 : 0 ≤ idx) (h2 : idx ≤ m 9 s) (h3 : m 9 s < (w : Int)) : fn_X4_attachAt w N m s idx t = some (c_ins w m s idx t) := by
  have h11 := hw.2.1
  have hN := hw.2.2.1
  unfold fn_X4_attachAt
  simp only [pu_lt]
  rw [pu_gd ⟨by omega, by omega⟩, c_attL hs h1 (by omega) N _ _ hw h2 h3 (by omega), c_place (c_w_of hw (c_shr_h _ _ _ _ (by decide))) hs ⟨h1, by omega⟩]
  simp only [Option.bind_some]
  rw [pu_gd ht, up_h _ _ _ (show (9 : Nat) ≠ 10 by decide), c_shr_h _ _ _ _ (show (9 : Nat) ≠ 10 by decide)]
  rfl
theorem c_ins_h (w : Nat) (m : vl_M) (s idx t : Int) {h : Nat} (h1 : h ≠ 8) (h2 : h ≠ 9) (h3 : h ≠ 10) : c_ins w m s idx t h = m h := by
  unfold c_ins
  rw [up_h _ _ _ h1, up_h _ _ _ h2, up_h _ _ _ h3, c_shr_h _ _ _ _ h3]
theorem c_ins_8 (w : Nat) (m : vl_M) (s idx t u : Int) : c_ins w m s idx t 8 u = if u = t then s else m 8 u := by
  unfold c_ins
  by_cases h : u = t
  · subst h; rw [up_s, if_pos rfl]
  · rw [up_i _ _ h, if_neg h, up_h _ _ _ (show (8 : Nat) ≠ 9 by decide), up_h _ _ _ (show (8 : Nat) ≠ 10 by decide), c_shr_h _ _ _ _ (show (8 : Nat) ≠ 10 by decide)]
theorem c_ins_9 (w : Nat) (m : vl_M) (s idx t u : Int) : c_ins w m s idx t 9 u = if u = s then m 9 s + 1 else m 9 u := by
  unfold c_ins
  rw [up_h _ _ _ (show (9 : Nat) ≠ 8 by decide)]
  by_cases h : u = s
  · subst h; rw [up_s, if_pos rfl]
  · rw [up_i _ _ h, if_neg h, up_h _ _ _ (show (9 : Nat) ≠ 10 by decide), c_shr_h _ _ _ _ (show (9 : Nat) ≠ 10 by decide)]
theorem c_ins_k {w : Nat} {m : vl_M} {s idx t u i : Int} (h5 : 5 ≤ w) (h11 : w ≤ 11) (h1 : 0 ≤ idx) (h2 : idx ≤ m 9 s) (h3 : m 9 s < (w : Int)) (hi : 0 ≤ i ∧ i < (w : Int)) :
    c_k w (c_ins w m s idx t) u i = if u = s then (if i < idx then c_k w m s i else if i = idx then t else if i ≤ m 9 s then c_k w m s (i - 1) else c_k w m s i) else c_k w m u i := by
  unfold c_ins c_k
  rw [up_h _ _ _ (show (10 : Nat) ≠ 8 by decide), up_h _ _ _ (show (10 : Nat) ≠ 9 by decide)]
  by_cases hu : u = s
  · subst hu
    rw [if_pos rfl]
    by_cases e1 : i = idx
    · subst e1
      rw [up_s, if_neg (by omega), if_pos rfl]
    · rw [up_i _ _ (by omega)]
      unfold c_shr
      simp only [true_and]
      by_cases e2 : i < idx
      · rw [if_pos e2, if_neg (by omega)]
      · rw [if_neg e2, if_neg e1]
        by_cases e3 : i ≤ m 9 u
        · rw [if_pos e3, if_pos (by omega)]
          congr 1; omega
        · rw [if_neg e3, if_neg (by omega)]
  · rw [if_neg hu]
    have ho := c_b_out h5 h11 hu hi
    rw [up_i _ _ (by omega)]
    unfold c_shr
    simp only [true_and]
    rw [if_neg (by omega)]
/-- who searches in a node, finds the first place -/
theorem c_idxL {w N : Nat} {m : vl_M} {s t : Int} {κ : Int → Option Int} (hw : c_w w N m) (hs : c_nd s) (ht : vl_r32 t) (hr : ∀ i, 0 ≤ i → i < m 9 s → vl_r32 (c_k w m s i)) (hz : m 9 s ≤ (w : Int)) {p : Int} (hp : 0 ≤ p ∧ p < m 9 s) (hpt : c_k w m s p = t) (hfirst : ∀ i, 0 ≤ i → i < p → c_k w m s i ≠ t) : ∀ (n : Nat) (v : Int), 0 ≤ v → v ≤ p → p - v < n → fn_X4_indexIn_L2 w N m s t κ n v = κ p := by
  intro n
  induction n with
  | zero => intro v _ _ h; omega
  | succ n ih =>
    intro v h1 h2 h3
    have h11 := hw.2.1
    rw [fn_X4_indexIn_L2, pu_gd ⟨by omega, by omega⟩, pu_gd ⟨by omega, by omega⟩, pu_gd ⟨by omega, by omega⟩, if_pos (by omega), c_thing hw hs ⟨by omega, by omega⟩]
    simp only [Option.bind_some]
    rw [pu_gd (hr v h1 (by omega)), pu_gd ht]
    by_cases e : v = p
    · subst e
      rw [if_pos hpt]
    · rw [if_neg (hfirst v h1 (by omega))]
      simp only [pu_lt]
      exact ih (v + 1) (by omega) (by omega) (by omega)
theorem c_indexIn {w N : Nat} {m : vl_M} {s t p : Int} (hw : c_w w N m) (hs : c_nd s) (ht : vl_r32 t) (hr : ∀ i, 0 ≤ i → i < m 9 s → vl_r32 (c_k w m s i)) (hz : m 9 s ≤ (w : Int)) (hp : 0 ≤ p ∧ p < m 9 s) (hpt : c_k w m s p = t) (hfirst : ∀ i, 0 ≤ i → i < p → c_k w m s i ≠ t) : fn_X4_indexIn w N m s t = some p := by
  have h11 := hw.2.1
  have hN := hw.2.2.1
  unfold fn_X4_indexIn
  rw [c_idxL hw hs ht hr hz hp hpt hfirst N 0 (by omega) (by omega) (by omega)]
theorem c_detL {w N : Nat} {s p : Int} {κ : Int → vl_M → Option vl_M} (hs : c_nd s) (hp : 0 ≤ p) : ∀ (n : Nat) (v : Int) (m : vl_M), c_w w N m → p < v → v ≤ m 9 s → m 9 s ≤ (w : Int) → m 9 s - v < n → fn_X4_detach_L31 w N s κ n v m = κ (m 9 s) (c_shl m (c_b w s) (v - 1) (m 9 s - 1)) := by
  intro n
  induction n with
  | zero => intro v m _ _ _ _ h; omega
  | succ n ih =>
    intro v m hw h1 h2 h4 h3
    have h11 := hw.2.1
    rw [fn_X4_detach_L31, pu_gd ⟨by omega, by omega⟩, pu_gd ⟨by omega, by omega⟩]
    by_cases hlt : v < m 9 s
    · rw [if_pos hlt, c_thing hw hs ⟨by omega, by omega⟩]
      simp only [Option.bind_some]
      rw [c_place hw hs ⟨by omega, by omega⟩]
      simp only [Option.bind_some, pu_lt]
      have e9 : vl_up m 10 (c_b w s + (v - 1)) (c_k w m s v) 9 = m 9 := up_h _ _ _ (by decide)
      rw [ih _ _ (c_w_up hw (by decide)) (by omega) (by rw [e9]; omega) (by rw [e9]; omega) (by rw [e9]; omega), e9]
      congr 1
      funext h j
      unfold c_shl vl_up c_k
      by_cases hh : h = 10
      · subst hh
        simp only [true_and]
        generalize c_b w s = b
        by_cases hj : j = b + (v - 1)
        · subst hj
          rw [if_neg (by omega), if_pos rfl, if_pos (by omega)]
          congr 1; omega
        · rw [if_neg hj]
          by_cases hr : b + (v + 1 - 1) ≤ j ∧ j < b + (m 9 s - 1)
          · rw [if_pos hr, if_neg (by omega), if_pos (by omega)]
          · rw [if_neg hr, if_neg (by omega)]
      · simp [hh]
    · have e : v = m 9 s := by omega
      rw [if_neg hlt, e]
      congr 1
      funext h j
      unfold c_shl
      rw [if_neg (by omega)]
/-- the p-th goes out of s -/
def c_del (w : Nat) (m : vl_M) (s p : Int) : vl_M := vl_up (c_shl m (c_b w s) p (m 9 s - 1)) 9 s (m 9 s - 1)
theorem c_detach {w N : Nat} {m : vl_M} {t s p : Int} (hw : c_w w N m) (htc : c_in t) (hst : m 8 t = s) (hs : c_nd s) (hr : ∀ i, 0 ≤ i → i < m 9 s → vl_r32 (c_k w m s i)) (hz : m 9 s ≤ (w : Int)) (hp : 0 ≤ p ∧ p < m 9 s) (hpt : c_k w m s p = t) (hfirst : ∀ i, 0 ≤ i → i < p → c_k w m s i ≠ t) : fn_X4_detach w N m t = some (c_del w m s p) := by
  have h11 := hw.2.1
  have hN := hw.2.2.1
  unfold fn_X4_detach
  simp only [pu_lt]
  rw [pu_gd htc, hst, pu_gd ⟨by omega, by omega⟩, if_neg (by omega), pu_gd ⟨by omega, by omega⟩, pu_gd ⟨by omega, by omega⟩, if_neg (by omega), c_indexIn hw hs ⟨by omega, by omega⟩ hr hz hp hpt hfirst]
  simp only [Option.bind_some]
  rw [c_detL hs hp.1 N _ _ hw (by omega) (by omega) hz (by omega)]
  have e : p + 1 - 1 = p := by omega
  rw [e, c_shl_h _ _ _ _ (show (9 : Nat) ≠ 10 by decide)]
  rfl
theorem c_del_h (w : Nat) (m : vl_M) (s p : Int) {h : Nat} (h2 : h ≠ 9) (h3 : h ≠ 10) : c_del w m s p h = m h := by
  unfold c_del
  rw [up_h _ _ _ h2, c_shl_h _ _ _ _ h3]
theorem c_del_9 (w : Nat) (m : vl_M) (s p u : Int) : c_del w m s p 9 u = if u = s then m 9 s - 1 else m 9 u := by
  unfold c_del
  by_cases h : u = s
  · subst h; rw [up_s, if_pos rfl]
  · rw [up_i _ _ h, if_neg h, c_shl_h _ _ _ _ (show (9 : Nat) ≠ 10 by decide)]
theorem c_del_k {w : Nat} {m : vl_M} {s p u i : Int} (h5 : 5 ≤ w) (h11 : w ≤ 11) (hp : 0 ≤ p ∧ p < m 9 s) (hz : m 9 s ≤ (w : Int)) (hi : 0 ≤ i ∧ i < (w : Int)) :
    c_k w (c_del w m s p) u i = if u = s then (if i < p then c_k w m s i else if i < m 9 s - 1 then c_k w m s (i + 1) else c_k w m s i) else c_k w m u i := by
  unfold c_del c_k
  rw [up_h _ _ _ (show (10 : Nat) ≠ 9 by decide)]
  unfold c_shl
  simp only [true_and]
  by_cases hu : u = s
  · subst hu
    rw [if_pos rfl]
    by_cases e2 : i < p
    · rw [if_pos e2, if_neg (by omega)]
    · rw [if_neg e2]
      by_cases e3 : i < m 9 u - 1
      · rw [if_pos e3, if_pos (by omega)]
        congr 1; omega
      · rw [if_neg e3, if_neg (by omega)]
  · rw [if_neg hu]
    have ho := c_b_out h5 h11 hu hi
    rw [if_neg (by omega)]
/-- one comes behind all; the node's rectangle is made to hold it -/
theorem c_attach {w N : Nat} {m : vl_M} {s t : Int} (hw : c_w w N m) (hs : c_nd s) (ht : c_in t) (h0 : 0 ≤ m 9 s) (h3 : m 9 s < (w : Int)) (ot : r_ok (c_rt m t)) (os : m 9 s ≠ 0 → r_ok (c_rt m s)) :
    fn_X4_attach w N m s t = some (c_ins w (c_set m s (if m 9 s = 0 then c_rt m t else r_cv (c_rt m s) (c_rt m t))) s (m 9 s) t) := by
  have h11 := hw.2.1
  have hsc : c_in s := ⟨by omega, by omega⟩
  unfold fn_X4_attach
  simp only [pu_jn]
  rw [pu_gd hsc, pu_gd ⟨by omega, by omega⟩]
  by_cases e : m 9 s = 0
  · rw [if_pos e, if_pos e, c_copy ht hsc]
    simp only [Option.bind_some]
    have e9 : c_set m s (c_rt m t) 9 = m 9 := c_set_h _ _ _ (by decide) (by decide) (by decide) (by decide)
    rw [c_attachAt (c_w_of hw (c_set_h _ _ _ (by decide) (by decide) (by decide) (by decide))) hs ht (by rw [e9]; exact h0) (Int.le_refl _) (by rw [e9]; exact h3), e9]
    rfl
  · rw [if_neg e, if_neg e, c_cover hsc ht (os e) ot]
    simp only [Option.bind_some]
    have e9 : c_set m s (r_cv (c_rt m s) (c_rt m t)) 9 = m 9 := c_set_h _ _ _ (by decide) (by decide) (by decide) (by decide)
    rw [c_attachAt (c_w_of hw (c_set_h _ _ _ (by decide) (by decide) (by decide) (by decide))) hs ht (by rw [e9]; exact h0) (Int.le_refl _) (by rw [e9]; exact h3), e9]
    rfl
