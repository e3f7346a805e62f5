/-! ===== PURE, 4: measuring and places in the reference; spare slots ===== -/
def d_set (r : vl_M) (n : Int) (q : pR) : vl_M := vl_up (vl_up (vl_up (vl_up r 29 (4 * n + 0) q.1) 29 (4 * n + 1) q.2.1) 29 (4 * n + 2) q.2.2.1) 29 (4 * n + 3) q.2.2.2
theorem d_set_h (r : vl_M) (n : Int) (q : pR) {h : Nat} (hh : h ≠ 29) : d_set r n q h = r h := by
  unfold d_set
  rw [up_h _ _ _ hh, up_h _ _ _ hh, up_h _ _ _ hh, up_h _ _ _ hh]
theorem d_set_s (r : vl_M) (n : Int) (q : pR) {l : Int} (hl : ¬ l < 0) : d_rt (d_set r n q) l n = q := by
  obtain ⟨a, b, c, d⟩ := q
  unfold d_rt d_set
  rw [if_neg hl]
  simp only [Prod.mk.injEq]
  refine ⟨?_, ?_, ?_, ?_⟩ <;> simp [vl_up] <;> omega
theorem d_set_ne (r : vl_M) {n t : Int} (q : pR) {l : Int} (h : l < 0 ∨ t ≠ n) : d_rt (d_set r n q) l t = d_rt r l t := by
  unfold d_rt
  by_cases hl : l < 0
  · rw [if_pos hl, if_pos hl, d_set_h _ _ _ (show (25 : Nat) ≠ 29 by decide)]
  · have hne : t ≠ n := h.resolve_left hl
    rw [if_neg hl, if_neg hl]
    simp only [Prod.mk.injEq]
    refine ⟨?_, ?_, ?_, ?_⟩
    all_goals
      unfold d_set
      rw [up_i _ _ (by omega), up_i _ _ (by omega), up_i _ _ (by omega), up_i _ _ (by omega)]
theorem d_c_cv (a b : pR) {k : Int} (hk : 0 ≤ k ∧ k < 4) : d_c (r_cv a b) k = if k < 2 then min (d_c a k) (d_c b k) else max (d_c a k) (d_c b k) := by
  rcases (by omega : k = 0 ∨ k = 1 ∨ k = 2 ∨ k = 3) with rfl | rfl | rfl | rfl <;> simp [d_c, r_cv]
theorem d_c_32 {q : pR} (h : r_ok q) (k : Int) : vl_r32 (d_c q k) := by
  have e := r_ok32 h
  unfold d_c
  split
  · exact e.1
  · split
    · exact e.2.1
    · split
      · exact e.2.2.1
      · exact e.2.2.2
theorem r_mb_ok {f : Int → pR} : ∀ n : Nat, (∀ i : Int, 0 ≤ i → i < (n : Int) + 1 → r_ok (f i)) → r_ok (r_mb f n) := by
  intro n h
  exact r_is_ok (r_mb_is f n) (fun p ⟨i, h1, h2, h3⟩ => by rw [h3]; exact h i h1 h2)
/-- what is read when n is measured, in any memory that differs from r in n's rectangle alone -/
def d_like (r b : vl_M) (n : Int) : Prop := ∀ h : Nat, ∀ j : Int, ¬ (h = 29 ∧ 4 * n ≤ j ∧ j < 4 * n + 4) → b h j = r h j
theorem d_like_rt {r b : vl_M} {n l t : Int} (h : d_like r b n) (ht : l < 0 ∨ t ≠ n) : d_rt b l t = d_rt r l t := by
  unfold d_rt
  by_cases hl : l < 0
  · rw [if_pos hl, if_pos hl, h 25 _ (by omega), h 25 _ (by omega), h 25 _ (by omega), h 25 _ (by omega)]
  · have hne := ht.resolve_left hl
    rw [if_neg hl, if_neg hl, h 29 _ (by omega), h 29 _ (by omega), h 29 _ (by omega), h 29 _ (by omega)]
theorem d_like_up {r b : vl_M} {n k v : Int} (h : d_like r b n) (hk : 0 ≤ k ∧ k < 4) : d_like r (vl_up b 29 (4 * n + k) v) n := by
  intro h' j hj
  unfold vl_up
  rw [if_neg (by omega)]
  exact h h' j hj
/-- what must hold for n to be measured -/
def d_me (r : vl_M) (n : Int) : Prop := d_nd n ∧ (0 ≤ r 27 n ∧ r 27 n ≤ 11) ∧ (0 ≤ r 26 n ∧ r 26 n < 1000) ∧ ∀ i, 0 ≤ i → i < r 27 n → d_in (r 26 n - 1) (d_k r n i) ∧ (r 26 n - 1 < 0 ∨ d_k r n i ≠ n) ∧ r_ok (d_rt r (r 26 n - 1) (d_k r n i))
def d_f (r : vl_M) (n i : Int) : pR := d_rt r (r 26 n - 1) (d_k r n i)
theorem d_meL {N : Nat} {r : vl_M} {n k : Int} {κ : Int → vl_M → Option vl_M} (hm : d_me r n) (hk : 0 ≤ k ∧ k < 4) : ∀ (fu j : Nat) (b : vl_M), d_like r b n → (j : Int) + 1 ≤ r 27 n → r 27 n - (j : Int) ≤ (fu : Int) → fn_X8_measure_L9 N n k κ fu ((j : Int) + 1) (vl_up b 29 (4 * n + k) (d_c (r_mb (d_f r n) j) k)) = κ (r 27 n) (vl_up b 29 (4 * n + k) (d_c (r_mb (d_f r n) (r 27 n - 1).toNat) k)) := by
  intro fu
  induction fu with
  | zero => intro j b _ h1 h2; omega
  | succ fu ih =>
    intro j b hb h1 h2
    obtain ⟨hn, hc, hl, hkid⟩ := hm
    have e27 : vl_up b 29 (4 * n + k) (d_c (r_mb (d_f r n) j) k) 27 = r 27 := by funext x; rw [up_h _ _ _ (show (27 : Nat) ≠ 29 by decide)]; exact hb 27 x (by omega)
    have e26 : vl_up b 29 (4 * n + k) (d_c (r_mb (d_f r n) j) k) 26 = r 26 := by funext x; rw [up_h _ _ _ (show (26 : Nat) ≠ 29 by decide)]; exact hb 26 x (by omega)
    rw [fn_X8_measure_L9, e27, e26, pu_gd hn, pu_gd ⟨by omega, by omega⟩, pu_gd ⟨by omega, by omega⟩]
    by_cases hlt : (j : Int) + 1 < r 27 n
    · rw [if_pos hlt, d_held hn ⟨by omega, by omega⟩]
      simp only [Option.bind_some]
      have ek : d_k (vl_up b 29 (4 * n + k) (d_c (r_mb (d_f r n) j) k)) n ((j : Int) + 1) = d_k r n ((j : Int) + 1) := by
        unfold d_k; rw [up_h _ _ _ (show (28 : Nat) ≠ 29 by decide)]; exact hb 28 _ (by omega)
      obtain ⟨q1, q2, q3⟩ := hkid ((j : Int) + 1) (by omega) hlt
      rw [ek, d_side q1 hk]
      simp only [Option.bind_some, pu_lt, pu_jn]
      rw [d_like_rt (d_like_up hb hk) q2, pu_gd ⟨by omega, by omega⟩, up_s, if_neg (by omega)]
      have ok1 : r_ok (r_mb (d_f r n) j) := r_mb_ok j (fun i h1' h2' => (hkid i h1' (by omega)).2.2)
      have step : r_mb (d_f r n) (j + 1) = r_cv (r_mb (d_f r n) j) (d_f r n ((j : Int) + 1)) := rfl
      have ecast : ((j + 1 : Nat) : Int) = (j : Int) + 1 := by omega
      have fin : ∀ x : Int, x = d_c (r_mb (d_f r n) (j + 1)) k → fn_X8_measure_L9 N n k κ fu ((j : Int) + 1 + 1) (vl_up (vl_up b 29 (4 * n + k) (d_c (r_mb (d_f r n) j) k)) 29 (4 * n + k) x) = κ (r 27 n) (vl_up b 29 (4 * n + k) (d_c (r_mb (d_f r n) (r 27 n - 1).toNat) k)) := by
        intro x hx
        have e2 : vl_up (vl_up b 29 (4 * n + k) (d_c (r_mb (d_f r n) j) k)) 29 (4 * n + k) x = vl_up b 29 (4 * n + k) x := by
          funext h' j'
          unfold vl_up
          split <;> simp_all
        rw [e2, hx, ← ecast]
        exact ih (j + 1) b hb (by omega) (by omega)
      by_cases hk2 : k < 2
      · rw [if_pos hk2, d_lesser (d_c_32 ok1 k) (d_c_32 q3 k)]
        simp only [Option.bind_some]
        exact fin _ (by rw [step, d_c_cv _ _ hk, if_pos hk2]; rfl)
      · rw [if_neg hk2, d_greater (d_c_32 ok1 k) (d_c_32 q3 k)]
        simp only [Option.bind_some]
        exact fin _ (by rw [step, d_c_cv _ _ hk, if_neg hk2]; rfl)
    · rw [if_neg hlt]
      have e : r 27 n = (j : Int) + 1 := by omega
      have e2 : (r 27 n - 1).toNat = j := by omega
      rw [e2, e]
theorem d_meK {N fu : Nat} {r b : vl_M} {n k : Int} {κ : Int → vl_M → Option vl_M} (hm : d_me r n) (hk : 0 ≤ k ∧ k < 4) (hb : d_like r b n) (h1 : 1 ≤ r 27 n) (hf : r 27 n < (fu : Int)) : fn_X8_measure_L9 N n k κ fu 0 b = κ (r 27 n) (vl_up b 29 (4 * n + k) (d_c (r_mb (d_f r n) (r 27 n - 1).toNat) k)) := by
  obtain ⟨fu, rfl⟩ : ∃ f, fu = f + 1 := ⟨fu - 1, by omega⟩
  have hm' := hm
  obtain ⟨hn, hc, hl, hkid⟩ := hm
  have e27 : b 27 = r 27 := by funext x; exact hb 27 x (by omega)
  have e26 : b 26 = r 26 := by funext x; exact hb 26 x (by omega)
  rw [fn_X8_measure_L9, e27, e26, pu_gd hn, pu_gd ⟨by omega, by omega⟩, pu_gd ⟨by omega, by omega⟩, if_pos (by omega), d_held hn ⟨by omega, by omega⟩]
  simp only [Option.bind_some]
  have ek : d_k b n 0 = d_k r n 0 := by unfold d_k; exact hb 28 _ (by omega)
  obtain ⟨q1, q2, q3⟩ := hkid 0 (by omega) (by omega)
  rw [ek, d_side q1 hk]
  simp only [Option.bind_some, pu_lt, pu_jn]
  rw [d_like_rt hb q2, pu_gd ⟨by omega, by omega⟩, if_pos trivial]
  have := d_meL (N := N) (κ := κ) hm' hk fu 0 b hb (by omega) (by omega)
  exact this
/-- n is measured: its rectangle is the least around what it holds -/
def d_mea (r : vl_M) (n : Int) : vl_M := if r 27 n = 0 then r else d_set r n (r_mb (d_f r n) (r 27 n - 1).toNat)
theorem d_measure {N : Nat} {r : vl_M} {n : Int} (hN : 100000 ≤ N) (hm : d_me r n) : fn_X8_measure N r n = some (d_mea r n) := by
  obtain ⟨N', rfl⟩ : ∃ k, N = k + 5 := ⟨N - 5, by omega⟩
  have hm' := hm
  obtain ⟨hn, hc, hl, hkid⟩ := hm
  unfold fn_X8_measure d_mea
  by_cases h0 : r 27 n = 0
  · rw [if_pos h0]
    have skip : ∀ (k : Int) (κ : Int → vl_M → Option vl_M), fn_X8_measure_L9 (N' + 5) n k κ (N' + 5) 0 r = κ 0 r := by
      intro k κ
      rw [fn_X8_measure_L9, pu_gd hn, pu_gd ⟨by omega, by omega⟩, pu_gd ⟨by omega, by omega⟩, if_neg (by omega)]
    rw [fn_X8_measure_L2, pu_gd ⟨by omega, by omega⟩, if_pos (by omega), skip]
    simp only [pu_lt]
    rw [fn_X8_measure_L2, pu_gd ⟨by omega, by omega⟩, if_pos (by omega), skip]
    simp only [pu_lt]
    rw [fn_X8_measure_L2, pu_gd ⟨by omega, by omega⟩, if_pos (by omega), skip]
    simp only [pu_lt]
    rw [fn_X8_measure_L2, pu_gd ⟨by omega, by omega⟩, if_pos (by omega), skip]
    simp only [pu_lt]
    rw [fn_X8_measure_L2, pu_gd ⟨by omega, by omega⟩, if_neg (by omega)]
  · rw [if_neg h0]
    have b0 : d_like r r n := fun _ _ _ => rfl
    generalize hq : r_mb (d_f r n) (r 27 n - 1).toNat = q
    rw [fn_X8_measure_L2, pu_gd ⟨by omega, by omega⟩, if_pos (by omega), d_meK hm' (by omega) b0 (by omega) (by omega), hq]
    simp only [pu_lt]
    have b1 := d_like_up (v := d_c q 0) b0 (show (0 : Int) ≤ 0 ∧ (0 : Int) < 4 by omega)
    rw [fn_X8_measure_L2, pu_gd ⟨by omega, by omega⟩, if_pos (by omega), d_meK hm' (by omega) b1 (by omega) (by omega), hq]
    simp only [pu_lt]
    have b2 := d_like_up (v := d_c q (0 + 1)) b1 (show (0 : Int) ≤ 0 + 1 ∧ (0 + 1 : Int) < 4 by omega)
    rw [fn_X8_measure_L2, pu_gd ⟨by omega, by omega⟩, if_pos (by omega), d_meK hm' (by omega) b2 (by omega) (by omega), hq]
    simp only [pu_lt]
    have b3 := d_like_up (v := d_c q (0 + 1 + 1)) b2 (show (0 : Int) ≤ 0 + 1 + 1 ∧ (0 + 1 + 1 : Int) < 4 by omega)
    rw [fn_X8_measure_L2, pu_gd ⟨by omega, by omega⟩, if_pos (by omega), d_meK hm' (by omega) b3 (by omega) (by omega), hq]
    simp only [pu_lt]
    rw [fn_X8_measure_L2, pu_gd ⟨by omega, by omega⟩, if_neg (by omega)]
    rfl
/-- the first place of t in n -/
theorem d_plL {N : Nat} {r : vl_M} {n t : Int} {κ : Int → Option Int} (hn : d_nd n) (ht : vl_r32 t) {p : Int} (hp : 0 ≤ p ∧ p < 11) (hr : ∀ i, 0 ≤ i → i ≤ p → vl_r32 (d_k r n i)) (hpt : d_k r n p = t) (hfirst : ∀ i, 0 ≤ i → i < p → d_k r n i ≠ t) : ∀ (fu : Nat) (v : Int), 0 ≤ v → v ≤ p → p - v < (fu : Int) → fn_X8_placeIn_L2 N r n t κ fu v = κ p := by
  intro fu
  induction fu with
  | zero => intro v _ _ h; omega
  | succ fu ih =>
    intro v h1 h2 h3
    rw [fn_X8_placeIn_L2, d_held hn ⟨by omega, by omega⟩]
    simp only [Option.bind_some]
    rw [pu_gd (hr v h1 h2), pu_gd ht]
    by_cases e : v = p
    · subst e
      rw [if_pos hpt]
    · rw [if_neg (hfirst v h1 (by omega))]
      simp only [pu_lt]
      exact ih (v + 1) (by omega) (by omega) (by omega)
theorem d_placeIn {N : Nat} {r : vl_M} {n t p : Int} (hN : 100000 ≤ N) (hn : d_nd n) (ht : vl_r32 t) (hp : 0 ≤ p ∧ p < 11) (hr : ∀ i, 0 ≤ i → i ≤ p → vl_r32 (d_k r n i)) (hpt : d_k r n p = t) (hfirst : ∀ i, 0 ≤ i → i < p → d_k r n i ≠ t) : fn_X8_placeIn N r n t = some p := by
  unfold fn_X8_placeIn
  rw [d_plL hn ht hp hr hpt hfirst N 0 (by omega) (by omega) (by omega)]
def d_shl (r : vl_M) (b lo hi : Int) : vl_M := fun h j => if h = 28 ∧ b + lo ≤ j ∧ j < b + hi then r 28 (j + 1) else r h j
theorem d_shl_h (r : vl_M) (b lo hi : Int) {h : Nat} (hh : h ≠ 28) : d_shl r b lo hi h = r h := by funext j; simp [d_shl, hh]
theorem d_tkL {N : Nat} {n : Int} {κ : Int → vl_M → Option vl_M} (hn : d_nd n) : ∀ (fu : Nat) (v : Int) (r : vl_M), 0 ≤ v → v < r 27 n → r 27 n ≤ 11 → r 27 n - v < (fu : Int) → fn_X8_takeFrom_L7 N n κ fu v r = κ (r 27 n - 1) (d_shl r (11 * n) v (r 27 n - 1)) := by
  intro fu
  induction fu with
  | zero => intro v r _ _ _ h; omega
  | succ fu ih =>
    intro v r h1 h2 h4 h3
    rw [fn_X8_takeFrom_L7, pu_gd hn, pu_gd ⟨by omega, by omega⟩, pu_gd ⟨by omega, by omega⟩]
    by_cases hlt : v + 1 < r 27 n
    · rw [if_pos hlt, pu_gd ⟨by omega, by omega⟩, pu_gd ⟨by omega, by omega⟩]
      simp only [pu_lt]
      have e : vl_up r 28 (11 * n + v) (r 28 (11 * n + v + 1)) 27 = r 27 := up_h _ _ _ (by decide)
      rw [ih _ _ (by omega) (by rw [e]; omega) (by rw [e]; omega) (by rw [e]; omega), e]
      congr 1
      funext h j
      unfold d_shl vl_up
      by_cases hh : h = 28
      · subst hh
        simp only [true_and]
        by_cases hj : j = 11 * n + v
        · subst hj
          rw [if_neg (by omega), if_pos rfl, if_pos (by omega)]
        · rw [if_neg hj]
          by_cases hr : 11 * n + (v + 1) ≤ j ∧ j < 11 * n + (r 27 n - 1)
          · rw [if_pos hr, if_neg (by omega), if_pos (by omega)]
          · rw [if_neg hr, if_neg (by omega)]
      · simp [hh]
    · rw [if_neg hlt]
      have e : v = r 27 n - 1 := by omega
      rw [e]
      congr 1
      funext h j
      unfold d_shl
      rw [if_neg (by omega)]
/-- the p-th goes out of n -/
def d_del (r : vl_M) (n p : Int) : vl_M := vl_up (d_shl r (11 * n) p (r 27 n - 1)) 27 n (r 27 n - 1)
theorem d_takeFrom {N : Nat} {r : vl_M} {n t p : Int} (hN : 100000 ≤ N) (hn : d_nd n) (ht : vl_r32 t) (hp : 0 ≤ p ∧ p < r 27 n) (hc : r 27 n ≤ 11) (hr : ∀ i, 0 ≤ i → i ≤ p → vl_r32 (d_k r n i)) (hpt : d_k r n p = t) (hfirst : ∀ i, 0 ≤ i → i < p → d_k r n i ≠ t) : fn_X8_takeFrom N r n t = some (d_del r n p) := by
  unfold fn_X8_takeFrom
  rw [d_placeIn hN hn ht ⟨by omega, by omega⟩ hr hpt hfirst]
  simp only [Option.bind_some]
  rw [d_tkL hn N p r hp.1 hp.2 hc (by omega)]
  simp only [pu_lt]
  rw [pu_gd hn, d_shl_h _ _ _ _ (show (27 : Nat) ≠ 28 by decide)]
  rfl
theorem d_del_h (r : vl_M) (n p : Int) {h : Nat} (h1 : h ≠ 27) (h2 : h ≠ 28) : d_del r n p h = r h := by
  unfold d_del
  rw [up_h _ _ _ h1, d_shl_h _ _ _ _ h2]
theorem d_del_27 (r : vl_M) (n p u : Int) : d_del r n p 27 u = if u = n then r 27 n - 1 else r 27 u := by
  unfold d_del
  by_cases h : u = n
  · subst h; rw [up_s, if_pos rfl]
  · rw [up_i _ _ h, if_neg h, d_shl_h _ _ _ _ (show (27 : Nat) ≠ 28 by decide)]
theorem d_del_k {r : vl_M} {n p u i : Int} (hp : 0 ≤ p ∧ p < r 27 n) (hc : r 27 n ≤ 11) (hi : 0 ≤ i ∧ i < 11) : d_k (d_del r n p) u i = if u = n then (if i < p then d_k r n i else if i < r 27 n - 1 then d_k r n (i + 1) else d_k r n i) else d_k r u i := by
  unfold d_del d_k
  rw [up_h _ _ _ (show (28 : Nat) ≠ 27 by decide)]
  unfold d_shl
  simp only [true_and]
  by_cases hu : u = n
  · subst hu
    rw [if_pos rfl]
    by_cases e2 : i < p
    · rw [if_pos e2, if_neg (by omega)]
    · rw [if_neg e2]
      by_cases e3 : i < r 27 u - 1
      · rw [if_pos e3, if_pos (by omega)]
        congr 1; omega
      · rw [if_neg e3, if_neg (by omega)]
  · rw [if_neg hu, if_neg (by omega)]
/-- a new node: the first that is none -/
theorem d_ndL {N : Nat} {r : vl_M} {l f : Int} {κ : Int → Option (Int × vl_M)} (hf : 0 ≤ f ∧ f < 500) (hl : ∀ i, 0 ≤ i → i ≤ f → vl_r32 (r 26 i)) (hff : r 26 f < 0) (hfirst : ∀ i, 0 ≤ i → i < f → ¬ r 26 i < 0) : ∀ (fu : Nat) (v : Int), 0 ≤ v → v ≤ f → f - v < (fu : Int) → fn_X8_node_L2 N r l κ fu v = κ f := by
  intro fu
  induction fu with
  | zero => intro v _ _ h; omega
  | succ fu ih =>
    intro v h1 h2 h3
    rw [fn_X8_node_L2, pu_gd ⟨by omega, by omega⟩, pu_gd (hl v h1 h2)]
    by_cases e : v = f
    · subst e
      rw [if_pos hff]
    · rw [if_neg (hfirst v h1 (by omega))]
      simp only [pu_lt]
      exact ih (v + 1) (by omega) (by omega) (by omega)
def d_new (r : vl_M) (f l : Int) : vl_M := vl_up (vl_up (vl_up r 26 f l) 27 f 0) 30 f (-2)
theorem d_node {N : Nat} {r : vl_M} {l f : Int} (hN : 100000 ≤ N) (hf : 0 ≤ f ∧ f < 500) (hl : ∀ i, 0 ≤ i → i ≤ f → vl_r32 (r 26 i)) (hff : r 26 f < 0) (hfirst : ∀ i, 0 ≤ i → i < f → ¬ r 26 i < 0) : fn_X8_node N r l = some (f, d_new r f l) := by
  unfold fn_X8_node
  rw [d_ndL hf hl hff hfirst N 0 (by omega) (by omega) (by omega)]
  simp only [pu_lt]
  rw [pu_gd hf]
  rfl
/-- the first of the numbers below k that has it -/
theorem pu_first {P : Int → Prop} : ∀ k : Nat, (∃ i : Nat, i < k ∧ P (i : Int)) → ∃ f : Int, 0 ≤ f ∧ f < (k : Int) ∧ P f ∧ ∀ i, 0 ≤ i → i < f → ¬ P i := by
  intro k
  induction k with
  | zero => rintro ⟨i, h, -⟩; omega
  | succ k ih =>
    rintro ⟨i, h1, h2⟩
    by_cases h : ∃ i : Nat, i < k ∧ P (i : Int)
    · obtain ⟨f, a, b, c, d⟩ := ih h
      exact ⟨f, a, by omega, c, d⟩
    · have e : i = k := by
        by_cases q : i < k
        · exact absurd ⟨i, q, h2⟩ h
        · omega
      subst e
      refine ⟨(i : Int), by omega, by omega, h2, fun j h3 h4 h5 => h ⟨j.toNat, by omega, ?_⟩⟩
      have : ((j.toNat : Nat) : Int) = j := by omega
      rw [this]; exact h5
