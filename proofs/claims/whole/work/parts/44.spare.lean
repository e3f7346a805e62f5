/-! ===== PURE, 5: the class's slots; the child that grows least ===== -/
theorem j_cmp {a b : Int} (ha : vl_r32 a) (hb : vl_r32 b) : fn_J6_compare_7cf53 a b = some (if a < b then -1 else if a = b then 0 else 1) := by
  unfold fn_J6_compare_7cf53
  rw [pu_gd ha, pu_gd hb]
  by_cases h : a < b
  · rw [if_pos h, if_pos h]
  · rw [if_neg h, if_neg h]
    by_cases h2 : a = b
    · rw [if_pos h2, if_pos h2]
    · rw [if_neg h2, if_neg h2]
/-- the slot that the next node gets, and the memory behind it -/
def c_fn (m : vl_M) : Int := if m 1 16 = -1 then m 1 15 else m 1 16
def c_newn (m : vl_M) (l : Int) : vl_M := vl_up (vl_up (vl_up (if m 1 16 = -1 then vl_up m 1 15 (m 1 15 + 1) else vl_up m 1 16 (m 8 (m 1 16))) 2 (c_fn m) l) 9 (c_fn m) 0) 8 (c_fn m) (-1)
theorem c_newNode {m : vl_M} {l : Int} (h : m 1 16 = -1 → 400 ≤ m 1 15 ∧ m 1 15 < 804) (h2 : m 1 16 ≠ -1 → c_nd (m 1 16)) : fn_X4_newNode m l = some (c_fn m, c_newn m l) := by
  unfold fn_X4_newNode c_newn c_fn
  simp only [pu_lt]
  by_cases e : m 1 16 = -1
  · have := h e
    rw [e, pu_gd (by decide), if_pos rfl, pu_gd ⟨by omega, by omega⟩, if_pos (by omega), pu_gd ⟨by omega, by omega⟩, if_pos rfl, if_pos rfl]
  · have := h2 e
    rw [pu_gd ⟨by omega, by omega⟩, if_neg e, pu_gd ⟨by omega, by omega⟩, if_neg e, if_neg e]
def c_fren (m : vl_M) (s : Int) : vl_M := vl_up (vl_up (vl_up m 2 s (-2)) 8 s (m 1 16)) 1 16 s
theorem c_freeNode {m : vl_M} {s : Int} (h : c_in s) : fn_X4_freeNode m s = some (c_fren m s) := by
  unfold fn_X4_freeNode c_fren
  simp only [pu_lt]
  rw [pu_gd h, up_h _ _ _ (show (1 : Nat) ≠ 2 by decide)]
/-- a chain of slots by their holders -/
def c_ch (m : vl_M) : Int → List Int → Prop
  | x, [] => x = -1
  | x, a :: t => x = a ∧ c_ch m (m 8 a) t
theorem c_ch_congr {m m' : vl_M} : ∀ (L : List Int) (x : Int), (∀ a, a ∈ L → m' 8 a = m 8 a) → c_ch m x L → c_ch m' x L := by
  intro L
  induction L with
  | nil => intro x _ h; exact h
  | cons a t ih =>
    intro x h1 h
    refine ⟨h.1, ?_⟩
    rw [h1 a List.mem_cons_self]
    exact ih _ (fun b hb => h1 b (List.mem_cons_of_mem _ hb)) h.2
/-- fitting around: the first n + 1 together -/
theorem c_fitL {w N : Nat} {s t : Int} {κ : Int → vl_M → Option vl_M} {m0 : vl_M} {f : Int → pR} (hs : c_nd s) (htc : c_in t) (hz : 0 ≤ m0 9 s ∧ m0 9 s ≤ (w : Int)) (hk : ∀ i, 0 ≤ i → i < m0 9 s → c_in (c_k w m0 s i) ∧ c_k w m0 s i ≠ t ∧ f i = c_rt m0 (c_k w m0 s i) ∧ r_ok (f i)) (hw : c_w w N m0) : ∀ (fu j : Nat), (j : Int) + 1 ≤ m0 9 s → m0 9 s - (j : Int) ≤ (fu : Int) → fn_X4_fitAround_L2 w N t s κ fu ((j : Int) + 1) (c_set m0 t (r_mb f j)) = κ (m0 9 s) (c_set m0 t (r_mb f (m0 9 s - 1).toNat)) := by
  intro fu
  induction fu with
  | zero => intro j h1 h2; omega
  | succ fu ih =>
    intro j h1 h2
    have h11 := hw.2.1
    have e9 : c_set m0 t (r_mb f j) 9 = m0 9 := c_set_h _ _ _ (by decide) (by decide) (by decide) (by decide)
    have hw' : c_w w N (c_set m0 t (r_mb f j)) := c_w_of hw (c_set_h _ _ _ (by decide) (by decide) (by decide) (by decide))
    rw [fn_X4_fitAround_L2, e9, pu_gd ⟨by omega, by omega⟩, pu_gd ⟨by omega, by omega⟩, pu_gd ⟨by omega, by omega⟩]
    by_cases hlt : (j : Int) + 1 < m0 9 s
    · simp only [pu_jn, pu_lt]
      rw [if_pos hlt, if_neg (by omega), c_thing hw' hs ⟨by omega, by omega⟩]
      simp only [Option.bind_some]
      have ek : c_k w (c_set m0 t (r_mb f j)) s ((j : Int) + 1) = c_k w m0 s ((j : Int) + 1) := by
        unfold c_k; rw [c_set_h _ _ _ (by decide) (by decide) (by decide) (by decide)]
      obtain ⟨q1, q2, q3, q4⟩ := hk ((j : Int) + 1) (by omega) hlt
      have ok1 : r_ok (r_mb f j) := r_mb_ok j (fun i a b => (hk i a (by omega)).2.2.2)
      have e1 : c_rt (c_set m0 t (r_mb f j)) t = r_mb f j := c_set_s _ _ _
      have e2 : c_rt (c_set m0 t (r_mb f j)) (c_k w m0 s ((j : Int) + 1)) = f ((j : Int) + 1) := by rw [c_set_ne _ _ q2, q3]
      rw [ek, c_cover htc q1 (by rw [e1]; exact ok1) (by rw [e2]; exact q4), e1, e2]
      simp only [Option.bind_some]
      have e3 : c_set (c_set m0 t (r_mb f j)) t (r_cv (r_mb f j) (f ((j : Int) + 1))) = c_set m0 t (r_mb f (j + 1)) := by
        show _ = c_set m0 t (r_cv (r_mb f j) (f ((j : Int) + 1)))
        funext h x
        unfold c_set vl_up
        repeat' split
        all_goals first | rfl | omega | simp_all
      have ecast : ((j + 1 : Nat) : Int) = (j : Int) + 1 := by omega
      rw [e3]
      have := ih (j + 1) (by omega) (by omega)
      rw [ecast] at this
      exact this
    · rw [if_neg hlt]
      have e : m0 9 s = (j : Int) + 1 := by omega
      have e2 : (m0 9 s - 1).toNat = j := by omega
      rw [e2, e]
theorem c_fit {w N : Nat} {m : vl_M} {s t : Int} {f : Int → pR} (hs : c_nd s) (htc : c_in t) (hz : 0 ≤ m 9 s ∧ m 9 s ≤ (w : Int)) (hk : ∀ i, 0 ≤ i → i < m 9 s → c_in (c_k w m s i) ∧ c_k w m s i ≠ t ∧ f i = c_rt m (c_k w m s i) ∧ r_ok (f i)) (hw : c_w w N m) : fn_X4_fitAround w N m t s = some (if m 9 s = 0 then m else c_set m t (r_mb f (m 9 s - 1).toNat)) := by
  have h11 := hw.2.1
  have hN := hw.2.2.1
  obtain ⟨N', e⟩ : ∃ k, N = k + 1 := ⟨N - 1, by omega⟩
  unfold fn_X4_fitAround
  by_cases h0 : m 9 s = 0
  · rw [if_pos h0]
    conv => lhs; arg 6; rw [e]
    rw [fn_X4_fitAround_L2, pu_gd ⟨by omega, by omega⟩, pu_gd ⟨by omega, by omega⟩, pu_gd ⟨by omega, by omega⟩, if_neg (by omega)]
  · rw [if_neg h0]
    conv => lhs; arg 6; rw [e]
    rw [fn_X4_fitAround_L2, pu_gd ⟨by omega, by omega⟩, pu_gd ⟨by omega, by omega⟩, pu_gd ⟨by omega, by omega⟩, if_pos (by omega)]
    simp only [pu_jn, pu_lt]
    rw [if_pos trivial, c_thing hw hs ⟨by omega, by omega⟩]
    simp only [Option.bind_some]
    obtain ⟨q1, q2, q3, q4⟩ := hk 0 (by omega) (by omega)
    rw [c_copy q1 htc, ← q3]
    simp only [Option.bind_some]
    have := c_fitL (κ := fun v3 m4 => some m4) hs htc hz hk hw N' 0 (by omega) (by omega)
    exact this
/-- which child grows least: the class and the reference take the same one -/
theorem j_choose {w N : Nat} {m r : vl_M} {s t n l u : Int} {f : Int → pR} {b : pR} (hw : c_w w N m) (hs : c_nd s) (hn : d_nd n) (hz : 1 ≤ m 9 s ∧ m 9 s ≤ (w : Int)) (hzr : r 27 n = m 9 s) (ht : c_in t) (htb : c_rt m t = b) (hb : r_ok b) (hu : d_in l u) (hub : d_rt r l u = b)
    (hk : ∀ i, 0 ≤ i → i < m 9 s → c_in (c_k w m s i) ∧ c_rt m (c_k w m s i) = f i ∧ r_ok (f i) ∧ d_nd (d_k r n i) ∧ (0 ≤ r 26 (d_k r n i) ∧ r 26 (d_k r n i) < 1000) ∧ d_rt r (r 26 (d_k r n i)) (d_k r n i) = f i) :
    ∃ j, 0 ≤ j ∧ j < m 9 s ∧ fn_X5_leastGrowing w N m s t = some (c_k w m s j) ∧ fn_X8_choose N r n l u = some (d_k r n j) := by
  have h11 := hw.2.1
  have hN := hw.2.2.1
  have key : ∀ (k : Nat) (i j : Int) (n1 n2 : Nat), m 9 s - i = (k : Int) → k < n1 → k < n2 → 1 ≤ i → 0 ≤ j → j < i → ∃ j', 0 ≤ j' ∧ j' < m 9 s ∧ fn_X5_leastGrowing_L13 w N m s t (fun v4 v5 => some v4) n1 (c_k w m s j) i = some (c_k w m s j') ∧ fn_X8_choose_L13 N r n l u (fun v5 v6 v7 v8 => some v5) n2 (d_k r n j) (r_gr (f j) b) (r_ar (f j)) i = some (d_k r n j') := by
    intro k
    induction k with
    | zero =>
      intro i j n1 n2 hki h1 h2 hi hj0 hj
      obtain ⟨n1, rfl⟩ : ∃ x, n1 = x + 1 := ⟨n1 - 1, by omega⟩
      obtain ⟨n2, rfl⟩ : ∃ x, n2 = x + 1 := ⟨n2 - 1, by omega⟩
      refine ⟨j, hj0, by omega, ?_, ?_⟩
      · rw [fn_X5_leastGrowing_L13, pu_gd ⟨by omega, by omega⟩, pu_gd ⟨by omega, by omega⟩, pu_gd ⟨by omega, by omega⟩, if_neg (by omega)]
      · rw [fn_X8_choose_L13, pu_gd hn, pu_gd ⟨by omega, by omega⟩, pu_gd ⟨by omega, by omega⟩, if_neg (by omega)]
    | succ k ih =>
      intro i j n1 n2 hki h1 h2 hi hj0 hj
      obtain ⟨n1, rfl⟩ : ∃ x, n1 = x + 1 := ⟨n1 - 1, by omega⟩
      obtain ⟨n2, rfl⟩ : ∃ x, n2 = x + 1 := ⟨n2 - 1, by omega⟩
      obtain ⟨a1, a2, a3, a4, a5, a6⟩ := hk i (by omega) (by omega)
      obtain ⟨b1, b2, b3, b4, b5, b6⟩ := hk j hj0 (by omega)
      have gi := r_gr_le a3 hb
      have gj := r_gr_le b3 hb
      have ri := r_ar_le a3
      have rj := r_ar_le b3
      have hr : r_ar (r_cv (f i) b) - r_ar (f i) = r_gr (f i) b := rfl
      have goC : ∀ x : Int, fn_X5_leastGrowing_L13 w N m s t (fun v4 v5 => some v4) (n1 + 1) (c_k w m s j) i = (if r_gr (f i) b < r_gr (f j) b ∨ (r_gr (f i) b = r_gr (f j) b ∧ r_ar (f i) < r_ar (f j)) then fn_X5_leastGrowing_L13 w N m s t (fun v4 v5 => some v4) n1 (c_k w m s i) (i + 1) else fn_X5_leastGrowing_L13 w N m s t (fun v4 v5 => some v4) n1 (c_k w m s j) (i + 1)) := by
        intro _
        rw [fn_X5_leastGrowing_L13, pu_gd ⟨by omega, by omega⟩, pu_gd ⟨by omega, by omega⟩, pu_gd ⟨by omega, by omega⟩, if_pos (by omega), c_thing hw hs ⟨by omega, by omega⟩]
        simp only [Option.bind_some]
        rw [c_growth a1 ht (by rw [a2]; exact a3) (by rw [htb]; exact hb), c_growth b1 ht (by rw [b2]; exact b3) (by rw [htb]; exact hb), a2, b2, htb]
        simp only [Option.bind_some]
        rw [j_cmp ⟨by omega, by omega⟩ ⟨by omega, by omega⟩]
        simp only [Option.bind_some, pu_jn, pu_lt]
        by_cases c1 : r_gr (f i) b < r_gr (f j) b
        · rw [if_pos c1, pu_gd (by decide), if_pos (by decide), if_pos (Or.inl c1)]
        · rw [if_neg c1]
          by_cases c2 : r_gr (f i) b = r_gr (f j) b
          · rw [if_pos c2, pu_gd (by decide), if_neg (by decide), if_pos rfl, c_area a1, c_area b1, a2, b2]
            simp only [Option.bind_some]
            rw [pu_gd ⟨by omega, by omega⟩, pu_gd ⟨by omega, by omega⟩]
            by_cases c3 : r_ar (f i) < r_ar (f j)
            · rw [if_pos c3, if_pos (Or.inr ⟨c2, c3⟩)]
            · rw [if_neg c3, if_neg (by rintro (z | ⟨-, z⟩) <;> omega)]
          · rw [if_neg c2, pu_gd (by decide), if_neg (by decide), if_neg (by decide), if_neg (by rintro (z | ⟨z, -⟩) <;> omega)]
      have goD : ∀ x : Int, fn_X8_choose_L13 N r n l u (fun v5 v6 v7 v8 => some v5) (n2 + 1) (d_k r n j) (r_gr (f j) b) (r_ar (f j)) i = (if r_gr (f i) b < r_gr (f j) b ∨ (r_gr (f i) b = r_gr (f j) b ∧ r_ar (f i) < r_ar (f j)) then fn_X8_choose_L13 N r n l u (fun v5 v6 v7 v8 => some v5) n2 (d_k r n i) (r_gr (f i) b) (r_ar (f i)) (i + 1) else fn_X8_choose_L13 N r n l u (fun v5 v6 v7 v8 => some v5) n2 (d_k r n j) (r_gr (f j) b) (r_ar (f j)) (i + 1)) := by
        intro _
        have din : d_in (r 26 (d_k r n i)) (d_k r n i) := ⟨⟨by omega, by omega⟩, by omega, fun z => by omega, fun _ => by omega⟩
        rw [fn_X8_choose_L13, pu_gd hn, pu_gd ⟨by omega, by omega⟩, pu_gd ⟨by omega, by omega⟩, if_pos (by omega), d_held hn ⟨by omega, by omega⟩]
        simp only [Option.bind_some]
        rw [pu_gd a4, d_areaOf din (by rw [a6]; exact a3), d_areaBoth din hu (by rw [a6]; exact a3) (by rw [hub]; exact hb), a6, hub]
        simp only [Option.bind_some, pu_lt, pu_jn]
        rw [hr, pu_gd ⟨by omega, by omega⟩, if_neg (by omega), pu_gd ⟨by omega, by omega⟩, pu_gd ⟨by omega, by omega⟩]
        by_cases c1 : r_gr (f i) b < r_gr (f j) b
        · rw [if_pos c1, if_pos (Or.inl c1)]
        · rw [if_neg c1]
          by_cases c2 : r_gr (f i) b = r_gr (f j) b
          · rw [if_pos c2, pu_gd ⟨by omega, by omega⟩, pu_gd ⟨by omega, by omega⟩]
            by_cases c3 : r_ar (f i) < r_ar (f j)
            · rw [if_pos c3, if_pos (Or.inr ⟨c2, c3⟩)]
            · rw [if_neg c3, if_neg (by rintro (z | ⟨-, z⟩) <;> omega)]
          · rw [if_neg c2, if_neg (by rintro (z | ⟨z, -⟩) <;> omega)]
      rw [goC 0, goD 0]
      by_cases c : r_gr (f i) b < r_gr (f j) b ∨ (r_gr (f i) b = r_gr (f j) b ∧ r_ar (f i) < r_ar (f j))
      · rw [if_pos c, if_pos c]
        exact ih (i + 1) i n1 n2 (by omega) (by omega) (by omega) (by omega) (by omega) (by omega)
      · rw [if_neg c, if_neg c]
        exact ih (i + 1) j n1 n2 (by omega) (by omega) (by omega) (by omega) hj0 (by omega)
  obtain ⟨N', e⟩ : ∃ x, N = x + 1 := ⟨N - 1, by omega⟩
  obtain ⟨j', q1, q2, q3, q4⟩ := key (m 9 s - 1).toNat 1 0 N N' (by omega) (by omega) (by omega) (by omega) (by omega) (by omega)
  refine ⟨j', q1, q2, ?_, ?_⟩
  · unfold fn_X5_leastGrowing
    rw [c_thing hw hs ⟨by omega, by omega⟩]
    simp only [Option.bind_some]
    exact q3
  · obtain ⟨a1, a2, a3, a4, a5, a6⟩ := hk 0 (by omega) (by omega)
    have din : d_in (r 26 (d_k r n 0)) (d_k r n 0) := ⟨⟨by omega, by omega⟩, by omega, fun z => by omega, fun _ => by omega⟩
    unfold fn_X8_choose
    conv => lhs; arg 7; rw [e]
    rw [fn_X8_choose_L13, pu_gd hn, pu_gd ⟨by omega, by omega⟩, pu_gd ⟨by omega, by omega⟩, if_pos (by omega), d_held hn ⟨by omega, by omega⟩]
    simp only [Option.bind_some]
    rw [pu_gd a4, d_areaOf din (by rw [a6]; exact a3), d_areaBoth din hu (by rw [a6]; exact a3) (by rw [hub]; exact hb), a6, hub]
    simp only [Option.bind_some, pu_lt, pu_jn]
    rw [pu_gd ⟨by omega, by omega⟩, if_pos (by omega)]
    exact q4
