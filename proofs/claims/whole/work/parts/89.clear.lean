/-! ===== PURE, 50: one empty leaf; clear ===== -/
theorem q_leaf1 {w : Nat} {m r : vl_M} {φ : Int → Int} (hP : s_P w m) (h15 : m 1 15 = 401) (h16 : m 1 16 = -1) (h2 : m 2 400 = 0) (h9 : m 9 400 = 0) (h8 : m 8 400 = -1) (h6 : m 11 6 = 400) (hE : s_E m) (hS : ∃ L, c_ch m (m 1 14) L ∧ L.Nodup ∧ ∀ e, e ∈ L ↔ ((0 ≤ e ∧ e < m 1 13) ∧ m 2 e ≠ -1)) (hφ : φ 400 = 0) (h26 : r 26 0 = 0) (h26n : ∀ n, 0 < n → n < 500 → r 26 n = -2) (h27 : r 27 0 = 0) (h30 : r 30 0 = -2) (h11 : r 23 11 = 0) (hr1 : r 23 1 = m 1 0 ∧ r 23 2 = m 1 1) (hr5 : r 23 5 = m 1 12) (hc : r 23 12 = m 11 7 ∧ r 23 13 = m 11 8) (hsi : ∀ e e', c_LE m e → c_LE m e' → φ e = φ e' → e = e') (hso : ∀ n, 0 ≤ n → n < 401 → (0 ≤ r 24 n ∧ ∃ e, c_LE m e ∧ φ e = n) ∨ r 24 n = -2) (hse : q_se m r φ) : q_I w m r φ (c_LE m) (-1) := by
  have LN : ∀ s, c_LN m s ↔ s = 400 := fun s => by
    unfold c_LN
    rw [h15]
    exact ⟨fun z => by omega, fun z => by rw [z, h2]; exact ⟨by omega, by omega⟩⟩
  have hn : ¬ c_LE m 400 := fun z => by have := c_LE_lt hP z; omega
  refine ⟨⟨hP, fun s hs => ?_, fun c hc h1 h2' => ?_, ⟨⟨?_, ?_⟩, ?_, fun c hc => Or.inl hc⟩⟩, ⟨hE, ⟨[], ?_, List.nodup_nil, fun s => ?_⟩, hS⟩, fun s hs _ h0 => ?_, ⟨fun s hs => ?_, ⟨fun s t hs ht _ => ?_, hsi⟩, ⟨fun n hn => ?_, hso⟩, hse⟩, ⟨by rw [h11, h6, hφ], hr1, hr5, hc⟩⟩
  · have := (LN s).mp hs
    rw [this, h2, h9]
    exact ⟨⟨by omega, by omega, by omega⟩, fun i i1 i2 => by omega⟩
  · rcases hc with z | z
    · exact absurd z h2'
    · rw [h6] at h1
      exact absurd ((LN c).mp z) h1
  · rw [h6]; exact (LN 400).mpr rfl
  · rw [h6]; exact h8
  · rw [h6]; exact hn
  · rw [h16]; rfl
  · rw [h15]
    refine ⟨fun z => (List.not_mem_nil z).elim, fun z => ?_⟩
    have : s = 400 := by omega
    rw [this, h2] at z
    omega
  · have := (LN s).mp hs
    rw [this, h9] at h0
    omega
  · have := (LN s).mp hs
    rw [this, hφ, h26, h27, h30, h2, h9, h6]
    exact ⟨⟨⟨by omega, by omega⟩, rfl, rfl⟩, fun i i1 i2 => by omega, fun z => absurd rfl z, fun _ => rfl⟩
  · rw [(LN s).mp hs, (LN t).mp ht]
  · by_cases c : n = 0
    · left
      rw [c, h26]
      exact ⟨Int.le_refl _, 400, (LN 400).mpr rfl, hφ⟩
    · right
      exact h26n n (by omega) hn.2
theorem q_leafB {w : Nat} {m r : vl_M} {φ : Int → Int} (h : q_I w m r φ (c_LE m) (-1)) (h15 : m 1 15 = 401) (h2 : m 2 400 = 0) (h9 : m 9 400 = 0) (h6 : m 11 6 = 400) (hno : ∀ e, ¬ c_LE m e) (h12 : m 1 12 = 0) (hV : q_V m) : q_B w m r φ := by
  have eX : (c_LE m) = (fun _ => False) := funext fun x => propext ⟨fun z => hno x z, fun z => z.elim⟩
  rw [eX] at h
  have hP := h.1.1
  have LN : ∀ s, c_LN m s → s = 400 := fun s hs => by have := hs.1; rw [h15] at this; omega
  refine ⟨h, ⟨⟨fun s hs => ⟨fun z => absurd (by rw [LN s hs, h6]) z, fun _ => ?_⟩, fun z => ?_⟩, fun z => ?_⟩, fun e e' he => absurd he (hno e), ?_, hV⟩
  · rw [LN s hs, h9]
    have := hP.2.2.1
    omega
  · rw [h6, h2] at z; omega
  · rw [h6, h2] at z; omega
  · unfold q_N
    have e := pu_cnt_congr (p := fun e => decide (m 2 e = -1 ∧ e < m 1 13)) (q := fun _ => false) 400 (fun i hi => decide_eq_false (fun z => hno (i : Int) ⟨⟨by omega, z.2⟩, z.1⟩))
    have : ∀ n, pu_cnt (fun _ => false) n = 0 := by
      intro n
      induction n with
      | zero => rfl
      | succ n ih => show pu_cnt (fun _ => false) n + 0 = 0; rw [ih]
    rw [h12, e, this]
    rfl
/-- the class starts empty -/
def c_emp (m : vl_M) : vl_M := vl_up (c_newn (vl_up (vl_up m 1 15 400) 1 16 (-1)) 0) 11 6 400
theorem c_emp_fn (m : vl_M) : c_fn (vl_up (vl_up m 1 15 400) 1 16 (-1)) = 400 := by
  unfold c_fn
  rw [if_pos (up_s _ _ _ _), up_i _ _ (by decide), up_s]
theorem c_startEmpty {w N : Nat} (m : vl_M) : fn_X5_startEmpty w N m = (fn_X5_renumber w N (c_emp m)).bind fun m7 => some m7 := by
  unfold fn_X5_startEmpty fn_X4_forgetNodes
  rw [pu_lt, pu_lt, Option.bind_some, c_newNode (fun _ => by rw [up_i _ _ (by decide), up_s]; exact ⟨by decide, by decide⟩) (fun z => absurd (up_s _ _ _ _) z), Option.bind_some, pu_un, c_emp_fn, pu_lt]
  rfl
theorem c_emp_h (m : vl_M) {h : Nat} (h1 : h ≠ 1) (h2 : h ≠ 2) (h3 : h ≠ 8) (h4 : h ≠ 9) (h5 : h ≠ 11) : c_emp m h = m h := by
  unfold c_emp
  rw [up_h _ _ _ h5, c_newn_h _ _ h1 h2 h3 h4, up_h _ _ _ h1, up_h _ _ _ h1]
theorem c_emp_1 (m : vl_M) {j : Int} (h1 : j ≠ 15) (h2 : j ≠ 16) : c_emp m 1 j = m 1 j := by
  unfold c_emp
  rw [up_h _ _ _ (by decide), c_newn_1 _ _ h1 h2, up_i _ _ h2, up_i _ _ h1]
theorem c_emp_15 (m : vl_M) : c_emp m 1 15 = 401 := by
  unfold c_emp
  rw [up_h _ _ _ (by decide), c_newn_15, if_pos (up_s _ _ _ _), up_i _ _ (by decide), up_s]; rfl
theorem c_emp_16 (m : vl_M) : c_emp m 1 16 = -1 := by
  unfold c_emp
  rw [up_h _ _ _ (by decide), c_newn_16, if_pos (up_s _ _ _ _)]
theorem c_emp_2 (m : vl_M) (u : Int) : c_emp m 2 u = if u = 400 then 0 else m 2 u := by
  unfold c_emp
  rw [up_h _ _ _ (by decide), c_newn_2, c_emp_fn, up_h _ _ _ (by decide), up_h _ _ _ (by decide)]
theorem c_emp_9 (m : vl_M) (u : Int) : c_emp m 9 u = if u = 400 then 0 else m 9 u := by
  unfold c_emp
  rw [up_h _ _ _ (by decide), c_newn_9, c_emp_fn, up_h _ _ _ (by decide), up_h _ _ _ (by decide)]
theorem c_emp_8 (m : vl_M) (u : Int) : c_emp m 8 u = if u = 400 then -1 else m 8 u := by
  unfold c_emp
  rw [up_h _ _ _ (by decide), c_newn_8, c_emp_fn, up_h _ _ _ (by decide), up_h _ _ _ (by decide)]
theorem c_emp_11 (m : vl_M) {j : Int} (h : j ≠ 6) : c_emp m 11 j = m 11 j := by
  unfold c_emp
  rw [up_i _ _ h, c_newn_h _ _ (by decide) (by decide) (by decide) (by decide), up_h _ _ _ (by decide), up_h _ _ _ (by decide)]
theorem c_emp_6 (m : vl_M) : c_emp m 11 6 = 400 := up_s _ _ _ _
/-- a row is filled -/
def d_fill (r : vl_M) (h0 : Nat) (lo hi v : Int) : vl_M := fun h j => if h = h0 ∧ lo ≤ j ∧ j < hi then v else r h j
theorem d_fill_h (r : vl_M) (h0 : Nat) (lo hi v : Int) {h : Nat} (hh : h ≠ h0) : d_fill r h0 lo hi v h = r h := by funext j; simp [d_fill, hh]
theorem d_fill_in (r : vl_M) (h0 : Nat) {lo hi v j : Int} (h : lo ≤ j ∧ j < hi) : d_fill r h0 lo hi v h0 j = v := by unfold d_fill; rw [if_pos ⟨rfl, h⟩]
theorem d_fill_step (r : vl_M) (h0 : Nat) {lo hi v : Int} (h : lo ≤ hi) : vl_up (d_fill r h0 lo hi v) h0 hi v = d_fill r h0 lo (hi + 1) v := by
  funext k j
  unfold vl_up d_fill
  by_cases c : k = h0
  · subst c
    by_cases e : j = hi
    · rw [if_pos ⟨rfl, e⟩, if_pos ⟨rfl, by omega, by omega⟩]
    · rw [if_neg (fun z => e z.2)]
      by_cases z : lo ≤ j ∧ j < hi
      · rw [if_pos ⟨rfl, z⟩, if_pos ⟨rfl, by omega, by omega⟩]
      · rw [if_neg (fun y => z y.2), if_neg (fun y => z ⟨y.2.1, by omega⟩)]
  · rw [if_neg (fun z => c z.1), if_neg (fun z => c z.1), if_neg (fun z => c z.1)]
theorem d_fill_0 (r : vl_M) (h0 : Nat) (lo v : Int) : d_fill r h0 lo lo v = r := by
  funext k j
  unfold d_fill
  rw [if_neg (by omega)]
theorem d_clL40 {N : Nat} {r : vl_M} {v1 : Int} {κ : Int → vl_M → Option (Int × vl_M)} : ∀ (n fu : Nat) (v : Int), 0 ≤ v → v + (n : Int) = 500 → n < fu → fn_X8_clear_L40 N v1 κ fu v (d_fill r 26 0 v (-2)) = κ 500 (d_fill r 26 0 500 (-2)) := by
  intro n
  induction n with
  | zero =>
    intro fu v h1 h2 h3
    obtain ⟨fu, rfl⟩ : ∃ x, fu = x + 1 := ⟨fu - 1, by omega⟩
    rw [fn_X8_clear_L40, pu_gd ⟨by omega, by omega⟩, if_neg (by omega), show v = 500 by omega]
  | succ n ih =>
    intro fu v h1 h2 h3
    obtain ⟨fu, rfl⟩ : ∃ x, fu = x + 1 := ⟨fu - 1, by omega⟩
    rw [fn_X8_clear_L40, pu_gd ⟨by omega, by omega⟩, if_pos (by omega), pu_gd ⟨by omega, by omega⟩, pu_lt, d_fill_step r 26 h1, pu_lt]
    exact ih fu (v + 1) (by omega) (by omega) (by omega)
theorem d_clL17 {N : Nat} {r : vl_M} {v1 : Int} {κ : Int → vl_M → Option (Int × vl_M)} : ∀ (n fu : Nat) (v : Int), 0 ≤ v → v + (n : Int) = 401 → n < fu → fn_X8_clear_L17 N v1 κ fu v (d_fill r 24 0 v (-2)) = κ 401 (d_fill r 24 0 401 (-2)) := by
  intro n
  induction n with
  | zero =>
    intro fu v h1 h2 h3
    obtain ⟨fu, rfl⟩ : ∃ x, fu = x + 1 := ⟨fu - 1, by omega⟩
    rw [fn_X8_clear_L17, pu_gd ⟨by omega, by omega⟩, if_pos (by omega), show v = 401 by omega]
  | succ n ih =>
    intro fu v h1 h2 h3
    obtain ⟨fu, rfl⟩ : ∃ x, fu = x + 1 := ⟨fu - 1, by omega⟩
    rw [fn_X8_clear_L17, pu_gd ⟨by omega, by omega⟩, if_neg (by omega), pu_gd ⟨by omega, by omega⟩, pu_lt, d_fill_step r 24 h1, pu_lt]
    exact ih fu (v + 1) (by omega) (by omega) (by omega)
/-- all nodes gone, then one leaf, in the reference -/
theorem d_leaf1 {N : Nat} {r : vl_M} (hN : 100000 ≤ N) : fn_X8_node N (d_fill r 26 0 500 (-2)) 0 = some (0, d_new (d_fill r 26 0 500 (-2)) 0 0) := by
  refine d_node hN ⟨by decide, by decide⟩ (fun i i1 i2 => ?_) ?_ (fun i i1 i2 => by omega)
  · rw [d_fill_in r 26 ⟨i1, by omega⟩]; decide
  · rw [d_fill_in r 26 ⟨by decide, by decide⟩]; decide
theorem t_clear {n w N : Nat} {m r : vl_M} {φ : Int → Int} (hN : 100000 ≤ N) (h : q_top n w m r φ) : ∃ v m' r' φ', fn_X7_clear w N m = some (v, m') ∧ fn_X8_clear N r = some (v, r') ∧ vl_r32 v ∧ q_top (n + 1) w m' r' φ' := by
  obtain ⟨⟨hB, hO⟩, ⟨hC, hS⟩, hW⟩ := h
  obtain ⟨⟨hP, hK, hA, hR⟩, -, -, -, ⟨q1, ⟨q2, q3⟩, q4, q5, q6⟩⟩ := id hB.1
  have h12 := q_N_le hB.2.2.2.1
  obtain ⟨gD, gN, gV⟩ := hB.2.2
  -- the class
  generalize hm5 : vl_up (vl_up (vl_up (vl_up m 18 2 0) 1 12 0) 1 13 0) 1 14 (-1) = m5
  have m5h : ∀ h : Nat, h ≠ 1 → h ≠ 18 → m5 h = m h := fun h x y => by rw [← hm5, up_h _ _ _ x, up_h _ _ _ x, up_h _ _ _ x, up_h _ _ _ y]
  have m51 : ∀ j, j ≠ 12 → j ≠ 13 → j ≠ 14 → m5 1 j = m 1 j := fun j x y z => by rw [← hm5, up_i _ _ z, up_i _ _ y, up_i _ _ x, up_h _ _ _ (by decide)]
  have m512 : m5 1 12 = 0 := by rw [← hm5, up_i _ _ (by decide), up_i _ _ (by decide), up_s]
  have m513 : m5 1 13 = 0 := by rw [← hm5, up_i _ _ (by decide), up_s]
  have m514 : m5 1 14 = -1 := by rw [← hm5, up_s]
  have m518 : m5 18 2 = 0 := by rw [← hm5, up_h _ _ _ (by decide), up_h _ _ _ (by decide), up_h _ _ _ (by decide), up_s]
  -- the reference
  generalize hr3 : vl_up (vl_up r 23 5 0) 23 20 0 = r3
  have r3h : ∀ h : Nat, h ≠ 23 → r3 h = r h := fun h x => by rw [← hr3, up_h _ _ _ x, up_h _ _ _ x]
  have r3j : ∀ j, j ≠ 5 → j ≠ 20 → r3 23 j = r 23 j := fun j x y => by rw [← hr3, up_i _ _ y, up_i _ _ x]
  have r35 : r3 23 5 = 0 := by rw [← hr3, up_i _ _ (by decide), up_s]
  have r320 : r3 23 20 = 0 := by rw [← hr3, up_s]
  generalize hr4 : d_fill r3 24 0 401 (-2) = r4
  have r4h : ∀ h : Nat, h ≠ 24 → r4 h = r3 h := fun h x => by rw [← hr4, d_fill_h _ _ _ _ _ x]
  have r4i : ∀ i, 0 ≤ i → i < 401 → r4 24 i = -2 := fun i i1 i2 => by rw [← hr4, d_fill_in _ _ ⟨i1, i2⟩]
  have hnode := d_leaf1 (r := r4) hN
  generalize hr6 : vl_up (d_new (d_fill r4 26 0 500 (-2)) 0 0) 23 11 0 = r6
  have r6h : ∀ h : Nat, h ≠ 23 → h ≠ 26 → h ≠ 27 → h ≠ 30 → r6 h = r4 h := fun h x y z t => by rw [← hr6, up_h _ _ _ x, d_new_h _ _ _ y z t, d_fill_h _ _ _ _ _ y]
  have r6j : ∀ j, j ≠ 11 → r6 23 j = r4 23 j := fun j x => by rw [← hr6, up_i _ _ x, d_new_h _ _ _ (by decide) (by decide) (by decide), d_fill_h _ _ _ _ _ (by decide)]
  have r611 : r6 23 11 = 0 := by rw [← hr6, up_s]
  have r626 : ∀ u, r6 26 u = if u = 0 then 0 else d_fill r4 26 0 500 (-2) 26 u := fun u => by rw [← hr6, up_h _ _ _ (by decide), d_new_26]
  have r627 : r6 27 0 = 0 := by rw [← hr6, up_h _ _ _ (by decide), d_new_27, if_pos rfl]
  have r630 : r6 30 0 = -2 := by rw [← hr6, up_h _ _ _ (by decide), d_new_30, if_pos rfl]
  have r623 : ∀ j, j ≠ 5 → j ≠ 11 → j ≠ 20 → r6 23 j = r 23 j := fun j x y z => by rw [r6j j y, r4h 23 (by decide), r3j j x z]
  have hno : ∀ e, ¬ c_LE (c_emp m5) e := fun e z => by
    have := z.1
    rw [c_emp_1 _ (by decide) (by decide), m513] at this
    omega
  have hVe : q_V (c_emp m5) := fun e e1 e2 => by
    rw [c_emp_2, if_neg (by omega), m5h 2 (by decide) (by decide)]
    exact gV e e1 e2
  have hI : q_I w (c_emp m5) r6 (fun _ => 0) (c_LE (c_emp m5)) (-1) := by
    refine q_leaf1 ?_ (c_emp_15 _) (c_emp_16 _) (by rw [c_emp_2, if_pos rfl]) (by rw [c_emp_9, if_pos rfl]) (by rw [c_emp_8, if_pos rfl]) (c_emp_6 _) (fun e he => absurd he (hno e)) ⟨[], ?_, List.nodup_nil, fun e => ?_⟩ rfl (by rw [r626, if_pos rfl]) (fun n n1 n2 => by rw [r626, if_neg (by omega), d_fill_in _ _ ⟨by omega, n2⟩]) r627 r630 r611 ⟨?_, ?_⟩ ?_ ⟨?_, ?_⟩ (fun e e' he => absurd he (hno e)) (fun i i1 i2 => Or.inr (by rw [r6h 24 (by decide) (by decide) (by decide) (by decide), r4i i i1 i2])) (fun e he => absurd he (hno e))
    · obtain ⟨p0, p1, p2, p3, p4⟩ := hP
      unfold s_P
      rw [c_emp_15, c_emp_1 _ (by decide) (by decide), c_emp_1 _ (by decide) (by decide), c_emp_1 _ (by decide) (by decide), c_emp_1 _ (by decide) (by decide), m51 10 (by decide) (by decide) (by decide), m51 0 (by decide) (by decide) (by decide), m51 1 (by decide) (by decide) (by decide), m513]
      exact ⟨p0, p1, p2, ⟨by omega, by omega⟩, by omega, by omega⟩
    · rw [c_emp_1 _ (by decide) (by decide), m514]; rfl
    · rw [c_emp_1 _ (by decide) (by decide), m513]
      exact ⟨fun z => (List.not_mem_nil z).elim, fun z => by omega⟩
    · rw [r623 1 (by decide) (by decide) (by decide), c_emp_1 _ (by decide) (by decide), m51 0 (by decide) (by decide) (by decide)]; exact q2
    · rw [r623 2 (by decide) (by decide) (by decide), c_emp_1 _ (by decide) (by decide), m51 1 (by decide) (by decide) (by decide)]; exact q3
    · rw [r6j 5 (by decide), r4h 23 (by decide), r35, c_emp_1 _ (by decide) (by decide), m512]
    · rw [r623 12 (by decide) (by decide) (by decide), c_emp_11 _ (by decide), m5h 11 (by decide) (by decide)]; exact q5
    · rw [r623 13 (by decide) (by decide) (by decide), c_emp_11 _ (by decide), m5h 11 (by decide) (by decide)]; exact q6
  have hBe := q_leafB hI (c_emp_15 _) (by rw [c_emp_2, if_pos rfl]) (by rw [c_emp_9, if_pos rfl]) (c_emp_6 _) hno (by rw [c_emp_1 _ (by decide) (by decide), m512]) hVe
  have hF : q_Ft 400 m5 (c_emp m5) r3 r6 := by
    refine ⟨⟨fun h x => c_emp_h _ (by omega) (by omega) (by omega) (by omega) (by omega), fun j x => by rw [r6j j (by omega), r4h 23 (by decide)]⟩, ⟨⟨?_, ?_⟩, ⟨?_, ?_⟩, ⟨?_, ?_⟩⟩, ?_⟩
    · rw [c_emp_11 _ (by decide)]; exact Int.le_refl _
    · rw [c_emp_11 _ (by decide)]; omega
    · rw [c_emp_11 _ (by decide)]; exact Int.le_refl _
    · rw [c_emp_11 _ (by decide)]; omega
    · rw [c_emp_11 _ (by decide)]; exact Int.le_refl _
    · rw [c_emp_11 _ (by decide)]; omega
    · rw [r6j 14 (by decide), r4h 23 (by decide), c_emp_11 _ (by decide)]; omega
  have hC1 : q_Cn n m5 r3 := by
    unfold q_Cn
    rw [r3j 14 (by decide) (by decide), m5h 11 (by decide) (by decide)]; exact hC
  have hS1 : q_Sr m5 r3 := by
    unfold q_Sr
    rw [r3j 27 (by decide) (by decide), r3j 28 (by decide) (by decide), r3j 29 (by decide) (by decide), m5h 19 (by decide) (by decide)]; exact hS
  obtain ⟨m', y1, y2, y3, -⟩ := t_fin hN hBe hF hC1 hS1 (by rw [c_emp_h _ (by decide) (by decide) (by decide) (by decide) (by decide)]; exact m518) (by rw [r6j 20 (by decide), r4h 23 (by decide)]; exact r320)
  refine ⟨m 1 12, m', r6, fun _ => 0, ?_, ?_, ⟨by omega, by omega⟩, y2⟩
  · unfold fn_X7_clear fn_X6_shut fn_X4_forgetEntries
    rw [pu_lt, pu_lt, Option.bind_some, pu_lt, pu_lt, pu_lt, Option.bind_some, hm5, c_startEmpty, y1, Option.bind_some, Option.bind_some]
  · unfold fn_X8_clear
    have e1 := d_clL17 (N := N) (r := r3) (v1 := r 23 5) (κ := fun (v6 : Int) (m7 : vl_M) => fn_X8_clear_L40 N (r 23 5) (fun (v10 : Int) (m11 : vl_M) => (fn_X8_node N m11 0).bind <| vl_un fun b12 m13 => vl_lt (vl_up m13 23 11 b12) fun m14 => some (r 23 5, m14)) N 0 m7) 401 N 0 (by decide) (by decide) (by omega)
    have e2 := d_clL40 (N := N) (r := r4) (v1 := r 23 5) (κ := fun (v10 : Int) (m11 : vl_M) => (fn_X8_node N m11 0).bind <| vl_un fun b12 m13 => vl_lt (vl_up m13 23 11 b12) fun m14 => some (r 23 5, m14)) 500 N 0 (by decide) (by decide) (by omega)
    rw [d_fill_0] at e1 e2
    rw [pu_lt, pu_lt, pu_lt, hr3, e1, hr4, e2, hnode, Option.bind_some, pu_un, pu_lt, hr6, q4]
