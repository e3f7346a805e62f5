/-! ===== PURE, 51: the beginning ===== -/
theorem vl_z_h (m : vl_M) {h k : Nat} (hk : k ≠ h) : vl_z m h k = m k := by funext j; unfold vl_z; rw [if_neg hk]
theorem vl_z_s (m : vl_M) (h : Nat) (j : Int) : vl_z m h h j = 0 := by unfold vl_z; rw [if_pos rfl]
theorem vl_z_id {m : vl_M} {h : Nat} (hz : ∀ j, m h j = 0) : vl_z m h = m := by
  funext k j
  unfold vl_z
  by_cases c : k = h
  · rw [if_pos c, c, hz]
  · rw [if_neg c]
/-- the class's store at the beginning -/
def c_s0 (M L : Int) : vl_M := vl_up (vl_up (vl_up (vl_up (vl_up (vl_up (vl_up (vl_up (fun _ _ => 0) 1 0 M) 1 1 L) 1 10 (M + 1)) 1 12 0) 1 13 0) 1 14 (-1)) 1 15 400) 1 16 (-1)
theorem c_s0_h (M L : Int) {h : Nat} (hh : h ≠ 1) (j : Int) : c_s0 M L h j = 0 := by
  unfold c_s0
  rw [up_h _ _ _ hh, up_h _ _ _ hh, up_h _ _ _ hh, up_h _ _ _ hh, up_h _ _ _ hh, up_h _ _ _ hh, up_h _ _ _ hh, up_h _ _ _ hh]
theorem c_init {w N : Nat} {a1 a2 M L : Int} (h1 : vl_r32 a1) (h2 : vl_r32 a2) (hM : M = max 4 (min 10 a1)) (hL : L = max 2 (min (M / 2) a2)) (hw : (w : Int) = M + 1) : fn_X7_init w N (fun _ _ => 0) a1 a2 = (fn_X5_renumber w N (c_emp (c_s0 M L))).bind fun m11 => some (vl_z (vl_up (vl_z (vl_z (vl_z (vl_z (vl_z (vl_z m11 16) 17) 18) 19) 20) 21) 19 6 (-1)) 22) := by
  have hM4 : 4 ≤ M ∧ M ≤ 10 := by omega
  have e0 : ∀ h, vl_z (fun _ _ => 0) h = (fun _ _ => 0) := fun h => vl_z_id (fun _ => rfl)
  have e4 : fn_X4_init w N (fun _ _ => 0) M L = some (c_s0 M L) := by
    unfold fn_X4_init fn_X4_forgetEntries fn_X4_forgetNodes
    have e10 : vl_up (vl_up (vl_up (fun _ _ => 0) 1 0 M) 1 1 L) 1 10 (M + 1) 1 10 = M + 1 := up_s _ _ _ _
    have ez : vl_z (vl_up (vl_up (vl_up (fun _ _ => 0) 1 0 M) 1 1 L) 1 10 (M + 1)) 10 = vl_up (vl_up (vl_up (fun _ _ => 0) 1 0 M) 1 1 L) 1 10 (M + 1) := vl_z_id (fun j => by rw [up_h _ _ _ (by decide), up_h _ _ _ (by decide), up_h _ _ _ (by decide)])
    rw [pu_lt, e0, pu_lt, e0, pu_lt, e0, pu_lt, e0, pu_lt, e0, pu_lt, e0, pu_lt, e0, pu_lt, e0, pu_lt, pu_lt, pu_lt, e10, pu_gd (by rw [hw]), pu_lt, ez, pu_lt, pu_lt, pu_lt, Option.bind_some, pu_lt, pu_lt, Option.bind_some]
    rfl
  have e5 : fn_X5_init w N (c_s0 M L) = (fn_X5_renumber w N (c_emp (c_s0 M L))).bind fun m7 => some m7 := by
    unfold fn_X5_init fn_X3_init
    have ez : ∀ h : Nat, h ≠ 1 → vl_z (c_s0 M L) h = c_s0 M L := fun h x => vl_z_id (fun j => c_s0_h M L x j)
    have e10 : c_s0 M L 1 10 = M + 1 := by
      unfold c_s0
      rw [up_i _ _ (by decide), up_i _ _ (by decide), up_i _ _ (by decide), up_i _ _ (by decide), up_i _ _ (by decide), up_s]
    rw [pu_lt, ez 12 (by decide), pu_lt, ez 13 (by decide), pu_lt, ez 14 (by decide), e10, pu_gd (by rw [hw]), pu_lt, ez 15 (by decide), Option.bind_some, c_startEmpty]
    cases fn_X5_renumber w N (c_emp (c_s0 M L)) with
    | none => rfl
    | some x => rfl
  have ez11 : vl_z (c_s0 M L) 11 = c_s0 M L := vl_z_id (fun j => c_s0_h M L (by decide) j)
  unfold fn_X7_init
  rw [pu_gd h1, pu_gd ⟨by omega, by omega⟩, pu_lt, ← hM, pu_lt, e0, pu_gd ⟨by omega, by omega⟩, pu_gd ⟨by omega, by omega⟩, pu_gd h2, pu_gd ⟨by omega, by omega⟩, ← hL, e4, Option.bind_some, pu_lt, ez11, e5]
  cases fn_X5_renumber w N (c_emp (c_s0 M L)) with
  | none => rfl
  | some x => rfl
theorem d_inL282 {N : Nat} {r : vl_M} {κ : Int → vl_M → Option vl_M} : ∀ (n fu : Nat) (v : Int), 0 ≤ v → v + (n : Int) = 500 → n < fu → fn_X8_init_L282 N κ fu v (d_fill r 26 0 v (-2)) = κ 500 (d_fill r 26 0 500 (-2)) := by
  intro n
  induction n with
  | zero =>
    intro fu v h1 h2 h3
    obtain ⟨fu, rfl⟩ : ∃ x, fu = x + 1 := ⟨fu - 1, by omega⟩
    rw [fn_X8_init_L282, pu_gd ⟨by omega, by omega⟩, if_neg (by omega), show v = 500 by omega]
  | succ n ih =>
    intro fu v h1 h2 h3
    obtain ⟨fu, rfl⟩ : ∃ x, fu = x + 1 := ⟨fu - 1, by omega⟩
    rw [fn_X8_init_L282, pu_gd ⟨by omega, by omega⟩, if_pos (by omega), pu_gd ⟨by omega, by omega⟩, pu_lt, d_fill_step r 26 h1, pu_lt]
    exact ih fu (v + 1) (by omega) (by omega) (by omega)
theorem d_inL256 {N : Nat} {r : vl_M} {κ : Int → vl_M → Option vl_M} : ∀ (n fu : Nat) (v : Int), 0 ≤ v → v + (n : Int) = 401 → n < fu → fn_X8_init_L256 N κ fu v (d_fill r 24 0 v (-2)) = κ 401 (d_fill r 24 0 401 (-2)) := by
  intro n
  induction n with
  | zero =>
    intro fu v h1 h2 h3
    obtain ⟨fu, rfl⟩ : ∃ x, fu = x + 1 := ⟨fu - 1, by omega⟩
    rw [fn_X8_init_L256, pu_gd ⟨by omega, by omega⟩, if_pos (by omega), show v = 401 by omega]
  | succ n ih =>
    intro fu v h1 h2 h3
    obtain ⟨fu, rfl⟩ : ∃ x, fu = x + 1 := ⟨fu - 1, by omega⟩
    rw [fn_X8_init_L256, pu_gd ⟨by omega, by omega⟩, if_neg (by omega), pu_gd ⟨by omega, by omega⟩, pu_lt, d_fill_step r 24 h1, pu_lt]
    exact ih fu (v + 1) (by omega) (by omega) (by omega)
def d_s0 (M L : Int) : vl_M := vl_up (vl_up (fun _ _ => 0) 23 1 M) 23 2 L
theorem d_init {N : Nat} {a1 a2 M L : Int} (hN : 100000 ≤ N) (h1 : vl_r32 a1) (h2 : vl_r32 a2) (hM : M = max 4 (min 10 a1)) (hL : L = max 2 (min (M / 2) a2)) : fn_X8_init N (fun _ _ => 0) a1 a2 = some (vl_up (d_new (d_fill (d_fill (d_s0 M L) 24 0 401 (-2)) 26 0 500 (-2)) 0 0) 23 11 0) := by
  have hM4 : 4 ≤ M ∧ M ≤ 10 := by omega
  have e0 : ∀ h, vl_z (fun _ _ => 0) h = (fun _ _ => 0) := fun h => vl_z_id (fun _ => rfl)
  have e1 := d_inL256 (N := N) (r := d_s0 M L) (κ := fun (v34 : Int) (m35 : vl_M) => fn_X8_init_L282 N (fun (v38 : Int) (m39 : vl_M) => (fn_X8_node N m39 0).bind <| vl_un fun b40 m41 => vl_lt (vl_up m41 23 11 b40) fun m42 => some m42) N 0 m35) 401 N 0 (by decide) (by decide) (by omega)
  have e2 := d_inL282 (N := N) (r := d_fill (d_s0 M L) 24 0 401 (-2)) (κ := fun (v38 : Int) (m39 : vl_M) => (fn_X8_node N m39 0).bind <| vl_un fun b40 m41 => vl_lt (vl_up m41 23 11 b40) fun m42 => some m42) 500 N 0 (by decide) (by decide) (by omega)
  rw [d_fill_0] at e1 e2
  have fin : fn_X8_init_L256 N (fun (v34 : Int) (m35 : vl_M) => fn_X8_init_L282 N (fun (v38 : Int) (m39 : vl_M) => (fn_X8_node N m39 0).bind <| vl_un fun b40 m41 => vl_lt (vl_up m41 23 11 b40) fun m42 => some m42) N 0 m35) N 0 (d_s0 M L) = some (vl_up (d_new (d_fill (d_fill (d_s0 M L) 24 0 401 (-2)) 26 0 500 (-2)) 0 0) 23 11 0) := by
    rw [e1, e2, d_leaf1 hN, Option.bind_some, pu_un, pu_lt]
  have tail : ∀ v25 : Int, v25 = M → (vl_lt (vl_up (fun _ _ => 0) 23 1 v25) fun m27 => vl_gd (vl_r32 a2) <| vl_jn (fun (v29 : Int) => vl_lt (vl_up m27 23 2 v29) fun m31 => fn_X8_init_L256 N (fun (v34 : Int) (m35 : vl_M) => fn_X8_init_L282 N (fun (v38 : Int) (m39 : vl_M) => (fn_X8_node N m39 0).bind <| vl_un fun b40 m41 => vl_lt (vl_up m41 23 11 b40) fun m42 => some m42) N 0 m35) N 0 m31) fun κ30 => if a2 < 2 then (κ30 2) else vl_gd (0 ≤ v25 ∧ v25 < 2147483648) <| vl_gd (vl_r32 (v25 / 2)) <| if (v25 / 2) < a2 then (κ30 (v25 / 2)) else κ30 a2) = some (vl_up (d_new (d_fill (d_fill (d_s0 M L) 24 0 401 (-2)) 26 0 500 (-2)) 0 0) 23 11 0) := fun v25 hv => by
    subst hv
    rw [pu_lt, pu_gd h2, pu_jn]
    by_cases c : a2 < 2
    · have e : (2 : Int) = L := by omega
      rw [if_pos c]
      dsimp only
      rw [pu_lt]
      conv => lhs; rw [show vl_up (vl_up (fun _ _ => 0) 23 1 v25) 23 2 2 = d_s0 v25 L by rw [← e]; rfl]
      exact fin
    · rw [if_neg c, pu_gd ⟨by omega, by omega⟩, pu_gd ⟨by omega, by omega⟩]
      by_cases c2 : v25 / 2 < a2
      · have e : v25 / 2 = L := by omega
        rw [if_pos c2, e]
        dsimp only
        rw [pu_lt]
        exact fin
      · have e : a2 = L := by omega
        rw [if_neg c2]
        dsimp only
        rw [pu_lt]
        conv => lhs; rw [show vl_up (vl_up (fun _ _ => 0) 23 1 v25) 23 2 a2 = d_s0 v25 L by rw [← e]; rfl]
        exact fin
  unfold fn_X8_init
  simp only [pu_lt, e0]
  rw [pu_gd h1, pu_jn]
  by_cases c : a1 < 4
  · rw [if_pos c]
    exact tail 4 (by omega)
  · rw [if_neg c]
    by_cases c2 : 10 < a1
    · rw [if_pos c2]
      exact tail 10 (by omega)
    · rw [if_neg c2]
      exact tail a1 (by omega)
theorem t_init {N : Nat} {a1 a2 : Int} (hN : 100000 ≤ N) (h1 : vl_r32 a1) (h2 : vl_r32 a2) : ∃ w : Nat, w ≤ 11 ∧ ∃ m r φ, fn_X7_init w N (fun _ _ => 0) a1 a2 = some m ∧ fn_X8_init N (fun _ _ => 0) a1 a2 = some r ∧ q_top 1 w m r φ := by
  obtain ⟨M, hM⟩ : ∃ M, M = max 4 (min 10 a1) := ⟨_, rfl⟩
  obtain ⟨L, hL⟩ : ∃ L, L = max 2 (min (M / 2) a2) := ⟨_, rfl⟩
  have hM4 : 4 ≤ M ∧ M ≤ 10 := by omega
  have hL2 : 2 ≤ L ∧ 2 * L ≤ M := by omega
  obtain ⟨w, hw⟩ : ∃ w : Nat, (w : Int) = M + 1 := ⟨(M + 1).toNat, by omega⟩
  have s1 : ∀ j v, c_s0 M L 1 j = v → c_s0 M L 1 j = v := fun _ _ z => z
  have s10 : c_s0 M L 1 10 = M + 1 := by
    unfold c_s0
    rw [up_i _ _ (by decide), up_i _ _ (by decide), up_i _ _ (by decide), up_i _ _ (by decide), up_i _ _ (by decide), up_s]
  have s0 : c_s0 M L 1 0 = M := by
    unfold c_s0
    rw [up_i _ _ (by decide), up_i _ _ (by decide), up_i _ _ (by decide), up_i _ _ (by decide), up_i _ _ (by decide), up_i _ _ (by decide), up_i _ _ (by decide), up_s]
  have s11 : c_s0 M L 1 1 = L := by
    unfold c_s0
    rw [up_i _ _ (by decide), up_i _ _ (by decide), up_i _ _ (by decide), up_i _ _ (by decide), up_i _ _ (by decide), up_i _ _ (by decide), up_s]
  have s12 : c_s0 M L 1 12 = 0 := by
    unfold c_s0
    rw [up_i _ _ (by decide), up_i _ _ (by decide), up_i _ _ (by decide), up_i _ _ (by decide), up_s]
  have s13 : c_s0 M L 1 13 = 0 := by
    unfold c_s0
    rw [up_i _ _ (by decide), up_i _ _ (by decide), up_i _ _ (by decide), up_s]
  have s14 : c_s0 M L 1 14 = -1 := by
    unfold c_s0
    rw [up_i _ _ (by decide), up_i _ _ (by decide), up_s]
  have hci := c_init (N := N) h1 h2 hM hL hw
  have hdi := d_init hN h1 h2 hM hL
  generalize hm0 : c_s0 M L = m0 at *
  have m0h : ∀ h : Nat, h ≠ 1 → ∀ j, m0 h j = 0 := fun h x j => by rw [← hm0]; exact c_s0_h M L x j
  generalize hr0 : d_fill (d_s0 M L) 24 0 401 (-2) = r0 at *
  have r0h : ∀ h : Nat, h ≠ 23 → h ≠ 24 → ∀ j, r0 h j = 0 := fun h x y j => by
    rw [← hr0, d_fill_h _ _ _ _ _ y]
    unfold d_s0
    rw [up_h _ _ _ x, up_h _ _ _ x]
  have r0j : ∀ j, j ≠ 1 → j ≠ 2 → r0 23 j = 0 := fun j x y => by
    rw [← hr0, d_fill_h _ _ _ _ _ (by decide)]
    unfold d_s0
    rw [up_i _ _ y, up_i _ _ x]
  have r01 : r0 23 1 = M := by
    rw [← hr0, d_fill_h _ _ _ _ _ (by decide)]
    unfold d_s0
    rw [up_i _ _ (by decide), up_s]
  have r02 : r0 23 2 = L := by
    rw [← hr0, d_fill_h _ _ _ _ _ (by decide)]
    unfold d_s0
    rw [up_s]
  have r024 : ∀ i, 0 ≤ i → i < 401 → r0 24 i = -2 := fun i i1 i2 => by rw [← hr0, d_fill_in _ _ ⟨i1, i2⟩]
  generalize hr6 : vl_up (d_new (d_fill r0 26 0 500 (-2)) 0 0) 23 11 0 = r6 at *
  have r6h : ∀ h : Nat, h ≠ 23 → h ≠ 26 → h ≠ 27 → h ≠ 30 → r6 h = r0 h := fun h x y z t => by rw [← hr6, up_h _ _ _ x, d_new_h _ _ _ y z t, d_fill_h _ _ _ _ _ y]
  have r6j : ∀ j, j ≠ 11 → r6 23 j = r0 23 j := fun j x => by rw [← hr6, up_i _ _ x, d_new_h _ _ _ (by decide) (by decide) (by decide), d_fill_h _ _ _ _ _ (by decide)]
  have r611 : r6 23 11 = 0 := by rw [← hr6, up_s]
  have r626 : ∀ u, r6 26 u = if u = 0 then 0 else d_fill r0 26 0 500 (-2) 26 u := fun u => by rw [← hr6, up_h _ _ _ (by decide), d_new_26]
  have r627 : r6 27 0 = 0 := by rw [← hr6, up_h _ _ _ (by decide), d_new_27, if_pos rfl]
  have r630 : r6 30 0 = -2 := by rw [← hr6, up_h _ _ _ (by decide), d_new_30, if_pos rfl]
  have hno : ∀ e, ¬ c_LE (c_emp m0) e := fun e z => by
    have := z.1
    rw [c_emp_1 _ (by decide) (by decide), s13] at this
    omega
  have hVe : q_V (c_emp m0) := fun e e1 e2 => by
    rw [c_emp_2, if_neg (by omega), m0h 2 (by decide)]
    decide
  have hI : q_I w (c_emp m0) r6 (fun _ => 0) (c_LE (c_emp m0)) (-1) := by
    refine q_leaf1 ?_ (c_emp_15 _) (c_emp_16 _) (by rw [c_emp_2, if_pos rfl]) (by rw [c_emp_9, if_pos rfl]) (by rw [c_emp_8, if_pos rfl]) (c_emp_6 _) (fun e he => absurd he (hno e)) ⟨[], ?_, List.nodup_nil, fun e => ?_⟩ rfl (by rw [r626, if_pos rfl]) (fun n n1 n2 => by rw [r626, if_neg (by omega), d_fill_in _ _ ⟨by omega, n2⟩]) r627 r630 r611 ⟨?_, ?_⟩ ?_ ⟨?_, ?_⟩ (fun e e' he => absurd he (hno e)) (fun i i1 i2 => Or.inr (by rw [r6h 24 (by decide) (by decide) (by decide) (by decide), r024 i i1 i2])) (fun e he => absurd he (hno e))
    · unfold s_P
      rw [c_emp_15, c_emp_1 _ (by decide) (by decide), c_emp_1 _ (by decide) (by decide), c_emp_1 _ (by decide) (by decide), c_emp_1 _ (by decide) (by decide), s10, s0, s11, s13]
      exact ⟨⟨by omega, by omega⟩, ⟨by omega, by omega⟩, hL2, ⟨by omega, by omega⟩, by omega, by omega⟩
    · rw [c_emp_1 _ (by decide) (by decide), s14]; rfl
    · rw [c_emp_1 _ (by decide) (by decide), s13]
      exact ⟨fun z => (List.not_mem_nil z).elim, fun z => by omega⟩
    · rw [r6j 1 (by decide), r01, c_emp_1 _ (by decide) (by decide), s0]
    · rw [r6j 2 (by decide), r02, c_emp_1 _ (by decide) (by decide), s11]
    · rw [r6j 5 (by decide), r0j 5 (by decide) (by decide), c_emp_1 _ (by decide) (by decide), s12]
    · rw [r6j 12 (by decide), r0j 12 (by decide) (by decide), c_emp_11 _ (by decide), m0h 11 (by decide)]
    · rw [r6j 13 (by decide), r0j 13 (by decide) (by decide), c_emp_11 _ (by decide), m0h 11 (by decide)]
  have hBe := q_leafB hI (c_emp_15 _) (by rw [c_emp_2, if_pos rfl]) (by rw [c_emp_9, if_pos rfl]) (c_emp_6 _) hno (by rw [c_emp_1 _ (by decide) (by decide), s12]) hVe
  obtain ⟨⟨hP, hK, hA, hR⟩, -, -, -, hrr⟩ := id hBe.1
  obtain ⟨-, hlv, -⟩ := q_B_lv hBe
  obtain ⟨m11, g1, g2, g3, g4, g5⟩ := c_renumber hP hK hR.1.1 hN (hlv _ hR.1.1)
  rw [g1, Option.bind_some] at hci
  generalize hmf : vl_z (vl_up (vl_z (vl_z (vl_z (vl_z (vl_z (vl_z m11 16) 17) 18) 19) 20) 21) 19 6 (-1)) 22 = mf at hci
  have mfh : ∀ h : Nat, h < 16 → mf h = m11 h := fun h x => by rw [← hmf, vl_z_h _ (by omega), up_h _ _ _ (by omega), vl_z_h _ (by omega), vl_z_h _ (by omega), vl_z_h _ (by omega), vl_z_h _ (by omega), vl_z_h _ (by omega), vl_z_h _ (by omega)]
  have mf18 : mf 18 2 = 0 := by rw [← hmf, vl_z_h _ (by decide), up_h _ _ _ (by decide), vl_z_h _ (by decide), vl_z_h _ (by decide), vl_z_h _ (by decide), vl_z_s]
  have mf195 : mf 19 5 = 0 := by rw [← hmf, vl_z_h _ (by decide), up_i _ _ (by decide), vl_z_h _ (by decide), vl_z_h _ (by decide), vl_z_s]
  have mf196 : mf 19 6 = -1 := by rw [← hmf, vl_z_h _ (by decide), up_s]
  have mfe : ∀ h : Nat, h < 16 → h ≠ 7 → h ≠ 11 → h ≠ 13 → mf h = c_emp m0 h := fun h x y z t => by rw [mfh h x, g3 h y z t]
  have mf11 : ∀ j, j ≠ 5 → mf 11 j = c_emp m0 11 j := fun j x => by rw [mfh 11 (by decide), g5 j x]
  refine ⟨w, by omega, mf, r6, fun _ => 0, hci, hdi, ⟨⟨?_, ?_⟩, ⟨?_, ?_⟩, ⟨?_, ?_⟩, ?_⟩⟩
  · refine q_B_cg hBe (mfe 1 (by decide) (by decide) (by decide) (by decide)) (mfe 2 (by decide) (by decide) (by decide) (by decide)) (mfe 8 (by decide) (by decide) (by decide) (by decide)) (mfe 9 (by decide) (by decide) (by decide) (by decide)) (mfe 10 (by decide) (by decide) (by decide) (by decide)) (mf11 6 (by decide)) (fun u u1 u2 => by rw [mfh 7 (by decide)]; exact g4 u (fun z => by have := z.1; omega)) (fun u _ _ => c_rt_congr (mfe 3 (by decide) (by decide) (by decide) (by decide)) (mfe 4 (by decide) (by decide) (by decide) (by decide)) (mfe 5 (by decide) (by decide) (by decide) (by decide)) (mfe 6 (by decide) (by decide) (by decide) (by decide))) (fun _ _ _ => rfl) ⟨rfl, rfl⟩ ⟨rfl, rfl⟩ ⟨by rw [mf11 7 (by decide)]; exact hrr.2.2.2.1, by rw [mf11 8 (by decide)]; exact hrr.2.2.2.2⟩
  · unfold q_O
    rw [c_ord_cg (mfh 2 (by decide)) (mfh 9 (by decide)) (mfh 10 (by decide)) (by rw [mfh 11 (by decide)]), mfh 11 (by decide), mfh 13 (by decide), mfh 7 (by decide)]
    exact g2
  · unfold q_Cn
    rw [mf11 7 (by decide), mf11 8 (by decide), mf11 9 (by decide), c_emp_11 _ (by decide), c_emp_11 _ (by decide), c_emp_11 _ (by decide), m0h 11 (by decide), m0h 11 (by decide), m0h 11 (by decide), r6j 14 (by decide), r0j 14 (by decide) (by decide)]
    exact ⟨rfl, ⟨by omega, by omega⟩, ⟨by omega, by omega⟩, ⟨by omega, by omega⟩⟩
  · unfold q_Sr
    rw [mf195, mf196, r6j 27 (by decide), r6j 28 (by decide), r0j 27 (by decide) (by decide), r0j 28 (by decide) (by decide)]
    exact ⟨⟨rfl, by omega, by omega⟩, Or.inl ⟨rfl, rfl⟩⟩
  · rw [mf18, r6j 20 (by decide), r0j 20 (by decide) (by decide)]
  · exact Or.inl mf18
  · intro z
    rw [mf18] at z
    exact absurd z (by decide)
