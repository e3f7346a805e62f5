/-! ===== PURE, 68: pack ===== -/
theorem t_pack (w N n : Nat) (m r : vl_M) (φ : Int → Int) (hN' : 10000000000000 ≤ N) (h : q_top n w m r φ) : ∃ v m' r' φ', fn_X7_pack w N m = some (v, m') ∧ fn_X8_pack N r = some (v, r') ∧ vl_r32 v ∧ q_top (n + 1) w m' r' φ' := by
  have hN : 100000 ≤ N := by omega
  obtain ⟨⟨hB, hO⟩, ⟨hC, hSr⟩, hW⟩ := h
  obtain ⟨⟨hP, hK, hA, hR⟩, ⟨hE, hSS⟩, hT, ⟨hsn, hsi, hso, hse⟩, ⟨q1, ⟨q2, q3⟩, q4, q5, q6⟩⟩ := id hB.1
  obtain ⟨gD, gN, gV⟩ := hB.2.2
  have hlenE := q_E_len hP gN
  have h12 := q_N_le gN
  have hperm := q_EI hB.1
  have hlI : (q_Ir r).length = (q_E m).length := by rw [← hperm.length_eq, List.length_map]
  have hlI' : ((q_Ir r).length : Int) = m 1 12 := by omega
  -- the class gathers
  generalize hm2 : vl_up m 18 2 0 = m2
  have m2h : ∀ h : Nat, h ≠ 18 → m2 h = m h := fun h x => by rw [← hm2, up_h _ _ _ x]
  have m218 : m2 18 2 = 0 := by rw [← hm2, up_s]
  have eE : q_E m2 = q_E m := by unfold q_E; rw [m2h 1 (by decide), m2h 2 (by decide)]
  obtain ⟨m3, a1, a2, a3, a4, a5⟩ := c_gaL (N := N) (m := m2) (κ := fun (v4 : Int) (m5 : vl_M) => some m5) (by rw [m2h 1 (by decide)]; exact hP.2.2.2.2) (fun e e1 e2 => by rw [m2h 2 (by decide)]; exact gV e e1 e2) (m2 1 13).toNat N 0 (vl_up m2 16 3 0) (by have := hP.2.2.2.2; rw [m2h 1 (by decide)]; omega) (by have := hP.2.2.2.2; rw [m2h 1 (by decide)]; omega) (fun h x y => up_h _ _ _ x) (fun j x => up_i _ _ x) (by rw [up_s]; rfl) (fun k x hx => by simp [pu_seq] at hx)
  rw [eE] at a4 a5
  rw [hlenE] at a4
  have a1' : fn_X1_gather N m2 = some m3 := by unfold fn_X1_gather; rw [pu_lt]; exact a1
  have m3h : ∀ h : Nat, h ≠ 16 → h ≠ 17 → h ≠ 18 → m3 h = m h := fun h x y z => by rw [a2 h x y, m2h h z]
  have m318 : m3 18 2 = 0 := by rw [a2 18 (by decide) (by decide)]; exact m218
  have LE : ∀ e, c_LE m3 e ↔ c_LE m e := fun e => by unfold c_LE; rw [m3h 1 (by decide) (by decide) (by decide), m3h 2 (by decide) (by decide) (by decide)]
  have ert : ∀ e, c_rt m3 e = c_rt m e := fun e => c_rt_congr (m3h 3 (by decide) (by decide) (by decide)) (m3h 4 (by decide) (by decide) (by decide)) (m3h 5 (by decide) (by decide) (by decide)) (m3h 6 (by decide) (by decide) (by decide))
  -- the reference gathers
  generalize hr1 : vl_up r 23 20 0 = r1
  have r1h : ∀ h : Nat, h ≠ 23 → r1 h = r h := fun h x => by rw [← hr1, up_h _ _ _ x]
  have r1j : ∀ j, j ≠ 20 → r1 23 j = r 23 j := fun j x => by rw [← hr1, up_i _ _ x]
  have r120 : r1 23 20 = 0 := by rw [← hr1, up_s]
  have eI : q_Ir r1 = q_Ir r := by unfold q_Ir; rw [r1h 24 (by decide)]
  obtain ⟨r2, b1, b2, b3⟩ := d_gaL (N := N) (r := r1) (fun i i1 i2 => by
    rw [r1h 24 (by decide)]
    rcases hso.2 i i1 (by omega) with ⟨-, e, e1, e2⟩ | z
    · have := (hse e e1).2.1
      have := (hE e e1).1
      rw [← e2]
      exact ⟨by omega, by omega⟩
    · rw [z]; decide) 400 N 0 r1 (by decide) (by omega) (fun _ _ => rfl) (fun k x hx => by simp [pu_seq] at hx)
  rw [eI] at b1 b3
  rw [hlI'] at b1
  have b1' : ∀ κ : Int → Int → vl_M → Option (Int × vl_M), fn_X8_pack_L9 N κ N 0 0 r1 = κ (m 1 12) 400 r2 := fun κ => b1 κ
  generalize hr3 : d_fill r2 26 0 500 (-2) = r3
  have hf43 : ∀ κ : Int → vl_M → Option (Int × vl_M), fn_X8_pack_L43 N (m 1 12) κ N 0 r2 = κ 500 r3 := fun κ => by
    have := d_paL43 (N := N) (r := r2) (v5 := m 1 12) (κ := κ) 500 N 0 (by decide) (by decide) (by omega)
    rw [d_fill_0, hr3] at this
    exact this
  have r3h : ∀ h : Nat, h ≠ 23 → h ≠ 26 → h ≠ 45 → r3 h = r h := fun h x y z => by rw [← hr3, d_fill_h _ _ _ _ _ y, b2 h z, r1h h x]
  have r3j : ∀ j, j ≠ 20 → r3 23 j = r 23 j := fun j x => by rw [← hr3, d_fill_h _ _ _ _ _ (by decide), b2 23 (by decide), r1j j x]
  have r320 : r3 23 20 = 0 := by rw [← hr3, d_fill_h _ _ _ _ _ (by decide), b2 23 (by decide), r120]
  have r326 : ∀ i, 0 ≤ i → i < 500 → r3 26 i = -2 := fun i i1 i2 => by rw [← hr3, d_fill_in _ _ ⟨i1, i2⟩]
  have r345 : r3 45 = r2 45 := by rw [← hr3, d_fill_h _ _ _ _ _ (by decide)]
  by_cases c0 : m 1 12 = 0
  · -- nothing to pack
    have hno : ∀ e, ¬ c_LE m e := fun e he => by
      have := (q_E_mem hP).mpr he
      rw [List.eq_nil_of_length_eq_zero (show (q_E m).length = 0 by omega)] at this
      exact (List.not_mem_nil this).elim
    have LEe : ∀ e, ¬ c_LE (c_emp m3) e := fun e he => by
      refine hno e ((LE e).mp ?_)
      obtain ⟨x, y⟩ := he
      rw [c_emp_1 _ (by decide) (by decide)] at x
      have h13 := hP.2.2.2.2
      have e13 : m3 1 13 = m 1 13 := by rw [m3h 1 (by decide) (by decide) (by decide)]
      rw [c_emp_2, if_neg (by omega)] at y
      exact ⟨x, y⟩
    have hnode := d_leaf1 (r := r2) hN
    rw [hr3] at hnode
    generalize hr6 : vl_up (d_new r3 0 0) 23 11 0 = r6
    have r6h : ∀ h : Nat, h ≠ 23 → h ≠ 26 → h ≠ 27 → h ≠ 30 → r6 h = r3 h := fun h x y z t => by rw [← hr6, up_h _ _ _ x, d_new_h _ _ _ y z t]
    have r6j : ∀ j, j ≠ 11 → r6 23 j = r3 23 j := fun j x => by rw [← hr6, up_i _ _ x, d_new_h _ _ _ (by decide) (by decide) (by decide)]
    have r611 : r6 23 11 = 0 := by rw [← hr6, up_s]
    have r626 : ∀ u, r6 26 u = if u = 0 then 0 else r3 26 u := fun u => by rw [← hr6, up_h _ _ _ (by decide), d_new_26]
    have r627 : r6 27 0 = 0 := by rw [← hr6, up_h _ _ _ (by decide), d_new_27, if_pos rfl]
    have r630 : r6 30 0 = -2 := by rw [← hr6, up_h _ _ _ (by decide), d_new_30, if_pos rfl]
    have r623 : ∀ j, j ≠ 11 → j ≠ 20 → r6 23 j = r 23 j := fun j y z => by rw [r6j j y, r3j j z]
    have e1 : ∀ j, j ≠ 15 → j ≠ 16 → c_emp m3 1 j = m 1 j := fun j x y => by rw [c_emp_1 _ x y, m3h 1 (by decide) (by decide) (by decide)]
    have e11 : ∀ j, j ≠ 6 → c_emp m3 11 j = m 11 j := fun j x => by rw [c_emp_11 _ x, m3h 11 (by decide) (by decide) (by decide)]
    have hVe : q_V (c_emp m3) := fun e e1 e2 => by
      rw [c_emp_2, if_neg (by omega), m3h 2 (by decide) (by decide) (by decide)]
      exact gV e e1 e2
    have hI : q_I w (c_emp m3) r6 (fun _ => 0) (c_LE (c_emp m3)) (-1) := by
      refine q_leaf1 ?_ (c_emp_15 _) (c_emp_16 _) (by rw [c_emp_2, if_pos rfl]) (by rw [c_emp_9, if_pos rfl]) (by rw [c_emp_8, if_pos rfl]) (c_emp_6 _) (fun e he => absurd he (LEe e)) ?_ rfl (by rw [r626, if_pos rfl]) (fun n n1 n2 => by rw [r626, if_neg (by omega)]; exact r326 n (by omega) n2) r627 r630 r611 ⟨?_, ?_⟩ ?_ ⟨?_, ?_⟩ (fun e e' he => absurd he (LEe e)) (fun i i1 i2 => Or.inr ?_) (fun e he => absurd he (LEe e))
      · obtain ⟨p0, p1, p2, p3, p4⟩ := hP
        unfold s_P
        rw [c_emp_15, e1 10 (by decide) (by decide), e1 0 (by decide) (by decide), e1 1 (by decide) (by decide), e1 13 (by decide) (by decide)]
        exact ⟨p0, p1, p2, ⟨by omega, by omega⟩, p4⟩
      · obtain ⟨L, l1, l2, l3⟩ := hSS.2
        have h13 := hP.2.2.2.2
        refine ⟨L, ?_, l2, fun e => ?_⟩
        · rw [e1 14 (by decide) (by decide)]
          refine c_ch_congr L _ (fun b hb => ?_) l1
          have := (l3 b).mp hb
          rw [c_emp_8, if_neg (by omega), m3h 8 (by decide) (by decide) (by decide)]
        · rw [l3 e, e1 13 (by decide) (by decide), c_emp_2, m3h 2 (by decide) (by decide) (by decide)]
          constructor
          · rintro ⟨x, y⟩
            rw [if_neg (by omega)]
            exact ⟨x, y⟩
          · rintro ⟨x, y⟩
            rw [if_neg (by omega)] at y
            exact ⟨x, y⟩
      · rw [r623 1 (by decide) (by decide), e1 0 (by decide) (by decide)]; exact q2
      · rw [r623 2 (by decide) (by decide), e1 1 (by decide) (by decide)]; exact q3
      · rw [r623 5 (by decide) (by decide), e1 12 (by decide) (by decide)]; exact q4
      · rw [r623 12 (by decide) (by decide), e11 7 (by decide)]; exact q5
      · rw [r623 13 (by decide) (by decide), e11 8 (by decide)]; exact q6
      · rw [r6h 24 (by decide) (by decide) (by decide) (by decide), r3h 24 (by decide) (by decide) (by decide)]
        rcases hso.2 i i1 i2 with ⟨-, e, x, -⟩ | z
        · exact absurd x (hno e)
        · exact z
    have hBe := q_leafB hI (c_emp_15 _) (by rw [c_emp_2, if_pos rfl]) (by rw [c_emp_9, if_pos rfl]) (c_emp_6 _) LEe (by rw [e1 12 (by decide) (by decide)]; exact c0) hVe
    obtain ⟨⟨hPe, hKe, -, hRe⟩, -, -, -, hrre⟩ := id hBe.1
    obtain ⟨-, hlve, -⟩ := q_B_lv hBe
    obtain ⟨m7, y1, -, y3, y4, y5⟩ := c_renumber hPe hKe hRe.1.1 hN (hlve _ hRe.1.1)
    have y3' : ∀ h : Nat, h ≠ 7 → h ≠ 11 → h ≠ 13 → m7 h = c_emp m3 h := y3
    have hB7 : q_B w m7 r6 (fun _ => 0) := by
      refine q_B_cg hBe (y3 1 (by decide) (by decide) (by decide)) (y3 2 (by decide) (by decide) (by decide)) (y3 8 (by decide) (by decide) (by decide)) (y3 9 (by decide) (by decide) (by decide)) (y3 10 (by decide) (by decide) (by decide)) (y5 6 (by decide)) (fun u u1 u2 => y4 u (fun z => by have := z.1; omega)) (fun u _ _ => c_rt_congr (y3 3 (by decide) (by decide) (by decide)) (y3 4 (by decide) (by decide) (by decide)) (y3 5 (by decide) (by decide) (by decide)) (y3 6 (by decide) (by decide) (by decide))) (fun _ _ _ => rfl) ⟨rfl, rfl⟩ ⟨rfl, rfl⟩ ⟨?_, ?_⟩
      · rw [y5 7 (by decide)]; exact hrre.2.2.2.1
      · rw [y5 8 (by decide)]; exact hrre.2.2.2.2
    have eh : ∀ h : Nat, h = 18 ∨ h = 19 → m7 h = m3 h := fun h x => by rw [y3 h (by omega) (by omega) (by omega), c_emp_h _ (by omega) (by omega) (by omega) (by omega) (by omega)]
    obtain ⟨m9, z1, z2, z3⟩ := t_end (n := n) hN hB7 (by
      unfold q_Cn
      rw [r623 14 (by decide) (by decide), y5 7 (by decide), y5 8 (by decide), y5 9 (by decide), e11 7 (by decide), e11 8 (by decide), e11 9 (by decide)]
      exact hC) (by
      unfold q_Sr
      rw [r623 27 (by decide) (by decide), r623 28 (by decide) (by decide), r623 29 (by decide) (by decide), eh 19 (Or.inr rfl), m3h 19 (by decide) (by decide) (by decide)]
      exact hSr) (by rw [eh 18 (Or.inl rfl)]; exact m318) (by rw [r6j 20 (by decide)]; exact r320) (by rw [y3 1 (by decide) (by decide) (by decide)]; exact c_emp_16 _)
    have v1 : m9 11 5 = 1 := by rw [z3, y3 1 (by decide) (by decide) (by decide), c_emp_15]; rfl
    refine ⟨1, m9, r6, fun _ => 0, ?_, ?_, by decide, z2⟩
    · unfold fn_X7_pack fn_X6_shut fn_X1_buildAnew
      rw [pu_lt, Option.bind_some, hm2, a1', Option.bind_some, a4, pu_gd ⟨by omega, by omega⟩, if_pos c0, c_startEmpty, y1, Option.bind_some, Option.bind_some, Option.bind_some, z1, Option.bind_some, v1]
    · unfold fn_X8_pack
      rw [pu_lt, hr1, b1', hf43, pu_gd ⟨by omega, by omega⟩, if_pos c0, hnode, Option.bind_some, pu_un, pu_lt, hr6]
  · -- something to pack
    obtain ⟨G, hG1, hG2⟩ := q_ghost (rr := r3) hB.1 hlenE (fun k x hx => by rw [r345]; exact b3 k x hx)
    have eLE : c_LE m3 = c_LE m := funext fun e => propext (LE e)
    have hBm : s_B (m3 17) 0 (m 1 12) (c_LE m3) := by
      rw [eLE]
      have hnd : (q_E m).Nodup := (pu_seq_nodup _ _).filter _
      have get : ∀ i, 0 ≤ i → i < m 1 12 → (q_E m)[i.toNat]? = some (m3 17 i) := fun i i1 i2 => by
        have hi : i.toNat < (q_E m).length := by omega
        have e1 := List.getElem?_eq_getElem hi
        have e2 := a5 i.toNat _ e1
        rw [show ((i.toNat : Nat) : Int) = i by omega] at e2
        rw [e1, e2]
      refine ⟨fun z => ⟨fun hz => ?_, fun ⟨i, i1, i2, e⟩ => ?_⟩, fun i j i1 i2 j1 j2 e => ?_⟩
      · obtain ⟨k, hk⟩ := List.mem_iff_getElem?.mp ((q_E_mem hP).mpr hz)
        have hk1 := (List.getElem?_eq_some_iff.mp hk).1
        exact ⟨(k : Int), by omega, by omega, a5 k z hk⟩
      · have := List.mem_of_getElem? (get i i1 i2)
        rw [e] at this
        exact (q_E_mem hP).mp this
      · have x := get i i1 i2
        have y := get j j1 j2
        rw [e] at x
        have := (List.getElem?_inj (i := i.toNat) (by omega) hnd).mp (x.trans y.symm)
        omega
    have e31 : m3 1 = m 1 := m3h 1 (by decide) (by decide) (by decide)
    have e32 : m3 2 = m 2 := m3h 2 (by decide) (by decide) (by decide)
    have hP3 : s_P w m3 := by unfold s_P; rw [e31]; exact hP
    have hDNV3 : q_D m3 ∧ q_N m3 ∧ q_V m3 := q_DNV_cg hP (by rw [e31]) (by rw [e31]) (fun e _ _ => by rw [e32]) (fun e _ _ => by rw [m3h 7 (by decide) (by decide) (by decide)]) (fun e _ _ => ert e) hB.2.2
    obtain ⟨s, m', r', ψ, k1, k2, ⟨k3, k4⟩, k5, ⟨k6, k7⟩, ⟨⟨f1, f2, f3⟩, f4⟩⟩ := q_built (w := w) (N := N) (m := m3) (r := r3) (φ := φ) (len := m 1 12) (G := G) hN hP3 (fun e he => by
        rw [m3h 7 (by decide) (by decide) (by decide), ert]
        exact hE e ((LE e).mp he)) (by
        obtain ⟨L, l1, l2, l3⟩ := hSS.2
        refine ⟨L, ?_, l2, fun e => ?_⟩
        · rw [e31]
          exact c_ch_congr L _ (fun b _ => by rw [m3h 8 (by decide) (by decide) (by decide)]) l1
        · rw [l3 e, e31, e32]) hDNV3.1 r326 (by rw [r3j 1 (by decide), r3j 2 (by decide), e31]; exact ⟨q2, q3⟩) (by rw [r3j 5 (by decide), e31]; exact q4) (by rw [r3j 12 (by decide), r3j 13 (by decide), m3h 11 (by decide) (by decide) (by decide)]; exact ⟨q5, q6⟩) (by rw [eLE]; exact hsi.2) (by rw [eLE, r3h 24 (by decide) (by decide) (by decide)]; exact hso.2) (fun e he => by
        rw [r3h 24 (by decide) (by decide) (by decide), m3h 7 (by decide) (by decide) (by decide), ert, d_rt_neg (r3h 25 (by decide) (by decide) (by decide))]
        exact hse e ((LE e).mp he)) a4 ⟨by omega, h12.2⟩ hBm (by rw [eLE]; exact hG1) hG2
    generalize hm8 : vl_up m' 11 6 s = m8 at k1 k3
    generalize hr8 : vl_up r' 23 11 (ψ s) = r8 at k2 k3
    have m8h : ∀ h : Nat, h ≠ 11 → m8 h = m' h := fun h x => by rw [← hm8, up_h _ _ _ x]
    have m86 : m8 11 6 = s := by rw [← hm8, up_s]
    have m811 : ∀ j, j ≠ 6 → m8 11 j = m 11 j := fun j x => by rw [← hm8, up_i _ _ x, f1 11 (by omega), m3h 11 (by decide) (by decide) (by decide)]
    have m81 : ∀ j, j ≠ 15 → j ≠ 16 → m8 1 j = m 1 j := fun j x y => by rw [m8h 1 (by decide), f2 j x y, e31]
    have r8j : ∀ j, j ≠ 11 → r8 23 j = r3 23 j := fun j x => by rw [← hr8, up_i _ _ x, f4 23 (by omega)]
    have LN8 : ∀ u, c_LN m8 u ↔ c_LN m' u := fun u => by unfold c_LN; rw [m8h 1 (by decide), m8h 2 (by decide)]
    have hB8 : q_B w m8 r8 ψ := by
      refine ⟨k3, ⟨⟨fun u hu => ⟨fun x _ => ?_, fun _ => ?_⟩, fun _ => ?_⟩, fun x => ?_⟩, q_DNV_cg hP (m81 12 (by decide) (by decide)) (m81 13 (by decide) (by decide)) (fun e _ e2 => by rw [m8h 2 (by decide), (f3 e e2).1, e32]) (fun e _ _ => by rw [m8h 7 (by decide), f1 7 (by omega), m3h 7 (by decide) (by decide) (by decide)]) (fun e _ e2 => by rw [c_rt_congr (m8h 3 (by decide)) (m8h 4 (by decide)) (m8h 5 (by decide)) (m8h 6 (by decide)), (f3 e e2).2, ert]) hB.2.2⟩
      · rw [m86] at x
        have := (k5 u ((LN8 u).mp hu)).1 x
        rw [m81 1 (by decide) (by decide), m8h 9 (by decide), ← e31]
        exact this
      · have := (k5 u ((LN8 u).mp hu)).2
        rw [m81 0 (by decide) (by decide), m8h 9 (by decide), ← e31]
        exact this
      · rw [m86, m8h 9 (by decide)]; exact k6
      · rw [m86, m8h 2 (by decide)] at x
        rw [m86, m8h 9 (by decide)]
        exact k7 x
    obtain ⟨m9, z1, z2, z3⟩ := t_end (n := n) hN hB8 (by
      unfold q_Cn
      rw [r8j 14 (by decide), r3j 14 (by decide), m811 7 (by decide), m811 8 (by decide), m811 9 (by decide)]
      exact hC) (by
      unfold q_Sr
      rw [r8j 27 (by decide), r8j 28 (by decide), r8j 29 (by decide), r3j 27 (by decide), r3j 28 (by decide), r3j 29 (by decide), m8h 19 (by decide), f1 19 (by omega), m3h 19 (by decide) (by decide) (by decide)]
      exact hSr) (by rw [m8h 18 (by decide), f1 18 (by omega)]; exact m318) (by rw [r8j 20 (by decide)]; exact r320) (by rw [m8h 1 (by decide)]; exact k4)
    have v1 : m9 11 5 = m' 1 15 - 400 := by rw [z3, m8h 1 (by decide)]
    have hb := hB8.1.1.1.2.2.2.1
    rw [m8h 1 (by decide)] at hb
    refine ⟨m' 1 15 - 400, m9, r8, ψ, ?_, ?_, ⟨by omega, by omega⟩, z2⟩
    · unfold fn_X7_pack fn_X6_shut fn_X1_buildAnew
      rw [pu_lt, Option.bind_some, hm2, a1', Option.bind_some, a4, pu_gd ⟨by omega, by omega⟩, if_neg c0, k1, Option.bind_some, z1, Option.bind_some, v1]
    · unfold fn_X8_pack
      rw [pu_lt, hr1, b1', hf43, pu_gd ⟨by omega, by omega⟩, if_neg c0, k2]
