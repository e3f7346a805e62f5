/-! ===== PURE, 48: visited ===== -/
theorem c_mnI {w N : Nat} {m : vl_M} {L : List Int} {a : Int} {k : Nat} {κ : Int → Int → Option Int} (h5 : m 11 5 = (L.length : Int)) (hlen : L.length ≤ 404) (hat : ∀ (k : Nat) x, L[k]? = some x → m 13 (k : Int) = x) (hnd : ∀ x, x ∈ L → c_nd x ∧ vl_r32 (m 2 x)) (hk : L[k]? = some a) (hok : ∀ x, x ∈ L → x ≠ a → m 2 a = m 2 x → r_ok (c_rt m a) ∧ r_ok (c_rt m x)) (hN : L.Nodup) : ∀ (n fu v : Nat) (c : Int), k < v → v + n = L.length → n < fu → fn_X5_meetingNodes_L19 N m (k : Int) κ fu c (v : Int) = κ (c + (((L.drop v).filter (fun x => v_pp m x a)).length : Int)) (L.length : Int) := by
  have hkl := (List.getElem?_eq_some_iff.mp hk).1
  have ha := hat k a hk
  obtain ⟨ha1, ha2⟩ := hnd a (List.mem_of_getElem? hk)
  intro n
  induction n with
  | zero =>
    intro fu v c h0 h1 h2
    obtain ⟨fu, rfl⟩ : ∃ x, fu = x + 1 := ⟨fu - 1, by omega⟩
    rw [fn_X5_meetingNodes_L19, pu_gd ⟨by omega, by omega⟩, h5, if_neg (by omega), List.drop_eq_nil_of_le (by omega), show (v : Int) = (L.length : Int) by omega]
    show κ c _ = κ (c + 0) _
    rw [Int.add_zero]
  | succ n ih =>
    intro fu v c h0 h1 h2
    obtain ⟨fu, rfl⟩ : ∃ x, fu = x + 1 := ⟨fu - 1, by omega⟩
    have hv : v < L.length := by omega
    have hgx : L[v]? = some L[v] := List.getElem?_eq_getElem hv
    have hx := hat v _ hgx
    have hxm : L[v] ∈ L := List.getElem_mem hv
    have hxa : L[v] ≠ a := fun z => by
      have := (List.getElem?_inj (i := v) (j := k) hv hN).mp (by rw [hgx, hk, z])
      omega
    rw [v_drop hv]
    generalize hxx : L[v] = x at *
    obtain ⟨hx1, hx2⟩ := hnd x hxm
    have e1 : (v : Int) + 1 = ((v + 1 : Nat) : Int) := by omega
    rw [fn_X5_meetingNodes_L19, pu_gd ⟨by omega, by omega⟩, h5, if_pos (by omega), pu_gd ⟨by omega, by omega⟩, ha, pu_gd ⟨by omega, by omega⟩, pu_gd ⟨by omega, by omega⟩, hx, pu_gd ⟨by omega, by omega⟩, pu_gd ha2, pu_gd hx2, pu_jn]
    by_cases cl : m 2 a = m 2 x
    · obtain ⟨o1, o2⟩ := hok x hxm hxa cl
      obtain ⟨l1, l2⟩ := c_meet (m := m) (a := a) (b := x) ⟨by omega, by omega⟩ ⟨by omega, by omega⟩ o1 o2
      rw [if_pos cl]
      by_cases cm : r_mt (c_rt m a) (c_rt m x)
      · have hp : v_pp m x a = true := by unfold v_pp; rw [decide_eq_true cl, r_mtb_t.mpr cm]; rfl
        rw [l1 cm, Option.bind_some, pu_gd (by decide), if_neg (by decide), pu_lt]
        dsimp only
        rw [pu_lt, e1, ih fu (v + 1) (c + 1) (by omega) (by omega) (by omega), List.filter_cons_of_pos (p := fun x => v_pp m x a) hp, List.length_cons]
        congr 1; omega
      · have hp : ¬ v_pp m x a = true := by unfold v_pp; rw [decide_eq_true cl, r_mtb_f.mpr cm]; decide
        rw [l2 cm, Option.bind_some, pu_gd (by decide), if_pos rfl]
        dsimp only
        rw [pu_lt, e1, ih fu (v + 1) c (by omega) (by omega) (by omega), List.filter_cons_of_neg (p := fun x => v_pp m x a) hp]
    · rw [if_neg cl]
      dsimp only
      rw [pu_lt, e1, ih fu (v + 1) c (by omega) (by omega) (by omega), List.filter_cons_of_neg (p := fun x => v_pp m x a) (by rw [v_pp_lv cl]; decide)]
theorem c_mnO {w N : Nat} {m : vl_M} {L : List Int} {κ : Int → Int → Option Int} (hNN : 100000 ≤ N) (h5 : m 11 5 = (L.length : Int)) (hlen : L.length ≤ 404) (hat : ∀ (k : Nat) x, L[k]? = some x → m 13 (k : Int) = x) (hnd : ∀ x, x ∈ L → c_nd x ∧ vl_r32 (m 2 x)) (hok : ∀ a x, a ∈ L → x ∈ L → x ≠ a → m 2 a = m 2 x → r_ok (c_rt m a) ∧ r_ok (c_rt m x)) (hN : L.Nodup) : ∀ (n fu v : Nat) (c : Int), v + n = L.length → n < fu → fn_X5_meetingNodes_L7 N m κ fu c (v : Int) = κ (c + ((pu_pc (v_pp m) (L.drop v) : Nat) : Int)) (L.length : Int) := by
  intro n
  induction n with
  | zero =>
    intro fu v c h1 h2
    obtain ⟨fu, rfl⟩ : ∃ x, fu = x + 1 := ⟨fu - 1, by omega⟩
    rw [fn_X5_meetingNodes_L7, pu_gd ⟨by omega, by omega⟩, h5, pu_gd ⟨by omega, by omega⟩, if_neg (by omega), List.drop_eq_nil_of_le (by omega), show (v : Int) = (L.length : Int) by omega]
    show κ c _ = κ (c + 0) _
    rw [Int.add_zero]
  | succ n ih =>
    intro fu v c h1 h2
    obtain ⟨fu, rfl⟩ : ∃ x, fu = x + 1 := ⟨fu - 1, by omega⟩
    have hv : v < L.length := by omega
    have hgx : L[v]? = some L[v] := List.getElem?_eq_getElem hv
    have e1 : (v : Int) + 1 = ((v + 1 : Nat) : Int) := by omega
    have hin := c_mnI (w := w) (N := N) (k := v) (κ := fun (v11 : Int) (v12 : Int) => vl_lt ((v : Int) + 1) fun v13 => fn_X5_meetingNodes_L7 N m κ fu v11 v13) h5 hlen hat hnd hgx (fun x hx hne hl => hok _ x (List.getElem_mem hv) hx hne hl) hN n N (v + 1) c (by omega) (by omega) (by omega)
    rw [fn_X5_meetingNodes_L7, pu_gd ⟨by omega, by omega⟩, h5, pu_gd ⟨by omega, by omega⟩, if_pos (by omega), pu_lt]
    rw [e1] at hin ⊢
    rw [hin, pu_lt, ih fu (v + 1) _ (by omega) (by omega), v_drop hv]
    show κ _ _ = κ (c + (((((L.drop (v + 1)).filter (fun x => v_pp m x L[v])).length + pu_pc (v_pp m) (L.drop (v + 1)) : Nat)) : Int)) _
    congr 1; omega
theorem t_visited {n w N : Nat} {m r : vl_M} {φ : Int → Int} {a : Int} (hN : 100000 ≤ N) (h : q_top n w m r φ) (ha : vl_r32 a) : ∃ v, fn_X7_visited N m a = some v ∧ fn_X8_visited N r a = some v ∧ vl_r32 v := by
  obtain ⟨⟨hB, hO⟩, ⟨-, hS⟩, ⟨hW1, hW2⟩, hWo⟩ := id h
  obtain ⟨⟨hP, hK, hA, hR⟩, -, hT, -, hrr⟩ := id hB.1
  obtain ⟨n1, n2, n3⟩ := c_ord_nodup hP hK hR.1.1
  obtain ⟨hge, hlv, hpos⟩ := q_B_lv hB
  by_cases c0 : a = 0
  · rcases hW2 with z | z
    · refine ⟨-1, ?_, ?_, by decide⟩
      · unfold fn_X7_visited
        rw [pu_gd ha, if_pos c0, z, pu_gd (by decide), if_pos rfl]
      · unfold fn_X8_visited
        rw [pu_gd ha, if_pos c0, ← hW1, z, pu_gd (by decide), if_pos rfl]
    · obtain ⟨q, -, -, ⟨o4, -⟩, ⟨o5, o6, o7⟩, -⟩ := hWo z
      refine ⟨m 18 3, ?_, ?_, ⟨by omega, by omega⟩⟩
      · unfold fn_X7_visited
        rw [pu_gd ha, if_pos c0, z, pu_gd (by decide), if_neg (by decide)]
      · unfold fn_X8_visited
        rw [pu_gd ha, if_pos c0, ← hW1, z, pu_gd (by decide), if_neg (by decide), o5]
  by_cases c1 : a = 1
  · refine ⟨m 19 5, ?_, ?_, ⟨by have := hS.1; omega, by have := hS.1; omega⟩⟩
    · unfold fn_X7_visited
      rw [pu_gd ha, if_neg c0, if_pos c1]
    · unfold fn_X8_visited
      rw [pu_gd ha, if_neg c0, if_pos c1, hS.1.1]
  by_cases c2 : a = 2
  · have hlr := hR.1.1.2
    have hl8 := hlv _ hR.1.1
    have e1 := c_mnO (w := w) (N := N) (κ := fun (v4 : Int) (v5 : Int) => some (v4)) hN hO.1 n2 (fun k x hx => (hO.2 k x hx).1) (fun x hx => by
      have hxL := n3 x hx
      have := c_LN_nd hP hxL
      have := (hK x hxL).1.1
      have := hxL.2
      exact ⟨c_LN_nd hP hxL, ⟨by omega, by omega⟩⟩) (fun a x hxa hxx hne hl => by
      have key : ∀ y, y ∈ c_ord w m → y ≠ m 11 6 → m 2 y < m 2 (m 11 6) := fun y hy hyr => by
        obtain ⟨-, j, j1, j2, j3⟩ := c_pre_sub hK _ _ y hR.1.1 (by omega) hy
        have hj : j ≠ 0 := fun z => by
          rw [z] at j3
          exact hyr j3
        omega
      have har : a ≠ m 11 6 := fun z => by
        have := key x hxx (fun y => hne (by rw [y, z]))
        rw [← z] at this; omega
      have hxr : x ≠ m 11 6 := fun z => by
        have := key a hxa har
        rw [← z] at this; omega
      have hpa := hpos a (n3 a hxa) har
      have hpx := hpos x (n3 x hxx) hxr
      exact ⟨(hT a (n3 a hxa) (by have := (n3 a hxa).1; omega) hpa).1.1, (hT x (n3 x hxx) (by have := (n3 x hxx).1; omega) hpx).1.1⟩) n1 (c_ord w m).length N 0 ((c_ord w m).length : Int) (by omega) (by omega)
    have e2 := d_prC hN hB.1 hpos (m 2 (m 11 6)).toNat 60 (m 11 6) hR.1.1 (by omega) (by omega)
    have hb := pu_pc_le (v_pp m) (c_ord w m)
    have hb2 : (c_ord w m).length * (c_ord w m).length ≤ 404 * 404 := Nat.mul_le_mul n2 n2
    refine ⟨((((c_ord w m).length + pu_pc (v_pp m) (c_ord w m) : Nat)) : Int), ?_, ?_, ⟨by omega, by omega⟩⟩
    · unfold fn_X7_visited fn_X5_meetingNodes
      have e1' := e1
      rw [show ((0 : Nat) : Int) = 0 from rfl, List.drop_zero] at e1'
      rw [pu_gd ha, if_neg c0, if_neg c1, if_pos c2, pu_lt, hO.1, e1', Option.bind_some]
      congr 1
    · unfold fn_X8_visited
      rw [pu_gd ha, if_neg c0, if_neg c1, if_pos c2, hrr.1, e2, Option.bind_some]
      rfl
  · refine ⟨-1, ?_, ?_, by decide⟩
    · unfold fn_X7_visited
      rw [pu_gd ha, if_neg c0, if_neg c1, if_neg c2]
    · unfold fn_X8_visited
      rw [pu_gd ha, if_neg c0, if_neg c1, if_neg c2]
