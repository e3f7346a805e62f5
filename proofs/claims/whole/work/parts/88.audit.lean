/-! ===== PURE, 49: audit ===== -/
def v_eq5 (m mm : vl_M) : Prop := (∀ h : Nat, h ≠ 3 → h ≠ 4 → h ≠ 5 → h ≠ 6 → mm h = m h) ∧ ∀ u, u ≠ 805 → c_rt mm u = c_rt m u
theorem c_enough {m mm : vl_M} {x : Int} (hx : c_nd x) (hmm : v_eq5 m mm) (h6 : vl_r32 (m 11 6)) (hl : vl_r32 (m 2 x)) (h9 : vl_r32 (m 9 x)) (h1 : vl_r32 (m 1 1)) (h0 : vl_r32 (m 1 0)) (hmost : m 9 x ≤ m 1 0) (hleast : x ≠ m 11 6 → m 1 1 ≤ m 9 x) (hz : 0 ≤ m 9 x) (hroot : x = m 11 6 → m 2 x ≠ 0 → 2 ≤ m 9 x) : fn_X0_holdsEnough mm x = some 1 := by
  have e1 := hmm.1 1 (by decide) (by decide) (by decide) (by decide)
  have e2 := hmm.1 2 (by decide) (by decide) (by decide) (by decide)
  have e9 := hmm.1 9 (by decide) (by decide) (by decide) (by decide)
  have e11 := hmm.1 11 (by decide) (by decide) (by decide) (by decide)
  unfold fn_X0_holdsEnough
  rw [e1, e2, e9, e11, pu_lt, pu_gd ⟨by omega, by omega⟩, pu_gd h6, pu_jn]
  by_cases c : x = m 11 6
  · rw [if_pos c, pu_gd ⟨by omega, by omega⟩, pu_gd hl, pu_jn]
    by_cases c2 : m 2 x = 0
    · rw [if_pos c2]
      dsimp only
      rw [pu_gd ⟨by omega, by omega⟩, pu_gd h9, pu_gd (by decide), if_neg (by omega), pu_gd h0, if_neg (by omega)]
    · have := hroot c c2
      rw [if_neg c2]
      dsimp only
      rw [pu_gd ⟨by omega, by omega⟩, pu_gd h9, pu_gd (by decide), if_neg (by omega), pu_gd h0, if_neg (by omega)]
  · have := hleast c
    rw [if_neg c]
    dsimp only
    rw [pu_gd ⟨by omega, by omega⟩, pu_gd h9, pu_gd h1, if_neg (by omega), pu_gd h0, if_neg (by omega)]
theorem c_rightly {w N : Nat} {m mm : vl_M} {X : Int → Prop} {x : Int} (hN : 100000 ≤ N) (hP : s_P w m) (hK : s_K w m X) (hx : c_LN m x) (hmm : v_eq5 m mm) : fn_X0_holdsRightly w N mm x = some 1 := by
  have e1 := hmm.1 1 (by decide) (by decide) (by decide) (by decide)
  have e2 := hmm.1 2 (by decide) (by decide) (by decide) (by decide)
  have e8 := hmm.1 8 (by decide) (by decide) (by decide) (by decide)
  have e9 := hmm.1 9 (by decide) (by decide) (by decide) (by decide)
  have e10 := hmm.1 10 (by decide) (by decide) (by decide) (by decide)
  have hnd := c_LN_nd hP hx
  have hz := (hK x hx).1
  have hl0 := hx.2
  have hw11 := hP.1.2
  have loop : ∀ (n fu : Nat) (v : Int), 0 ≤ v → v + (n : Int) = m 9 x → n < fu → fn_X0_holdsRightly_L2 w N mm x (fun (v2 : Int) => some (1)) fu v = some 1 := by
    intro n
    induction n with
    | zero =>
      intro fu v h1 h2 h3
      obtain ⟨fu, rfl⟩ : ∃ x, fu = x + 1 := ⟨fu - 1, by omega⟩
      rw [fn_X0_holdsRightly_L2, pu_gd ⟨by omega, by omega⟩, pu_gd ⟨by omega, by omega⟩, e9, pu_gd ⟨by omega, by omega⟩, if_neg (by omega)]
    | succ n ih =>
      intro fu v h1 h2 h3
      obtain ⟨fu, rfl⟩ : ∃ x, fu = x + 1 := ⟨fu - 1, by omega⟩
      obtain ⟨⟨k1, k2⟩, ⟨k3, -, -⟩, -⟩ := (hK x hx).2 v h1 (by omega)
      have hin := c_LT_in hP k1
      have ek : c_k w mm x v = c_k w m x v := by unfold c_k; rw [e10]
      rw [fn_X0_holdsRightly_L2, pu_gd ⟨by omega, by omega⟩, pu_gd ⟨by omega, by omega⟩, e9, pu_gd ⟨by omega, by omega⟩, if_pos (by omega), c_thing (N := N) ⟨hP.1.1, hP.1.2, hN, by rw [e1]; exact hP.2.1.1⟩ hnd ⟨by omega, by omega⟩, Option.bind_some, ek, pu_gd hin, e2, pu_gd ⟨by omega, by omega⟩, pu_gd ⟨by omega, by omega⟩, if_pos k2, e8, k3, pu_gd ⟨by omega, by omega⟩, if_pos rfl, pu_lt]
      exact ih fu (v + 1) (by omega) (by omega) (by omega)
  unfold fn_X0_holdsRightly
  exact loop (m 9 x).toNat N 0 (by omega) (by omega) (by omega)
theorem c_tightx {w N : Nat} {m mm r : vl_M} {φ : Int → Int} {X : Int → Prop} {x : Int} (hN : 100000 ≤ N) (h : q_I w m r φ X (-1)) (h0 : ∀ s, c_LN m s → s ≠ m 11 6 → 0 < m 9 s) (hx : c_LN m x) (hmm : v_eq5 m mm) : ∃ mm', fn_X0_isTight w N mm x = some (1, mm') ∧ v_eq5 m mm' := by
  obtain ⟨⟨hP, hK, hA, hR⟩, -, hT, -, -⟩ := id h
  have e1 := hmm.1 1 (by decide) (by decide) (by decide) (by decide)
  have e9 := hmm.1 9 (by decide) (by decide) (by decide) (by decide)
  have e10 := hmm.1 10 (by decide) (by decide) (by decide) (by decide)
  have hnd := c_LN_nd hP hx
  have hz := (hK x hx).1
  have hw11 := hP.1.2
  have ek : ∀ i, c_k w mm x i = c_k w m x i := fun i => by unfold c_k; rw [e10]
  have hkid : ∀ i, 0 ≤ i → i < m 9 x → c_in (c_k w m x i) ∧ c_k w m x i ≠ 805 ∧ r_ok (c_rt m (c_k w m x i)) := fun i i1 i2 => by
    obtain ⟨⟨k1, k2⟩, ⟨-, -, k5⟩, -⟩ := (hK x hx).2 i i1 i2
    have hin := c_LT_in hP k1
    have hlt : c_k w m x i < 804 := by
      rcases k1 with y | y
      · have := c_LE_lt hP y; omega
      · have := c_LN_nd hP y; omega
    exact ⟨hin, by omega, (q_thing h k1 (by omega) (fun z => h0 _ z k5)).2.2⟩
  have hfit := c_fit (w := w) (N := N) (m := mm) (s := x) (t := 805) (f := fun i => c_rt m (c_k w m x i)) hnd (by decide) (by rw [e9]; exact hz.2) (fun i i1 i2 => by
    rw [e9] at i2
    obtain ⟨k1, k2, k3⟩ := hkid i i1 i2
    rw [ek, hmm.2 _ k2]
    exact ⟨k1, k2, rfl, k3⟩) ⟨hP.1.1, hP.1.2, hN, by rw [e1]; exact hP.2.1.1⟩
  rw [e9] at hfit
  by_cases c : m 9 x = 0
  · rw [if_pos c] at hfit
    refine ⟨mm, ?_, hmm⟩
    unfold fn_X0_isTight
    rw [hfit, Option.bind_some, pu_gd ⟨by omega, by omega⟩, e9, pu_gd ⟨by omega, by omega⟩, if_pos c]
  · rw [if_neg c] at hfit
    obtain ⟨⟨t1, t2⟩, t3⟩ := hT x hx (by omega) (by omega)
    have hq : r_mb (fun i => c_rt m (c_k w m x i)) (m 9 x - 1).toNat = c_rt m x := by
      refine r_is_uni (r_is_congr (fun p => ?_) (r_mb_is (fun i => c_rt m (c_k w m x i)) (m 9 x - 1).toNat)) t3
      constructor
      · rintro ⟨i, i1, i2, e⟩
        exact ⟨i, i1, by omega, e⟩
      · rintro ⟨i, i1, i2, e⟩
        exact ⟨i, i1, by omega, e⟩
    rw [hq] at hfit
    have ert : c_rt (c_set mm 805 (c_rt m x)) x = c_rt m x := by rw [c_set_ne _ _ (by omega), hmm.2 x (by omega)]
    obtain ⟨s1, -⟩ := c_same (m := c_set mm 805 (c_rt m x)) (a := 805) (b := x) (by decide) ⟨by omega, by omega⟩ (by rw [c_set_s]; exact t1) (by rw [ert]; exact t1)
    refine ⟨c_set mm 805 (c_rt m x), ?_, ⟨fun h a b c d => by rw [c_set_h _ _ _ a b c d, hmm.1 h a b c d], fun u hu => by rw [c_set_ne _ _ hu, hmm.2 u hu]⟩⟩
    unfold fn_X0_isTight
    rw [hfit, Option.bind_some, pu_gd ⟨by omega, by omega⟩, c_set_h _ _ _ (by decide) (by decide) (by decide) (by decide), e9, pu_gd ⟨by omega, by omega⟩, if_neg c, s1 (by rw [c_set_s, ert]), Option.bind_some, pu_gd (by decide), if_neg (by decide)]
theorem c_twice {w N : Nat} {m mm : vl_M} (hN : 100000 ≤ N) (hP : s_P w m) (hE : s_E m) (hV : q_V m) (hD : q_D m) (hmm : v_eq5 m mm) : fn_X0_noneIsTwice N mm = some 1 := by
  have e1 := hmm.1 1 (by decide) (by decide) (by decide) (by decide)
  have e2 := hmm.1 2 (by decide) (by decide) (by decide) (by decide)
  have e7 := hmm.1 7 (by decide) (by decide) (by decide) (by decide)
  have hp := hP.2.2.2.2
  have inner : ∀ (a : Int) (κ : Int → Option Int), 0 ≤ a → a < m 1 13 → ∀ (n fu : Nat) (v : Int), a < v → v + (n : Int) = m 1 13 → n < fu → fn_X0_noneIsTwice_L17 N mm a κ fu v = κ (m 1 13) := by
    intro a κ ha1 ha2 n
    induction n with
    | zero =>
      intro fu v h1 h2 h3
      obtain ⟨fu, rfl⟩ : ∃ x, fu = x + 1 := ⟨fu - 1, by omega⟩
      rw [fn_X0_noneIsTwice_L17, pu_gd ⟨by omega, by omega⟩, e1, if_neg (by omega), show v = m 1 13 by omega]
    | succ n ih =>
      intro fu v h1 h2 h3
      obtain ⟨fu, rfl⟩ : ∃ x, fu = x + 1 := ⟨fu - 1, by omega⟩
      rw [fn_X0_noneIsTwice_L17, pu_gd ⟨by omega, by omega⟩, e1, if_pos (by omega), c_isE ⟨by omega, by omega⟩ (by rw [e2]; exact hV a ha1 (by omega)), Option.bind_some, e2]
      by_cases cA : m 2 a = -1
      · rw [if_pos cA, pu_gd (by decide), if_neg (by decide), c_isE ⟨by omega, by omega⟩ (by rw [e2]; exact hV v (by omega) (by omega)), Option.bind_some, e2]
        by_cases cV : m 2 v = -1
        · have hA : c_LE m a := ⟨⟨ha1, ha2⟩, cA⟩
          have hVv : c_LE m v := ⟨⟨by omega, by omega⟩, cV⟩
          obtain ⟨-, l2⟩ := c_alike (m := mm) (a := a) (b := v) ⟨by omega, by omega⟩ ⟨by omega, by omega⟩ (by rw [e7]; have := (hE a hA).1; exact ⟨by omega, by omega⟩) (by rw [e7]; have := (hE v hVv).1; exact ⟨by omega, by omega⟩) (by rw [hmm.2 a (by omega)]; exact (hE a hA).2) (by rw [hmm.2 v (by omega)]; exact (hE v hVv).2)
          rw [if_pos cV, pu_gd (by decide), if_neg (by decide), l2 (fun z => by
            rw [e7, hmm.2 a (by omega), hmm.2 v (by omega)] at z
            have := hD a v hA hVv z.1 z.2
            omega), Option.bind_some, pu_gd (by decide), if_pos rfl, pu_lt]
          exact ih fu (v + 1) (by omega) (by omega) (by omega)
        · rw [if_neg cV, pu_gd (by decide), if_pos rfl, pu_lt]
          exact ih fu (v + 1) (by omega) (by omega) (by omega)
      · rw [if_neg cA, pu_gd (by decide), if_pos rfl, pu_lt]
        exact ih fu (v + 1) (by omega) (by omega) (by omega)
  have outer : ∀ (n fu : Nat) (v : Int), 0 ≤ v → v + (n : Int) = m 1 13 → n < fu → fn_X0_noneIsTwice_L2 N mm (fun (v2 : Int) => some (1)) fu v = some 1 := by
    intro n
    induction n with
    | zero =>
      intro fu v h1 h2 h3
      obtain ⟨fu, rfl⟩ : ∃ x, fu = x + 1 := ⟨fu - 1, by omega⟩
      rw [fn_X0_noneIsTwice_L2, pu_gd ⟨by omega, by omega⟩, e1, pu_gd ⟨by omega, by omega⟩, if_neg (by omega)]
    | succ n ih =>
      intro fu v h1 h2 h3
      obtain ⟨fu, rfl⟩ : ∃ x, fu = x + 1 := ⟨fu - 1, by omega⟩
      rw [fn_X0_noneIsTwice_L2, pu_gd ⟨by omega, by omega⟩, e1, pu_gd ⟨by omega, by omega⟩, if_pos (by omega), pu_lt, inner v _ h1 (by omega) n N (v + 1) (by omega) (by omega) (by omega), pu_lt]
      exact ih fu (v + 1) (by omega) (by omega) (by omega)
  unfold fn_X0_noneIsTwice
  exact outer (m 1 13).toNat N 0 (by omega) (by omega) (by omega)
/-- how many entries the leaves hold -/
def v_sum (m : vl_M) : List Int → Int
  | [] => 0
  | x :: L => (if m 2 x = 0 then m 9 x else 0) + v_sum m L
theorem v_sum_le {m : vl_M} : ∀ (L : List Int), (∀ x, x ∈ L → 0 ≤ m 9 x ∧ m 9 x ≤ 11) → 0 ≤ v_sum m L ∧ v_sum m L ≤ 11 * (L.length : Int) := by
  intro L
  induction L with
  | nil => intro _; exact ⟨Int.le_refl _, by simp [v_sum]⟩
  | cons x L ih =>
    intro h
    obtain ⟨i1, i2⟩ := ih (fun y hy => h y (List.mem_cons_of_mem _ hy))
    have := h x List.mem_cons_self
    have e : ((x :: L).length : Int) = (L.length : Int) + 1 := by simp
    unfold v_sum
    by_cases c : m 2 x = 0
    · rw [if_pos c]; omega
    · rw [if_neg c]; omega
theorem c_auL {w N : Nat} {m r : vl_M} {φ : Int → Int} {κ : Int → Int → vl_M → Option (Int × vl_M)} (hN : 100000 ≤ N) (hB : q_B w m r φ) (hO : q_O w m) : ∀ (n fu v : Nat) (c : Int) (mm : vl_M), v_eq5 m mm → v + n = (c_ord w m).length → n < fu → ∃ mm', fn_X0_findsAllWell_L4 w N κ fu c (v : Int) mm = κ (c + v_sum m ((c_ord w m).drop v)) ((c_ord w m).length : Int) mm' ∧ v_eq5 m mm' := by
  obtain ⟨hI, ⟨hZ, hW⟩, -⟩ := id hB
  obtain ⟨⟨hP, hK, hA, hR⟩, -, hT, -, -⟩ := id hI
  obtain ⟨n1, n2, n3⟩ := c_ord_nodup hP hK hR.1.1
  obtain ⟨hge, hlv, hpos⟩ := q_B_lv hB
  have hrnd := c_LN_nd hP hR.1.1
  have hpl := hP.2.2.1
  have hpm := hP.2.1.2
  have hw11 := hP.1.2
  intro n
  induction n with
  | zero =>
    intro fu v c mm hmm h1 h2
    obtain ⟨fu, rfl⟩ : ∃ x, fu = x + 1 := ⟨fu - 1, by omega⟩
    have e11 := hmm.1 11 (by decide) (by decide) (by decide) (by decide)
    refine ⟨mm, ?_, hmm⟩
    rw [fn_X0_findsAllWell_L4, pu_gd ⟨by omega, by omega⟩, e11, hO.1, pu_gd ⟨by omega, by omega⟩, if_neg (by omega), List.drop_eq_nil_of_le (by omega), show (v : Int) = ((c_ord w m).length : Int) by omega]
    show κ c _ mm = κ (c + 0) _ mm
    rw [Int.add_zero]
  | succ n ih =>
    intro fu v c mm hmm h1 h2
    obtain ⟨fu, rfl⟩ : ∃ x, fu = x + 1 := ⟨fu - 1, by omega⟩
    have e11 := hmm.1 11 (by decide) (by decide) (by decide) (by decide)
    have e13 := hmm.1 13 (by decide) (by decide) (by decide) (by decide)
    have hv : v < (c_ord w m).length := by omega
    have hgx : (c_ord w m)[v]? = some (c_ord w m)[v] := List.getElem?_eq_getElem hv
    have hx := (hO.2 v _ hgx).1
    have hxm : (c_ord w m)[v] ∈ c_ord w m := List.getElem_mem hv
    rw [v_drop hv]
    generalize hxx : (c_ord w m)[v] = x at *
    have hxL := n3 x hxm
    have hnd := c_LN_nd hP hxL
    have hz := (hK x hxL).1
    have hl0 := hxL.2
    have hsz := (hZ.1 x hxL).2 (by omega)
    have g1 := c_enough hnd hmm ⟨by omega, by omega⟩ ⟨by omega, by omega⟩ ⟨by omega, by omega⟩ ⟨by omega, by omega⟩ ⟨by omega, by omega⟩ hsz (fun z => (hZ.1 x hxL).1 z (by omega)) hz.2.1 (fun z1 z2 => by rw [z1]; exact hW (by rw [← z1]; omega))
    have g2 := c_rightly hN hP hK hxL hmm
    obtain ⟨m1, g3, g4⟩ := c_tightx hN hI hpos hxL hmm
    have e2 := g4.1 2 (by decide) (by decide) (by decide) (by decide)
    have e9 := g4.1 9 (by decide) (by decide) (by decide) (by decide)
    have ev : (v : Int) + 1 = ((v + 1 : Nat) : Int) := by omega
    obtain ⟨mm', s1, s2⟩ := ih fu (v + 1) (c + (if m 2 x = 0 then m 9 x else 0)) m1 g4 (by omega) (by omega)
    refine ⟨mm', ?_, s2⟩
    have est : v_sum m (x :: (c_ord w m).drop (v + 1)) = (if m 2 x = 0 then m 9 x else 0) + v_sum m ((c_ord w m).drop (v + 1)) := rfl
    rw [est, ← Int.add_assoc, ← s1, fn_X0_findsAllWell_L4, pu_gd ⟨by omega, by omega⟩, e11, hO.1, pu_gd ⟨by omega, by omega⟩, if_pos (by omega), pu_gd ⟨by omega, by omega⟩, pu_lt, e13, hx, g1, Option.bind_some, pu_gd (by decide), if_neg (by decide), g2, Option.bind_some, pu_gd (by decide), if_neg (by decide), g3, Option.bind_some, pu_un, pu_gd (by decide), if_neg (by decide), pu_gd ⟨by omega, by omega⟩, e2, pu_gd ⟨by omega, by omega⟩, pu_jn]
    by_cases c0 : m 2 x = 0
    · rw [if_pos c0, if_pos c0, pu_lt, e9]
      dsimp only
      rw [pu_lt, ev]
    · rw [if_neg c0, if_neg c0, Int.add_zero]
      dsimp only
      rw [pu_lt, ev]
/-- a thing in a node adds nothing -/
theorem r_cv_in {q p : pR} (h : (q.1 ≤ p.1 ∧ q.2.1 ≤ p.2.1) ∧ (p.2.2.1 ≤ q.2.2.1 ∧ p.2.2.2 ≤ q.2.2.2)) : r_cv q p = q := by
  obtain ⟨a, b, c, d⟩ := q
  obtain ⟨a', b', c', d'⟩ := p
  dsimp only at h
  unfold r_cv
  dsimp only
  rw [Int.min_eq_left (by omega), Int.min_eq_left (by omega), Int.max_eq_left (by omega), Int.max_eq_left (by omega)]
theorem d_auI {w N : Nat} {m r : vl_M} {φ : Int → Int} {X : Int → Prop} {x v25 v4 : Int} {κ : Int → Option (Int × vl_M)} (h : q_I w m r φ X (-1)) (hX : ∀ y, ¬ X y) (h0 : ∀ s, c_LN m s → s ≠ m 11 6 → 0 < m 9 s) (hx : c_LN m x) : ∀ (n fu : Nat) (v : Int), 0 ≤ v → v + (n : Int) = m 9 x → n < fu → fn_X8_audit_L118 N r v25 v4 (φ x) κ fu v = κ (m 9 x) := by
  obtain ⟨⟨hP, hK, hA, hR⟩, -, hT, ⟨hsn, hsi, -⟩, -⟩ := id h
  obtain ⟨⟨b1, b2, b3⟩, b4, -⟩ := hsn x hx
  have hz := (hK x hx).1
  have hw11 := hP.1.2
  have hl0 := hx.2
  intro n
  induction n with
  | zero =>
    intro fu v h1 h2 h3
    obtain ⟨fu, rfl⟩ : ∃ x, fu = x + 1 := ⟨fu - 1, by omega⟩
    rw [fn_X8_audit_L118, pu_gd ⟨by omega, by omega⟩, b3, if_neg (by omega), show v = m 9 x by omega]
  | succ n ih =>
    intro fu v h1 h2 h3
    obtain ⟨fu, rfl⟩ : ∃ x, fu = x + 1 := ⟨fu - 1, by omega⟩
    obtain ⟨⟨k1, k2⟩, ⟨k3, k4, k5⟩, -⟩ := (hK x hx).2 v h1 (by omega)
    have hin := c_LT_in hP k1
    obtain ⟨t1, t2, t3⟩ := q_thing h k1 (by omega) (fun z => h0 _ z k5)
    obtain ⟨⟨u1, u2⟩, u3⟩ := hT x hx (by have := hx.1; omega) (by omega)
    have hdx : d_in (m 2 x) (φ x) := ⟨⟨by omega, by omega⟩, b1.1, fun z => by omega, fun _ => b1.2⟩
    have hrx : d_rt r (m 2 x) (φ x) = c_rt m x := by rw [d_rt_pos _ _ hl0]; exact u2
    have hcv : r_cv (c_rt m x) (c_rt m (c_k w m x v)) = c_rt m x := r_cv_in (u3.1 _ ⟨v, h1, by omega, rfl⟩)
    have har := r_ar_le u1
    have hA1 : fn_X8_areaBoth r (m 2 x) (φ x) (m 2 x - 1) (φ (c_k w m x v)) = some (r_ar (c_rt m x)) := by
      rw [k2] at t1 t2
      rw [d_areaBoth hdx t1 (by rw [hrx]; exact u1) (by rw [t2]; exact t3), hrx, t2, hcv]
    have hA2 : fn_X8_areaOf r (m 2 x) (φ x) = some (r_ar (c_rt m x)) := by
      rw [d_areaOf hdx (by rw [hrx]; exact u1), hrx]
    rw [fn_X8_audit_L118, pu_gd ⟨by omega, by omega⟩, b3, if_pos (by omega), d_held b1 ⟨h1, by omega⟩, Option.bind_some, b4 v h1 (by omega), pu_jn, b2]
    have tail : (fn_X8_areaBoth r (m 2 x) (φ x) (m 2 x - 1) (φ (c_k w m x v))).bind (fun b32 => (fn_X8_areaOf r (m 2 x) (φ x)).bind fun b33 => vl_gd (vl_r64 b32) <| vl_gd (vl_r64 b33) <| if b32 = b33 then (vl_lt (v + 1) fun v36 => fn_X8_audit_L118 N r v25 v4 (φ x) κ fu v36) else some (0, r)) = κ (m 9 x) := by
      rw [hA1, Option.bind_some, hA2, Option.bind_some, pu_gd (pu_r64 (by omega) (by omega)), pu_gd (pu_r64 (by omega) (by omega)), if_pos rfl, pu_lt]
      exact ih fu (v + 1) (by omega) (by omega) (by omega)
    by_cases c0 : 0 < m 2 x
    · have hcN : c_LN m (c_k w m x v) := c_LT_N k1 (by omega)
      obtain ⟨⟨y1, y2, y3⟩, -, y5, -⟩ := hsn _ hcN
      rw [if_pos c0, pu_gd y1, y2, pu_gd ⟨by omega, by omega⟩, pu_gd ⟨by omega, by omega⟩, if_pos k2, y5 k5 (hX _), k3, pu_gd ⟨by omega, by omega⟩, if_pos rfl]
      exact tail
    · rw [if_neg c0]
      exact tail
theorem d_auL {w N : Nat} {m r : vl_M} {φ : Int → Int} {κ : Int → Int → Option (Int × vl_M)} (hN : 100000 ≤ N) (hB : q_B w m r φ) (h19 : r 23 19 = ((c_ord w m).length : Int)) (h33 : ∀ (k : Nat) x, (c_ord w m)[k]? = some x → r 33 (k : Int) = φ x) : ∀ (n fu v : Nat) (c : Int), v + n = (c_ord w m).length → n < fu → fn_X8_audit_L8 N r κ fu c (v : Int) = κ (c + v_sum m ((c_ord w m).drop v)) ((c_ord w m).length : Int) := by
  obtain ⟨hI, ⟨hZ, hW⟩, -⟩ := id hB
  obtain ⟨⟨hP, hK, hA, hR⟩, -, hT, ⟨hsn, hsi, -⟩, ⟨q1, ⟨q2, q3⟩, -⟩⟩ := id hI
  obtain ⟨n1, n2, n3⟩ := c_ord_nodup hP hK hR.1.1
  obtain ⟨hge, hlv, hpos⟩ := q_B_lv hB
  have hrd := (hsn _ hR.1.1).1.1
  have hpl := hP.2.2.1
  have hpm := hP.2.1.2
  have hw11 := hP.1.2
  intro n
  induction n with
  | zero =>
    intro fu v c h1 h2
    obtain ⟨fu, rfl⟩ : ∃ x, fu = x + 1 := ⟨fu - 1, by omega⟩
    rw [fn_X8_audit_L8, pu_gd ⟨by omega, by omega⟩, h19, pu_gd ⟨by omega, by omega⟩, if_neg (by omega), List.drop_eq_nil_of_le (by omega), show (v : Int) = ((c_ord w m).length : Int) by omega]
    show κ c _ = κ (c + 0) _
    rw [Int.add_zero]
  | succ n ih =>
    intro fu v c h1 h2
    obtain ⟨fu, rfl⟩ : ∃ x, fu = x + 1 := ⟨fu - 1, by omega⟩
    have hv : v < (c_ord w m).length := by omega
    have hgx : (c_ord w m)[v]? = some (c_ord w m)[v] := List.getElem?_eq_getElem hv
    have hx := h33 v _ hgx
    have hxm : (c_ord w m)[v] ∈ c_ord w m := List.getElem_mem hv
    rw [v_drop hv]
    generalize hxx : (c_ord w m)[v] = x at *
    have hxL := n3 x hxm
    have hz := (hK x hxL).1
    have hl0 := hxL.2
    have hsz := (hZ.1 x hxL).2 (by have := hxL.1; omega)
    obtain ⟨⟨b1, b2, b3⟩, -⟩ := hsn x hxL
    have ev : (v : Int) + 1 = ((v + 1 : Nat) : Int) := by omega
    have est : v_sum m (x :: (c_ord w m).drop (v + 1)) = (if m 2 x = 0 then m 9 x else 0) + v_sum m ((c_ord w m).drop (v + 1)) := rfl
    have rest : ∀ cc : Int, fn_X8_audit_L118 N r cc (v : Int) (φ x) (fun (v27 : Int) => vl_lt ((v : Int) + 1) fun v28 => fn_X8_audit_L8 N r κ fu cc v28) N 0 = κ (cc + v_sum m ((c_ord w m).drop (v + 1))) ((c_ord w m).length : Int) := fun cc => by
      rw [d_auI hI (fun _ z => z) hpos hxL (m 9 x).toNat N 0 (by omega) (by omega) (by omega), pu_lt, ev]
      exact ih fu (v + 1) cc (by omega) (by omega)
    have tail : (vl_gd (vl_r32 1) <| if (1 : Int) = 0 then (some (0, r)) else vl_gd (vl_r32 (r 26 (φ x))) <| vl_jn (fun (v23 : Int) => vl_lt ((c + v23)) fun v25 => fn_X8_audit_L118 N r v25 (v : Int) (φ x) (fun (v27 : Int) => vl_lt ((v : Int) + 1) fun v28 => fn_X8_audit_L8 N r κ fu v25 v28) N 0) fun κ24 => if (r 26 (φ x)) = 0 then (κ24 (r 27 (φ x))) else κ24 0) = κ (c + v_sum m (x :: (c_ord w m).drop (v + 1))) ((c_ord w m).length : Int) := by
      rw [pu_gd (by decide), if_neg (by decide), b2, pu_gd ⟨by omega, by omega⟩, pu_jn, est]
      by_cases c0 : m 2 x = 0
      · rw [if_pos c0, if_pos c0, b3]
        dsimp only
        rw [pu_lt, rest, Int.add_assoc]
      · rw [if_neg c0, if_neg c0]
        dsimp only
        rw [pu_lt, rest, Int.add_assoc]
    rw [fn_X8_audit_L8, pu_gd ⟨by omega, by omega⟩, h19, pu_gd ⟨by omega, by omega⟩, if_pos (by omega), pu_gd ⟨by omega, by omega⟩, pu_lt, hx, pu_gd b1, b3, pu_gd ⟨by omega, by omega⟩, q2, pu_gd ⟨by omega, by omega⟩, pu_jn, if_neg (by omega), q1, pu_gd ⟨by omega, by omega⟩]
    rw [b3] at tail
    by_cases cr : x = m 11 6
    · rw [if_pos (by rw [cr]), b2, pu_gd ⟨by omega, by omega⟩]
      rw [b2] at tail
      by_cases c0 : m 2 x = 0
      · rw [if_pos c0]; exact tail
      · have := hW (by rw [← cr]; omega)
        rw [← cr] at this
        rw [if_neg c0, if_neg (by omega)]; exact tail
    · have := (hZ.1 x hxL).1 cr (by have := hxL.1; omega)
      rw [if_neg (fun z => cr (hsi.1 x _ hxL hR.1.1 z)), q3, pu_gd ⟨by omega, by omega⟩, if_neg (by omega)]
      exact tail
theorem t_audit {n w N : Nat} {m r : vl_M} {φ : Int → Int} (hN : 100000 ≤ N) (h : q_top n w m r φ) : ∃ v m' r', fn_X7_audit w N m = some (v, m') ∧ fn_X8_audit N r = some (v, r') ∧ (v = 0 ∨ v = 1) ∧ q_top n w m' r' φ := by
  obtain ⟨⟨hB, hO⟩, ⟨hC, hS⟩, hW⟩ := id h
  obtain ⟨⟨hP, hK, hA, hR⟩, ⟨hE, -⟩, hT, -, -⟩ := id hB.1
  obtain ⟨n1, n2, n3⟩ := c_ord_nodup hP hK hR.1.1
  obtain ⟨r', g1, g2, ⟨g3, g4⟩, g5, g6⟩ := q_fo hN h
  obtain ⟨⟨hB', -⟩, -⟩ := id g2
  have hw11 := hP.1.2
  have h12 := q_N_le hB.2.2.2.1
  obtain ⟨m', e1, e2⟩ := c_auL (κ := fun (v4 : Int) (v5 : Int) (m6 : vl_M) => 
    vl_gd (vl_r32 v4) <| vl_gd (vl_r32 (m6 1 12)) <| if v4 = (m6 1 12) then ((fn_X0_noneIsTwice N m6).bind fun b9 => vl_gd (vl_r32 b9) <| if b9 = 0 then (some (0, m6)) else some (1, m6)) else some (0, m6)) hN hB hO (c_ord w m).length N 0 0 m ⟨fun _ _ _ _ _ => rfl, fun _ _ => rfl⟩ (by omega) (by omega)
  have e3 := d_auL (N := N) (κ := fun (v5 : Int) (v6 : Int) => 
    vl_gd (vl_r32 v5) <| vl_gd (vl_r32 (r' 23 5)) <| if v5 = (r' 23 5) then (some (1, r')) else some (0, r')) hN hB' g3 (fun k x hx => (g4 k x hx).1) (c_ord w m).length N 0 0 (by omega) (by omega)
  rw [show ((0 : Nat) : Int) = 0 from rfl, List.drop_zero, Int.zero_add] at e1 e3
  have hs := v_sum_le (m := m) (c_ord w m) (fun x hx => by have := (hK x (n3 x hx)).1; exact ⟨by omega, by omega⟩)
  have m12 : m' 1 12 = m 1 12 := by rw [e2.1 1 (by decide) (by decide) (by decide) (by decide)]
  have r5 : r' 23 5 = m 1 12 := hB'.1.2.2.2.2.2.2.1
  have htop : q_top n w m' r' φ := by
    refine q_top_cg g2 (fun h x => e2.1 h (by omega) (by omega) (by omega) (by omega)) (fun u hu => by rw [e2.1 7 (by decide) (by decide) (by decide) (by decide)]) (fun u hu => e2.2 u hu) (fun _ _ => rfl) (fun _ _ _ => rfl) ?_
    unfold q_Sr
    rw [e2.1 19 (by decide) (by decide) (by decide) (by decide)]
    exact g2.2.1.2
  by_cases c : v_sum m (c_ord w m) = m 1 12
  · refine ⟨1, m', r', ?_, ?_, Or.inr rfl, htop⟩
    · unfold fn_X7_audit fn_X0_findsAllWell
      rw [e1, pu_gd ⟨by omega, by omega⟩, m12, pu_gd ⟨by omega, by omega⟩, if_pos c, c_twice hN hP hE hB.2.2.2.2 hB.2.2.1 e2, Option.bind_some, pu_gd (by decide), if_neg (by decide), Option.bind_some, pu_un, pu_gd (Or.inr rfl)]
    · unfold fn_X8_audit
      rw [g1, Option.bind_some, e3, pu_gd ⟨by omega, by omega⟩, r5, pu_gd ⟨by omega, by omega⟩, if_pos c]
  · refine ⟨0, m', r', ?_, ?_, Or.inl rfl, htop⟩
    · unfold fn_X7_audit fn_X0_findsAllWell
      rw [e1, pu_gd ⟨by omega, by omega⟩, m12, pu_gd ⟨by omega, by omega⟩, if_neg c, Option.bind_some, pu_un, pu_gd (Or.inl rfl)]
    · unfold fn_X8_audit
      rw [g1, Option.bind_some, e3, pu_gd ⟨by omega, by omega⟩, r5, pu_gd ⟨by omega, by omega⟩, if_neg c]
