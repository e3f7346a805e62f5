/-! ===== PURE, 40: the next entry of a window, in both ===== -/
theorem v_drop {L : List Int} {k : Nat} (h : k < L.length) : L.drop k = L[k] :: L.drop (k + 1) := List.drop_eq_getElem_cons h
theorem c_goL {w N : Nat} {m r : vl_M} {φ : Int → Int} {X : Int → Prop} {q : pR} (hN : 100000 ≤ N) (h : q_I w m r φ X (-1)) (h0 : ∀ s, c_LN m s → s ≠ m 11 6 → 0 < m 9 s) (hO : q_O w m) (h4 : c_rt m 804 = q) (oq : r_ok q) : ∀ (n fu : Nat) (mm : vl_M), (∀ h : Nat, h ≠ 18 → mm h = m h) → mm 18 5 = -1 → 0 ≤ mm 18 4 → mm 18 4 + (n : Int) = ((c_ord w m).length : Int) → n + 1 < fu →
    ∃ e mm', fn_X6_goOn_L5 w N (fun (v5 : Int) (m6 : vl_M) => some (v5, m6)) fu (-1) mm = some (e, mm') ∧ (∀ h : Nat, h ≠ 18 → mm' h = m h) ∧ mm' 18 2 = mm 18 2 ∧ v_S w m (mm' 18 5) (mm' 18 6) (mm' 18 4) ∧ (e = -1 ∨ c_LE m e) ∧ ∃ k : Nat, v_nx (v_rc w m q (mm 18 5) (mm 18 6) (mm 18 4)) = (e, k, v_rc w m q (mm' 18 5) (mm' 18 6) (mm' 18 4)) ∧ mm' 18 3 = mm 18 3 + (k : Int) ∧ mm' 18 4 - mm' 18 3 ≥ mm 18 4 - mm 18 3 := by
  obtain ⟨⟨hP, hK, hA, hR⟩, ⟨hE, hS'⟩, hT, ⟨hsn, hsi, hso, hse⟩, hrr⟩ := id h
  obtain ⟨n1, n2, n3⟩ := c_ord_nodup hP hK hR.1.1
  have hrnd := c_LN_nd hP hR.1.1
  intro n
  induction n with
  | zero =>
    intro fu mm hm h5 h6 h7 hf
    obtain ⟨fu, rfl⟩ : ∃ x, fu = x + 1 := ⟨fu - 1, by omega⟩
    have e5 : mm 11 5 = ((c_ord w m).length : Int) := by rw [hm 11 (by decide)]; exact hO.1
    have erc : v_rc w m q (mm 18 5) (mm 18 6) (mm 18 4) = [] := by
      unfold v_rc
      rw [if_pos h5, List.drop_eq_nil_of_le (by omega)]
      rfl
    refine ⟨-1, mm, ?_, hm, rfl, ⟨⟨h6, by omega⟩, Or.inl h5⟩, Or.inl rfl, 0, ?_, by simp, by omega⟩
    · rw [fn_X6_goOn_L5, pu_gd (by decide), if_pos rfl, pu_gd ⟨by omega, by omega⟩, e5, pu_gd ⟨by omega, by omega⟩, if_neg (by omega)]
    · rw [erc]; rfl
  | succ n ih =>
    intro fu mm hm h5 h6 h7 hf
    obtain ⟨fu, rfl⟩ : ∃ x, fu = x + 1 := ⟨fu - 1, by omega⟩
    have e5 : mm 11 5 = ((c_ord w m).length : Int) := by rw [hm 11 (by decide)]; exact hO.1
    have hlt : (mm 18 4).toNat < (c_ord w m).length := by omega
    have hgx : (c_ord w m)[(mm 18 4).toNat]? = some (c_ord w m)[(mm 18 4).toNat] := List.getElem?_eq_getElem hlt
    have e13 := (hO.2 _ _ hgx).1
    have hxm : (c_ord w m)[(mm 18 4).toNat] ∈ c_ord w m := List.getElem_mem hlt
    have hdrop := v_drop hlt
    generalize hx : (c_ord w m)[(mm 18 4).toNat] = x at *
    rw [show (((mm 18 4).toNat : Nat) : Int) = mm 18 4 by omega] at e13
    have hxL := n3 x hxm
    have hxnd := c_LN_nd hP hxL
    have hxl := (hK x hxL).1.1
    have hxl0 := hxL.2
    have hlk := c_look (m := m) (mm := mm) hxnd h4 oq ⟨by omega, by omega⟩ ⟨by omega, by omega⟩ (fun z => (hT x hxL (by omega) (h0 x hxL z)).1.1) hm
    -- the list
    have erc : v_rc w m q (mm 18 5) (mm 18 6) (mm 18 4) = v_cl w m q x ++ ((c_ord w m).drop ((mm 18 4).toNat + 1)).flatMap (v_cl w m q) := by
      unfold v_rc
      rw [if_pos h5, hdrop, List.flatMap_cons]
      rfl
    generalize hm1 : (if x = m 11 6 ∨ r_mtb (c_rt m x) q = true then (if m 2 x = 0 then vl_up (vl_up (vl_up mm 18 3 (mm 18 3 + 1)) 18 5 x) 18 6 0 else vl_up mm 18 3 (mm 18 3 + 1)) else mm) = m1 at hlk
    have m1f : (∀ h : Nat, h ≠ 18 → m1 h = m h) ∧ m1 18 4 = mm 18 4 ∧ m1 18 2 = mm 18 2 ∧ ((v_cl w m q x = [] ∧ m1 18 3 = mm 18 3 ∧ m1 18 5 = -1) ∨ (v_cl w m q x = [-1] ∧ m1 18 3 = mm 18 3 + 1 ∧ m1 18 5 = -1) ∨ (v_cl w m q x = -1 :: v_ev w m q 0 x 0 ∧ m1 18 3 = mm 18 3 + 1 ∧ m1 18 5 = x ∧ m1 18 6 = 0 ∧ m 2 x = 0)) := by
      unfold v_cl
      rw [← hm1]
      by_cases c : x = m 11 6 ∨ r_mtb (c_rt m x) q = true
      · rw [if_pos c, if_pos c]
        by_cases c2 : m 2 x = 0
        · rw [if_pos c2, if_pos c2]
          refine ⟨fun h y => by rw [up_h _ _ _ y, up_h _ _ _ y, up_h _ _ _ y, hm h y], by rw [up_i _ _ (by decide), up_i _ _ (by decide), up_i _ _ (by decide)], by rw [up_i _ _ (by decide), up_i _ _ (by decide), up_i _ _ (by decide)], Or.inr (Or.inr ⟨rfl, by rw [up_i _ _ (by decide), up_i _ _ (by decide), up_s], by rw [up_i _ _ (by decide), up_s], up_s _ _ _ _, c2⟩)⟩
        · rw [if_neg c2, if_neg c2]
          refine ⟨fun h y => by rw [up_h _ _ _ y, hm h y], by rw [up_i _ _ (by decide)], by rw [up_i _ _ (by decide)], Or.inr (Or.inl ⟨rfl, up_s _ _ _ _, by rw [up_i _ _ (by decide)]; exact h5⟩)⟩
      · rw [if_neg c, if_neg c]
        exact ⟨hm, rfl, rfl, Or.inl ⟨rfl, rfl, h5⟩⟩
    obtain ⟨f1, f2, f2', f3⟩ := m1f
    generalize hm2 : vl_up m1 18 4 (m1 18 4 + 1) = m2
    have m2h : ∀ h : Nat, h ≠ 18 → m2 h = m h := fun h y => by rw [← hm2, up_h _ _ _ y, f1 h y]
    have m2j : ∀ j, j ≠ 4 → m2 18 j = m1 18 j := fun j y => by rw [← hm2, up_i _ _ y]
    have m24 : m2 18 4 = mm 18 4 + 1 := by rw [← hm2, up_s, f2]
    have hstep : fn_X6_goOn_L5 w N (fun (v5 : Int) (m6 : vl_M) => some (v5, m6)) (fu + 1) (-1) mm = (fn_X6_nextInLeaf w N m2).bind (vl_un fun b15 m16 => fn_X6_goOn_L5 w N (fun (v5 : Int) (m6 : vl_M) => some (v5, m6)) fu b15 m16) := by
      rw [fn_X6_goOn_L5, pu_gd (by decide), if_pos rfl, pu_gd ⟨by omega, by omega⟩, e5, pu_gd ⟨by omega, by omega⟩, if_pos (by omega), pu_gd ⟨by omega, by omega⟩, hm 13 (by decide), e13, hlk, Option.bind_some, pu_lt, hm2]
    have etl : ∀ lf ix, v_rc w m q lf ix (mm 18 4 + 1) = (if lf = -1 then [] else v_ev w m q 0 lf ix) ++ ((c_ord w m).drop ((mm 18 4).toNat + 1)).flatMap (v_cl w m q) := fun lf ix => by
      unfold v_rc
      rw [show (mm 18 4 + 1).toNat = (mm 18 4).toNat + 1 by omega]
    -- the leaf, if there is one
    have hS2 : m2 18 5 = -1 ∨ (c_LN m (m2 18 5) ∧ m 2 (m2 18 5) = 0 ∧ 0 ≤ m2 18 6 ∧ m2 18 6 ≤ m 9 (m2 18 5)) := by
      rw [m2j 5 (by decide), m2j 6 (by decide)]
      rcases f3 with ⟨-, -, y⟩ | ⟨-, -, y⟩ | ⟨-, -, y1, y2, y3⟩
      · exact Or.inl y
      · exact Or.inl y
      · rw [y1, y2]
        exact Or.inr ⟨hxL, y3, by omega, (hK x hxL).1.2.1⟩
    obtain ⟨e, m3, g1, g2, g3, g4⟩ := c_nil hN h h4 oq m2h hS2
    have m34 : m3 18 4 = mm 18 4 + 1 := by rw [g3 4 (by decide) (by decide), m24]
    have m33 : m3 18 3 = m1 18 3 := by rw [g3 3 (by decide) (by decide), m2j 3 (by decide)]
    have m32 : m3 18 2 = mm 18 2 := by rw [g3 2 (by decide) (by decide), m2j 2 (by decide), f2']
    rw [hstep, g1, Option.bind_some, pu_un]
    rcases g4 with ⟨ge, g5, g6⟩ | ⟨gE, ⟨g5, g5', g6, g7⟩, g8⟩
    · -- nothing there: go on
      rw [ge]
      obtain ⟨e', m4, s1, s2, s2', s3, s4, k, s5, s6, s7⟩ := ih fu m3 g2 g5 (by omega) (by omega) (by omega)
      have erc3 : v_rc w m q (m3 18 5) (m3 18 6) (m3 18 4) = ((c_ord w m).drop ((mm 18 4).toNat + 1)).flatMap (v_cl w m q) := by
        rw [m34, etl, if_pos g5]; rfl
      rw [erc3] at s5
      refine ⟨e', m4, s1, s2, by rw [s2', m32], s3, s4, ?_⟩
      rcases f3 with ⟨y1, y2, y3⟩ | ⟨y1, y2, y3⟩ | ⟨y1, y2, y3, y4, y5⟩
      · refine ⟨k, by rw [erc, y1]; exact s5, by omega, by omega⟩
      · refine ⟨k + 1, by rw [erc, y1, List.singleton_append, v_nx_neg, s5], by omega, by omega⟩
      · have hev : v_ev w m q 0 x 0 = [] := by
          have := g6 (by rw [m2j 5 (by decide), y3]; omega)
          rw [m2j 5 (by decide), m2j 6 (by decide), y3, y4] at this
          exact this
        refine ⟨k + 1, by rw [erc, y1, hev, List.singleton_append, v_nx_neg, s5], by omega, by omega⟩
    · -- an entry
      have he := c_LE_lt hP gE
      obtain ⟨fu, rfl⟩ : ∃ x, fu = x + 1 := ⟨fu - 1, by omega⟩
      rcases f3 with ⟨y1, y2, y3⟩ | ⟨y1, y2, y3⟩ | ⟨y1, y2, y3, y4, y5⟩
      · exact absurd (by rw [m2j 5 (by decide)]; exact y3) g5'
      · exact absurd (by rw [m2j 5 (by decide)]; exact y3) g5'
      · rw [m2j 5 (by decide), y3] at g5 g7 g8 g5'
        rw [m2j 6 (by decide), y4] at g8
        refine ⟨e, m3, ?_, g2, m32, ⟨⟨by omega, by omega⟩, Or.inr (by rw [g5]; exact ⟨hxL, y5, g6, g7⟩)⟩, Or.inr gE, 1, ?_, by omega, by omega⟩
        · rw [fn_X6_goOn_L5, pu_gd ⟨by omega, by omega⟩, if_neg (by omega)]
        · rw [erc, y1, g8, List.cons_append, List.cons_append, v_nx_neg, v_nx_pos he.1, m34, etl, g5, if_neg g5']
theorem c_goOn {w N : Nat} {m r : vl_M} {φ : Int → Int} {X : Int → Prop} {q : pR} (hN : 100000 ≤ N) (h : q_I w m r φ X (-1)) (h0 : ∀ s, c_LN m s → s ≠ m 11 6 → 0 < m 9 s) (hO : q_O w m) (h4 : c_rt m 804 = q) (oq : r_ok q) (hS : v_S w m (m 18 5) (m 18 6) (m 18 4)) :
    ∃ e mm', fn_X6_goOn w N m = some (e, mm') ∧ (∀ h : Nat, h ≠ 18 → mm' h = m h) ∧ mm' 18 2 = m 18 2 ∧ v_S w m (mm' 18 5) (mm' 18 6) (mm' 18 4) ∧ (e = -1 ∨ c_LE m e) ∧ ∃ k : Nat, v_nx (v_rc w m q (m 18 5) (m 18 6) (m 18 4)) = (e, k, v_rc w m q (mm' 18 5) (mm' 18 6) (mm' 18 4)) ∧ mm' 18 3 = m 18 3 + (k : Int) ∧ mm' 18 4 - mm' 18 3 ≥ m 18 4 - m 18 3 := by
  obtain ⟨⟨hP, hK, hA, hR⟩, -⟩ := id h
  obtain ⟨n1, n2, n3⟩ := c_ord_nodup hP hK hR.1.1
  obtain ⟨hS1, hS2⟩ := hS
  obtain ⟨e, m3, g1, g2, g3, g4⟩ := c_nil hN h h4 oq (mm := m) (fun _ _ => rfl) hS2
  have m34 : m3 18 4 = m 18 4 := g3 4 (by decide) (by decide)
  have m33 : m3 18 3 = m 18 3 := g3 3 (by decide) (by decide)
  have m32 : m3 18 2 = m 18 2 := g3 2 (by decide) (by decide)
  unfold fn_X6_goOn
  rw [g1, Option.bind_some, pu_un]
  rcases g4 with ⟨ge, g5, g6⟩ | ⟨gE, ⟨g5, g5', g6, g7⟩, g8⟩
  · rw [ge]
    obtain ⟨e', m4, s1, s2, s2', s3, s4, k, s5, s6, s7⟩ := c_goL hN h h0 hO h4 oq ((c_ord w m).length - (m 18 4).toNat) N m3 g2 g5 (by omega) (by omega) (by omega)
    refine ⟨e', m4, s1, s2, by rw [s2', m32], s3, s4, k, ?_, by omega, by omega⟩
    rw [← s5]
    congr 1
    unfold v_rc
    rw [if_pos g5, m34]
    by_cases c : m 18 5 = -1
    · rw [if_pos c]
    · rw [if_neg c, g6 c]
  · have he := c_LE_lt hP gE
    obtain ⟨N', e'⟩ : ∃ k, N = k + 1 := ⟨N - 1, by omega⟩
    obtain ⟨l1, l2, l3, l4⟩ := hS2.resolve_left g5'
    refine ⟨e, m3, ?_, g2, m32, ⟨by rw [m34]; exact hS1, Or.inr (by rw [g5]; exact ⟨l1, l2, g6, g7⟩)⟩, Or.inr gE, 0, ?_, by omega, by omega⟩
    · conv => lhs; arg 4; rw [e']
      rw [fn_X6_goOn_L5, pu_gd ⟨by omega, by omega⟩, if_neg (by omega)]
    · unfold v_rc
      rw [if_neg g5', g8, List.cons_append, v_nx_pos he.1, g5, if_neg g5', m34]
