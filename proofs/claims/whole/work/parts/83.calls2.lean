/-! ===== PURE, 44: windows, counts, nodes, what they hold ===== -/
theorem v_st_cg {w : Nat} {m m' r : vl_M} {φ : Int → Int} {X : Int → Prop} {q : pR} (hP : s_P w m) (hK : s_K w m X) (h2 : m' 2 = m 2) (h9 : m' 9 = m 9) (h10 : m' 10 = m 10) (hrt : ∀ u, 0 ≤ u → u < 804 → c_rt m' u = c_rt m u) : ∀ S : List (Int × Int), v_R m r φ S → v_st w m' q S = v_st w m q S := by
  intro S
  induction S with
  | nil => intro _; rfl
  | cons p S ih =>
    intro hv
    obtain ⟨-, ⟨b1, b2, b3⟩, -, d⟩ := hv
    have e1 : v_st w m q (p :: S) = v_ev w m q (m 2 p.1).toNat p.1 p.2 ++ v_st w m q S := rfl
    have e2 : v_st w m' q (p :: S) = v_ev w m' q (m' 2 p.1).toNat p.1 p.2 ++ v_st w m' q S := rfl
    rw [e1, e2, ih d, h2, v_ev_cg hP hK h9 h10 hrt _ _ p.2 b1 (by have := b1.2; omega) b2]
theorem t_window {n w : Nat} {m r : vl_M} {φ : Int → Int} {a1 a2 a3 a4 : Int} (h : q_top n w m r φ) (h1 : vl_r32 a1) (h2 : vl_r32 a2) (h3 : vl_r32 a3) (h4 : vl_r32 a4) :
    ∃ v m' r', fn_X7_window m a1 a2 a3 a4 = some (v, m') ∧ fn_X8_window r a1 a2 a3 a4 = some (v, r') ∧ vl_r32 v ∧ q_top n w m' r' φ := by
  obtain ⟨c1, c2⟩ := a_rect h1 h2 h3 h4
  by_cases hq : r_ok (a1, a2, a3, a4)
  · obtain ⟨⟨hB, hO⟩, ⟨hC, hS⟩, hW⟩ := h
    obtain ⟨⟨hP, hK, hA, hR⟩, -, hT, -, hrr⟩ := id hB.1
    obtain ⟨n1, n2, n3⟩ := c_ord_nodup hP hK hR.1.1
    generalize hm6 : vl_up (vl_up (vl_up (vl_up (c_set (vl_up m 7 804 (-1)) 804 (a1, a2, a3, a4)) 18 2 1) 18 3 0) 18 4 0) 18 5 (-1) = m6
    generalize hr6 : vl_up (vl_up (vl_up (vl_up (vl_up (vl_up (vl_up (vl_up r 23 20 1) 23 25 0) 34 0 a1) 34 1 a2) 34 2 a3) 34 3 a4) 23 24 0) 23 26 0 = r6
    have mh : ∀ h : Nat, (h < 3 ∨ 7 < h) → h ≠ 18 → m6 h = m h := fun h x y => by rw [← hm6, up_h _ _ _ y, up_h _ _ _ y, up_h _ _ _ y, up_h _ _ _ y, c_set_h _ _ _ (by omega) (by omega) (by omega) (by omega), up_h _ _ _ (by omega)]
    have m7 : ∀ u, u ≠ 804 → m6 7 u = m 7 u := fun u hu => by rw [← hm6, up_h _ _ _ (by decide), up_h _ _ _ (by decide), up_h _ _ _ (by decide), up_h _ _ _ (by decide), c_set_h _ _ _ (by omega) (by omega) (by omega) (by omega), up_i _ _ hu]
    have mrt0 : ∀ u, c_rt m6 u = c_rt (c_set (vl_up m 7 804 (-1)) 804 (a1, a2, a3, a4)) u := fun u => by
      rw [← hm6]
      exact c_rt_congr (by rw [up_h _ _ _ (by decide), up_h _ _ _ (by decide), up_h _ _ _ (by decide), up_h _ _ _ (by decide)]) (by rw [up_h _ _ _ (by decide), up_h _ _ _ (by decide), up_h _ _ _ (by decide), up_h _ _ _ (by decide)]) (by rw [up_h _ _ _ (by decide), up_h _ _ _ (by decide), up_h _ _ _ (by decide), up_h _ _ _ (by decide)]) (by rw [up_h _ _ _ (by decide), up_h _ _ _ (by decide), up_h _ _ _ (by decide), up_h _ _ _ (by decide)])
    have mrt : ∀ u, u ≠ 804 → c_rt m6 u = c_rt m u := fun u hu => by
      rw [mrt0, c_set_ne _ _ hu]
      exact c_rt_congr (up_h _ _ _ (by decide)) (up_h _ _ _ (by decide)) (up_h _ _ _ (by decide)) (up_h _ _ _ (by decide))
    have mrt4 : c_rt m6 804 = (a1, a2, a3, a4) := by rw [mrt0, c_set_s]
    have m2 : m6 18 2 = 1 := by rw [← hm6, up_i _ _ (by decide), up_i _ _ (by decide), up_i _ _ (by decide), up_s]
    have m3 : m6 18 3 = 0 := by rw [← hm6, up_i _ _ (by decide), up_i _ _ (by decide), up_s]
    have m4 : m6 18 4 = 0 := by rw [← hm6, up_i _ _ (by decide), up_s]
    have m5 : m6 18 5 = -1 := by rw [← hm6, up_s]
    have rh : ∀ h : Nat, h ≠ 23 → h ≠ 34 → r6 h = r h := fun h x y => by rw [← hr6, up_h _ _ _ x, up_h _ _ _ x, up_h _ _ _ y, up_h _ _ _ y, up_h _ _ _ y, up_h _ _ _ y, up_h _ _ _ x, up_h _ _ _ x]
    have rj : ∀ j, j ≠ 20 → j ≠ 24 → j ≠ 25 → j ≠ 26 → r6 23 j = r 23 j := fun j x y z t => by rw [← hr6, up_i _ _ t, up_i _ _ y, up_h _ _ _ (by decide), up_h _ _ _ (by decide), up_h _ _ _ (by decide), up_h _ _ _ (by decide), up_i _ _ z, up_i _ _ x]
    have r20 : r6 23 20 = 1 := by rw [← hr6, up_i _ _ (by decide), up_i _ _ (by decide), up_h _ _ _ (by decide), up_h _ _ _ (by decide), up_h _ _ _ (by decide), up_h _ _ _ (by decide), up_i _ _ (by decide), up_s]
    have r25 : r6 23 25 = 0 := by rw [← hr6, up_i _ _ (by decide), up_i _ _ (by decide), up_h _ _ _ (by decide), up_h _ _ _ (by decide), up_h _ _ _ (by decide), up_h _ _ _ (by decide), up_s]
    have r24 : r6 23 24 = 0 := by rw [← hr6, up_i _ _ (by decide), up_s]
    have r26 : r6 23 26 = 0 := by rw [← hr6, up_s]
    have hpane : r6 34 0 = a1 ∧ r6 34 1 = a2 ∧ r6 34 2 = a3 ∧ r6 34 3 = a4 := by
      rw [← hr6, up_h _ _ _ (by decide), up_h _ _ _ (by decide)]
      refine ⟨?_, ?_, ?_, ?_⟩
      · rw [up_i _ _ (by decide), up_i _ _ (by decide), up_i _ _ (by decide), up_s]
      · rw [up_i _ _ (by decide), up_i _ _ (by decide), up_s]
      · rw [up_i _ _ (by decide), up_s]
      · rw [up_s]
    have e11 := mh 11 (by omega) (by decide)
    have hB6 : q_B w m6 r6 φ := q_B_cg hB (mh 1 (by omega) (by decide)) (mh 2 (by omega) (by decide)) (mh 8 (by omega) (by decide)) (mh 9 (by omega) (by decide)) (mh 10 (by omega) (by decide)) (by rw [e11]) (fun u u1 u2 => m7 u (by omega)) (fun u u1 u2 => mrt u (by omega)) (fun h x y => rh h (by omega) (by omega)) ⟨rj 1 (by decide) (by decide) (by decide) (by decide), rj 2 (by decide) (by decide) (by decide) (by decide)⟩ ⟨rj 5 (by decide) (by decide) (by decide) (by decide), rj 11 (by decide) (by decide) (by decide) (by decide)⟩ ⟨by rw [rj 12 (by decide) (by decide) (by decide) (by decide), e11]; exact hrr.2.2.2.1, by rw [rj 13 (by decide) (by decide) (by decide) (by decide), e11]; exact hrr.2.2.2.2⟩
    have eo : c_ord w m6 = c_ord w m := c_ord_cg (mh 2 (by omega) (by decide)) (mh 9 (by omega) (by decide)) (mh 10 (by omega) (by decide)) (by rw [e11])
    obtain ⟨⟨hP6, hK6, hA6, hR6⟩, -, hT6, -⟩ := id hB6.1
    have hfl := v_flat (q := (a1, a2, a3, a4)) hK6 hT6 (by decide) (m6 2 (m6 11 6)).toNat (m6 11 6) hR6.1.1 (by have := hR6.1.1.2; omega) (Or.inl rfl)
    refine ⟨0, m6, r6, ?_, ?_, by decide, ⟨⟨hB6, ?_⟩, ⟨?_, ?_⟩, ⟨?_, fun _ => ?_⟩⟩⟩
    · unfold fn_X7_window
      rw [c1 hq, Option.bind_some, pu_gd (by decide), if_neg (by decide), c_desc (by decide), Option.bind_some]
      unfold fn_X6_open
      rw [pu_lt, pu_lt, pu_lt, pu_lt, Option.bind_some, hm6]
    · unfold fn_X8_window
      rw [b_rect, c1 hq, Option.bind_some, pu_gd (by decide), if_neg (by decide), pu_lt, pu_lt, pu_gd ⟨by decide, by decide⟩, pu_lt, pu_gd ⟨by decide, by decide⟩, pu_lt, pu_gd ⟨by decide, by decide⟩, pu_lt, pu_gd ⟨by decide, by decide⟩, pu_lt, pu_lt, pu_lt, hr6]
    · unfold q_O
      rw [eo, e11, mh 13 (by omega) (by decide)]
      refine ⟨hO.1, fun k x hx => ?_⟩
      obtain ⟨o1, o2⟩ := hO.2 k x hx
      have := c_LN_nd hP (n3 x (List.mem_of_getElem? hx))
      exact ⟨o1, by rw [m7 x (by omega)]; exact o2⟩
    · unfold q_Cn
      rw [e11, rj 14 (by decide) (by decide) (by decide) (by decide)]; exact hC
    · unfold q_Sr
      rw [mh 19 (by omega) (by decide), rj 27 (by decide) (by decide) (by decide) (by decide), rj 28 (by decide) (by decide) (by decide) (by decide), rj 29 (by decide) (by decide) (by decide) (by decide)]; exact hS
    · exact ⟨by rw [m2, r20], Or.inr m2⟩
    · refine ⟨(a1, a2, a3, a4), ⟨hq, mrt4⟩, hpane, ⟨by rw [m4]; exact ⟨Int.le_refl _, by omega⟩, Or.inl m5⟩, ⟨by rw [m3, r26], by rw [m3]; exact Int.le_refl _, by rw [m3, m4]; exact Int.le_refl _⟩, Or.inl ⟨r25, r24, ?_⟩⟩
      unfold v_rc
      rw [if_pos m5, m4]
      exact hfl
  · refine ⟨-1, m, r, ?_, ?_, by decide, h⟩
    · unfold fn_X7_window
      rw [c2 hq, Option.bind_some, pu_gd (by decide), if_pos rfl]
    · unfold fn_X8_window
      rw [b_rect, c2 hq, Option.bind_some, pu_gd (by decide), if_pos rfl]
theorem t_next {n w N : Nat} {m r : vl_M} {φ : Int → Int} (hN : 10000000000000 ≤ N) (h : q_top n w m r φ) :
    ∃ v m' r', fn_X7_next w N m = some (v, m') ∧ fn_X8_next N r = some (v, r') ∧ vl_r32 v ∧ q_top n w m' r' φ := by
  obtain ⟨⟨hB, hO⟩, ⟨hC, hS⟩, ⟨hW1, hW2⟩, hWo⟩ := id h
  obtain ⟨⟨hP, hK, hA, hR⟩, ⟨hE, -⟩, hT, ⟨hsn, -⟩, hrr⟩ := id hB.1
  obtain ⟨hge, hlv, hpos⟩ := q_B_lv hB
  rcases hW2 with c0 | c1
  · refine ⟨-1, m, r, ?_, ?_, by decide, h⟩
    · unfold fn_X7_next
      rw [c0, pu_gd (by decide), if_pos rfl]
    · unfold fn_X8_next
      rw [← hW1, c0, pu_gd (by decide), if_pos rfl]
  · obtain ⟨q, ⟨o1, o2⟩, o3, o4, ⟨o5, o6, o7⟩, o8⟩ := hWo c1
    obtain ⟨e, mm, g1, g2, g3, g4, g5, k, g6, g7, g8⟩ := c_goOn (N := N) (by omega) hB.1 hpos hO o2 o1 o4
    -- the reference
    have key : ∃ e' rr S' k', fn_X8_next N r = some (if e' = -1 then -2 else m 7 e', rr) ∧ (∀ h : Nat, h ≠ 23 → h ≠ 35 → h ≠ 36 → rr h = r h) ∧ (∀ j, j ≠ 24 → j ≠ 25 → j ≠ 26 → rr 23 j = r 23 j) ∧ rr 23 25 = 1 ∧ (rr 23 24 = (S'.length : Int) ∧ v_R m rr φ S') ∧ v_nx (v_rc w m q (m 18 5) (m 18 6) (m 18 4)) = (e', k', v_st w m q S') ∧ rr 23 26 = r 23 26 + (k' : Int) := by
      rcases o8 with ⟨x1, x2, x3⟩ | ⟨x1, S, x2, x3, x4⟩
      · -- not begun
        have hr1 : q_I w m (vl_up r 23 25 1) φ (fun _ => False) (-1) := by
          refine q_cg hB.1 rfl rfl rfl rfl rfl (fun _ _ _ => rfl) (fun _ _ _ => rfl) rfl (fun h x y => up_h _ _ _ (by omega)) ⟨up_i _ _ (by decide), up_i _ _ (by decide)⟩ ⟨up_i _ _ (by decide), up_i _ _ (by decide)⟩ ⟨?_, ?_⟩
          · rw [up_i _ _ (by decide)]; exact hrr.2.2.2.1
          · rw [up_i _ _ (by decide)]; exact hrr.2.2.2.2
        have hrd := (hsn _ hR.1.1).1.1
        have e1 : vl_up r 23 25 1 23 24 = 0 := by rw [up_i _ _ (by decide)]; exact x2
        have e2 : vl_up (vl_up r 23 25 1) 35 0 (φ (m 11 6)) 23 24 = 0 := by rw [up_h _ _ _ (by decide)]; exact e1
        have e3 : vl_up (vl_up (vl_up r 23 25 1) 35 0 (φ (m 11 6))) 36 0 0 23 24 = 0 := by rw [up_h _ _ _ (by decide)]; exact e2
        have e4 : vl_up (vl_up (vl_up (vl_up r 23 25 1) 35 0 (φ (m 11 6))) 36 0 0) 23 24 (0 + 1) 23 26 = r 23 26 := by rw [up_i _ _ (by decide), up_h _ _ _ (by decide), up_h _ _ _ (by decide), up_i _ _ (by decide)]
        have e5 : vl_up r 23 25 1 23 11 = φ (m 11 6) := by rw [up_i _ _ (by decide)]; exact hrr.1
        generalize hr2 : vl_up (vl_up (vl_up (vl_up (vl_up r 23 25 1) 35 0 (φ (m 11 6))) 36 0 0) 23 24 (0 + 1)) 23 26 (r 23 26 + 1) = r2
        have hent : fn_X8_enter (vl_up r 23 25 1) (φ (m 11 6)) = some r2 := by
          unfold fn_X8_enter
          rw [e1, pu_gd ⟨by decide, by decide⟩, pu_lt, e2, pu_gd ⟨by decide, by decide⟩, pu_lt, e3, pu_lt, e4, pu_lt, hr2]
        have r2h : ∀ h : Nat, h ≠ 23 → h ≠ 35 → h ≠ 36 → r2 h = vl_up r 23 25 1 h := fun h x y z => by rw [← hr2, up_h _ _ _ x, up_h _ _ _ x, up_h _ _ _ z, up_h _ _ _ y]
        have r2j : ∀ j, j ≠ 24 → j ≠ 26 → r2 23 j = vl_up r 23 25 1 23 j := fun j x y => by rw [← hr2, up_i _ _ y, up_i _ _ x, up_h _ _ _ (by decide), up_h _ _ _ (by decide)]
        have hv2 : v_R m r2 φ [(m 11 6, 0)] := by
          refine ⟨⟨?_, ?_⟩, ⟨hR.1.1, Int.le_refl _, (hK _ hR.1.1).1.2.1⟩, fun b hb => (List.not_mem_nil hb).elim, trivial⟩
          · show r2 35 0 = φ (m 11 6)
            rw [← hr2, up_h _ _ _ (by decide), up_h _ _ _ (by decide), up_h _ _ _ (by decide), up_s]
          · show r2 36 0 = 0
            rw [← hr2, up_h _ _ _ (by decide), up_h _ _ _ (by decide), up_s]
        have hmu := v_mu_le hlv _ hv2
        obtain ⟨e', rr, S', s1, s2, s3, s4, k', s5, s6⟩ := d_nextL (N := N) hr1 hpos hlv o1 (by rw [up_h _ _ _ (by decide)]; exact o3) (v_mu m [(m 11 6, 0)]) N [(m 11 6, 0)] r2 (Nat.le_refl _) (by simp at hmu; omega) r2h r2j (by rw [← hr2, up_i _ _ (by decide), up_s]; rfl) hv2
        refine ⟨e', rr, S', k' + 1, ?_, fun h x y z => by rw [s2 h x y z, up_h _ _ _ x], fun j x y z => by rw [s3 j x z, up_i _ _ y], by rw [s3 25 (by decide) (by decide), up_s], s4, ?_, ?_⟩
        · unfold fn_X8_next
          rw [← hW1, c1, pu_gd (by decide), if_neg (by decide), x1, pu_gd (by decide), pu_jn, if_pos rfl, pu_lt, e5, hent, Option.bind_some]
          exact s1
        · rw [x3, v_nx_neg]
          have : v_ev w m q (m 2 (m 11 6)).toNat (m 11 6) 0 = v_st w m q [(m 11 6, 0)] := by
            show _ = v_ev w m q (m 2 (m 11 6)).toNat (m 11 6) 0 ++ []
            rw [List.append_nil]
          rw [this, s5]
        · rw [s6, ← hr2, up_s]; omega
      · -- begun
        have hlen : S.length ≤ 9 := by
          cases S with
          | nil => exact Nat.zero_le _
          | cons p S =>
            have h9 := v_R_len hlv S p x3
            have := x3.2.1.1.2
            simp; omega
        have hmu := v_mu_le hlv _ x3
        have hmu2 : S.length * 56757583873 ≤ 9 * 56757583873 := Nat.mul_le_mul_right _ hlen
        obtain ⟨e', rr, S', s1, s2, s3, s4, k', s5, s6⟩ := d_nextL (N := N) hB.1 hpos hlv o1 o3 (v_mu m S) N S r (Nat.le_refl _) (by omega) (fun _ _ _ _ => rfl) (fun _ _ _ => rfl) x2 x3
        refine ⟨e', rr, S', k', ?_, s2, fun j x _ z => s3 j x z, by rw [s3 25 (by decide) (by decide)]; exact x1, s4, by rw [x4]; exact s5, s6⟩
        unfold fn_X8_next
        rw [← hW1, c1, pu_gd (by decide), if_neg (by decide), x1, pu_gd (by decide), pu_jn, if_neg (by decide)]
        exact s1
    obtain ⟨e', rr, S', k', y1, y2, y3, y4, y5, y6, y7⟩ := key
    rw [g6] at y6
    have he : e = e' := by injection y6
    have hk2 : (k, v_rc w m q (mm 18 5) (mm 18 6) (mm 18 4)) = (k', v_st w m q S') := by injection y6
    have hkk : k = k' := by injection hk2
    have hrc : v_rc w m q (mm 18 5) (mm 18 6) (mm 18 4) = v_st w m q S' := by injection hk2
    have mrt : ∀ u, c_rt mm u = c_rt m u := fun u => c_rt_congr (g2 3 (by decide)) (g2 4 (by decide)) (g2 5 (by decide)) (g2 6 (by decide))
    have hval : vl_r32 (if e = -1 then -2 else m 7 e) := by
      by_cases c : e = -1
      · rw [if_pos c]; decide
      · rw [if_neg c]
        have := (hE e (g5.resolve_left c)).1
        exact ⟨by omega, by omega⟩
    have e11 := g2 11 (by decide)
    have eo : c_ord w mm = c_ord w m := c_ord_cg (g2 2 (by decide)) (g2 9 (by decide)) (g2 10 (by decide)) (by rw [e11])
    refine ⟨if e = -1 then -2 else m 7 e, mm, rr, ?_, by rw [he]; exact y1, hval, ⟨⟨?_, ?_⟩, ⟨?_, ?_⟩, ⟨?_, fun _ => ?_⟩⟩⟩
    · unfold fn_X7_next
      rw [c1, pu_gd (by decide), if_neg (by decide), g1, Option.bind_some, pu_un]
      by_cases c : e = -1
      · rw [c, pu_gd (by decide), if_pos rfl, if_pos rfl]
      · have := c_LE_lt hP (g5.resolve_left c)
        rw [pu_gd ⟨by omega, by omega⟩, if_neg c, pu_gd ⟨by omega, by omega⟩, if_neg c, g2 7 (by decide)]
    · exact q_B_cg hB (g2 1 (by decide)) (g2 2 (by decide)) (g2 8 (by decide)) (g2 9 (by decide)) (g2 10 (by decide)) (by rw [e11]) (fun u _ _ => by rw [g2 7 (by decide)]) (fun u _ _ => mrt u) (fun h x y => y2 h (by omega) (by omega) (by omega)) ⟨y3 1 (by decide) (by decide) (by decide), y3 2 (by decide) (by decide) (by decide)⟩ ⟨y3 5 (by decide) (by decide) (by decide), y3 11 (by decide) (by decide) (by decide)⟩ ⟨by rw [y3 12 (by decide) (by decide) (by decide), e11]; exact hrr.2.2.2.1, by rw [y3 13 (by decide) (by decide) (by decide), e11]; exact hrr.2.2.2.2⟩
    · unfold q_O
      rw [eo, e11, g2 13 (by decide), g2 7 (by decide)]; exact hO
    · unfold q_Cn
      rw [e11, y3 14 (by decide) (by decide) (by decide)]; exact hC
    · unfold q_Sr
      rw [g2 19 (by decide), y3 27 (by decide) (by decide) (by decide), y3 28 (by decide) (by decide) (by decide), y3 29 (by decide) (by decide) (by decide)]; exact hS
    · exact ⟨by rw [g3, y3 20 (by decide) (by decide) (by decide)]; exact hW1, by rw [g3]; exact Or.inr c1⟩
    · refine ⟨q, ⟨o1, by rw [mrt]; exact o2⟩, by rw [y2 34 (by decide) (by decide) (by decide)]; exact o3, ?_, ⟨by rw [g7, y7, o5, hkk], by omega, by omega⟩, Or.inr ⟨y4, S', y5.1, v_R_cgm (w := w) (g2 1 (by decide)) (g2 2 (by decide)) (g2 9 (by decide)) rfl rfl S' y5.2, ?_⟩⟩
      · obtain ⟨s1, s2⟩ := g4
        have LN : ∀ u, c_LN mm u ↔ c_LN m u := fun u => by unfold c_LN; rw [g2 1 (by decide), g2 2 (by decide)]
        unfold v_S
        rw [eo, g2 2 (by decide), g2 9 (by decide), LN]
        exact ⟨s1, s2⟩
      · rw [v_rc_cg hP hK hR.1.1 (g2 2 (by decide)) (by rw [e11]) (g2 9 (by decide)) (g2 10 (by decide)) (fun u _ _ => mrt u) g4, hrc, v_st_cg hP hK (g2 2 (by decide)) (g2 9 (by decide)) (g2 10 (by decide)) (fun u _ _ => mrt u) S' y5.2]
