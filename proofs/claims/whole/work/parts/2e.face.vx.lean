set_option maxRecDepth 100000 in
set_option maxHeartbeats 4000000 in
theorem vx_X7_count {nc : Nat} {S : vl_Sh} {sc : Nat × (Nat → Int32)} {w : Nat} (hG : vl_G2 nc S w) {d : Nat} (hd : 0 ≤ d) {Post : Int → vl_M → vl_M → Prop} {m ρ : vl_M} {a1 : Int} (hE : vl_ok (fun r : Int => Post r m ρ) (fn_X7_count m a1)) : vl_V nc S sc kX7_count d Post 0 [(0, .ref 0), (1, vl_iv a1)] [] m ρ := by
  generalize hP : (fun r : Int => Post r m ρ) = P at hE
  have hP' : ∀ r : Int, P r → Post r m ρ := fun b h => by rw [← hP] at h; exact h
  clear hP
  have s0 : S 0 = .inr (7, [4, 14, 19, 21, 22, 25]) := hG.2.1 0 (by decide) (by decide)
  have n0 : 0 < nc := Nat.lt_of_lt_of_le (by decide) hG.1
  have s1 : S 1 = .inr (4, [0, 0, 5, 6, 7, 8, 9, 10, 11, 12, 0, 13, 0, 0, 0, 0, 0]) := hG.2.1 1 (by decide) (by decide)
  have n1 : 1 < nc := Nat.lt_of_lt_of_le (by decide) hG.1
  have s2 : S 2 = .inl 807 := hG.2.1 2 (by decide) (by decide)
  have n2 : 2 < nc := Nat.lt_of_lt_of_le (by decide) hG.1
  have s11 : S 11 = .inr (5, [4, 17, 15, 0, 16, 0, 0, 0, 0, 0]) := hG.2.1 11 (by decide) (by decide)
  have n11 : 11 < nc := Nat.lt_of_lt_of_le (by decide) hG.1
  unfold fn_X7_count at hE
  refine vl_iload_n 1 rfl dX7_count_0 ?_
  obtain ⟨g1, hE⟩ := vl_ok_gd hE
  by_cases c2 : a1 = 0
  · rw [if_pos c2] at hE
    refine vl_tabIn (off := 47) (tgt := 48) dX7_count_1 g1 (by omega) (by omega) (by rw [c2]; rfl) (by decide) ?_
    refine vl_aload_n 0 rfl dX7_count_48 ?_
    refine vl_getR (h := 0) (k0 := 0) (h2 := 1) iu_X7 n0 s0 rfl (by decide) fk_X7_23 rfl dX7_count_49 ?_
    refine vl_getIc (h := 1) (k0 := 12) (ki := 12) iu_X4 n1 (by decide) s1 rfl (by decide) fk_X7_82 rfl rfl dX7_count_52 ?_
    exact vl_ret (r := (m 1 12)) rfl dX7_count_55 hE (hP' (m 1 12))
  · rw [if_neg c2] at hE
    by_cases c3 : a1 = 1
    · rw [if_pos c3] at hE
      refine vl_tabIn (off := 55) (tgt := 56) dX7_count_1 g1 (by omega) (by omega) (by rw [c3]; rfl) (by decide) ?_
      refine vl_aload_n 0 rfl dX7_count_56 ?_
      refine vl_getR (h := 0) (k0 := 0) (h2 := 1) iu_X7 n0 s0 rfl (by decide) fk_X7_23 rfl dX7_count_57 ?_
      refine vl_getR (h := 1) (k0 := 2) (h2 := 2) iu_X4 n1 s1 rfl (by decide) fk_X7_155 rfl dX7_count_60 ?_
      refine vl_aload_n 0 rfl dX7_count_63 ?_
      refine vl_getR (h := 0) (k0 := 1) (h2 := 11) iu_X7 n0 s0 rfl (by decide) fk_X7_32 rfl dX7_count_64 ?_
      refine vl_getIc (h := 11) (k0 := 6) (ki := 6) iu_X5 n11 (by decide) s11 rfl (by decide) fk_X7_158 rfl rfl dX7_count_67 ?_
      refine vl_aldc (h := 2) (n := 807) (ni := 807) n2 (by decide) s2 (by decide) rfl dX7_count_70 hE (fun g4 g5 hE => ?_)
      refine vl_iconst dX7_count_71 ?_
      refine vl_iadd dX7_count_72 ?_
      exact vl_ret (r := ((m 2 (m 11 6)) + 1)) rfl dX7_count_73 hE (hP' ((m 2 (m 11 6)) + 1))
    · rw [if_neg c3] at hE
      by_cases c6 : a1 = 2
      · rw [if_pos c6] at hE
        refine vl_tabIn (off := 73) (tgt := 74) dX7_count_1 g1 (by omega) (by omega) (by rw [c6]; rfl) (by decide) ?_
        refine vl_aload_n 0 rfl dX7_count_74 ?_
        refine vl_getR (h := 0) (k0 := 1) (h2 := 11) iu_X7 n0 s0 rfl (by decide) fk_X7_32 rfl dX7_count_75 ?_
        refine vl_getIc (h := 11) (k0 := 5) (ki := 5) iu_X5 n11 (by decide) s11 rfl (by decide) fk_X7_146 rfl rfl dX7_count_78 ?_
        exact vl_ret (r := (m 11 5)) rfl dX7_count_81 hE (hP' (m 11 5))
      · rw [if_neg c6] at hE
        by_cases c7 : a1 = 3
        · rw [if_pos c7] at hE
          refine vl_tabIn (off := 81) (tgt := 82) dX7_count_1 g1 (by omega) (by omega) (by rw [c7]; rfl) (by decide) ?_
          refine vl_aload_n 0 rfl dX7_count_82 ?_
          refine vl_getR (h := 0) (k0 := 1) (h2 := 11) iu_X7 n0 s0 rfl (by decide) fk_X7_32 rfl dX7_count_83 ?_
          refine vl_getIc (h := 11) (k0 := 7) (ki := 7) iu_X5 n11 (by decide) s11 rfl (by decide) fk_X7_161 rfl rfl dX7_count_86 ?_
          exact vl_ret (r := (m 11 7)) rfl dX7_count_89 hE (hP' (m 11 7))
        · rw [if_neg c7] at hE
          by_cases c8 : a1 = 4
          · rw [if_pos c8] at hE
            refine vl_tabIn (off := 89) (tgt := 90) dX7_count_1 g1 (by omega) (by omega) (by rw [c8]; rfl) (by decide) ?_
            refine vl_aload_n 0 rfl dX7_count_90 ?_
            refine vl_getR (h := 0) (k0 := 1) (h2 := 11) iu_X7 n0 s0 rfl (by decide) fk_X7_32 rfl dX7_count_91 ?_
            refine vl_getIc (h := 11) (k0 := 8) (ki := 8) iu_X5 n11 (by decide) s11 rfl (by decide) fk_X7_164 rfl rfl dX7_count_94 ?_
            exact vl_ret (r := (m 11 8)) rfl dX7_count_97 hE (hP' (m 11 8))
          · rw [if_neg c8] at hE
            by_cases c9 : a1 = 5
            · rw [if_pos c9] at hE
              refine vl_tabIn (off := 97) (tgt := 98) dX7_count_1 g1 (by omega) (by omega) (by rw [c9]; rfl) (by decide) ?_
              refine vl_aload_n 0 rfl dX7_count_98 ?_
              refine vl_getR (h := 0) (k0 := 1) (h2 := 11) iu_X7 n0 s0 rfl (by decide) fk_X7_32 rfl dX7_count_99 ?_
              refine vl_getIc (h := 11) (k0 := 9) (ki := 9) iu_X5 n11 (by decide) s11 rfl (by decide) fk_X7_167 rfl rfl dX7_count_102 ?_
              exact vl_ret (r := (m 11 9)) rfl dX7_count_105 hE (hP' (m 11 9))
            · rw [if_neg c9] at hE
              by_cases c10 : a1 = 6
              · rw [if_pos c10] at hE
                refine vl_tabIn (off := 105) (tgt := 106) dX7_count_1 g1 (by omega) (by omega) (by rw [c10]; rfl) (by decide) ?_
                refine vl_aload_n 0 rfl dX7_count_106 ?_
                refine vl_getR (h := 0) (k0 := 0) (h2 := 1) iu_X7 n0 s0 rfl (by decide) fk_X7_23 rfl dX7_count_107 ?_
                refine vl_getIc (h := 1) (k0 := 0) (ki := 0) iu_X4 n1 (by decide) s1 rfl (by decide) fk_X7_170 rfl rfl dX7_count_110 ?_
                exact vl_ret (r := (m 1 0)) rfl dX7_count_113 hE (hP' (m 1 0))
              · rw [if_neg c10] at hE
                by_cases c11 : a1 = 7
                · rw [if_pos c11] at hE
                  refine vl_tabIn (off := 113) (tgt := 114) dX7_count_1 g1 (by omega) (by omega) (by rw [c11]; rfl) (by decide) ?_
                  refine vl_aload_n 0 rfl dX7_count_114 ?_
                  refine vl_getR (h := 0) (k0 := 0) (h2 := 1) iu_X7 n0 s0 rfl (by decide) fk_X7_23 rfl dX7_count_115 ?_
                  refine vl_getIc (h := 1) (k0 := 1) (ki := 1) iu_X4 n1 (by decide) s1 rfl (by decide) fk_X7_173 rfl rfl dX7_count_118 ?_
                  exact vl_ret (r := (m 1 1)) rfl dX7_count_121 hE (hP' (m 1 1))
                · rw [if_neg c11] at hE
                  refine vl_tabOut (tgt := 122) dX7_count_1 g1 (by omega) (by decide) ?_
                  refine vl_iconst dX7_count_122 ?_
                  exact vl_ret (r := (-1)) rfl dX7_count_123 hE (hP' (-1))
set_option maxRecDepth 100000 in
set_option maxHeartbeats 4000000 in
theorem vx_X7_distance {nc : Nat} {S : vl_Sh} {sc : Nat × (Nat → Int32)} {w : Nat} (hG : vl_G2 nc S w) {d : Nat} (hd : 0 ≤ d) {Post : Int → vl_M → vl_M → Prop} {m ρ : vl_M} (hE : vl_ok (fun r : Int => Post r m ρ) (fn_X7_distance m )) : vl_V nc S sc kX7_distance d Post 0 [(0, .ref 0)] [] m ρ := by
  generalize hP : (fun r : Int => Post r m ρ) = P at hE
  have hP' : ∀ r : Int, P r → Post r m ρ := fun b h => by rw [← hP] at h; exact h
  clear hP
  have s0 : S 0 = .inr (7, [4, 14, 19, 21, 22, 25]) := hG.2.1 0 (by decide) (by decide)
  have n0 : 0 < nc := Nat.lt_of_lt_of_le (by decide) hG.1
  have s19 : S 19 = .inr (2, [4, 14, 23, 24, 0, 0, 0]) := hG.2.1 19 (by decide) (by decide)
  have n19 : 19 < nc := Nat.lt_of_lt_of_le (by decide) hG.1
  unfold fn_X7_distance at hE
  refine vl_aload_n 0 rfl dX7_distance_0 ?_
  refine vl_getR (h := 0) (k0 := 4) (h2 := 19) iu_X7 n0 s0 rfl (by decide) fk_X7_55 rfl dX7_distance_1 ?_
  refine vl_getIc (h := 19) (k0 := 6) (ki := 6) iu_X2 n19 (by decide) s19 rfl (by decide) fk_X7_127 rfl rfl dX7_distance_4 ?_
  exact vl_ret (r := (m 19 6)) rfl dX7_distance_7 hE (hP' (m 19 6))
set_option maxRecDepth 100000 in
set_option maxHeartbeats 4000000 in
theorem vx_X7_isId {nc : Nat} {S : vl_Sh} {sc : Nat × (Nat → Int32)} {w : Nat} (hG : vl_G2 nc S w) {d : Nat} (hd : 0 ≤ d) {Post : Int → vl_M → vl_M → Prop} {m ρ : vl_M} {a0 : Int} (hE : vl_ok (fun r : Int => Post r m ρ) (fn_X7_isId  a0)) : vl_V nc S sc kX7_isId d Post 0 [(0, vl_iv a0)] [] m ρ := by
  generalize hP : (fun r : Int => Post r m ρ) = P at hE
  have hP' : ∀ r : Int, P r → Post r m ρ := fun b h => by rw [← hP] at h; exact h
  clear hP
  unfold fn_X7_isId at hE
  refine vl_iload_n 0 rfl dX7_isId_0 ?_
  obtain ⟨g1, hE⟩ := vl_ok_gd hE
  refine vl_if_lt (tgt := 15) dX7_isId_1 (by decide) g1  hE (fun c3 hE => ?_) (fun c3 hE => ?_)
  · refine vl_iconst dX7_isId_15 ?_
    exact vl_ret (r := 0) rfl ⟨dX7_isId_16, by decide⟩ hE (hP' (0))
  · refine vl_iload_n 0 rfl dX7_isId_4 ?_
    refine vl_sipush (by decide) dX7_isId_5 ?_
    refine vl_icmp_gt (tgt := 15) dX7_isId_8 (by decide) g1 (by decide) hE (fun c2 hE => ?_) (fun c2 hE => ?_)
    · refine vl_iconst dX7_isId_15 ?_
      exact vl_ret (r := 0) rfl ⟨dX7_isId_16, by decide⟩ hE (hP' (0))
    · refine vl_iconst dX7_isId_11 ?_
      refine vl_goto (tgt := 16) dX7_isId_12 (by decide) ?_
      exact vl_ret (r := 1) rfl ⟨dX7_isId_16, by decide⟩ hE (hP' (1))
set_option maxRecDepth 100000 in
set_option maxHeartbeats 4000000 in
theorem vx_X7_isPlace {nc : Nat} {S : vl_Sh} {sc : Nat × (Nat → Int32)} {w : Nat} (hG : vl_G2 nc S w) {d : Nat} (hd : 0 ≤ d) {Post : Int → vl_M → vl_M → Prop} {m ρ : vl_M} {a0 : Int} (hE : vl_ok (fun r : Int => Post r m ρ) (fn_X7_isPlace  a0)) : vl_V nc S sc kX7_isPlace d Post 0 [(0, vl_iv a0)] [] m ρ := by
  generalize hP : (fun r : Int => Post r m ρ) = P at hE
  have hP' : ∀ r : Int, P r → Post r m ρ := fun b h => by rw [← hP] at h; exact h
  clear hP
  unfold fn_X7_isPlace at hE
  refine vl_iload_n 0 rfl dX7_isPlace_0 ?_
  obtain ⟨g1, hE⟩ := vl_ok_gd hE
  refine vl_if_lt (tgt := 15) dX7_isPlace_1 (by decide) g1  hE (fun c3 hE => ?_) (fun c3 hE => ?_)
  · refine vl_iconst dX7_isPlace_15 ?_
    exact vl_ret (r := 0) rfl ⟨dX7_isPlace_16, by decide⟩ hE (hP' (0))
  · refine vl_iload_n 0 rfl dX7_isPlace_4 ?_
    refine vl_sipush (by decide) dX7_isPlace_5 ?_
    refine vl_icmp_gt (tgt := 15) dX7_isPlace_8 (by decide) g1 (by decide) hE (fun c2 hE => ?_) (fun c2 hE => ?_)
    · refine vl_iconst dX7_isPlace_15 ?_
      exact vl_ret (r := 0) rfl ⟨dX7_isPlace_16, by decide⟩ hE (hP' (0))
    · refine vl_iconst dX7_isPlace_11 ?_
      refine vl_goto (tgt := 16) dX7_isPlace_12 (by decide) ?_
      exact vl_ret (r := 1) rfl ⟨dX7_isPlace_16, by decide⟩ hE (hP' (1))
set_option maxRecDepth 100000 in
theorem vl_iv_wr (x : Int) : vl_iv (vl_wr x) = vl_iv x := by
  unfold vl_iv vl_wr
  rw [Int32.ofInt_toInt]
set_option maxHeartbeats 4000000 in
theorem vx_X7_held {nc : Nat} {S : vl_Sh} {sc : Nat × (Nat → Int32)} {w : Nat} (hG : vl_G2 nc S w) {d : Nat} (hd : 1 ≤ d) {Post : Int → vl_M → vl_M → Prop} {m ρ : vl_M} {a1 a2 a3 : Int} (hE : vl_ok (fun r : Int => Post r m ρ) (fn_X7_held w m a1 a2 a3)) : vl_V nc S sc kX7_held d Post 0 [(0, .ref 0), (1, vl_iv a1), (2, vl_iv a2), (3, vl_iv a3)] [] m ρ := by
  generalize hP : (fun r : Int => Post r m ρ) = P at hE
  have hP' : ∀ r : Int, P r → Post r m ρ := fun b h => by rw [← hP] at h; exact h
  clear hP
  have s0 : S 0 = .inr (7, [4, 14, 19, 21, 22, 25]) := hG.2.1 0 (by decide) (by decide)
  have n0 : 0 < nc := Nat.lt_of_lt_of_le (by decide) hG.1
  have s1 : S 1 = .inr (4, [0, 0, 5, 6, 7, 8, 9, 10, 11, 12, 0, 13, 0, 0, 0, 0, 0]) := hG.2.1 1 (by decide) (by decide)
  have n1 : 1 < nc := Nat.lt_of_lt_of_le (by decide) hG.1
  have s7 : S 7 = .inl 807 := hG.2.1 7 (by decide) (by decide)
  have n7 : 7 < nc := Nat.lt_of_lt_of_le (by decide) hG.1
  have s9 : S 9 = .inl 807 := hG.2.1 9 (by decide) (by decide)
  have n9 : 9 < nc := Nat.lt_of_lt_of_le (by decide) hG.1
  have s11 : S 11 = .inr (5, [4, 17, 15, 0, 16, 0, 0, 0, 0, 0]) := hG.2.1 11 (by decide) (by decide)
  have n11 : 11 < nc := Nat.lt_of_lt_of_le (by decide) hG.1
  have s13 : S 13 = .inl 404 := hG.2.1 13 (by decide) (by decide)
  have n13 : 13 < nc := Nat.lt_of_lt_of_le (by decide) hG.1
  unfold fn_X7_held at hE
  refine vl_iload_n 1 rfl dX7_held_0 ?_
  obtain ⟨g1, hE⟩ := vl_ok_gd hE
  refine vl_if_lt (tgt := 40) dX7_held_1 (by decide) g1  hE (fun c18 hE => ?_) (fun c18 hE => ?_)
  · refine vl_iconst dX7_held_40 ?_
    exact vl_ret (r := (-1)) rfl dX7_held_41 hE (hP' (-1))
  · refine vl_iload_n 1 rfl dX7_held_4 ?_
    refine vl_aload_n 0 rfl dX7_held_5 ?_
    refine vl_getR (h := 0) (k0 := 1) (h2 := 11) iu_X7 n0 s0 rfl (by decide) fk_X7_32 rfl dX7_held_6 ?_
    refine vl_getIc (h := 11) (k0 := 5) (ki := 5) iu_X5 n11 (by decide) s11 rfl (by decide) fk_X7_146 rfl rfl dX7_held_9 ?_
    obtain ⟨g2, hE⟩ := vl_ok_gd hE
    refine vl_icmp_ge (tgt := 40) dX7_held_12 (by decide) g1 g2 hE (fun c17 hE => ?_) (fun c17 hE => ?_)
    · refine vl_iconst dX7_held_40 ?_
      exact vl_ret (r := (-1)) rfl dX7_held_41 hE (hP' (-1))
    · refine vl_iload_n 2 rfl dX7_held_15 ?_
      obtain ⟨g3, hE⟩ := vl_ok_gd hE
      refine vl_if_lt (tgt := 40) dX7_held_16 (by decide) g3  hE (fun c16 hE => ?_) (fun c16 hE => ?_)
      · refine vl_iconst dX7_held_40 ?_
        exact vl_ret (r := (-1)) rfl dX7_held_41 hE (hP' (-1))
      · refine vl_iload_n 2 rfl dX7_held_19 ?_
        refine vl_aload_n 0 rfl dX7_held_20 ?_
        refine vl_getR (h := 0) (k0 := 0) (h2 := 1) iu_X7 n0 s0 rfl (by decide) fk_X7_23 rfl dX7_held_21 ?_
        refine vl_getR (h := 1) (k0 := 9) (h2 := 9) iu_X4 n1 s1 rfl (by decide) fk_X7_179 rfl dX7_held_24 ?_
        refine vl_aload_n 0 rfl dX7_held_27 ?_
        refine vl_getR (h := 0) (k0 := 1) (h2 := 11) iu_X7 n0 s0 rfl (by decide) fk_X7_32 rfl dX7_held_28 ?_
        refine vl_getR (h := 11) (k0 := 4) (h2 := 13) iu_X5 n11 s11 rfl (by decide) fk_X7_176 rfl dX7_held_31 ?_
        refine vl_iload_n 1 rfl dX7_held_34 ?_
        refine vl_aldc (h := 13) (n := 404) (ni := 404) n13 (by decide) s13 (by decide) rfl dX7_held_35 hE (fun g4 g5 hE => ?_)
        refine vl_aldc (h := 9) (n := 807) (ni := 807) n9 (by decide) s9 (by decide) rfl dX7_held_36 hE (fun g6 g7 hE => ?_)
        obtain ⟨g8, hE⟩ := vl_ok_gd hE
        refine vl_icmp_lt (tgt := 42) dX7_held_37 (by decide) g3 g8 hE (fun c15 hE => ?_) (fun c15 hE => ?_)
        · refine vl_aload_n 0 rfl dX7_held_42 ?_
          refine vl_getR (h := 0) (k0 := 0) (h2 := 1) iu_X7 n0 s0 rfl (by decide) fk_X7_23 rfl dX7_held_43 ?_
          refine vl_aload_n 0 rfl dX7_held_46 ?_
          refine vl_getR (h := 0) (k0 := 1) (h2 := 11) iu_X7 n0 s0 rfl (by decide) fk_X7_32 rfl dX7_held_47 ?_
          refine vl_getR (h := 11) (k0 := 4) (h2 := 13) iu_X5 n11 s11 rfl (by decide) fk_X7_176 rfl dX7_held_50 ?_
          refine vl_iload_n 1 rfl dX7_held_53 ?_
          refine vl_aldc1 (h := 13) (n := 404) (ni := 404) n13 (by decide) s13 (by decide) rfl g4 dX7_held_54 ?_
          refine vl_iload_n 2 rfl dX7_held_55 ?_
          refine vl_VpI (K' := kX4_thingAt) (d' := 0) (h := 1) (As := [vl_iv (m 13 a1), vl_iv a2]) (st := []) lk_X7_188 (fun _ => rfl) (by omega) n1 s1 rfl rfl (Nat.le_of_ble_eq_true rfl) rfl (Nat.le_of_ble_eq_true rfl) dX7_held_56 hE (fun _ h => vx_X4_thingAt (vl_G21 hG) (Nat.le_refl _) h) (fun b9 hE => ?_)
          refine vl_istore0 (lv' := [(4, vl_iv b9), (0, .ref 0), (1, vl_iv a1), (2, vl_iv a2), (3, vl_iv a3)]) dX7_held_59 (by decide) rfl ?_
          refine vl_iload_n 4 rfl dX7_held_61 ?_
          obtain ⟨g10, hE⟩ := vl_ok_gd hE
          refine vl_if_ne (tgt := 78) dX7_held_62 (by decide) g10  hE (fun c14 hE => ?_) (fun c14 hE => ?_)
          · refine vl_aload_n 1 rfl dX7_held_78 ?_
            refine vl_getR (h := 0) (k0 := 0) (h2 := 1) iu_X7 n0 s0 rfl (by decide) fk_X7_23 rfl dX7_held_79 ?_
            refine vl_iload 0 rfl dX7_held_82 ?_
            refine vl_iload_n 4 rfl dX7_held_84 ?_
            refine vl_iconst dX7_held_85 ?_
            refine vl_isub dX7_held_86 ?_
            rw [← vl_iv_wr (a3 - 1)]
            refine vl_VpI (K' := kX4_side) (d' := 0) (h := 1) (As := [vl_iv b9, vl_iv (vl_wr (a3 - 1))]) (st := []) lk_X7_182 (fun _ => rfl) (by omega) n1 s1 rfl rfl (Nat.le_of_ble_eq_true rfl) rfl (Nat.le_of_ble_eq_true rfl) dX7_held_87 hE (fun _ h => vx_X4_side (vl_G21 hG) (Nat.le_refl _) h) (fun b11 hE => ?_)
            exact vl_ret (r := b11) rfl dX7_held_90 hE (hP' (b11))
          · refine vl_aload_n 1 rfl dX7_held_65 ?_
            refine vl_getR (h := 0) (k0 := 0) (h2 := 1) iu_X7 n0 s0 rfl (by decide) fk_X7_23 rfl dX7_held_66 ?_
            refine vl_getR (h := 1) (k0 := 7) (h2 := 7) iu_X4 n1 s1 rfl (by decide) fk_X7_113 rfl dX7_held_69 ?_
            refine vl_iload 0 rfl dX7_held_72 ?_
            refine vl_aldc (h := 7) (n := 807) (ni := 807) n7 (by decide) s7 (by decide) rfl dX7_held_74 hE (fun g12 g13 hE => ?_)
            refine vl_goto (tgt := 90) dX7_held_75 (by decide) ?_
            exact vl_ret (r := (m 7 b9)) rfl dX7_held_90 hE (hP' (m 7 b9))
        · refine vl_iconst dX7_held_40 ?_
          exact vl_ret (r := (-1)) rfl dX7_held_41 hE (hP' (-1))
set_option maxRecDepth 100000 in
set_option maxHeartbeats 4000000 in
theorem vx_X7_isRectangle {nc : Nat} {S : vl_Sh} {sc : Nat × (Nat → Int32)} {w : Nat} (hG : vl_G2 nc S w) {d : Nat} (hd : 1 ≤ d) {Post : Int → vl_M → vl_M → Prop} {m ρ : vl_M} {a0 a1 a2 a3 : Int} (hE : vl_ok (fun r : Int => Post r m ρ) (fn_X7_isRectangle  a0 a1 a2 a3)) : vl_V nc S sc kX7_isRectangle d Post 0 [(0, vl_iv a0), (1, vl_iv a1), (2, vl_iv a2), (3, vl_iv a3)] [] m ρ := by
  generalize hP : (fun r : Int => Post r m ρ) = P at hE
  have hP' : ∀ r : Int, P r → Post r m ρ := fun b h => by rw [← hP] at h; exact h
  clear hP
  unfold fn_X7_isRectangle at hE
  refine vl_iload_n 0 rfl dX7_isRectangle_0 ?_
  refine vl_SpI (K' := kX7_isPlace) (d' := 0) (As := [vl_iv a0]) (st := []) lk_X7_120 (fun _ => rfl) (by omega) rfl (Nat.le_of_ble_eq_true rfl) rfl (Nat.le_of_ble_eq_true rfl) dX7_isRectangle_1 hE (fun _ h => vx_X7_isPlace hG (Nat.le_refl _) h) (fun b1 hE => ?_)
  obtain ⟨g2, hE⟩ := vl_ok_gd hE
  refine vl_if_eq (tgt := 42) dX7_isRectangle_4 (by decide) g2  hE (fun c18 hE => ?_) (fun c18 hE => ?_)
  · refine vl_iconst dX7_isRectangle_42 ?_
    exact vl_ret (r := 0) rfl ⟨dX7_isRectangle_43, by decide⟩ hE (hP' (0))
  · refine vl_iload_n 1 rfl dX7_isRectangle_7 ?_
    refine vl_SpI (K' := kX7_isPlace) (d' := 0) (As := [vl_iv a1]) (st := []) lk_X7_120 (fun _ => rfl) (by omega) rfl (Nat.le_of_ble_eq_true rfl) rfl (Nat.le_of_ble_eq_true rfl) dX7_isRectangle_8 hE (fun _ h => vx_X7_isPlace hG (Nat.le_refl _) h) (fun b3 hE => ?_)
    obtain ⟨g4, hE⟩ := vl_ok_gd hE
    refine vl_if_eq (tgt := 42) dX7_isRectangle_11 (by decide) g4  hE (fun c17 hE => ?_) (fun c17 hE => ?_)
    · refine vl_iconst dX7_isRectangle_42 ?_
      exact vl_ret (r := 0) rfl ⟨dX7_isRectangle_43, by decide⟩ hE (hP' (0))
    · refine vl_iload_n 2 rfl dX7_isRectangle_14 ?_
      refine vl_SpI (K' := kX7_isPlace) (d' := 0) (As := [vl_iv a2]) (st := []) lk_X7_120 (fun _ => rfl) (by omega) rfl (Nat.le_of_ble_eq_true rfl) rfl (Nat.le_of_ble_eq_true rfl) dX7_isRectangle_15 hE (fun _ h => vx_X7_isPlace hG (Nat.le_refl _) h) (fun b5 hE => ?_)
      obtain ⟨g6, hE⟩ := vl_ok_gd hE
      refine vl_if_eq (tgt := 42) dX7_isRectangle_18 (by decide) g6  hE (fun c16 hE => ?_) (fun c16 hE => ?_)
      · refine vl_iconst dX7_isRectangle_42 ?_
        exact vl_ret (r := 0) rfl ⟨dX7_isRectangle_43, by decide⟩ hE (hP' (0))
      · refine vl_iload_n 3 rfl dX7_isRectangle_21 ?_
        refine vl_SpI (K' := kX7_isPlace) (d' := 0) (As := [vl_iv a3]) (st := []) lk_X7_120 (fun _ => rfl) (by omega) rfl (Nat.le_of_ble_eq_true rfl) rfl (Nat.le_of_ble_eq_true rfl) dX7_isRectangle_22 hE (fun _ h => vx_X7_isPlace hG (Nat.le_refl _) h) (fun b7 hE => ?_)
        obtain ⟨g8, hE⟩ := vl_ok_gd hE
        refine vl_if_eq (tgt := 42) dX7_isRectangle_25 (by decide) g8  hE (fun c15 hE => ?_) (fun c15 hE => ?_)
        · refine vl_iconst dX7_isRectangle_42 ?_
          exact vl_ret (r := 0) rfl ⟨dX7_isRectangle_43, by decide⟩ hE (hP' (0))
        · refine vl_iload_n 0 rfl dX7_isRectangle_28 ?_
          refine vl_iload_n 2 rfl dX7_isRectangle_29 ?_
          obtain ⟨g9, hE⟩ := vl_ok_gd hE
          obtain ⟨g10, hE⟩ := vl_ok_gd hE
          refine vl_icmp_gt (tgt := 42) dX7_isRectangle_30 (by decide) g9 g10 hE (fun c14 hE => ?_) (fun c14 hE => ?_)
          · refine vl_iconst dX7_isRectangle_42 ?_
            exact vl_ret (r := 0) rfl ⟨dX7_isRectangle_43, by decide⟩ hE (hP' (0))
          · refine vl_iload_n 1 rfl dX7_isRectangle_33 ?_
            refine vl_iload_n 3 rfl dX7_isRectangle_34 ?_
            obtain ⟨g11, hE⟩ := vl_ok_gd hE
            obtain ⟨g12, hE⟩ := vl_ok_gd hE
            refine vl_icmp_gt (tgt := 42) dX7_isRectangle_35 (by decide) g11 g12 hE (fun c13 hE => ?_) (fun c13 hE => ?_)
            · refine vl_iconst dX7_isRectangle_42 ?_
              exact vl_ret (r := 0) rfl ⟨dX7_isRectangle_43, by decide⟩ hE (hP' (0))
            · refine vl_iconst dX7_isRectangle_38 ?_
              refine vl_goto (tgt := 43) dX7_isRectangle_39 (by decide) ?_
              exact vl_ret (r := 1) rfl ⟨dX7_isRectangle_43, by decide⟩ hE (hP' (1))
set_option maxRecDepth 100000 in
set_option maxHeartbeats 4000000 in
theorem vx_X7_node {nc : Nat} {S : vl_Sh} {sc : Nat × (Nat → Int32)} {w : Nat} (hG : vl_G2 nc S w) {d : Nat} (hd : 1 ≤ d) {Post : Int → vl_M → vl_M → Prop} {m ρ : vl_M} {a1 a2 : Int} (hE : vl_ok (fun r : Int => Post r m ρ) (fn_X7_node m a1 a2)) : vl_V nc S sc kX7_node d Post 0 [(0, .ref 0), (1, vl_iv a1), (2, vl_iv a2)] [] m ρ := by
  generalize hP : (fun r : Int => Post r m ρ) = P at hE
  have hP' : ∀ r : Int, P r → Post r m ρ := fun b h => by rw [← hP] at h; exact h
  clear hP
  have s0 : S 0 = .inr (7, [4, 14, 19, 21, 22, 25]) := hG.2.1 0 (by decide) (by decide)
  have n0 : 0 < nc := Nat.lt_of_lt_of_le (by decide) hG.1
  have s1 : S 1 = .inr (4, [0, 0, 5, 6, 7, 8, 9, 10, 11, 12, 0, 13, 0, 0, 0, 0, 0]) := hG.2.1 1 (by decide) (by decide)
  have n1 : 1 < nc := Nat.lt_of_lt_of_le (by decide) hG.1
  have s2 : S 2 = .inl 807 := hG.2.1 2 (by decide) (by decide)
  have n2 : 2 < nc := Nat.lt_of_lt_of_le (by decide) hG.1
  have s7 : S 7 = .inl 807 := hG.2.1 7 (by decide) (by decide)
  have n7 : 7 < nc := Nat.lt_of_lt_of_le (by decide) hG.1
  have s8 : S 8 = .inl 807 := hG.2.1 8 (by decide) (by decide)
  have n8 : 8 < nc := Nat.lt_of_lt_of_le (by decide) hG.1
  have s9 : S 9 = .inl 807 := hG.2.1 9 (by decide) (by decide)
  have n9 : 9 < nc := Nat.lt_of_lt_of_le (by decide) hG.1
  have s11 : S 11 = .inr (5, [4, 17, 15, 0, 16, 0, 0, 0, 0, 0]) := hG.2.1 11 (by decide) (by decide)
  have n11 : 11 < nc := Nat.lt_of_lt_of_le (by decide) hG.1
  have s13 : S 13 = .inl 404 := hG.2.1 13 (by decide) (by decide)
  have n13 : 13 < nc := Nat.lt_of_lt_of_le (by decide) hG.1
  unfold fn_X7_node at hE
  refine vl_iload_n 1 rfl dX7_node_0 ?_
  obtain ⟨g1, hE⟩ := vl_ok_gd hE
  refine vl_if_lt (tgt := 15) dX7_node_1 (by decide) g1  hE (fun c45 hE => ?_) (fun c45 hE => ?_)
  · refine vl_iconst dX7_node_15 ?_
    exact vl_ret (r := (-1)) rfl dX7_node_16 hE (hP' (-1))
  · refine vl_iload_n 1 rfl dX7_node_4 ?_
    refine vl_aload_n 0 rfl dX7_node_5 ?_
    refine vl_getR (h := 0) (k0 := 1) (h2 := 11) iu_X7 n0 s0 rfl (by decide) fk_X7_32 rfl dX7_node_6 ?_
    refine vl_getIc (h := 11) (k0 := 5) (ki := 5) iu_X5 n11 (by decide) s11 rfl (by decide) fk_X7_146 rfl rfl dX7_node_9 ?_
    obtain ⟨g2, hE⟩ := vl_ok_gd hE
    refine vl_icmp_lt (tgt := 17) dX7_node_12 (by decide) g1 g2 hE (fun c44 hE => ?_) (fun c44 hE => ?_)
    · refine vl_aload_n 0 rfl dX7_node_17 ?_
      refine vl_getR (h := 0) (k0 := 1) (h2 := 11) iu_X7 n0 s0 rfl (by decide) fk_X7_32 rfl dX7_node_18 ?_
      refine vl_getR (h := 11) (k0 := 4) (h2 := 13) iu_X5 n11 s11 rfl (by decide) fk_X7_176 rfl dX7_node_21 ?_
      refine vl_iload_n 1 rfl dX7_node_24 ?_
      refine vl_aldc (h := 13) (n := 404) (ni := 404) n13 (by decide) s13 (by decide) rfl dX7_node_25 hE (fun g3 g4 hE => ?_)
      refine vl_istore_n rfl (fun v5 => [(3, vl_iv v5), (0, .ref 0), (1, vl_iv a1), (2, vl_iv a2)]) dX7_node_26 (by decide) (fun _ => rfl) hE (fun v5 hE => ?_)
      refine vl_iload_n 3 rfl dX7_node_27 ?_
      obtain ⟨g6, hE⟩ := vl_ok_gd hE
      by_cases c7 : a2 = 0
      · rw [if_pos c7] at hE
        refine vl_tabIn (off := 44) (tgt := 72) dX7_node_28 g6 (by omega) (by omega) (by rw [c7]; rfl) (by decide) ?_
        refine vl_aload_n 1 rfl dX7_node_72 ?_
        refine vl_getR (h := 0) (k0 := 0) (h2 := 1) iu_X7 n0 s0 rfl (by decide) fk_X7_23 rfl dX7_node_73 ?_
        refine vl_getR (h := 1) (k0 := 2) (h2 := 2) iu_X4 n1 s1 rfl (by decide) fk_X7_155 rfl dX7_node_76 ?_
        refine vl_iload_n 0 rfl dX7_node_79 ?_
        refine vl_aldc (h := 2) (n := 807) (ni := 807) n2 (by decide) s2 (by decide) rfl dX7_node_80 hE (fun g8 g9 hE => ?_)
        exact vl_ret (r := (m 2 v5)) rfl dX7_node_81 hE (hP' (m 2 v5))
      · rw [if_neg c7] at hE
        by_cases c10 : a2 = 1
        · rw [if_pos c10] at hE
          refine vl_tabIn (off := 54) (tgt := 82) dX7_node_28 g6 (by omega) (by omega) (by rw [c10]; rfl) (by decide) ?_
          refine vl_aload_n 1 rfl dX7_node_82 ?_
          refine vl_getR (h := 0) (k0 := 0) (h2 := 1) iu_X7 n0 s0 rfl (by decide) fk_X7_23 rfl dX7_node_83 ?_
          refine vl_getR (h := 1) (k0 := 9) (h2 := 9) iu_X4 n1 s1 rfl (by decide) fk_X7_179 rfl dX7_node_86 ?_
          refine vl_iload_n 0 rfl dX7_node_89 ?_
          refine vl_aldc (h := 9) (n := 807) (ni := 807) n9 (by decide) s9 (by decide) rfl dX7_node_90 hE (fun g11 g12 hE => ?_)
          exact vl_ret (r := (m 9 v5)) rfl dX7_node_91 hE (hP' (m 9 v5))
        · rw [if_neg c10] at hE
          by_cases c13 : a2 = 2
          · rw [if_pos c13] at hE
            refine vl_tabIn (off := 64) (tgt := 92) dX7_node_28 g6 (by omega) (by omega) (by rw [c13]; rfl) (by decide) ?_
            refine vl_aload_n 1 rfl dX7_node_92 ?_
            refine vl_getR (h := 0) (k0 := 0) (h2 := 1) iu_X7 n0 s0 rfl (by decide) fk_X7_23 rfl dX7_node_93 ?_
            refine vl_getR (h := 1) (k0 := 9) (h2 := 9) iu_X4 n1 s1 rfl (by decide) fk_X7_179 rfl dX7_node_96 ?_
            refine vl_iload_n 0 rfl dX7_node_99 ?_
            refine vl_aldc (h := 9) (n := 807) (ni := 807) n9 (by decide) s9 (by decide) rfl dX7_node_100 hE (fun g14 g15 hE => ?_)
            obtain ⟨g16, hE⟩ := vl_ok_gd hE
            refine vl_if_ne (tgt := 108) dX7_node_101 (by decide) g16  hE (fun c18 hE => ?_) (fun c18 hE => ?_)
            · refine vl_aload_n 1 rfl dX7_node_108 ?_
              refine vl_getR (h := 0) (k0 := 0) (h2 := 1) iu_X7 n0 s0 rfl (by decide) fk_X7_23 rfl dX7_node_109 ?_
              refine vl_iload_n 0 rfl dX7_node_112 ?_
              refine vl_iload_n 3 rfl dX7_node_113 ?_
              refine vl_iconst dX7_node_114 ?_
              refine vl_isub dX7_node_115 ?_
              refine vl_VpI (K' := kX4_side) (d' := 0) (h := 1) (As := [vl_iv v5, vl_iv (a2 - 2)]) (st := []) lk_X7_182 (fun _ => rfl) (by omega) n1 s1 rfl rfl (Nat.le_of_ble_eq_true rfl) rfl (Nat.le_of_ble_eq_true rfl) dX7_node_116 hE (fun _ h => vx_X4_side (vl_G21 hG) (Nat.le_refl _) h) (fun b17 hE => ?_)
              exact vl_ret (r := b17) rfl dX7_node_119 hE (hP' (b17))
            · refine vl_iconst dX7_node_104 ?_
              refine vl_goto (tgt := 119) dX7_node_105 (by decide) ?_
              exact vl_ret (r := (-1)) rfl dX7_node_119 hE (hP' (-1))
          · rw [if_neg c13] at hE
            by_cases c19 : a2 = 3
            · rw [if_pos c19] at hE
              refine vl_tabIn (off := 64) (tgt := 92) dX7_node_28 g6 (by omega) (by omega) (by rw [c19]; rfl) (by decide) ?_
              refine vl_aload_n 1 rfl dX7_node_92 ?_
              refine vl_getR (h := 0) (k0 := 0) (h2 := 1) iu_X7 n0 s0 rfl (by decide) fk_X7_23 rfl dX7_node_93 ?_
              refine vl_getR (h := 1) (k0 := 9) (h2 := 9) iu_X4 n1 s1 rfl (by decide) fk_X7_179 rfl dX7_node_96 ?_
              refine vl_iload_n 0 rfl dX7_node_99 ?_
              refine vl_aldc (h := 9) (n := 807) (ni := 807) n9 (by decide) s9 (by decide) rfl dX7_node_100 hE (fun g20 g21 hE => ?_)
              obtain ⟨g22, hE⟩ := vl_ok_gd hE
              refine vl_if_ne (tgt := 108) dX7_node_101 (by decide) g22  hE (fun c24 hE => ?_) (fun c24 hE => ?_)
              · refine vl_aload_n 1 rfl dX7_node_108 ?_
                refine vl_getR (h := 0) (k0 := 0) (h2 := 1) iu_X7 n0 s0 rfl (by decide) fk_X7_23 rfl dX7_node_109 ?_
                refine vl_iload_n 0 rfl dX7_node_112 ?_
                refine vl_iload_n 3 rfl dX7_node_113 ?_
                refine vl_iconst dX7_node_114 ?_
                refine vl_isub dX7_node_115 ?_
                refine vl_VpI (K' := kX4_side) (d' := 0) (h := 1) (As := [vl_iv v5, vl_iv (a2 - 2)]) (st := []) lk_X7_182 (fun _ => rfl) (by omega) n1 s1 rfl rfl (Nat.le_of_ble_eq_true rfl) rfl (Nat.le_of_ble_eq_true rfl) dX7_node_116 hE (fun _ h => vx_X4_side (vl_G21 hG) (Nat.le_refl _) h) (fun b23 hE => ?_)
                exact vl_ret (r := b23) rfl dX7_node_119 hE (hP' (b23))
              · refine vl_iconst dX7_node_104 ?_
                refine vl_goto (tgt := 119) dX7_node_105 (by decide) ?_
                exact vl_ret (r := (-1)) rfl dX7_node_119 hE (hP' (-1))
            · rw [if_neg c19] at hE
              by_cases c25 : a2 = 4
              · rw [if_pos c25] at hE
                refine vl_tabIn (off := 64) (tgt := 92) dX7_node_28 g6 (by omega) (by omega) (by rw [c25]; rfl) (by decide) ?_
                refine vl_aload_n 1 rfl dX7_node_92 ?_
                refine vl_getR (h := 0) (k0 := 0) (h2 := 1) iu_X7 n0 s0 rfl (by decide) fk_X7_23 rfl dX7_node_93 ?_
                refine vl_getR (h := 1) (k0 := 9) (h2 := 9) iu_X4 n1 s1 rfl (by decide) fk_X7_179 rfl dX7_node_96 ?_
                refine vl_iload_n 0 rfl dX7_node_99 ?_
                refine vl_aldc (h := 9) (n := 807) (ni := 807) n9 (by decide) s9 (by decide) rfl dX7_node_100 hE (fun g26 g27 hE => ?_)
                obtain ⟨g28, hE⟩ := vl_ok_gd hE
                refine vl_if_ne (tgt := 108) dX7_node_101 (by decide) g28  hE (fun c30 hE => ?_) (fun c30 hE => ?_)
                · refine vl_aload_n 1 rfl dX7_node_108 ?_
                  refine vl_getR (h := 0) (k0 := 0) (h2 := 1) iu_X7 n0 s0 rfl (by decide) fk_X7_23 rfl dX7_node_109 ?_
                  refine vl_iload_n 0 rfl dX7_node_112 ?_
                  refine vl_iload_n 3 rfl dX7_node_113 ?_
                  refine vl_iconst dX7_node_114 ?_
                  refine vl_isub dX7_node_115 ?_
                  refine vl_VpI (K' := kX4_side) (d' := 0) (h := 1) (As := [vl_iv v5, vl_iv (a2 - 2)]) (st := []) lk_X7_182 (fun _ => rfl) (by omega) n1 s1 rfl rfl (Nat.le_of_ble_eq_true rfl) rfl (Nat.le_of_ble_eq_true rfl) dX7_node_116 hE (fun _ h => vx_X4_side (vl_G21 hG) (Nat.le_refl _) h) (fun b29 hE => ?_)
                  exact vl_ret (r := b29) rfl dX7_node_119 hE (hP' (b29))
                · refine vl_iconst dX7_node_104 ?_
                  refine vl_goto (tgt := 119) dX7_node_105 (by decide) ?_
                  exact vl_ret (r := (-1)) rfl dX7_node_119 hE (hP' (-1))
              · rw [if_neg c25] at hE
                by_cases c31 : a2 = 5
                · rw [if_pos c31] at hE
                  refine vl_tabIn (off := 64) (tgt := 92) dX7_node_28 g6 (by omega) (by omega) (by rw [c31]; rfl) (by decide) ?_
                  refine vl_aload_n 1 rfl dX7_node_92 ?_
                  refine vl_getR (h := 0) (k0 := 0) (h2 := 1) iu_X7 n0 s0 rfl (by decide) fk_X7_23 rfl dX7_node_93 ?_
                  refine vl_getR (h := 1) (k0 := 9) (h2 := 9) iu_X4 n1 s1 rfl (by decide) fk_X7_179 rfl dX7_node_96 ?_
                  refine vl_iload_n 0 rfl dX7_node_99 ?_
                  refine vl_aldc (h := 9) (n := 807) (ni := 807) n9 (by decide) s9 (by decide) rfl dX7_node_100 hE (fun g32 g33 hE => ?_)
                  obtain ⟨g34, hE⟩ := vl_ok_gd hE
                  refine vl_if_ne (tgt := 108) dX7_node_101 (by decide) g34  hE (fun c36 hE => ?_) (fun c36 hE => ?_)
                  · refine vl_aload_n 1 rfl dX7_node_108 ?_
                    refine vl_getR (h := 0) (k0 := 0) (h2 := 1) iu_X7 n0 s0 rfl (by decide) fk_X7_23 rfl dX7_node_109 ?_
                    refine vl_iload_n 0 rfl dX7_node_112 ?_
                    refine vl_iload_n 3 rfl dX7_node_113 ?_
                    refine vl_iconst dX7_node_114 ?_
                    refine vl_isub dX7_node_115 ?_
                    refine vl_VpI (K' := kX4_side) (d' := 0) (h := 1) (As := [vl_iv v5, vl_iv (a2 - 2)]) (st := []) lk_X7_182 (fun _ => rfl) (by omega) n1 s1 rfl rfl (Nat.le_of_ble_eq_true rfl) rfl (Nat.le_of_ble_eq_true rfl) dX7_node_116 hE (fun _ h => vx_X4_side (vl_G21 hG) (Nat.le_refl _) h) (fun b35 hE => ?_)
                    exact vl_ret (r := b35) rfl dX7_node_119 hE (hP' (b35))
                  · refine vl_iconst dX7_node_104 ?_
                    refine vl_goto (tgt := 119) dX7_node_105 (by decide) ?_
                    exact vl_ret (r := (-1)) rfl dX7_node_119 hE (hP' (-1))
                · rw [if_neg c31] at hE
                  by_cases c37 : a2 = 6
                  · rw [if_pos c37] at hE
                    refine vl_tabIn (off := 92) (tgt := 120) dX7_node_28 g6 (by omega) (by omega) (by rw [c37]; rfl) (by decide) ?_
                    refine vl_aload_n 1 rfl dX7_node_120 ?_
                    refine vl_getR (h := 0) (k0 := 0) (h2 := 1) iu_X7 n0 s0 rfl (by decide) fk_X7_23 rfl dX7_node_121 ?_
                    refine vl_getR (h := 1) (k0 := 8) (h2 := 8) iu_X4 n1 s1 rfl (by decide) fk_X7_185 rfl dX7_node_124 ?_
                    refine vl_iload_n 0 rfl dX7_node_127 ?_
                    refine vl_aldc (h := 8) (n := 807) (ni := 807) n8 (by decide) s8 (by decide) rfl dX7_node_128 hE (fun g38 g39 hE => ?_)
                    refine vl_iconst dX7_node_129 ?_
                    obtain ⟨g40, hE⟩ := vl_ok_gd hE
                    refine vl_icmp_ne (tgt := 138) dX7_node_130 (by decide) g40 (by decide) hE (fun c43 hE => ?_) (fun c43 hE => ?_)
                    · refine vl_aload_n 1 rfl dX7_node_138 ?_
                      refine vl_getR (h := 0) (k0 := 0) (h2 := 1) iu_X7 n0 s0 rfl (by decide) fk_X7_23 rfl dX7_node_139 ?_
                      refine vl_getR (h := 1) (k0 := 7) (h2 := 7) iu_X4 n1 s1 rfl (by decide) fk_X7_113 rfl dX7_node_142 ?_
                      refine vl_aload_n 1 rfl dX7_node_145 ?_
                      refine vl_getR (h := 0) (k0 := 0) (h2 := 1) iu_X7 n0 s0 rfl (by decide) fk_X7_23 rfl dX7_node_146 ?_
                      refine vl_getR (h := 1) (k0 := 8) (h2 := 8) iu_X4 n1 s1 rfl (by decide) fk_X7_185 rfl dX7_node_149 ?_
                      refine vl_iload_n 0 rfl dX7_node_152 ?_
                      refine vl_aldc1 (h := 8) (n := 807) (ni := 807) n8 (by decide) s8 (by decide) rfl g38 dX7_node_153 ?_
                      refine vl_aldc (h := 7) (n := 807) (ni := 807) n7 (by decide) s7 (by decide) rfl dX7_node_154 hE (fun g41 g42 hE => ?_)
                      exact vl_ret (r := (m 7 (m 8 v5))) rfl dX7_node_155 hE (hP' (m 7 (m 8 v5)))
                    · refine vl_bipush (by decide) dX7_node_133 ?_
                      refine vl_goto (tgt := 155) dX7_node_135 (by decide) ?_
                      exact vl_ret (r := (-2)) rfl dX7_node_155 hE (hP' (-2))
                  · rw [if_neg c37] at hE
                    refine vl_tabOut (tgt := 156) dX7_node_28 g6 (by omega) (by decide) ?_
                    refine vl_iconst dX7_node_156 ?_
                    exact vl_ret (r := (-1)) rfl dX7_node_157 hE (hP' (-1))
    · refine vl_iconst dX7_node_15 ?_
      exact vl_ret (r := (-1)) rfl dX7_node_16 hE (hP' (-1))
set_option maxRecDepth 100000 in
set_option maxHeartbeats 4000000 in
theorem vx_X7_countIn {nc : Nat} {S : vl_Sh} {sc : Nat × (Nat → Int32)} {w : Nat} (hG : vl_G2 nc S w) {N : Nat} {d : Nat} (hd : 2 ≤ d) {Post : Int → vl_M → vl_M → Prop} {m ρ : vl_M} {a1 a2 a3 a4 : Int} (hE : vl_ok (fun b : Int × vl_M => Post b.1 b.2 ρ) (fn_X7_countIn N m a1 a2 a3 a4)) : vl_V nc S sc kX7_countIn d Post 0 [(0, .ref 0), (1, vl_iv a1), (2, vl_iv a2), (3, vl_iv a3), (4, vl_iv a4)] [] m ρ := by
  generalize hP : (fun b : Int × vl_M => Post b.1 b.2 ρ) = P at hE
  have hP' : ∀ b : Int × vl_M, P b → Post b.1 b.2 ρ := fun b h => by rw [← hP] at h; exact h
  clear hP
  have s0 : S 0 = .inr (7, [4, 14, 19, 21, 22, 25]) := hG.2.1 0 (by decide) (by decide)
  have n0 : 0 < nc := Nat.lt_of_lt_of_le (by decide) hG.1
  have s1 : S 1 = .inr (4, [0, 0, 5, 6, 7, 8, 9, 10, 11, 12, 0, 13, 0, 0, 0, 0, 0]) := hG.2.1 1 (by decide) (by decide)
  have n1 : 1 < nc := Nat.lt_of_lt_of_le (by decide) hG.1
  unfold fn_X7_countIn at hE
  refine vl_iload_n 1 rfl dX7_countIn_0 ?_
  refine vl_iload_n 2 rfl dX7_countIn_1 ?_
  refine vl_iload_n 3 rfl dX7_countIn_2 ?_
  refine vl_iload 4 rfl dX7_countIn_3 ?_
  refine vl_SpI (K' := kX7_isRectangle) (d' := 1) (As := [vl_iv a1, vl_iv a2, vl_iv a3, vl_iv a4]) (st := []) lk_X7_70 (fun _ => rfl) (by omega) rfl (Nat.le_of_ble_eq_true rfl) rfl (Nat.le_of_ble_eq_true rfl) dX7_countIn_5 hE (fun _ h => vx_X7_isRectangle hG (Nat.le_refl _) h) (fun b1 hE => ?_)
  obtain ⟨g2, hE⟩ := vl_ok_gd hE
  refine vl_if_ne (tgt := 13) dX7_countIn_8 (by decide) g2  hE (fun c6 hE => ?_) (fun c6 hE => ?_)
  · refine vl_aload_n 0 rfl dX7_countIn_13 ?_
    refine vl_getR (h := 0) (k0 := 0) (h2 := 1) iu_X7 n0 s0 rfl (by decide) fk_X7_23 rfl dX7_countIn_14 ?_
    refine vl_sipush (by decide) dX7_countIn_17 ?_
    refine vl_iconst dX7_countIn_20 ?_
    refine vl_iload_n 1 rfl dX7_countIn_21 ?_
    refine vl_iload_n 2 rfl dX7_countIn_22 ?_
    refine vl_iload_n 3 rfl dX7_countIn_23 ?_
    refine vl_iload 4 rfl dX7_countIn_24 ?_
    refine vl_VcWV (K' := kX4_describe) (d' := 0) (h := 1) (As := [vl_iv 805, vl_iv (-1), vl_iv a1, vl_iv a2, vl_iv a3, vl_iv a4]) (st := []) lk_X7_74 (fun _ => rfl) (by omega) n1 s1 rfl rfl (Nat.le_of_ble_eq_true rfl) rfl (Nat.le_of_ble_eq_true rfl) dX7_countIn_26 hE (fun _ h => vx_X4_describe (vl_G21 hG) (Nat.le_refl _) h) (fun m4 hE => ?_)
    refine vl_aload_n 0 rfl dX7_countIn_29 ?_
    refine vl_getR (h := 0) (k0 := 0) (h2 := 1) iu_X7 n0 s0 rfl (by decide) fk_X7_23 rfl dX7_countIn_30 ?_
    refine vl_sipush (by decide) dX7_countIn_33 ?_
    refine vl_iconst dX7_countIn_36 ?_
    refine vl_VpI (K' := kX4_entriesMeeting) (d' := 1) (h := 1) (As := [vl_iv 805, vl_iv 0]) (st := []) lk_X7_117 (fun _ => rfl) (by omega) n1 s1 rfl rfl (Nat.le_of_ble_eq_true rfl) rfl (Nat.le_of_ble_eq_true rfl) dX7_countIn_37 hE (fun _ h => vx_X4_entriesMeeting (vl_G21 hG) (Nat.le_refl _) h) (fun b5 hE => ?_)
    exact vl_ret (r := b5) rfl dX7_countIn_40 hE (hP' (b5, m4))
  · refine vl_iconst dX7_countIn_11 ?_
    exact vl_ret (r := (-1)) rfl dX7_countIn_12 hE (hP' ((-1), m))
set_option maxRecDepth 100000 in
set_option maxHeartbeats 4000000 in
theorem vx_X7_pairs {nc : Nat} {S : vl_Sh} {sc : Nat × (Nat → Int32)} {w : Nat} (hG : vl_G2 nc S w) {N : Nat} {d : Nat} (hd : 2 ≤ d) {Post : Int → vl_M → vl_M → Prop} {m ρ : vl_M} (hE : vl_ok (fun r : Int => Post r m ρ) (fn_X7_pairs N m )) : vl_V nc S sc kX7_pairs d Post 0 [(0, .ref 0)] [] m ρ := by
  generalize hP : (fun r : Int => Post r m ρ) = P at hE
  have hP' : ∀ r : Int, P r → Post r m ρ := fun b h => by rw [← hP] at h; exact h
  clear hP
  have s0 : S 0 = .inr (7, [4, 14, 19, 21, 22, 25]) := hG.2.1 0 (by decide) (by decide)
  have n0 : 0 < nc := Nat.lt_of_lt_of_le (by decide) hG.1
  have s1 : S 1 = .inr (4, [0, 0, 5, 6, 7, 8, 9, 10, 11, 12, 0, 13, 0, 0, 0, 0, 0]) := hG.2.1 1 (by decide) (by decide)
  have n1 : 1 < nc := Nat.lt_of_lt_of_le (by decide) hG.1
  unfold fn_X7_pairs at hE
  refine vl_iconst dX7_pairs_0 ?_
  refine vl_istore_n0 rfl (lv' := [(1, vl_iv 0), (0, .ref 0)]) dX7_pairs_1 (by decide) rfl ?_
  refine vl_iconst dX7_pairs_2 ?_
  refine vl_istore_n0 rfl (lv' := [(2, vl_iv 0), (1, vl_iv 0), (0, .ref 0)]) dX7_pairs_3 (by decide) rfl ?_
  refine vl_lpr (F := fun κ : Int → Int → Option (Int) => fn_X7_pairs_L4 N m κ N 0 0) (J := fun κ => ∀ (v3 : Int) (v4 : Int), vl_ok P (κ v3 v4) → vl_V nc S sc kX7_pairs d Post 46 [(1, vl_iv v3)] [] m ρ) ?_ hE (fun κ hκL42 hE => ?_)
  · intro v3 v4 hE
    refine vl_iload_n 0 rfl dX7_pairs_46 ?_
    exact vl_ret (r := v3) rfl dX7_pairs_47 hE (hP' (v3))
  have hL4_ : ∀ (n : Nat) (v1 : Int) (v2 : Int), vl_ok P (fn_X7_pairs_L4 N m κ n v1 v2) → vl_V nc S sc kX7_pairs d Post 4 [(0, .ref 0), (1, vl_iv v1), (2, vl_iv v2)] [] m ρ := by
    intro n
    induction n with
    | zero => intro v1 v2 hE; exact vl_no hE
    | succ n ih4_ =>
      intro v1 v2 hE
      rw [fn_X7_pairs_L4] at hE
      refine vl_iload_n 2 rfl dX7_pairs_4 ?_
      refine vl_aload_n 0 rfl dX7_pairs_5 ?_
      refine vl_getR (h := 0) (k0 := 0) (h2 := 1) iu_X7 n0 s0 rfl (by decide) fk_X7_23 rfl dX7_pairs_6 ?_
      refine vl_getIc (h := 1) (k0 := 13) (ki := 13) iu_X4 n1 (by decide) s1 rfl (by decide) fk_X7_130 rfl rfl dX7_pairs_9 ?_
      obtain ⟨g5, hE⟩ := vl_ok_gd hE
      obtain ⟨g6, hE⟩ := vl_ok_gd hE
      refine vl_icmp_ge (tgt := 46) dX7_pairs_12 (by decide) g5 g6 hE (fun c15 hE => ?_) (fun c15 hE => ?_)
      · exact vl_wk [1] rfl (hκL42 v1 v2 hE)
      · refine vl_aload_n 0 rfl dX7_pairs_15 ?_
        refine vl_getR (h := 0) (k0 := 0) (h2 := 1) iu_X7 n0 s0 rfl (by decide) fk_X7_23 rfl dX7_pairs_16 ?_
        refine vl_iload_n 2 rfl dX7_pairs_19 ?_
        refine vl_VpI (K' := kX4_isEntry) (d' := 0) (h := 1) (As := [vl_iv v2]) (st := []) lk_X7_133 (fun _ => rfl) (by omega) n1 s1 rfl rfl (Nat.le_of_ble_eq_true rfl) rfl (Nat.le_of_ble_eq_true rfl) dX7_pairs_20 hE (fun _ h => vx_X4_isEntry (vl_G21 hG) (Nat.le_refl _) h) (fun b7 hE => ?_)
        obtain ⟨g8, hE⟩ := vl_ok_gd hE
        refine vl_jnr (J := fun κ : Int → Option (Int) => ∀ (v9 : Int), vl_ok P (κ v9) → vl_V nc S sc kX7_pairs d Post 40 [(0, .ref 0), (1, vl_iv v9), (2, vl_iv v2)] [] m ρ) ?_ hE (fun κ10 hκ10 hE => ?_)
        · intro v9 hE
          refine vl_iinc 2 (fun v11 => [(2, vl_iv v11), (0, .ref 0), (1, vl_iv v9)]) dX7_pairs_40 rfl (by decide) (fun _ => rfl) hE (fun v11 hE => ?_)
          refine vl_goto (tgt := 4) dX7_pairs_43 (by decide) ?_
          exact vl_wk [1, 2, 0] rfl (ih4_ v9 v11 hE)
        refine vl_if_eq (tgt := 40) dX7_pairs_23 (by decide) g8  hE (fun c14 hE => ?_) (fun c14 hE => ?_)
        · exact (hκ10 v1 hE)
        · refine vl_iload_n 1 rfl dX7_pairs_26 ?_
          refine vl_aload_n 0 rfl dX7_pairs_27 ?_
          refine vl_getR (h := 0) (k0 := 0) (h2 := 1) iu_X7 n0 s0 rfl (by decide) fk_X7_23 rfl dX7_pairs_28 ?_
          refine vl_iload_n 2 rfl dX7_pairs_31 ?_
          refine vl_iload_n 2 rfl dX7_pairs_32 ?_
          refine vl_iconst dX7_pairs_33 ?_
          refine vl_iadd dX7_pairs_34 ?_
          refine vl_VpI (K' := kX4_entriesMeeting) (d' := 1) (h := 1) (As := [vl_iv v2, vl_iv (v2 + 1)]) (st := [vl_iv v1]) lk_X7_117 (fun _ => rfl) (by omega) n1 s1 rfl rfl (Nat.le_of_ble_eq_true rfl) rfl (Nat.le_of_ble_eq_true rfl) dX7_pairs_35 hE (fun _ h => vx_X4_entriesMeeting (vl_G21 hG) (Nat.le_refl _) h) (fun b12 hE => ?_)
          refine vl_iadd dX7_pairs_38 ?_
          refine vl_istore_n rfl (fun v13 => [(1, vl_iv v13), (0, .ref 0), (2, vl_iv v2)]) dX7_pairs_39 (by decide) (fun _ => rfl) hE (fun v13 hE => ?_)
          exact vl_wk [1, 0, 2] rfl (hκ10 v13 hE)
  exact vl_wk [2, 1, 0] rfl (hL4_ N 0 0 hE)
set_option maxRecDepth 100000 in
set_option maxHeartbeats 4000000 in
theorem vx_X7_visited {nc : Nat} {S : vl_Sh} {sc : Nat × (Nat → Int32)} {w : Nat} (hG : vl_G2 nc S w) {N : Nat} {d : Nat} (hd : 2 ≤ d) {Post : Int → vl_M → vl_M → Prop} {m ρ : vl_M} {a1 : Int} (hE : vl_ok (fun r : Int => Post r m ρ) (fn_X7_visited N m a1)) : vl_V nc S sc kX7_visited d Post 0 [(0, .ref 0), (1, vl_iv a1)] [] m ρ := by
  generalize hP : (fun r : Int => Post r m ρ) = P at hE
  have hP' : ∀ r : Int, P r → Post r m ρ := fun b h => by rw [← hP] at h; exact h
  clear hP
  have s0 : S 0 = .inr (7, [4, 14, 19, 21, 22, 25]) := hG.2.1 0 (by decide) (by decide)
  have n0 : 0 < nc := Nat.lt_of_lt_of_le (by decide) hG.1
  have s11 : S 11 = .inr (5, [4, 17, 15, 0, 16, 0, 0, 0, 0, 0]) := hG.2.1 11 (by decide) (by decide)
  have n11 : 11 < nc := Nat.lt_of_lt_of_le (by decide) hG.1
  have s18 : S 18 = .inr (6, [4, 14, 0, 0, 0, 0, 0]) := hG.2.1 18 (by decide) (by decide)
  have n18 : 18 < nc := Nat.lt_of_lt_of_le (by decide) hG.1
  have s19 : S 19 = .inr (2, [4, 14, 23, 24, 0, 0, 0]) := hG.2.1 19 (by decide) (by decide)
  have n19 : 19 < nc := Nat.lt_of_lt_of_le (by decide) hG.1
  unfold fn_X7_visited at hE
  refine vl_iload_n 1 rfl dX7_visited_0 ?_
  obtain ⟨g1, hE⟩ := vl_ok_gd hE
  by_cases c2 : a1 = 0
  · rw [if_pos c2] at hE
    refine vl_tabIn (off := 27) (tgt := 28) dX7_visited_1 g1 (by omega) (by omega) (by rw [c2]; rfl) (by decide) ?_
    refine vl_aload_n 0 rfl dX7_visited_28 ?_
    refine vl_getR (h := 0) (k0 := 3) (h2 := 18) iu_X7 n0 s0 rfl (by decide) fk_X7_48 rfl dX7_visited_29 ?_
    refine vl_getIc (h := 18) (k0 := 2) (ki := 2) iu_X6 n18 (by decide) s18 rfl (by decide) fk_X7_105 rfl rfl dX7_visited_32 ?_
    obtain ⟨g3, hE⟩ := vl_ok_gd hE
    refine vl_if_eq (tgt := 48) dX7_visited_35 (by decide) g3  hE (fun c4 hE => ?_) (fun c4 hE => ?_)
    · refine vl_iconst dX7_visited_48 ?_
      exact vl_ret (r := (-1)) rfl dX7_visited_49 hE (hP' (-1))
    · refine vl_aload_n 0 rfl dX7_visited_38 ?_
      refine vl_getR (h := 0) (k0 := 3) (h2 := 18) iu_X7 n0 s0 rfl (by decide) fk_X7_48 rfl dX7_visited_39 ?_
      refine vl_getIc (h := 18) (k0 := 3) (ki := 3) iu_X6 n18 (by decide) s18 rfl (by decide) fk_X7_136 rfl rfl dX7_visited_42 ?_
      refine vl_goto (tgt := 49) dX7_visited_45 (by decide) ?_
      exact vl_ret (r := (m 18 3)) rfl dX7_visited_49 hE (hP' (m 18 3))
  · rw [if_neg c2] at hE
    by_cases c5 : a1 = 1
    · rw [if_pos c5] at hE
      refine vl_tabIn (off := 49) (tgt := 50) dX7_visited_1 g1 (by omega) (by omega) (by rw [c5]; rfl) (by decide) ?_
      refine vl_aload_n 0 rfl dX7_visited_50 ?_
      refine vl_getR (h := 0) (k0 := 4) (h2 := 19) iu_X7 n0 s0 rfl (by decide) fk_X7_55 rfl dX7_visited_51 ?_
      refine vl_getIc (h := 19) (k0 := 5) (ki := 5) iu_X2 n19 (by decide) s19 rfl (by decide) fk_X7_139 rfl rfl dX7_visited_54 ?_
      exact vl_ret (r := (m 19 5)) rfl dX7_visited_57 hE (hP' (m 19 5))
    · rw [if_neg c5] at hE
      by_cases c6 : a1 = 2
      · rw [if_pos c6] at hE
        refine vl_tabIn (off := 57) (tgt := 58) dX7_visited_1 g1 (by omega) (by omega) (by rw [c6]; rfl) (by decide) ?_
        refine vl_aload_n 0 rfl dX7_visited_58 ?_
        refine vl_getR (h := 0) (k0 := 1) (h2 := 11) iu_X7 n0 s0 rfl (by decide) fk_X7_32 rfl dX7_visited_59 ?_
        refine vl_VpI (K' := kX5_meetingNodes) (d' := 1) (h := 11) (As := []) (st := []) lk_X7_140 (fun _ => rfl) (by omega) n11 s11 rfl rfl (Nat.le_of_ble_eq_true rfl) rfl (Nat.le_of_ble_eq_true rfl) dX7_visited_62 hE (fun _ h => vx_X5_meetingNodes (vl_G21 hG) (Nat.le_refl _) h) (fun b7 hE => ?_)
        exact vl_ret (r := b7) rfl dX7_visited_65 hE (hP' (b7))
      · rw [if_neg c6] at hE
        refine vl_tabOut (tgt := 66) dX7_visited_1 g1 (by omega) (by decide) ?_
        refine vl_iconst dX7_visited_66 ?_
        exact vl_ret (r := (-1)) rfl dX7_visited_67 hE (hP' (-1))
set_option maxRecDepth 100000 in
set_option maxHeartbeats 4000000 in
theorem vx_X7_window {nc : Nat} {S : vl_Sh} {sc : Nat × (Nat → Int32)} {w : Nat} (hG : vl_G2 nc S w) {d : Nat} (hd : 2 ≤ d) {Post : Int → vl_M → vl_M → Prop} {m ρ : vl_M} {a1 a2 a3 a4 : Int} (hE : vl_ok (fun b : Int × vl_M => Post b.1 b.2 ρ) (fn_X7_window m a1 a2 a3 a4)) : vl_V nc S sc kX7_window d Post 0 [(0, .ref 0), (1, vl_iv a1), (2, vl_iv a2), (3, vl_iv a3), (4, vl_iv a4)] [] m ρ := by
  generalize hP : (fun b : Int × vl_M => Post b.1 b.2 ρ) = P at hE
  have hP' : ∀ b : Int × vl_M, P b → Post b.1 b.2 ρ := fun b h => by rw [← hP] at h; exact h
  clear hP
  have s0 : S 0 = .inr (7, [4, 14, 19, 21, 22, 25]) := hG.2.1 0 (by decide) (by decide)
  have n0 : 0 < nc := Nat.lt_of_lt_of_le (by decide) hG.1
  have s1 : S 1 = .inr (4, [0, 0, 5, 6, 7, 8, 9, 10, 11, 12, 0, 13, 0, 0, 0, 0, 0]) := hG.2.1 1 (by decide) (by decide)
  have n1 : 1 < nc := Nat.lt_of_lt_of_le (by decide) hG.1
  have s18 : S 18 = .inr (6, [4, 14, 0, 0, 0, 0, 0]) := hG.2.1 18 (by decide) (by decide)
  have n18 : 18 < nc := Nat.lt_of_lt_of_le (by decide) hG.1
  unfold fn_X7_window at hE
  refine vl_iload_n 1 rfl dX7_window_0 ?_
  refine vl_iload_n 2 rfl dX7_window_1 ?_
  refine vl_iload_n 3 rfl dX7_window_2 ?_
  refine vl_iload 4 rfl dX7_window_3 ?_
  refine vl_SpI (K' := kX7_isRectangle) (d' := 1) (As := [vl_iv a1, vl_iv a2, vl_iv a3, vl_iv a4]) (st := []) lk_X7_70 (fun _ => rfl) (by omega) rfl (Nat.le_of_ble_eq_true rfl) rfl (Nat.le_of_ble_eq_true rfl) dX7_window_5 hE (fun _ h => vx_X7_isRectangle hG (Nat.le_refl _) h) (fun b1 hE => ?_)
  obtain ⟨g2, hE⟩ := vl_ok_gd hE
  refine vl_if_ne (tgt := 13) dX7_window_8 (by decide) g2  hE (fun c7 hE => ?_) (fun c7 hE => ?_)
  · refine vl_aload_n 0 rfl dX7_window_13 ?_
    refine vl_getR (h := 0) (k0 := 0) (h2 := 1) iu_X7 n0 s0 rfl (by decide) fk_X7_23 rfl dX7_window_14 ?_
    refine vl_sipush (by decide) dX7_window_17 ?_
    refine vl_iconst dX7_window_20 ?_
    refine vl_iload_n 1 rfl dX7_window_21 ?_
    refine vl_iload_n 2 rfl dX7_window_22 ?_
    refine vl_iload_n 3 rfl dX7_window_23 ?_
    refine vl_iload 4 rfl dX7_window_24 ?_
    refine vl_VcWV (K' := kX4_describe) (d' := 0) (h := 1) (As := [vl_iv 804, vl_iv (-1), vl_iv a1, vl_iv a2, vl_iv a3, vl_iv a4]) (st := []) lk_X7_74 (fun _ => rfl) (by omega) n1 s1 rfl rfl (Nat.le_of_ble_eq_true rfl) rfl (Nat.le_of_ble_eq_true rfl) dX7_window_26 hE (fun _ h => vx_X4_describe (vl_G21 hG) (Nat.le_refl _) h) (fun m4 hE => ?_)
    refine vl_aload_n 0 rfl dX7_window_29 ?_
    refine vl_getR (h := 0) (k0 := 3) (h2 := 18) iu_X7 n0 s0 rfl (by decide) fk_X7_48 rfl dX7_window_30 ?_
    refine vl_VcWV (K' := kX6_open) (d' := 0) (h := 18) (As := []) (st := []) lk_X7_102 (fun _ => rfl) (by omega) n18 s18 rfl rfl (Nat.le_of_ble_eq_true rfl) rfl (Nat.le_of_ble_eq_true rfl) dX7_window_33 hE (fun _ h => vx_X6_open hG (Nat.le_refl _) h) (fun m6 hE => ?_)
    refine vl_iconst dX7_window_36 ?_
    exact vl_ret (r := 0) rfl dX7_window_37 hE (hP' (0, m6))
  · refine vl_iconst dX7_window_11 ?_
    exact vl_ret (r := (-1)) rfl dX7_window_12 hE (hP' ((-1), m))
set_option maxRecDepth 100000 in
set_option maxHeartbeats 4000000 in
theorem vx_X7_next {nc : Nat} {S : vl_Sh} {sc : Nat × (Nat → Int32)} {w : Nat} (hG : vl_G2 nc S w) {N : Nat} {d : Nat} (hd : 3 ≤ d) {Post : Int → vl_M → vl_M → Prop} {m ρ : vl_M} (hE : vl_ok (fun b : Int × vl_M => Post b.1 b.2 ρ) (fn_X7_next w N m )) : vl_V nc S sc kX7_next d Post 0 [(0, .ref 0)] [] m ρ := by
  generalize hP : (fun b : Int × vl_M => Post b.1 b.2 ρ) = P at hE
  have hP' : ∀ b : Int × vl_M, P b → Post b.1 b.2 ρ := fun b h => by rw [← hP] at h; exact h
  clear hP
  have s0 : S 0 = .inr (7, [4, 14, 19, 21, 22, 25]) := hG.2.1 0 (by decide) (by decide)
  have n0 : 0 < nc := Nat.lt_of_lt_of_le (by decide) hG.1
  have s1 : S 1 = .inr (4, [0, 0, 5, 6, 7, 8, 9, 10, 11, 12, 0, 13, 0, 0, 0, 0, 0]) := hG.2.1 1 (by decide) (by decide)
  have n1 : 1 < nc := Nat.lt_of_lt_of_le (by decide) hG.1
  have s7 : S 7 = .inl 807 := hG.2.1 7 (by decide) (by decide)
  have n7 : 7 < nc := Nat.lt_of_lt_of_le (by decide) hG.1
  have s18 : S 18 = .inr (6, [4, 14, 0, 0, 0, 0, 0]) := hG.2.1 18 (by decide) (by decide)
  have n18 : 18 < nc := Nat.lt_of_lt_of_le (by decide) hG.1
  unfold fn_X7_next at hE
  refine vl_aload_n 0 rfl dX7_next_0 ?_
  refine vl_getR (h := 0) (k0 := 3) (h2 := 18) iu_X7 n0 s0 rfl (by decide) fk_X7_48 rfl dX7_next_1 ?_
  refine vl_getIc (h := 18) (k0 := 2) (ki := 2) iu_X6 n18 (by decide) s18 rfl (by decide) fk_X7_105 rfl rfl dX7_next_4 ?_
  obtain ⟨g1, hE⟩ := vl_ok_gd hE
  refine vl_if_ne (tgt := 12) dX7_next_7 (by decide) g1  hE (fun c8 hE => ?_) (fun c8 hE => ?_)
  · refine vl_aload_n 0 rfl dX7_next_12 ?_
    refine vl_getR (h := 0) (k0 := 3) (h2 := 18) iu_X7 n0 s0 rfl (by decide) fk_X7_48 rfl dX7_next_13 ?_
    refine vl_VcWI (K' := kX6_goOn) (d' := 2) (h := 18) (As := []) (st := []) lk_X7_109 (fun _ => rfl) (by omega) n18 s18 rfl rfl (Nat.le_of_ble_eq_true rfl) rfl (Nat.le_of_ble_eq_true rfl) dX7_next_16 hE (fun _ h => vx_X6_goOn hG (Nat.le_refl _) h) (fun b2 m3 hE => ?_)
    refine vl_istore_n0 rfl (lv' := [(1, vl_iv b2), (0, .ref 0)]) dX7_next_19 (by decide) rfl ?_
    refine vl_iload_n 0 rfl dX7_next_20 ?_
    refine vl_iconst dX7_next_21 ?_
    obtain ⟨g4, hE⟩ := vl_ok_gd hE
    refine vl_icmp_ne (tgt := 30) dX7_next_22 (by decide) g4 (by decide) hE (fun c7 hE => ?_) (fun c7 hE => ?_)
    · refine vl_aload_n 1 rfl dX7_next_30 ?_
      refine vl_getR (h := 0) (k0 := 0) (h2 := 1) iu_X7 n0 s0 rfl (by decide) fk_X7_23 rfl dX7_next_31 ?_
      refine vl_getR (h := 1) (k0 := 7) (h2 := 7) iu_X4 n1 s1 rfl (by decide) fk_X7_113 rfl dX7_next_34 ?_
      refine vl_iload_n 0 rfl dX7_next_37 ?_
      refine vl_aldc (h := 7) (n := 807) (ni := 807) n7 (by decide) s7 (by decide) rfl dX7_next_38 hE (fun g5 g6 hE => ?_)
      exact vl_ret (r := (m3 7 b2)) rfl dX7_next_39 hE (hP' ((m3 7 b2), m3))
    · refine vl_bipush (by decide) dX7_next_25 ?_
      refine vl_goto (tgt := 39) dX7_next_27 (by decide) ?_
      exact vl_ret (r := (-2)) rfl dX7_next_39 hE (hP' ((-2), m3))
  · refine vl_iconst dX7_next_10 ?_
    exact vl_ret (r := (-1)) rfl dX7_next_11 hE (hP' ((-1), m))
set_option maxRecDepth 100000 in
set_option maxHeartbeats 4000000 in
theorem vx_X7_audit {nc : Nat} {S : vl_Sh} {sc : Nat × (Nat → Int32)} {w : Nat} (hG : vl_G2 nc S w) {N : Nat} {d : Nat} (hd : 5 ≤ d) {Post : Int → vl_M → vl_M → Prop} {m ρ : vl_M} (hE : vl_ok (fun b : Int × vl_M => Post b.1 b.2 ρ) (fn_X7_audit w N m )) : vl_V nc S sc kX7_audit d Post 0 [(0, .ref 0)] [] m ρ := by
  generalize hP : (fun b : Int × vl_M => Post b.1 b.2 ρ) = P at hE
  have hP' : ∀ b : Int × vl_M, P b → Post b.1 b.2 ρ := fun b h => by rw [← hP] at h; exact h
  clear hP
  have s0 : S 0 = .inr (7, [4, 14, 19, 21, 22, 25]) := hG.2.1 0 (by decide) (by decide)
  have n0 : 0 < nc := Nat.lt_of_lt_of_le (by decide) hG.1
  have s22 : S 22 = .inr (0, [4, 14]) := hG.2.1 22 (by decide) (by decide)
  have n22 : 22 < nc := Nat.lt_of_lt_of_le (by decide) hG.1
  unfold fn_X7_audit at hE
  refine vl_aload_n 0 rfl dX7_audit_0 ?_
  refine vl_getR (h := 0) (k0 := 5) (h2 := 22) iu_X7 n0 s0 rfl (by decide) fk_X7_62 rfl dX7_audit_1 ?_
  refine vl_VcWI (K' := kX0_findsAllWell) (d' := 4) (h := 22) (As := []) (st := []) lk_X7_191 (fun _ => rfl) (by omega) n22 s22 rfl rfl (Nat.le_of_ble_eq_true rfl) rfl (Nat.le_of_ble_eq_true rfl) dX7_audit_4 hE (fun _ h => vx_X0_findsAllWell hG (Nat.le_refl _) h) (fun b1 m2 hE => ?_)
  obtain ⟨g3, hE⟩ := vl_ok_gd hE
  exact vl_ret (r := b1) rfl ⟨dX7_audit_7, g3⟩ hE (hP' (b1, m2))
set_option maxRecDepth 100000 in
set_option maxHeartbeats 4000000 in
theorem vx_X7_nearest {nc : Nat} {S : vl_Sh} {sc : Nat × (Nat → Int32)} {w : Nat} (hG : vl_G2 nc S w) {N : Nat} {d : Nat} (hd : 6 ≤ d) {Post : Int → vl_M → vl_M → Prop} {m ρ : vl_M} {a1 a2 a3 : Int} (hE : vl_ok (fun b : Int × vl_M => Post b.1 b.2 ρ) (fn_X7_nearest w N m a1 a2 a3)) : vl_V nc S sc kX7_nearest d Post 0 [(0, .ref 0), (1, vl_iv a1), (2, vl_iv a2), (3, vl_iv a3)] [] m ρ := by
  generalize hP : (fun b : Int × vl_M => Post b.1 b.2 ρ) = P at hE
  have hP' : ∀ b : Int × vl_M, P b → Post b.1 b.2 ρ := fun b h => by rw [← hP] at h; exact h
  clear hP
  have s0 : S 0 = .inr (7, [4, 14, 19, 21, 22, 25]) := hG.2.1 0 (by decide) (by decide)
  have n0 : 0 < nc := Nat.lt_of_lt_of_le (by decide) hG.1
  have s1 : S 1 = .inr (4, [0, 0, 5, 6, 7, 8, 9, 10, 11, 12, 0, 13, 0, 0, 0, 0, 0]) := hG.2.1 1 (by decide) (by decide)
  have n1 : 1 < nc := Nat.lt_of_lt_of_le (by decide) hG.1
  have s7 : S 7 = .inl 807 := hG.2.1 7 (by decide) (by decide)
  have n7 : 7 < nc := Nat.lt_of_lt_of_le (by decide) hG.1
  have s19 : S 19 = .inr (2, [4, 14, 23, 24, 0, 0, 0]) := hG.2.1 19 (by decide) (by decide)
  have n19 : 19 < nc := Nat.lt_of_lt_of_le (by decide) hG.1
  unfold fn_X7_nearest at hE
  refine vl_iload_n 1 rfl dX7_nearest_0 ?_
  refine vl_SpI (K' := kX7_isPlace) (d' := 0) (As := [vl_iv a1]) (st := []) lk_X7_120 (fun _ => rfl) (by omega) rfl (Nat.le_of_ble_eq_true rfl) rfl (Nat.le_of_ble_eq_true rfl) dX7_nearest_1 hE (fun _ h => vx_X7_isPlace hG (Nat.le_refl _) h) (fun b1 hE => ?_)
  obtain ⟨g2, hE⟩ := vl_ok_gd hE
  refine vl_if_eq (tgt := 29) dX7_nearest_4 (by decide) g2  hE (fun c16 hE => ?_) (fun c16 hE => ?_)
  · refine vl_iconst dX7_nearest_29 ?_
    exact vl_ret (r := (-1)) rfl dX7_nearest_30 hE (hP' ((-1), m))
  · refine vl_iload_n 2 rfl dX7_nearest_7 ?_
    refine vl_SpI (K' := kX7_isPlace) (d' := 0) (As := [vl_iv a2]) (st := []) lk_X7_120 (fun _ => rfl) (by omega) rfl (Nat.le_of_ble_eq_true rfl) rfl (Nat.le_of_ble_eq_true rfl) dX7_nearest_8 hE (fun _ h => vx_X7_isPlace hG (Nat.le_refl _) h) (fun b3 hE => ?_)
    obtain ⟨g4, hE⟩ := vl_ok_gd hE
    refine vl_if_eq (tgt := 29) dX7_nearest_11 (by decide) g4  hE (fun c15 hE => ?_) (fun c15 hE => ?_)
    · refine vl_iconst dX7_nearest_29 ?_
      exact vl_ret (r := (-1)) rfl dX7_nearest_30 hE (hP' ((-1), m))
    · refine vl_iload_n 3 rfl dX7_nearest_14 ?_
      obtain ⟨g5, hE⟩ := vl_ok_gd hE
      refine vl_if_lt (tgt := 29) dX7_nearest_15 (by decide) g5  hE (fun c14 hE => ?_) (fun c14 hE => ?_)
      · refine vl_iconst dX7_nearest_29 ?_
        exact vl_ret (r := (-1)) rfl dX7_nearest_30 hE (hP' ((-1), m))
      · refine vl_iload_n 3 rfl dX7_nearest_18 ?_
        refine vl_aload_n 0 rfl dX7_nearest_19 ?_
        refine vl_getR (h := 0) (k0 := 0) (h2 := 1) iu_X7 n0 s0 rfl (by decide) fk_X7_23 rfl dX7_nearest_20 ?_
        refine vl_getIc (h := 1) (k0 := 12) (ki := 12) iu_X4 n1 (by decide) s1 rfl (by decide) fk_X7_82 rfl rfl dX7_nearest_23 ?_
        obtain ⟨g6, hE⟩ := vl_ok_gd hE
        refine vl_icmp_lt (tgt := 31) dX7_nearest_26 (by decide) g5 g6 hE (fun c13 hE => ?_) (fun c13 hE => ?_)
        · refine vl_aload_n 0 rfl dX7_nearest_31 ?_
          refine vl_getR (h := 0) (k0 := 4) (h2 := 19) iu_X7 n0 s0 rfl (by decide) fk_X7_55 rfl dX7_nearest_32 ?_
          refine vl_iload_n 1 rfl dX7_nearest_35 ?_
          refine vl_iload_n 2 rfl dX7_nearest_36 ?_
          refine vl_iload_n 3 rfl dX7_nearest_37 ?_
          refine vl_VcWI (K' := kX2_find) (d' := 5) (h := 19) (As := [vl_iv a1, vl_iv a2, vl_iv a3]) (st := []) lk_X7_123 (fun _ => rfl) (by omega) n19 s19 rfl rfl (Nat.le_of_ble_eq_true rfl) rfl (Nat.le_of_ble_eq_true rfl) dX7_nearest_38 hE (fun _ h => vx_X2_find hG (Nat.le_refl _) h) (fun b7 m8 hE => ?_)
          refine vl_istore0 (lv' := [(4, vl_iv b7), (0, .ref 0), (1, vl_iv a1), (2, vl_iv a2), (3, vl_iv a3)]) dX7_nearest_41 (by decide) rfl ?_
          refine vl_iload 0 rfl dX7_nearest_43 ?_
          refine vl_iconst dX7_nearest_45 ?_
          obtain ⟨g9, hE⟩ := vl_ok_gd hE
          refine vl_icmp_ne (tgt := 53) dX7_nearest_46 (by decide) g9 (by decide) hE (fun c12 hE => ?_) (fun c12 hE => ?_)
          · refine vl_aload_n 1 rfl dX7_nearest_53 ?_
            refine vl_getR (h := 0) (k0 := 0) (h2 := 1) iu_X7 n0 s0 rfl (by decide) fk_X7_23 rfl dX7_nearest_54 ?_
            refine vl_getR (h := 1) (k0 := 7) (h2 := 7) iu_X4 n1 s1 rfl (by decide) fk_X7_113 rfl dX7_nearest_57 ?_
            refine vl_iload 0 rfl dX7_nearest_60 ?_
            refine vl_aldc (h := 7) (n := 807) (ni := 807) n7 (by decide) s7 (by decide) rfl dX7_nearest_62 hE (fun g10 g11 hE => ?_)
            exact vl_ret (r := (m8 7 b7)) rfl dX7_nearest_63 hE (hP' ((m8 7 b7), m8))
          · refine vl_iconst dX7_nearest_49 ?_
            refine vl_goto (tgt := 63) dX7_nearest_50 (by decide) ?_
            exact vl_ret (r := (-1)) rfl dX7_nearest_63 hE (hP' ((-1), m8))
        · refine vl_iconst dX7_nearest_29 ?_
          exact vl_ret (r := (-1)) rfl dX7_nearest_30 hE (hP' ((-1), m))
set_option maxRecDepth 100000 in
set_option maxHeartbeats 4000000 in
theorem vx_X7_insert {nc : Nat} {S : vl_Sh} {sc : Nat × (Nat → Int32)} {w : Nat} (hG : vl_G2 nc S w) {N : Nat} {d : Nat} (hd : 63 ≤ d) {Post : Int → vl_M → vl_M → Prop} {m ρ : vl_M} {a1 a2 a3 a4 a5 : Int} (hE : vl_ok (fun b : Int × vl_M => Post b.1 b.2 ρ) (fn_X7_insert w N m a1 a2 a3 a4 a5)) : vl_V nc S sc kX7_insert d Post 0 [(0, .ref 0), (1, vl_iv a1), (2, vl_iv a2), (3, vl_iv a3), (4, vl_iv a4), (5, vl_iv a5)] [] m ρ := by
  generalize hP : (fun b : Int × vl_M => Post b.1 b.2 ρ) = P at hE
  have hP' : ∀ b : Int × vl_M, P b → Post b.1 b.2 ρ := fun b h => by rw [← hP] at h; exact h
  clear hP
  have s0 : S 0 = .inr (7, [4, 14, 19, 21, 22, 25]) := hG.2.1 0 (by decide) (by decide)
  have n0 : 0 < nc := Nat.lt_of_lt_of_le (by decide) hG.1
  have s1 : S 1 = .inr (4, [0, 0, 5, 6, 7, 8, 9, 10, 11, 12, 0, 13, 0, 0, 0, 0, 0]) := hG.2.1 1 (by decide) (by decide)
  have n1 : 1 < nc := Nat.lt_of_lt_of_le (by decide) hG.1
  have s11 : S 11 = .inr (5, [4, 17, 15, 0, 16, 0, 0, 0, 0, 0]) := hG.2.1 11 (by decide) (by decide)
  have n11 : 11 < nc := Nat.lt_of_lt_of_le (by decide) hG.1
  have s18 : S 18 = .inr (6, [4, 14, 0, 0, 0, 0, 0]) := hG.2.1 18 (by decide) (by decide)
  have n18 : 18 < nc := Nat.lt_of_lt_of_le (by decide) hG.1
  unfold fn_X7_insert at hE
  refine vl_iload_n 1 rfl dX7_insert_0 ?_
  refine vl_SpI (K' := kX7_isId) (d' := 0) (As := [vl_iv a1]) (st := []) lk_X7_66 (fun _ => rfl) (by omega) rfl (Nat.le_of_ble_eq_true rfl) rfl (Nat.le_of_ble_eq_true rfl) dX7_insert_1 hE (fun _ h => vx_X7_isId hG (Nat.le_refl _) h) (fun b1 hE => ?_)
  obtain ⟨g2, hE⟩ := vl_ok_gd hE
  refine vl_if_eq (tgt := 19) dX7_insert_4 (by decide) g2  hE (fun c21 hE => ?_) (fun c21 hE => ?_)
  · refine vl_iconst dX7_insert_19 ?_
    exact vl_ret (r := (-1)) rfl dX7_insert_20 hE (hP' ((-1), m))
  · refine vl_iload_n 2 rfl dX7_insert_7 ?_
    refine vl_iload_n 3 rfl dX7_insert_8 ?_
    refine vl_iload 4 rfl dX7_insert_9 ?_
    refine vl_iload 5 rfl dX7_insert_11 ?_
    refine vl_SpI (K' := kX7_isRectangle) (d' := 1) (As := [vl_iv a2, vl_iv a3, vl_iv a4, vl_iv a5]) (st := []) lk_X7_70 (fun _ => rfl) (by omega) rfl (Nat.le_of_ble_eq_true rfl) rfl (Nat.le_of_ble_eq_true rfl) dX7_insert_13 hE (fun _ h => vx_X7_isRectangle hG (Nat.le_refl _) h) (fun b3 hE => ?_)
    obtain ⟨g4, hE⟩ := vl_ok_gd hE
    refine vl_if_ne (tgt := 21) dX7_insert_16 (by decide) g4  hE (fun c20 hE => ?_) (fun c20 hE => ?_)
    · refine vl_aload_n 0 rfl dX7_insert_21 ?_
      refine vl_getR (h := 0) (k0 := 0) (h2 := 1) iu_X7 n0 s0 rfl (by decide) fk_X7_23 rfl dX7_insert_22 ?_
      refine vl_sipush (by decide) dX7_insert_25 ?_
      refine vl_iload_n 1 rfl dX7_insert_28 ?_
      refine vl_iload_n 2 rfl dX7_insert_29 ?_
      refine vl_iload_n 3 rfl dX7_insert_30 ?_
      refine vl_iload 4 rfl dX7_insert_31 ?_
      refine vl_iload 5 rfl dX7_insert_33 ?_
      refine vl_VcWV (K' := kX4_describe) (d' := 0) (h := 1) (As := [vl_iv 805, vl_iv a1, vl_iv a2, vl_iv a3, vl_iv a4, vl_iv a5]) (st := []) lk_X7_74 (fun _ => rfl) (by omega) n1 s1 rfl rfl (Nat.le_of_ble_eq_true rfl) rfl (Nat.le_of_ble_eq_true rfl) dX7_insert_35 hE (fun _ h => vx_X4_describe (vl_G21 hG) (Nat.le_refl _) h) (fun m6 hE => ?_)
      refine vl_aload_n 0 rfl dX7_insert_38 ?_
      refine vl_getR (h := 0) (k0 := 0) (h2 := 1) iu_X7 n0 s0 rfl (by decide) fk_X7_23 rfl dX7_insert_39 ?_
      refine vl_sipush (by decide) dX7_insert_42 ?_
      refine vl_VpI (K' := kX4_entryLike) (d' := 2) (h := 1) (As := [vl_iv 805]) (st := []) lk_X7_78 (fun _ => rfl) (by omega) n1 s1 rfl rfl (Nat.le_of_ble_eq_true rfl) rfl (Nat.le_of_ble_eq_true rfl) dX7_insert_45 hE (fun _ h => vx_X4_entryLike (vl_G21 hG) (Nat.le_refl _) h) (fun b7 hE => ?_)
      refine vl_iconst dX7_insert_48 ?_
      obtain ⟨g8, hE⟩ := vl_ok_gd hE
      refine vl_icmp_eq (tgt := 55) dX7_insert_49 (by decide) g8 (by decide) hE (fun c19 hE => ?_) (fun c19 hE => ?_)
      · refine vl_aload_n 0 rfl dX7_insert_55 ?_
        refine vl_getR (h := 0) (k0 := 0) (h2 := 1) iu_X7 n0 s0 rfl (by decide) fk_X7_23 rfl dX7_insert_56 ?_
        refine vl_getIc (h := 1) (k0 := 12) (ki := 12) iu_X4 n1 (by decide) s1 rfl (by decide) fk_X7_82 rfl rfl dX7_insert_59 ?_
        refine vl_sipush (by decide) dX7_insert_62 ?_
        obtain ⟨g9, hE⟩ := vl_ok_gd hE
        refine vl_icmp_lt (tgt := 71) dX7_insert_65 (by decide) g9 (by decide) hE (fun c18 hE => ?_) (fun c18 hE => ?_)
        · refine vl_aload_n 0 rfl dX7_insert_71 ?_
          refine vl_getR (h := 0) (k0 := 3) (h2 := 18) iu_X7 n0 s0 rfl (by decide) fk_X7_48 rfl dX7_insert_72 ?_
          refine vl_VcWV (K' := kX6_shut) (d' := 0) (h := 18) (As := []) (st := []) lk_X7_86 (fun _ => rfl) (by omega) n18 s18 rfl rfl (Nat.le_of_ble_eq_true rfl) rfl (Nat.le_of_ble_eq_true rfl) dX7_insert_75 hE (fun _ h => vx_X6_shut hG (Nat.le_refl _) h) (fun m11 hE => ?_)
          refine vl_aload_n 0 rfl dX7_insert_78 ?_
          refine vl_getR (h := 0) (k0 := 1) (h2 := 11) iu_X7 n0 s0 rfl (by decide) fk_X7_32 rfl dX7_insert_79 ?_
          refine vl_aload_n 0 rfl dX7_insert_82 ?_
          refine vl_getR (h := 0) (k0 := 0) (h2 := 1) iu_X7 n0 s0 rfl (by decide) fk_X7_23 rfl dX7_insert_83 ?_
          refine vl_sipush (by decide) dX7_insert_86 ?_
          refine vl_VcWI (K' := kX4_newEntry) (d' := 1) (h := 1) (As := [vl_iv 805]) (st := [.ref 11]) lk_X7_89 (fun _ => rfl) (by omega) n1 s1 rfl rfl (Nat.le_of_ble_eq_true rfl) rfl (Nat.le_of_ble_eq_true rfl) dX7_insert_89 hE (fun _ h => vx_X4_newEntry (vl_G21 hG) (Nat.le_refl _) h) (fun b12 m13 hE => ?_)
          refine vl_VcWV (K' := kX5_put) (d' := 5) (h := 11) (As := [vl_iv b12]) (st := []) lk_X7_92 (fun _ => rfl) (by omega) n11 s11 rfl rfl (Nat.le_of_ble_eq_true rfl) rfl (Nat.le_of_ble_eq_true rfl) dX7_insert_92 hE (fun _ h => vx_X5_put (vl_G21 hG) (Nat.le_refl _) h) (fun m15 hE => ?_)
          refine vl_aload_n 0 rfl dX7_insert_95 ?_
          refine vl_getR (h := 0) (k0 := 1) (h2 := 11) iu_X7 n0 s0 rfl (by decide) fk_X7_32 rfl dX7_insert_96 ?_
          refine vl_VcWV (K' := kX5_renumber) (d' := 62) (h := 11) (As := []) (st := []) lk_X7_96 (fun _ => rfl) (by omega) n11 s11 rfl rfl (Nat.le_of_ble_eq_true rfl) rfl (Nat.le_of_ble_eq_true rfl) dX7_insert_99 hE (fun _ h => vx_X5_renumber (vl_G21 hG) (Nat.le_refl _) h) (fun m17 hE => ?_)
          refine vl_aload_n 0 rfl dX7_insert_102 ?_
          refine vl_getR (h := 0) (k0 := 0) (h2 := 1) iu_X7 n0 s0 rfl (by decide) fk_X7_23 rfl dX7_insert_103 ?_
          refine vl_getIc (h := 1) (k0 := 12) (ki := 12) iu_X4 n1 (by decide) s1 rfl (by decide) fk_X7_82 rfl rfl dX7_insert_106 ?_
          exact vl_ret (r := (m17 1 12)) rfl dX7_insert_109 hE (hP' ((m17 1 12), m17))
        · refine vl_bipush (by decide) dX7_insert_68 ?_
          exact vl_ret (r := (-3)) rfl dX7_insert_70 hE (hP' ((-3), m6))
      · refine vl_bipush (by decide) dX7_insert_52 ?_
        exact vl_ret (r := (-2)) rfl dX7_insert_54 hE (hP' ((-2), m6))
    · refine vl_iconst dX7_insert_19 ?_
      exact vl_ret (r := (-1)) rfl dX7_insert_20 hE (hP' ((-1), m))
set_option maxRecDepth 100000 in
set_option maxHeartbeats 4000000 in
theorem vx_X7_remove {nc : Nat} {S : vl_Sh} {sc : Nat × (Nat → Int32)} {w : Nat} (hG : vl_G2 nc S w) {N : Nat} {d : Nat} (hd : 63 ≤ d) {Post : Int → vl_M → vl_M → Prop} {m ρ : vl_M} {a1 a2 a3 a4 a5 : Int} (hE : vl_ok (fun b : Int × vl_M => Post b.1 b.2 ρ) (fn_X7_remove w N m a1 a2 a3 a4 a5)) : vl_V nc S sc kX7_remove d Post 0 [(0, .ref 0), (1, vl_iv a1), (2, vl_iv a2), (3, vl_iv a3), (4, vl_iv a4), (5, vl_iv a5)] [] m ρ := by
  generalize hP : (fun b : Int × vl_M => Post b.1 b.2 ρ) = P at hE
  have hP' : ∀ b : Int × vl_M, P b → Post b.1 b.2 ρ := fun b h => by rw [← hP] at h; exact h
  clear hP
  have s0 : S 0 = .inr (7, [4, 14, 19, 21, 22, 25]) := hG.2.1 0 (by decide) (by decide)
  have n0 : 0 < nc := Nat.lt_of_lt_of_le (by decide) hG.1
  have s1 : S 1 = .inr (4, [0, 0, 5, 6, 7, 8, 9, 10, 11, 12, 0, 13, 0, 0, 0, 0, 0]) := hG.2.1 1 (by decide) (by decide)
  have n1 : 1 < nc := Nat.lt_of_lt_of_le (by decide) hG.1
  have s11 : S 11 = .inr (5, [4, 17, 15, 0, 16, 0, 0, 0, 0, 0]) := hG.2.1 11 (by decide) (by decide)
  have n11 : 11 < nc := Nat.lt_of_lt_of_le (by decide) hG.1
  have s18 : S 18 = .inr (6, [4, 14, 0, 0, 0, 0, 0]) := hG.2.1 18 (by decide) (by decide)
  have n18 : 18 < nc := Nat.lt_of_lt_of_le (by decide) hG.1
  unfold fn_X7_remove at hE
  refine vl_iload_n 1 rfl dX7_remove_0 ?_
  refine vl_SpI (K' := kX7_isId) (d' := 0) (As := [vl_iv a1]) (st := []) lk_X7_66 (fun _ => rfl) (by omega) rfl (Nat.le_of_ble_eq_true rfl) rfl (Nat.le_of_ble_eq_true rfl) dX7_remove_1 hE (fun _ h => vx_X7_isId hG (Nat.le_refl _) h) (fun b1 hE => ?_)
  obtain ⟨g2, hE⟩ := vl_ok_gd hE
  refine vl_if_eq (tgt := 19) dX7_remove_4 (by decide) g2  hE (fun c17 hE => ?_) (fun c17 hE => ?_)
  · refine vl_iconst dX7_remove_19 ?_
    exact vl_ret (r := (-1)) rfl dX7_remove_20 hE (hP' ((-1), m))
  · refine vl_iload_n 2 rfl dX7_remove_7 ?_
    refine vl_iload_n 3 rfl dX7_remove_8 ?_
    refine vl_iload 4 rfl dX7_remove_9 ?_
    refine vl_iload 5 rfl dX7_remove_11 ?_
    refine vl_SpI (K' := kX7_isRectangle) (d' := 1) (As := [vl_iv a2, vl_iv a3, vl_iv a4, vl_iv a5]) (st := []) lk_X7_70 (fun _ => rfl) (by omega) rfl (Nat.le_of_ble_eq_true rfl) rfl (Nat.le_of_ble_eq_true rfl) dX7_remove_13 hE (fun _ h => vx_X7_isRectangle hG (Nat.le_refl _) h) (fun b3 hE => ?_)
    obtain ⟨g4, hE⟩ := vl_ok_gd hE
    refine vl_if_ne (tgt := 21) dX7_remove_16 (by decide) g4  hE (fun c16 hE => ?_) (fun c16 hE => ?_)
    · refine vl_aload_n 0 rfl dX7_remove_21 ?_
      refine vl_getR (h := 0) (k0 := 0) (h2 := 1) iu_X7 n0 s0 rfl (by decide) fk_X7_23 rfl dX7_remove_22 ?_
      refine vl_sipush (by decide) dX7_remove_25 ?_
      refine vl_iload_n 1 rfl dX7_remove_28 ?_
      refine vl_iload_n 2 rfl dX7_remove_29 ?_
      refine vl_iload_n 3 rfl dX7_remove_30 ?_
      refine vl_iload 4 rfl dX7_remove_31 ?_
      refine vl_iload 5 rfl dX7_remove_33 ?_
      refine vl_VcWV (K' := kX4_describe) (d' := 0) (h := 1) (As := [vl_iv 805, vl_iv a1, vl_iv a2, vl_iv a3, vl_iv a4, vl_iv a5]) (st := []) lk_X7_74 (fun _ => rfl) (by omega) n1 s1 rfl rfl (Nat.le_of_ble_eq_true rfl) rfl (Nat.le_of_ble_eq_true rfl) dX7_remove_35 hE (fun _ h => vx_X4_describe (vl_G21 hG) (Nat.le_refl _) h) (fun m6 hE => ?_)
      refine vl_aload_n 0 rfl dX7_remove_38 ?_
      refine vl_getR (h := 0) (k0 := 0) (h2 := 1) iu_X7 n0 s0 rfl (by decide) fk_X7_23 rfl dX7_remove_39 ?_
      refine vl_sipush (by decide) dX7_remove_42 ?_
      refine vl_VpI (K' := kX4_entryLike) (d' := 2) (h := 1) (As := [vl_iv 805]) (st := []) lk_X7_78 (fun _ => rfl) (by omega) n1 s1 rfl rfl (Nat.le_of_ble_eq_true rfl) rfl (Nat.le_of_ble_eq_true rfl) dX7_remove_45 hE (fun _ h => vx_X4_entryLike (vl_G21 hG) (Nat.le_refl _) h) (fun b7 hE => ?_)
      refine vl_istore0 (lv' := [(6, vl_iv b7), (0, .ref 0), (1, vl_iv a1), (2, vl_iv a2), (3, vl_iv a3), (4, vl_iv a4), (5, vl_iv a5)]) dX7_remove_48 (by decide) rfl ?_
      refine vl_iload 0 rfl dX7_remove_50 ?_
      refine vl_iconst dX7_remove_52 ?_
      obtain ⟨g8, hE⟩ := vl_ok_gd hE
      refine vl_icmp_ne (tgt := 59) dX7_remove_53 (by decide) g8 (by decide) hE (fun c15 hE => ?_) (fun c15 hE => ?_)
      · refine vl_aload_n 1 rfl dX7_remove_59 ?_
        refine vl_getR (h := 0) (k0 := 3) (h2 := 18) iu_X7 n0 s0 rfl (by decide) fk_X7_48 rfl dX7_remove_60 ?_
        refine vl_VcWV (K' := kX6_shut) (d' := 0) (h := 18) (As := []) (st := []) lk_X7_86 (fun _ => rfl) (by omega) n18 s18 rfl rfl (Nat.le_of_ble_eq_true rfl) rfl (Nat.le_of_ble_eq_true rfl) dX7_remove_63 hE (fun _ h => vx_X6_shut hG (Nat.le_refl _) h) (fun m10 hE => ?_)
        refine vl_aload_n 1 rfl dX7_remove_66 ?_
        refine vl_getR (h := 0) (k0 := 1) (h2 := 11) iu_X7 n0 s0 rfl (by decide) fk_X7_32 rfl dX7_remove_67 ?_
        refine vl_iload 0 rfl dX7_remove_70 ?_
        refine vl_VcWV (K' := kX5_take) (d' := 6) (h := 11) (As := [vl_iv b7]) (st := []) lk_X7_99 (fun _ => rfl) (by omega) n11 s11 rfl rfl (Nat.le_of_ble_eq_true rfl) rfl (Nat.le_of_ble_eq_true rfl) dX7_remove_72 hE (fun _ h => vx_X5_take (vl_G21 hG) (Nat.le_refl _) h) (fun m12 hE => ?_)
        refine vl_aload_n 1 rfl dX7_remove_75 ?_
        refine vl_getR (h := 0) (k0 := 1) (h2 := 11) iu_X7 n0 s0 rfl (by decide) fk_X7_32 rfl dX7_remove_76 ?_
        refine vl_VcWV (K' := kX5_renumber) (d' := 62) (h := 11) (As := []) (st := []) lk_X7_96 (fun _ => rfl) (by omega) n11 s11 rfl rfl (Nat.le_of_ble_eq_true rfl) rfl (Nat.le_of_ble_eq_true rfl) dX7_remove_79 hE (fun _ h => vx_X5_renumber (vl_G21 hG) (Nat.le_refl _) h) (fun m14 hE => ?_)
        refine vl_aload_n 1 rfl dX7_remove_82 ?_
        refine vl_getR (h := 0) (k0 := 0) (h2 := 1) iu_X7 n0 s0 rfl (by decide) fk_X7_23 rfl dX7_remove_83 ?_
        refine vl_getIc (h := 1) (k0 := 12) (ki := 12) iu_X4 n1 (by decide) s1 rfl (by decide) fk_X7_82 rfl rfl dX7_remove_86 ?_
        exact vl_ret (r := (m14 1 12)) rfl dX7_remove_89 hE (hP' ((m14 1 12), m14))
      · refine vl_bipush (by decide) dX7_remove_56 ?_
        exact vl_ret (r := (-2)) rfl dX7_remove_58 hE (hP' ((-2), m6))
    · refine vl_iconst dX7_remove_19 ?_
      exact vl_ret (r := (-1)) rfl dX7_remove_20 hE (hP' ((-1), m))
set_option maxRecDepth 100000 in
set_option maxHeartbeats 4000000 in
theorem vx_X7_clear {nc : Nat} {S : vl_Sh} {sc : Nat × (Nat → Int32)} {w : Nat} (hG : vl_G2 nc S w) {N : Nat} {d : Nat} (hd : 64 ≤ d) {Post : Int → vl_M → vl_M → Prop} {m ρ : vl_M} (hE : vl_ok (fun b : Int × vl_M => Post b.1 b.2 ρ) (fn_X7_clear w N m )) : vl_V nc S sc kX7_clear d Post 0 [(0, .ref 0)] [] m ρ := by
  generalize hP : (fun b : Int × vl_M => Post b.1 b.2 ρ) = P at hE
  have hP' : ∀ b : Int × vl_M, P b → Post b.1 b.2 ρ := fun b h => by rw [← hP] at h; exact h
  clear hP
  have s0 : S 0 = .inr (7, [4, 14, 19, 21, 22, 25]) := hG.2.1 0 (by decide) (by decide)
  have n0 : 0 < nc := Nat.lt_of_lt_of_le (by decide) hG.1
  have s1 : S 1 = .inr (4, [0, 0, 5, 6, 7, 8, 9, 10, 11, 12, 0, 13, 0, 0, 0, 0, 0]) := hG.2.1 1 (by decide) (by decide)
  have n1 : 1 < nc := Nat.lt_of_lt_of_le (by decide) hG.1
  have s11 : S 11 = .inr (5, [4, 17, 15, 0, 16, 0, 0, 0, 0, 0]) := hG.2.1 11 (by decide) (by decide)
  have n11 : 11 < nc := Nat.lt_of_lt_of_le (by decide) hG.1
  have s18 : S 18 = .inr (6, [4, 14, 0, 0, 0, 0, 0]) := hG.2.1 18 (by decide) (by decide)
  have n18 : 18 < nc := Nat.lt_of_lt_of_le (by decide) hG.1
  unfold fn_X7_clear at hE
  refine vl_aload_n 0 rfl dX7_clear_0 ?_
  refine vl_getR (h := 0) (k0 := 0) (h2 := 1) iu_X7 n0 s0 rfl (by decide) fk_X7_23 rfl dX7_clear_1 ?_
  refine vl_getIc (h := 1) (k0 := 12) (ki := 12) iu_X4 n1 (by decide) s1 rfl (by decide) fk_X7_82 rfl rfl dX7_clear_4 ?_
  refine vl_istore_n rfl (fun v1 => [(1, vl_iv v1), (0, .ref 0)]) dX7_clear_7 (by decide) (fun _ => rfl) hE (fun v1 hE => ?_)
  refine vl_aload_n 1 rfl dX7_clear_8 ?_
  refine vl_getR (h := 0) (k0 := 3) (h2 := 18) iu_X7 n0 s0 rfl (by decide) fk_X7_48 rfl dX7_clear_9 ?_
  refine vl_VcWV (K' := kX6_shut) (d' := 0) (h := 18) (As := []) (st := []) lk_X7_86 (fun _ => rfl) (by omega) n18 s18 rfl rfl (Nat.le_of_ble_eq_true rfl) rfl (Nat.le_of_ble_eq_true rfl) dX7_clear_12 hE (fun _ h => vx_X6_shut hG (Nat.le_refl _) h) (fun m3 hE => ?_)
  refine vl_aload_n 1 rfl dX7_clear_15 ?_
  refine vl_getR (h := 0) (k0 := 0) (h2 := 1) iu_X7 n0 s0 rfl (by decide) fk_X7_23 rfl dX7_clear_16 ?_
  refine vl_VcWV (K' := kX4_forgetEntries) (d' := 0) (h := 1) (As := []) (st := []) lk_X7_149 (fun _ => rfl) (by omega) n1 s1 rfl rfl (Nat.le_of_ble_eq_true rfl) rfl (Nat.le_of_ble_eq_true rfl) dX7_clear_19 hE (fun _ h => vx_X4_forgetEntries (vl_G21 hG) (Nat.le_refl _) h) (fun m5 hE => ?_)
  refine vl_aload_n 1 rfl dX7_clear_22 ?_
  refine vl_getR (h := 0) (k0 := 1) (h2 := 11) iu_X7 n0 s0 rfl (by decide) fk_X7_32 rfl dX7_clear_23 ?_
  refine vl_VcWV (K' := kX5_startEmpty) (d' := 63) (h := 11) (As := []) (st := []) lk_X7_152 (fun _ => rfl) (by omega) n11 s11 rfl rfl (Nat.le_of_ble_eq_true rfl) rfl (Nat.le_of_ble_eq_true rfl) dX7_clear_26 hE (fun _ h => vx_X5_startEmpty (vl_G21 hG) (Nat.le_refl _) h) (fun m7 hE => ?_)
  refine vl_iload_n 0 rfl dX7_clear_29 ?_
  exact vl_ret (r := v1) rfl dX7_clear_30 hE (hP' (v1, m7))
set_option maxRecDepth 100000 in
set_option maxHeartbeats 4000000 in
theorem vx_X7_pack {nc : Nat} {S : vl_Sh} {sc : Nat × (Nat → Int32)} {w : Nat} (hG : vl_G2 nc S w) {N : Nat} {d : Nat} (hd : 65 ≤ d) {Post : Int → vl_M → vl_M → Prop} {m ρ : vl_M} (hE : vl_ok (fun b : Int × vl_M => Post b.1 b.2 ρ) (fn_X7_pack w N m )) : vl_V nc S sc kX7_pack d Post 0 [(0, .ref 0)] [] m ρ := by
  generalize hP : (fun b : Int × vl_M => Post b.1 b.2 ρ) = P at hE
  have hP' : ∀ b : Int × vl_M, P b → Post b.1 b.2 ρ := fun b h => by rw [← hP] at h; exact h
  clear hP
  have s0 : S 0 = .inr (7, [4, 14, 19, 21, 22, 25]) := hG.2.1 0 (by decide) (by decide)
  have n0 : 0 < nc := Nat.lt_of_lt_of_le (by decide) hG.1
  have s11 : S 11 = .inr (5, [4, 17, 15, 0, 16, 0, 0, 0, 0, 0]) := hG.2.1 11 (by decide) (by decide)
  have n11 : 11 < nc := Nat.lt_of_lt_of_le (by decide) hG.1
  have s16 : S 16 = .inr (1, [4, 14, 20, 0]) := hG.2.1 16 (by decide) (by decide)
  have n16 : 16 < nc := Nat.lt_of_lt_of_le (by decide) hG.1
  have s18 : S 18 = .inr (6, [4, 14, 0, 0, 0, 0, 0]) := hG.2.1 18 (by decide) (by decide)
  have n18 : 18 < nc := Nat.lt_of_lt_of_le (by decide) hG.1
  unfold fn_X7_pack at hE
  refine vl_aload_n 0 rfl dX7_pack_0 ?_
  refine vl_getR (h := 0) (k0 := 3) (h2 := 18) iu_X7 n0 s0 rfl (by decide) fk_X7_48 rfl dX7_pack_1 ?_
  refine vl_VcWV (K' := kX6_shut) (d' := 0) (h := 18) (As := []) (st := []) lk_X7_86 (fun _ => rfl) (by omega) n18 s18 rfl rfl (Nat.le_of_ble_eq_true rfl) rfl (Nat.le_of_ble_eq_true rfl) dX7_pack_4 hE (fun _ h => vx_X6_shut hG (Nat.le_refl _) h) (fun m2 hE => ?_)
  refine vl_aload_n 0 rfl dX7_pack_7 ?_
  refine vl_getR (h := 0) (k0 := 2) (h2 := 16) iu_X7 n0 s0 rfl (by decide) fk_X7_41 rfl dX7_pack_8 ?_
  refine vl_VcWV (K' := kX1_buildAnew) (d' := 64) (h := 16) (As := []) (st := []) lk_X7_143 (fun _ => rfl) (by omega) n16 s16 rfl rfl (Nat.le_of_ble_eq_true rfl) rfl (Nat.le_of_ble_eq_true rfl) dX7_pack_11 hE (fun _ h => vx_X1_buildAnew hG (Nat.le_refl _) h) (fun m4 hE => ?_)
  refine vl_aload_n 0 rfl dX7_pack_14 ?_
  refine vl_getR (h := 0) (k0 := 1) (h2 := 11) iu_X7 n0 s0 rfl (by decide) fk_X7_32 rfl dX7_pack_15 ?_
  refine vl_VcWV (K' := kX5_renumber) (d' := 62) (h := 11) (As := []) (st := []) lk_X7_96 (fun _ => rfl) (by omega) n11 s11 rfl rfl (Nat.le_of_ble_eq_true rfl) rfl (Nat.le_of_ble_eq_true rfl) dX7_pack_18 hE (fun _ h => vx_X5_renumber (vl_G21 hG) (Nat.le_refl _) h) (fun m6 hE => ?_)
  refine vl_aload_n 0 rfl dX7_pack_21 ?_
  refine vl_getR (h := 0) (k0 := 1) (h2 := 11) iu_X7 n0 s0 rfl (by decide) fk_X7_32 rfl dX7_pack_22 ?_
  refine vl_getIc (h := 11) (k0 := 5) (ki := 5) iu_X5 n11 (by decide) s11 rfl (by decide) fk_X7_146 rfl rfl dX7_pack_25 ?_
  exact vl_ret (r := (m6 11 5)) rfl dX7_pack_28 hE (hP' ((m6 11 5), m6))
