set_option maxRecDepth 100000 in
set_option maxHeartbeats 4000000 in
theorem vx_X8_area {nc : Nat} {S : vl_Sh} {sc : Nat × (Nat → Int32)} (hG : vl_G3 nc S) {d : Nat} (hd : 0 ≤ d) {Post : Int → vl_M → vl_M → Prop} {μ m : vl_M} {a0 a1 a2 a3 : Int} (hE : vl_ok (fun r : Int => Post r μ m) (fn_X8_area  a0 a1 a2 a3)) : vl_V nc S sc kX8_area d Post 0 [(0, vl_iv a0), (1, vl_iv a1), (2, vl_iv a2), (3, vl_iv a3)] [] μ m := by
  generalize hP : (fun r : Int => Post r μ m) = P at hE
  have hP' : ∀ r : Int, P r → Post r μ m := fun b h => by rw [← hP] at h; exact h
  clear hP
  unfold fn_X8_area at hE
  refine vl_iload_n 2 rfl dX8_area_0 ?_
  refine vl_iload_n 0 rfl dX8_area_1 ?_
  refine vl_isub dX8_area_2 ?_
  obtain ⟨g1, hE⟩ := vl_ok_gd hE
  refine vl_i2l g1 dX8_area_3 ?_
  refine vl_lconst (x := 1) rfl dX8_area_4 ?_
  refine vl_ladd dX8_area_5 ?_
  refine vl_iload_n 3 rfl dX8_area_6 ?_
  refine vl_iload_n 1 rfl dX8_area_7 ?_
  refine vl_isub dX8_area_8 ?_
  obtain ⟨g2, hE⟩ := vl_ok_gd hE
  refine vl_i2l g2 dX8_area_9 ?_
  refine vl_lconst (x := 1) rfl dX8_area_10 ?_
  refine vl_ladd dX8_area_11 ?_
  refine vl_lmul dX8_area_12 ?_
  exact vl_ret (r := (((a2 - a0) + 1) * ((a3 - a1) + 1))) rfl dX8_area_13 hE (hP' (((a2 - a0) + 1) * ((a3 - a1) + 1)))
set_option maxRecDepth 100000 in
set_option maxHeartbeats 4000000 in
theorem vx_X8_distance {nc : Nat} {S : vl_Sh} {sc : Nat × (Nat → Int32)} (hG : vl_G3 nc S) {d : Nat} (hd : 0 ≤ d) {Post : Int → vl_M → vl_M → Prop} {μ m : vl_M} (hE : vl_ok (fun r : Int => Post r μ m) (fn_X8_distance m )) : vl_V nc S sc kX8_distance d Post 0 [(0, .ref 23)] [] μ m := by
  generalize hP : (fun r : Int => Post r μ m) = P at hE
  have hP' : ∀ r : Int, P r → Post r μ m := fun b h => by rw [← hP] at h; exact h
  clear hP
  have s23 : S 23 = .inr (8, [0, 0, 0, 27, 28, 0, 29, 30, 31, 32, 33, 0, 0, 0, 0, 34, 35, 0, 36, 0, 0, 37, 38, 39, 0, 0, 0, 0, 0, 1, 40, 41, 42, 43, 44, 45, 46, 0, 47, 48, 49]) := hG.2 23 (by decide) (by decide)
  have n23 : 23 < nc := Nat.lt_of_lt_of_le (by decide) hG.1
  unfold fn_X8_distance at hE
  refine vl_aload_n 0 rfl dX8_distance_0 ?_
  refine vl_getIr (h := 23) (k0 := 28) (ki := 28) iu_X8 n23 (by decide) s23 rfl (by decide) fk_X8_247 rfl rfl dX8_distance_1 ?_
  obtain ⟨g1, hE⟩ := vl_ok_gd hE
  refine vl_if_eq (tgt := 15) dX8_distance_4 (by decide) g1  hE (fun c2 hE => ?_) (fun c2 hE => ?_)
  · refine vl_iconst dX8_distance_15 ?_
    exact vl_ret (r := (-1)) rfl dX8_distance_16 hE (hP' (-1))
  · refine vl_aload_n 0 rfl dX8_distance_7 ?_
    refine vl_getJr (h := 23) (k0 := 29) (ki := 29) iu_X8 n23 (by decide) s23 rfl (by decide) fk_X8_250 rfl rfl dX8_distance_8 ?_
    refine vl_l2i dX8_distance_11 ?_
    refine vl_goto (tgt := 16) dX8_distance_12 (by decide) ?_
    exact vl_ret (r := (m 23 29)) rfl dX8_distance_16 hE (hP' (m 23 29))
set_option maxRecDepth 100000 in
set_option maxHeartbeats 4000000 in
theorem vx_X8_enter {nc : Nat} {S : vl_Sh} {sc : Nat × (Nat → Int32)} (hG : vl_G3 nc S) {d : Nat} (hd : 0 ≤ d) {Post : Int → vl_M → vl_M → Prop} {μ m : vl_M} {a1 : Int} (hE : vl_ok (fun b : vl_M => Post 0 μ b) (fn_X8_enter m a1)) : vl_V nc S sc kX8_enter d Post 0 [(0, .ref 23), (1, vl_iv a1)] [] μ m := by
  generalize hP : (fun b : vl_M => Post 0 μ b) = P at hE
  have hP' : ∀ b : vl_M, P b → Post 0 μ b := fun b h => by rw [← hP] at h; exact h
  clear hP
  have s23 : S 23 = .inr (8, [0, 0, 0, 27, 28, 0, 29, 30, 31, 32, 33, 0, 0, 0, 0, 34, 35, 0, 36, 0, 0, 37, 38, 39, 0, 0, 0, 0, 0, 1, 40, 41, 42, 43, 44, 45, 46, 0, 47, 48, 49]) := hG.2 23 (by decide) (by decide)
  have n23 : 23 < nc := Nat.lt_of_lt_of_le (by decide) hG.1
  have s35 : S 35 = .inl 40 := hG.2 35 (by decide) (by decide)
  have n35 : 35 < nc := Nat.lt_of_lt_of_le (by decide) hG.1
  have s36 : S 36 = .inl 40 := hG.2 36 (by decide) (by decide)
  have n36 : 36 < nc := Nat.lt_of_lt_of_le (by decide) hG.1
  unfold fn_X8_enter at hE
  refine vl_aload_n 0 rfl dX8_enter_0 ?_
  refine vl_getR (h := 23) (k0 := 22) (h2 := 35) iu_X8 n23 s23 rfl (by decide) fk_X8_47 rfl dX8_enter_1 ?_
  refine vl_aload_n 0 rfl dX8_enter_4 ?_
  refine vl_getIr (h := 23) (k0 := 24) (ki := 24) iu_X8 n23 (by decide) s23 rfl (by decide) fk_X8_209 rfl rfl dX8_enter_5 ?_
  refine vl_iload_n 1 rfl dX8_enter_8 ?_
  refine vl_astr (h := 35) (n := 40) (ni := 40) n35 (by decide) s35 (by decide) rfl dX8_enter_9 hE (fun g2 g3 m1 hE => ?_)
  refine vl_aload_n 0 rfl dX8_enter_10 ?_
  refine vl_getR (h := 23) (k0 := 23) (h2 := 36) iu_X8 n23 s23 rfl (by decide) fk_X8_50 rfl dX8_enter_11 ?_
  refine vl_aload_n 0 rfl dX8_enter_14 ?_
  refine vl_getIr (h := 23) (k0 := 24) (ki := 24) iu_X8 n23 (by decide) s23 rfl (by decide) fk_X8_209 rfl rfl dX8_enter_15 ?_
  refine vl_iconst dX8_enter_18 ?_
  refine vl_astr (h := 36) (n := 40) (ni := 40) n36 (by decide) s36 (by decide) rfl dX8_enter_19 hE (fun g5 g6 m4 hE => ?_)
  refine vl_aload_n 0 rfl dX8_enter_20 ?_
  refine vl_dup rfl dX8_enter_21 ?_
  refine vl_getIr (h := 23) (k0 := 24) (ki := 24) iu_X8 n23 (by decide) s23 rfl (by decide) fk_X8_209 rfl rfl dX8_enter_22 ?_
  refine vl_iconst dX8_enter_25 ?_
  refine vl_iadd dX8_enter_26 ?_
  refine vl_putIr (h := 23) (k0 := 24) (ki := 24) iu_X8 tyX8_ok nmX8 n23 (by decide) s23 rfl (by decide) fk_X8_209 rfl rfl rfl (vl_nI _) dX8_enter_27 hE (fun m7 hE => ?_)
  refine vl_aload_n 0 rfl dX8_enter_30 ?_
  refine vl_dup rfl dX8_enter_31 ?_
  refine vl_getIr (h := 23) (k0 := 26) (ki := 26) iu_X8 n23 (by decide) s23 rfl (by decide) fk_X8_212 rfl rfl dX8_enter_32 ?_
  refine vl_iconst dX8_enter_35 ?_
  refine vl_iadd dX8_enter_36 ?_
  refine vl_putIr (h := 23) (k0 := 26) (ki := 26) iu_X8 tyX8_ok nmX8 n23 (by decide) s23 rfl (by decide) fk_X8_212 rfl rfl rfl (vl_nI _) dX8_enter_37 hE (fun m8 hE => ?_)
  exact vl_ret (r := 0) rfl dX8_enter_40 hE (hP' m8)
set_option maxRecDepth 100000 in
set_option maxHeartbeats 4000000 in
theorem vx_X8_find {nc : Nat} {S : vl_Sh} {sc : Nat × (Nat → Int32)} (hG : vl_G3 nc S) {N : Nat} {d : Nat} (hd : 0 ≤ d) {Post : Int → vl_M → vl_M → Prop} {μ m : vl_M} {a1 a2 a3 a4 a5 : Int} (hE : vl_ok (fun r : Int => Post r μ m) (fn_X8_find N m a1 a2 a3 a4 a5)) : vl_V nc S sc kX8_find d Post 0 [(0, .ref 23), (1, vl_iv a1), (2, vl_iv a2), (3, vl_iv a3), (4, vl_iv a4), (5, vl_iv a5)] [] μ m := by
  generalize hP : (fun r : Int => Post r μ m) = P at hE
  have hP' : ∀ r : Int, P r → Post r μ m := fun b h => by rw [← hP] at h; exact h
  clear hP
  have s23 : S 23 = .inr (8, [0, 0, 0, 27, 28, 0, 29, 30, 31, 32, 33, 0, 0, 0, 0, 34, 35, 0, 36, 0, 0, 37, 38, 39, 0, 0, 0, 0, 0, 1, 40, 41, 42, 43, 44, 45, 46, 0, 47, 48, 49]) := hG.2 23 (by decide) (by decide)
  have n23 : 23 < nc := Nat.lt_of_lt_of_le (by decide) hG.1
  have s24 : S 24 = .inl 401 := hG.2 24 (by decide) (by decide)
  have n24 : 24 < nc := Nat.lt_of_lt_of_le (by decide) hG.1
  have s25 : S 25 = .inl 1604 := hG.2 25 (by decide) (by decide)
  have n25 : 25 < nc := Nat.lt_of_lt_of_le (by decide) hG.1
  unfold fn_X8_find at hE
  refine vl_iconst dX8_find_0 ?_
  refine vl_istore0 (lv' := [(6, vl_iv 0), (0, .ref 23), (1, vl_iv a1), (2, vl_iv a2), (3, vl_iv a3), (4, vl_iv a4), (5, vl_iv a5)]) dX8_find_1 (by decide) rfl ?_
  refine vl_lpr (F := fun κ : Int → Option (Int) => fn_X8_find_L3 N m a1 a2 a3 a4 a5 κ N 0) (J := fun κ => ∀ (v2 : Int), vl_ok P (κ v2) → vl_V nc S sc kX8_find d Post 91 [] [] μ m) ?_ hE (fun κ hκL31 hE => ?_)
  · intro v2 hE
    refine vl_bipush (by decide) dX8_find_91 ?_
    exact vl_ret (r := (-2)) rfl dX8_find_93 hE (hP' (-2))
  have hL3_ : ∀ (n : Nat) (v1 : Int), vl_ok P (fn_X8_find_L3 N m a1 a2 a3 a4 a5 κ n v1) → vl_V nc S sc kX8_find d Post 3 [(0, .ref 23), (1, vl_iv a1), (2, vl_iv a2), (3, vl_iv a3), (4, vl_iv a4), (5, vl_iv a5), (6, vl_iv v1)] [] μ m := by
    intro n
    induction n with
    | zero => intro v1 hE; exact vl_no hE
    | succ n ih3_ =>
      intro v1 hE
      rw [fn_X8_find_L3] at hE
      refine vl_iload 6 rfl dX8_find_3 ?_
      refine vl_sipush (by decide) dX8_find_5 ?_
      obtain ⟨g3, hE⟩ := vl_ok_gd hE
      refine vl_icmp_ge (tgt := 91) dX8_find_8 (by decide) g3 (by decide) hE (fun c34 hE => ?_) (fun c34 hE => ?_)
      · exact vl_wk [] rfl (hκL31 v1 hE)
      · refine vl_aload_n 0 rfl dX8_find_11 ?_
        refine vl_getR (h := 23) (k0 := 3) (h2 := 24) iu_X8 n23 s23 rfl (by decide) fk_X8_13 rfl dX8_find_12 ?_
        refine vl_iload 6 rfl dX8_find_15 ?_
        refine vl_aldr (h := 24) (n := 401) (ni := 401) n24 (by decide) s24 (by decide) rfl dX8_find_17 hE (fun g4 g5 hE => ?_)
        refine vl_iload_n 1 rfl dX8_find_18 ?_
        obtain ⟨g6, hE⟩ := vl_ok_gd hE
        obtain ⟨g7, hE⟩ := vl_ok_gd hE
        refine vl_icmp_ne (tgt := 85) dX8_find_19 (by decide) g6 g7 hE (fun c33 hE => ?_) (fun c33 hE => ?_)
        · refine vl_iinc 6 (fun v8 => [(6, vl_iv v8), (0, .ref 23), (1, vl_iv a1), (2, vl_iv a2), (3, vl_iv a3), (4, vl_iv a4), (5, vl_iv a5)]) dX8_find_85 rfl (by decide) (fun _ => rfl) hE (fun v8 hE => ?_)
          refine vl_goto (tgt := 3) dX8_find_88 (by decide) ?_
          exact vl_wk [1, 2, 3, 4, 5, 6, 0] rfl (ih3_ v8 hE)
        · refine vl_aload_n 0 rfl dX8_find_22 ?_
          refine vl_getR (h := 23) (k0 := 4) (h2 := 25) iu_X8 n23 s23 rfl (by decide) fk_X8_17 rfl dX8_find_23 ?_
          refine vl_iconst dX8_find_26 ?_
          refine vl_iload 6 rfl dX8_find_27 ?_
          refine vl_imul dX8_find_29 ?_
          refine vl_aldr (h := 25) (n := 1604) (ni := 1604) n25 (by decide) s25 (by decide) rfl dX8_find_30 hE (fun g9 g10 hE => ?_)
          refine vl_iload_n 2 rfl dX8_find_31 ?_
          obtain ⟨g11, hE⟩ := vl_ok_gd hE
          obtain ⟨g12, hE⟩ := vl_ok_gd hE
          refine vl_icmp_ne (tgt := 85) dX8_find_32 (by decide) g11 g12 hE (fun c32 hE => ?_) (fun c32 hE => ?_)
          · refine vl_iinc 6 (fun v13 => [(6, vl_iv v13), (0, .ref 23), (1, vl_iv a1), (2, vl_iv a2), (3, vl_iv a3), (4, vl_iv a4), (5, vl_iv a5)]) dX8_find_85 rfl (by decide) (fun _ => rfl) hE (fun v13 hE => ?_)
            refine vl_goto (tgt := 3) dX8_find_88 (by decide) ?_
            exact vl_wk [1, 2, 3, 4, 5, 6, 0] rfl (ih3_ v13 hE)
          · refine vl_aload_n 0 rfl dX8_find_35 ?_
            refine vl_getR (h := 23) (k0 := 4) (h2 := 25) iu_X8 n23 s23 rfl (by decide) fk_X8_17 rfl dX8_find_36 ?_
            refine vl_iconst dX8_find_39 ?_
            refine vl_iload 6 rfl dX8_find_40 ?_
            refine vl_imul dX8_find_42 ?_
            refine vl_iconst dX8_find_43 ?_
            refine vl_iadd dX8_find_44 ?_
            refine vl_aldr (h := 25) (n := 1604) (ni := 1604) n25 (by decide) s25 (by decide) rfl dX8_find_45 hE (fun g14 g15 hE => ?_)
            refine vl_iload_n 3 rfl dX8_find_46 ?_
            obtain ⟨g16, hE⟩ := vl_ok_gd hE
            obtain ⟨g17, hE⟩ := vl_ok_gd hE
            refine vl_icmp_ne (tgt := 85) dX8_find_47 (by decide) g16 g17 hE (fun c31 hE => ?_) (fun c31 hE => ?_)
            · refine vl_iinc 6 (fun v18 => [(6, vl_iv v18), (0, .ref 23), (1, vl_iv a1), (2, vl_iv a2), (3, vl_iv a3), (4, vl_iv a4), (5, vl_iv a5)]) dX8_find_85 rfl (by decide) (fun _ => rfl) hE (fun v18 hE => ?_)
              refine vl_goto (tgt := 3) dX8_find_88 (by decide) ?_
              exact vl_wk [1, 2, 3, 4, 5, 6, 0] rfl (ih3_ v18 hE)
            · refine vl_aload_n 0 rfl dX8_find_50 ?_
              refine vl_getR (h := 23) (k0 := 4) (h2 := 25) iu_X8 n23 s23 rfl (by decide) fk_X8_17 rfl dX8_find_51 ?_
              refine vl_iconst dX8_find_54 ?_
              refine vl_iload 6 rfl dX8_find_55 ?_
              refine vl_imul dX8_find_57 ?_
              refine vl_iconst dX8_find_58 ?_
              refine vl_iadd dX8_find_59 ?_
              refine vl_aldr (h := 25) (n := 1604) (ni := 1604) n25 (by decide) s25 (by decide) rfl dX8_find_60 hE (fun g19 g20 hE => ?_)
              refine vl_iload 4 rfl dX8_find_61 ?_
              obtain ⟨g21, hE⟩ := vl_ok_gd hE
              obtain ⟨g22, hE⟩ := vl_ok_gd hE
              refine vl_icmp_ne (tgt := 85) dX8_find_63 (by decide) g21 g22 hE (fun c30 hE => ?_) (fun c30 hE => ?_)
              · refine vl_iinc 6 (fun v23 => [(6, vl_iv v23), (0, .ref 23), (1, vl_iv a1), (2, vl_iv a2), (3, vl_iv a3), (4, vl_iv a4), (5, vl_iv a5)]) dX8_find_85 rfl (by decide) (fun _ => rfl) hE (fun v23 hE => ?_)
                refine vl_goto (tgt := 3) dX8_find_88 (by decide) ?_
                exact vl_wk [1, 2, 3, 4, 5, 6, 0] rfl (ih3_ v23 hE)
              · refine vl_aload_n 0 rfl dX8_find_66 ?_
                refine vl_getR (h := 23) (k0 := 4) (h2 := 25) iu_X8 n23 s23 rfl (by decide) fk_X8_17 rfl dX8_find_67 ?_
                refine vl_iconst dX8_find_70 ?_
                refine vl_iload 6 rfl dX8_find_71 ?_
                refine vl_imul dX8_find_73 ?_
                refine vl_iconst dX8_find_74 ?_
                refine vl_iadd dX8_find_75 ?_
                refine vl_aldr (h := 25) (n := 1604) (ni := 1604) n25 (by decide) s25 (by decide) rfl dX8_find_76 hE (fun g24 g25 hE => ?_)
                refine vl_iload 5 rfl dX8_find_77 ?_
                obtain ⟨g26, hE⟩ := vl_ok_gd hE
                obtain ⟨g27, hE⟩ := vl_ok_gd hE
                refine vl_icmp_ne (tgt := 85) dX8_find_79 (by decide) g26 g27 hE (fun c29 hE => ?_) (fun c29 hE => ?_)
                · refine vl_iinc 6 (fun v28 => [(6, vl_iv v28), (0, .ref 23), (1, vl_iv a1), (2, vl_iv a2), (3, vl_iv a3), (4, vl_iv a4), (5, vl_iv a5)]) dX8_find_85 rfl (by decide) (fun _ => rfl) hE (fun v28 hE => ?_)
                  refine vl_goto (tgt := 3) dX8_find_88 (by decide) ?_
                  exact vl_wk [1, 2, 3, 4, 5, 6, 0] rfl (ih3_ v28 hE)
                · refine vl_iload 6 rfl dX8_find_82 ?_
                  exact vl_ret (r := v1) rfl dX8_find_84 hE (hP' (v1))
  exact vl_wk [1, 2, 3, 4, 5, 6, 0] rfl (hL3_ N 0 hE)
set_option maxRecDepth 100000 in
set_option maxHeartbeats 4000000 in
theorem vx_X8_greater {nc : Nat} {S : vl_Sh} {sc : Nat × (Nat → Int32)} (hG : vl_G3 nc S) {d : Nat} (hd : 0 ≤ d) {Post : Int → vl_M → vl_M → Prop} {μ m : vl_M} {a0 a1 : Int} (hE : vl_ok (fun r : Int => Post r μ m) (fn_X8_greater  a0 a1)) : vl_V nc S sc kX8_greater d Post 0 [(0, vl_iv a0), (1, vl_iv a1)] [] μ m := by
  generalize hP : (fun r : Int => Post r μ m) = P at hE
  have hP' : ∀ r : Int, P r → Post r μ m := fun b h => by rw [← hP] at h; exact h
  clear hP
  unfold fn_X8_greater at hE
  refine vl_iload_n 0 rfl dX8_greater_0 ?_
  refine vl_iload_n 1 rfl dX8_greater_1 ?_
  obtain ⟨g1, hE⟩ := vl_ok_gd hE
  obtain ⟨g2, hE⟩ := vl_ok_gd hE
  refine vl_icmp_le (tgt := 9) dX8_greater_2 (by decide) g1 g2 hE (fun c3 hE => ?_) (fun c3 hE => ?_)
  · refine vl_iload_n 1 rfl dX8_greater_9 ?_
    exact vl_ret (r := a1) rfl dX8_greater_10 hE (hP' (a1))
  · refine vl_iload_n 0 rfl dX8_greater_5 ?_
    refine vl_goto (tgt := 10) dX8_greater_6 (by decide) ?_
    exact vl_ret (r := a0) rfl dX8_greater_10 hE (hP' (a0))
set_option maxRecDepth 100000 in
set_option maxHeartbeats 4000000 in
theorem vx_X8_heldBy {nc : Nat} {S : vl_Sh} {sc : Nat × (Nat → Int32)} (hG : vl_G3 nc S) {d : Nat} (hd : 0 ≤ d) {Post : Int → vl_M → vl_M → Prop} {μ m : vl_M} {a1 a2 : Int} (hE : vl_ok (fun r : Int => Post r μ m) (fn_X8_heldBy m a1 a2)) : vl_V nc S sc kX8_heldBy d Post 0 [(0, .ref 23), (1, vl_iv a1), (2, vl_iv a2)] [] μ m := by
  generalize hP : (fun r : Int => Post r μ m) = P at hE
  have hP' : ∀ r : Int, P r → Post r μ m := fun b h => by rw [← hP] at h; exact h
  clear hP
  have s23 : S 23 = .inr (8, [0, 0, 0, 27, 28, 0, 29, 30, 31, 32, 33, 0, 0, 0, 0, 34, 35, 0, 36, 0, 0, 37, 38, 39, 0, 0, 0, 0, 0, 1, 40, 41, 42, 43, 44, 45, 46, 0, 47, 48, 49]) := hG.2 23 (by decide) (by decide)
  have n23 : 23 < nc := Nat.lt_of_lt_of_le (by decide) hG.1
  have s28 : S 28 = .inl 5500 := hG.2 28 (by decide) (by decide)
  have n28 : 28 < nc := Nat.lt_of_lt_of_le (by decide) hG.1
  unfold fn_X8_heldBy at hE
  refine vl_aload_n 0 rfl dX8_heldBy_0 ?_
  refine vl_getR (h := 23) (k0 := 8) (h2 := 28) iu_X8 n23 s23 rfl (by decide) fk_X8_26 rfl dX8_heldBy_1 ?_
  refine vl_bipush (by decide) dX8_heldBy_4 ?_
  refine vl_iload_n 1 rfl dX8_heldBy_6 ?_
  refine vl_imul dX8_heldBy_7 ?_
  refine vl_iload_n 2 rfl dX8_heldBy_8 ?_
  refine vl_iadd dX8_heldBy_9 ?_
  refine vl_aldr (h := 28) (n := 5500) (ni := 5500) n28 (by decide) s28 (by decide) rfl dX8_heldBy_10 hE (fun g1 g2 hE => ?_)
  exact vl_ret (r := (m 28 ((11 * a1) + a2))) rfl dX8_heldBy_11 hE (hP' (m 28 ((11 * a1) + a2)))
set_option maxRecDepth 100000 in
set_option maxHeartbeats 4000000 in
theorem vx_X8_hold {nc : Nat} {S : vl_Sh} {sc : Nat × (Nat → Int32)} (hG : vl_G3 nc S) {d : Nat} (hd : 0 ≤ d) {Post : Int → vl_M → vl_M → Prop} {μ m : vl_M} {a1 a2 : Int} (hE : vl_ok (fun b : vl_M => Post 0 μ b) (fn_X8_hold m a1 a2)) : vl_V nc S sc kX8_hold d Post 0 [(0, .ref 23), (1, vl_iv a1), (2, vl_iv a2)] [] μ m := by
  generalize hP : (fun b : vl_M => Post 0 μ b) = P at hE
  have hP' : ∀ b : vl_M, P b → Post 0 μ b := fun b h => by rw [← hP] at h; exact h
  clear hP
  have s23 : S 23 = .inr (8, [0, 0, 0, 27, 28, 0, 29, 30, 31, 32, 33, 0, 0, 0, 0, 34, 35, 0, 36, 0, 0, 37, 38, 39, 0, 0, 0, 0, 0, 1, 40, 41, 42, 43, 44, 45, 46, 0, 47, 48, 49]) := hG.2 23 (by decide) (by decide)
  have n23 : 23 < nc := Nat.lt_of_lt_of_le (by decide) hG.1
  have s26 : S 26 = .inl 500 := hG.2 26 (by decide) (by decide)
  have n26 : 26 < nc := Nat.lt_of_lt_of_le (by decide) hG.1
  have s27 : S 27 = .inl 500 := hG.2 27 (by decide) (by decide)
  have n27 : 27 < nc := Nat.lt_of_lt_of_le (by decide) hG.1
  have s28 : S 28 = .inl 5500 := hG.2 28 (by decide) (by decide)
  have n28 : 28 < nc := Nat.lt_of_lt_of_le (by decide) hG.1
  have s30 : S 30 = .inl 500 := hG.2 30 (by decide) (by decide)
  have n30 : 30 < nc := Nat.lt_of_lt_of_le (by decide) hG.1
  unfold fn_X8_hold at hE
  refine vl_aload_n 0 rfl dX8_hold_0 ?_
  refine vl_getR (h := 23) (k0 := 8) (h2 := 28) iu_X8 n23 s23 rfl (by decide) fk_X8_26 rfl dX8_hold_1 ?_
  refine vl_bipush (by decide) dX8_hold_4 ?_
  refine vl_iload_n 1 rfl dX8_hold_6 ?_
  refine vl_imul dX8_hold_7 ?_
  refine vl_aload_n 0 rfl dX8_hold_8 ?_
  refine vl_getR (h := 23) (k0 := 7) (h2 := 27) iu_X8 n23 s23 rfl (by decide) fk_X8_23 rfl dX8_hold_9 ?_
  refine vl_iload_n 1 rfl dX8_hold_12 ?_
  refine vl_aldr (h := 27) (n := 500) (ni := 500) n27 (by decide) s27 (by decide) rfl dX8_hold_13 hE (fun g1 g2 hE => ?_)
  refine vl_iadd dX8_hold_14 ?_
  refine vl_iload_n 2 rfl dX8_hold_15 ?_
  refine vl_astr (h := 28) (n := 5500) (ni := 5500) n28 (by decide) s28 (by decide) rfl dX8_hold_16 hE (fun g4 g5 m3 hE => ?_)
  refine vl_aload_n 0 rfl dX8_hold_17 ?_
  refine vl_getR (h := 23) (k0 := 7) (h2 := 27) iu_X8 n23 s23 rfl (by decide) fk_X8_23 rfl dX8_hold_18 ?_
  refine vl_iload_n 1 rfl dX8_hold_21 ?_
  refine vl_dup2 rfl rfl dX8_hold_22 ?_
  refine vl_aldr1 (h := 27) (n := 500) (ni := 500) n27 (by decide) s27 (by decide) rfl g1 dX8_hold_23 ?_
  refine vl_iconst dX8_hold_24 ?_
  refine vl_iadd dX8_hold_25 ?_
  refine vl_astr1 (h := 27) (n := 500) (ni := 500) n27 (by decide) s27 (by decide) rfl g1 dX8_hold_26 hE (fun m6 hE => ?_)
  refine vl_aload_n 0 rfl dX8_hold_27 ?_
  refine vl_getR (h := 23) (k0 := 6) (h2 := 26) iu_X8 n23 s23 rfl (by decide) fk_X8_20 rfl dX8_hold_28 ?_
  refine vl_iload_n 1 rfl dX8_hold_31 ?_
  refine vl_aldr1 (h := 26) (n := 500) (ni := 500) n26 (by decide) s26 (by decide) rfl g1 dX8_hold_32 ?_
  obtain ⟨g7, hE⟩ := vl_ok_gd hE
  refine vl_if_le (tgt := 43) dX8_hold_33 (by decide) g7  hE (fun c11 hE => ?_) (fun c11 hE => ?_)
  · exact vl_ret (r := 0) rfl dX8_hold_43 hE (hP' m6)
  · refine vl_aload_n 0 rfl dX8_hold_36 ?_
    refine vl_getR (h := 23) (k0 := 10) (h2 := 30) iu_X8 n23 s23 rfl (by decide) fk_X8_32 rfl dX8_hold_37 ?_
    refine vl_iload_n 2 rfl dX8_hold_40 ?_
    refine vl_iload_n 1 rfl dX8_hold_41 ?_
    refine vl_astr (h := 30) (n := 500) (ni := 500) n30 (by decide) s30 (by decide) rfl dX8_hold_42 hE (fun g9 g10 m8 hE => ?_)
    exact vl_ret (r := 0) rfl dX8_hold_43 hE (hP' m8)
set_option maxRecDepth 100000 in
set_option maxHeartbeats 4000000 in
theorem vx_X8_isBefore {nc : Nat} {S : vl_Sh} {sc : Nat × (Nat → Int32)} (hG : vl_G3 nc S) {N : Nat} {d : Nat} (hd : 0 ≤ d) {Post : Int → vl_M → vl_M → Prop} {μ m : vl_M} {a1 a2 : Int} (hE : vl_ok (fun r : Int => Post r μ m) (fn_X8_isBefore N m a1 a2)) : vl_V nc S sc kX8_isBefore d Post 0 [(0, .ref 23), (1, vl_iv a1), (2, vl_iv a2)] [] μ m := by
  generalize hP : (fun r : Int => Post r μ m) = P at hE
  have hP' : ∀ r : Int, P r → Post r μ m := fun b h => by rw [← hP] at h; exact h
  clear hP
  have s23 : S 23 = .inr (8, [0, 0, 0, 27, 28, 0, 29, 30, 31, 32, 33, 0, 0, 0, 0, 34, 35, 0, 36, 0, 0, 37, 38, 39, 0, 0, 0, 0, 0, 1, 40, 41, 42, 43, 44, 45, 46, 0, 47, 48, 49]) := hG.2 23 (by decide) (by decide)
  have n23 : 23 < nc := Nat.lt_of_lt_of_le (by decide) hG.1
  have s24 : S 24 = .inl 401 := hG.2 24 (by decide) (by decide)
  have n24 : 24 < nc := Nat.lt_of_lt_of_le (by decide) hG.1
  have s25 : S 25 = .inl 1604 := hG.2 25 (by decide) (by decide)
  have n25 : 25 < nc := Nat.lt_of_lt_of_le (by decide) hG.1
  unfold fn_X8_isBefore at hE
  refine vl_aload_n 0 rfl dX8_isBefore_0 ?_
  refine vl_getR (h := 23) (k0 := 3) (h2 := 24) iu_X8 n23 s23 rfl (by decide) fk_X8_13 rfl dX8_isBefore_1 ?_
  refine vl_iload_n 1 rfl dX8_isBefore_4 ?_
  refine vl_aldr (h := 24) (n := 401) (ni := 401) n24 (by decide) s24 (by decide) rfl dX8_isBefore_5 hE (fun g1 g2 hE => ?_)
  refine vl_aload_n 0 rfl dX8_isBefore_6 ?_
  refine vl_getR (h := 23) (k0 := 3) (h2 := 24) iu_X8 n23 s23 rfl (by decide) fk_X8_13 rfl dX8_isBefore_7 ?_
  refine vl_iload_n 2 rfl dX8_isBefore_10 ?_
  refine vl_aldr (h := 24) (n := 401) (ni := 401) n24 (by decide) s24 (by decide) rfl dX8_isBefore_11 hE (fun g3 g4 hE => ?_)
  obtain ⟨g5, hE⟩ := vl_ok_gd hE
  obtain ⟨g6, hE⟩ := vl_ok_gd hE
  refine vl_icmp_eq (tgt := 36) dX8_isBefore_12 (by decide) g5 g6 hE (fun c21 hE => ?_) (fun c21 hE => ?_)
  · refine vl_iconst dX8_isBefore_36 ?_
    refine vl_istore_n0 rfl (lv' := [(3, vl_iv 0), (0, .ref 23), (1, vl_iv a1), (2, vl_iv a2)]) dX8_isBefore_37 (by decide) rfl ?_
    refine vl_lpr (F := fun κ : Int → Option (Int) => fn_X8_isBefore_L38 N m a1 a2 κ N 0) (J := fun κ => ∀ (v8 : Int), vl_ok P (κ v8) → vl_V nc S sc kX8_isBefore d Post 101 [] [] μ m) ?_ hE (fun κ hκL387 hE => ?_)
    · intro v8 hE
      refine vl_iconst dX8_isBefore_101 ?_
      exact vl_ret (r := 0) rfl ⟨dX8_isBefore_102, by decide⟩ hE (hP' (0))
    have hL38_ : ∀ (n : Nat) (v7 : Int), vl_ok P (fn_X8_isBefore_L38 N m a1 a2 κ n v7) → vl_V nc S sc kX8_isBefore d Post 38 [(0, .ref 23), (1, vl_iv a1), (2, vl_iv a2), (3, vl_iv v7)] [] μ m := by
      intro n
      induction n with
      | zero => intro v7 hE; exact vl_no hE
      | succ n ih38_ =>
        intro v7 hE
        rw [fn_X8_isBefore_L38] at hE
        refine vl_iload_n 3 rfl dX8_isBefore_38 ?_
        refine vl_iconst dX8_isBefore_39 ?_
        obtain ⟨g9, hE⟩ := vl_ok_gd hE
        refine vl_icmp_ge (tgt := 101) dX8_isBefore_40 (by decide) g9 (by decide) hE (fun c19 hE => ?_) (fun c19 hE => ?_)
        · exact vl_wk [] rfl (hκL387 v7 hE)
        · refine vl_aload_n 0 rfl dX8_isBefore_43 ?_
          refine vl_getR (h := 23) (k0 := 4) (h2 := 25) iu_X8 n23 s23 rfl (by decide) fk_X8_17 rfl dX8_isBefore_44 ?_
          refine vl_iconst dX8_isBefore_47 ?_
          refine vl_iload_n 1 rfl dX8_isBefore_48 ?_
          refine vl_imul dX8_isBefore_49 ?_
          refine vl_iload_n 3 rfl dX8_isBefore_50 ?_
          refine vl_iadd dX8_isBefore_51 ?_
          refine vl_aldr (h := 25) (n := 1604) (ni := 1604) n25 (by decide) s25 (by decide) rfl dX8_isBefore_52 hE (fun g10 g11 hE => ?_)
          refine vl_aload_n 0 rfl dX8_isBefore_53 ?_
          refine vl_getR (h := 23) (k0 := 4) (h2 := 25) iu_X8 n23 s23 rfl (by decide) fk_X8_17 rfl dX8_isBefore_54 ?_
          refine vl_iconst dX8_isBefore_57 ?_
          refine vl_iload_n 2 rfl dX8_isBefore_58 ?_
          refine vl_imul dX8_isBefore_59 ?_
          refine vl_iload_n 3 rfl dX8_isBefore_60 ?_
          refine vl_iadd dX8_isBefore_61 ?_
          refine vl_aldr (h := 25) (n := 1604) (ni := 1604) n25 (by decide) s25 (by decide) rfl dX8_isBefore_62 hE (fun g12 g13 hE => ?_)
          obtain ⟨g14, hE⟩ := vl_ok_gd hE
          obtain ⟨g15, hE⟩ := vl_ok_gd hE
          refine vl_icmp_eq (tgt := 95) dX8_isBefore_63 (by decide) g14 g15 hE (fun c18 hE => ?_) (fun c18 hE => ?_)
          · refine vl_iinc 3 (fun v16 => [(3, vl_iv v16), (0, .ref 23), (1, vl_iv a1), (2, vl_iv a2)]) dX8_isBefore_95 rfl (by decide) (fun _ => rfl) hE (fun v16 hE => ?_)
            refine vl_goto (tgt := 38) dX8_isBefore_98 (by decide) ?_
            exact vl_wk [1, 2, 3, 0] rfl (ih38_ v16 hE)
          · refine vl_aload_n 0 rfl dX8_isBefore_66 ?_
            refine vl_getR (h := 23) (k0 := 4) (h2 := 25) iu_X8 n23 s23 rfl (by decide) fk_X8_17 rfl dX8_isBefore_67 ?_
            refine vl_iconst dX8_isBefore_70 ?_
            refine vl_iload_n 1 rfl dX8_isBefore_71 ?_
            refine vl_imul dX8_isBefore_72 ?_
            refine vl_iload_n 3 rfl dX8_isBefore_73 ?_
            refine vl_iadd dX8_isBefore_74 ?_
            refine vl_aldr1 (h := 25) (n := 1604) (ni := 1604) n25 (by decide) s25 (by decide) rfl g10 dX8_isBefore_75 ?_
            refine vl_aload_n 0 rfl dX8_isBefore_76 ?_
            refine vl_getR (h := 23) (k0 := 4) (h2 := 25) iu_X8 n23 s23 rfl (by decide) fk_X8_17 rfl dX8_isBefore_77 ?_
            refine vl_iconst dX8_isBefore_80 ?_
            refine vl_iload_n 2 rfl dX8_isBefore_81 ?_
            refine vl_imul dX8_isBefore_82 ?_
            refine vl_iload_n 3 rfl dX8_isBefore_83 ?_
            refine vl_iadd dX8_isBefore_84 ?_
            refine vl_aldr1 (h := 25) (n := 1604) (ni := 1604) n25 (by decide) s25 (by decide) rfl g12 dX8_isBefore_85 ?_
            refine vl_icmp_ge (tgt := 93) dX8_isBefore_86 (by decide) g14 g15 hE (fun c17 hE => ?_) (fun c17 hE => ?_)
            · refine vl_iconst dX8_isBefore_93 ?_
              exact vl_ret (r := 0) rfl ⟨dX8_isBefore_94, by decide⟩ hE (hP' (0))
            · refine vl_iconst dX8_isBefore_89 ?_
              refine vl_goto (tgt := 94) dX8_isBefore_90 (by decide) ?_
              exact vl_ret (r := 1) rfl ⟨dX8_isBefore_94, by decide⟩ hE (hP' (1))
    exact vl_wk [1, 2, 3, 0] rfl (hL38_ N 0 hE)
  · refine vl_aload_n 0 rfl dX8_isBefore_15 ?_
    refine vl_getR (h := 23) (k0 := 3) (h2 := 24) iu_X8 n23 s23 rfl (by decide) fk_X8_13 rfl dX8_isBefore_16 ?_
    refine vl_iload_n 1 rfl dX8_isBefore_19 ?_
    refine vl_aldr1 (h := 24) (n := 401) (ni := 401) n24 (by decide) s24 (by decide) rfl g1 dX8_isBefore_20 ?_
    refine vl_aload_n 0 rfl dX8_isBefore_21 ?_
    refine vl_getR (h := 23) (k0 := 3) (h2 := 24) iu_X8 n23 s23 rfl (by decide) fk_X8_13 rfl dX8_isBefore_22 ?_
    refine vl_iload_n 2 rfl dX8_isBefore_25 ?_
    refine vl_aldr1 (h := 24) (n := 401) (ni := 401) n24 (by decide) s24 (by decide) rfl g3 dX8_isBefore_26 ?_
    refine vl_icmp_ge (tgt := 34) dX8_isBefore_27 (by decide) g5 g6 hE (fun c20 hE => ?_) (fun c20 hE => ?_)
    · refine vl_iconst dX8_isBefore_34 ?_
      exact vl_ret (r := 0) rfl ⟨dX8_isBefore_35, by decide⟩ hE (hP' (0))
    · refine vl_iconst dX8_isBefore_30 ?_
      refine vl_goto (tgt := 35) dX8_isBefore_31 (by decide) ?_
      exact vl_ret (r := 1) rfl ⟨dX8_isBefore_35, by decide⟩ hE (hP' (1))
set_option maxRecDepth 100000 in
set_option maxHeartbeats 4000000 in
theorem vx_X8_isPlace {nc : Nat} {S : vl_Sh} {sc : Nat × (Nat → Int32)} (hG : vl_G3 nc S) {d : Nat} (hd : 0 ≤ d) {Post : Int → vl_M → vl_M → Prop} {μ m : vl_M} {a0 : Int} (hE : vl_ok (fun r : Int => Post r μ m) (fn_X8_isPlace  a0)) : vl_V nc S sc kX8_isPlace d Post 0 [(0, vl_iv a0)] [] μ m := by
  generalize hP : (fun r : Int => Post r μ m) = P at hE
  have hP' : ∀ r : Int, P r → Post r μ m := fun b h => by rw [← hP] at h; exact h
  clear hP
  unfold fn_X8_isPlace at hE
  refine vl_iload_n 0 rfl dX8_isPlace_0 ?_
  obtain ⟨g1, hE⟩ := vl_ok_gd hE
  refine vl_if_lt (tgt := 15) dX8_isPlace_1 (by decide) g1  hE (fun c3 hE => ?_) (fun c3 hE => ?_)
  · refine vl_iconst dX8_isPlace_15 ?_
    exact vl_ret (r := 0) rfl ⟨dX8_isPlace_16, by decide⟩ hE (hP' (0))
  · refine vl_iload_n 0 rfl dX8_isPlace_4 ?_
    refine vl_sipush (by decide) dX8_isPlace_5 ?_
    refine vl_icmp_gt (tgt := 15) dX8_isPlace_8 (by decide) g1 (by decide) hE (fun c2 hE => ?_) (fun c2 hE => ?_)
    · refine vl_iconst dX8_isPlace_15 ?_
      exact vl_ret (r := 0) rfl ⟨dX8_isPlace_16, by decide⟩ hE (hP' (0))
    · refine vl_iconst dX8_isPlace_11 ?_
      refine vl_goto (tgt := 16) dX8_isPlace_12 (by decide) ?_
      exact vl_ret (r := 1) rfl ⟨dX8_isPlace_16, by decide⟩ hE (hP' (1))
set_option maxRecDepth 100000 in
set_option maxHeartbeats 4000000 in
theorem vx_X8_lesser {nc : Nat} {S : vl_Sh} {sc : Nat × (Nat → Int32)} (hG : vl_G3 nc S) {d : Nat} (hd : 0 ≤ d) {Post : Int → vl_M → vl_M → Prop} {μ m : vl_M} {a0 a1 : Int} (hE : vl_ok (fun r : Int => Post r μ m) (fn_X8_lesser  a0 a1)) : vl_V nc S sc kX8_lesser d Post 0 [(0, vl_iv a0), (1, vl_iv a1)] [] μ m := by
  generalize hP : (fun r : Int => Post r μ m) = P at hE
  have hP' : ∀ r : Int, P r → Post r μ m := fun b h => by rw [← hP] at h; exact h
  clear hP
  unfold fn_X8_lesser at hE
  refine vl_iload_n 0 rfl dX8_lesser_0 ?_
  refine vl_iload_n 1 rfl dX8_lesser_1 ?_
  obtain ⟨g1, hE⟩ := vl_ok_gd hE
  obtain ⟨g2, hE⟩ := vl_ok_gd hE
  refine vl_icmp_ge (tgt := 9) dX8_lesser_2 (by decide) g1 g2 hE (fun c3 hE => ?_) (fun c3 hE => ?_)
  · refine vl_iload_n 1 rfl dX8_lesser_9 ?_
    exact vl_ret (r := a1) rfl dX8_lesser_10 hE (hP' (a1))
  · refine vl_iload_n 0 rfl dX8_lesser_5 ?_
    refine vl_goto (tgt := 10) dX8_lesser_6 (by decide) ?_
    exact vl_ret (r := a0) rfl dX8_lesser_10 hE (hP' (a0))
set_option maxRecDepth 100000 in
set_option maxHeartbeats 4000000 in
theorem vx_X8_node {nc : Nat} {S : vl_Sh} {sc : Nat × (Nat → Int32)} (hG : vl_G3 nc S) {N : Nat} {d : Nat} (hd : 0 ≤ d) {Post : Int → vl_M → vl_M → Prop} {μ m : vl_M} {a1 : Int} (hE : vl_ok (fun b : Int × vl_M => Post b.1 μ b.2) (fn_X8_node N m a1)) : vl_V nc S sc kX8_node d Post 0 [(0, .ref 23), (1, vl_iv a1)] [] μ m := by
  generalize hP : (fun b : Int × vl_M => Post b.1 μ b.2) = P at hE
  have hP' : ∀ b : Int × vl_M, P b → Post b.1 μ b.2 := fun b h => by rw [← hP] at h; exact h
  clear hP
  have s23 : S 23 = .inr (8, [0, 0, 0, 27, 28, 0, 29, 30, 31, 32, 33, 0, 0, 0, 0, 34, 35, 0, 36, 0, 0, 37, 38, 39, 0, 0, 0, 0, 0, 1, 40, 41, 42, 43, 44, 45, 46, 0, 47, 48, 49]) := hG.2 23 (by decide) (by decide)
  have n23 : 23 < nc := Nat.lt_of_lt_of_le (by decide) hG.1
  have s26 : S 26 = .inl 500 := hG.2 26 (by decide) (by decide)
  have n26 : 26 < nc := Nat.lt_of_lt_of_le (by decide) hG.1
  have s27 : S 27 = .inl 500 := hG.2 27 (by decide) (by decide)
  have n27 : 27 < nc := Nat.lt_of_lt_of_le (by decide) hG.1
  have s30 : S 30 = .inl 500 := hG.2 30 (by decide) (by decide)
  have n30 : 30 < nc := Nat.lt_of_lt_of_le (by decide) hG.1
  unfold fn_X8_node at hE
  refine vl_iconst dX8_node_0 ?_
  refine vl_istore_n0 rfl (lv' := [(2, vl_iv 0), (0, .ref 23), (1, vl_iv a1)]) dX8_node_1 (by decide) rfl ?_
  refine vl_lpr (F := fun κ : Int → Option (Int × vl_M) => fn_X8_node_L2 N m a1 κ N 0) (J := fun κ => ∀ (v2 : Int), vl_ok P (κ v2) → vl_V nc S sc kX8_node d Post 17 [(0, .ref 23), (1, vl_iv a1), (2, vl_iv v2)] [] μ m) ?_ hE (fun κ hκL21 hE => ?_)
  · intro v2 hE
    refine vl_aload_n 0 rfl dX8_node_17 ?_
    refine vl_getR (h := 23) (k0 := 6) (h2 := 26) iu_X8 n23 s23 rfl (by decide) fk_X8_20 rfl dX8_node_18 ?_
    refine vl_iload_n 2 rfl dX8_node_21 ?_
    refine vl_iload_n 1 rfl dX8_node_22 ?_
    refine vl_astr (h := 26) (n := 500) (ni := 500) n26 (by decide) s26 (by decide) rfl dX8_node_23 hE (fun g4 g5 m3 hE => ?_)
    refine vl_aload_n 0 rfl dX8_node_24 ?_
    refine vl_getR (h := 23) (k0 := 7) (h2 := 27) iu_X8 n23 s23 rfl (by decide) fk_X8_23 rfl dX8_node_25 ?_
    refine vl_iload_n 2 rfl dX8_node_28 ?_
    refine vl_iconst dX8_node_29 ?_
    refine vl_astr1 (h := 27) (n := 500) (ni := 500) n27 (by decide) s27 (by decide) rfl g4 dX8_node_30 hE (fun m6 hE => ?_)
    refine vl_aload_n 0 rfl dX8_node_31 ?_
    refine vl_getR (h := 23) (k0 := 10) (h2 := 30) iu_X8 n23 s23 rfl (by decide) fk_X8_32 rfl dX8_node_32 ?_
    refine vl_iload_n 2 rfl dX8_node_35 ?_
    refine vl_bipush (by decide) dX8_node_36 ?_
    refine vl_astr1 (h := 30) (n := 500) (ni := 500) n30 (by decide) s30 (by decide) rfl g4 dX8_node_38 hE (fun m7 hE => ?_)
    refine vl_iload_n 2 rfl dX8_node_39 ?_
    exact vl_ret (r := v2) rfl dX8_node_40 hE (hP' (v2, m7))
  have hL2_ : ∀ (n : Nat) (v1 : Int), vl_ok P (fn_X8_node_L2 N m a1 κ n v1) → vl_V nc S sc kX8_node d Post 2 [(0, .ref 23), (1, vl_iv a1), (2, vl_iv v1)] [] μ m := by
    intro n
    induction n with
    | zero => intro v1 hE; exact vl_no hE
    | succ n ih2_ =>
      intro v1 hE
      rw [fn_X8_node_L2] at hE
      refine vl_aload_n 0 rfl dX8_node_2 ?_
      refine vl_getR (h := 23) (k0 := 6) (h2 := 26) iu_X8 n23 s23 rfl (by decide) fk_X8_20 rfl dX8_node_3 ?_
      refine vl_iload_n 2 rfl dX8_node_6 ?_
      refine vl_aldr (h := 26) (n := 500) (ni := 500) n26 (by decide) s26 (by decide) rfl dX8_node_7 hE (fun g8 g9 hE => ?_)
      obtain ⟨g10, hE⟩ := vl_ok_gd hE
      refine vl_if_lt (tgt := 17) dX8_node_8 (by decide) g10  hE (fun c12 hE => ?_) (fun c12 hE => ?_)
      · exact (hκL21 v1 hE)
      · refine vl_iinc 2 (fun v11 => [(2, vl_iv v11), (0, .ref 23), (1, vl_iv a1)]) dX8_node_11 rfl (by decide) (fun _ => rfl) hE (fun v11 hE => ?_)
        refine vl_goto (tgt := 2) dX8_node_14 (by decide) ?_
        exact vl_wk [1, 2, 0] rfl (ih2_ v11 hE)
  exact vl_wk [1, 2, 0] rfl (hL2_ N 0 hE)
set_option maxRecDepth 100000 in
set_option maxHeartbeats 4000000 in
theorem vx_X8_side {nc : Nat} {S : vl_Sh} {sc : Nat × (Nat → Int32)} (hG : vl_G3 nc S) {d : Nat} (hd : 0 ≤ d) {Post : Int → vl_M → vl_M → Prop} {μ m : vl_M} {a1 a2 a3 : Int} (hE : vl_ok (fun r : Int => Post r μ m) (fn_X8_side m a1 a2 a3)) : vl_V nc S sc kX8_side d Post 0 [(0, .ref 23), (1, vl_iv a1), (2, vl_iv a2), (3, vl_iv a3)] [] μ m := by
  generalize hP : (fun r : Int => Post r μ m) = P at hE
  have hP' : ∀ r : Int, P r → Post r μ m := fun b h => by rw [← hP] at h; exact h
  clear hP
  have s23 : S 23 = .inr (8, [0, 0, 0, 27, 28, 0, 29, 30, 31, 32, 33, 0, 0, 0, 0, 34, 35, 0, 36, 0, 0, 37, 38, 39, 0, 0, 0, 0, 0, 1, 40, 41, 42, 43, 44, 45, 46, 0, 47, 48, 49]) := hG.2 23 (by decide) (by decide)
  have n23 : 23 < nc := Nat.lt_of_lt_of_le (by decide) hG.1
  have s25 : S 25 = .inl 1604 := hG.2 25 (by decide) (by decide)
  have n25 : 25 < nc := Nat.lt_of_lt_of_le (by decide) hG.1
  have s29 : S 29 = .inl 2000 := hG.2 29 (by decide) (by decide)
  have n29 : 29 < nc := Nat.lt_of_lt_of_le (by decide) hG.1
  unfold fn_X8_side at hE
  refine vl_iload_n 1 rfl dX8_side_0 ?_
  obtain ⟨g1, hE⟩ := vl_ok_gd hE
  refine vl_if_ge (tgt := 17) dX8_side_1 (by decide) g1  hE (fun c6 hE => ?_) (fun c6 hE => ?_)
  · refine vl_aload_n 0 rfl dX8_side_17 ?_
    refine vl_getR (h := 23) (k0 := 9) (h2 := 29) iu_X8 n23 s23 rfl (by decide) fk_X8_29 rfl dX8_side_18 ?_
    refine vl_iconst dX8_side_21 ?_
    refine vl_iload_n 2 rfl dX8_side_22 ?_
    refine vl_imul dX8_side_23 ?_
    refine vl_iload_n 3 rfl dX8_side_24 ?_
    refine vl_iadd dX8_side_25 ?_
    refine vl_aldr (h := 29) (n := 2000) (ni := 2000) n29 (by decide) s29 (by decide) rfl dX8_side_26 hE (fun g2 g3 hE => ?_)
    exact vl_ret (r := (m 29 ((4 * a2) + a3))) rfl dX8_side_27 hE (hP' (m 29 ((4 * a2) + a3)))
  · refine vl_aload_n 0 rfl dX8_side_4 ?_
    refine vl_getR (h := 23) (k0 := 4) (h2 := 25) iu_X8 n23 s23 rfl (by decide) fk_X8_17 rfl dX8_side_5 ?_
    refine vl_iconst dX8_side_8 ?_
    refine vl_iload_n 2 rfl dX8_side_9 ?_
    refine vl_imul dX8_side_10 ?_
    refine vl_iload_n 3 rfl dX8_side_11 ?_
    refine vl_iadd dX8_side_12 ?_
    refine vl_aldr (h := 25) (n := 1604) (ni := 1604) n25 (by decide) s25 (by decide) rfl dX8_side_13 hE (fun g4 g5 hE => ?_)
    refine vl_goto (tgt := 27) dX8_side_14 (by decide) ?_
    exact vl_ret (r := (m 25 ((4 * a2) + a3))) rfl dX8_side_27 hE (hP' (m 25 ((4 * a2) + a3)))
set_option maxRecDepth 100000 in
set_option maxHeartbeats 4000000 in
theorem vx_X8_areaBoth {nc : Nat} {S : vl_Sh} {sc : Nat × (Nat → Int32)} (hG : vl_G3 nc S) {d : Nat} (hd : 1 ≤ d) {Post : Int → vl_M → vl_M → Prop} {μ m : vl_M} {a1 a2 a3 a4 : Int} (hE : vl_ok (fun r : Int => Post r μ m) (fn_X8_areaBoth m a1 a2 a3 a4)) : vl_V nc S sc kX8_areaBoth d Post 0 [(0, .ref 23), (1, vl_iv a1), (2, vl_iv a2), (3, vl_iv a3), (4, vl_iv a4)] [] μ m := by
  generalize hP : (fun r : Int => Post r μ m) = P at hE
  have hP' : ∀ r : Int, P r → Post r μ m := fun b h => by rw [← hP] at h; exact h
  clear hP
  have s23 : S 23 = .inr (8, [0, 0, 0, 27, 28, 0, 29, 30, 31, 32, 33, 0, 0, 0, 0, 34, 35, 0, 36, 0, 0, 37, 38, 39, 0, 0, 0, 0, 0, 1, 40, 41, 42, 43, 44, 45, 46, 0, 47, 48, 49]) := hG.2 23 (by decide) (by decide)
  have n23 : 23 < nc := Nat.lt_of_lt_of_le (by decide) hG.1
  unfold fn_X8_areaBoth at hE
  refine vl_aload_n 0 rfl dX8_areaBoth_0 ?_
  refine vl_iload_n 1 rfl dX8_areaBoth_1 ?_
  refine vl_iload_n 2 rfl dX8_areaBoth_2 ?_
  refine vl_iconst dX8_areaBoth_3 ?_
  refine vl_VpI (K' := kX8_side) (d' := 0) (h := 23) (As := [vl_iv a1, vl_iv a2, vl_iv 0]) (st := []) lk_X8_96 (fun _ => rfl) (by omega) n23 s23 rfl rfl (Nat.le_of_ble_eq_true rfl) rfl (Nat.le_of_ble_eq_true rfl) dX8_areaBoth_4 hE (fun _ h => vx_X8_side hG (Nat.le_refl _) h) (fun b1 hE => ?_)
  refine vl_aload_n 0 rfl dX8_areaBoth_7 ?_
  refine vl_iload_n 3 rfl dX8_areaBoth_8 ?_
  refine vl_iload 4 rfl dX8_areaBoth_9 ?_
  refine vl_iconst dX8_areaBoth_11 ?_
  refine vl_VpI (K' := kX8_side) (d' := 0) (h := 23) (As := [vl_iv a3, vl_iv a4, vl_iv 0]) (st := [vl_iv b1]) lk_X8_96 (fun _ => rfl) (by omega) n23 s23 rfl rfl (Nat.le_of_ble_eq_true rfl) rfl (Nat.le_of_ble_eq_true rfl) dX8_areaBoth_12 hE (fun _ h => vx_X8_side hG (Nat.le_refl _) h) (fun b2 hE => ?_)
  refine vl_SpI (K' := kX8_lesser) (d' := 0) (As := [vl_iv b1, vl_iv b2]) (st := []) lk_X8_104 (fun _ => rfl) (by omega) rfl (Nat.le_of_ble_eq_true rfl) rfl (Nat.le_of_ble_eq_true rfl) dX8_areaBoth_15 hE (fun _ h => vx_X8_lesser hG (Nat.le_refl _) h) (fun b3 hE => ?_)
  refine vl_aload_n 0 rfl dX8_areaBoth_18 ?_
  refine vl_iload_n 1 rfl dX8_areaBoth_19 ?_
  refine vl_iload_n 2 rfl dX8_areaBoth_20 ?_
  refine vl_iconst dX8_areaBoth_21 ?_
  refine vl_VpI (K' := kX8_side) (d' := 0) (h := 23) (As := [vl_iv a1, vl_iv a2, vl_iv 1]) (st := [vl_iv b3]) lk_X8_96 (fun _ => rfl) (by omega) n23 s23 rfl rfl (Nat.le_of_ble_eq_true rfl) rfl (Nat.le_of_ble_eq_true rfl) dX8_areaBoth_22 hE (fun _ h => vx_X8_side hG (Nat.le_refl _) h) (fun b4 hE => ?_)
  refine vl_aload_n 0 rfl dX8_areaBoth_25 ?_
  refine vl_iload_n 3 rfl dX8_areaBoth_26 ?_
  refine vl_iload 4 rfl dX8_areaBoth_27 ?_
  refine vl_iconst dX8_areaBoth_29 ?_
  refine vl_VpI (K' := kX8_side) (d' := 0) (h := 23) (As := [vl_iv a3, vl_iv a4, vl_iv 1]) (st := [vl_iv b4, vl_iv b3]) lk_X8_96 (fun _ => rfl) (by omega) n23 s23 rfl rfl (Nat.le_of_ble_eq_true rfl) rfl (Nat.le_of_ble_eq_true rfl) dX8_areaBoth_30 hE (fun _ h => vx_X8_side hG (Nat.le_refl _) h) (fun b5 hE => ?_)
  refine vl_SpI (K' := kX8_lesser) (d' := 0) (As := [vl_iv b4, vl_iv b5]) (st := [vl_iv b3]) lk_X8_104 (fun _ => rfl) (by omega) rfl (Nat.le_of_ble_eq_true rfl) rfl (Nat.le_of_ble_eq_true rfl) dX8_areaBoth_33 hE (fun _ h => vx_X8_lesser hG (Nat.le_refl _) h) (fun b6 hE => ?_)
  refine vl_aload_n 0 rfl dX8_areaBoth_36 ?_
  refine vl_iload_n 1 rfl dX8_areaBoth_37 ?_
  refine vl_iload_n 2 rfl dX8_areaBoth_38 ?_
  refine vl_iconst dX8_areaBoth_39 ?_
  refine vl_VpI (K' := kX8_side) (d' := 0) (h := 23) (As := [vl_iv a1, vl_iv a2, vl_iv 2]) (st := [vl_iv b6, vl_iv b3]) lk_X8_96 (fun _ => rfl) (by omega) n23 s23 rfl rfl (Nat.le_of_ble_eq_true rfl) rfl (Nat.le_of_ble_eq_true rfl) dX8_areaBoth_40 hE (fun _ h => vx_X8_side hG (Nat.le_refl _) h) (fun b7 hE => ?_)
  refine vl_aload_n 0 rfl dX8_areaBoth_43 ?_
  refine vl_iload_n 3 rfl dX8_areaBoth_44 ?_
  refine vl_iload 4 rfl dX8_areaBoth_45 ?_
  refine vl_iconst dX8_areaBoth_47 ?_
  refine vl_VpI (K' := kX8_side) (d' := 0) (h := 23) (As := [vl_iv a3, vl_iv a4, vl_iv 2]) (st := [vl_iv b7, vl_iv b6, vl_iv b3]) lk_X8_96 (fun _ => rfl) (by omega) n23 s23 rfl rfl (Nat.le_of_ble_eq_true rfl) rfl (Nat.le_of_ble_eq_true rfl) dX8_areaBoth_48 hE (fun _ h => vx_X8_side hG (Nat.le_refl _) h) (fun b8 hE => ?_)
  refine vl_SpI (K' := kX8_greater) (d' := 0) (As := [vl_iv b7, vl_iv b8]) (st := [vl_iv b6, vl_iv b3]) lk_X8_108 (fun _ => rfl) (by omega) rfl (Nat.le_of_ble_eq_true rfl) rfl (Nat.le_of_ble_eq_true rfl) dX8_areaBoth_51 hE (fun _ h => vx_X8_greater hG (Nat.le_refl _) h) (fun b9 hE => ?_)
  refine vl_aload_n 0 rfl dX8_areaBoth_54 ?_
  refine vl_iload_n 1 rfl dX8_areaBoth_55 ?_
  refine vl_iload_n 2 rfl dX8_areaBoth_56 ?_
  refine vl_iconst dX8_areaBoth_57 ?_
  refine vl_VpI (K' := kX8_side) (d' := 0) (h := 23) (As := [vl_iv a1, vl_iv a2, vl_iv 3]) (st := [vl_iv b9, vl_iv b6, vl_iv b3]) lk_X8_96 (fun _ => rfl) (by omega) n23 s23 rfl rfl (Nat.le_of_ble_eq_true rfl) rfl (Nat.le_of_ble_eq_true rfl) dX8_areaBoth_58 hE (fun _ h => vx_X8_side hG (Nat.le_refl _) h) (fun b10 hE => ?_)
  refine vl_aload_n 0 rfl dX8_areaBoth_61 ?_
  refine vl_iload_n 3 rfl dX8_areaBoth_62 ?_
  refine vl_iload 4 rfl dX8_areaBoth_63 ?_
  refine vl_iconst dX8_areaBoth_65 ?_
  refine vl_VpI (K' := kX8_side) (d' := 0) (h := 23) (As := [vl_iv a3, vl_iv a4, vl_iv 3]) (st := [vl_iv b10, vl_iv b9, vl_iv b6, vl_iv b3]) lk_X8_96 (fun _ => rfl) (by omega) n23 s23 rfl rfl (Nat.le_of_ble_eq_true rfl) rfl (Nat.le_of_ble_eq_true rfl) dX8_areaBoth_66 hE (fun _ h => vx_X8_side hG (Nat.le_refl _) h) (fun b11 hE => ?_)
  refine vl_SpI (K' := kX8_greater) (d' := 0) (As := [vl_iv b10, vl_iv b11]) (st := [vl_iv b9, vl_iv b6, vl_iv b3]) lk_X8_108 (fun _ => rfl) (by omega) rfl (Nat.le_of_ble_eq_true rfl) rfl (Nat.le_of_ble_eq_true rfl) dX8_areaBoth_69 hE (fun _ h => vx_X8_greater hG (Nat.le_refl _) h) (fun b12 hE => ?_)
  refine vl_SpJ (K' := kX8_area) (d' := 0) (As := [vl_iv b3, vl_iv b6, vl_iv b9, vl_iv b12]) (st := []) lk_X8_100 (fun _ => rfl) (by omega) rfl (Nat.le_of_ble_eq_true rfl) rfl (Nat.le_of_ble_eq_true rfl) dX8_areaBoth_72 hE (fun _ h => vx_X8_area hG (Nat.le_refl _) h) (fun b13 hE => ?_)
  exact vl_ret (r := b13) rfl dX8_areaBoth_75 hE (hP' (b13))
set_option maxRecDepth 100000 in
set_option maxHeartbeats 4000000 in
theorem vx_X8_areaOf {nc : Nat} {S : vl_Sh} {sc : Nat × (Nat → Int32)} (hG : vl_G3 nc S) {d : Nat} (hd : 1 ≤ d) {Post : Int → vl_M → vl_M → Prop} {μ m : vl_M} {a1 a2 : Int} (hE : vl_ok (fun r : Int => Post r μ m) (fn_X8_areaOf m a1 a2)) : vl_V nc S sc kX8_areaOf d Post 0 [(0, .ref 23), (1, vl_iv a1), (2, vl_iv a2)] [] μ m := by
  generalize hP : (fun r : Int => Post r μ m) = P at hE
  have hP' : ∀ r : Int, P r → Post r μ m := fun b h => by rw [← hP] at h; exact h
  clear hP
  have s23 : S 23 = .inr (8, [0, 0, 0, 27, 28, 0, 29, 30, 31, 32, 33, 0, 0, 0, 0, 34, 35, 0, 36, 0, 0, 37, 38, 39, 0, 0, 0, 0, 0, 1, 40, 41, 42, 43, 44, 45, 46, 0, 47, 48, 49]) := hG.2 23 (by decide) (by decide)
  have n23 : 23 < nc := Nat.lt_of_lt_of_le (by decide) hG.1
  unfold fn_X8_areaOf at hE
  refine vl_aload_n 0 rfl dX8_areaOf_0 ?_
  refine vl_iload_n 1 rfl dX8_areaOf_1 ?_
  refine vl_iload_n 2 rfl dX8_areaOf_2 ?_
  refine vl_iconst dX8_areaOf_3 ?_
  refine vl_VpI (K' := kX8_side) (d' := 0) (h := 23) (As := [vl_iv a1, vl_iv a2, vl_iv 0]) (st := []) lk_X8_96 (fun _ => rfl) (by omega) n23 s23 rfl rfl (Nat.le_of_ble_eq_true rfl) rfl (Nat.le_of_ble_eq_true rfl) dX8_areaOf_4 hE (fun _ h => vx_X8_side hG (Nat.le_refl _) h) (fun b1 hE => ?_)
  refine vl_aload_n 0 rfl dX8_areaOf_7 ?_
  refine vl_iload_n 1 rfl dX8_areaOf_8 ?_
  refine vl_iload_n 2 rfl dX8_areaOf_9 ?_
  refine vl_iconst dX8_areaOf_10 ?_
  refine vl_VpI (K' := kX8_side) (d' := 0) (h := 23) (As := [vl_iv a1, vl_iv a2, vl_iv 1]) (st := [vl_iv b1]) lk_X8_96 (fun _ => rfl) (by omega) n23 s23 rfl rfl (Nat.le_of_ble_eq_true rfl) rfl (Nat.le_of_ble_eq_true rfl) dX8_areaOf_11 hE (fun _ h => vx_X8_side hG (Nat.le_refl _) h) (fun b2 hE => ?_)
  refine vl_aload_n 0 rfl dX8_areaOf_14 ?_
  refine vl_iload_n 1 rfl dX8_areaOf_15 ?_
  refine vl_iload_n 2 rfl dX8_areaOf_16 ?_
  refine vl_iconst dX8_areaOf_17 ?_
  refine vl_VpI (K' := kX8_side) (d' := 0) (h := 23) (As := [vl_iv a1, vl_iv a2, vl_iv 2]) (st := [vl_iv b2, vl_iv b1]) lk_X8_96 (fun _ => rfl) (by omega) n23 s23 rfl rfl (Nat.le_of_ble_eq_true rfl) rfl (Nat.le_of_ble_eq_true rfl) dX8_areaOf_18 hE (fun _ h => vx_X8_side hG (Nat.le_refl _) h) (fun b3 hE => ?_)
  refine vl_aload_n 0 rfl dX8_areaOf_21 ?_
  refine vl_iload_n 1 rfl dX8_areaOf_22 ?_
  refine vl_iload_n 2 rfl dX8_areaOf_23 ?_
  refine vl_iconst dX8_areaOf_24 ?_
  refine vl_VpI (K' := kX8_side) (d' := 0) (h := 23) (As := [vl_iv a1, vl_iv a2, vl_iv 3]) (st := [vl_iv b3, vl_iv b2, vl_iv b1]) lk_X8_96 (fun _ => rfl) (by omega) n23 s23 rfl rfl (Nat.le_of_ble_eq_true rfl) rfl (Nat.le_of_ble_eq_true rfl) dX8_areaOf_25 hE (fun _ h => vx_X8_side hG (Nat.le_refl _) h) (fun b4 hE => ?_)
  refine vl_SpJ (K' := kX8_area) (d' := 0) (As := [vl_iv b1, vl_iv b2, vl_iv b3, vl_iv b4]) (st := []) lk_X8_100 (fun _ => rfl) (by omega) rfl (Nat.le_of_ble_eq_true rfl) rfl (Nat.le_of_ble_eq_true rfl) dX8_areaOf_28 hE (fun _ h => vx_X8_area hG (Nat.le_refl _) h) (fun b5 hE => ?_)
  exact vl_ret (r := b5) rfl dX8_areaOf_31 hE (hP' (b5))
set_option maxRecDepth 100000 in
set_option maxHeartbeats 4000000 in
theorem vx_X8_clear {nc : Nat} {S : vl_Sh} {sc : Nat × (Nat → Int32)} (hG : vl_G3 nc S) {N : Nat} {d : Nat} (hd : 1 ≤ d) {Post : Int → vl_M → vl_M → Prop} {μ m : vl_M} (hE : vl_ok (fun b : Int × vl_M => Post b.1 μ b.2) (fn_X8_clear N m )) : vl_V nc S sc kX8_clear d Post 0 [(0, .ref 23)] [] μ m := by
  generalize hP : (fun b : Int × vl_M => Post b.1 μ b.2) = P at hE
  have hP' : ∀ b : Int × vl_M, P b → Post b.1 μ b.2 := fun b h => by rw [← hP] at h; exact h
  clear hP
  have s23 : S 23 = .inr (8, [0, 0, 0, 27, 28, 0, 29, 30, 31, 32, 33, 0, 0, 0, 0, 34, 35, 0, 36, 0, 0, 37, 38, 39, 0, 0, 0, 0, 0, 1, 40, 41, 42, 43, 44, 45, 46, 0, 47, 48, 49]) := hG.2 23 (by decide) (by decide)
  have n23 : 23 < nc := Nat.lt_of_lt_of_le (by decide) hG.1
  have s24 : S 24 = .inl 401 := hG.2 24 (by decide) (by decide)
  have n24 : 24 < nc := Nat.lt_of_lt_of_le (by decide) hG.1
  have s26 : S 26 = .inl 500 := hG.2 26 (by decide) (by decide)
  have n26 : 26 < nc := Nat.lt_of_lt_of_le (by decide) hG.1
  unfold fn_X8_clear at hE
  refine vl_aload_n 0 rfl dX8_clear_0 ?_
  refine vl_getIr (h := 23) (k0 := 5) (ki := 5) iu_X8 n23 (by decide) s23 rfl (by decide) fk_X8_181 rfl rfl dX8_clear_1 ?_
  refine vl_istore_n rfl (fun v1 => [(1, vl_iv v1), (0, .ref 23)]) dX8_clear_4 (by decide) (fun _ => rfl) hE (fun v1 hE => ?_)
  refine vl_aload_n 1 rfl dX8_clear_5 ?_
  refine vl_iconst dX8_clear_6 ?_
  refine vl_putIr (h := 23) (k0 := 5) (ki := 5) iu_X8 tyX8_ok nmX8 n23 (by decide) s23 rfl (by decide) fk_X8_181 rfl rfl rfl (vl_nI _) dX8_clear_7 hE (fun m2 hE => ?_)
  refine vl_aload_n 1 rfl dX8_clear_10 ?_
  refine vl_iconst dX8_clear_11 ?_
  refine vl_putIr (h := 23) (k0 := 20) (ki := 20) iu_X8 tyX8_ok nmX8 n23 (by decide) s23 rfl (by decide) fk_X8_184 rfl rfl rfl (vl_nZ (by decide)) dX8_clear_12 hE (fun m3 hE => ?_)
  refine vl_iconst dX8_clear_15 ?_
  refine vl_istore_n0 rfl (lv' := [(2, vl_iv 0), (1, vl_iv v1), (0, .ref 23)]) dX8_clear_16 (by decide) rfl ?_
  refine vl_lpr (F := fun κ : Int → vl_M → Option (Int × vl_M) => fn_X8_clear_L17 N v1 κ N 0 m3) (J := fun κ => ∀ (v6 : Int) (m7 : vl_M), vl_ok P (κ v6 m7) → vl_V nc S sc kX8_clear d Post 38 [(0, .ref 23), (1, vl_iv v1)] [] μ m7) ?_ hE (fun κ hκL175 hE => ?_)
  · intro v6 m7 hE
    refine vl_iconst dX8_clear_38 ?_
    refine vl_istore_n0 rfl (lv' := [(2, vl_iv 0), (0, .ref 23), (1, vl_iv v1)]) dX8_clear_39 (by decide) rfl ?_
    refine vl_lpr (F := fun κ : Int → vl_M → Option (Int × vl_M) => fn_X8_clear_L40 N v1 κ N 0 m7) (J := fun κ => ∀ (v10 : Int) (m11 : vl_M), vl_ok P (κ v10 m11) → vl_V nc S sc kX8_clear d Post 61 [(0, .ref 23), (1, vl_iv v1)] [] μ m11) ?_ hE (fun κ hκL409 hE => ?_)
    · intro v10 m11 hE
      refine vl_aload_n 0 rfl dX8_clear_61 ?_
      refine vl_aload_n 0 rfl dX8_clear_62 ?_
      refine vl_iconst dX8_clear_63 ?_
      refine vl_VrWI (K' := kX8_node) (d' := 0) (h := 23) (As := [vl_iv 0]) (st := [.ref 23]) lk_X8_89 (fun _ => rfl) (by omega) n23 s23 rfl rfl (Nat.le_of_ble_eq_true rfl) rfl (Nat.le_of_ble_eq_true rfl) dX8_clear_64 hE (fun _ h => vx_X8_node hG (Nat.le_refl _) h) (fun b12 m13 hE => ?_)
      refine vl_putIr (h := 23) (k0 := 11) (ki := 11) iu_X8 tyX8_ok nmX8 n23 (by decide) s23 rfl (by decide) fk_X8_93 rfl rfl rfl (vl_nI _) dX8_clear_67 hE (fun m14 hE => ?_)
      refine vl_iload_n 1 rfl dX8_clear_70 ?_
      exact vl_ret (r := v1) rfl dX8_clear_71 hE (hP' (v1, m14))
    have hL40_ : ∀ (n : Nat) (v8 : Int) (m9 : vl_M), vl_ok P (fn_X8_clear_L40 N v1 κ n v8 m9) → vl_V nc S sc kX8_clear d Post 40 [(0, .ref 23), (1, vl_iv v1), (2, vl_iv v8)] [] μ m9 := by
      intro n
      induction n with
      | zero => intro v8 m9 hE; exact vl_no hE
      | succ n ih40_ =>
        intro v8 m9 hE
        rw [fn_X8_clear_L40] at hE
        refine vl_iload_n 2 rfl dX8_clear_40 ?_
        refine vl_sipush (by decide) dX8_clear_41 ?_
        obtain ⟨g15, hE⟩ := vl_ok_gd hE
        refine vl_icmp_ge (tgt := 61) dX8_clear_44 (by decide) g15 (by decide) hE (fun c20 hE => ?_) (fun c20 hE => ?_)
        · exact vl_wk [0, 1] rfl (hκL409 v8 m9 hE)
        · refine vl_aload_n 0 rfl dX8_clear_47 ?_
          refine vl_getR (h := 23) (k0 := 6) (h2 := 26) iu_X8 n23 s23 rfl (by decide) fk_X8_20 rfl dX8_clear_48 ?_
          refine vl_iload_n 2 rfl dX8_clear_51 ?_
          refine vl_bipush (by decide) dX8_clear_52 ?_
          refine vl_astr (h := 26) (n := 500) (ni := 500) n26 (by decide) s26 (by decide) rfl dX8_clear_54 hE (fun g17 g18 m16 hE => ?_)
          refine vl_iinc 2 (fun v19 => [(2, vl_iv v19), (0, .ref 23), (1, vl_iv v1)]) dX8_clear_55 rfl (by decide) (fun _ => rfl) hE (fun v19 hE => ?_)
          refine vl_goto (tgt := 40) dX8_clear_58 (by decide) ?_
          exact vl_wk [1, 2, 0] rfl (ih40_ v19 m16 hE)
    exact vl_wk [1, 2, 0] rfl (hL40_ N 0 m7 hE)
  have hL17_ : ∀ (n : Nat) (v4 : Int) (m5 : vl_M), vl_ok P (fn_X8_clear_L17 N v1 κ n v4 m5) → vl_V nc S sc kX8_clear d Post 17 [(0, .ref 23), (1, vl_iv v1), (2, vl_iv v4)] [] μ m5 := by
    intro n
    induction n with
    | zero => intro v4 m5 hE; exact vl_no hE
    | succ n ih17_ =>
      intro v4 m5 hE
      rw [fn_X8_clear_L17] at hE
      refine vl_iload_n 2 rfl dX8_clear_17 ?_
      refine vl_sipush (by decide) dX8_clear_18 ?_
      obtain ⟨g21, hE⟩ := vl_ok_gd hE
      refine vl_icmp_gt (tgt := 38) dX8_clear_21 (by decide) g21 (by decide) hE (fun c26 hE => ?_) (fun c26 hE => ?_)
      · exact vl_wk [0, 1] rfl (hκL175 v4 m5 hE)
      · refine vl_aload_n 0 rfl dX8_clear_24 ?_
        refine vl_getR (h := 23) (k0 := 3) (h2 := 24) iu_X8 n23 s23 rfl (by decide) fk_X8_13 rfl dX8_clear_25 ?_
        refine vl_iload_n 2 rfl dX8_clear_28 ?_
        refine vl_bipush (by decide) dX8_clear_29 ?_
        refine vl_astr (h := 24) (n := 401) (ni := 401) n24 (by decide) s24 (by decide) rfl dX8_clear_31 hE (fun g23 g24 m22 hE => ?_)
        refine vl_iinc 2 (fun v25 => [(2, vl_iv v25), (0, .ref 23), (1, vl_iv v1)]) dX8_clear_32 rfl (by decide) (fun _ => rfl) hE (fun v25 hE => ?_)
        refine vl_goto (tgt := 17) dX8_clear_35 (by decide) ?_
        exact vl_wk [1, 2, 0] rfl (ih17_ v25 m22 hE)
  exact vl_wk [2, 1, 0] rfl (hL17_ N 0 m3 hE)
set_option maxRecDepth 100000 in
set_option maxHeartbeats 4000000 in
theorem vx_X8_come {nc : Nat} {S : vl_Sh} {sc : Nat × (Nat → Int32)} (hG : vl_G3 nc S) {N : Nat} {d : Nat} (hd : 1 ≤ d) {Post : Int → vl_M → vl_M → Prop} {μ m : vl_M} {a1 a2 a3 a4 : Int} (hE : vl_ok (fun b : Int × vl_M => Post b.1 μ b.2) (fn_X8_come N m a1 a2 a3 a4)) : vl_V nc S sc kX8_come d Post 0 [(0, .ref 23), (1, vl_iv a1), (2, vl_iv a2), (3, vl_iv a3), (4, vl_iv a4)] [] μ m := by
  generalize hP : (fun b : Int × vl_M => Post b.1 μ b.2) = P at hE
  have hP' : ∀ b : Int × vl_M, P b → Post b.1 μ b.2 := fun b h => by rw [← hP] at h; exact h
  clear hP
  have s23 : S 23 = .inr (8, [0, 0, 0, 27, 28, 0, 29, 30, 31, 32, 33, 0, 0, 0, 0, 34, 35, 0, 36, 0, 0, 37, 38, 39, 0, 0, 0, 0, 0, 1, 40, 41, 42, 43, 44, 45, 46, 0, 47, 48, 49]) := hG.2 23 (by decide) (by decide)
  have n23 : 23 < nc := Nat.lt_of_lt_of_le (by decide) hG.1
  have s37 : S 37 = .inl 11 := hG.2 37 (by decide) (by decide)
  have n37 : 37 < nc := Nat.lt_of_lt_of_le (by decide) hG.1
  have s38 : S 38 = .inl 11 := hG.2 38 (by decide) (by decide)
  have n38 : 38 < nc := Nat.lt_of_lt_of_le (by decide) hG.1
  have s39 : S 39 = .inl 11 := hG.2 39 (by decide) (by decide)
  have n39 : 39 < nc := Nat.lt_of_lt_of_le (by decide) hG.1
  have s40 : S 40 = .inl 8 := hG.2 40 (by decide) (by decide)
  have n40 : 40 < nc := Nat.lt_of_lt_of_le (by decide) hG.1
  have s41 : S 41 = .inl 2 := hG.2 41 (by decide) (by decide)
  have n41 : 41 < nc := Nat.lt_of_lt_of_le (by decide) hG.1
  unfold fn_X8_come at hE
  refine vl_aload_n 0 rfl dX8_come_0 ?_
  refine vl_getR (h := 23) (k0 := 31) (h2 := 38) iu_X8 n23 s23 rfl (by decide) fk_X8_56 rfl dX8_come_1 ?_
  refine vl_iload_n 1 rfl dX8_come_4 ?_
  refine vl_iload_n 2 rfl dX8_come_5 ?_
  refine vl_astr (h := 38) (n := 11) (ni := 11) n38 (by decide) s38 (by decide) rfl dX8_come_6 hE (fun g2 g3 m1 hE => ?_)
  refine vl_aload_n 0 rfl dX8_come_7 ?_
  refine vl_getR (h := 23) (k0 := 32) (h2 := 39) iu_X8 n23 s23 rfl (by decide) fk_X8_59 rfl dX8_come_8 ?_
  refine vl_iload 4 rfl dX8_come_11 ?_
  refine vl_iload_n 1 rfl dX8_come_13 ?_
  refine vl_astr (h := 39) (n := 11) (ni := 11) n39 (by decide) s39 (by decide) rfl dX8_come_14 hE (fun g5 g6 m4 hE => ?_)
  refine vl_iconst dX8_come_15 ?_
  refine vl_istore0 (lv' := [(5, vl_iv 0), (0, .ref 23), (1, vl_iv a1), (2, vl_iv a2), (3, vl_iv a3), (4, vl_iv a4)]) dX8_come_16 (by decide) rfl ?_
  refine vl_lpr (F := fun κ : Int → vl_M → Option (Int × vl_M) => fn_X8_come_L18 N a1 a2 a3 a4 κ N 0 m4) (J := fun κ => ∀ (v9 : Int) (m10 : vl_M), vl_ok P (κ v9 m10) → vl_V nc S sc kX8_come d Post 111 [(0, .ref 23), (2, vl_iv a2), (4, vl_iv a4)] [] μ m10) ?_ hE (fun κ hκL188 hE => ?_)
  · intro v9 m10 hE
    refine vl_aload_n 0 rfl dX8_come_111 ?_
    refine vl_getR (h := 23) (k0 := 34) (h2 := 41) iu_X8 n23 s23 rfl (by decide) fk_X8_65 rfl dX8_come_112 ?_
    refine vl_iload_n 1 rfl dX8_come_115 ?_
    refine vl_iconst dX8_come_116 ?_
    refine vl_isub dX8_come_117 ?_
    refine vl_dup2 rfl rfl dX8_come_118 ?_
    refine vl_aldr (h := 41) (n := 2) (ni := 2) n41 (by decide) s41 (by decide) rfl dX8_come_119 hE (fun g11 g12 hE => ?_)
    refine vl_iconst dX8_come_120 ?_
    refine vl_iadd dX8_come_121 ?_
    refine vl_astr1 (h := 41) (n := 2) (ni := 2) n41 (by decide) s41 (by decide) rfl g11 dX8_come_122 hE (fun m13 hE => ?_)
    refine vl_iload 2 rfl dX8_come_123 ?_
    refine vl_iconst dX8_come_125 ?_
    refine vl_iadd dX8_come_126 ?_
    exact vl_ret (r := (a4 + 1)) rfl dX8_come_127 hE (hP' ((a4 + 1), m13))
  have hL18_ : ∀ (n : Nat) (v7 : Int) (m8 : vl_M), vl_ok P (fn_X8_come_L18 N a1 a2 a3 a4 κ n v7 m8) → vl_V nc S sc kX8_come d Post 18 [(0, .ref 23), (1, vl_iv a1), (2, vl_iv a2), (3, vl_iv a3), (4, vl_iv a4), (5, vl_iv v7)] [] μ m8 := by
    intro n
    induction n with
    | zero => intro v7 m8 hE; exact vl_no hE
    | succ n ih18_ =>
      intro v7 m8 hE
      rw [fn_X8_come_L18] at hE
      refine vl_iload 5 rfl dX8_come_18 ?_
      refine vl_iconst dX8_come_20 ?_
      obtain ⟨g14, hE⟩ := vl_ok_gd hE
      refine vl_icmp_ge (tgt := 111) dX8_come_21 (by decide) g14 (by decide) hE (fun c34 hE => ?_) (fun c34 hE => ?_)
      · exact vl_wk [0, 2, 4] rfl (hκL188 v7 m8 hE)
      · refine vl_aload_n 0 rfl dX8_come_24 ?_
        refine vl_iload_n 3 rfl dX8_come_25 ?_
        refine vl_aload_n 0 rfl dX8_come_26 ?_
        refine vl_getR (h := 23) (k0 := 30) (h2 := 37) iu_X8 n23 s23 rfl (by decide) fk_X8_53 rfl dX8_come_27 ?_
        refine vl_iload_n 1 rfl dX8_come_30 ?_
        refine vl_aldr1 (h := 37) (n := 11) (ni := 11) n37 (by decide) s37 (by decide) rfl g2 dX8_come_31 ?_
        refine vl_iload 5 rfl dX8_come_32 ?_
        refine vl_VpI (K' := kX8_side) (d' := 0) (h := 23) (As := [vl_iv a3, vl_iv (m8 37 a1), vl_iv v7]) (st := []) lk_X8_96 (fun _ => rfl) (by omega) n23 s23 rfl rfl (Nat.le_of_ble_eq_true rfl) rfl (Nat.le_of_ble_eq_true rfl) dX8_come_34 hE (fun _ h => vx_X8_side hG (Nat.le_refl _) h) (fun b15 hE => ?_)
        refine vl_istore0 (lv' := [(6, vl_iv b15), (0, .ref 23), (1, vl_iv a1), (2, vl_iv a2), (3, vl_iv a3), (4, vl_iv a4), (5, vl_iv v7)]) dX8_come_37 (by decide) rfl ?_
        refine vl_iconst dX8_come_39 ?_
        refine vl_iload_n 3 rfl dX8_come_40 ?_
        refine vl_iconst dX8_come_41 ?_
        refine vl_isub dX8_come_42 ?_
        refine vl_imul dX8_come_43 ?_
        refine vl_iload 6 rfl dX8_come_44 ?_
        refine vl_iadd dX8_come_46 ?_
        refine vl_istore (fun v16 => [(7, vl_iv v16), (6, vl_iv b15), (0, .ref 23), (1, vl_iv a1), (2, vl_iv a2), (3, vl_iv a3), (4, vl_iv a4), (5, vl_iv v7)]) dX8_come_47 (by decide) (fun _ => rfl) hE (fun v16 hE => ?_)
        refine vl_aload_n 2 rfl dX8_come_49 ?_
        refine vl_getR (h := 23) (k0 := 33) (h2 := 40) iu_X8 n23 s23 rfl (by decide) fk_X8_62 rfl dX8_come_50 ?_
        refine vl_iload 0 rfl dX8_come_53 ?_
        refine vl_aload_n 2 rfl dX8_come_55 ?_
        refine vl_getR (h := 23) (k0 := 34) (h2 := 41) iu_X8 n23 s23 rfl (by decide) fk_X8_65 rfl dX8_come_56 ?_
        refine vl_iload_n 4 rfl dX8_come_59 ?_
        refine vl_iconst dX8_come_60 ?_
        refine vl_isub dX8_come_61 ?_
        refine vl_aldr (h := 41) (n := 2) (ni := 2) n41 (by decide) s41 (by decide) rfl dX8_come_62 hE (fun g17 g18 hE => ?_)
        obtain ⟨g19, hE⟩ := vl_ok_gd hE
        refine vl_jnr (J := fun κ : Int → Option (Int × vl_M) => ∀ (v20 : Int), vl_ok P (κ v20) → vl_V nc S sc kX8_come d Post 104 [(0, .ref 23), (1, vl_iv a1), (2, vl_iv a2), (3, vl_iv a3), (4, vl_iv a4), (5, vl_iv v7)] [vl_iv v20, vl_iv v16, .ref 40] μ m8) ?_ hE (fun κ21 hκ21 hE => ?_)
        · intro v20 hE
          refine vl_astr (h := 40) (n := 8) (ni := 8) n40 (by decide) s40 (by decide) rfl dX8_come_104 hE (fun g23 g24 m22 hE => ?_)
          refine vl_iinc 5 (fun v25 => [(5, vl_iv v25), (0, .ref 23), (1, vl_iv a1), (2, vl_iv a2), (3, vl_iv a3), (4, vl_iv a4)]) dX8_come_105 rfl (by decide) (fun _ => rfl) hE (fun v25 hE => ?_)
          refine vl_goto (tgt := 18) dX8_come_108 (by decide) ?_
          exact vl_wk [1, 2, 3, 4, 5, 0] rfl (ih18_ v25 m22 hE)
        refine vl_if_ne (tgt := 71) dX8_come_63 (by decide) g19  hE (fun c33 hE => ?_) (fun c33 hE => ?_)
        · refine vl_iload 7 rfl dX8_come_71 ?_
          refine vl_iconst dX8_come_73 ?_
          refine vl_icmp_ge (tgt := 92) dX8_come_74 (by decide) g14 (by decide) hE (fun c32 hE => ?_) (fun c32 hE => ?_)
          · refine vl_aload_n 2 rfl dX8_come_92 ?_
            refine vl_getR (h := 23) (k0 := 33) (h2 := 40) iu_X8 n23 s23 rfl (by decide) fk_X8_62 rfl dX8_come_93 ?_
            refine vl_iload 0 rfl dX8_come_96 ?_
            refine vl_aldr (h := 40) (n := 8) (ni := 8) n40 (by decide) s40 (by decide) rfl dX8_come_98 hE (fun g26 g27 hE => ?_)
            refine vl_iload 1 rfl dX8_come_99 ?_
            refine vl_SpI (K' := kX8_greater) (d' := 0) (As := [vl_iv (m8 40 v16), vl_iv b15]) (st := [vl_iv v16, .ref 40]) lk_X8_108 (fun _ => rfl) (by omega) rfl (Nat.le_of_ble_eq_true rfl) rfl (Nat.le_of_ble_eq_true rfl) dX8_come_101 hE (fun _ h => vx_X8_greater hG (Nat.le_refl _) h) (fun b28 hE => ?_)
            exact vl_wk [2, 3, 4, 5, 6, 7] rfl (hκ21 b28 hE)
          · refine vl_aload_n 2 rfl dX8_come_77 ?_
            refine vl_getR (h := 23) (k0 := 33) (h2 := 40) iu_X8 n23 s23 rfl (by decide) fk_X8_62 rfl dX8_come_78 ?_
            refine vl_iload 0 rfl dX8_come_81 ?_
            refine vl_aldr (h := 40) (n := 8) (ni := 8) n40 (by decide) s40 (by decide) rfl dX8_come_83 hE (fun g29 g30 hE => ?_)
            refine vl_iload 1 rfl dX8_come_84 ?_
            refine vl_SpI (K' := kX8_lesser) (d' := 0) (As := [vl_iv (m8 40 v16), vl_iv b15]) (st := [vl_iv v16, .ref 40]) lk_X8_104 (fun _ => rfl) (by omega) rfl (Nat.le_of_ble_eq_true rfl) rfl (Nat.le_of_ble_eq_true rfl) dX8_come_86 hE (fun _ h => vx_X8_lesser hG (Nat.le_refl _) h) (fun b31 hE => ?_)
            refine vl_goto (tgt := 104) dX8_come_89 (by decide) ?_
            exact vl_wk [2, 3, 4, 5, 6, 7] rfl (hκ21 b31 hE)
        · refine vl_iload 1 rfl dX8_come_66 ?_
          refine vl_goto (tgt := 104) dX8_come_68 (by decide) ?_
          exact vl_wk [2, 3, 4, 5, 6, 7] rfl (hκ21 b15 hE)
  exact vl_wk [1, 2, 3, 4, 5, 0] rfl (hL18_ N 0 m4 hE)
set_option maxRecDepth 100000 in
set_option maxHeartbeats 4000000 in
theorem vx_X8_far {nc : Nat} {S : vl_Sh} {sc : Nat × (Nat → Int32)} (hG : vl_G3 nc S) {d : Nat} (hd : 1 ≤ d) {Post : Int → vl_M → vl_M → Prop} {μ m : vl_M} {a1 a2 a3 a4 : Int} (hE : vl_ok (fun r : Int => Post r μ m) (fn_X8_far m a1 a2 a3 a4)) : vl_V nc S sc kX8_far d Post 0 [(0, .ref 23), (1, vl_iv a1), (2, vl_iv a2), (3, vl_iv a3), (4, vl_iv a4)] [] μ m := by
  generalize hP : (fun r : Int => Post r μ m) = P at hE
  have hP' : ∀ r : Int, P r → Post r μ m := fun b h => by rw [← hP] at h; exact h
  clear hP
  have s23 : S 23 = .inr (8, [0, 0, 0, 27, 28, 0, 29, 30, 31, 32, 33, 0, 0, 0, 0, 34, 35, 0, 36, 0, 0, 37, 38, 39, 0, 0, 0, 0, 0, 1, 40, 41, 42, 43, 44, 45, 46, 0, 47, 48, 49]) := hG.2 23 (by decide) (by decide)
  have n23 : 23 < nc := Nat.lt_of_lt_of_le (by decide) hG.1
  unfold fn_X8_far at hE
  refine vl_iload_n 3 rfl dX8_far_0 ?_
  refine vl_aload_n 0 rfl dX8_far_1 ?_
  refine vl_iload_n 1 rfl dX8_far_2 ?_
  refine vl_iload_n 2 rfl dX8_far_3 ?_
  refine vl_iconst dX8_far_4 ?_
  refine vl_VpI (K' := kX8_side) (d' := 0) (h := 23) (As := [vl_iv a1, vl_iv a2, vl_iv 0]) (st := [vl_iv a3]) lk_X8_96 (fun _ => rfl) (by omega) n23 s23 rfl rfl (Nat.le_of_ble_eq_true rfl) rfl (Nat.le_of_ble_eq_true rfl) dX8_far_5 hE (fun _ h => vx_X8_side hG (Nat.le_refl _) h) (fun b1 hE => ?_)
  obtain ⟨g2, hE⟩ := vl_ok_gd hE
  obtain ⟨g3, hE⟩ := vl_ok_gd hE
  refine vl_jnr (J := fun κ : Int → Option (Int) => ∀ (v4 : Int), vl_ok P (κ v4) → vl_V nc S sc kX8_far d Post 49 [(0, .ref 23), (1, vl_iv a1), (2, vl_iv a2), (4, vl_iv a4)] [vl_jv v4] μ m) ?_ hE (fun κ5 hκ5 hE => ?_)
  · intro v4 hE
    refine vl_lstore0 (lv' := [(5, vl_jv v4), (0, .ref 23), (1, vl_iv a1), (2, vl_iv a2), (4, vl_iv a4)]) dX8_far_49 (by decide) rfl ?_
    refine vl_iload 4 rfl dX8_far_51 ?_
    refine vl_aload_n 1 rfl dX8_far_53 ?_
    refine vl_iload_n 2 rfl dX8_far_54 ?_
    refine vl_iload_n 3 rfl dX8_far_55 ?_
    refine vl_iconst dX8_far_56 ?_
    refine vl_VpI (K' := kX8_side) (d' := 0) (h := 23) (As := [vl_iv a1, vl_iv a2, vl_iv 1]) (st := [vl_iv a4]) lk_X8_96 (fun _ => rfl) (by omega) n23 s23 rfl rfl (Nat.le_of_ble_eq_true rfl) rfl (Nat.le_of_ble_eq_true rfl) dX8_far_57 hE (fun _ h => vx_X8_side hG (Nat.le_refl _) h) (fun b6 hE => ?_)
    obtain ⟨g7, hE⟩ := vl_ok_gd hE
    obtain ⟨g8, hE⟩ := vl_ok_gd hE
    refine vl_jnr (J := fun κ : Int → Option (Int) => ∀ (v9 : Int), vl_ok P (κ v9) → vl_V nc S sc kX8_far d Post 104 [(5, vl_jv v4)] [vl_jv v9] μ m) ?_ hE (fun κ10 hκ10 hE => ?_)
    · intro v9 hE
      refine vl_lstore0 (lv' := [(7, vl_jv v9), (5, vl_jv v4)]) dX8_far_104 (by decide) rfl ?_
      refine vl_lload 1 rfl dX8_far_106 ?_
      refine vl_lload 1 rfl dX8_far_108 ?_
      refine vl_lmul dX8_far_110 ?_
      refine vl_lload 0 rfl dX8_far_111 ?_
      refine vl_lload 0 rfl dX8_far_113 ?_
      refine vl_lmul dX8_far_115 ?_
      refine vl_ladd dX8_far_116 ?_
      exact vl_ret (r := ((v4 * v4) + (v9 * v9))) rfl dX8_far_117 hE (hP' ((v4 * v4) + (v9 * v9)))
    refine vl_icmp_ge (tgt := 77) dX8_far_60 (by decide) g7 g8 hE (fun c18 hE => ?_) (fun c18 hE => ?_)
    · refine vl_iload 4 rfl dX8_far_77 ?_
      refine vl_aload_n 1 rfl dX8_far_79 ?_
      refine vl_iload_n 2 rfl dX8_far_80 ?_
      refine vl_iload_n 3 rfl dX8_far_81 ?_
      refine vl_iconst dX8_far_82 ?_
      refine vl_VpI (K' := kX8_side) (d' := 0) (h := 23) (As := [vl_iv a1, vl_iv a2, vl_iv 3]) (st := [vl_iv a4]) lk_X8_96 (fun _ => rfl) (by omega) n23 s23 rfl rfl (Nat.le_of_ble_eq_true rfl) rfl (Nat.le_of_ble_eq_true rfl) dX8_far_83 hE (fun _ h => vx_X8_side hG (Nat.le_refl _) h) (fun b11 hE => ?_)
      obtain ⟨g12, hE⟩ := vl_ok_gd hE
      refine vl_icmp_le (tgt := 103) dX8_far_86 (by decide) g7 g12 hE (fun c15 hE => ?_) (fun c15 hE => ?_)
      · refine vl_lconst (x := 0) rfl dX8_far_103 ?_
        exact vl_wk [0] rfl (hκ10 0 hE)
      · refine vl_iload 4 rfl dX8_far_89 ?_
        refine vl_aload_n 1 rfl dX8_far_91 ?_
        refine vl_iload_n 2 rfl dX8_far_92 ?_
        refine vl_iload_n 3 rfl dX8_far_93 ?_
        refine vl_iconst dX8_far_94 ?_
        refine vl_VpI (K' := kX8_side) (d' := 0) (h := 23) (As := [vl_iv a1, vl_iv a2, vl_iv 3]) (st := [vl_iv a4]) lk_X8_96 (fun _ => rfl) (by omega) n23 s23 rfl rfl (Nat.le_of_ble_eq_true rfl) rfl (Nat.le_of_ble_eq_true rfl) dX8_far_95 hE (fun _ h => vx_X8_side hG (Nat.le_refl _) h) (fun b13 hE => ?_)
        refine vl_isub dX8_far_98 ?_
        obtain ⟨g14, hE⟩ := vl_ok_gd hE
        refine vl_i2l g14 dX8_far_99 ?_
        refine vl_goto (tgt := 104) dX8_far_100 (by decide) ?_
        exact vl_wk [0] rfl (hκ10 (a4 - b13) hE)
    · refine vl_aload_n 1 rfl dX8_far_63 ?_
      refine vl_iload_n 2 rfl dX8_far_64 ?_
      refine vl_iload_n 3 rfl dX8_far_65 ?_
      refine vl_iconst dX8_far_66 ?_
      refine vl_VpI (K' := kX8_side) (d' := 0) (h := 23) (As := [vl_iv a1, vl_iv a2, vl_iv 1]) (st := []) lk_X8_96 (fun _ => rfl) (by omega) n23 s23 rfl rfl (Nat.le_of_ble_eq_true rfl) rfl (Nat.le_of_ble_eq_true rfl) dX8_far_67 hE (fun _ h => vx_X8_side hG (Nat.le_refl _) h) (fun b16 hE => ?_)
      refine vl_iload 4 rfl dX8_far_70 ?_
      refine vl_isub dX8_far_72 ?_
      obtain ⟨g17, hE⟩ := vl_ok_gd hE
      refine vl_i2l g17 dX8_far_73 ?_
      refine vl_goto (tgt := 104) dX8_far_74 (by decide) ?_
      exact vl_wk [0] rfl (hκ10 (b16 - a4) hE)
  refine vl_icmp_ge (tgt := 24) dX8_far_8 (by decide) g2 g3 hE (fun c26 hE => ?_) (fun c26 hE => ?_)
  · refine vl_iload_n 3 rfl dX8_far_24 ?_
    refine vl_aload_n 0 rfl dX8_far_25 ?_
    refine vl_iload_n 1 rfl dX8_far_26 ?_
    refine vl_iload_n 2 rfl dX8_far_27 ?_
    refine vl_iconst dX8_far_28 ?_
    refine vl_VpI (K' := kX8_side) (d' := 0) (h := 23) (As := [vl_iv a1, vl_iv a2, vl_iv 2]) (st := [vl_iv a3]) lk_X8_96 (fun _ => rfl) (by omega) n23 s23 rfl rfl (Nat.le_of_ble_eq_true rfl) rfl (Nat.le_of_ble_eq_true rfl) dX8_far_29 hE (fun _ h => vx_X8_side hG (Nat.le_refl _) h) (fun b19 hE => ?_)
    obtain ⟨g20, hE⟩ := vl_ok_gd hE
    refine vl_icmp_le (tgt := 48) dX8_far_32 (by decide) g2 g20 hE (fun c23 hE => ?_) (fun c23 hE => ?_)
    · refine vl_lconst (x := 0) rfl dX8_far_48 ?_
      exact vl_wk [0, 1, 2, 4] rfl (hκ5 0 hE)
    · refine vl_iload_n 3 rfl dX8_far_35 ?_
      refine vl_aload_n 0 rfl dX8_far_36 ?_
      refine vl_iload_n 1 rfl dX8_far_37 ?_
      refine vl_iload_n 2 rfl dX8_far_38 ?_
      refine vl_iconst dX8_far_39 ?_
      refine vl_VpI (K' := kX8_side) (d' := 0) (h := 23) (As := [vl_iv a1, vl_iv a2, vl_iv 2]) (st := [vl_iv a3]) lk_X8_96 (fun _ => rfl) (by omega) n23 s23 rfl rfl (Nat.le_of_ble_eq_true rfl) rfl (Nat.le_of_ble_eq_true rfl) dX8_far_40 hE (fun _ h => vx_X8_side hG (Nat.le_refl _) h) (fun b21 hE => ?_)
      refine vl_isub dX8_far_43 ?_
      obtain ⟨g22, hE⟩ := vl_ok_gd hE
      refine vl_i2l g22 dX8_far_44 ?_
      refine vl_goto (tgt := 49) dX8_far_45 (by decide) ?_
      exact vl_wk [0, 1, 2, 4] rfl (hκ5 (a3 - b21) hE)
  · refine vl_aload_n 0 rfl dX8_far_11 ?_
    refine vl_iload_n 1 rfl dX8_far_12 ?_
    refine vl_iload_n 2 rfl dX8_far_13 ?_
    refine vl_iconst dX8_far_14 ?_
    refine vl_VpI (K' := kX8_side) (d' := 0) (h := 23) (As := [vl_iv a1, vl_iv a2, vl_iv 0]) (st := []) lk_X8_96 (fun _ => rfl) (by omega) n23 s23 rfl rfl (Nat.le_of_ble_eq_true rfl) rfl (Nat.le_of_ble_eq_true rfl) dX8_far_15 hE (fun _ h => vx_X8_side hG (Nat.le_refl _) h) (fun b24 hE => ?_)
    refine vl_iload_n 3 rfl dX8_far_18 ?_
    refine vl_isub dX8_far_19 ?_
    obtain ⟨g25, hE⟩ := vl_ok_gd hE
    refine vl_i2l g25 dX8_far_20 ?_
    refine vl_goto (tgt := 49) dX8_far_21 (by decide) ?_
    exact vl_wk [0, 1, 2, 4] rfl (hκ5 (b24 - a3) hE)
set_option maxRecDepth 100000 in
set_option maxHeartbeats 4000000 in
theorem vx_X8_isPackedBefore {nc : Nat} {S : vl_Sh} {sc : Nat × (Nat → Int32)} (hG : vl_G3 nc S) {N : Nat} {d : Nat} (hd : 1 ≤ d) {Post : Int → vl_M → vl_M → Prop} {μ m : vl_M} {a1 a2 a3 : Int} (hE : vl_ok (fun r : Int => Post r μ m) (fn_X8_isPackedBefore N m a1 a2 a3)) : vl_V nc S sc kX8_isPackedBefore d Post 0 [(0, .ref 23), (1, vl_iv a1), (2, vl_iv a2), (3, vl_iv a3)] [] μ m := by
  generalize hP : (fun r : Int => Post r μ m) = P at hE
  have hP' : ∀ r : Int, P r → Post r μ m := fun b h => by rw [← hP] at h; exact h
  clear hP
  have s23 : S 23 = .inr (8, [0, 0, 0, 27, 28, 0, 29, 30, 31, 32, 33, 0, 0, 0, 0, 34, 35, 0, 36, 0, 0, 37, 38, 39, 0, 0, 0, 0, 0, 1, 40, 41, 42, 43, 44, 45, 46, 0, 47, 48, 49]) := hG.2 23 (by decide) (by decide)
  have n23 : 23 < nc := Nat.lt_of_lt_of_le (by decide) hG.1
  have s25 : S 25 = .inl 1604 := hG.2 25 (by decide) (by decide)
  have n25 : 25 < nc := Nat.lt_of_lt_of_le (by decide) hG.1
  unfold fn_X8_isPackedBefore at hE
  refine vl_aload_n 0 rfl dX8_isPackedBefore_0 ?_
  refine vl_getR (h := 23) (k0 := 4) (h2 := 25) iu_X8 n23 s23 rfl (by decide) fk_X8_17 rfl dX8_isPackedBefore_1 ?_
  refine vl_iconst dX8_isPackedBefore_4 ?_
  refine vl_iload_n 1 rfl dX8_isPackedBefore_5 ?_
  refine vl_imul dX8_isPackedBefore_6 ?_
  refine vl_aldr (h := 25) (n := 1604) (ni := 1604) n25 (by decide) s25 (by decide) rfl dX8_isPackedBefore_7 hE (fun g1 g2 hE => ?_)
  refine vl_aload_n 0 rfl dX8_isPackedBefore_8 ?_
  refine vl_getR (h := 23) (k0 := 4) (h2 := 25) iu_X8 n23 s23 rfl (by decide) fk_X8_17 rfl dX8_isPackedBefore_9 ?_
  refine vl_iconst dX8_isPackedBefore_12 ?_
  refine vl_iload_n 1 rfl dX8_isPackedBefore_13 ?_
  refine vl_imul dX8_isPackedBefore_14 ?_
  refine vl_iconst dX8_isPackedBefore_15 ?_
  refine vl_iadd dX8_isPackedBefore_16 ?_
  refine vl_aldr (h := 25) (n := 1604) (ni := 1604) n25 (by decide) s25 (by decide) rfl dX8_isPackedBefore_17 hE (fun g3 g4 hE => ?_)
  refine vl_iadd dX8_isPackedBefore_18 ?_
  refine vl_istore (fun v5 => [(4, vl_iv v5), (0, .ref 23), (1, vl_iv a1), (2, vl_iv a2), (3, vl_iv a3)]) dX8_isPackedBefore_19 (by decide) (fun _ => rfl) hE (fun v5 hE => ?_)
  refine vl_aload_n 1 rfl dX8_isPackedBefore_21 ?_
  refine vl_getR (h := 23) (k0 := 4) (h2 := 25) iu_X8 n23 s23 rfl (by decide) fk_X8_17 rfl dX8_isPackedBefore_22 ?_
  refine vl_iconst dX8_isPackedBefore_25 ?_
  refine vl_iload_n 3 rfl dX8_isPackedBefore_26 ?_
  refine vl_imul dX8_isPackedBefore_27 ?_
  refine vl_aldr (h := 25) (n := 1604) (ni := 1604) n25 (by decide) s25 (by decide) rfl dX8_isPackedBefore_28 hE (fun g6 g7 hE => ?_)
  refine vl_aload_n 1 rfl dX8_isPackedBefore_29 ?_
  refine vl_getR (h := 23) (k0 := 4) (h2 := 25) iu_X8 n23 s23 rfl (by decide) fk_X8_17 rfl dX8_isPackedBefore_30 ?_
  refine vl_iconst dX8_isPackedBefore_33 ?_
  refine vl_iload_n 3 rfl dX8_isPackedBefore_34 ?_
  refine vl_imul dX8_isPackedBefore_35 ?_
  refine vl_iconst dX8_isPackedBefore_36 ?_
  refine vl_iadd dX8_isPackedBefore_37 ?_
  refine vl_aldr (h := 25) (n := 1604) (ni := 1604) n25 (by decide) s25 (by decide) rfl dX8_isPackedBefore_38 hE (fun g8 g9 hE => ?_)
  refine vl_iadd dX8_isPackedBefore_39 ?_
  refine vl_istore (fun v10 => [(5, vl_iv v10), (4, vl_iv v5), (0, .ref 23), (1, vl_iv a1), (2, vl_iv a2), (3, vl_iv a3)]) dX8_isPackedBefore_40 (by decide) (fun _ => rfl) hE (fun v10 hE => ?_)
  refine vl_aload_n 2 rfl dX8_isPackedBefore_42 ?_
  refine vl_getR (h := 23) (k0 := 4) (h2 := 25) iu_X8 n23 s23 rfl (by decide) fk_X8_17 rfl dX8_isPackedBefore_43 ?_
  refine vl_iconst dX8_isPackedBefore_46 ?_
  refine vl_iload_n 3 rfl dX8_isPackedBefore_47 ?_
  refine vl_imul dX8_isPackedBefore_48 ?_
  refine vl_iconst dX8_isPackedBefore_49 ?_
  refine vl_iadd dX8_isPackedBefore_50 ?_
  refine vl_aldr (h := 25) (n := 1604) (ni := 1604) n25 (by decide) s25 (by decide) rfl dX8_isPackedBefore_51 hE (fun g11 g12 hE => ?_)
  refine vl_aload_n 2 rfl dX8_isPackedBefore_52 ?_
  refine vl_getR (h := 23) (k0 := 4) (h2 := 25) iu_X8 n23 s23 rfl (by decide) fk_X8_17 rfl dX8_isPackedBefore_53 ?_
  refine vl_iconst dX8_isPackedBefore_56 ?_
  refine vl_iload_n 3 rfl dX8_isPackedBefore_57 ?_
  refine vl_imul dX8_isPackedBefore_58 ?_
  refine vl_iconst dX8_isPackedBefore_59 ?_
  refine vl_iadd dX8_isPackedBefore_60 ?_
  refine vl_aldr (h := 25) (n := 1604) (ni := 1604) n25 (by decide) s25 (by decide) rfl dX8_isPackedBefore_61 hE (fun g13 g14 hE => ?_)
  refine vl_iadd dX8_isPackedBefore_62 ?_
  refine vl_istore (fun v15 => [(6, vl_iv v15), (5, vl_iv v10), (4, vl_iv v5), (0, .ref 23), (1, vl_iv a1), (2, vl_iv a2), (3, vl_iv a3)]) dX8_isPackedBefore_63 (by decide) (fun _ => rfl) hE (fun v15 hE => ?_)
  refine vl_aload_n 3 rfl dX8_isPackedBefore_65 ?_
  refine vl_getR (h := 23) (k0 := 4) (h2 := 25) iu_X8 n23 s23 rfl (by decide) fk_X8_17 rfl dX8_isPackedBefore_66 ?_
  refine vl_iconst dX8_isPackedBefore_69 ?_
  refine vl_iload_n 5 rfl dX8_isPackedBefore_70 ?_
  refine vl_imul dX8_isPackedBefore_71 ?_
  refine vl_iconst dX8_isPackedBefore_72 ?_
  refine vl_iadd dX8_isPackedBefore_73 ?_
  refine vl_aldr (h := 25) (n := 1604) (ni := 1604) n25 (by decide) s25 (by decide) rfl dX8_isPackedBefore_74 hE (fun g16 g17 hE => ?_)
  refine vl_aload_n 3 rfl dX8_isPackedBefore_75 ?_
  refine vl_getR (h := 23) (k0 := 4) (h2 := 25) iu_X8 n23 s23 rfl (by decide) fk_X8_17 rfl dX8_isPackedBefore_76 ?_
  refine vl_iconst dX8_isPackedBefore_79 ?_
  refine vl_iload_n 5 rfl dX8_isPackedBefore_80 ?_
  refine vl_imul dX8_isPackedBefore_81 ?_
  refine vl_iconst dX8_isPackedBefore_82 ?_
  refine vl_iadd dX8_isPackedBefore_83 ?_
  refine vl_aldr (h := 25) (n := 1604) (ni := 1604) n25 (by decide) s25 (by decide) rfl dX8_isPackedBefore_84 hE (fun g18 g19 hE => ?_)
  refine vl_iadd dX8_isPackedBefore_85 ?_
  refine vl_istore (fun v20 => [(7, vl_iv v20), (6, vl_iv v15), (5, vl_iv v10), (4, vl_iv v5), (0, .ref 23), (1, vl_iv a1), (2, vl_iv a2), (3, vl_iv a3)]) dX8_isPackedBefore_86 (by decide) (fun _ => rfl) hE (fun v20 hE => ?_)
  refine vl_iload_n 7 rfl dX8_isPackedBefore_88 ?_
  obtain ⟨g21, hE⟩ := vl_ok_gd hE
  refine vl_jnr (J := fun κ : Unit → Option (Int) => ∀ (u_κ22 : Unit), vl_ok P (κ u_κ22) → vl_V nc S sc kX8_isPackedBefore d Post 112 [(0, .ref 23), (1, vl_iv a1), (2, vl_iv a2), (4, vl_iv v5), (5, vl_iv v10), (6, vl_iv v15), (7, vl_iv v20)] [] μ m) ?_ hE (fun κ22 hκ22 hE => ?_)
  · intro u_κ22 hE
    refine vl_iload 3 rfl dX8_isPackedBefore_112 ?_
    refine vl_iload 4 rfl dX8_isPackedBefore_114 ?_
    obtain ⟨g23, hE⟩ := vl_ok_gd hE
    obtain ⟨g24, hE⟩ := vl_ok_gd hE
    refine vl_icmp_eq (tgt := 134) dX8_isPackedBefore_116 (by decide) g23 g24 hE (fun c32 hE => ?_) (fun c32 hE => ?_)
    · refine vl_iload 5 rfl dX8_isPackedBefore_134 ?_
      refine vl_iload 6 rfl dX8_isPackedBefore_136 ?_
      obtain ⟨g25, hE⟩ := vl_ok_gd hE
      obtain ⟨g26, hE⟩ := vl_ok_gd hE
      refine vl_icmp_eq (tgt := 156) dX8_isPackedBefore_138 (by decide) g25 g26 hE (fun c30 hE => ?_) (fun c30 hE => ?_)
      · refine vl_aload_n 0 rfl dX8_isPackedBefore_156 ?_
        refine vl_iload_n 1 rfl dX8_isPackedBefore_157 ?_
        refine vl_iload_n 2 rfl dX8_isPackedBefore_158 ?_
        refine vl_VpI (K' := kX8_isBefore) (d' := 0) (h := 23) (As := [vl_iv a1, vl_iv a2]) (st := []) lk_X8_231 (fun _ => rfl) (by omega) n23 s23 rfl rfl (Nat.le_of_ble_eq_true rfl) rfl (Nat.le_of_ble_eq_true rfl) dX8_isPackedBefore_159 hE (fun _ h => vx_X8_isBefore hG (Nat.le_refl _) h) (fun b27 hE => ?_)
        obtain ⟨g28, hE⟩ := vl_ok_gd hE
        exact vl_ret (r := b27) rfl ⟨dX8_isPackedBefore_162, g28⟩ hE (hP' (b27))
      · refine vl_iload 5 rfl dX8_isPackedBefore_141 ?_
        refine vl_iload 6 rfl dX8_isPackedBefore_143 ?_
        refine vl_icmp_ge (tgt := 152) dX8_isPackedBefore_145 (by decide) g25 g26 hE (fun c29 hE => ?_) (fun c29 hE => ?_)
        · refine vl_iconst dX8_isPackedBefore_152 ?_
          refine vl_goto (tgt := 162) dX8_isPackedBefore_153 (by decide) ?_
          exact vl_ret (r := 0) rfl ⟨dX8_isPackedBefore_162, by decide⟩ hE (hP' (0))
        · refine vl_iconst dX8_isPackedBefore_148 ?_
          refine vl_goto (tgt := 162) dX8_isPackedBefore_149 (by decide) ?_
          exact vl_ret (r := 1) rfl ⟨dX8_isPackedBefore_162, by decide⟩ hE (hP' (1))
    · refine vl_iload 3 rfl dX8_isPackedBefore_119 ?_
      refine vl_iload 4 rfl dX8_isPackedBefore_121 ?_
      refine vl_icmp_ge (tgt := 130) dX8_isPackedBefore_123 (by decide) g23 g24 hE (fun c31 hE => ?_) (fun c31 hE => ?_)
      · refine vl_iconst dX8_isPackedBefore_130 ?_
        refine vl_goto (tgt := 162) dX8_isPackedBefore_131 (by decide) ?_
        exact vl_ret (r := 0) rfl ⟨dX8_isPackedBefore_162, by decide⟩ hE (hP' (0))
      · refine vl_iconst dX8_isPackedBefore_126 ?_
        refine vl_goto (tgt := 162) dX8_isPackedBefore_127 (by decide) ?_
        exact vl_ret (r := 1) rfl ⟨dX8_isPackedBefore_162, by decide⟩ hE (hP' (1))
  refine vl_if_eq (tgt := 112) dX8_isPackedBefore_89 (by decide) g21  hE (fun c37 hE => ?_) (fun c37 hE => ?_)
  · exact vl_wk [4, 5, 6, 3, 2, 1, 0] rfl (hκ22 () hE)
  · refine vl_iload 1 rfl dX8_isPackedBefore_92 ?_
    refine vl_iload 0 rfl dX8_isPackedBefore_94 ?_
    obtain ⟨g33, hE⟩ := vl_ok_gd hE
    obtain ⟨g34, hE⟩ := vl_ok_gd hE
    refine vl_icmp_eq (tgt := 112) dX8_isPackedBefore_96 (by decide) g33 g34 hE (fun c36 hE => ?_) (fun c36 hE => ?_)
    · exact vl_wk [4, 5, 6, 3, 2, 1, 0] rfl (hκ22 () hE)
    · refine vl_iload 1 rfl dX8_isPackedBefore_99 ?_
      refine vl_iload 0 rfl dX8_isPackedBefore_101 ?_
      refine vl_icmp_ge (tgt := 110) dX8_isPackedBefore_103 (by decide) g33 g34 hE (fun c35 hE => ?_) (fun c35 hE => ?_)
      · refine vl_iconst dX8_isPackedBefore_110 ?_
        exact vl_ret (r := 0) rfl ⟨dX8_isPackedBefore_111, by decide⟩ hE (hP' (0))
      · refine vl_iconst dX8_isPackedBefore_106 ?_
        refine vl_goto (tgt := 111) dX8_isPackedBefore_107 (by decide) ?_
        exact vl_ret (r := 1) rfl ⟨dX8_isPackedBefore_111, by decide⟩ hE (hP' (1))
set_option maxRecDepth 100000 in
set_option maxHeartbeats 4000000 in
theorem vx_X8_isRect {nc : Nat} {S : vl_Sh} {sc : Nat × (Nat → Int32)} (hG : vl_G3 nc S) {d : Nat} (hd : 1 ≤ d) {Post : Int → vl_M → vl_M → Prop} {μ m : vl_M} {a0 a1 a2 a3 : Int} (hE : vl_ok (fun r : Int => Post r μ m) (fn_X8_isRect  a0 a1 a2 a3)) : vl_V nc S sc kX8_isRect d Post 0 [(0, vl_iv a0), (1, vl_iv a1), (2, vl_iv a2), (3, vl_iv a3)] [] μ m := by
  generalize hP : (fun r : Int => Post r μ m) = P at hE
  have hP' : ∀ r : Int, P r → Post r μ m := fun b h => by rw [← hP] at h; exact h
  clear hP
  unfold fn_X8_isRect at hE
  refine vl_iload_n 0 rfl dX8_isRect_0 ?_
  refine vl_SpI (K' := kX8_isPlace) (d' := 0) (As := [vl_iv a0]) (st := []) lk_X8_111 (fun _ => rfl) (by omega) rfl (Nat.le_of_ble_eq_true rfl) rfl (Nat.le_of_ble_eq_true rfl) dX8_isRect_1 hE (fun _ h => vx_X8_isPlace hG (Nat.le_refl _) h) (fun b1 hE => ?_)
  obtain ⟨g2, hE⟩ := vl_ok_gd hE
  refine vl_if_eq (tgt := 42) dX8_isRect_4 (by decide) g2  hE (fun c18 hE => ?_) (fun c18 hE => ?_)
  · refine vl_iconst dX8_isRect_42 ?_
    exact vl_ret (r := 0) rfl ⟨dX8_isRect_43, by decide⟩ hE (hP' (0))
  · refine vl_iload_n 1 rfl dX8_isRect_7 ?_
    refine vl_SpI (K' := kX8_isPlace) (d' := 0) (As := [vl_iv a1]) (st := []) lk_X8_111 (fun _ => rfl) (by omega) rfl (Nat.le_of_ble_eq_true rfl) rfl (Nat.le_of_ble_eq_true rfl) dX8_isRect_8 hE (fun _ h => vx_X8_isPlace hG (Nat.le_refl _) h) (fun b3 hE => ?_)
    obtain ⟨g4, hE⟩ := vl_ok_gd hE
    refine vl_if_eq (tgt := 42) dX8_isRect_11 (by decide) g4  hE (fun c17 hE => ?_) (fun c17 hE => ?_)
    · refine vl_iconst dX8_isRect_42 ?_
      exact vl_ret (r := 0) rfl ⟨dX8_isRect_43, by decide⟩ hE (hP' (0))
    · refine vl_iload_n 2 rfl dX8_isRect_14 ?_
      refine vl_SpI (K' := kX8_isPlace) (d' := 0) (As := [vl_iv a2]) (st := []) lk_X8_111 (fun _ => rfl) (by omega) rfl (Nat.le_of_ble_eq_true rfl) rfl (Nat.le_of_ble_eq_true rfl) dX8_isRect_15 hE (fun _ h => vx_X8_isPlace hG (Nat.le_refl _) h) (fun b5 hE => ?_)
      obtain ⟨g6, hE⟩ := vl_ok_gd hE
      refine vl_if_eq (tgt := 42) dX8_isRect_18 (by decide) g6  hE (fun c16 hE => ?_) (fun c16 hE => ?_)
      · refine vl_iconst dX8_isRect_42 ?_
        exact vl_ret (r := 0) rfl ⟨dX8_isRect_43, by decide⟩ hE (hP' (0))
      · refine vl_iload_n 3 rfl dX8_isRect_21 ?_
        refine vl_SpI (K' := kX8_isPlace) (d' := 0) (As := [vl_iv a3]) (st := []) lk_X8_111 (fun _ => rfl) (by omega) rfl (Nat.le_of_ble_eq_true rfl) rfl (Nat.le_of_ble_eq_true rfl) dX8_isRect_22 hE (fun _ h => vx_X8_isPlace hG (Nat.le_refl _) h) (fun b7 hE => ?_)
        obtain ⟨g8, hE⟩ := vl_ok_gd hE
        refine vl_if_eq (tgt := 42) dX8_isRect_25 (by decide) g8  hE (fun c15 hE => ?_) (fun c15 hE => ?_)
        · refine vl_iconst dX8_isRect_42 ?_
          exact vl_ret (r := 0) rfl ⟨dX8_isRect_43, by decide⟩ hE (hP' (0))
        · refine vl_iload_n 0 rfl dX8_isRect_28 ?_
          refine vl_iload_n 2 rfl dX8_isRect_29 ?_
          obtain ⟨g9, hE⟩ := vl_ok_gd hE
          obtain ⟨g10, hE⟩ := vl_ok_gd hE
          refine vl_icmp_gt (tgt := 42) dX8_isRect_30 (by decide) g9 g10 hE (fun c14 hE => ?_) (fun c14 hE => ?_)
          · refine vl_iconst dX8_isRect_42 ?_
            exact vl_ret (r := 0) rfl ⟨dX8_isRect_43, by decide⟩ hE (hP' (0))
          · refine vl_iload_n 1 rfl dX8_isRect_33 ?_
            refine vl_iload_n 3 rfl dX8_isRect_34 ?_
            obtain ⟨g11, hE⟩ := vl_ok_gd hE
            obtain ⟨g12, hE⟩ := vl_ok_gd hE
            refine vl_icmp_gt (tgt := 42) dX8_isRect_35 (by decide) g11 g12 hE (fun c13 hE => ?_) (fun c13 hE => ?_)
            · refine vl_iconst dX8_isRect_42 ?_
              exact vl_ret (r := 0) rfl ⟨dX8_isRect_43, by decide⟩ hE (hP' (0))
            · refine vl_iconst dX8_isRect_38 ?_
              refine vl_goto (tgt := 43) dX8_isRect_39 (by decide) ?_
              exact vl_ret (r := 1) rfl ⟨dX8_isRect_43, by decide⟩ hE (hP' (1))
set_option maxRecDepth 100000 in
set_option maxHeartbeats 4000000 in
theorem vx_X8_leafOf {nc : Nat} {S : vl_Sh} {sc : Nat × (Nat → Int32)} (hG : vl_G3 nc S) {N : Nat} {d : Nat} (hd : 1 ≤ d) {Post : Int → vl_M → vl_M → Prop} {μ m : vl_M} {a1 : Int} (hE : vl_ok (fun r : Int => Post r μ m) (fn_X8_leafOf N m a1)) : vl_V nc S sc kX8_leafOf d Post 0 [(0, .ref 23), (1, vl_iv a1)] [] μ m := by
  generalize hP : (fun r : Int => Post r μ m) = P at hE
  have hP' : ∀ r : Int, P r → Post r μ m := fun b h => by rw [← hP] at h; exact h
  clear hP
  have s23 : S 23 = .inr (8, [0, 0, 0, 27, 28, 0, 29, 30, 31, 32, 33, 0, 0, 0, 0, 34, 35, 0, 36, 0, 0, 37, 38, 39, 0, 0, 0, 0, 0, 1, 40, 41, 42, 43, 44, 45, 46, 0, 47, 48, 49]) := hG.2 23 (by decide) (by decide)
  have n23 : 23 < nc := Nat.lt_of_lt_of_le (by decide) hG.1
  have s26 : S 26 = .inl 500 := hG.2 26 (by decide) (by decide)
  have n26 : 26 < nc := Nat.lt_of_lt_of_le (by decide) hG.1
  have s27 : S 27 = .inl 500 := hG.2 27 (by decide) (by decide)
  have n27 : 27 < nc := Nat.lt_of_lt_of_le (by decide) hG.1
  unfold fn_X8_leafOf at hE
  refine vl_iconst dX8_leafOf_0 ?_
  refine vl_istore_n0 rfl (lv' := [(2, vl_iv 0), (0, .ref 23), (1, vl_iv a1)]) dX8_leafOf_1 (by decide) rfl ?_
  refine vl_lpr (F := fun κ : Int → Option (Int) => fn_X8_leafOf_L2 N m a1 κ N 0) (J := fun κ => ∀ (v2 : Int), vl_ok P (κ v2) → vl_V nc S sc kX8_leafOf d Post 54 [] [] μ m) ?_ hE (fun κ hκL21 hE => ?_)
  · intro v2 hE
    refine vl_bipush (by decide) dX8_leafOf_54 ?_
    exact vl_ret (r := (-2)) rfl dX8_leafOf_56 hE (hP' (-2))
  have hL2_ : ∀ (n : Nat) (v1 : Int), vl_ok P (fn_X8_leafOf_L2 N m a1 κ n v1) → vl_V nc S sc kX8_leafOf d Post 2 [(0, .ref 23), (1, vl_iv a1), (2, vl_iv v1)] [] μ m := by
    intro n
    induction n with
    | zero => intro v1 hE; exact vl_no hE
    | succ n ih2_ =>
      intro v1 hE
      rw [fn_X8_leafOf_L2] at hE
      refine vl_iload_n 2 rfl dX8_leafOf_2 ?_
      refine vl_sipush (by decide) dX8_leafOf_3 ?_
      obtain ⟨g3, hE⟩ := vl_ok_gd hE
      refine vl_icmp_ge (tgt := 54) dX8_leafOf_6 (by decide) g3 (by decide) hE (fun c19 hE => ?_) (fun c19 hE => ?_)
      · exact vl_wk [] rfl (hκL21 v1 hE)
      · refine vl_iconst dX8_leafOf_9 ?_
        refine vl_istore_n0 rfl (lv' := [(3, vl_iv 0), (0, .ref 23), (1, vl_iv a1), (2, vl_iv v1)]) dX8_leafOf_10 (by decide) rfl ?_
        refine vl_lpr (F := fun κ : Int → Option (Int) => fn_X8_leafOf_L11 N m a1 v1 κ N 0) (J := fun κ => ∀ (v5 : Int), vl_ok P (κ v5) → vl_V nc S sc kX8_leafOf d Post 48 [(0, .ref 23), (1, vl_iv a1), (2, vl_iv v1)] [] μ m) ?_ hE (fun κ hκL114 hE => ?_)
        · intro v5 hE
          refine vl_iinc 2 (fun v6 => [(2, vl_iv v6), (0, .ref 23), (1, vl_iv a1)]) dX8_leafOf_48 rfl (by decide) (fun _ => rfl) hE (fun v6 hE => ?_)
          refine vl_goto (tgt := 2) dX8_leafOf_51 (by decide) ?_
          exact vl_wk [1, 2, 0] rfl (ih2_ v6 hE)
        have hL11_ : ∀ (n : Nat) (v4 : Int), vl_ok P (fn_X8_leafOf_L11 N m a1 v1 κ n v4) → vl_V nc S sc kX8_leafOf d Post 11 [(0, .ref 23), (1, vl_iv a1), (2, vl_iv v1), (3, vl_iv v4)] [] μ m := by
          intro n
          induction n with
          | zero => intro v4 hE; exact vl_no hE
          | succ n ih11_ =>
            intro v4 hE
            rw [fn_X8_leafOf_L11] at hE
            refine vl_aload_n 0 rfl dX8_leafOf_11 ?_
            refine vl_getR (h := 23) (k0 := 6) (h2 := 26) iu_X8 n23 s23 rfl (by decide) fk_X8_20 rfl dX8_leafOf_12 ?_
            refine vl_iload_n 2 rfl dX8_leafOf_15 ?_
            refine vl_aldr (h := 26) (n := 500) (ni := 500) n26 (by decide) s26 (by decide) rfl dX8_leafOf_16 hE (fun g7 g8 hE => ?_)
            obtain ⟨g9, hE⟩ := vl_ok_gd hE
            refine vl_if_ne (tgt := 48) dX8_leafOf_17 (by decide) g9  hE (fun c18 hE => ?_) (fun c18 hE => ?_)
            · exact vl_wk [0, 1, 2] rfl (hκL114 v4 hE)
            · refine vl_iload_n 3 rfl dX8_leafOf_20 ?_
              refine vl_aload_n 0 rfl dX8_leafOf_21 ?_
              refine vl_getR (h := 23) (k0 := 7) (h2 := 27) iu_X8 n23 s23 rfl (by decide) fk_X8_23 rfl dX8_leafOf_22 ?_
              refine vl_iload_n 2 rfl dX8_leafOf_25 ?_
              refine vl_aldr1 (h := 27) (n := 500) (ni := 500) n27 (by decide) s27 (by decide) rfl g7 dX8_leafOf_26 ?_
              obtain ⟨g10, hE⟩ := vl_ok_gd hE
              obtain ⟨g11, hE⟩ := vl_ok_gd hE
              refine vl_icmp_ge (tgt := 48) dX8_leafOf_27 (by decide) g10 g11 hE (fun c17 hE => ?_) (fun c17 hE => ?_)
              · exact vl_wk [0, 1, 2] rfl (hκL114 v4 hE)
              · refine vl_aload_n 0 rfl dX8_leafOf_30 ?_
                refine vl_iload_n 2 rfl dX8_leafOf_31 ?_
                refine vl_iload_n 3 rfl dX8_leafOf_32 ?_
                refine vl_VpI (K' := kX8_heldBy) (d' := 0) (h := 23) (As := [vl_iv v1, vl_iv v4]) (st := []) lk_X8_115 (fun _ => rfl) (by omega) n23 s23 rfl rfl (Nat.le_of_ble_eq_true rfl) rfl (Nat.le_of_ble_eq_true rfl) dX8_leafOf_33 hE (fun _ h => vx_X8_heldBy hG (Nat.le_refl _) h) (fun b12 hE => ?_)
                refine vl_iload_n 1 rfl dX8_leafOf_36 ?_
                obtain ⟨g13, hE⟩ := vl_ok_gd hE
                obtain ⟨g14, hE⟩ := vl_ok_gd hE
                refine vl_icmp_ne (tgt := 42) dX8_leafOf_37 (by decide) g13 g14 hE (fun c16 hE => ?_) (fun c16 hE => ?_)
                · refine vl_iinc 3 (fun v15 => [(3, vl_iv v15), (0, .ref 23), (1, vl_iv a1), (2, vl_iv v1)]) dX8_leafOf_42 rfl (by decide) (fun _ => rfl) hE (fun v15 hE => ?_)
                  refine vl_goto (tgt := 11) dX8_leafOf_45 (by decide) ?_
                  exact vl_wk [1, 2, 3, 0] rfl (ih11_ v15 hE)
                · refine vl_iload_n 2 rfl dX8_leafOf_40 ?_
                  exact vl_ret (r := v1) rfl dX8_leafOf_41 hE (hP' (v1))
        exact vl_wk [1, 2, 3, 0] rfl (hL11_ N 0 hE)
  exact vl_wk [1, 2, 0] rfl (hL2_ N 0 hE)
set_option maxRecDepth 100000 in
set_option maxHeartbeats 4000000 in
theorem vx_X8_measure {nc : Nat} {S : vl_Sh} {sc : Nat × (Nat → Int32)} (hG : vl_G3 nc S) {N : Nat} {d : Nat} (hd : 1 ≤ d) {Post : Int → vl_M → vl_M → Prop} {μ m : vl_M} {a1 : Int} (hE : vl_ok (fun b : vl_M => Post 0 μ b) (fn_X8_measure N m a1)) : vl_V nc S sc kX8_measure d Post 0 [(0, .ref 23), (1, vl_iv a1)] [] μ m := by
  generalize hP : (fun b : vl_M => Post 0 μ b) = P at hE
  have hP' : ∀ b : vl_M, P b → Post 0 μ b := fun b h => by rw [← hP] at h; exact h
  clear hP
  have s23 : S 23 = .inr (8, [0, 0, 0, 27, 28, 0, 29, 30, 31, 32, 33, 0, 0, 0, 0, 34, 35, 0, 36, 0, 0, 37, 38, 39, 0, 0, 0, 0, 0, 1, 40, 41, 42, 43, 44, 45, 46, 0, 47, 48, 49]) := hG.2 23 (by decide) (by decide)
  have n23 : 23 < nc := Nat.lt_of_lt_of_le (by decide) hG.1
  have s26 : S 26 = .inl 500 := hG.2 26 (by decide) (by decide)
  have n26 : 26 < nc := Nat.lt_of_lt_of_le (by decide) hG.1
  have s27 : S 27 = .inl 500 := hG.2 27 (by decide) (by decide)
  have n27 : 27 < nc := Nat.lt_of_lt_of_le (by decide) hG.1
  have s29 : S 29 = .inl 2000 := hG.2 29 (by decide) (by decide)
  have n29 : 29 < nc := Nat.lt_of_lt_of_le (by decide) hG.1
  unfold fn_X8_measure at hE
  refine vl_iconst dX8_measure_0 ?_
  refine vl_istore_n0 rfl (lv' := [(2, vl_iv 0), (0, .ref 23), (1, vl_iv a1)]) dX8_measure_1 (by decide) rfl ?_
  refine vl_lpr (F := fun κ : Int → vl_M → Option (vl_M) => fn_X8_measure_L2 N a1 κ N 0 m) (J := fun κ => ∀ (v3 : Int) (m4 : vl_M), vl_ok P (κ v3 m4) → vl_V nc S sc kX8_measure d Post 105 [] [] μ m4) ?_ hE (fun κ hκL22 hE => ?_)
  · intro v3 m4 hE
    exact vl_ret (r := 0) rfl dX8_measure_105 hE (hP' m4)
  have hL2_ : ∀ (n : Nat) (v1 : Int) (m2 : vl_M), vl_ok P (fn_X8_measure_L2 N a1 κ n v1 m2) → vl_V nc S sc kX8_measure d Post 2 [(0, .ref 23), (1, vl_iv a1), (2, vl_iv v1)] [] μ m2 := by
    intro n
    induction n with
    | zero => intro v1 m2 hE; exact vl_no hE
    | succ n ih2_ =>
      intro v1 m2 hE
      rw [fn_X8_measure_L2] at hE
      refine vl_iload_n 2 rfl dX8_measure_2 ?_
      refine vl_iconst dX8_measure_3 ?_
      obtain ⟨g5, hE⟩ := vl_ok_gd hE
      refine vl_icmp_ge (tgt := 105) dX8_measure_4 (by decide) g5 (by decide) hE (fun c29 hE => ?_) (fun c29 hE => ?_)
      · exact vl_wk [] rfl (hκL22 v1 m2 hE)
      · refine vl_iconst dX8_measure_7 ?_
        refine vl_istore_n0 rfl (lv' := [(3, vl_iv 0), (0, .ref 23), (1, vl_iv a1), (2, vl_iv v1)]) dX8_measure_8 (by decide) rfl ?_
        refine vl_lpr (F := fun κ : Int → vl_M → Option (vl_M) => fn_X8_measure_L9 N a1 v1 κ N 0 m2) (J := fun κ => ∀ (v8 : Int) (m9 : vl_M), vl_ok P (κ v8 m9) → vl_V nc S sc kX8_measure d Post 99 [(0, .ref 23), (1, vl_iv a1), (2, vl_iv v1)] [] μ m9) ?_ hE (fun κ hκL97 hE => ?_)
        · intro v8 m9 hE
          refine vl_iinc 2 (fun v10 => [(2, vl_iv v10), (0, .ref 23), (1, vl_iv a1)]) dX8_measure_99 rfl (by decide) (fun _ => rfl) hE (fun v10 hE => ?_)
          refine vl_goto (tgt := 2) dX8_measure_102 (by decide) ?_
          exact vl_wk [1, 2, 0] rfl (ih2_ v10 m9 hE)
        have hL9_ : ∀ (n : Nat) (v6 : Int) (m7 : vl_M), vl_ok P (fn_X8_measure_L9 N a1 v1 κ n v6 m7) → vl_V nc S sc kX8_measure d Post 9 [(0, .ref 23), (1, vl_iv a1), (2, vl_iv v1), (3, vl_iv v6)] [] μ m7 := by
          intro n
          induction n with
          | zero => intro v6 m7 hE; exact vl_no hE
          | succ n ih9_ =>
            intro v6 m7 hE
            rw [fn_X8_measure_L9] at hE
            refine vl_iload_n 3 rfl dX8_measure_9 ?_
            refine vl_aload_n 0 rfl dX8_measure_10 ?_
            refine vl_getR (h := 23) (k0 := 7) (h2 := 27) iu_X8 n23 s23 rfl (by decide) fk_X8_23 rfl dX8_measure_11 ?_
            refine vl_iload_n 1 rfl dX8_measure_14 ?_
            refine vl_aldr (h := 27) (n := 500) (ni := 500) n27 (by decide) s27 (by decide) rfl dX8_measure_15 hE (fun g11 g12 hE => ?_)
            obtain ⟨g13, hE⟩ := vl_ok_gd hE
            obtain ⟨g14, hE⟩ := vl_ok_gd hE
            refine vl_icmp_ge (tgt := 99) dX8_measure_16 (by decide) g13 g14 hE (fun c28 hE => ?_) (fun c28 hE => ?_)
            · exact vl_wk [0, 1, 2] rfl (hκL97 v6 m7 hE)
            · refine vl_aload_n 0 rfl dX8_measure_19 ?_
              refine vl_aload_n 0 rfl dX8_measure_20 ?_
              refine vl_getR (h := 23) (k0 := 6) (h2 := 26) iu_X8 n23 s23 rfl (by decide) fk_X8_20 rfl dX8_measure_21 ?_
              refine vl_iload_n 1 rfl dX8_measure_24 ?_
              refine vl_aldr1 (h := 26) (n := 500) (ni := 500) n26 (by decide) s26 (by decide) rfl g11 dX8_measure_25 ?_
              refine vl_iconst dX8_measure_26 ?_
              refine vl_isub dX8_measure_27 ?_
              refine vl_aload_n 0 rfl dX8_measure_28 ?_
              refine vl_iload_n 1 rfl dX8_measure_29 ?_
              refine vl_iload_n 3 rfl dX8_measure_30 ?_
              refine vl_VpI (K' := kX8_heldBy) (d' := 0) (h := 23) (As := [vl_iv a1, vl_iv v6]) (st := [vl_iv ((m7 26 a1) - 1), .ref 23]) lk_X8_115 (fun _ => rfl) (by omega) n23 s23 rfl rfl (Nat.le_of_ble_eq_true rfl) rfl (Nat.le_of_ble_eq_true rfl) dX8_measure_31 hE (fun _ h => vx_X8_heldBy hG (Nat.le_refl _) h) (fun b15 hE => ?_)
              refine vl_iload_n 2 rfl dX8_measure_34 ?_
              refine vl_VpI (K' := kX8_side) (d' := 0) (h := 23) (As := [vl_iv ((m7 26 a1) - 1), vl_iv b15, vl_iv v1]) (st := []) lk_X8_96 (fun _ => rfl) (by omega) n23 s23 rfl rfl (Nat.le_of_ble_eq_true rfl) rfl (Nat.le_of_ble_eq_true rfl) dX8_measure_35 hE (fun _ h => vx_X8_side hG (Nat.le_refl _) h) (fun b16 hE => ?_)
              refine vl_istore0 (lv' := [(4, vl_iv b16), (0, .ref 23), (1, vl_iv a1), (2, vl_iv v1), (3, vl_iv v6)]) dX8_measure_38 (by decide) rfl ?_
              refine vl_aload_n 1 rfl dX8_measure_40 ?_
              refine vl_getR (h := 23) (k0 := 9) (h2 := 29) iu_X8 n23 s23 rfl (by decide) fk_X8_29 rfl dX8_measure_41 ?_
              refine vl_iconst dX8_measure_44 ?_
              refine vl_iload_n 2 rfl dX8_measure_45 ?_
              refine vl_imul dX8_measure_46 ?_
              refine vl_iload_n 3 rfl dX8_measure_47 ?_
              refine vl_iadd dX8_measure_48 ?_
              refine vl_aldr (h := 29) (n := 2000) (ni := 2000) n29 (by decide) s29 (by decide) rfl dX8_measure_49 hE (fun g17 g18 hE => ?_)
              refine vl_istore (fun v19 => [(5, vl_iv v19), (4, vl_iv b16), (0, .ref 23), (1, vl_iv a1), (2, vl_iv v1), (3, vl_iv v6)]) dX8_measure_50 (by decide) (fun _ => rfl) hE (fun v19 hE => ?_)
              refine vl_aload_n 2 rfl dX8_measure_52 ?_
              refine vl_getR (h := 23) (k0 := 9) (h2 := 29) iu_X8 n23 s23 rfl (by decide) fk_X8_29 rfl dX8_measure_53 ?_
              refine vl_iconst dX8_measure_56 ?_
              refine vl_iload_n 3 rfl dX8_measure_57 ?_
              refine vl_imul dX8_measure_58 ?_
              refine vl_iload_n 4 rfl dX8_measure_59 ?_
              refine vl_iadd dX8_measure_60 ?_
              refine vl_iload_n 5 rfl dX8_measure_61 ?_
              refine vl_jnr (J := fun κ : Int → Option (vl_M) => ∀ (v20 : Int), vl_ok P (κ v20) → vl_V nc S sc kX8_measure d Post 92 [(0, .ref 23), (1, vl_iv a1), (2, vl_iv v1), (3, vl_iv v6)] [vl_iv v20, vl_iv ((4 * a1) + v1), .ref 29] μ m7) ?_ hE (fun κ21 hκ21 hE => ?_)
              · intro v20 hE
                refine vl_astr1 (h := 29) (n := 2000) (ni := 2000) n29 (by decide) s29 (by decide) rfl g17 dX8_measure_92 hE (fun m22 hE => ?_)
                refine vl_iinc 3 (fun v23 => [(3, vl_iv v23), (0, .ref 23), (1, vl_iv a1), (2, vl_iv v1)]) dX8_measure_93 rfl (by decide) (fun _ => rfl) hE (fun v23 hE => ?_)
                refine vl_goto (tgt := 9) dX8_measure_96 (by decide) ?_
                exact vl_wk [1, 2, 3, 0] rfl (ih9_ v23 m22 hE)
              refine vl_if_ne (tgt := 70) dX8_measure_62 (by decide) g13  hE (fun c27 hE => ?_) (fun c27 hE => ?_)
              · refine vl_iload_n 4 rfl dX8_measure_70 ?_
                refine vl_iconst dX8_measure_71 ?_
                refine vl_icmp_ge (tgt := 85) dX8_measure_72 (by decide) g5 (by decide) hE (fun c26 hE => ?_) (fun c26 hE => ?_)
                · refine vl_iload 0 rfl dX8_measure_85 ?_
                  refine vl_iload 1 rfl dX8_measure_87 ?_
                  refine vl_SpI (K' := kX8_greater) (d' := 0) (As := [vl_iv v19, vl_iv b16]) (st := [vl_iv ((4 * a1) + v1), .ref 29]) lk_X8_108 (fun _ => rfl) (by omega) rfl (Nat.le_of_ble_eq_true rfl) rfl (Nat.le_of_ble_eq_true rfl) dX8_measure_89 hE (fun _ h => vx_X8_greater hG (Nat.le_refl _) h) (fun b24 hE => ?_)
                  exact vl_wk [2, 3, 4, 5] rfl (hκ21 b24 hE)
                · refine vl_iload 0 rfl dX8_measure_75 ?_
                  refine vl_iload 1 rfl dX8_measure_77 ?_
                  refine vl_SpI (K' := kX8_lesser) (d' := 0) (As := [vl_iv v19, vl_iv b16]) (st := [vl_iv ((4 * a1) + v1), .ref 29]) lk_X8_104 (fun _ => rfl) (by omega) rfl (Nat.le_of_ble_eq_true rfl) rfl (Nat.le_of_ble_eq_true rfl) dX8_measure_79 hE (fun _ h => vx_X8_lesser hG (Nat.le_refl _) h) (fun b25 hE => ?_)
                  refine vl_goto (tgt := 92) dX8_measure_82 (by decide) ?_
                  exact vl_wk [2, 3, 4, 5] rfl (hκ21 b25 hE)
              · refine vl_iload 1 rfl dX8_measure_65 ?_
                refine vl_goto (tgt := 92) dX8_measure_67 (by decide) ?_
                exact vl_wk [2, 3, 4, 5] rfl (hκ21 b16 hE)
        exact vl_wk [1, 2, 3, 0] rfl (hL9_ N 0 m2 hE)
  exact vl_wk [1, 2, 0] rfl (hL2_ N 0 m hE)
set_option maxRecDepth 100000 in
set_option maxHeartbeats 4000000 in
theorem vx_X8_meet {nc : Nat} {S : vl_Sh} {sc : Nat × (Nat → Int32)} (hG : vl_G3 nc S) {d : Nat} (hd : 1 ≤ d) {Post : Int → vl_M → vl_M → Prop} {μ m : vl_M} {a1 a2 a3 a4 : Int} (hE : vl_ok (fun r : Int => Post r μ m) (fn_X8_meet m a1 a2 a3 a4)) : vl_V nc S sc kX8_meet d Post 0 [(0, .ref 23), (1, vl_iv a1), (2, vl_iv a2), (3, vl_iv a3), (4, vl_iv a4)] [] μ m := by
  generalize hP : (fun r : Int => Post r μ m) = P at hE
  have hP' : ∀ r : Int, P r → Post r μ m := fun b h => by rw [← hP] at h; exact h
  clear hP
  have s23 : S 23 = .inr (8, [0, 0, 0, 27, 28, 0, 29, 30, 31, 32, 33, 0, 0, 0, 0, 34, 35, 0, 36, 0, 0, 37, 38, 39, 0, 0, 0, 0, 0, 1, 40, 41, 42, 43, 44, 45, 46, 0, 47, 48, 49]) := hG.2 23 (by decide) (by decide)
  have n23 : 23 < nc := Nat.lt_of_lt_of_le (by decide) hG.1
  unfold fn_X8_meet at hE
  refine vl_aload_n 0 rfl dX8_meet_0 ?_
  refine vl_iload_n 1 rfl dX8_meet_1 ?_
  refine vl_iload_n 2 rfl dX8_meet_2 ?_
  refine vl_iconst dX8_meet_3 ?_
  refine vl_VpI (K' := kX8_side) (d' := 0) (h := 23) (As := [vl_iv a1, vl_iv a2, vl_iv 0]) (st := []) lk_X8_96 (fun _ => rfl) (by omega) n23 s23 rfl rfl (Nat.le_of_ble_eq_true rfl) rfl (Nat.le_of_ble_eq_true rfl) dX8_meet_4 hE (fun _ h => vx_X8_side hG (Nat.le_refl _) h) (fun b1 hE => ?_)
  refine vl_aload_n 0 rfl dX8_meet_7 ?_
  refine vl_iload_n 3 rfl dX8_meet_8 ?_
  refine vl_iload 4 rfl dX8_meet_9 ?_
  refine vl_iconst dX8_meet_11 ?_
  refine vl_VpI (K' := kX8_side) (d' := 0) (h := 23) (As := [vl_iv a3, vl_iv a4, vl_iv 2]) (st := [vl_iv b1]) lk_X8_96 (fun _ => rfl) (by omega) n23 s23 rfl rfl (Nat.le_of_ble_eq_true rfl) rfl (Nat.le_of_ble_eq_true rfl) dX8_meet_12 hE (fun _ h => vx_X8_side hG (Nat.le_refl _) h) (fun b2 hE => ?_)
  obtain ⟨g3, hE⟩ := vl_ok_gd hE
  obtain ⟨g4, hE⟩ := vl_ok_gd hE
  refine vl_icmp_gt (tgt := 76) dX8_meet_15 (by decide) g3 g4 hE (fun c20 hE => ?_) (fun c20 hE => ?_)
  · refine vl_iconst dX8_meet_76 ?_
    exact vl_ret (r := 0) rfl ⟨dX8_meet_77, by decide⟩ hE (hP' (0))
  · refine vl_aload_n 0 rfl dX8_meet_18 ?_
    refine vl_iload_n 3 rfl dX8_meet_19 ?_
    refine vl_iload 4 rfl dX8_meet_20 ?_
    refine vl_iconst dX8_meet_22 ?_
    refine vl_VpI (K' := kX8_side) (d' := 0) (h := 23) (As := [vl_iv a3, vl_iv a4, vl_iv 0]) (st := []) lk_X8_96 (fun _ => rfl) (by omega) n23 s23 rfl rfl (Nat.le_of_ble_eq_true rfl) rfl (Nat.le_of_ble_eq_true rfl) dX8_meet_23 hE (fun _ h => vx_X8_side hG (Nat.le_refl _) h) (fun b5 hE => ?_)
    refine vl_aload_n 0 rfl dX8_meet_26 ?_
    refine vl_iload_n 1 rfl dX8_meet_27 ?_
    refine vl_iload_n 2 rfl dX8_meet_28 ?_
    refine vl_iconst dX8_meet_29 ?_
    refine vl_VpI (K' := kX8_side) (d' := 0) (h := 23) (As := [vl_iv a1, vl_iv a2, vl_iv 2]) (st := [vl_iv b5]) lk_X8_96 (fun _ => rfl) (by omega) n23 s23 rfl rfl (Nat.le_of_ble_eq_true rfl) rfl (Nat.le_of_ble_eq_true rfl) dX8_meet_30 hE (fun _ h => vx_X8_side hG (Nat.le_refl _) h) (fun b6 hE => ?_)
    obtain ⟨g7, hE⟩ := vl_ok_gd hE
    obtain ⟨g8, hE⟩ := vl_ok_gd hE
    refine vl_icmp_gt (tgt := 76) dX8_meet_33 (by decide) g7 g8 hE (fun c19 hE => ?_) (fun c19 hE => ?_)
    · refine vl_iconst dX8_meet_76 ?_
      exact vl_ret (r := 0) rfl ⟨dX8_meet_77, by decide⟩ hE (hP' (0))
    · refine vl_aload_n 0 rfl dX8_meet_36 ?_
      refine vl_iload_n 1 rfl dX8_meet_37 ?_
      refine vl_iload_n 2 rfl dX8_meet_38 ?_
      refine vl_iconst dX8_meet_39 ?_
      refine vl_VpI (K' := kX8_side) (d' := 0) (h := 23) (As := [vl_iv a1, vl_iv a2, vl_iv 1]) (st := []) lk_X8_96 (fun _ => rfl) (by omega) n23 s23 rfl rfl (Nat.le_of_ble_eq_true rfl) rfl (Nat.le_of_ble_eq_true rfl) dX8_meet_40 hE (fun _ h => vx_X8_side hG (Nat.le_refl _) h) (fun b9 hE => ?_)
      refine vl_aload_n 0 rfl dX8_meet_43 ?_
      refine vl_iload_n 3 rfl dX8_meet_44 ?_
      refine vl_iload 4 rfl dX8_meet_45 ?_
      refine vl_iconst dX8_meet_47 ?_
      refine vl_VpI (K' := kX8_side) (d' := 0) (h := 23) (As := [vl_iv a3, vl_iv a4, vl_iv 3]) (st := [vl_iv b9]) lk_X8_96 (fun _ => rfl) (by omega) n23 s23 rfl rfl (Nat.le_of_ble_eq_true rfl) rfl (Nat.le_of_ble_eq_true rfl) dX8_meet_48 hE (fun _ h => vx_X8_side hG (Nat.le_refl _) h) (fun b10 hE => ?_)
      obtain ⟨g11, hE⟩ := vl_ok_gd hE
      obtain ⟨g12, hE⟩ := vl_ok_gd hE
      refine vl_icmp_gt (tgt := 76) dX8_meet_51 (by decide) g11 g12 hE (fun c18 hE => ?_) (fun c18 hE => ?_)
      · refine vl_iconst dX8_meet_76 ?_
        exact vl_ret (r := 0) rfl ⟨dX8_meet_77, by decide⟩ hE (hP' (0))
      · refine vl_aload_n 0 rfl dX8_meet_54 ?_
        refine vl_iload_n 3 rfl dX8_meet_55 ?_
        refine vl_iload 4 rfl dX8_meet_56 ?_
        refine vl_iconst dX8_meet_58 ?_
        refine vl_VpI (K' := kX8_side) (d' := 0) (h := 23) (As := [vl_iv a3, vl_iv a4, vl_iv 1]) (st := []) lk_X8_96 (fun _ => rfl) (by omega) n23 s23 rfl rfl (Nat.le_of_ble_eq_true rfl) rfl (Nat.le_of_ble_eq_true rfl) dX8_meet_59 hE (fun _ h => vx_X8_side hG (Nat.le_refl _) h) (fun b13 hE => ?_)
        refine vl_aload_n 0 rfl dX8_meet_62 ?_
        refine vl_iload_n 1 rfl dX8_meet_63 ?_
        refine vl_iload_n 2 rfl dX8_meet_64 ?_
        refine vl_iconst dX8_meet_65 ?_
        refine vl_VpI (K' := kX8_side) (d' := 0) (h := 23) (As := [vl_iv a1, vl_iv a2, vl_iv 3]) (st := [vl_iv b13]) lk_X8_96 (fun _ => rfl) (by omega) n23 s23 rfl rfl (Nat.le_of_ble_eq_true rfl) rfl (Nat.le_of_ble_eq_true rfl) dX8_meet_66 hE (fun _ h => vx_X8_side hG (Nat.le_refl _) h) (fun b14 hE => ?_)
        obtain ⟨g15, hE⟩ := vl_ok_gd hE
        obtain ⟨g16, hE⟩ := vl_ok_gd hE
        refine vl_icmp_gt (tgt := 76) dX8_meet_69 (by decide) g15 g16 hE (fun c17 hE => ?_) (fun c17 hE => ?_)
        · refine vl_iconst dX8_meet_76 ?_
          exact vl_ret (r := 0) rfl ⟨dX8_meet_77, by decide⟩ hE (hP' (0))
        · refine vl_iconst dX8_meet_72 ?_
          refine vl_goto (tgt := 77) dX8_meet_73 (by decide) ?_
          exact vl_ret (r := 1) rfl ⟨dX8_meet_77, by decide⟩ hE (hP' (1))
set_option maxRecDepth 100000 in
set_option maxHeartbeats 4000000 in
theorem vx_X8_meets {nc : Nat} {S : vl_Sh} {sc : Nat × (Nat → Int32)} (hG : vl_G3 nc S) {d : Nat} (hd : 1 ≤ d) {Post : Int → vl_M → vl_M → Prop} {μ m : vl_M} {a1 a2 a3 a4 a5 a6 : Int} (hE : vl_ok (fun r : Int => Post r μ m) (fn_X8_meets m a1 a2 a3 a4 a5 a6)) : vl_V nc S sc kX8_meets d Post 0 [(0, .ref 23), (1, vl_iv a1), (2, vl_iv a2), (3, vl_iv a3), (4, vl_iv a4), (5, vl_iv a5), (6, vl_iv a6)] [] μ m := by
  generalize hP : (fun r : Int => Post r μ m) = P at hE
  have hP' : ∀ r : Int, P r → Post r μ m := fun b h => by rw [← hP] at h; exact h
  clear hP
  have s23 : S 23 = .inr (8, [0, 0, 0, 27, 28, 0, 29, 30, 31, 32, 33, 0, 0, 0, 0, 34, 35, 0, 36, 0, 0, 37, 38, 39, 0, 0, 0, 0, 0, 1, 40, 41, 42, 43, 44, 45, 46, 0, 47, 48, 49]) := hG.2 23 (by decide) (by decide)
  have n23 : 23 < nc := Nat.lt_of_lt_of_le (by decide) hG.1
  unfold fn_X8_meets at hE
  refine vl_aload_n 0 rfl dX8_meets_0 ?_
  refine vl_iload_n 1 rfl dX8_meets_1 ?_
  refine vl_iload_n 2 rfl dX8_meets_2 ?_
  refine vl_iconst dX8_meets_3 ?_
  refine vl_VpI (K' := kX8_side) (d' := 0) (h := 23) (As := [vl_iv a1, vl_iv a2, vl_iv 0]) (st := []) lk_X8_96 (fun _ => rfl) (by omega) n23 s23 rfl rfl (Nat.le_of_ble_eq_true rfl) rfl (Nat.le_of_ble_eq_true rfl) dX8_meets_4 hE (fun _ h => vx_X8_side hG (Nat.le_refl _) h) (fun b1 hE => ?_)
  refine vl_iload 5 rfl dX8_meets_7 ?_
  obtain ⟨g2, hE⟩ := vl_ok_gd hE
  obtain ⟨g3, hE⟩ := vl_ok_gd hE
  refine vl_icmp_gt (tgt := 51) dX8_meets_9 (by decide) g2 g3 hE (fun c16 hE => ?_) (fun c16 hE => ?_)
  · refine vl_iconst dX8_meets_51 ?_
    exact vl_ret (r := 0) rfl ⟨dX8_meets_52, by decide⟩ hE (hP' (0))
  · refine vl_iload_n 3 rfl dX8_meets_12 ?_
    refine vl_aload_n 0 rfl dX8_meets_13 ?_
    refine vl_iload_n 1 rfl dX8_meets_14 ?_
    refine vl_iload_n 2 rfl dX8_meets_15 ?_
    refine vl_iconst dX8_meets_16 ?_
    refine vl_VpI (K' := kX8_side) (d' := 0) (h := 23) (As := [vl_iv a1, vl_iv a2, vl_iv 2]) (st := [vl_iv a3]) lk_X8_96 (fun _ => rfl) (by omega) n23 s23 rfl rfl (Nat.le_of_ble_eq_true rfl) rfl (Nat.le_of_ble_eq_true rfl) dX8_meets_17 hE (fun _ h => vx_X8_side hG (Nat.le_refl _) h) (fun b4 hE => ?_)
    obtain ⟨g5, hE⟩ := vl_ok_gd hE
    obtain ⟨g6, hE⟩ := vl_ok_gd hE
    refine vl_icmp_gt (tgt := 51) dX8_meets_20 (by decide) g5 g6 hE (fun c15 hE => ?_) (fun c15 hE => ?_)
    · refine vl_iconst dX8_meets_51 ?_
      exact vl_ret (r := 0) rfl ⟨dX8_meets_52, by decide⟩ hE (hP' (0))
    · refine vl_aload_n 0 rfl dX8_meets_23 ?_
      refine vl_iload_n 1 rfl dX8_meets_24 ?_
      refine vl_iload_n 2 rfl dX8_meets_25 ?_
      refine vl_iconst dX8_meets_26 ?_
      refine vl_VpI (K' := kX8_side) (d' := 0) (h := 23) (As := [vl_iv a1, vl_iv a2, vl_iv 1]) (st := []) lk_X8_96 (fun _ => rfl) (by omega) n23 s23 rfl rfl (Nat.le_of_ble_eq_true rfl) rfl (Nat.le_of_ble_eq_true rfl) dX8_meets_27 hE (fun _ h => vx_X8_side hG (Nat.le_refl _) h) (fun b7 hE => ?_)
      refine vl_iload 6 rfl dX8_meets_30 ?_
      obtain ⟨g8, hE⟩ := vl_ok_gd hE
      obtain ⟨g9, hE⟩ := vl_ok_gd hE
      refine vl_icmp_gt (tgt := 51) dX8_meets_32 (by decide) g8 g9 hE (fun c14 hE => ?_) (fun c14 hE => ?_)
      · refine vl_iconst dX8_meets_51 ?_
        exact vl_ret (r := 0) rfl ⟨dX8_meets_52, by decide⟩ hE (hP' (0))
      · refine vl_iload 4 rfl dX8_meets_35 ?_
        refine vl_aload_n 0 rfl dX8_meets_37 ?_
        refine vl_iload_n 1 rfl dX8_meets_38 ?_
        refine vl_iload_n 2 rfl dX8_meets_39 ?_
        refine vl_iconst dX8_meets_40 ?_
        refine vl_VpI (K' := kX8_side) (d' := 0) (h := 23) (As := [vl_iv a1, vl_iv a2, vl_iv 3]) (st := [vl_iv a4]) lk_X8_96 (fun _ => rfl) (by omega) n23 s23 rfl rfl (Nat.le_of_ble_eq_true rfl) rfl (Nat.le_of_ble_eq_true rfl) dX8_meets_41 hE (fun _ h => vx_X8_side hG (Nat.le_refl _) h) (fun b10 hE => ?_)
        obtain ⟨g11, hE⟩ := vl_ok_gd hE
        obtain ⟨g12, hE⟩ := vl_ok_gd hE
        refine vl_icmp_gt (tgt := 51) dX8_meets_44 (by decide) g11 g12 hE (fun c13 hE => ?_) (fun c13 hE => ?_)
        · refine vl_iconst dX8_meets_51 ?_
          exact vl_ret (r := 0) rfl ⟨dX8_meets_52, by decide⟩ hE (hP' (0))
        · refine vl_iconst dX8_meets_47 ?_
          refine vl_goto (tgt := 52) dX8_meets_48 (by decide) ?_
          exact vl_ret (r := 1) rfl ⟨dX8_meets_52, by decide⟩ hE (hP' (1))
set_option maxRecDepth 100000 in
set_option maxHeartbeats 4000000 in
theorem vx_X8_partArea {nc : Nat} {S : vl_Sh} {sc : Nat × (Nat → Int32)} (hG : vl_G3 nc S) {d : Nat} (hd : 1 ≤ d) {Post : Int → vl_M → vl_M → Prop} {μ m : vl_M} {a1 : Int} (hE : vl_ok (fun r : Int => Post r μ m) (fn_X8_partArea m a1)) : vl_V nc S sc kX8_partArea d Post 0 [(0, .ref 23), (1, vl_iv a1)] [] μ m := by
  generalize hP : (fun r : Int => Post r μ m) = P at hE
  have hP' : ∀ r : Int, P r → Post r μ m := fun b h => by rw [← hP] at h; exact h
  clear hP
  have s23 : S 23 = .inr (8, [0, 0, 0, 27, 28, 0, 29, 30, 31, 32, 33, 0, 0, 0, 0, 34, 35, 0, 36, 0, 0, 37, 38, 39, 0, 0, 0, 0, 0, 1, 40, 41, 42, 43, 44, 45, 46, 0, 47, 48, 49]) := hG.2 23 (by decide) (by decide)
  have n23 : 23 < nc := Nat.lt_of_lt_of_le (by decide) hG.1
  have s40 : S 40 = .inl 8 := hG.2 40 (by decide) (by decide)
  have n40 : 40 < nc := Nat.lt_of_lt_of_le (by decide) hG.1
  unfold fn_X8_partArea at hE
  refine vl_iconst dX8_partArea_0 ?_
  refine vl_iload_n 1 rfl dX8_partArea_1 ?_
  refine vl_iconst dX8_partArea_2 ?_
  refine vl_isub dX8_partArea_3 ?_
  refine vl_imul dX8_partArea_4 ?_
  refine vl_istore_n rfl (fun v1 => [(2, vl_iv v1), (0, .ref 23), (1, vl_iv a1)]) dX8_partArea_5 (by decide) (fun _ => rfl) hE (fun v1 hE => ?_)
  refine vl_aload_n 1 rfl dX8_partArea_6 ?_
  refine vl_getR (h := 23) (k0 := 33) (h2 := 40) iu_X8 n23 s23 rfl (by decide) fk_X8_62 rfl dX8_partArea_7 ?_
  refine vl_iload_n 0 rfl dX8_partArea_10 ?_
  refine vl_aldr (h := 40) (n := 8) (ni := 8) n40 (by decide) s40 (by decide) rfl dX8_partArea_11 hE (fun g2 g3 hE => ?_)
  refine vl_aload_n 1 rfl dX8_partArea_12 ?_
  refine vl_getR (h := 23) (k0 := 33) (h2 := 40) iu_X8 n23 s23 rfl (by decide) fk_X8_62 rfl dX8_partArea_13 ?_
  refine vl_iload_n 0 rfl dX8_partArea_16 ?_
  refine vl_iconst dX8_partArea_17 ?_
  refine vl_iadd dX8_partArea_18 ?_
  refine vl_aldr (h := 40) (n := 8) (ni := 8) n40 (by decide) s40 (by decide) rfl dX8_partArea_19 hE (fun g4 g5 hE => ?_)
  refine vl_aload_n 1 rfl dX8_partArea_20 ?_
  refine vl_getR (h := 23) (k0 := 33) (h2 := 40) iu_X8 n23 s23 rfl (by decide) fk_X8_62 rfl dX8_partArea_21 ?_
  refine vl_iload_n 0 rfl dX8_partArea_24 ?_
  refine vl_iconst dX8_partArea_25 ?_
  refine vl_iadd dX8_partArea_26 ?_
  refine vl_aldr (h := 40) (n := 8) (ni := 8) n40 (by decide) s40 (by decide) rfl dX8_partArea_27 hE (fun g6 g7 hE => ?_)
  refine vl_aload_n 1 rfl dX8_partArea_28 ?_
  refine vl_getR (h := 23) (k0 := 33) (h2 := 40) iu_X8 n23 s23 rfl (by decide) fk_X8_62 rfl dX8_partArea_29 ?_
  refine vl_iload_n 0 rfl dX8_partArea_32 ?_
  refine vl_iconst dX8_partArea_33 ?_
  refine vl_iadd dX8_partArea_34 ?_
  refine vl_aldr (h := 40) (n := 8) (ni := 8) n40 (by decide) s40 (by decide) rfl dX8_partArea_35 hE (fun g8 g9 hE => ?_)
  refine vl_SpJ (K' := kX8_area) (d' := 0) (As := [vl_iv (m 40 v1), vl_iv (m 40 (v1 + 1)), vl_iv (m 40 (v1 + 2)), vl_iv (m 40 (v1 + 3))]) (st := []) lk_X8_100 (fun _ => rfl) (by omega) rfl (Nat.le_of_ble_eq_true rfl) rfl (Nat.le_of_ble_eq_true rfl) dX8_partArea_36 hE (fun _ h => vx_X8_area hG (Nat.le_refl _) h) (fun b10 hE => ?_)
  exact vl_ret (r := b10) rfl dX8_partArea_39 hE (hP' (b10))
set_option maxRecDepth 100000 in
set_option maxHeartbeats 4000000 in
theorem vx_X8_placeIn {nc : Nat} {S : vl_Sh} {sc : Nat × (Nat → Int32)} (hG : vl_G3 nc S) {N : Nat} {d : Nat} (hd : 1 ≤ d) {Post : Int → vl_M → vl_M → Prop} {μ m : vl_M} {a1 a2 : Int} (hE : vl_ok (fun r : Int => Post r μ m) (fn_X8_placeIn N m a1 a2)) : vl_V nc S sc kX8_placeIn d Post 0 [(0, .ref 23), (1, vl_iv a1), (2, vl_iv a2)] [] μ m := by
  generalize hP : (fun r : Int => Post r μ m) = P at hE
  have hP' : ∀ r : Int, P r → Post r μ m := fun b h => by rw [← hP] at h; exact h
  clear hP
  have s23 : S 23 = .inr (8, [0, 0, 0, 27, 28, 0, 29, 30, 31, 32, 33, 0, 0, 0, 0, 34, 35, 0, 36, 0, 0, 37, 38, 39, 0, 0, 0, 0, 0, 1, 40, 41, 42, 43, 44, 45, 46, 0, 47, 48, 49]) := hG.2 23 (by decide) (by decide)
  have n23 : 23 < nc := Nat.lt_of_lt_of_le (by decide) hG.1
  unfold fn_X8_placeIn at hE
  refine vl_iconst dX8_placeIn_0 ?_
  refine vl_istore_n0 rfl (lv' := [(3, vl_iv 0), (0, .ref 23), (1, vl_iv a1), (2, vl_iv a2)]) dX8_placeIn_1 (by decide) rfl ?_
  refine vl_lpr (F := fun κ : Int → Option (Int) => fn_X8_placeIn_L2 N m a1 a2 κ N 0) (J := fun κ => ∀ (v2 : Int), vl_ok P (κ v2) → vl_V nc S sc kX8_placeIn d Post 18 [(3, vl_iv v2)] [] μ m) ?_ hE (fun κ hκL21 hE => ?_)
  · intro v2 hE
    refine vl_iload_n 0 rfl dX8_placeIn_18 ?_
    exact vl_ret (r := v2) rfl dX8_placeIn_19 hE (hP' (v2))
  have hL2_ : ∀ (n : Nat) (v1 : Int), vl_ok P (fn_X8_placeIn_L2 N m a1 a2 κ n v1) → vl_V nc S sc kX8_placeIn d Post 2 [(0, .ref 23), (1, vl_iv a1), (2, vl_iv a2), (3, vl_iv v1)] [] μ m := by
    intro n
    induction n with
    | zero => intro v1 hE; exact vl_no hE
    | succ n ih2_ =>
      intro v1 hE
      rw [fn_X8_placeIn_L2] at hE
      refine vl_aload_n 0 rfl dX8_placeIn_2 ?_
      refine vl_iload_n 1 rfl dX8_placeIn_3 ?_
      refine vl_iload_n 3 rfl dX8_placeIn_4 ?_
      refine vl_VpI (K' := kX8_heldBy) (d' := 0) (h := 23) (As := [vl_iv a1, vl_iv v1]) (st := []) lk_X8_115 (fun _ => rfl) (by omega) n23 s23 rfl rfl (Nat.le_of_ble_eq_true rfl) rfl (Nat.le_of_ble_eq_true rfl) dX8_placeIn_5 hE (fun _ h => vx_X8_heldBy hG (Nat.le_refl _) h) (fun b3 hE => ?_)
      refine vl_iload_n 2 rfl dX8_placeIn_8 ?_
      obtain ⟨g4, hE⟩ := vl_ok_gd hE
      obtain ⟨g5, hE⟩ := vl_ok_gd hE
      refine vl_icmp_eq (tgt := 18) dX8_placeIn_9 (by decide) g4 g5 hE (fun c7 hE => ?_) (fun c7 hE => ?_)
      · exact vl_wk [3] rfl (hκL21 v1 hE)
      · refine vl_iinc 3 (fun v6 => [(3, vl_iv v6), (0, .ref 23), (1, vl_iv a1), (2, vl_iv a2)]) dX8_placeIn_12 rfl (by decide) (fun _ => rfl) hE (fun v6 hE => ?_)
        refine vl_goto (tgt := 2) dX8_placeIn_15 (by decide) ?_
        exact vl_wk [1, 2, 3, 0] rfl (ih2_ v6 hE)
  exact vl_wk [1, 2, 3, 0] rfl (hL2_ N 0 hE)
set_option maxRecDepth 100000 in
set_option maxHeartbeats 4000000 in
theorem vx_X8_choose {nc : Nat} {S : vl_Sh} {sc : Nat × (Nat → Int32)} (hG : vl_G3 nc S) {N : Nat} {d : Nat} (hd : 2 ≤ d) {Post : Int → vl_M → vl_M → Prop} {μ m : vl_M} {a1 a2 a3 : Int} (hE : vl_ok (fun r : Int => Post r μ m) (fn_X8_choose N m a1 a2 a3)) : vl_V nc S sc kX8_choose d Post 0 [(0, .ref 23), (1, vl_iv a1), (2, vl_iv a2), (3, vl_iv a3)] [] μ m := by
  generalize hP : (fun r : Int => Post r μ m) = P at hE
  have hP' : ∀ r : Int, P r → Post r μ m := fun b h => by rw [← hP] at h; exact h
  clear hP
  have s23 : S 23 = .inr (8, [0, 0, 0, 27, 28, 0, 29, 30, 31, 32, 33, 0, 0, 0, 0, 34, 35, 0, 36, 0, 0, 37, 38, 39, 0, 0, 0, 0, 0, 1, 40, 41, 42, 43, 44, 45, 46, 0, 47, 48, 49]) := hG.2 23 (by decide) (by decide)
  have n23 : 23 < nc := Nat.lt_of_lt_of_le (by decide) hG.1
  have s26 : S 26 = .inl 500 := hG.2 26 (by decide) (by decide)
  have n26 : 26 < nc := Nat.lt_of_lt_of_le (by decide) hG.1
  have s27 : S 27 = .inl 500 := hG.2 27 (by decide) (by decide)
  have n27 : 27 < nc := Nat.lt_of_lt_of_le (by decide) hG.1
  unfold fn_X8_choose at hE
  refine vl_bipush (by decide) dX8_choose_0 ?_
  refine vl_istore0 (lv' := [(4, vl_iv (-2)), (0, .ref 23), (1, vl_iv a1), (2, vl_iv a2), (3, vl_iv a3)]) dX8_choose_2 (by decide) rfl ?_
  refine vl_lconst (x := 0) rfl dX8_choose_4 ?_
  refine vl_lstore0 (lv' := [(5, vl_jv 0), (4, vl_iv (-2)), (0, .ref 23), (1, vl_iv a1), (2, vl_iv a2), (3, vl_iv a3)]) dX8_choose_5 (by decide) rfl ?_
  refine vl_lconst (x := 0) rfl dX8_choose_7 ?_
  refine vl_lstore0 (lv' := [(7, vl_jv 0), (5, vl_jv 0), (4, vl_iv (-2)), (0, .ref 23), (1, vl_iv a1), (2, vl_iv a2), (3, vl_iv a3)]) dX8_choose_8 (by decide) rfl ?_
  refine vl_iconst dX8_choose_10 ?_
  refine vl_istore0 (lv' := [(9, vl_iv 0), (7, vl_jv 0), (5, vl_jv 0), (4, vl_iv (-2)), (0, .ref 23), (1, vl_iv a1), (2, vl_iv a2), (3, vl_iv a3)]) dX8_choose_11 (by decide) rfl ?_
  refine vl_lpr (F := fun κ : Int → Int → Int → Int → Option (Int) => fn_X8_choose_L13 N m a1 a2 a3 κ N (-2) 0 0 0) (J := fun κ => ∀ (v5 : Int) (v6 : Int) (v7 : Int) (v8 : Int), vl_ok P (κ v5 v6 v7 v8) → vl_V nc S sc kX8_choose d Post 115 [(4, vl_iv v5)] [] μ m) ?_ hE (fun κ hκL134 hE => ?_)
  · intro v5 v6 v7 v8 hE
    refine vl_iload 0 rfl dX8_choose_115 ?_
    exact vl_ret (r := v5) rfl dX8_choose_117 hE (hP' (v5))
  have hL13_ : ∀ (n : Nat) (v1 : Int) (v2 : Int) (v3 : Int) (v4 : Int), vl_ok P (fn_X8_choose_L13 N m a1 a2 a3 κ n v1 v2 v3 v4) → vl_V nc S sc kX8_choose d Post 13 [(0, .ref 23), (1, vl_iv a1), (2, vl_iv a2), (3, vl_iv a3), (4, vl_iv v1), (5, vl_jv v2), (7, vl_jv v3), (9, vl_iv v4)] [] μ m := by
    intro n
    induction n with
    | zero => intro v1 v2 v3 v4 hE; exact vl_no hE
    | succ n ih13_ =>
      intro v1 v2 v3 v4 hE
      rw [fn_X8_choose_L13] at hE
      refine vl_iload 7 rfl dX8_choose_13 ?_
      refine vl_aload_n 0 rfl dX8_choose_15 ?_
      refine vl_getR (h := 23) (k0 := 7) (h2 := 27) iu_X8 n23 s23 rfl (by decide) fk_X8_23 rfl dX8_choose_16 ?_
      refine vl_iload_n 1 rfl dX8_choose_19 ?_
      refine vl_aldr (h := 27) (n := 500) (ni := 500) n27 (by decide) s27 (by decide) rfl dX8_choose_20 hE (fun g9 g10 hE => ?_)
      obtain ⟨g11, hE⟩ := vl_ok_gd hE
      obtain ⟨g12, hE⟩ := vl_ok_gd hE
      refine vl_icmp_ge (tgt := 115) dX8_choose_21 (by decide) g11 g12 hE (fun c33 hE => ?_) (fun c33 hE => ?_)
      · exact vl_wk [4] rfl (hκL134 v1 v2 v3 v4 hE)
      · refine vl_aload_n 0 rfl dX8_choose_24 ?_
        refine vl_iload_n 1 rfl dX8_choose_25 ?_
        refine vl_iload 7 rfl dX8_choose_26 ?_
        refine vl_VpI (K' := kX8_heldBy) (d' := 0) (h := 23) (As := [vl_iv a1, vl_iv v4]) (st := []) lk_X8_115 (fun _ => rfl) (by omega) n23 s23 rfl rfl (Nat.le_of_ble_eq_true rfl) rfl (Nat.le_of_ble_eq_true rfl) dX8_choose_28 hE (fun _ h => vx_X8_heldBy hG (Nat.le_refl _) h) (fun b13 hE => ?_)
        refine vl_istore0 (lv' := [(10, vl_iv b13), (0, .ref 23), (1, vl_iv a1), (2, vl_iv a2), (3, vl_iv a3), (4, vl_iv v1), (5, vl_jv v2), (7, vl_jv v3), (9, vl_iv v4)]) dX8_choose_31 (by decide) rfl ?_
        refine vl_aload_n 1 rfl dX8_choose_33 ?_
        refine vl_aload_n 1 rfl dX8_choose_34 ?_
        refine vl_getR (h := 23) (k0 := 6) (h2 := 26) iu_X8 n23 s23 rfl (by decide) fk_X8_20 rfl dX8_choose_35 ?_
        refine vl_iload 0 rfl dX8_choose_38 ?_
        refine vl_aldr (h := 26) (n := 500) (ni := 500) n26 (by decide) s26 (by decide) rfl dX8_choose_40 hE (fun g14 g15 hE => ?_)
        refine vl_iload 0 rfl dX8_choose_41 ?_
        refine vl_VpJ (K' := kX8_areaOf) (d' := 1) (h := 23) (As := [vl_iv (m 26 b13), vl_iv b13]) (st := []) lk_X8_125 (fun _ => rfl) (by omega) n23 s23 rfl rfl (Nat.le_of_ble_eq_true rfl) rfl (Nat.le_of_ble_eq_true rfl) dX8_choose_43 hE (fun _ h => vx_X8_areaOf hG (Nat.le_refl _) h) (fun b16 hE => ?_)
        refine vl_lstore0 (lv' := [(11, vl_jv b16), (10, vl_iv b13), (0, .ref 23), (1, vl_iv a1), (2, vl_iv a2), (3, vl_iv a3), (4, vl_iv v1), (5, vl_jv v2), (7, vl_jv v3), (9, vl_iv v4)]) dX8_choose_46 (by decide) rfl ?_
        refine vl_aload_n 2 rfl dX8_choose_48 ?_
        refine vl_aload_n 2 rfl dX8_choose_49 ?_
        refine vl_getR (h := 23) (k0 := 6) (h2 := 26) iu_X8 n23 s23 rfl (by decide) fk_X8_20 rfl dX8_choose_50 ?_
        refine vl_iload 1 rfl dX8_choose_53 ?_
        refine vl_aldr1 (h := 26) (n := 500) (ni := 500) n26 (by decide) s26 (by decide) rfl g14 dX8_choose_55 ?_
        refine vl_iload 1 rfl dX8_choose_56 ?_
        refine vl_iload_n 4 rfl dX8_choose_58 ?_
        refine vl_iload_n 5 rfl dX8_choose_59 ?_
        refine vl_VpJ (K' := kX8_areaBoth) (d' := 1) (h := 23) (As := [vl_iv (m 26 b13), vl_iv b13, vl_iv a2, vl_iv a3]) (st := []) lk_X8_129 (fun _ => rfl) (by omega) n23 s23 rfl rfl (Nat.le_of_ble_eq_true rfl) rfl (Nat.le_of_ble_eq_true rfl) dX8_choose_60 hE (fun _ h => vx_X8_areaBoth hG (Nat.le_refl _) h) (fun b17 hE => ?_)
        refine vl_lload 0 rfl dX8_choose_63 ?_
        refine vl_lsub dX8_choose_65 ?_
        refine vl_lstore (fun v18 => [(13, vl_jv v18), (11, vl_jv b16), (10, vl_iv b13), (0, .ref 23), (1, vl_iv a1), (2, vl_iv a2), (3, vl_iv a3), (4, vl_iv v1), (5, vl_jv v2), (7, vl_jv v3), (9, vl_iv v4)]) dX8_choose_66 (by decide) (fun _ => rfl) hE (fun v18 hE => ?_)
        refine vl_iload 7 rfl dX8_choose_68 ?_
        obtain ⟨g19, hE⟩ := vl_ok_gd hE
        refine vl_jnr (J := fun κ : Int → Int → Int → Option (Int) => ∀ (v20 : Int) (v21 : Int) (v22 : Int), vl_ok P (κ v20 v21 v22) → vl_V nc S sc kX8_choose d Post 109 [(0, .ref 23), (1, vl_iv a1), (2, vl_iv a2), (3, vl_iv a3), (4, vl_iv v20), (5, vl_jv v21), (7, vl_jv v22), (9, vl_iv v4)] [] μ m) ?_ hE (fun κ23 hκ23 hE => ?_)
        · intro v20 v21 v22 hE
          refine vl_iinc 7 (fun v24 => [(9, vl_iv v24), (0, .ref 23), (1, vl_iv a1), (2, vl_iv a2), (3, vl_iv a3), (4, vl_iv v20), (5, vl_jv v21), (7, vl_jv v22)]) dX8_choose_109 rfl (by decide) (fun _ => rfl) hE (fun v24 hE => ?_)
          refine vl_goto (tgt := 13) dX8_choose_112 (by decide) ?_
          exact vl_wk [1, 2, 3, 4, 5, 6, 7, 0] rfl (ih13_ v20 v21 v22 v24 hE)
        refine vl_if_lt (tgt := 97) dX8_choose_70 (by decide) g19  hE (fun c32 hE => ?_) (fun c32 hE => ?_)
        · refine vl_iload 2 rfl dX8_choose_97 ?_
          refine vl_istore0 (lv' := [(4, vl_iv b13), (13, vl_jv v18), (11, vl_jv b16), (10, vl_iv b13), (0, .ref 23), (1, vl_iv a1), (2, vl_iv a2), (3, vl_iv a3), (5, vl_jv v2), (7, vl_jv v3), (9, vl_iv v4)]) dX8_choose_99 (by decide) rfl ?_
          refine vl_lload 1 rfl dX8_choose_101 ?_
          refine vl_lstore0 (lv' := [(5, vl_jv v18), (4, vl_iv b13), (13, vl_jv v18), (11, vl_jv b16), (10, vl_iv b13), (0, .ref 23), (1, vl_iv a1), (2, vl_iv a2), (3, vl_iv a3), (7, vl_jv v3), (9, vl_iv v4)]) dX8_choose_103 (by decide) rfl ?_
          refine vl_lload 3 rfl dX8_choose_105 ?_
          refine vl_lstore0 (lv' := [(7, vl_jv b16), (5, vl_jv v18), (4, vl_iv b13), (13, vl_jv v18), (11, vl_jv b16), (10, vl_iv b13), (0, .ref 23), (1, vl_iv a1), (2, vl_iv a2), (3, vl_iv a3), (9, vl_iv v4)]) dX8_choose_107 (by decide) rfl ?_
          exact vl_wk [6, 7, 8, 9, 2, 1, 0, 10] rfl (hκ23 b13 v18 b16 hE)
        · refine vl_lload 0 rfl dX8_choose_73 ?_
          refine vl_lload 8 rfl dX8_choose_75 ?_
          obtain ⟨g25, hE⟩ := vl_ok_gd hE
          obtain ⟨g26, hE⟩ := vl_ok_gd hE
          refine vl_lif_lt (tgt := 97) dX8_choose_77 dX8_choose_78 (by decide) g25 g26 hE (fun c31 hE => ?_) (fun c31 hE => ?_)
          · refine vl_iload 2 rfl dX8_choose_97 ?_
            refine vl_istore0 (lv' := [(4, vl_iv b13), (13, vl_jv v18), (11, vl_jv b16), (10, vl_iv b13), (0, .ref 23), (1, vl_iv a1), (2, vl_iv a2), (3, vl_iv a3), (5, vl_jv v2), (7, vl_jv v3), (9, vl_iv v4)]) dX8_choose_99 (by decide) rfl ?_
            refine vl_lload 1 rfl dX8_choose_101 ?_
            refine vl_lstore0 (lv' := [(5, vl_jv v18), (4, vl_iv b13), (13, vl_jv v18), (11, vl_jv b16), (10, vl_iv b13), (0, .ref 23), (1, vl_iv a1), (2, vl_iv a2), (3, vl_iv a3), (7, vl_jv v3), (9, vl_iv v4)]) dX8_choose_103 (by decide) rfl ?_
            refine vl_lload 3 rfl dX8_choose_105 ?_
            refine vl_lstore0 (lv' := [(7, vl_jv b16), (5, vl_jv v18), (4, vl_iv b13), (13, vl_jv v18), (11, vl_jv b16), (10, vl_iv b13), (0, .ref 23), (1, vl_iv a1), (2, vl_iv a2), (3, vl_iv a3), (9, vl_iv v4)]) dX8_choose_107 (by decide) rfl ?_
            exact vl_wk [6, 7, 8, 9, 2, 1, 0, 10] rfl (hκ23 b13 v18 b16 hE)
          · refine vl_lload 0 rfl dX8_choose_81 ?_
            refine vl_lload 8 rfl dX8_choose_83 ?_
            refine vl_lif_ne (tgt := 109) dX8_choose_85 dX8_choose_86 (by decide) g25 g26 hE (fun c30 hE => ?_) (fun c30 hE => ?_)
            · exact vl_wk [3, 4, 5, 6, 7, 8, 9, 10] rfl (hκ23 v1 v2 v3 hE)
            · refine vl_lload 1 rfl dX8_choose_89 ?_
              refine vl_lload 9 rfl dX8_choose_91 ?_
              obtain ⟨g27, hE⟩ := vl_ok_gd hE
              obtain ⟨g28, hE⟩ := vl_ok_gd hE
              refine vl_lif_ge (tgt := 109) dX8_choose_93 dX8_choose_94 (by decide) g27 g28 hE (fun c29 hE => ?_) (fun c29 hE => ?_)
              · exact vl_wk [3, 4, 5, 6, 7, 8, 9, 10] rfl (hκ23 v1 v2 v3 hE)
              · refine vl_iload 2 rfl dX8_choose_97 ?_
                refine vl_istore0 (lv' := [(4, vl_iv b13), (13, vl_jv v18), (11, vl_jv b16), (10, vl_iv b13), (0, .ref 23), (1, vl_iv a1), (2, vl_iv a2), (3, vl_iv a3), (5, vl_jv v2), (7, vl_jv v3), (9, vl_iv v4)]) dX8_choose_99 (by decide) rfl ?_
                refine vl_lload 1 rfl dX8_choose_101 ?_
                refine vl_lstore0 (lv' := [(5, vl_jv v18), (4, vl_iv b13), (13, vl_jv v18), (11, vl_jv b16), (10, vl_iv b13), (0, .ref 23), (1, vl_iv a1), (2, vl_iv a2), (3, vl_iv a3), (7, vl_jv v3), (9, vl_iv v4)]) dX8_choose_103 (by decide) rfl ?_
                refine vl_lload 3 rfl dX8_choose_105 ?_
                refine vl_lstore0 (lv' := [(7, vl_jv b16), (5, vl_jv v18), (4, vl_iv b13), (13, vl_jv v18), (11, vl_jv b16), (10, vl_iv b13), (0, .ref 23), (1, vl_iv a1), (2, vl_iv a2), (3, vl_iv a3), (9, vl_iv v4)]) dX8_choose_107 (by decide) rfl ?_
                exact vl_wk [6, 7, 8, 9, 2, 1, 0, 10] rfl (hκ23 b13 v18 b16 hE)
  exact vl_wk [4, 5, 6, 7, 3, 2, 1, 0] rfl (hL13_ N (-2) 0 0 0 hE)
set_option maxRecDepth 100000 in
set_option maxHeartbeats 4000000 in
theorem vx_X8_countIn {nc : Nat} {S : vl_Sh} {sc : Nat × (Nat → Int32)} (hG : vl_G3 nc S) {N : Nat} {d : Nat} (hd : 2 ≤ d) {Post : Int → vl_M → vl_M → Prop} {μ m : vl_M} {a1 a2 a3 a4 : Int} (hE : vl_ok (fun r : Int => Post r μ m) (fn_X8_countIn N m a1 a2 a3 a4)) : vl_V nc S sc kX8_countIn d Post 0 [(0, .ref 23), (1, vl_iv a1), (2, vl_iv a2), (3, vl_iv a3), (4, vl_iv a4)] [] μ m := by
  generalize hP : (fun r : Int => Post r μ m) = P at hE
  have hP' : ∀ r : Int, P r → Post r μ m := fun b h => by rw [← hP] at h; exact h
  clear hP
  have s23 : S 23 = .inr (8, [0, 0, 0, 27, 28, 0, 29, 30, 31, 32, 33, 0, 0, 0, 0, 34, 35, 0, 36, 0, 0, 37, 38, 39, 0, 0, 0, 0, 0, 1, 40, 41, 42, 43, 44, 45, 46, 0, 47, 48, 49]) := hG.2 23 (by decide) (by decide)
  have n23 : 23 < nc := Nat.lt_of_lt_of_le (by decide) hG.1
  have s24 : S 24 = .inl 401 := hG.2 24 (by decide) (by decide)
  have n24 : 24 < nc := Nat.lt_of_lt_of_le (by decide) hG.1
  unfold fn_X8_countIn at hE
  refine vl_iload_n 1 rfl dX8_countIn_0 ?_
  refine vl_iload_n 2 rfl dX8_countIn_1 ?_
  refine vl_iload_n 3 rfl dX8_countIn_2 ?_
  refine vl_iload 4 rfl dX8_countIn_3 ?_
  refine vl_SpI (K' := kX8_isRect) (d' := 1) (As := [vl_iv a1, vl_iv a2, vl_iv a3, vl_iv a4]) (st := []) lk_X8_169 (fun _ => rfl) (by omega) rfl (Nat.le_of_ble_eq_true rfl) rfl (Nat.le_of_ble_eq_true rfl) dX8_countIn_5 hE (fun _ h => vx_X8_isRect hG (Nat.le_refl _) h) (fun b1 hE => ?_)
  obtain ⟨g2, hE⟩ := vl_ok_gd hE
  refine vl_if_ne (tgt := 13) dX8_countIn_8 (by decide) g2  hE (fun c20 hE => ?_) (fun c20 hE => ?_)
  · refine vl_iconst dX8_countIn_13 ?_
    refine vl_istore0 (lv' := [(5, vl_iv 0), (0, .ref 23), (1, vl_iv a1), (2, vl_iv a2), (3, vl_iv a3), (4, vl_iv a4)]) dX8_countIn_14 (by decide) rfl ?_
    refine vl_iconst dX8_countIn_16 ?_
    refine vl_istore0 (lv' := [(6, vl_iv 0), (5, vl_iv 0), (0, .ref 23), (1, vl_iv a1), (2, vl_iv a2), (3, vl_iv a3), (4, vl_iv a4)]) dX8_countIn_17 (by decide) rfl ?_
    refine vl_lpr (F := fun κ : Int → Int → Option (Int) => fn_X8_countIn_L19 N m a1 a2 a3 a4 κ N 0 0) (J := fun κ => ∀ (v5 : Int) (v6 : Int), vl_ok P (κ v5 v6) → vl_V nc S sc kX8_countIn d Post 68 [(5, vl_iv v5)] [] μ m) ?_ hE (fun κ hκL194 hE => ?_)
    · intro v5 v6 hE
      refine vl_iload 0 rfl dX8_countIn_68 ?_
      exact vl_ret (r := v5) rfl dX8_countIn_70 hE (hP' (v5))
    have hL19_ : ∀ (n : Nat) (v3 : Int) (v4 : Int), vl_ok P (fn_X8_countIn_L19 N m a1 a2 a3 a4 κ n v3 v4) → vl_V nc S sc kX8_countIn d Post 19 [(0, .ref 23), (1, vl_iv a1), (2, vl_iv a2), (3, vl_iv a3), (4, vl_iv a4), (5, vl_iv v3), (6, vl_iv v4)] [] μ m := by
      intro n
      induction n with
      | zero => intro v3 v4 hE; exact vl_no hE
      | succ n ih19_ =>
        intro v3 v4 hE
        rw [fn_X8_countIn_L19] at hE
        refine vl_iload 6 rfl dX8_countIn_19 ?_
        refine vl_sipush (by decide) dX8_countIn_21 ?_
        obtain ⟨g7, hE⟩ := vl_ok_gd hE
        refine vl_icmp_ge (tgt := 68) dX8_countIn_24 (by decide) g7 (by decide) hE (fun c19 hE => ?_) (fun c19 hE => ?_)
        · exact vl_wk [5] rfl (hκL194 v3 v4 hE)
        · refine vl_iload 5 rfl dX8_countIn_27 ?_
          refine vl_aload_n 0 rfl dX8_countIn_29 ?_
          refine vl_getR (h := 23) (k0 := 3) (h2 := 24) iu_X8 n23 s23 rfl (by decide) fk_X8_13 rfl dX8_countIn_30 ?_
          refine vl_iload 6 rfl dX8_countIn_33 ?_
          refine vl_aldr (h := 24) (n := 401) (ni := 401) n24 (by decide) s24 (by decide) rfl dX8_countIn_35 hE (fun g8 g9 hE => ?_)
          obtain ⟨g10, hE⟩ := vl_ok_gd hE
          refine vl_jnr (J := fun κ : Int → Option (Int) => ∀ (v11 : Int), vl_ok P (κ v11) → vl_V nc S sc kX8_countIn d Post 59 [(0, .ref 23), (1, vl_iv a1), (2, vl_iv a2), (3, vl_iv a3), (4, vl_iv a4), (6, vl_iv v4)] [vl_iv v11, vl_iv v3] μ m) ?_ hE (fun κ12 hκ12 hE => ?_)
          · intro v11 hE
            refine vl_iadd dX8_countIn_59 ?_
            refine vl_istore (fun v13 => [(5, vl_iv v13), (0, .ref 23), (1, vl_iv a1), (2, vl_iv a2), (3, vl_iv a3), (4, vl_iv a4), (6, vl_iv v4)]) dX8_countIn_60 (by decide) (fun _ => rfl) hE (fun v13 hE => ?_)
            refine vl_iinc 6 (fun v14 => [(6, vl_iv v14), (5, vl_iv v13), (0, .ref 23), (1, vl_iv a1), (2, vl_iv a2), (3, vl_iv a3), (4, vl_iv a4)]) dX8_countIn_62 rfl (by decide) (fun _ => rfl) hE (fun v14 hE => ?_)
            refine vl_goto (tgt := 19) dX8_countIn_65 (by decide) ?_
            exact vl_wk [2, 3, 4, 5, 6, 1, 0] rfl (ih19_ v13 v14 hE)
          refine vl_if_lt (tgt := 58) dX8_countIn_36 (by decide) g10  hE (fun c18 hE => ?_) (fun c18 hE => ?_)
          · refine vl_iconst dX8_countIn_58 ?_
            exact vl_wk [0, 1, 2, 3, 4, 6] rfl (hκ12 0 hE)
          · refine vl_aload_n 0 rfl dX8_countIn_39 ?_
            refine vl_iconst dX8_countIn_40 ?_
            refine vl_iload 6 rfl dX8_countIn_41 ?_
            refine vl_iload_n 1 rfl dX8_countIn_43 ?_
            refine vl_iload_n 2 rfl dX8_countIn_44 ?_
            refine vl_iload_n 3 rfl dX8_countIn_45 ?_
            refine vl_iload 4 rfl dX8_countIn_46 ?_
            refine vl_VpI (K' := kX8_meets) (d' := 1) (h := 23) (As := [vl_iv (-1), vl_iv v4, vl_iv a1, vl_iv a2, vl_iv a3, vl_iv a4]) (st := [vl_iv v3]) lk_X8_218 (fun _ => rfl) (by omega) n23 s23 rfl rfl (Nat.le_of_ble_eq_true rfl) rfl (Nat.le_of_ble_eq_true rfl) dX8_countIn_48 hE (fun _ h => vx_X8_meets hG (Nat.le_refl _) h) (fun b15 hE => ?_)
            obtain ⟨g16, hE⟩ := vl_ok_gd hE
            refine vl_if_eq (tgt := 58) dX8_countIn_51 (by decide) g16  hE (fun c17 hE => ?_) (fun c17 hE => ?_)
            · refine vl_iconst dX8_countIn_58 ?_
              exact vl_wk [0, 1, 2, 3, 4, 6] rfl (hκ12 0 hE)
            · refine vl_iconst dX8_countIn_54 ?_
              refine vl_goto (tgt := 59) dX8_countIn_55 (by decide) ?_
              exact vl_wk [0, 1, 2, 3, 4, 6] rfl (hκ12 1 hE)
    exact vl_wk [2, 3, 4, 5, 6, 1, 0] rfl (hL19_ N 0 0 hE)
  · refine vl_iconst dX8_countIn_11 ?_
    exact vl_ret (r := (-1)) rfl dX8_countIn_12 hE (hP' (-1))
set_option maxRecDepth 100000 in
set_option maxHeartbeats 4000000 in
theorem vx_X8_growth {nc : Nat} {S : vl_Sh} {sc : Nat × (Nat → Int32)} (hG : vl_G3 nc S) {d : Nat} (hd : 2 ≤ d) {Post : Int → vl_M → vl_M → Prop} {μ m : vl_M} {a1 a2 a3 : Int} (hE : vl_ok (fun r : Int => Post r μ m) (fn_X8_growth m a1 a2 a3)) : vl_V nc S sc kX8_growth d Post 0 [(0, .ref 23), (1, vl_iv a1), (2, vl_iv a2), (3, vl_iv a3)] [] μ m := by
  generalize hP : (fun r : Int => Post r μ m) = P at hE
  have hP' : ∀ r : Int, P r → Post r μ m := fun b h => by rw [← hP] at h; exact h
  clear hP
  have s23 : S 23 = .inr (8, [0, 0, 0, 27, 28, 0, 29, 30, 31, 32, 33, 0, 0, 0, 0, 34, 35, 0, 36, 0, 0, 37, 38, 39, 0, 0, 0, 0, 0, 1, 40, 41, 42, 43, 44, 45, 46, 0, 47, 48, 49]) := hG.2 23 (by decide) (by decide)
  have n23 : 23 < nc := Nat.lt_of_lt_of_le (by decide) hG.1
  have s40 : S 40 = .inl 8 := hG.2 40 (by decide) (by decide)
  have n40 : 40 < nc := Nat.lt_of_lt_of_le (by decide) hG.1
  unfold fn_X8_growth at hE
  refine vl_iconst dX8_growth_0 ?_
  refine vl_iload_n 1 rfl dX8_growth_1 ?_
  refine vl_iconst dX8_growth_2 ?_
  refine vl_isub dX8_growth_3 ?_
  refine vl_imul dX8_growth_4 ?_
  refine vl_istore (fun v1 => [(4, vl_iv v1), (0, .ref 23), (1, vl_iv a1), (2, vl_iv a2), (3, vl_iv a3)]) dX8_growth_5 (by decide) (fun _ => rfl) hE (fun v1 hE => ?_)
  refine vl_aload_n 1 rfl dX8_growth_7 ?_
  refine vl_getR (h := 23) (k0 := 33) (h2 := 40) iu_X8 n23 s23 rfl (by decide) fk_X8_62 rfl dX8_growth_8 ?_
  refine vl_iload 0 rfl dX8_growth_11 ?_
  refine vl_aldr (h := 40) (n := 8) (ni := 8) n40 (by decide) s40 (by decide) rfl dX8_growth_13 hE (fun g2 g3 hE => ?_)
  refine vl_aload_n 1 rfl dX8_growth_14 ?_
  refine vl_iload_n 3 rfl dX8_growth_15 ?_
  refine vl_iload_n 4 rfl dX8_growth_16 ?_
  refine vl_iconst dX8_growth_17 ?_
  refine vl_VpI (K' := kX8_side) (d' := 0) (h := 23) (As := [vl_iv a2, vl_iv a3, vl_iv 0]) (st := [vl_iv (m 40 v1)]) lk_X8_96 (fun _ => rfl) (by omega) n23 s23 rfl rfl (Nat.le_of_ble_eq_true rfl) rfl (Nat.le_of_ble_eq_true rfl) dX8_growth_18 hE (fun _ h => vx_X8_side hG (Nat.le_refl _) h) (fun b4 hE => ?_)
  refine vl_SpI (K' := kX8_lesser) (d' := 0) (As := [vl_iv (m 40 v1), vl_iv b4]) (st := []) lk_X8_104 (fun _ => rfl) (by omega) rfl (Nat.le_of_ble_eq_true rfl) rfl (Nat.le_of_ble_eq_true rfl) dX8_growth_21 hE (fun _ h => vx_X8_lesser hG (Nat.le_refl _) h) (fun b5 hE => ?_)
  refine vl_aload_n 1 rfl dX8_growth_24 ?_
  refine vl_getR (h := 23) (k0 := 33) (h2 := 40) iu_X8 n23 s23 rfl (by decide) fk_X8_62 rfl dX8_growth_25 ?_
  refine vl_iload 0 rfl dX8_growth_28 ?_
  refine vl_iconst dX8_growth_30 ?_
  refine vl_iadd dX8_growth_31 ?_
  refine vl_aldr (h := 40) (n := 8) (ni := 8) n40 (by decide) s40 (by decide) rfl dX8_growth_32 hE (fun g6 g7 hE => ?_)
  refine vl_aload_n 1 rfl dX8_growth_33 ?_
  refine vl_iload_n 3 rfl dX8_growth_34 ?_
  refine vl_iload_n 4 rfl dX8_growth_35 ?_
  refine vl_iconst dX8_growth_36 ?_
  refine vl_VpI (K' := kX8_side) (d' := 0) (h := 23) (As := [vl_iv a2, vl_iv a3, vl_iv 1]) (st := [vl_iv (m 40 (v1 + 1)), vl_iv b5]) lk_X8_96 (fun _ => rfl) (by omega) n23 s23 rfl rfl (Nat.le_of_ble_eq_true rfl) rfl (Nat.le_of_ble_eq_true rfl) dX8_growth_37 hE (fun _ h => vx_X8_side hG (Nat.le_refl _) h) (fun b8 hE => ?_)
  refine vl_SpI (K' := kX8_lesser) (d' := 0) (As := [vl_iv (m 40 (v1 + 1)), vl_iv b8]) (st := [vl_iv b5]) lk_X8_104 (fun _ => rfl) (by omega) rfl (Nat.le_of_ble_eq_true rfl) rfl (Nat.le_of_ble_eq_true rfl) dX8_growth_40 hE (fun _ h => vx_X8_lesser hG (Nat.le_refl _) h) (fun b9 hE => ?_)
  refine vl_aload_n 1 rfl dX8_growth_43 ?_
  refine vl_getR (h := 23) (k0 := 33) (h2 := 40) iu_X8 n23 s23 rfl (by decide) fk_X8_62 rfl dX8_growth_44 ?_
  refine vl_iload 0 rfl dX8_growth_47 ?_
  refine vl_iconst dX8_growth_49 ?_
  refine vl_iadd dX8_growth_50 ?_
  refine vl_aldr (h := 40) (n := 8) (ni := 8) n40 (by decide) s40 (by decide) rfl dX8_growth_51 hE (fun g10 g11 hE => ?_)
  refine vl_aload_n 1 rfl dX8_growth_52 ?_
  refine vl_iload_n 3 rfl dX8_growth_53 ?_
  refine vl_iload_n 4 rfl dX8_growth_54 ?_
  refine vl_iconst dX8_growth_55 ?_
  refine vl_VpI (K' := kX8_side) (d' := 0) (h := 23) (As := [vl_iv a2, vl_iv a3, vl_iv 2]) (st := [vl_iv (m 40 (v1 + 2)), vl_iv b9, vl_iv b5]) lk_X8_96 (fun _ => rfl) (by omega) n23 s23 rfl rfl (Nat.le_of_ble_eq_true rfl) rfl (Nat.le_of_ble_eq_true rfl) dX8_growth_56 hE (fun _ h => vx_X8_side hG (Nat.le_refl _) h) (fun b12 hE => ?_)
  refine vl_SpI (K' := kX8_greater) (d' := 0) (As := [vl_iv (m 40 (v1 + 2)), vl_iv b12]) (st := [vl_iv b9, vl_iv b5]) lk_X8_108 (fun _ => rfl) (by omega) rfl (Nat.le_of_ble_eq_true rfl) rfl (Nat.le_of_ble_eq_true rfl) dX8_growth_59 hE (fun _ h => vx_X8_greater hG (Nat.le_refl _) h) (fun b13 hE => ?_)
  refine vl_aload_n 1 rfl dX8_growth_62 ?_
  refine vl_getR (h := 23) (k0 := 33) (h2 := 40) iu_X8 n23 s23 rfl (by decide) fk_X8_62 rfl dX8_growth_63 ?_
  refine vl_iload 0 rfl dX8_growth_66 ?_
  refine vl_iconst dX8_growth_68 ?_
  refine vl_iadd dX8_growth_69 ?_
  refine vl_aldr (h := 40) (n := 8) (ni := 8) n40 (by decide) s40 (by decide) rfl dX8_growth_70 hE (fun g14 g15 hE => ?_)
  refine vl_aload_n 1 rfl dX8_growth_71 ?_
  refine vl_iload_n 3 rfl dX8_growth_72 ?_
  refine vl_iload_n 4 rfl dX8_growth_73 ?_
  refine vl_iconst dX8_growth_74 ?_
  refine vl_VpI (K' := kX8_side) (d' := 0) (h := 23) (As := [vl_iv a2, vl_iv a3, vl_iv 3]) (st := [vl_iv (m 40 (v1 + 3)), vl_iv b13, vl_iv b9, vl_iv b5]) lk_X8_96 (fun _ => rfl) (by omega) n23 s23 rfl rfl (Nat.le_of_ble_eq_true rfl) rfl (Nat.le_of_ble_eq_true rfl) dX8_growth_75 hE (fun _ h => vx_X8_side hG (Nat.le_refl _) h) (fun b16 hE => ?_)
  refine vl_SpI (K' := kX8_greater) (d' := 0) (As := [vl_iv (m 40 (v1 + 3)), vl_iv b16]) (st := [vl_iv b13, vl_iv b9, vl_iv b5]) lk_X8_108 (fun _ => rfl) (by omega) rfl (Nat.le_of_ble_eq_true rfl) rfl (Nat.le_of_ble_eq_true rfl) dX8_growth_78 hE (fun _ h => vx_X8_greater hG (Nat.le_refl _) h) (fun b17 hE => ?_)
  refine vl_SpJ (K' := kX8_area) (d' := 0) (As := [vl_iv b5, vl_iv b9, vl_iv b13, vl_iv b17]) (st := []) lk_X8_100 (fun _ => rfl) (by omega) rfl (Nat.le_of_ble_eq_true rfl) rfl (Nat.le_of_ble_eq_true rfl) dX8_growth_81 hE (fun _ h => vx_X8_area hG (Nat.le_refl _) h) (fun b18 hE => ?_)
  refine vl_aload_n 1 rfl dX8_growth_84 ?_
  refine vl_iload_n 2 rfl dX8_growth_85 ?_
  refine vl_VpJ (K' := kX8_partArea) (d' := 1) (h := 23) (As := [vl_iv a1]) (st := [vl_jv b18]) lk_X8_159 (fun _ => rfl) (by omega) n23 s23 rfl rfl (Nat.le_of_ble_eq_true rfl) rfl (Nat.le_of_ble_eq_true rfl) dX8_growth_86 hE (fun _ h => vx_X8_partArea hG (Nat.le_refl _) h) (fun b19 hE => ?_)
  refine vl_lsub dX8_growth_89 ?_
  exact vl_ret (r := (b18 - b19)) rfl dX8_growth_90 hE (hP' (b18 - b19))
set_option maxRecDepth 100000 in
set_option maxHeartbeats 4000000 in
theorem vx_X8_isEntry {nc : Nat} {S : vl_Sh} {sc : Nat × (Nat → Int32)} (hG : vl_G3 nc S) {d : Nat} (hd : 2 ≤ d) {Post : Int → vl_M → vl_M → Prop} {μ m : vl_M} {a0 a1 a2 a3 a4 : Int} (hE : vl_ok (fun r : Int => Post r μ m) (fn_X8_isEntry  a0 a1 a2 a3 a4)) : vl_V nc S sc kX8_isEntry d Post 0 [(0, vl_iv a0), (1, vl_iv a1), (2, vl_iv a2), (3, vl_iv a3), (4, vl_iv a4)] [] μ m := by
  generalize hP : (fun r : Int => Post r μ m) = P at hE
  have hP' : ∀ r : Int, P r → Post r μ m := fun b h => by rw [← hP] at h; exact h
  clear hP
  unfold fn_X8_isEntry at hE
  refine vl_iload_n 0 rfl dX8_isEntry_0 ?_
  obtain ⟨g1, hE⟩ := vl_ok_gd hE
  refine vl_if_lt (tgt := 26) dX8_isEntry_1 (by decide) g1  hE (fun c6 hE => ?_) (fun c6 hE => ?_)
  · refine vl_iconst dX8_isEntry_26 ?_
    exact vl_ret (r := 0) rfl ⟨dX8_isEntry_27, by decide⟩ hE (hP' (0))
  · refine vl_iload_n 0 rfl dX8_isEntry_4 ?_
    refine vl_sipush (by decide) dX8_isEntry_5 ?_
    refine vl_icmp_ge (tgt := 26) dX8_isEntry_8 (by decide) g1 (by decide) hE (fun c5 hE => ?_) (fun c5 hE => ?_)
    · refine vl_iconst dX8_isEntry_26 ?_
      exact vl_ret (r := 0) rfl ⟨dX8_isEntry_27, by decide⟩ hE (hP' (0))
    · refine vl_iload_n 1 rfl dX8_isEntry_11 ?_
      refine vl_iload_n 2 rfl dX8_isEntry_12 ?_
      refine vl_iload_n 3 rfl dX8_isEntry_13 ?_
      refine vl_iload 4 rfl dX8_isEntry_14 ?_
      refine vl_SpI (K' := kX8_isRect) (d' := 1) (As := [vl_iv a1, vl_iv a2, vl_iv a3, vl_iv a4]) (st := []) lk_X8_169 (fun _ => rfl) (by omega) rfl (Nat.le_of_ble_eq_true rfl) rfl (Nat.le_of_ble_eq_true rfl) dX8_isEntry_16 hE (fun _ h => vx_X8_isRect hG (Nat.le_refl _) h) (fun b2 hE => ?_)
      obtain ⟨g3, hE⟩ := vl_ok_gd hE
      refine vl_if_eq (tgt := 26) dX8_isEntry_19 (by decide) g3  hE (fun c4 hE => ?_) (fun c4 hE => ?_)
      · refine vl_iconst dX8_isEntry_26 ?_
        exact vl_ret (r := 0) rfl ⟨dX8_isEntry_27, by decide⟩ hE (hP' (0))
      · refine vl_iconst dX8_isEntry_22 ?_
        refine vl_goto (tgt := 27) dX8_isEntry_23 (by decide) ?_
        exact vl_ret (r := 1) rfl ⟨dX8_isEntry_27, by decide⟩ hE (hP' (1))
set_option maxRecDepth 100000 in
set_option maxHeartbeats 4000000 in
theorem vx_X8_isNearer {nc : Nat} {S : vl_Sh} {sc : Nat × (Nat → Int32)} (hG : vl_G3 nc S) {N : Nat} {d : Nat} (hd : 2 ≤ d) {Post : Int → vl_M → vl_M → Prop} {μ m : vl_M} {a1 a2 a3 a4 : Int} (hE : vl_ok (fun r : Int => Post r μ m) (fn_X8_isNearer N m a1 a2 a3 a4)) : vl_V nc S sc kX8_isNearer d Post 0 [(0, .ref 23), (1, vl_iv a1), (2, vl_iv a2), (3, vl_iv a3), (4, vl_iv a4)] [] μ m := by
  generalize hP : (fun r : Int => Post r μ m) = P at hE
  have hP' : ∀ r : Int, P r → Post r μ m := fun b h => by rw [← hP] at h; exact h
  clear hP
  have s23 : S 23 = .inr (8, [0, 0, 0, 27, 28, 0, 29, 30, 31, 32, 33, 0, 0, 0, 0, 34, 35, 0, 36, 0, 0, 37, 38, 39, 0, 0, 0, 0, 0, 1, 40, 41, 42, 43, 44, 45, 46, 0, 47, 48, 49]) := hG.2 23 (by decide) (by decide)
  have n23 : 23 < nc := Nat.lt_of_lt_of_le (by decide) hG.1
  have s27 : S 27 = .inl 500 := hG.2 27 (by decide) (by decide)
  have n27 : 27 < nc := Nat.lt_of_lt_of_le (by decide) hG.1
  have s42 : S 42 = .inl 1000 := hG.2 42 (by decide) (by decide)
  have n42 : 42 < nc := Nat.lt_of_lt_of_le (by decide) hG.1
  have s43 : S 43 = .inl 1000 := hG.2 43 (by decide) (by decide)
  have n43 : 43 < nc := Nat.lt_of_lt_of_le (by decide) hG.1
  have s44 : S 44 = .inl 500 := hG.2 44 (by decide) (by decide)
  have n44 : 44 < nc := Nat.lt_of_lt_of_le (by decide) hG.1
  unfold fn_X8_isNearer at hE
  refine vl_aload_n 0 rfl dX8_isNearer_0 ?_
  refine vl_getR (h := 23) (k0 := 36) (h2 := 43) iu_X8 n23 s23 rfl (by decide) fk_X8_71 rfl dX8_isNearer_1 ?_
  refine vl_iload_n 1 rfl dX8_isNearer_4 ?_
  refine vl_aldr (h := 43) (n := 1000) (ni := 1000) n43 (by decide) s43 (by decide) rfl dX8_isNearer_5 hE (fun g1 g2 hE => ?_)
  obtain ⟨g3, hE⟩ := vl_ok_gd hE
  refine vl_jnr (J := fun κ : Int → Option (Int) => ∀ (v4 : Int), vl_ok P (κ v4) → vl_V nc S sc kX8_isNearer d Post 46 [(0, .ref 23), (1, vl_iv a1), (2, vl_iv a2), (3, vl_iv a3), (4, vl_iv a4)] [vl_jv v4] μ m) ?_ hE (fun κ5 hκ5 hE => ?_)
  · intro v4 hE
    refine vl_lstore0 (lv' := [(5, vl_jv v4), (0, .ref 23), (1, vl_iv a1), (2, vl_iv a2), (3, vl_iv a3), (4, vl_iv a4)]) dX8_isNearer_46 (by decide) rfl ?_
    refine vl_aload_n 1 rfl dX8_isNearer_48 ?_
    refine vl_getR (h := 23) (k0 := 36) (h2 := 43) iu_X8 n23 s23 rfl (by decide) fk_X8_71 rfl dX8_isNearer_49 ?_
    refine vl_iload_n 3 rfl dX8_isNearer_52 ?_
    refine vl_aldr (h := 43) (n := 1000) (ni := 1000) n43 (by decide) s43 (by decide) rfl dX8_isNearer_53 hE (fun g6 g7 hE => ?_)
    obtain ⟨g8, hE⟩ := vl_ok_gd hE
    refine vl_jnr (J := fun κ : Int → Option (Int) => ∀ (v9 : Int), vl_ok P (κ v9) → vl_V nc S sc kX8_isNearer d Post 94 [(0, .ref 23), (1, vl_iv a1), (2, vl_iv a2), (5, vl_jv v4)] [vl_jv v9] μ m) ?_ hE (fun κ10 hκ10 hE => ?_)
    · intro v9 hE
      refine vl_lstore0 (lv' := [(7, vl_jv v9), (0, .ref 23), (1, vl_iv a1), (2, vl_iv a2), (5, vl_jv v4)]) dX8_isNearer_94 (by decide) rfl ?_
      refine vl_lload 4 rfl dX8_isNearer_96 ?_
      refine vl_lload 0 rfl dX8_isNearer_98 ?_
      obtain ⟨g11, hE⟩ := vl_ok_gd hE
      obtain ⟨g12, hE⟩ := vl_ok_gd hE
      refine vl_lif_eq (tgt := 118) dX8_isNearer_100 dX8_isNearer_101 (by decide) g11 g12 hE (fun c34 hE => ?_) (fun c34 hE => ?_)
      · refine vl_aload_n 1 rfl dX8_isNearer_118 ?_
        refine vl_getR (h := 23) (k0 := 36) (h2 := 43) iu_X8 n23 s23 rfl (by decide) fk_X8_71 rfl dX8_isNearer_119 ?_
        refine vl_iload_n 2 rfl dX8_isNearer_122 ?_
        refine vl_aldr1 (h := 43) (n := 1000) (ni := 1000) n43 (by decide) s43 (by decide) rfl g1 dX8_isNearer_123 ?_
        refine vl_jnr (J := fun κ : Int → Option (Int) => ∀ (v13 : Int), vl_ok P (κ v13) → vl_V nc S sc kX8_isNearer d Post 132 [(0, .ref 23), (1, vl_iv a1), (2, vl_iv a2)] [vl_iv v13] μ m) ?_ hE (fun κ14 hκ14 hE => ?_)
        · intro v13 hE
          refine vl_aload_n 0 rfl dX8_isNearer_132 ?_
          refine vl_getR (h := 23) (k0 := 36) (h2 := 43) iu_X8 n23 s23 rfl (by decide) fk_X8_71 rfl dX8_isNearer_133 ?_
          refine vl_iload_n 2 rfl dX8_isNearer_136 ?_
          refine vl_aldr1 (h := 43) (n := 1000) (ni := 1000) n43 (by decide) s43 (by decide) rfl g6 dX8_isNearer_137 ?_
          refine vl_jnr (J := fun κ : Int → Option (Int) => ∀ (v15 : Int), vl_ok P (κ v15) → vl_V nc S sc kX8_isNearer d Post 146 [(0, .ref 23), (1, vl_iv a1), (2, vl_iv a2)] [vl_iv v15, vl_iv v13] μ m) ?_ hE (fun κ16 hκ16 hE => ?_)
          · intro v15 hE
            obtain ⟨g17, hE⟩ := vl_ok_gd hE
            obtain ⟨g18, hE⟩ := vl_ok_gd hE
            refine vl_icmp_eq (tgt := 164) dX8_isNearer_146 (by decide) g17 g18 hE (fun c30 hE => ?_) (fun c30 hE => ?_)
            · refine vl_aload_n 0 rfl dX8_isNearer_164 ?_
              refine vl_getR (h := 23) (k0 := 36) (h2 := 43) iu_X8 n23 s23 rfl (by decide) fk_X8_71 rfl dX8_isNearer_165 ?_
              refine vl_iload_n 1 rfl dX8_isNearer_168 ?_
              refine vl_aldr1 (h := 43) (n := 1000) (ni := 1000) n43 (by decide) s43 (by decide) rfl g1 dX8_isNearer_169 ?_
              refine vl_if_ge (tgt := 192) dX8_isNearer_170 (by decide) g3  hE (fun c28 hE => ?_) (fun c28 hE => ?_)
              · refine vl_aload_n 0 rfl dX8_isNearer_192 ?_
                refine vl_getR (h := 23) (k0 := 38) (h2 := 44) iu_X8 n23 s23 rfl (by decide) fk_X8_74 rfl dX8_isNearer_193 ?_
                refine vl_aload_n 0 rfl dX8_isNearer_196 ?_
                refine vl_getR (h := 23) (k0 := 35) (h2 := 42) iu_X8 n23 s23 rfl (by decide) fk_X8_68 rfl dX8_isNearer_197 ?_
                refine vl_iload_n 1 rfl dX8_isNearer_200 ?_
                refine vl_aldr1 (h := 42) (n := 1000) (ni := 1000) n42 (by decide) s42 (by decide) rfl g1 dX8_isNearer_201 ?_
                refine vl_aldr (h := 44) (n := 500) (ni := 500) n44 (by decide) s44 (by decide) rfl dX8_isNearer_202 hE (fun g19 g20 hE => ?_)
                refine vl_aload_n 0 rfl dX8_isNearer_203 ?_
                refine vl_getR (h := 23) (k0 := 38) (h2 := 44) iu_X8 n23 s23 rfl (by decide) fk_X8_74 rfl dX8_isNearer_204 ?_
                refine vl_aload_n 0 rfl dX8_isNearer_207 ?_
                refine vl_getR (h := 23) (k0 := 35) (h2 := 42) iu_X8 n23 s23 rfl (by decide) fk_X8_68 rfl dX8_isNearer_208 ?_
                refine vl_iload_n 2 rfl dX8_isNearer_211 ?_
                refine vl_aldr1 (h := 42) (n := 1000) (ni := 1000) n42 (by decide) s42 (by decide) rfl g6 dX8_isNearer_212 ?_
                refine vl_aldr (h := 44) (n := 500) (ni := 500) n44 (by decide) s44 (by decide) rfl dX8_isNearer_213 hE (fun g21 g22 hE => ?_)
                obtain ⟨g23, hE⟩ := vl_ok_gd hE
                obtain ⟨g24, hE⟩ := vl_ok_gd hE
                refine vl_icmp_ge (tgt := 221) dX8_isNearer_214 (by decide) g23 g24 hE (fun c25 hE => ?_) (fun c25 hE => ?_)
                · refine vl_iconst dX8_isNearer_221 ?_
                  exact vl_ret (r := 0) rfl ⟨dX8_isNearer_222, by decide⟩ hE (hP' (0))
                · refine vl_iconst dX8_isNearer_217 ?_
                  refine vl_goto (tgt := 222) dX8_isNearer_218 (by decide) ?_
                  exact vl_ret (r := 1) rfl ⟨dX8_isNearer_222, by decide⟩ hE (hP' (1))
              · refine vl_aload_n 0 rfl dX8_isNearer_173 ?_
                refine vl_aload_n 0 rfl dX8_isNearer_174 ?_
                refine vl_getR (h := 23) (k0 := 35) (h2 := 42) iu_X8 n23 s23 rfl (by decide) fk_X8_68 rfl dX8_isNearer_175 ?_
                refine vl_iload_n 1 rfl dX8_isNearer_178 ?_
                refine vl_aldr1 (h := 42) (n := 1000) (ni := 1000) n42 (by decide) s42 (by decide) rfl g1 dX8_isNearer_179 ?_
                refine vl_aload_n 0 rfl dX8_isNearer_180 ?_
                refine vl_getR (h := 23) (k0 := 35) (h2 := 42) iu_X8 n23 s23 rfl (by decide) fk_X8_68 rfl dX8_isNearer_181 ?_
                refine vl_iload_n 2 rfl dX8_isNearer_184 ?_
                refine vl_aldr1 (h := 42) (n := 1000) (ni := 1000) n42 (by decide) s42 (by decide) rfl g6 dX8_isNearer_185 ?_
                refine vl_VpI (K' := kX8_isBefore) (d' := 0) (h := 23) (As := [vl_iv (m 42 a1), vl_iv (m 42 a2)]) (st := []) lk_X8_231 (fun _ => rfl) (by omega) n23 s23 rfl rfl (Nat.le_of_ble_eq_true rfl) rfl (Nat.le_of_ble_eq_true rfl) dX8_isNearer_186 hE (fun _ h => vx_X8_isBefore hG (Nat.le_refl _) h) (fun b26 hE => ?_)
                refine vl_goto (tgt := 222) dX8_isNearer_189 (by decide) ?_
                obtain ⟨g27, hE⟩ := vl_ok_gd hE
                exact vl_ret (r := b26) rfl ⟨dX8_isNearer_222, g27⟩ hE (hP' (b26))
            · refine vl_aload_n 0 rfl dX8_isNearer_149 ?_
              refine vl_getR (h := 23) (k0 := 36) (h2 := 43) iu_X8 n23 s23 rfl (by decide) fk_X8_71 rfl dX8_isNearer_150 ?_
              refine vl_iload_n 1 rfl dX8_isNearer_153 ?_
              refine vl_aldr1 (h := 43) (n := 1000) (ni := 1000) n43 (by decide) s43 (by decide) rfl g1 dX8_isNearer_154 ?_
              refine vl_if_ge (tgt := 162) dX8_isNearer_155 (by decide) g3  hE (fun c29 hE => ?_) (fun c29 hE => ?_)
              · refine vl_iconst dX8_isNearer_162 ?_
                exact vl_ret (r := 0) rfl ⟨dX8_isNearer_163, by decide⟩ hE (hP' (0))
              · refine vl_iconst dX8_isNearer_158 ?_
                refine vl_goto (tgt := 163) dX8_isNearer_159 (by decide) ?_
                exact vl_ret (r := 1) rfl ⟨dX8_isNearer_163, by decide⟩ hE (hP' (1))
          refine vl_if_ge (tgt := 145) dX8_isNearer_138 (by decide) g8  hE (fun c31 hE => ?_) (fun c31 hE => ?_)
          · refine vl_iconst dX8_isNearer_145 ?_
            exact (hκ16 0 hE)
          · refine vl_iconst dX8_isNearer_141 ?_
            refine vl_goto (tgt := 146) dX8_isNearer_142 (by decide) ?_
            exact (hκ16 1 hE)
        refine vl_if_ge (tgt := 131) dX8_isNearer_124 (by decide) g3  hE (fun c32 hE => ?_) (fun c32 hE => ?_)
        · refine vl_iconst dX8_isNearer_131 ?_
          exact vl_wk [1, 2, 3] rfl (hκ14 0 hE)
        · refine vl_iconst dX8_isNearer_127 ?_
          refine vl_goto (tgt := 132) dX8_isNearer_128 (by decide) ?_
          exact vl_wk [1, 2, 3] rfl (hκ14 1 hE)
      · refine vl_lload 4 rfl dX8_isNearer_104 ?_
        refine vl_lload 0 rfl dX8_isNearer_106 ?_
        refine vl_lif_ge (tgt := 116) dX8_isNearer_108 dX8_isNearer_109 (by decide) g11 g12 hE (fun c33 hE => ?_) (fun c33 hE => ?_)
        · refine vl_iconst dX8_isNearer_116 ?_
          exact vl_ret (r := 0) rfl ⟨dX8_isNearer_117, by decide⟩ hE (hP' (0))
        · refine vl_iconst dX8_isNearer_112 ?_
          refine vl_goto (tgt := 117) dX8_isNearer_113 (by decide) ?_
          exact vl_ret (r := 1) rfl ⟨dX8_isNearer_117, by decide⟩ hE (hP' (1))
    refine vl_jnr (J := fun κ : Unit → Option (Int) => ∀ (u_κ35 : Unit), vl_ok P (κ u_κ35) → vl_V nc S sc kX8_isNearer d Post 75 [(0, .ref 23), (1, vl_iv a1), (2, vl_iv a2), (3, vl_iv a3), (4, vl_iv a4), (5, vl_jv v4)] [] μ m) ?_ hE (fun κ35 hκ35 hE => ?_)
    · intro u_κ35 hE
      refine vl_aload_n 0 rfl dX8_isNearer_75 ?_
      refine vl_aload_n 0 rfl dX8_isNearer_76 ?_
      refine vl_getR (h := 23) (k0 := 36) (h2 := 43) iu_X8 n23 s23 rfl (by decide) fk_X8_71 rfl dX8_isNearer_77 ?_
      refine vl_iload_n 2 rfl dX8_isNearer_80 ?_
      refine vl_aldr1 (h := 43) (n := 1000) (ni := 1000) n43 (by decide) s43 (by decide) rfl g6 dX8_isNearer_81 ?_
      refine vl_aload_n 0 rfl dX8_isNearer_82 ?_
      refine vl_getR (h := 23) (k0 := 35) (h2 := 42) iu_X8 n23 s23 rfl (by decide) fk_X8_68 rfl dX8_isNearer_83 ?_
      refine vl_iload_n 2 rfl dX8_isNearer_86 ?_
      refine vl_aldr1 (h := 42) (n := 1000) (ni := 1000) n42 (by decide) s42 (by decide) rfl g6 dX8_isNearer_87 ?_
      refine vl_iload_n 3 rfl dX8_isNearer_88 ?_
      refine vl_iload 4 rfl dX8_isNearer_89 ?_
      refine vl_VpJ (K' := kX8_far) (d' := 1) (h := 23) (As := [vl_iv (m 43 a2), vl_iv (m 42 a2), vl_iv a3, vl_iv a4]) (st := []) lk_X8_228 (fun _ => rfl) (by omega) n23 s23 rfl rfl (Nat.le_of_ble_eq_true rfl) rfl (Nat.le_of_ble_eq_true rfl) dX8_isNearer_91 hE (fun _ h => vx_X8_far hG (Nat.le_refl _) h) (fun b36 hE => ?_)
      exact vl_wk [0, 1, 2, 5] rfl (hκ10 b36 hE)
    refine vl_if_lt (tgt := 75) dX8_isNearer_54 (by decide) g8  hE (fun c41 hE => ?_) (fun c41 hE => ?_)
    · exact vl_wk [1, 2, 3, 4, 5, 0] rfl (hκ35 () hE)
    · refine vl_aload_n 1 rfl dX8_isNearer_57 ?_
      refine vl_getR (h := 23) (k0 := 7) (h2 := 27) iu_X8 n23 s23 rfl (by decide) fk_X8_23 rfl dX8_isNearer_58 ?_
      refine vl_aload_n 1 rfl dX8_isNearer_61 ?_
      refine vl_getR (h := 23) (k0 := 35) (h2 := 42) iu_X8 n23 s23 rfl (by decide) fk_X8_68 rfl dX8_isNearer_62 ?_
      refine vl_iload_n 3 rfl dX8_isNearer_65 ?_
      refine vl_aldr1 (h := 42) (n := 1000) (ni := 1000) n42 (by decide) s42 (by decide) rfl g6 dX8_isNearer_66 ?_
      refine vl_aldr (h := 27) (n := 500) (ni := 500) n27 (by decide) s27 (by decide) rfl dX8_isNearer_67 hE (fun g37 g38 hE => ?_)
      obtain ⟨g39, hE⟩ := vl_ok_gd hE
      refine vl_if_ne (tgt := 75) dX8_isNearer_68 (by decide) g39  hE (fun c40 hE => ?_) (fun c40 hE => ?_)
      · exact vl_wk [1, 2, 3, 4, 5, 0] rfl (hκ35 () hE)
      · refine vl_lconst (x := 0) rfl dX8_isNearer_71 ?_
        refine vl_goto (tgt := 94) dX8_isNearer_72 (by decide) ?_
        exact vl_wk [1, 2, 3, 0] rfl (hκ10 0 hE)
  refine vl_jnr (J := fun κ : Unit → Option (Int) => ∀ (u_κ42 : Unit), vl_ok P (κ u_κ42) → vl_V nc S sc kX8_isNearer d Post 27 [(0, .ref 23), (1, vl_iv a1), (2, vl_iv a2), (3, vl_iv a3), (4, vl_iv a4)] [] μ m) ?_ hE (fun κ42 hκ42 hE => ?_)
  · intro u_κ42 hE
    refine vl_aload_n 0 rfl dX8_isNearer_27 ?_
    refine vl_aload_n 0 rfl dX8_isNearer_28 ?_
    refine vl_getR (h := 23) (k0 := 36) (h2 := 43) iu_X8 n23 s23 rfl (by decide) fk_X8_71 rfl dX8_isNearer_29 ?_
    refine vl_iload_n 1 rfl dX8_isNearer_32 ?_
    refine vl_aldr1 (h := 43) (n := 1000) (ni := 1000) n43 (by decide) s43 (by decide) rfl g1 dX8_isNearer_33 ?_
    refine vl_aload_n 0 rfl dX8_isNearer_34 ?_
    refine vl_getR (h := 23) (k0 := 35) (h2 := 42) iu_X8 n23 s23 rfl (by decide) fk_X8_68 rfl dX8_isNearer_35 ?_
    refine vl_iload_n 1 rfl dX8_isNearer_38 ?_
    refine vl_aldr1 (h := 42) (n := 1000) (ni := 1000) n42 (by decide) s42 (by decide) rfl g1 dX8_isNearer_39 ?_
    refine vl_iload_n 3 rfl dX8_isNearer_40 ?_
    refine vl_iload 4 rfl dX8_isNearer_41 ?_
    refine vl_VpJ (K' := kX8_far) (d' := 1) (h := 23) (As := [vl_iv (m 43 a1), vl_iv (m 42 a1), vl_iv a3, vl_iv a4]) (st := []) lk_X8_228 (fun _ => rfl) (by omega) n23 s23 rfl rfl (Nat.le_of_ble_eq_true rfl) rfl (Nat.le_of_ble_eq_true rfl) dX8_isNearer_43 hE (fun _ h => vx_X8_far hG (Nat.le_refl _) h) (fun b43 hE => ?_)
    exact (hκ5 b43 hE)
  refine vl_if_lt (tgt := 27) dX8_isNearer_6 (by decide) g3  hE (fun c48 hE => ?_) (fun c48 hE => ?_)
  · exact (hκ42 () hE)
  · refine vl_aload_n 0 rfl dX8_isNearer_9 ?_
    refine vl_getR (h := 23) (k0 := 7) (h2 := 27) iu_X8 n23 s23 rfl (by decide) fk_X8_23 rfl dX8_isNearer_10 ?_
    refine vl_aload_n 0 rfl dX8_isNearer_13 ?_
    refine vl_getR (h := 23) (k0 := 35) (h2 := 42) iu_X8 n23 s23 rfl (by decide) fk_X8_68 rfl dX8_isNearer_14 ?_
    refine vl_iload_n 1 rfl dX8_isNearer_17 ?_
    refine vl_aldr1 (h := 42) (n := 1000) (ni := 1000) n42 (by decide) s42 (by decide) rfl g1 dX8_isNearer_18 ?_
    refine vl_aldr (h := 27) (n := 500) (ni := 500) n27 (by decide) s27 (by decide) rfl dX8_isNearer_19 hE (fun g44 g45 hE => ?_)
    obtain ⟨g46, hE⟩ := vl_ok_gd hE
    refine vl_if_ne (tgt := 27) dX8_isNearer_20 (by decide) g46  hE (fun c47 hE => ?_) (fun c47 hE => ?_)
    · exact (hκ42 () hE)
    · refine vl_lconst (x := 0) rfl dX8_isNearer_23 ?_
      refine vl_goto (tgt := 46) dX8_isNearer_24 (by decide) ?_
      exact (hκ5 0 hE)
set_option maxRecDepth 100000 in
set_option maxHeartbeats 4000000 in
theorem vx_X8_layer {nc : Nat} {S : vl_Sh} {sc : Nat × (Nat → Int32)} (hG : vl_G3 nc S) {N : Nat} {d : Nat} (hd : 2 ≤ d) {Post : Int → vl_M → vl_M → Prop} {μ m : vl_M} {a1 a2 : Int} (hE : vl_ok (fun b : Int × vl_M => Post b.1 μ b.2) (fn_X8_layer N m a1 a2)) : vl_V nc S sc kX8_layer d Post 0 [(0, .ref 23), (1, vl_iv a1), (2, vl_iv a2)] [] μ m := by
  generalize hP : (fun b : Int × vl_M => Post b.1 μ b.2) = P at hE
  have hP' : ∀ b : Int × vl_M, P b → Post b.1 μ b.2 := fun b h => by rw [← hP] at h; exact h
  clear hP
  have s23 : S 23 = .inr (8, [0, 0, 0, 27, 28, 0, 29, 30, 31, 32, 33, 0, 0, 0, 0, 34, 35, 0, 36, 0, 0, 37, 38, 39, 0, 0, 0, 0, 0, 1, 40, 41, 42, 43, 44, 45, 46, 0, 47, 48, 49]) := hG.2 23 (by decide) (by decide)
  have n23 : 23 < nc := Nat.lt_of_lt_of_le (by decide) hG.1
  have s45 : S 45 = .inl 400 := hG.2 45 (by decide) (by decide)
  have n45 : 45 < nc := Nat.lt_of_lt_of_le (by decide) hG.1
  have s46 : S 46 = .inl 200 := hG.2 46 (by decide) (by decide)
  have n46 : 46 < nc := Nat.lt_of_lt_of_le (by decide) hG.1
  unfold fn_X8_layer at hE
  refine vl_iconst dX8_layer_0 ?_
  refine vl_istore_n0 rfl (lv' := [(3, vl_iv 0), (0, .ref 23), (1, vl_iv a1), (2, vl_iv a2)]) dX8_layer_1 (by decide) rfl ?_
  refine vl_iconst dX8_layer_2 ?_
  refine vl_istore0 (lv' := [(4, vl_iv 0), (3, vl_iv 0), (0, .ref 23), (1, vl_iv a1), (2, vl_iv a2)]) dX8_layer_3 (by decide) rfl ?_
  refine vl_iload_n 4 rfl dX8_layer_5 ?_
  refine vl_istore0 (lv' := [(5, vl_iv a2), (4, vl_iv 0), (3, vl_iv 0), (0, .ref 23), (1, vl_iv a1), (2, vl_iv a2)]) dX8_layer_6 (by decide) rfl ?_
  refine vl_lpr (F := fun κ : Int → Int → Int → vl_M → Option (Int × vl_M) => fn_X8_layer_L8 N a1 κ N 0 0 a2 m) (J := fun κ => ∀ (v5 : Int) (v6 : Int) (v7 : Int) (m8 : vl_M), vl_ok P (κ v5 v6 v7 m8) → vl_V nc S sc kX8_layer d Post 139 [(0, .ref 23), (3, vl_iv v5)] [] μ m8) ?_ hE (fun κ hκL84 hE => ?_)
  · intro v5 v6 v7 m8 hE
    refine vl_iconst dX8_layer_139 ?_
    refine vl_istore0 (lv' := [(6, vl_iv 0), (0, .ref 23), (3, vl_iv v5)]) dX8_layer_140 (by decide) rfl ?_
    refine vl_lpr (F := fun κ : Int → vl_M → Option (Int × vl_M) => fn_X8_layer_L142 N v5 κ N 0 m8) (J := fun κ => ∀ (v11 : Int) (m12 : vl_M), vl_ok P (κ v11 m12) → vl_V nc S sc kX8_layer d Post 168 [(3, vl_iv v5)] [] μ m12) ?_ hE (fun κ hκ14210 hE => ?_)
    · intro v11 m12 hE
      refine vl_iload_n 0 rfl dX8_layer_168 ?_
      exact vl_ret (r := v5) rfl dX8_layer_169 hE (hP' (v5, m12))
    have hL142_ : ∀ (n : Nat) (v9 : Int) (m10 : vl_M), vl_ok P (fn_X8_layer_L142 N v5 κ n v9 m10) → vl_V nc S sc kX8_layer d Post 142 [(0, .ref 23), (3, vl_iv v5), (6, vl_iv v9)] [] μ m10 := by
      intro n
      induction n with
      | zero => intro v9 m10 hE; exact vl_no hE
      | succ n ih142_ =>
        intro v9 m10 hE
        rw [fn_X8_layer_L142] at hE
        refine vl_iload 2 rfl dX8_layer_142 ?_
        refine vl_iload_n 1 rfl dX8_layer_144 ?_
        obtain ⟨g13, hE⟩ := vl_ok_gd hE
        obtain ⟨g14, hE⟩ := vl_ok_gd hE
        refine vl_icmp_ge (tgt := 168) dX8_layer_145 (by decide) g13 g14 hE (fun c21 hE => ?_) (fun c21 hE => ?_)
        · exact vl_wk [1] rfl (hκ14210 v9 m10 hE)
        · refine vl_aload_n 0 rfl dX8_layer_148 ?_
          refine vl_getR (h := 23) (k0 := 39) (h2 := 45) iu_X8 n23 s23 rfl (by decide) fk_X8_77 rfl dX8_layer_149 ?_
          refine vl_iload 2 rfl dX8_layer_152 ?_
          refine vl_aload_n 0 rfl dX8_layer_154 ?_
          refine vl_getR (h := 23) (k0 := 40) (h2 := 46) iu_X8 n23 s23 rfl (by decide) fk_X8_80 rfl dX8_layer_155 ?_
          refine vl_iload 2 rfl dX8_layer_158 ?_
          refine vl_aldr (h := 46) (n := 200) (ni := 200) n46 (by decide) s46 (by decide) rfl dX8_layer_160 hE (fun g15 g16 hE => ?_)
          refine vl_astr (h := 45) (n := 400) (ni := 400) n45 (by decide) s45 (by decide) rfl dX8_layer_161 hE (fun g18 g19 m17 hE => ?_)
          refine vl_iinc 2 (fun v20 => [(6, vl_iv v20), (0, .ref 23), (3, vl_iv v5)]) dX8_layer_162 rfl (by decide) (fun _ => rfl) hE (fun v20 hE => ?_)
          refine vl_goto (tgt := 142) dX8_layer_165 (by decide) ?_
          exact vl_wk [1, 2, 0] rfl (ih142_ v20 m17 hE)
    exact vl_wk [1, 2, 0] rfl (hL142_ N 0 m8 hE)
  have hL8_ : ∀ (n : Nat) (v1 : Int) (v2 : Int) (v3 : Int) (m4 : vl_M), vl_ok P (fn_X8_layer_L8 N a1 κ n v1 v2 v3 m4) → vl_V nc S sc kX8_layer d Post 8 [(0, .ref 23), (1, vl_iv a1), (3, vl_iv v1), (4, vl_iv v2), (5, vl_iv v3)] [] μ m4 := by
    intro n
    induction n with
    | zero => intro v1 v2 v3 m4 hE; exact vl_no hE
    | succ n ih8_ =>
      intro v1 v2 v3 m4 hE
      rw [fn_X8_layer_L8] at hE
      refine vl_iload 4 rfl dX8_layer_8 ?_
      obtain ⟨g22, hE⟩ := vl_ok_gd hE
      refine vl_if_le (tgt := 139) dX8_layer_10 (by decide) g22  hE (fun c54 hE => ?_) (fun c54 hE => ?_)
      · exact vl_wk [0, 2] rfl (hκL84 v1 v2 v3 m4 hE)
      · refine vl_iload 4 rfl dX8_layer_13 ?_
        refine vl_aload_n 0 rfl dX8_layer_15 ?_
        refine vl_getIr (h := 23) (k0 := 1) (ki := 1) iu_X8 n23 (by decide) s23 rfl (by decide) fk_X8_83 rfl rfl dX8_layer_16 ?_
        refine vl_isub dX8_layer_19 ?_
        refine vl_istore (fun v23 => [(6, vl_iv v23), (0, .ref 23), (1, vl_iv a1), (3, vl_iv v1), (4, vl_iv v2), (5, vl_iv v3)]) dX8_layer_20 (by decide) (fun _ => rfl) hE (fun v23 hE => ?_)
        refine vl_iload 5 rfl dX8_layer_22 ?_
        refine vl_aload_n 1 rfl dX8_layer_24 ?_
        refine vl_getIr (h := 23) (k0 := 1) (ki := 1) iu_X8 n23 (by decide) s23 rfl (by decide) fk_X8_83 rfl rfl dX8_layer_25 ?_
        obtain ⟨g24, hE⟩ := vl_ok_gd hE
        refine vl_jnr (J := fun κ : Int → Option (Int × vl_M) => ∀ (v25 : Int), vl_ok P (κ v25) → vl_V nc S sc kX8_layer d Post 64 [(0, .ref 23), (1, vl_iv a1), (3, vl_iv v1), (4, vl_iv v2), (5, vl_iv v3)] [vl_iv v25] μ m4) ?_ hE (fun κ26 hκ26 hE => ?_)
        · intro v25 hE
          refine vl_istore0 (lv' := [(7, vl_iv v25), (0, .ref 23), (1, vl_iv a1), (3, vl_iv v1), (4, vl_iv v2), (5, vl_iv v3)]) dX8_layer_64 (by decide) rfl ?_
          refine vl_aload_n 1 rfl dX8_layer_66 ?_
          refine vl_iload_n 2 rfl dX8_layer_67 ?_
          refine vl_VrWI (K' := kX8_node) (d' := 0) (h := 23) (As := [vl_iv a1]) (st := []) lk_X8_89 (fun _ => rfl) (by omega) n23 s23 rfl rfl (Nat.le_of_ble_eq_true rfl) rfl (Nat.le_of_ble_eq_true rfl) dX8_layer_68 hE (fun _ h => vx_X8_node hG (Nat.le_refl _) h) (fun b27 m28 hE => ?_)
          refine vl_istore0 (lv' := [(8, vl_iv b27), (7, vl_iv v25), (0, .ref 23), (1, vl_iv a1), (3, vl_iv v1), (4, vl_iv v2), (5, vl_iv v3)]) dX8_layer_71 (by decide) rfl ?_
          refine vl_iconst dX8_layer_73 ?_
          refine vl_istore0 (lv' := [(9, vl_iv 0), (8, vl_iv b27), (7, vl_iv v25), (0, .ref 23), (1, vl_iv a1), (3, vl_iv v1), (4, vl_iv v2), (5, vl_iv v3)]) dX8_layer_74 (by decide) rfl ?_
          refine vl_lpr (F := fun κ : Int → vl_M → Option (Int × vl_M) => fn_X8_layer_L76 N a1 v1 v2 v3 v25 b27 κ N 0 m28) (J := fun κ => ∀ (v31 : Int) (m32 : vl_M), vl_ok P (κ v31 m32) → vl_V nc S sc kX8_layer d Post 105 [(0, .ref 23), (1, vl_iv a1), (3, vl_iv v1), (4, vl_iv v2), (5, vl_iv v3), (7, vl_iv v25), (8, vl_iv b27)] [] μ m32) ?_ hE (fun κ hκL7630 hE => ?_)
          · intro v31 m32 hE
            refine vl_aload_n 0 rfl dX8_layer_105 ?_
            refine vl_iload 6 rfl dX8_layer_106 ?_
            refine vl_VrWV (K' := kX8_measure) (d' := 1) (h := 23) (As := [vl_iv b27]) (st := []) lk_X8_118 (fun _ => rfl) (by omega) n23 s23 rfl rfl (Nat.le_of_ble_eq_true rfl) rfl (Nat.le_of_ble_eq_true rfl) dX8_layer_108 hE (fun _ h => vx_X8_measure hG (Nat.le_refl _) h) (fun m34 hE => ?_)
            refine vl_iload 3 rfl dX8_layer_111 ?_
            refine vl_iload 5 rfl dX8_layer_113 ?_
            refine vl_iadd dX8_layer_115 ?_
            refine vl_istore (fun v35 => [(4, vl_iv v35), (0, .ref 23), (1, vl_iv a1), (3, vl_iv v1), (5, vl_iv v3), (7, vl_iv v25), (8, vl_iv b27)]) dX8_layer_116 (by decide) (fun _ => rfl) hE (fun v35 hE => ?_)
            refine vl_iload 4 rfl dX8_layer_118 ?_
            refine vl_iload 5 rfl dX8_layer_120 ?_
            refine vl_isub dX8_layer_122 ?_
            refine vl_istore (fun v36 => [(5, vl_iv v36), (4, vl_iv v35), (0, .ref 23), (1, vl_iv a1), (3, vl_iv v1), (7, vl_iv v25), (8, vl_iv b27)]) dX8_layer_123 (by decide) (fun _ => rfl) hE (fun v36 hE => ?_)
            refine vl_aload_n 2 rfl dX8_layer_125 ?_
            refine vl_getR (h := 23) (k0 := 40) (h2 := 46) iu_X8 n23 s23 rfl (by decide) fk_X8_80 rfl dX8_layer_126 ?_
            refine vl_iload_n 4 rfl dX8_layer_129 ?_
            refine vl_iload 6 rfl dX8_layer_130 ?_
            refine vl_astr (h := 46) (n := 200) (ni := 200) n46 (by decide) s46 (by decide) rfl dX8_layer_132 hE (fun g38 g39 m37 hE => ?_)
            refine vl_iinc 4 (fun v40 => [(3, vl_iv v40), (5, vl_iv v36), (4, vl_iv v35), (0, .ref 23), (1, vl_iv a1), (7, vl_iv v25), (8, vl_iv b27)]) dX8_layer_133 rfl (by decide) (fun _ => rfl) hE (fun v40 hE => ?_)
            refine vl_goto (tgt := 8) dX8_layer_136 (by decide) ?_
            exact vl_wk [3, 4, 0, 2, 1] rfl (ih8_ v40 v35 v36 m37 hE)
          have hL76_ : ∀ (n : Nat) (v29 : Int) (m30 : vl_M), vl_ok P (fn_X8_layer_L76 N a1 v1 v2 v3 v25 b27 κ n v29 m30) → vl_V nc S sc kX8_layer d Post 76 [(0, .ref 23), (1, vl_iv a1), (3, vl_iv v1), (4, vl_iv v2), (5, vl_iv v3), (7, vl_iv v25), (8, vl_iv b27), (9, vl_iv v29)] [] μ m30 := by
            intro n
            induction n with
            | zero => intro v29 m30 hE; exact vl_no hE
            | succ n ih76_ =>
              intro v29 m30 hE
              rw [fn_X8_layer_L76] at hE
              refine vl_iload 7 rfl dX8_layer_76 ?_
              refine vl_iload 5 rfl dX8_layer_78 ?_
              obtain ⟨g41, hE⟩ := vl_ok_gd hE
              obtain ⟨g42, hE⟩ := vl_ok_gd hE
              refine vl_icmp_ge (tgt := 105) dX8_layer_80 (by decide) g41 g42 hE (fun c48 hE => ?_) (fun c48 hE => ?_)
              · exact vl_wk [0, 1, 2, 3, 4, 5, 6] rfl (hκL7630 v29 m30 hE)
              · refine vl_aload_n 0 rfl dX8_layer_83 ?_
                refine vl_iload 6 rfl dX8_layer_84 ?_
                refine vl_aload_n 0 rfl dX8_layer_86 ?_
                refine vl_getR (h := 23) (k0 := 39) (h2 := 45) iu_X8 n23 s23 rfl (by decide) fk_X8_77 rfl dX8_layer_87 ?_
                refine vl_iload 3 rfl dX8_layer_90 ?_
                refine vl_iload 7 rfl dX8_layer_92 ?_
                refine vl_iadd dX8_layer_94 ?_
                refine vl_aldr (h := 45) (n := 400) (ni := 400) n45 (by decide) s45 (by decide) rfl dX8_layer_95 hE (fun g43 g44 hE => ?_)
                refine vl_VrWV (K' := kX8_hold) (d' := 0) (h := 23) (As := [vl_iv b27, vl_iv (m30 45 (v2 + v29))]) (st := []) lk_X8_135 (fun _ => rfl) (by omega) n23 s23 rfl rfl (Nat.le_of_ble_eq_true rfl) rfl (Nat.le_of_ble_eq_true rfl) dX8_layer_96 hE (fun _ h => vx_X8_hold hG (Nat.le_refl _) h) (fun m46 hE => ?_)
                refine vl_iinc 7 (fun v47 => [(9, vl_iv v47), (0, .ref 23), (1, vl_iv a1), (3, vl_iv v1), (4, vl_iv v2), (5, vl_iv v3), (7, vl_iv v25), (8, vl_iv b27)]) dX8_layer_99 rfl (by decide) (fun _ => rfl) hE (fun v47 hE => ?_)
                refine vl_goto (tgt := 76) dX8_layer_102 (by decide) ?_
                exact vl_wk [1, 2, 3, 4, 5, 6, 7, 0] rfl (ih76_ v47 m46 hE)
          exact vl_wk [3, 4, 5, 6, 7, 2, 1, 0] rfl (hL76_ N 0 m28 hE)
        refine vl_icmp_gt (tgt := 36) dX8_layer_28 (by decide) g22 g24 hE (fun c53 hE => ?_) (fun c53 hE => ?_)
        · refine vl_iload 0 rfl dX8_layer_36 ?_
          refine vl_aload_n 1 rfl dX8_layer_38 ?_
          refine vl_getIr (h := 23) (k0 := 2) (ki := 2) iu_X8 n23 (by decide) s23 rfl (by decide) fk_X8_86 rfl rfl dX8_layer_39 ?_
          obtain ⟨g49, hE⟩ := vl_ok_gd hE
          obtain ⟨g50, hE⟩ := vl_ok_gd hE
          refine vl_icmp_ge (tgt := 60) dX8_layer_42 (by decide) g49 g50 hE (fun c52 hE => ?_) (fun c52 hE => ?_)
          · refine vl_aload_n 1 rfl dX8_layer_60 ?_
            refine vl_getIr (h := 23) (k0 := 1) (ki := 1) iu_X8 n23 (by decide) s23 rfl (by decide) fk_X8_83 rfl rfl dX8_layer_61 ?_
            exact vl_wk [1, 2, 3, 4, 5] rfl (hκ26 (m4 23 1) hE)
          · refine vl_iload 0 rfl dX8_layer_45 ?_
            refine vl_if_le (tgt := 60) dX8_layer_47 (by decide) g49  hE (fun c51 hE => ?_) (fun c51 hE => ?_)
            · refine vl_aload_n 1 rfl dX8_layer_60 ?_
              refine vl_getIr (h := 23) (k0 := 1) (ki := 1) iu_X8 n23 (by decide) s23 rfl (by decide) fk_X8_83 rfl rfl dX8_layer_61 ?_
              exact vl_wk [1, 2, 3, 4, 5] rfl (hκ26 (m4 23 1) hE)
            · refine vl_iload 5 rfl dX8_layer_50 ?_
              refine vl_aload_n 1 rfl dX8_layer_52 ?_
              refine vl_getIr (h := 23) (k0 := 2) (ki := 2) iu_X8 n23 (by decide) s23 rfl (by decide) fk_X8_86 rfl rfl dX8_layer_53 ?_
              refine vl_isub dX8_layer_56 ?_
              refine vl_goto (tgt := 64) dX8_layer_57 (by decide) ?_
              exact vl_wk [1, 2, 3, 4, 5] rfl (hκ26 (v3 - (m4 23 2)) hE)
        · refine vl_iload 5 rfl dX8_layer_31 ?_
          refine vl_goto (tgt := 64) dX8_layer_33 (by decide) ?_
          exact vl_wk [1, 2, 3, 4, 5] rfl (hκ26 v3 hE)
  exact vl_wk [3, 4, 2, 1, 0] rfl (hL8_ N 0 0 a2 m hE)
set_option maxRecDepth 100000 in
set_option maxHeartbeats 4000000 in
theorem vx_X8_measureUp {nc : Nat} {S : vl_Sh} {sc : Nat × (Nat → Int32)} (hG : vl_G3 nc S) {N : Nat} {d : Nat} (hd : 2 ≤ d) {Post : Int → vl_M → vl_M → Prop} {μ m : vl_M} {a1 : Int} (hE : vl_ok (fun b : vl_M => Post 0 μ b) (fn_X8_measureUp N m a1)) : vl_V nc S sc kX8_measureUp d Post 0 [(0, .ref 23), (1, vl_iv a1)] [] μ m := by
  generalize hP : (fun b : vl_M => Post 0 μ b) = P at hE
  have hP' : ∀ b : vl_M, P b → Post 0 μ b := fun b h => by rw [← hP] at h; exact h
  clear hP
  have s23 : S 23 = .inr (8, [0, 0, 0, 27, 28, 0, 29, 30, 31, 32, 33, 0, 0, 0, 0, 34, 35, 0, 36, 0, 0, 37, 38, 39, 0, 0, 0, 0, 0, 1, 40, 41, 42, 43, 44, 45, 46, 0, 47, 48, 49]) := hG.2 23 (by decide) (by decide)
  have n23 : 23 < nc := Nat.lt_of_lt_of_le (by decide) hG.1
  have s30 : S 30 = .inl 500 := hG.2 30 (by decide) (by decide)
  have n30 : 30 < nc := Nat.lt_of_lt_of_le (by decide) hG.1
  unfold fn_X8_measureUp at hE
  refine vl_iload_n 1 rfl dX8_measureUp_0 ?_
  refine vl_istore_n0 rfl (lv' := [(2, vl_iv a1), (0, .ref 23), (1, vl_iv a1)]) dX8_measureUp_1 (by decide) rfl ?_
  refine vl_lpr (F := fun κ : Int → vl_M → Option (vl_M) => fn_X8_measureUp_L2 N  κ N a1 m) (J := fun κ => ∀ (v3 : Int) (m4 : vl_M), vl_ok P (κ v3 m4) → vl_V nc S sc kX8_measureUp d Post 21 [] [] μ m4) ?_ hE (fun κ hκL22 hE => ?_)
  · intro v3 m4 hE
    exact vl_ret (r := 0) rfl dX8_measureUp_21 hE (hP' m4)
  have hL2_ : ∀ (n : Nat) (v1 : Int) (m2 : vl_M), vl_ok P (fn_X8_measureUp_L2 N  κ n v1 m2) → vl_V nc S sc kX8_measureUp d Post 2 [(0, .ref 23), (2, vl_iv v1)] [] μ m2 := by
    intro n
    induction n with
    | zero => intro v1 m2 hE; exact vl_no hE
    | succ n ih2_ =>
      intro v1 m2 hE
      rw [fn_X8_measureUp_L2] at hE
      refine vl_iload_n 1 rfl dX8_measureUp_2 ?_
      obtain ⟨g5, hE⟩ := vl_ok_gd hE
      refine vl_if_lt (tgt := 21) dX8_measureUp_3 (by decide) g5  hE (fun c11 hE => ?_) (fun c11 hE => ?_)
      · exact vl_wk [] rfl (hκL22 v1 m2 hE)
      · refine vl_aload_n 0 rfl dX8_measureUp_6 ?_
        refine vl_iload_n 1 rfl dX8_measureUp_7 ?_
        refine vl_VrWV (K' := kX8_measure) (d' := 1) (h := 23) (As := [vl_iv v1]) (st := []) lk_X8_118 (fun _ => rfl) (by omega) n23 s23 rfl rfl (Nat.le_of_ble_eq_true rfl) rfl (Nat.le_of_ble_eq_true rfl) dX8_measureUp_8 hE (fun _ h => vx_X8_measure hG (Nat.le_refl _) h) (fun m7 hE => ?_)
        refine vl_aload_n 0 rfl dX8_measureUp_11 ?_
        refine vl_getR (h := 23) (k0 := 10) (h2 := 30) iu_X8 n23 s23 rfl (by decide) fk_X8_32 rfl dX8_measureUp_12 ?_
        refine vl_iload_n 1 rfl dX8_measureUp_15 ?_
        refine vl_aldr (h := 30) (n := 500) (ni := 500) n30 (by decide) s30 (by decide) rfl dX8_measureUp_16 hE (fun g8 g9 hE => ?_)
        refine vl_istore_n rfl (fun v10 => [(2, vl_iv v10), (0, .ref 23)]) dX8_measureUp_17 (by decide) (fun _ => rfl) hE (fun v10 hE => ?_)
        refine vl_goto (tgt := 2) dX8_measureUp_18 (by decide) ?_
        exact vl_wk [1, 0] rfl (ih2_ v10 m7 hE)
  exact vl_wk [1, 0] rfl (hL2_ N a1 m hE)
set_option maxRecDepth 100000 in
set_option maxHeartbeats 4000000 in
theorem vx_X8_next {nc : Nat} {S : vl_Sh} {sc : Nat × (Nat → Int32)} (hG : vl_G3 nc S) {N : Nat} {d : Nat} (hd : 2 ≤ d) {Post : Int → vl_M → vl_M → Prop} {μ m : vl_M} (hE : vl_ok (fun b : Int × vl_M => Post b.1 μ b.2) (fn_X8_next N m )) : vl_V nc S sc kX8_next d Post 0 [(0, .ref 23)] [] μ m := by
  generalize hP : (fun b : Int × vl_M => Post b.1 μ b.2) = P at hE
  have hP' : ∀ b : Int × vl_M, P b → Post b.1 μ b.2 := fun b h => by rw [← hP] at h; exact h
  clear hP
  have s23 : S 23 = .inr (8, [0, 0, 0, 27, 28, 0, 29, 30, 31, 32, 33, 0, 0, 0, 0, 34, 35, 0, 36, 0, 0, 37, 38, 39, 0, 0, 0, 0, 0, 1, 40, 41, 42, 43, 44, 45, 46, 0, 47, 48, 49]) := hG.2 23 (by decide) (by decide)
  have n23 : 23 < nc := Nat.lt_of_lt_of_le (by decide) hG.1
  have s24 : S 24 = .inl 401 := hG.2 24 (by decide) (by decide)
  have n24 : 24 < nc := Nat.lt_of_lt_of_le (by decide) hG.1
  have s26 : S 26 = .inl 500 := hG.2 26 (by decide) (by decide)
  have n26 : 26 < nc := Nat.lt_of_lt_of_le (by decide) hG.1
  have s27 : S 27 = .inl 500 := hG.2 27 (by decide) (by decide)
  have n27 : 27 < nc := Nat.lt_of_lt_of_le (by decide) hG.1
  have s34 : S 34 = .inl 4 := hG.2 34 (by decide) (by decide)
  have n34 : 34 < nc := Nat.lt_of_lt_of_le (by decide) hG.1
  have s35 : S 35 = .inl 40 := hG.2 35 (by decide) (by decide)
  have n35 : 35 < nc := Nat.lt_of_lt_of_le (by decide) hG.1
  have s36 : S 36 = .inl 40 := hG.2 36 (by decide) (by decide)
  have n36 : 36 < nc := Nat.lt_of_lt_of_le (by decide) hG.1
  unfold fn_X8_next at hE
  refine vl_aload_n 0 rfl dX8_next_0 ?_
  refine vl_getIr (h := 23) (k0 := 20) (ki := 20) iu_X8 n23 (by decide) s23 rfl (by decide) fk_X8_184 rfl rfl dX8_next_1 ?_
  obtain ⟨g1, hE⟩ := vl_ok_gd hE
  refine vl_if_ne (tgt := 9) dX8_next_4 (by decide) g1  hE (fun c41 hE => ?_) (fun c41 hE => ?_)
  · refine vl_aload_n 0 rfl dX8_next_9 ?_
    refine vl_getIr (h := 23) (k0 := 25) (ki := 25) iu_X8 n23 (by decide) s23 rfl (by decide) fk_X8_206 rfl rfl dX8_next_10 ?_
    obtain ⟨g2, hE⟩ := vl_ok_gd hE
    refine vl_jnr (J := fun κ : vl_M → Option (Int × vl_M) => ∀ (m3 : vl_M), vl_ok P (κ m3) → vl_V nc S sc kX8_next d Post 29 [(0, .ref 23)] [] μ m3) ?_ hE (fun κ4 hκ4 hE => ?_)
    · intro m3 hE
      refine vl_lpr (F := fun κ : vl_M → Option (Int × vl_M) => fn_X8_next_L29 N  κ N m3) (J := fun κ => ∀ (m6 : vl_M), vl_ok P (κ m6) → vl_V nc S sc kX8_next d Post 177 [] [] μ m6) ?_ hE (fun κ hκL295 hE => ?_)
      · intro m6 hE
        refine vl_bipush (by decide) dX8_next_177 ?_
        exact vl_ret (r := (-2)) rfl dX8_next_179 hE (hP' ((-2), m6))
      have hL29_ : ∀ (n : Nat) (m5 : vl_M), vl_ok P (fn_X8_next_L29 N  κ n m5) → vl_V nc S sc kX8_next d Post 29 [(0, .ref 23)] [] μ m5 := by
        intro n
        induction n with
        | zero => intro m5 hE; exact vl_no hE
        | succ n ih29_ =>
          intro m5 hE
          rw [fn_X8_next_L29] at hE
          refine vl_aload_n 0 rfl dX8_next_29 ?_
          refine vl_getIr (h := 23) (k0 := 24) (ki := 24) iu_X8 n23 (by decide) s23 rfl (by decide) fk_X8_209 rfl rfl dX8_next_30 ?_
          obtain ⟨g7, hE⟩ := vl_ok_gd hE
          refine vl_if_le (tgt := 177) dX8_next_33 (by decide) g7  hE (fun c36 hE => ?_) (fun c36 hE => ?_)
          · exact vl_wk [] rfl (hκL295 m5 hE)
          · refine vl_aload_n 0 rfl dX8_next_36 ?_
            refine vl_getR (h := 23) (k0 := 22) (h2 := 35) iu_X8 n23 s23 rfl (by decide) fk_X8_47 rfl dX8_next_37 ?_
            refine vl_aload_n 0 rfl dX8_next_40 ?_
            refine vl_getIr (h := 23) (k0 := 24) (ki := 24) iu_X8 n23 (by decide) s23 rfl (by decide) fk_X8_209 rfl rfl dX8_next_41 ?_
            refine vl_iconst dX8_next_44 ?_
            refine vl_isub dX8_next_45 ?_
            refine vl_aldr (h := 35) (n := 40) (ni := 40) n35 (by decide) s35 (by decide) rfl dX8_next_46 hE (fun g8 g9 hE => ?_)
            refine vl_istore_n rfl (fun v10 => [(1, vl_iv v10), (0, .ref 23)]) dX8_next_47 (by decide) (fun _ => rfl) hE (fun v10 hE => ?_)
            refine vl_aload_n 1 rfl dX8_next_48 ?_
            refine vl_getR (h := 23) (k0 := 23) (h2 := 36) iu_X8 n23 s23 rfl (by decide) fk_X8_50 rfl dX8_next_49 ?_
            refine vl_aload_n 1 rfl dX8_next_52 ?_
            refine vl_getIr (h := 23) (k0 := 24) (ki := 24) iu_X8 n23 (by decide) s23 rfl (by decide) fk_X8_209 rfl rfl dX8_next_53 ?_
            refine vl_iconst dX8_next_56 ?_
            refine vl_isub dX8_next_57 ?_
            refine vl_aldr1 (h := 36) (n := 40) (ni := 40) n36 (by decide) s36 (by decide) rfl g8 dX8_next_58 ?_
            refine vl_aload_n 1 rfl dX8_next_59 ?_
            refine vl_getR (h := 23) (k0 := 7) (h2 := 27) iu_X8 n23 s23 rfl (by decide) fk_X8_23 rfl dX8_next_60 ?_
            refine vl_iload_n 0 rfl dX8_next_63 ?_
            refine vl_aldr (h := 27) (n := 500) (ni := 500) n27 (by decide) s27 (by decide) rfl dX8_next_64 hE (fun g11 g12 hE => ?_)
            obtain ⟨g13, hE⟩ := vl_ok_gd hE
            obtain ⟨g14, hE⟩ := vl_ok_gd hE
            refine vl_icmp_ne (tgt := 81) dX8_next_65 (by decide) g13 g14 hE (fun c35 hE => ?_) (fun c35 hE => ?_)
            · refine vl_aload_n 1 rfl dX8_next_81 ?_
              refine vl_iload_n 0 rfl dX8_next_82 ?_
              refine vl_aload_n 1 rfl dX8_next_83 ?_
              refine vl_getR (h := 23) (k0 := 23) (h2 := 36) iu_X8 n23 s23 rfl (by decide) fk_X8_50 rfl dX8_next_84 ?_
              refine vl_aload_n 1 rfl dX8_next_87 ?_
              refine vl_getIr (h := 23) (k0 := 24) (ki := 24) iu_X8 n23 (by decide) s23 rfl (by decide) fk_X8_209 rfl rfl dX8_next_88 ?_
              refine vl_iconst dX8_next_91 ?_
              refine vl_isub dX8_next_92 ?_
              refine vl_aldr1 (h := 36) (n := 40) (ni := 40) n36 (by decide) s36 (by decide) rfl g8 dX8_next_93 ?_
              refine vl_VpI (K' := kX8_heldBy) (d' := 0) (h := 23) (As := [vl_iv v10, vl_iv (m5 36 ((m5 23 24) - 1))]) (st := []) lk_X8_115 (fun _ => rfl) (by omega) n23 s23 rfl rfl (Nat.le_of_ble_eq_true rfl) rfl (Nat.le_of_ble_eq_true rfl) dX8_next_94 hE (fun _ h => vx_X8_heldBy hG (Nat.le_refl _) h) (fun b15 hE => ?_)
              refine vl_istore_n0 rfl (lv' := [(2, vl_iv b15), (1, vl_iv v10), (0, .ref 23)]) dX8_next_97 (by decide) rfl ?_
              refine vl_aload_n 2 rfl dX8_next_98 ?_
              refine vl_getR (h := 23) (k0 := 23) (h2 := 36) iu_X8 n23 s23 rfl (by decide) fk_X8_50 rfl dX8_next_99 ?_
              refine vl_aload_n 2 rfl dX8_next_102 ?_
              refine vl_getIr (h := 23) (k0 := 24) (ki := 24) iu_X8 n23 (by decide) s23 rfl (by decide) fk_X8_209 rfl rfl dX8_next_103 ?_
              refine vl_iconst dX8_next_106 ?_
              refine vl_isub dX8_next_107 ?_
              refine vl_dup2 rfl rfl dX8_next_108 ?_
              refine vl_aldr1 (h := 36) (n := 40) (ni := 40) n36 (by decide) s36 (by decide) rfl g8 dX8_next_109 ?_
              refine vl_iconst dX8_next_110 ?_
              refine vl_iadd dX8_next_111 ?_
              refine vl_astr1 (h := 36) (n := 40) (ni := 40) n36 (by decide) s36 (by decide) rfl g8 dX8_next_112 hE (fun m16 hE => ?_)
              refine vl_aload_n 2 rfl dX8_next_113 ?_
              refine vl_aload_n 2 rfl dX8_next_114 ?_
              refine vl_getR (h := 23) (k0 := 6) (h2 := 26) iu_X8 n23 s23 rfl (by decide) fk_X8_20 rfl dX8_next_115 ?_
              refine vl_iload_n 1 rfl dX8_next_118 ?_
              refine vl_aldr1 (h := 26) (n := 500) (ni := 500) n26 (by decide) s26 (by decide) rfl g11 dX8_next_119 ?_
              refine vl_iconst dX8_next_120 ?_
              refine vl_isub dX8_next_121 ?_
              refine vl_iload_n 0 rfl dX8_next_122 ?_
              refine vl_aload_n 2 rfl dX8_next_123 ?_
              refine vl_getR (h := 23) (k0 := 21) (h2 := 34) iu_X8 n23 s23 rfl (by decide) fk_X8_44 rfl dX8_next_124 ?_
              refine vl_iconst dX8_next_127 ?_
              refine vl_aldr (h := 34) (n := 4) (ni := 4) n34 (by decide) s34 (by decide) rfl dX8_next_128 hE (fun g17 g18 hE => ?_)
              refine vl_aload_n 2 rfl dX8_next_129 ?_
              refine vl_getR (h := 23) (k0 := 21) (h2 := 34) iu_X8 n23 s23 rfl (by decide) fk_X8_44 rfl dX8_next_130 ?_
              refine vl_iconst dX8_next_133 ?_
              refine vl_aldr (h := 34) (n := 4) (ni := 4) n34 (by decide) s34 (by decide) rfl dX8_next_134 hE (fun g19 g20 hE => ?_)
              refine vl_aload_n 2 rfl dX8_next_135 ?_
              refine vl_getR (h := 23) (k0 := 21) (h2 := 34) iu_X8 n23 s23 rfl (by decide) fk_X8_44 rfl dX8_next_136 ?_
              refine vl_iconst dX8_next_139 ?_
              refine vl_aldr (h := 34) (n := 4) (ni := 4) n34 (by decide) s34 (by decide) rfl dX8_next_140 hE (fun g21 g22 hE => ?_)
              refine vl_aload_n 2 rfl dX8_next_141 ?_
              refine vl_getR (h := 23) (k0 := 21) (h2 := 34) iu_X8 n23 s23 rfl (by decide) fk_X8_44 rfl dX8_next_142 ?_
              refine vl_iconst dX8_next_145 ?_
              refine vl_aldr (h := 34) (n := 4) (ni := 4) n34 (by decide) s34 (by decide) rfl dX8_next_146 hE (fun g23 g24 hE => ?_)
              refine vl_VpI (K' := kX8_meets) (d' := 1) (h := 23) (As := [vl_iv ((m16 26 v10) - 1), vl_iv b15, vl_iv (m16 34 0), vl_iv (m16 34 1), vl_iv (m16 34 2), vl_iv (m16 34 3)]) (st := []) lk_X8_218 (fun _ => rfl) (by omega) n23 s23 rfl rfl (Nat.le_of_ble_eq_true rfl) rfl (Nat.le_of_ble_eq_true rfl) dX8_next_147 hE (fun _ h => vx_X8_meets hG (Nat.le_refl _) h) (fun b25 hE => ?_)
              obtain ⟨g26, hE⟩ := vl_ok_gd hE
              refine vl_if_eq (tgt := 174) dX8_next_150 (by decide) g26  hE (fun c33 hE => ?_) (fun c33 hE => ?_)
              · refine vl_goto (tgt := 29) dX8_next_174 (by decide) ?_
                exact vl_wk [2] rfl (ih29_ m16 hE)
              · refine vl_aload_n 2 rfl dX8_next_153 ?_
                refine vl_getR (h := 23) (k0 := 6) (h2 := 26) iu_X8 n23 s23 rfl (by decide) fk_X8_20 rfl dX8_next_154 ?_
                refine vl_iload_n 1 rfl dX8_next_157 ?_
                refine vl_aldr1 (h := 26) (n := 500) (ni := 500) n26 (by decide) s26 (by decide) rfl g11 dX8_next_158 ?_
                obtain ⟨g27, hE⟩ := vl_ok_gd hE
                refine vl_if_ne (tgt := 169) dX8_next_159 (by decide) g27  hE (fun c32 hE => ?_) (fun c32 hE => ?_)
                · refine vl_aload_n 2 rfl dX8_next_169 ?_
                  refine vl_iload_n 0 rfl dX8_next_170 ?_
                  refine vl_VrWV (K' := kX8_enter) (d' := 0) (h := 23) (As := [vl_iv b15]) (st := []) lk_X8_215 (fun _ => rfl) (by omega) n23 s23 rfl rfl (Nat.le_of_ble_eq_true rfl) rfl (Nat.le_of_ble_eq_true rfl) dX8_next_171 hE (fun _ h => vx_X8_enter hG (Nat.le_refl _) h) (fun m29 hE => ?_)
                  refine vl_goto (tgt := 29) dX8_next_174 (by decide) ?_
                  exact vl_wk [2] rfl (ih29_ m29 hE)
                · refine vl_aload_n 2 rfl dX8_next_162 ?_
                  refine vl_getR (h := 23) (k0 := 3) (h2 := 24) iu_X8 n23 s23 rfl (by decide) fk_X8_13 rfl dX8_next_163 ?_
                  refine vl_iload_n 0 rfl dX8_next_166 ?_
                  refine vl_aldr (h := 24) (n := 401) (ni := 401) n24 (by decide) s24 (by decide) rfl dX8_next_167 hE (fun g30 g31 hE => ?_)
                  exact vl_ret (r := (m16 24 b15)) rfl dX8_next_168 hE (hP' ((m16 24 b15), m16))
            · refine vl_aload_n 1 rfl dX8_next_68 ?_
              refine vl_dup rfl dX8_next_69 ?_
              refine vl_getIr (h := 23) (k0 := 24) (ki := 24) iu_X8 n23 (by decide) s23 rfl (by decide) fk_X8_209 rfl rfl dX8_next_70 ?_
              refine vl_iconst dX8_next_73 ?_
              refine vl_isub dX8_next_74 ?_
              refine vl_putIr (h := 23) (k0 := 24) (ki := 24) iu_X8 tyX8_ok nmX8 n23 (by decide) s23 rfl (by decide) fk_X8_209 rfl rfl rfl (vl_nI _) dX8_next_75 hE (fun m34 hE => ?_)
              refine vl_goto (tgt := 174) dX8_next_78 (by decide) ?_
              refine vl_goto (tgt := 29) dX8_next_174 (by decide) ?_
              exact vl_wk [1] rfl (ih29_ m34 hE)
      exact (hL29_ N m3 hE)
    refine vl_if_ne (tgt := 29) dX8_next_13 (by decide) g2  hE (fun c40 hE => ?_) (fun c40 hE => ?_)
    · exact (hκ4 m hE)
    · refine vl_aload_n 0 rfl dX8_next_16 ?_
      refine vl_iconst dX8_next_17 ?_
      refine vl_putIr (h := 23) (k0 := 25) (ki := 25) iu_X8 tyX8_ok nmX8 n23 (by decide) s23 rfl (by decide) fk_X8_206 rfl rfl rfl (vl_nZ (by decide)) dX8_next_18 hE (fun m37 hE => ?_)
      refine vl_aload_n 0 rfl dX8_next_21 ?_
      refine vl_aload_n 0 rfl dX8_next_22 ?_
      refine vl_getIr (h := 23) (k0 := 11) (ki := 11) iu_X8 n23 (by decide) s23 rfl (by decide) fk_X8_93 rfl rfl dX8_next_23 ?_
      refine vl_VrWV (K' := kX8_enter) (d' := 0) (h := 23) (As := [vl_iv (m37 23 11)]) (st := []) lk_X8_215 (fun _ => rfl) (by omega) n23 s23 rfl rfl (Nat.le_of_ble_eq_true rfl) rfl (Nat.le_of_ble_eq_true rfl) dX8_next_26 hE (fun _ h => vx_X8_enter hG (Nat.le_refl _) h) (fun m39 hE => ?_)
      exact (hκ4 m39 hE)
  · refine vl_iconst dX8_next_7 ?_
    exact vl_ret (r := (-1)) rfl dX8_next_8 hE (hP' ((-1), m))
set_option maxRecDepth 100000 in
set_option maxHeartbeats 4000000 in
theorem vx_X8_pairs {nc : Nat} {S : vl_Sh} {sc : Nat × (Nat → Int32)} (hG : vl_G3 nc S) {N : Nat} {d : Nat} (hd : 2 ≤ d) {Post : Int → vl_M → vl_M → Prop} {μ m : vl_M} (hE : vl_ok (fun r : Int => Post r μ m) (fn_X8_pairs N m )) : vl_V nc S sc kX8_pairs d Post 0 [(0, .ref 23)] [] μ m := by
  generalize hP : (fun r : Int => Post r μ m) = P at hE
  have hP' : ∀ r : Int, P r → Post r μ m := fun b h => by rw [← hP] at h; exact h
  clear hP
  have s23 : S 23 = .inr (8, [0, 0, 0, 27, 28, 0, 29, 30, 31, 32, 33, 0, 0, 0, 0, 34, 35, 0, 36, 0, 0, 37, 38, 39, 0, 0, 0, 0, 0, 1, 40, 41, 42, 43, 44, 45, 46, 0, 47, 48, 49]) := hG.2 23 (by decide) (by decide)
  have n23 : 23 < nc := Nat.lt_of_lt_of_le (by decide) hG.1
  have s24 : S 24 = .inl 401 := hG.2 24 (by decide) (by decide)
  have n24 : 24 < nc := Nat.lt_of_lt_of_le (by decide) hG.1
  unfold fn_X8_pairs at hE
  refine vl_iconst dX8_pairs_0 ?_
  refine vl_istore_n0 rfl (lv' := [(1, vl_iv 0), (0, .ref 23)]) dX8_pairs_1 (by decide) rfl ?_
  refine vl_iconst dX8_pairs_2 ?_
  refine vl_istore_n0 rfl (lv' := [(2, vl_iv 0), (1, vl_iv 0), (0, .ref 23)]) dX8_pairs_3 (by decide) rfl ?_
  refine vl_lpr (F := fun κ : Int → Int → Option (Int) => fn_X8_pairs_L4 N m κ N 0 0) (J := fun κ => ∀ (v3 : Int) (v4 : Int), vl_ok P (κ v3 v4) → vl_V nc S sc kX8_pairs d Post 67 [(1, vl_iv v3)] [] μ m) ?_ hE (fun κ hκL42 hE => ?_)
  · intro v3 v4 hE
    refine vl_iload_n 0 rfl dX8_pairs_67 ?_
    exact vl_ret (r := v3) rfl dX8_pairs_68 hE (hP' (v3))
  have hL4_ : ∀ (n : Nat) (v1 : Int) (v2 : Int), vl_ok P (fn_X8_pairs_L4 N m κ n v1 v2) → vl_V nc S sc kX8_pairs d Post 4 [(0, .ref 23), (1, vl_iv v1), (2, vl_iv v2)] [] μ m := by
    intro n
    induction n with
    | zero => intro v1 v2 hE; exact vl_no hE
    | succ n ih4_ =>
      intro v1 v2 hE
      rw [fn_X8_pairs_L4] at hE
      refine vl_iload_n 2 rfl dX8_pairs_4 ?_
      refine vl_sipush (by decide) dX8_pairs_5 ?_
      obtain ⟨g5, hE⟩ := vl_ok_gd hE
      refine vl_icmp_ge (tgt := 67) dX8_pairs_8 (by decide) g5 (by decide) hE (fun c28 hE => ?_) (fun c28 hE => ?_)
      · exact vl_wk [1] rfl (hκL42 v1 v2 hE)
      · refine vl_iconst dX8_pairs_11 ?_
        refine vl_istore_n0 rfl (lv' := [(3, vl_iv 0), (0, .ref 23), (1, vl_iv v1), (2, vl_iv v2)]) dX8_pairs_12 (by decide) rfl ?_
        refine vl_lpr (F := fun κ : Int → Int → Option (Int) => fn_X8_pairs_L13 N m v2 κ N v1 0) (J := fun κ => ∀ (v8 : Int) (v9 : Int), vl_ok P (κ v8 v9) → vl_V nc S sc kX8_pairs d Post 61 [(0, .ref 23), (1, vl_iv v8), (2, vl_iv v2)] [] μ m) ?_ hE (fun κ hκL137 hE => ?_)
        · intro v8 v9 hE
          refine vl_iinc 2 (fun v10 => [(2, vl_iv v10), (0, .ref 23), (1, vl_iv v8)]) dX8_pairs_61 rfl (by decide) (fun _ => rfl) hE (fun v10 hE => ?_)
          refine vl_goto (tgt := 4) dX8_pairs_64 (by decide) ?_
          exact vl_wk [1, 2, 0] rfl (ih4_ v8 v10 hE)
        have hL13_ : ∀ (n : Nat) (v6 : Int) (v7 : Int), vl_ok P (fn_X8_pairs_L13 N m v2 κ n v6 v7) → vl_V nc S sc kX8_pairs d Post 13 [(0, .ref 23), (1, vl_iv v6), (2, vl_iv v2), (3, vl_iv v7)] [] μ m := by
          intro n
          induction n with
          | zero => intro v6 v7 hE; exact vl_no hE
          | succ n ih13_ =>
            intro v6 v7 hE
            rw [fn_X8_pairs_L13] at hE
            refine vl_iload_n 3 rfl dX8_pairs_13 ?_
            refine vl_iload_n 2 rfl dX8_pairs_14 ?_
            obtain ⟨g11, hE⟩ := vl_ok_gd hE
            refine vl_icmp_ge (tgt := 61) dX8_pairs_15 (by decide) g11 g5 hE (fun c27 hE => ?_) (fun c27 hE => ?_)
            · exact vl_wk [0, 1, 2] rfl (hκL137 v6 v7 hE)
            · refine vl_iload_n 1 rfl dX8_pairs_18 ?_
              refine vl_aload_n 0 rfl dX8_pairs_19 ?_
              refine vl_getR (h := 23) (k0 := 3) (h2 := 24) iu_X8 n23 s23 rfl (by decide) fk_X8_13 rfl dX8_pairs_20 ?_
              refine vl_iload_n 2 rfl dX8_pairs_23 ?_
              refine vl_aldr (h := 24) (n := 401) (ni := 401) n24 (by decide) s24 (by decide) rfl dX8_pairs_24 hE (fun g12 g13 hE => ?_)
              obtain ⟨g14, hE⟩ := vl_ok_gd hE
              refine vl_jnr (J := fun κ : Int → Option (Int) => ∀ (v15 : Int), vl_ok P (κ v15) → vl_V nc S sc kX8_pairs d Post 53 [(0, .ref 23), (2, vl_iv v2), (3, vl_iv v7)] [vl_iv v15, vl_iv v6] μ m) ?_ hE (fun κ16 hκ16 hE => ?_)
              · intro v15 hE
                refine vl_iadd dX8_pairs_53 ?_
                refine vl_istore_n rfl (fun v17 => [(1, vl_iv v17), (0, .ref 23), (2, vl_iv v2), (3, vl_iv v7)]) dX8_pairs_54 (by decide) (fun _ => rfl) hE (fun v17 hE => ?_)
                refine vl_iinc 3 (fun v18 => [(3, vl_iv v18), (1, vl_iv v17), (0, .ref 23), (2, vl_iv v2)]) dX8_pairs_55 rfl (by decide) (fun _ => rfl) hE (fun v18 hE => ?_)
                refine vl_goto (tgt := 13) dX8_pairs_58 (by decide) ?_
                exact vl_wk [2, 1, 3, 0] rfl (ih13_ v17 v18 hE)
              refine vl_if_lt (tgt := 52) dX8_pairs_25 (by decide) g14  hE (fun c26 hE => ?_) (fun c26 hE => ?_)
              · refine vl_iconst dX8_pairs_52 ?_
                exact vl_wk [0, 2, 3] rfl (hκ16 0 hE)
              · refine vl_aload_n 0 rfl dX8_pairs_28 ?_
                refine vl_getR (h := 23) (k0 := 3) (h2 := 24) iu_X8 n23 s23 rfl (by decide) fk_X8_13 rfl dX8_pairs_29 ?_
                refine vl_iload_n 3 rfl dX8_pairs_32 ?_
                refine vl_aldr (h := 24) (n := 401) (ni := 401) n24 (by decide) s24 (by decide) rfl dX8_pairs_33 hE (fun g19 g20 hE => ?_)
                obtain ⟨g21, hE⟩ := vl_ok_gd hE
                refine vl_if_lt (tgt := 52) dX8_pairs_34 (by decide) g21  hE (fun c25 hE => ?_) (fun c25 hE => ?_)
                · refine vl_iconst dX8_pairs_52 ?_
                  exact vl_wk [0, 2, 3] rfl (hκ16 0 hE)
                · refine vl_aload_n 0 rfl dX8_pairs_37 ?_
                  refine vl_iconst dX8_pairs_38 ?_
                  refine vl_iload_n 2 rfl dX8_pairs_39 ?_
                  refine vl_iconst dX8_pairs_40 ?_
                  refine vl_iload_n 3 rfl dX8_pairs_41 ?_
                  refine vl_VpI (K' := kX8_meet) (d' := 1) (h := 23) (As := [vl_iv (-1), vl_iv v2, vl_iv (-1), vl_iv v7]) (st := [vl_iv v6]) lk_X8_254 (fun _ => rfl) (by omega) n23 s23 rfl rfl (Nat.le_of_ble_eq_true rfl) rfl (Nat.le_of_ble_eq_true rfl) dX8_pairs_42 hE (fun _ h => vx_X8_meet hG (Nat.le_refl _) h) (fun b22 hE => ?_)
                  obtain ⟨g23, hE⟩ := vl_ok_gd hE
                  refine vl_if_eq (tgt := 52) dX8_pairs_45 (by decide) g23  hE (fun c24 hE => ?_) (fun c24 hE => ?_)
                  · refine vl_iconst dX8_pairs_52 ?_
                    exact vl_wk [0, 2, 3] rfl (hκ16 0 hE)
                  · refine vl_iconst dX8_pairs_48 ?_
                    refine vl_goto (tgt := 53) dX8_pairs_49 (by decide) ?_
                    exact vl_wk [0, 2, 3] rfl (hκ16 1 hE)
        exact vl_wk [1, 2, 3, 0] rfl (hL13_ N v1 0 hE)
  exact vl_wk [2, 1, 0] rfl (hL4_ N 0 0 hE)
set_option maxRecDepth 100000 in
set_option maxHeartbeats 4000000 in
theorem vx_X8_sort {nc : Nat} {S : vl_Sh} {sc : Nat × (Nat → Int32)} (hG : vl_G3 nc S) {N : Nat} {d : Nat} (hd : 2 ≤ d) {Post : Int → vl_M → vl_M → Prop} {μ m : vl_M} {a1 a2 a3 : Int} (hE : vl_ok (fun b : vl_M => Post 0 μ b) (fn_X8_sort N m a1 a2 a3)) : vl_V nc S sc kX8_sort d Post 0 [(0, .ref 23), (1, vl_iv a1), (2, vl_iv a2), (3, vl_iv a3)] [] μ m := by
  generalize hP : (fun b : vl_M => Post 0 μ b) = P at hE
  have hP' : ∀ b : vl_M, P b → Post 0 μ b := fun b h => by rw [← hP] at h; exact h
  clear hP
  have s23 : S 23 = .inr (8, [0, 0, 0, 27, 28, 0, 29, 30, 31, 32, 33, 0, 0, 0, 0, 34, 35, 0, 36, 0, 0, 37, 38, 39, 0, 0, 0, 0, 0, 1, 40, 41, 42, 43, 44, 45, 46, 0, 47, 48, 49]) := hG.2 23 (by decide) (by decide)
  have n23 : 23 < nc := Nat.lt_of_lt_of_le (by decide) hG.1
  have s45 : S 45 = .inl 400 := hG.2 45 (by decide) (by decide)
  have n45 : 45 < nc := Nat.lt_of_lt_of_le (by decide) hG.1
  unfold fn_X8_sort at hE
  refine vl_iload_n 1 rfl dX8_sort_0 ?_
  refine vl_istore0 (lv' := [(4, vl_iv a1), (0, .ref 23), (1, vl_iv a1), (2, vl_iv a2), (3, vl_iv a3)]) dX8_sort_1 (by decide) rfl ?_
  refine vl_lpr (F := fun κ : Int → vl_M → Option (vl_M) => fn_X8_sort_L3 N a1 a2 a3 κ N a1 m) (J := fun κ => ∀ (v3 : Int) (m4 : vl_M), vl_ok P (κ v3 m4) → vl_V nc S sc kX8_sort d Post 84 [] [] μ m4) ?_ hE (fun κ hκL32 hE => ?_)
  · intro v3 m4 hE
    exact vl_ret (r := 0) rfl dX8_sort_84 hE (hP' m4)
  have hL3_ : ∀ (n : Nat) (v1 : Int) (m2 : vl_M), vl_ok P (fn_X8_sort_L3 N a1 a2 a3 κ n v1 m2) → vl_V nc S sc kX8_sort d Post 3 [(0, .ref 23), (1, vl_iv a1), (2, vl_iv a2), (3, vl_iv a3), (4, vl_iv v1)] [] μ m2 := by
    intro n
    induction n with
    | zero => intro v1 m2 hE; exact vl_no hE
    | succ n ih3_ =>
      intro v1 m2 hE
      rw [fn_X8_sort_L3] at hE
      refine vl_iload 4 rfl dX8_sort_3 ?_
      refine vl_iload_n 2 rfl dX8_sort_5 ?_
      obtain ⟨g5, hE⟩ := vl_ok_gd hE
      obtain ⟨g6, hE⟩ := vl_ok_gd hE
      refine vl_icmp_ge (tgt := 84) dX8_sort_6 (by decide) g5 g6 hE (fun c30 hE => ?_) (fun c30 hE => ?_)
      · exact vl_wk [] rfl (hκL32 v1 m2 hE)
      · refine vl_aload_n 0 rfl dX8_sort_9 ?_
        refine vl_getR (h := 23) (k0 := 39) (h2 := 45) iu_X8 n23 s23 rfl (by decide) fk_X8_77 rfl dX8_sort_10 ?_
        refine vl_iload 4 rfl dX8_sort_13 ?_
        refine vl_aldr (h := 45) (n := 400) (ni := 400) n45 (by decide) s45 (by decide) rfl dX8_sort_15 hE (fun g7 g8 hE => ?_)
        refine vl_istore (fun v9 => [(5, vl_iv v9), (0, .ref 23), (1, vl_iv a1), (2, vl_iv a2), (3, vl_iv a3), (4, vl_iv v1)]) dX8_sort_16 (by decide) (fun _ => rfl) hE (fun v9 hE => ?_)
        refine vl_iload 5 rfl dX8_sort_18 ?_
        refine vl_istore0 (lv' := [(6, vl_iv v1), (5, vl_iv v9), (0, .ref 23), (1, vl_iv a1), (2, vl_iv a2), (3, vl_iv a3), (4, vl_iv v1)]) dX8_sort_20 (by decide) rfl ?_
        refine vl_lpr (F := fun κ : Int → vl_M → Option (vl_M) => fn_X8_sort_L22 N a1 a2 a3 v1 v9 κ N v1 m2) (J := fun κ => ∀ (v12 : Int) (m13 : vl_M), vl_ok P (κ v12 m13) → vl_V nc S sc kX8_sort d Post 69 [(0, .ref 23), (1, vl_iv a1), (2, vl_iv a2), (3, vl_iv a3), (4, vl_iv v1), (5, vl_iv v9), (6, vl_iv v12)] [] μ m13) ?_ hE (fun κ hκL2211 hE => ?_)
        · intro v12 m13 hE
          refine vl_aload_n 0 rfl dX8_sort_69 ?_
          refine vl_getR (h := 23) (k0 := 39) (h2 := 45) iu_X8 n23 s23 rfl (by decide) fk_X8_77 rfl dX8_sort_70 ?_
          refine vl_iload 6 rfl dX8_sort_73 ?_
          refine vl_iload 5 rfl dX8_sort_75 ?_
          refine vl_astr (h := 45) (n := 400) (ni := 400) n45 (by decide) s45 (by decide) rfl dX8_sort_77 hE (fun g15 g16 m14 hE => ?_)
          refine vl_iinc 4 (fun v17 => [(4, vl_iv v17), (0, .ref 23), (1, vl_iv a1), (2, vl_iv a2), (3, vl_iv a3), (5, vl_iv v9), (6, vl_iv v12)]) dX8_sort_78 rfl (by decide) (fun _ => rfl) hE (fun v17 hE => ?_)
          refine vl_goto (tgt := 3) dX8_sort_81 (by decide) ?_
          exact vl_wk [1, 2, 3, 4, 0] rfl (ih3_ v17 m14 hE)
        have hL22_ : ∀ (n : Nat) (v10 : Int) (m11 : vl_M), vl_ok P (fn_X8_sort_L22 N a1 a2 a3 v1 v9 κ n v10 m11) → vl_V nc S sc kX8_sort d Post 22 [(0, .ref 23), (1, vl_iv a1), (2, vl_iv a2), (3, vl_iv a3), (4, vl_iv v1), (5, vl_iv v9), (6, vl_iv v10)] [] μ m11 := by
          intro n
          induction n with
          | zero => intro v10 m11 hE; exact vl_no hE
          | succ n ih22_ =>
            intro v10 m11 hE
            rw [fn_X8_sort_L22] at hE
            refine vl_iload 6 rfl dX8_sort_22 ?_
            refine vl_iload_n 1 rfl dX8_sort_24 ?_
            obtain ⟨g18, hE⟩ := vl_ok_gd hE
            obtain ⟨g19, hE⟩ := vl_ok_gd hE
            refine vl_icmp_le (tgt := 69) dX8_sort_25 (by decide) g18 g19 hE (fun c29 hE => ?_) (fun c29 hE => ?_)
            · exact (hκL2211 v10 m11 hE)
            · refine vl_aload_n 0 rfl dX8_sort_28 ?_
              refine vl_iload 5 rfl dX8_sort_29 ?_
              refine vl_aload_n 0 rfl dX8_sort_31 ?_
              refine vl_getR (h := 23) (k0 := 39) (h2 := 45) iu_X8 n23 s23 rfl (by decide) fk_X8_77 rfl dX8_sort_32 ?_
              refine vl_iload 6 rfl dX8_sort_35 ?_
              refine vl_iconst dX8_sort_37 ?_
              refine vl_isub dX8_sort_38 ?_
              refine vl_aldr (h := 45) (n := 400) (ni := 400) n45 (by decide) s45 (by decide) rfl dX8_sort_39 hE (fun g20 g21 hE => ?_)
              refine vl_iload_n 3 rfl dX8_sort_40 ?_
              refine vl_VpI (K' := kX8_isPackedBefore) (d' := 1) (h := 23) (As := [vl_iv v9, vl_iv (m11 45 (v10 - 1)), vl_iv a3]) (st := []) lk_X8_260 (fun _ => rfl) (by omega) n23 s23 rfl rfl (Nat.le_of_ble_eq_true rfl) rfl (Nat.le_of_ble_eq_true rfl) dX8_sort_41 hE (fun _ h => vx_X8_isPackedBefore hG (Nat.le_refl _) h) (fun b22 hE => ?_)
              obtain ⟨g23, hE⟩ := vl_ok_gd hE
              refine vl_if_eq (tgt := 69) dX8_sort_44 (by decide) g23  hE (fun c28 hE => ?_) (fun c28 hE => ?_)
              · exact (hκL2211 v10 m11 hE)
              · refine vl_aload_n 0 rfl dX8_sort_47 ?_
                refine vl_getR (h := 23) (k0 := 39) (h2 := 45) iu_X8 n23 s23 rfl (by decide) fk_X8_77 rfl dX8_sort_48 ?_
                refine vl_iload 6 rfl dX8_sort_51 ?_
                refine vl_aload_n 0 rfl dX8_sort_53 ?_
                refine vl_getR (h := 23) (k0 := 39) (h2 := 45) iu_X8 n23 s23 rfl (by decide) fk_X8_77 rfl dX8_sort_54 ?_
                refine vl_iload 6 rfl dX8_sort_57 ?_
                refine vl_iconst dX8_sort_59 ?_
                refine vl_isub dX8_sort_60 ?_
                refine vl_aldr1 (h := 45) (n := 400) (ni := 400) n45 (by decide) s45 (by decide) rfl g20 dX8_sort_61 ?_
                refine vl_astr (h := 45) (n := 400) (ni := 400) n45 (by decide) s45 (by decide) rfl dX8_sort_62 hE (fun g25 g26 m24 hE => ?_)
                refine vl_iinc 6 (fun v27 => [(6, vl_iv v27), (0, .ref 23), (1, vl_iv a1), (2, vl_iv a2), (3, vl_iv a3), (4, vl_iv v1), (5, vl_iv v9)]) dX8_sort_63 rfl (by decide) (fun _ => rfl) hE (fun v27 hE => ?_)
                refine vl_goto (tgt := 22) dX8_sort_66 (by decide) ?_
                exact vl_wk [1, 2, 3, 4, 5, 6, 0] rfl (ih22_ v27 m24 hE)
        exact vl_wk [2, 3, 4, 5, 6, 1, 0] rfl (hL22_ N v1 m2 hE)
  exact vl_wk [1, 2, 3, 4, 0] rfl (hL3_ N a1 m hE)
set_option maxRecDepth 100000 in
set_option maxHeartbeats 4000000 in
theorem vx_X8_takeFrom {nc : Nat} {S : vl_Sh} {sc : Nat × (Nat → Int32)} (hG : vl_G3 nc S) {N : Nat} {d : Nat} (hd : 2 ≤ d) {Post : Int → vl_M → vl_M → Prop} {μ m : vl_M} {a1 a2 : Int} (hE : vl_ok (fun b : vl_M => Post 0 μ b) (fn_X8_takeFrom N m a1 a2)) : vl_V nc S sc kX8_takeFrom d Post 0 [(0, .ref 23), (1, vl_iv a1), (2, vl_iv a2)] [] μ m := by
  generalize hP : (fun b : vl_M => Post 0 μ b) = P at hE
  have hP' : ∀ b : vl_M, P b → Post 0 μ b := fun b h => by rw [← hP] at h; exact h
  clear hP
  have s23 : S 23 = .inr (8, [0, 0, 0, 27, 28, 0, 29, 30, 31, 32, 33, 0, 0, 0, 0, 34, 35, 0, 36, 0, 0, 37, 38, 39, 0, 0, 0, 0, 0, 1, 40, 41, 42, 43, 44, 45, 46, 0, 47, 48, 49]) := hG.2 23 (by decide) (by decide)
  have n23 : 23 < nc := Nat.lt_of_lt_of_le (by decide) hG.1
  have s27 : S 27 = .inl 500 := hG.2 27 (by decide) (by decide)
  have n27 : 27 < nc := Nat.lt_of_lt_of_le (by decide) hG.1
  have s28 : S 28 = .inl 5500 := hG.2 28 (by decide) (by decide)
  have n28 : 28 < nc := Nat.lt_of_lt_of_le (by decide) hG.1
  unfold fn_X8_takeFrom at hE
  refine vl_aload_n 0 rfl dX8_takeFrom_0 ?_
  refine vl_iload_n 1 rfl dX8_takeFrom_1 ?_
  refine vl_iload_n 2 rfl dX8_takeFrom_2 ?_
  refine vl_VpI (K' := kX8_placeIn) (d' := 1) (h := 23) (As := [vl_iv a1, vl_iv a2]) (st := []) lk_X8_122 (fun _ => rfl) (by omega) n23 s23 rfl rfl (Nat.le_of_ble_eq_true rfl) rfl (Nat.le_of_ble_eq_true rfl) dX8_takeFrom_3 hE (fun _ h => vx_X8_placeIn hG (Nat.le_refl _) h) (fun b1 hE => ?_)
  refine vl_istore_n0 rfl (lv' := [(3, vl_iv b1), (0, .ref 23), (1, vl_iv a1), (2, vl_iv a2)]) dX8_takeFrom_6 (by decide) rfl ?_
  refine vl_lpr (F := fun κ : Int → vl_M → Option (vl_M) => fn_X8_takeFrom_L7 N a1 κ N b1 m) (J := fun κ => ∀ (v4 : Int) (m5 : vl_M), vl_ok P (κ v4 m5) → vl_V nc S sc kX8_takeFrom d Post 49 [(0, .ref 23), (1, vl_iv a1)] [] μ m5) ?_ hE (fun κ hκL73 hE => ?_)
  · intro v4 m5 hE
    refine vl_aload_n 0 rfl dX8_takeFrom_49 ?_
    refine vl_getR (h := 23) (k0 := 7) (h2 := 27) iu_X8 n23 s23 rfl (by decide) fk_X8_23 rfl dX8_takeFrom_50 ?_
    refine vl_iload_n 1 rfl dX8_takeFrom_53 ?_
    refine vl_dup2 rfl rfl dX8_takeFrom_54 ?_
    refine vl_aldr (h := 27) (n := 500) (ni := 500) n27 (by decide) s27 (by decide) rfl dX8_takeFrom_55 hE (fun g6 g7 hE => ?_)
    refine vl_iconst dX8_takeFrom_56 ?_
    refine vl_isub dX8_takeFrom_57 ?_
    refine vl_astr1 (h := 27) (n := 500) (ni := 500) n27 (by decide) s27 (by decide) rfl g6 dX8_takeFrom_58 hE (fun m8 hE => ?_)
    exact vl_ret (r := 0) rfl dX8_takeFrom_59 hE (hP' m8)
  have hL7_ : ∀ (n : Nat) (v2 : Int) (m3 : vl_M), vl_ok P (fn_X8_takeFrom_L7 N a1 κ n v2 m3) → vl_V nc S sc kX8_takeFrom d Post 7 [(0, .ref 23), (1, vl_iv a1), (3, vl_iv v2)] [] μ m3 := by
    intro n
    induction n with
    | zero => intro v2 m3 hE; exact vl_no hE
    | succ n ih7_ =>
      intro v2 m3 hE
      rw [fn_X8_takeFrom_L7] at hE
      refine vl_iload_n 2 rfl dX8_takeFrom_7 ?_
      refine vl_iconst dX8_takeFrom_8 ?_
      refine vl_iadd dX8_takeFrom_9 ?_
      refine vl_aload_n 0 rfl dX8_takeFrom_10 ?_
      refine vl_getR (h := 23) (k0 := 7) (h2 := 27) iu_X8 n23 s23 rfl (by decide) fk_X8_23 rfl dX8_takeFrom_11 ?_
      refine vl_iload_n 1 rfl dX8_takeFrom_14 ?_
      refine vl_aldr (h := 27) (n := 500) (ni := 500) n27 (by decide) s27 (by decide) rfl dX8_takeFrom_15 hE (fun g9 g10 hE => ?_)
      obtain ⟨g11, hE⟩ := vl_ok_gd hE
      obtain ⟨g12, hE⟩ := vl_ok_gd hE
      refine vl_icmp_ge (tgt := 49) dX8_takeFrom_16 (by decide) g11 g12 hE (fun c19 hE => ?_) (fun c19 hE => ?_)
      · exact vl_wk [0, 1] rfl (hκL73 v2 m3 hE)
      · refine vl_aload_n 0 rfl dX8_takeFrom_19 ?_
        refine vl_getR (h := 23) (k0 := 8) (h2 := 28) iu_X8 n23 s23 rfl (by decide) fk_X8_26 rfl dX8_takeFrom_20 ?_
        refine vl_bipush (by decide) dX8_takeFrom_23 ?_
        refine vl_iload_n 1 rfl dX8_takeFrom_25 ?_
        refine vl_imul dX8_takeFrom_26 ?_
        refine vl_iload_n 2 rfl dX8_takeFrom_27 ?_
        refine vl_iadd dX8_takeFrom_28 ?_
        refine vl_aload_n 0 rfl dX8_takeFrom_29 ?_
        refine vl_getR (h := 23) (k0 := 8) (h2 := 28) iu_X8 n23 s23 rfl (by decide) fk_X8_26 rfl dX8_takeFrom_30 ?_
        refine vl_bipush (by decide) dX8_takeFrom_33 ?_
        refine vl_iload_n 1 rfl dX8_takeFrom_35 ?_
        refine vl_imul dX8_takeFrom_36 ?_
        refine vl_iload_n 2 rfl dX8_takeFrom_37 ?_
        refine vl_iadd dX8_takeFrom_38 ?_
        refine vl_iconst dX8_takeFrom_39 ?_
        refine vl_iadd dX8_takeFrom_40 ?_
        refine vl_aldr (h := 28) (n := 5500) (ni := 5500) n28 (by decide) s28 (by decide) rfl dX8_takeFrom_41 hE (fun g13 g14 hE => ?_)
        refine vl_astr (h := 28) (n := 5500) (ni := 5500) n28 (by decide) s28 (by decide) rfl dX8_takeFrom_42 hE (fun g16 g17 m15 hE => ?_)
        refine vl_iinc 2 (fun v18 => [(3, vl_iv v18), (0, .ref 23), (1, vl_iv a1)]) dX8_takeFrom_43 rfl (by decide) (fun _ => rfl) hE (fun v18 hE => ?_)
        refine vl_goto (tgt := 7) dX8_takeFrom_46 (by decide) ?_
        exact vl_wk [1, 2, 0] rfl (ih7_ v18 m15 hE)
  exact vl_wk [1, 2, 0] rfl (hL7_ N b1 m hE)
set_option maxRecDepth 100000 in
set_option maxHeartbeats 4000000 in
theorem vx_X8_window {nc : Nat} {S : vl_Sh} {sc : Nat × (Nat → Int32)} (hG : vl_G3 nc S) {d : Nat} (hd : 2 ≤ d) {Post : Int → vl_M → vl_M → Prop} {μ m : vl_M} {a1 a2 a3 a4 : Int} (hE : vl_ok (fun b : Int × vl_M => Post b.1 μ b.2) (fn_X8_window m a1 a2 a3 a4)) : vl_V nc S sc kX8_window d Post 0 [(0, .ref 23), (1, vl_iv a1), (2, vl_iv a2), (3, vl_iv a3), (4, vl_iv a4)] [] μ m := by
  generalize hP : (fun b : Int × vl_M => Post b.1 μ b.2) = P at hE
  have hP' : ∀ b : Int × vl_M, P b → Post b.1 μ b.2 := fun b h => by rw [← hP] at h; exact h
  clear hP
  have s23 : S 23 = .inr (8, [0, 0, 0, 27, 28, 0, 29, 30, 31, 32, 33, 0, 0, 0, 0, 34, 35, 0, 36, 0, 0, 37, 38, 39, 0, 0, 0, 0, 0, 1, 40, 41, 42, 43, 44, 45, 46, 0, 47, 48, 49]) := hG.2 23 (by decide) (by decide)
  have n23 : 23 < nc := Nat.lt_of_lt_of_le (by decide) hG.1
  have s34 : S 34 = .inl 4 := hG.2 34 (by decide) (by decide)
  have n34 : 34 < nc := Nat.lt_of_lt_of_le (by decide) hG.1
  unfold fn_X8_window at hE
  refine vl_iload_n 1 rfl dX8_window_0 ?_
  refine vl_iload_n 2 rfl dX8_window_1 ?_
  refine vl_iload_n 3 rfl dX8_window_2 ?_
  refine vl_iload 4 rfl dX8_window_3 ?_
  refine vl_SpI (K' := kX8_isRect) (d' := 1) (As := [vl_iv a1, vl_iv a2, vl_iv a3, vl_iv a4]) (st := []) lk_X8_169 (fun _ => rfl) (by omega) rfl (Nat.le_of_ble_eq_true rfl) rfl (Nat.le_of_ble_eq_true rfl) dX8_window_5 hE (fun _ h => vx_X8_isRect hG (Nat.le_refl _) h) (fun b1 hE => ?_)
  obtain ⟨g2, hE⟩ := vl_ok_gd hE
  refine vl_if_ne (tgt := 13) dX8_window_8 (by decide) g2  hE (fun c19 hE => ?_) (fun c19 hE => ?_)
  · refine vl_aload_n 0 rfl dX8_window_13 ?_
    refine vl_iconst dX8_window_14 ?_
    refine vl_putIr (h := 23) (k0 := 20) (ki := 20) iu_X8 tyX8_ok nmX8 n23 (by decide) s23 rfl (by decide) fk_X8_184 rfl rfl rfl (vl_nZ (by decide)) dX8_window_15 hE (fun m3 hE => ?_)
    refine vl_aload_n 0 rfl dX8_window_18 ?_
    refine vl_iconst dX8_window_19 ?_
    refine vl_putIr (h := 23) (k0 := 25) (ki := 25) iu_X8 tyX8_ok nmX8 n23 (by decide) s23 rfl (by decide) fk_X8_206 rfl rfl rfl (vl_nZ (by decide)) dX8_window_20 hE (fun m4 hE => ?_)
    refine vl_aload_n 0 rfl dX8_window_23 ?_
    refine vl_getR (h := 23) (k0 := 21) (h2 := 34) iu_X8 n23 s23 rfl (by decide) fk_X8_44 rfl dX8_window_24 ?_
    refine vl_iconst dX8_window_27 ?_
    refine vl_iload_n 1 rfl dX8_window_28 ?_
    refine vl_astr (h := 34) (n := 4) (ni := 4) n34 (by decide) s34 (by decide) rfl dX8_window_29 hE (fun g6 g7 m5 hE => ?_)
    refine vl_aload_n 0 rfl dX8_window_30 ?_
    refine vl_getR (h := 23) (k0 := 21) (h2 := 34) iu_X8 n23 s23 rfl (by decide) fk_X8_44 rfl dX8_window_31 ?_
    refine vl_iconst dX8_window_34 ?_
    refine vl_iload_n 2 rfl dX8_window_35 ?_
    refine vl_astr (h := 34) (n := 4) (ni := 4) n34 (by decide) s34 (by decide) rfl dX8_window_36 hE (fun g9 g10 m8 hE => ?_)
    refine vl_aload_n 0 rfl dX8_window_37 ?_
    refine vl_getR (h := 23) (k0 := 21) (h2 := 34) iu_X8 n23 s23 rfl (by decide) fk_X8_44 rfl dX8_window_38 ?_
    refine vl_iconst dX8_window_41 ?_
    refine vl_iload_n 3 rfl dX8_window_42 ?_
    refine vl_astr (h := 34) (n := 4) (ni := 4) n34 (by decide) s34 (by decide) rfl dX8_window_43 hE (fun g12 g13 m11 hE => ?_)
    refine vl_aload_n 0 rfl dX8_window_44 ?_
    refine vl_getR (h := 23) (k0 := 21) (h2 := 34) iu_X8 n23 s23 rfl (by decide) fk_X8_44 rfl dX8_window_45 ?_
    refine vl_iconst dX8_window_48 ?_
    refine vl_iload 4 rfl dX8_window_49 ?_
    refine vl_astr (h := 34) (n := 4) (ni := 4) n34 (by decide) s34 (by decide) rfl dX8_window_51 hE (fun g15 g16 m14 hE => ?_)
    refine vl_aload_n 0 rfl dX8_window_52 ?_
    refine vl_iconst dX8_window_53 ?_
    refine vl_putIr (h := 23) (k0 := 24) (ki := 24) iu_X8 tyX8_ok nmX8 n23 (by decide) s23 rfl (by decide) fk_X8_209 rfl rfl rfl (vl_nI _) dX8_window_54 hE (fun m17 hE => ?_)
    refine vl_aload_n 0 rfl dX8_window_57 ?_
    refine vl_iconst dX8_window_58 ?_
    refine vl_putIr (h := 23) (k0 := 26) (ki := 26) iu_X8 tyX8_ok nmX8 n23 (by decide) s23 rfl (by decide) fk_X8_212 rfl rfl rfl (vl_nI _) dX8_window_59 hE (fun m18 hE => ?_)
    refine vl_iconst dX8_window_62 ?_
    exact vl_ret (r := 0) rfl dX8_window_63 hE (hP' (0, m18))
  · refine vl_iconst dX8_window_11 ?_
    exact vl_ret (r := (-1)) rfl dX8_window_12 hE (hP' ((-1), m))
