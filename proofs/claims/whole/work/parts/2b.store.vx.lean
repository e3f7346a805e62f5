set_option maxRecDepth 100000 in
set_option maxHeartbeats 4000000 in
theorem vx_X4_area {nc : Nat} {S : vl_Sh} {sc : Nat × (Nat → Int32)} {w : Nat} (hG : vl_G1 nc S w) {d : Nat} (hd : 0 ≤ d) {Post : Int → vl_M → vl_M → Prop} {m ρ : vl_M} {a1 : Int} (hE : vl_ok (fun r : Int => Post r m ρ) (fn_X4_area m a1)) : vl_V nc S sc kX4_area d Post 0 [(0, .ref 1), (1, vl_iv a1)] [] m ρ := by
  generalize hP : (fun r : Int => Post r m ρ) = P at hE
  have hP' : ∀ r : Int, P r → Post r m ρ := fun b h => by rw [← hP] at h; exact h
  clear hP
  have s1 : S 1 = .inr (4, [0, 0, 5, 6, 7, 8, 9, 10, 11, 12, 0, 13, 0, 0, 0, 0, 0]) := hG.2.1 1 (by decide) (by decide)
  have n1 : 1 < nc := Nat.lt_of_lt_of_le (by decide) hG.1
  have s3 : S 3 = .inl 807 := hG.2.1 3 (by decide) (by decide)
  have n3 : 3 < nc := Nat.lt_of_lt_of_le (by decide) hG.1
  have s4 : S 4 = .inl 807 := hG.2.1 4 (by decide) (by decide)
  have n4 : 4 < nc := Nat.lt_of_lt_of_le (by decide) hG.1
  have s5 : S 5 = .inl 807 := hG.2.1 5 (by decide) (by decide)
  have n5 : 5 < nc := Nat.lt_of_lt_of_le (by decide) hG.1
  have s6 : S 6 = .inl 807 := hG.2.1 6 (by decide) (by decide)
  have n6 : 6 < nc := Nat.lt_of_lt_of_le (by decide) hG.1
  unfold fn_X4_area at hE
  refine vl_aload_n 0 rfl dX4_area_0 ?_
  refine vl_getR (h := 1) (k0 := 5) (h2 := 5) iu_X4 n1 s1 rfl (by decide) fk_X4_21 rfl dX4_area_1 ?_
  refine vl_iload_n 1 rfl dX4_area_4 ?_
  refine vl_aldc (h := 5) (n := 807) (ni := 807) n5 (by decide) s5 (by decide) rfl dX4_area_5 hE (fun g1 g2 hE => ?_)
  refine vl_aload_n 0 rfl dX4_area_6 ?_
  refine vl_getR (h := 1) (k0 := 3) (h2 := 3) iu_X4 n1 s1 rfl (by decide) fk_X4_15 rfl dX4_area_7 ?_
  refine vl_iload_n 1 rfl dX4_area_10 ?_
  refine vl_aldc1 (h := 3) (n := 807) (ni := 807) n3 (by decide) s3 (by decide) rfl g1 dX4_area_11 ?_
  refine vl_isub dX4_area_12 ?_
  refine vl_iconst dX4_area_13 ?_
  refine vl_iadd dX4_area_14 ?_
  refine vl_aload_n 0 rfl dX4_area_15 ?_
  refine vl_getR (h := 1) (k0 := 6) (h2 := 6) iu_X4 n1 s1 rfl (by decide) fk_X4_24 rfl dX4_area_16 ?_
  refine vl_iload_n 1 rfl dX4_area_19 ?_
  refine vl_aldc1 (h := 6) (n := 807) (ni := 807) n6 (by decide) s6 (by decide) rfl g1 dX4_area_20 ?_
  refine vl_aload_n 0 rfl dX4_area_21 ?_
  refine vl_getR (h := 1) (k0 := 4) (h2 := 4) iu_X4 n1 s1 rfl (by decide) fk_X4_18 rfl dX4_area_22 ?_
  refine vl_iload_n 1 rfl dX4_area_25 ?_
  refine vl_aldc1 (h := 4) (n := 807) (ni := 807) n4 (by decide) s4 (by decide) rfl g1 dX4_area_26 ?_
  refine vl_isub dX4_area_27 ?_
  refine vl_iconst dX4_area_28 ?_
  refine vl_iadd dX4_area_29 ?_
  refine vl_imul dX4_area_30 ?_
  exact vl_ret (r := ((((m 5 a1) - (m 3 a1)) + 1) * (((m 6 a1) - (m 4 a1)) + 1))) rfl dX4_area_31 hE (hP' ((((m 5 a1) - (m 3 a1)) + 1) * (((m 6 a1) - (m 4 a1)) + 1)))
set_option maxRecDepth 100000 in
set_option maxHeartbeats 4000000 in
theorem vx_X4_copyRectangle {nc : Nat} {S : vl_Sh} {sc : Nat × (Nat → Int32)} {w : Nat} (hG : vl_G1 nc S w) {d : Nat} (hd : 0 ≤ d) {Post : Int → vl_M → vl_M → Prop} {m ρ : vl_M} {a1 a2 : Int} (hE : vl_ok (fun b : vl_M => Post 0 b ρ) (fn_X4_copyRectangle m a1 a2)) : vl_V nc S sc kX4_copyRectangle d Post 0 [(0, .ref 1), (1, vl_iv a1), (2, vl_iv a2)] [] m ρ := by
  generalize hP : (fun b : vl_M => Post 0 b ρ) = P at hE
  have hP' : ∀ b : vl_M, P b → Post 0 b ρ := fun b h => by rw [← hP] at h; exact h
  clear hP
  have s1 : S 1 = .inr (4, [0, 0, 5, 6, 7, 8, 9, 10, 11, 12, 0, 13, 0, 0, 0, 0, 0]) := hG.2.1 1 (by decide) (by decide)
  have n1 : 1 < nc := Nat.lt_of_lt_of_le (by decide) hG.1
  have s3 : S 3 = .inl 807 := hG.2.1 3 (by decide) (by decide)
  have n3 : 3 < nc := Nat.lt_of_lt_of_le (by decide) hG.1
  have s4 : S 4 = .inl 807 := hG.2.1 4 (by decide) (by decide)
  have n4 : 4 < nc := Nat.lt_of_lt_of_le (by decide) hG.1
  have s5 : S 5 = .inl 807 := hG.2.1 5 (by decide) (by decide)
  have n5 : 5 < nc := Nat.lt_of_lt_of_le (by decide) hG.1
  have s6 : S 6 = .inl 807 := hG.2.1 6 (by decide) (by decide)
  have n6 : 6 < nc := Nat.lt_of_lt_of_le (by decide) hG.1
  unfold fn_X4_copyRectangle at hE
  refine vl_aload_n 0 rfl dX4_copyRectangle_0 ?_
  refine vl_getR (h := 1) (k0 := 3) (h2 := 3) iu_X4 n1 s1 rfl (by decide) fk_X4_15 rfl dX4_copyRectangle_1 ?_
  refine vl_iload_n 2 rfl dX4_copyRectangle_4 ?_
  refine vl_aload_n 0 rfl dX4_copyRectangle_5 ?_
  refine vl_getR (h := 1) (k0 := 3) (h2 := 3) iu_X4 n1 s1 rfl (by decide) fk_X4_15 rfl dX4_copyRectangle_6 ?_
  refine vl_iload_n 1 rfl dX4_copyRectangle_9 ?_
  refine vl_aldc (h := 3) (n := 807) (ni := 807) n3 (by decide) s3 (by decide) rfl dX4_copyRectangle_10 hE (fun g1 g2 hE => ?_)
  refine vl_astc (h := 3) (n := 807) (ni := 807) n3 (by decide) s3 (by decide) rfl dX4_copyRectangle_11 hE (fun g4 g5 m3 hE => ?_)
  refine vl_aload_n 0 rfl dX4_copyRectangle_12 ?_
  refine vl_getR (h := 1) (k0 := 4) (h2 := 4) iu_X4 n1 s1 rfl (by decide) fk_X4_18 rfl dX4_copyRectangle_13 ?_
  refine vl_iload_n 2 rfl dX4_copyRectangle_16 ?_
  refine vl_aload_n 0 rfl dX4_copyRectangle_17 ?_
  refine vl_getR (h := 1) (k0 := 4) (h2 := 4) iu_X4 n1 s1 rfl (by decide) fk_X4_18 rfl dX4_copyRectangle_18 ?_
  refine vl_iload_n 1 rfl dX4_copyRectangle_21 ?_
  refine vl_aldc1 (h := 4) (n := 807) (ni := 807) n4 (by decide) s4 (by decide) rfl g1 dX4_copyRectangle_22 ?_
  refine vl_astc1 (h := 4) (n := 807) (ni := 807) n4 (by decide) s4 (by decide) rfl g4 dX4_copyRectangle_23 hE (fun m6 hE => ?_)
  refine vl_aload_n 0 rfl dX4_copyRectangle_24 ?_
  refine vl_getR (h := 1) (k0 := 5) (h2 := 5) iu_X4 n1 s1 rfl (by decide) fk_X4_21 rfl dX4_copyRectangle_25 ?_
  refine vl_iload_n 2 rfl dX4_copyRectangle_28 ?_
  refine vl_aload_n 0 rfl dX4_copyRectangle_29 ?_
  refine vl_getR (h := 1) (k0 := 5) (h2 := 5) iu_X4 n1 s1 rfl (by decide) fk_X4_21 rfl dX4_copyRectangle_30 ?_
  refine vl_iload_n 1 rfl dX4_copyRectangle_33 ?_
  refine vl_aldc1 (h := 5) (n := 807) (ni := 807) n5 (by decide) s5 (by decide) rfl g1 dX4_copyRectangle_34 ?_
  refine vl_astc1 (h := 5) (n := 807) (ni := 807) n5 (by decide) s5 (by decide) rfl g4 dX4_copyRectangle_35 hE (fun m7 hE => ?_)
  refine vl_aload_n 0 rfl dX4_copyRectangle_36 ?_
  refine vl_getR (h := 1) (k0 := 6) (h2 := 6) iu_X4 n1 s1 rfl (by decide) fk_X4_24 rfl dX4_copyRectangle_37 ?_
  refine vl_iload_n 2 rfl dX4_copyRectangle_40 ?_
  refine vl_aload_n 0 rfl dX4_copyRectangle_41 ?_
  refine vl_getR (h := 1) (k0 := 6) (h2 := 6) iu_X4 n1 s1 rfl (by decide) fk_X4_24 rfl dX4_copyRectangle_42 ?_
  refine vl_iload_n 1 rfl dX4_copyRectangle_45 ?_
  refine vl_aldc1 (h := 6) (n := 807) (ni := 807) n6 (by decide) s6 (by decide) rfl g1 dX4_copyRectangle_46 ?_
  refine vl_astc1 (h := 6) (n := 807) (ni := 807) n6 (by decide) s6 (by decide) rfl g4 dX4_copyRectangle_47 hE (fun m8 hE => ?_)
  exact vl_ret (r := 0) rfl dX4_copyRectangle_48 hE (hP' m8)
set_option maxRecDepth 100000 in
set_option maxHeartbeats 4000000 in
theorem vx_X4_describe {nc : Nat} {S : vl_Sh} {sc : Nat × (Nat → Int32)} {w : Nat} (hG : vl_G1 nc S w) {d : Nat} (hd : 0 ≤ d) {Post : Int → vl_M → vl_M → Prop} {m ρ : vl_M} {a1 a2 a3 a4 a5 a6 : Int} (hE : vl_ok (fun b : vl_M => Post 0 b ρ) (fn_X4_describe m a1 a2 a3 a4 a5 a6)) : vl_V nc S sc kX4_describe d Post 0 [(0, .ref 1), (1, vl_iv a1), (2, vl_iv a2), (3, vl_iv a3), (4, vl_iv a4), (5, vl_iv a5), (6, vl_iv a6)] [] m ρ := by
  generalize hP : (fun b : vl_M => Post 0 b ρ) = P at hE
  have hP' : ∀ b : vl_M, P b → Post 0 b ρ := fun b h => by rw [← hP] at h; exact h
  clear hP
  have s1 : S 1 = .inr (4, [0, 0, 5, 6, 7, 8, 9, 10, 11, 12, 0, 13, 0, 0, 0, 0, 0]) := hG.2.1 1 (by decide) (by decide)
  have n1 : 1 < nc := Nat.lt_of_lt_of_le (by decide) hG.1
  have s3 : S 3 = .inl 807 := hG.2.1 3 (by decide) (by decide)
  have n3 : 3 < nc := Nat.lt_of_lt_of_le (by decide) hG.1
  have s4 : S 4 = .inl 807 := hG.2.1 4 (by decide) (by decide)
  have n4 : 4 < nc := Nat.lt_of_lt_of_le (by decide) hG.1
  have s5 : S 5 = .inl 807 := hG.2.1 5 (by decide) (by decide)
  have n5 : 5 < nc := Nat.lt_of_lt_of_le (by decide) hG.1
  have s6 : S 6 = .inl 807 := hG.2.1 6 (by decide) (by decide)
  have n6 : 6 < nc := Nat.lt_of_lt_of_le (by decide) hG.1
  have s7 : S 7 = .inl 807 := hG.2.1 7 (by decide) (by decide)
  have n7 : 7 < nc := Nat.lt_of_lt_of_le (by decide) hG.1
  unfold fn_X4_describe at hE
  refine vl_aload_n 0 rfl dX4_describe_0 ?_
  refine vl_getR (h := 1) (k0 := 7) (h2 := 7) iu_X4 n1 s1 rfl (by decide) fk_X4_27 rfl dX4_describe_1 ?_
  refine vl_iload_n 1 rfl dX4_describe_4 ?_
  refine vl_iload_n 2 rfl dX4_describe_5 ?_
  refine vl_astc (h := 7) (n := 807) (ni := 807) n7 (by decide) s7 (by decide) rfl dX4_describe_6 hE (fun g2 g3 m1 hE => ?_)
  refine vl_aload_n 0 rfl dX4_describe_7 ?_
  refine vl_getR (h := 1) (k0 := 3) (h2 := 3) iu_X4 n1 s1 rfl (by decide) fk_X4_15 rfl dX4_describe_8 ?_
  refine vl_iload_n 1 rfl dX4_describe_11 ?_
  refine vl_iload_n 3 rfl dX4_describe_12 ?_
  refine vl_astc1 (h := 3) (n := 807) (ni := 807) n3 (by decide) s3 (by decide) rfl g2 dX4_describe_13 hE (fun m4 hE => ?_)
  refine vl_aload_n 0 rfl dX4_describe_14 ?_
  refine vl_getR (h := 1) (k0 := 4) (h2 := 4) iu_X4 n1 s1 rfl (by decide) fk_X4_18 rfl dX4_describe_15 ?_
  refine vl_iload_n 1 rfl dX4_describe_18 ?_
  refine vl_iload 4 rfl dX4_describe_19 ?_
  refine vl_astc1 (h := 4) (n := 807) (ni := 807) n4 (by decide) s4 (by decide) rfl g2 dX4_describe_21 hE (fun m5 hE => ?_)
  refine vl_aload_n 0 rfl dX4_describe_22 ?_
  refine vl_getR (h := 1) (k0 := 5) (h2 := 5) iu_X4 n1 s1 rfl (by decide) fk_X4_21 rfl dX4_describe_23 ?_
  refine vl_iload_n 1 rfl dX4_describe_26 ?_
  refine vl_iload 5 rfl dX4_describe_27 ?_
  refine vl_astc1 (h := 5) (n := 807) (ni := 807) n5 (by decide) s5 (by decide) rfl g2 dX4_describe_29 hE (fun m6 hE => ?_)
  refine vl_aload_n 0 rfl dX4_describe_30 ?_
  refine vl_getR (h := 1) (k0 := 6) (h2 := 6) iu_X4 n1 s1 rfl (by decide) fk_X4_24 rfl dX4_describe_31 ?_
  refine vl_iload_n 1 rfl dX4_describe_34 ?_
  refine vl_iload 6 rfl dX4_describe_35 ?_
  refine vl_astc1 (h := 6) (n := 807) (ni := 807) n6 (by decide) s6 (by decide) rfl g2 dX4_describe_37 hE (fun m7 hE => ?_)
  exact vl_ret (r := 0) rfl dX4_describe_38 hE (hP' m7)
set_option maxRecDepth 100000 in
set_option maxHeartbeats 4000000 in
theorem vx_X4_forgetEntries {nc : Nat} {S : vl_Sh} {sc : Nat × (Nat → Int32)} {w : Nat} (hG : vl_G1 nc S w) {d : Nat} (hd : 0 ≤ d) {Post : Int → vl_M → vl_M → Prop} {m ρ : vl_M} (hE : vl_ok (fun b : vl_M => Post 0 b ρ) (fn_X4_forgetEntries m )) : vl_V nc S sc kX4_forgetEntries d Post 0 [(0, .ref 1)] [] m ρ := by
  generalize hP : (fun b : vl_M => Post 0 b ρ) = P at hE
  have hP' : ∀ b : vl_M, P b → Post 0 b ρ := fun b h => by rw [← hP] at h; exact h
  clear hP
  have s1 : S 1 = .inr (4, [0, 0, 5, 6, 7, 8, 9, 10, 11, 12, 0, 13, 0, 0, 0, 0, 0]) := hG.2.1 1 (by decide) (by decide)
  have n1 : 1 < nc := Nat.lt_of_lt_of_le (by decide) hG.1
  unfold fn_X4_forgetEntries at hE
  refine vl_aload_n 0 rfl dX4_forgetEntries_0 ?_
  refine vl_iconst dX4_forgetEntries_1 ?_
  refine vl_putIc (h := 1) (k0 := 12) (ki := 12) iu_X4 tyX4_ok nmX4 n1 (by decide) s1 rfl (by decide) fk_X4_55 rfl rfl rfl (vl_nI _) dX4_forgetEntries_2 hE (fun m1 hE => ?_)
  refine vl_aload_n 0 rfl dX4_forgetEntries_5 ?_
  refine vl_iconst dX4_forgetEntries_6 ?_
  refine vl_putIc (h := 1) (k0 := 13) (ki := 13) iu_X4 tyX4_ok nmX4 n1 (by decide) s1 rfl (by decide) fk_X4_58 rfl rfl rfl (vl_nI _) dX4_forgetEntries_7 hE (fun m2 hE => ?_)
  refine vl_aload_n 0 rfl dX4_forgetEntries_10 ?_
  refine vl_iconst dX4_forgetEntries_11 ?_
  refine vl_putIc (h := 1) (k0 := 14) (ki := 14) iu_X4 tyX4_ok nmX4 n1 (by decide) s1 rfl (by decide) fk_X4_61 rfl rfl rfl (vl_nI _) dX4_forgetEntries_12 hE (fun m3 hE => ?_)
  exact vl_ret (r := 0) rfl dX4_forgetEntries_15 hE (hP' m3)
set_option maxRecDepth 100000 in
set_option maxHeartbeats 4000000 in
theorem vx_X4_forgetNodes {nc : Nat} {S : vl_Sh} {sc : Nat × (Nat → Int32)} {w : Nat} (hG : vl_G1 nc S w) {d : Nat} (hd : 0 ≤ d) {Post : Int → vl_M → vl_M → Prop} {m ρ : vl_M} (hE : vl_ok (fun b : vl_M => Post 0 b ρ) (fn_X4_forgetNodes m )) : vl_V nc S sc kX4_forgetNodes d Post 0 [(0, .ref 1)] [] m ρ := by
  generalize hP : (fun b : vl_M => Post 0 b ρ) = P at hE
  have hP' : ∀ b : vl_M, P b → Post 0 b ρ := fun b h => by rw [← hP] at h; exact h
  clear hP
  have s1 : S 1 = .inr (4, [0, 0, 5, 6, 7, 8, 9, 10, 11, 12, 0, 13, 0, 0, 0, 0, 0]) := hG.2.1 1 (by decide) (by decide)
  have n1 : 1 < nc := Nat.lt_of_lt_of_le (by decide) hG.1
  unfold fn_X4_forgetNodes at hE
  refine vl_aload_n 0 rfl dX4_forgetNodes_0 ?_
  refine vl_sipush (by decide) dX4_forgetNodes_1 ?_
  refine vl_putIc (h := 1) (k0 := 15) (ki := 15) iu_X4 tyX4_ok nmX4 n1 (by decide) s1 rfl (by decide) fk_X4_64 rfl rfl rfl (vl_nI _) dX4_forgetNodes_4 hE (fun m1 hE => ?_)
  refine vl_aload_n 0 rfl dX4_forgetNodes_7 ?_
  refine vl_iconst dX4_forgetNodes_8 ?_
  refine vl_putIc (h := 1) (k0 := 16) (ki := 16) iu_X4 tyX4_ok nmX4 n1 (by decide) s1 rfl (by decide) fk_X4_67 rfl rfl rfl (vl_nI _) dX4_forgetNodes_9 hE (fun m2 hE => ?_)
  exact vl_ret (r := 0) rfl dX4_forgetNodes_12 hE (hP' m2)
set_option maxRecDepth 100000 in
set_option maxHeartbeats 4000000 in
theorem vx_X4_freeEntry {nc : Nat} {S : vl_Sh} {sc : Nat × (Nat → Int32)} {w : Nat} (hG : vl_G1 nc S w) {d : Nat} (hd : 0 ≤ d) {Post : Int → vl_M → vl_M → Prop} {m ρ : vl_M} {a1 : Int} (hE : vl_ok (fun b : vl_M => Post 0 b ρ) (fn_X4_freeEntry m a1)) : vl_V nc S sc kX4_freeEntry d Post 0 [(0, .ref 1), (1, vl_iv a1)] [] m ρ := by
  generalize hP : (fun b : vl_M => Post 0 b ρ) = P at hE
  have hP' : ∀ b : vl_M, P b → Post 0 b ρ := fun b h => by rw [← hP] at h; exact h
  clear hP
  have s1 : S 1 = .inr (4, [0, 0, 5, 6, 7, 8, 9, 10, 11, 12, 0, 13, 0, 0, 0, 0, 0]) := hG.2.1 1 (by decide) (by decide)
  have n1 : 1 < nc := Nat.lt_of_lt_of_le (by decide) hG.1
  have s2 : S 2 = .inl 807 := hG.2.1 2 (by decide) (by decide)
  have n2 : 2 < nc := Nat.lt_of_lt_of_le (by decide) hG.1
  have s8 : S 8 = .inl 807 := hG.2.1 8 (by decide) (by decide)
  have n8 : 8 < nc := Nat.lt_of_lt_of_le (by decide) hG.1
  unfold fn_X4_freeEntry at hE
  refine vl_aload_n 0 rfl dX4_freeEntry_0 ?_
  refine vl_dup rfl dX4_freeEntry_1 ?_
  refine vl_getIc (h := 1) (k0 := 12) (ki := 12) iu_X4 n1 (by decide) s1 rfl (by decide) fk_X4_55 rfl rfl dX4_freeEntry_2 ?_
  refine vl_iconst dX4_freeEntry_5 ?_
  refine vl_isub dX4_freeEntry_6 ?_
  refine vl_putIc (h := 1) (k0 := 12) (ki := 12) iu_X4 tyX4_ok nmX4 n1 (by decide) s1 rfl (by decide) fk_X4_55 rfl rfl rfl (vl_nI _) dX4_freeEntry_7 hE (fun m1 hE => ?_)
  refine vl_aload_n 0 rfl dX4_freeEntry_10 ?_
  refine vl_getR (h := 1) (k0 := 2) (h2 := 2) iu_X4 n1 s1 rfl (by decide) fk_X4_9 rfl dX4_freeEntry_11 ?_
  refine vl_iload_n 1 rfl dX4_freeEntry_14 ?_
  refine vl_bipush (by decide) dX4_freeEntry_15 ?_
  refine vl_astc (h := 2) (n := 807) (ni := 807) n2 (by decide) s2 (by decide) rfl dX4_freeEntry_17 hE (fun g3 g4 m2 hE => ?_)
  refine vl_aload_n 0 rfl dX4_freeEntry_18 ?_
  refine vl_getR (h := 1) (k0 := 8) (h2 := 8) iu_X4 n1 s1 rfl (by decide) fk_X4_30 rfl dX4_freeEntry_19 ?_
  refine vl_iload_n 1 rfl dX4_freeEntry_22 ?_
  refine vl_aload_n 0 rfl dX4_freeEntry_23 ?_
  refine vl_getIc (h := 1) (k0 := 14) (ki := 14) iu_X4 n1 (by decide) s1 rfl (by decide) fk_X4_61 rfl rfl dX4_freeEntry_24 ?_
  refine vl_astc1 (h := 8) (n := 807) (ni := 807) n8 (by decide) s8 (by decide) rfl g3 dX4_freeEntry_27 hE (fun m5 hE => ?_)
  refine vl_aload_n 0 rfl dX4_freeEntry_28 ?_
  refine vl_iload_n 1 rfl dX4_freeEntry_29 ?_
  refine vl_putIc (h := 1) (k0 := 14) (ki := 14) iu_X4 tyX4_ok nmX4 n1 (by decide) s1 rfl (by decide) fk_X4_61 rfl rfl rfl (vl_nI _) dX4_freeEntry_30 hE (fun m6 hE => ?_)
  exact vl_ret (r := 0) rfl dX4_freeEntry_33 hE (hP' m6)
set_option maxRecDepth 100000 in
set_option maxHeartbeats 4000000 in
theorem vx_X4_freeNode {nc : Nat} {S : vl_Sh} {sc : Nat × (Nat → Int32)} {w : Nat} (hG : vl_G1 nc S w) {d : Nat} (hd : 0 ≤ d) {Post : Int → vl_M → vl_M → Prop} {m ρ : vl_M} {a1 : Int} (hE : vl_ok (fun b : vl_M => Post 0 b ρ) (fn_X4_freeNode m a1)) : vl_V nc S sc kX4_freeNode d Post 0 [(0, .ref 1), (1, vl_iv a1)] [] m ρ := by
  generalize hP : (fun b : vl_M => Post 0 b ρ) = P at hE
  have hP' : ∀ b : vl_M, P b → Post 0 b ρ := fun b h => by rw [← hP] at h; exact h
  clear hP
  have s1 : S 1 = .inr (4, [0, 0, 5, 6, 7, 8, 9, 10, 11, 12, 0, 13, 0, 0, 0, 0, 0]) := hG.2.1 1 (by decide) (by decide)
  have n1 : 1 < nc := Nat.lt_of_lt_of_le (by decide) hG.1
  have s2 : S 2 = .inl 807 := hG.2.1 2 (by decide) (by decide)
  have n2 : 2 < nc := Nat.lt_of_lt_of_le (by decide) hG.1
  have s8 : S 8 = .inl 807 := hG.2.1 8 (by decide) (by decide)
  have n8 : 8 < nc := Nat.lt_of_lt_of_le (by decide) hG.1
  unfold fn_X4_freeNode at hE
  refine vl_aload_n 0 rfl dX4_freeNode_0 ?_
  refine vl_getR (h := 1) (k0 := 2) (h2 := 2) iu_X4 n1 s1 rfl (by decide) fk_X4_9 rfl dX4_freeNode_1 ?_
  refine vl_iload_n 1 rfl dX4_freeNode_4 ?_
  refine vl_bipush (by decide) dX4_freeNode_5 ?_
  refine vl_astc (h := 2) (n := 807) (ni := 807) n2 (by decide) s2 (by decide) rfl dX4_freeNode_7 hE (fun g2 g3 m1 hE => ?_)
  refine vl_aload_n 0 rfl dX4_freeNode_8 ?_
  refine vl_getR (h := 1) (k0 := 8) (h2 := 8) iu_X4 n1 s1 rfl (by decide) fk_X4_30 rfl dX4_freeNode_9 ?_
  refine vl_iload_n 1 rfl dX4_freeNode_12 ?_
  refine vl_aload_n 0 rfl dX4_freeNode_13 ?_
  refine vl_getIc (h := 1) (k0 := 16) (ki := 16) iu_X4 n1 (by decide) s1 rfl (by decide) fk_X4_67 rfl rfl dX4_freeNode_14 ?_
  refine vl_astc1 (h := 8) (n := 807) (ni := 807) n8 (by decide) s8 (by decide) rfl g2 dX4_freeNode_17 hE (fun m4 hE => ?_)
  refine vl_aload_n 0 rfl dX4_freeNode_18 ?_
  refine vl_iload_n 1 rfl dX4_freeNode_19 ?_
  refine vl_putIc (h := 1) (k0 := 16) (ki := 16) iu_X4 tyX4_ok nmX4 n1 (by decide) s1 rfl (by decide) fk_X4_67 rfl rfl rfl (vl_nI _) dX4_freeNode_20 hE (fun m5 hE => ?_)
  exact vl_ret (r := 0) rfl dX4_freeNode_23 hE (hP' m5)
set_option maxRecDepth 100000 in
set_option maxHeartbeats 4000000 in
theorem vx_X4_isEntry {nc : Nat} {S : vl_Sh} {sc : Nat × (Nat → Int32)} {w : Nat} (hG : vl_G1 nc S w) {d : Nat} (hd : 0 ≤ d) {Post : Int → vl_M → vl_M → Prop} {m ρ : vl_M} {a1 : Int} (hE : vl_ok (fun r : Int => Post r m ρ) (fn_X4_isEntry m a1)) : vl_V nc S sc kX4_isEntry d Post 0 [(0, .ref 1), (1, vl_iv a1)] [] m ρ := by
  generalize hP : (fun r : Int => Post r m ρ) = P at hE
  have hP' : ∀ r : Int, P r → Post r m ρ := fun b h => by rw [← hP] at h; exact h
  clear hP
  have s1 : S 1 = .inr (4, [0, 0, 5, 6, 7, 8, 9, 10, 11, 12, 0, 13, 0, 0, 0, 0, 0]) := hG.2.1 1 (by decide) (by decide)
  have n1 : 1 < nc := Nat.lt_of_lt_of_le (by decide) hG.1
  have s2 : S 2 = .inl 807 := hG.2.1 2 (by decide) (by decide)
  have n2 : 2 < nc := Nat.lt_of_lt_of_le (by decide) hG.1
  unfold fn_X4_isEntry at hE
  refine vl_aload_n 0 rfl dX4_isEntry_0 ?_
  refine vl_getR (h := 1) (k0 := 2) (h2 := 2) iu_X4 n1 s1 rfl (by decide) fk_X4_9 rfl dX4_isEntry_1 ?_
  refine vl_iload_n 1 rfl dX4_isEntry_4 ?_
  refine vl_aldc (h := 2) (n := 807) (ni := 807) n2 (by decide) s2 (by decide) rfl dX4_isEntry_5 hE (fun g1 g2 hE => ?_)
  refine vl_iconst dX4_isEntry_6 ?_
  obtain ⟨g3, hE⟩ := vl_ok_gd hE
  refine vl_icmp_ne (tgt := 14) dX4_isEntry_7 (by decide) g3 (by decide) hE (fun c4 hE => ?_) (fun c4 hE => ?_)
  · refine vl_iconst dX4_isEntry_14 ?_
    exact vl_ret (r := 0) rfl ⟨dX4_isEntry_15, by decide⟩ hE (hP' (0))
  · refine vl_iconst dX4_isEntry_10 ?_
    refine vl_goto (tgt := 15) dX4_isEntry_11 (by decide) ?_
    exact vl_ret (r := 1) rfl ⟨dX4_isEntry_15, by decide⟩ hE (hP' (1))
set_option maxRecDepth 100000 in
set_option maxHeartbeats 4000000 in
theorem vx_X4_meet {nc : Nat} {S : vl_Sh} {sc : Nat × (Nat → Int32)} {w : Nat} (hG : vl_G1 nc S w) {d : Nat} (hd : 0 ≤ d) {Post : Int → vl_M → vl_M → Prop} {m ρ : vl_M} {a1 a2 : Int} (hE : vl_ok (fun r : Int => Post r m ρ) (fn_X4_meet m a1 a2)) : vl_V nc S sc kX4_meet d Post 0 [(0, .ref 1), (1, vl_iv a1), (2, vl_iv a2)] [] m ρ := by
  generalize hP : (fun r : Int => Post r m ρ) = P at hE
  have hP' : ∀ r : Int, P r → Post r m ρ := fun b h => by rw [← hP] at h; exact h
  clear hP
  have s1 : S 1 = .inr (4, [0, 0, 5, 6, 7, 8, 9, 10, 11, 12, 0, 13, 0, 0, 0, 0, 0]) := hG.2.1 1 (by decide) (by decide)
  have n1 : 1 < nc := Nat.lt_of_lt_of_le (by decide) hG.1
  have s3 : S 3 = .inl 807 := hG.2.1 3 (by decide) (by decide)
  have n3 : 3 < nc := Nat.lt_of_lt_of_le (by decide) hG.1
  have s4 : S 4 = .inl 807 := hG.2.1 4 (by decide) (by decide)
  have n4 : 4 < nc := Nat.lt_of_lt_of_le (by decide) hG.1
  have s5 : S 5 = .inl 807 := hG.2.1 5 (by decide) (by decide)
  have n5 : 5 < nc := Nat.lt_of_lt_of_le (by decide) hG.1
  have s6 : S 6 = .inl 807 := hG.2.1 6 (by decide) (by decide)
  have n6 : 6 < nc := Nat.lt_of_lt_of_le (by decide) hG.1
  unfold fn_X4_meet at hE
  refine vl_aload_n 0 rfl dX4_meet_0 ?_
  refine vl_getR (h := 1) (k0 := 3) (h2 := 3) iu_X4 n1 s1 rfl (by decide) fk_X4_15 rfl dX4_meet_1 ?_
  refine vl_iload_n 1 rfl dX4_meet_4 ?_
  refine vl_aldc (h := 3) (n := 807) (ni := 807) n3 (by decide) s3 (by decide) rfl dX4_meet_5 hE (fun g1 g2 hE => ?_)
  refine vl_aload_n 0 rfl dX4_meet_6 ?_
  refine vl_getR (h := 1) (k0 := 5) (h2 := 5) iu_X4 n1 s1 rfl (by decide) fk_X4_21 rfl dX4_meet_7 ?_
  refine vl_iload_n 2 rfl dX4_meet_10 ?_
  refine vl_aldc (h := 5) (n := 807) (ni := 807) n5 (by decide) s5 (by decide) rfl dX4_meet_11 hE (fun g3 g4 hE => ?_)
  obtain ⟨g5, hE⟩ := vl_ok_gd hE
  obtain ⟨g6, hE⟩ := vl_ok_gd hE
  refine vl_icmp_gt (tgt := 64) dX4_meet_12 (by decide) g5 g6 hE (fun c16 hE => ?_) (fun c16 hE => ?_)
  · refine vl_iconst dX4_meet_64 ?_
    exact vl_ret (r := 0) rfl ⟨dX4_meet_65, by decide⟩ hE (hP' (0))
  · refine vl_aload_n 0 rfl dX4_meet_15 ?_
    refine vl_getR (h := 1) (k0 := 3) (h2 := 3) iu_X4 n1 s1 rfl (by decide) fk_X4_15 rfl dX4_meet_16 ?_
    refine vl_iload_n 2 rfl dX4_meet_19 ?_
    refine vl_aldc1 (h := 3) (n := 807) (ni := 807) n3 (by decide) s3 (by decide) rfl g3 dX4_meet_20 ?_
    refine vl_aload_n 0 rfl dX4_meet_21 ?_
    refine vl_getR (h := 1) (k0 := 5) (h2 := 5) iu_X4 n1 s1 rfl (by decide) fk_X4_21 rfl dX4_meet_22 ?_
    refine vl_iload_n 1 rfl dX4_meet_25 ?_
    refine vl_aldc1 (h := 5) (n := 807) (ni := 807) n5 (by decide) s5 (by decide) rfl g1 dX4_meet_26 ?_
    obtain ⟨g7, hE⟩ := vl_ok_gd hE
    obtain ⟨g8, hE⟩ := vl_ok_gd hE
    refine vl_icmp_gt (tgt := 64) dX4_meet_27 (by decide) g7 g8 hE (fun c15 hE => ?_) (fun c15 hE => ?_)
    · refine vl_iconst dX4_meet_64 ?_
      exact vl_ret (r := 0) rfl ⟨dX4_meet_65, by decide⟩ hE (hP' (0))
    · refine vl_aload_n 0 rfl dX4_meet_30 ?_
      refine vl_getR (h := 1) (k0 := 4) (h2 := 4) iu_X4 n1 s1 rfl (by decide) fk_X4_18 rfl dX4_meet_31 ?_
      refine vl_iload_n 1 rfl dX4_meet_34 ?_
      refine vl_aldc1 (h := 4) (n := 807) (ni := 807) n4 (by decide) s4 (by decide) rfl g1 dX4_meet_35 ?_
      refine vl_aload_n 0 rfl dX4_meet_36 ?_
      refine vl_getR (h := 1) (k0 := 6) (h2 := 6) iu_X4 n1 s1 rfl (by decide) fk_X4_24 rfl dX4_meet_37 ?_
      refine vl_iload_n 2 rfl dX4_meet_40 ?_
      refine vl_aldc1 (h := 6) (n := 807) (ni := 807) n6 (by decide) s6 (by decide) rfl g3 dX4_meet_41 ?_
      obtain ⟨g9, hE⟩ := vl_ok_gd hE
      obtain ⟨g10, hE⟩ := vl_ok_gd hE
      refine vl_icmp_gt (tgt := 64) dX4_meet_42 (by decide) g9 g10 hE (fun c14 hE => ?_) (fun c14 hE => ?_)
      · refine vl_iconst dX4_meet_64 ?_
        exact vl_ret (r := 0) rfl ⟨dX4_meet_65, by decide⟩ hE (hP' (0))
      · refine vl_aload_n 0 rfl dX4_meet_45 ?_
        refine vl_getR (h := 1) (k0 := 4) (h2 := 4) iu_X4 n1 s1 rfl (by decide) fk_X4_18 rfl dX4_meet_46 ?_
        refine vl_iload_n 2 rfl dX4_meet_49 ?_
        refine vl_aldc1 (h := 4) (n := 807) (ni := 807) n4 (by decide) s4 (by decide) rfl g3 dX4_meet_50 ?_
        refine vl_aload_n 0 rfl dX4_meet_51 ?_
        refine vl_getR (h := 1) (k0 := 6) (h2 := 6) iu_X4 n1 s1 rfl (by decide) fk_X4_24 rfl dX4_meet_52 ?_
        refine vl_iload_n 1 rfl dX4_meet_55 ?_
        refine vl_aldc1 (h := 6) (n := 807) (ni := 807) n6 (by decide) s6 (by decide) rfl g1 dX4_meet_56 ?_
        obtain ⟨g11, hE⟩ := vl_ok_gd hE
        obtain ⟨g12, hE⟩ := vl_ok_gd hE
        refine vl_icmp_gt (tgt := 64) dX4_meet_57 (by decide) g11 g12 hE (fun c13 hE => ?_) (fun c13 hE => ?_)
        · refine vl_iconst dX4_meet_64 ?_
          exact vl_ret (r := 0) rfl ⟨dX4_meet_65, by decide⟩ hE (hP' (0))
        · refine vl_iconst dX4_meet_60 ?_
          refine vl_goto (tgt := 65) dX4_meet_61 (by decide) ?_
          exact vl_ret (r := 1) rfl ⟨dX4_meet_65, by decide⟩ hE (hP' (1))
set_option maxRecDepth 100000 in
set_option maxHeartbeats 4000000 in
theorem vx_X4_newNode {nc : Nat} {S : vl_Sh} {sc : Nat × (Nat → Int32)} {w : Nat} (hG : vl_G1 nc S w) {d : Nat} (hd : 0 ≤ d) {Post : Int → vl_M → vl_M → Prop} {m ρ : vl_M} {a1 : Int} (hE : vl_ok (fun b : Int × vl_M => Post b.1 b.2 ρ) (fn_X4_newNode m a1)) : vl_V nc S sc kX4_newNode d Post 0 [(0, .ref 1), (1, vl_iv a1)] [] m ρ := by
  generalize hP : (fun b : Int × vl_M => Post b.1 b.2 ρ) = P at hE
  have hP' : ∀ b : Int × vl_M, P b → Post b.1 b.2 ρ := fun b h => by rw [← hP] at h; exact h
  clear hP
  have s1 : S 1 = .inr (4, [0, 0, 5, 6, 7, 8, 9, 10, 11, 12, 0, 13, 0, 0, 0, 0, 0]) := hG.2.1 1 (by decide) (by decide)
  have n1 : 1 < nc := Nat.lt_of_lt_of_le (by decide) hG.1
  have s2 : S 2 = .inl 807 := hG.2.1 2 (by decide) (by decide)
  have n2 : 2 < nc := Nat.lt_of_lt_of_le (by decide) hG.1
  have s8 : S 8 = .inl 807 := hG.2.1 8 (by decide) (by decide)
  have n8 : 8 < nc := Nat.lt_of_lt_of_le (by decide) hG.1
  have s9 : S 9 = .inl 807 := hG.2.1 9 (by decide) (by decide)
  have n9 : 9 < nc := Nat.lt_of_lt_of_le (by decide) hG.1
  unfold fn_X4_newNode at hE
  refine vl_aload_n 0 rfl dX4_newNode_0 ?_
  refine vl_getIc (h := 1) (k0 := 16) (ki := 16) iu_X4 n1 (by decide) s1 rfl (by decide) fk_X4_67 rfl rfl dX4_newNode_1 ?_
  refine vl_istore_n rfl (fun v1 => [(2, vl_iv v1), (0, .ref 1), (1, vl_iv a1)]) dX4_newNode_4 (by decide) (fun _ => rfl) hE (fun v1 hE => ?_)
  refine vl_iload_n 0 rfl dX4_newNode_5 ?_
  refine vl_iconst dX4_newNode_6 ?_
  obtain ⟨g2, hE⟩ := vl_ok_gd hE
  refine vl_icmp_eq (tgt := 23) dX4_newNode_7 (by decide) g2 (by decide) hE (fun c18 hE => ?_) (fun c18 hE => ?_)
  · refine vl_aload_n 1 rfl dX4_newNode_23 ?_
    refine vl_getIc (h := 1) (k0 := 15) (ki := 15) iu_X4 n1 (by decide) s1 rfl (by decide) fk_X4_64 rfl rfl dX4_newNode_24 ?_
    refine vl_sipush (by decide) dX4_newNode_27 ?_
    obtain ⟨g3, hE⟩ := vl_ok_gd hE
    refine vl_icmp_ge (tgt := 48) dX4_newNode_30 (by decide) g3 (by decide) hE (fun c11 hE => ?_) (fun c11 hE => ?_)
    · refine vl_sipush (by decide) dX4_newNode_48 ?_
      exact vl_ret (r := 806) rfl dX4_newNode_51 hE (hP' (806, m))
    · refine vl_aload_n 1 rfl dX4_newNode_33 ?_
      refine vl_dup rfl dX4_newNode_34 ?_
      refine vl_getIc (h := 1) (k0 := 15) (ki := 15) iu_X4 n1 (by decide) s1 rfl (by decide) fk_X4_64 rfl rfl dX4_newNode_35 ?_
      refine vl_dup_x1 rfl rfl dX4_newNode_38 ?_
      refine vl_iconst dX4_newNode_39 ?_
      refine vl_iadd dX4_newNode_40 ?_
      refine vl_putIc (h := 1) (k0 := 15) (ki := 15) iu_X4 tyX4_ok nmX4 n1 (by decide) s1 rfl (by decide) fk_X4_64 rfl rfl rfl (vl_nI _) dX4_newNode_41 hE (fun m4 hE => ?_)
      refine vl_istore_n rfl (fun v5 => [(2, vl_iv v5), (0, .ref 1), (1, vl_iv a1)]) dX4_newNode_44 (by decide) (fun _ => rfl) hE (fun v5 hE => ?_)
      refine vl_goto (tgt := 52) dX4_newNode_45 (by decide) ?_
      refine vl_aload_n 1 rfl dX4_newNode_52 ?_
      refine vl_getR (h := 1) (k0 := 2) (h2 := 2) iu_X4 n1 s1 rfl (by decide) fk_X4_9 rfl dX4_newNode_53 ?_
      refine vl_iload_n 0 rfl dX4_newNode_56 ?_
      refine vl_iload_n 2 rfl dX4_newNode_57 ?_
      refine vl_astc (h := 2) (n := 807) (ni := 807) n2 (by decide) s2 (by decide) rfl dX4_newNode_58 hE (fun g7 g8 m6 hE => ?_)
      refine vl_aload_n 1 rfl dX4_newNode_59 ?_
      refine vl_getR (h := 1) (k0 := 9) (h2 := 9) iu_X4 n1 s1 rfl (by decide) fk_X4_33 rfl dX4_newNode_60 ?_
      refine vl_iload_n 0 rfl dX4_newNode_63 ?_
      refine vl_iconst dX4_newNode_64 ?_
      refine vl_astc1 (h := 9) (n := 807) (ni := 807) n9 (by decide) s9 (by decide) rfl g7 dX4_newNode_65 hE (fun m9 hE => ?_)
      refine vl_aload_n 1 rfl dX4_newNode_66 ?_
      refine vl_getR (h := 1) (k0 := 8) (h2 := 8) iu_X4 n1 s1 rfl (by decide) fk_X4_30 rfl dX4_newNode_67 ?_
      refine vl_iload_n 0 rfl dX4_newNode_70 ?_
      refine vl_iconst dX4_newNode_71 ?_
      refine vl_astc1 (h := 8) (n := 807) (ni := 807) n8 (by decide) s8 (by decide) rfl g7 dX4_newNode_72 hE (fun m10 hE => ?_)
      refine vl_iload_n 0 rfl dX4_newNode_73 ?_
      exact vl_ret (r := v5) rfl dX4_newNode_74 hE (hP' (v5, m10))
  · refine vl_aload_n 1 rfl dX4_newNode_10 ?_
    refine vl_aload_n 1 rfl dX4_newNode_11 ?_
    refine vl_getR (h := 1) (k0 := 8) (h2 := 8) iu_X4 n1 s1 rfl (by decide) fk_X4_30 rfl dX4_newNode_12 ?_
    refine vl_iload_n 0 rfl dX4_newNode_15 ?_
    refine vl_aldc (h := 8) (n := 807) (ni := 807) n8 (by decide) s8 (by decide) rfl dX4_newNode_16 hE (fun g12 g13 hE => ?_)
    refine vl_putIc (h := 1) (k0 := 16) (ki := 16) iu_X4 tyX4_ok nmX4 n1 (by decide) s1 rfl (by decide) fk_X4_67 rfl rfl rfl (vl_nI _) dX4_newNode_17 hE (fun m14 hE => ?_)
    refine vl_goto (tgt := 52) dX4_newNode_20 (by decide) ?_
    refine vl_aload_n 1 rfl dX4_newNode_52 ?_
    refine vl_getR (h := 1) (k0 := 2) (h2 := 2) iu_X4 n1 s1 rfl (by decide) fk_X4_9 rfl dX4_newNode_53 ?_
    refine vl_iload_n 0 rfl dX4_newNode_56 ?_
    refine vl_iload_n 2 rfl dX4_newNode_57 ?_
    refine vl_astc1 (h := 2) (n := 807) (ni := 807) n2 (by decide) s2 (by decide) rfl g12 dX4_newNode_58 hE (fun m15 hE => ?_)
    refine vl_aload_n 1 rfl dX4_newNode_59 ?_
    refine vl_getR (h := 1) (k0 := 9) (h2 := 9) iu_X4 n1 s1 rfl (by decide) fk_X4_33 rfl dX4_newNode_60 ?_
    refine vl_iload_n 0 rfl dX4_newNode_63 ?_
    refine vl_iconst dX4_newNode_64 ?_
    refine vl_astc1 (h := 9) (n := 807) (ni := 807) n9 (by decide) s9 (by decide) rfl g12 dX4_newNode_65 hE (fun m16 hE => ?_)
    refine vl_aload_n 1 rfl dX4_newNode_66 ?_
    refine vl_getR (h := 1) (k0 := 8) (h2 := 8) iu_X4 n1 s1 rfl (by decide) fk_X4_30 rfl dX4_newNode_67 ?_
    refine vl_iload_n 0 rfl dX4_newNode_70 ?_
    refine vl_iconst dX4_newNode_71 ?_
    refine vl_astc1 (h := 8) (n := 807) (ni := 807) n8 (by decide) s8 (by decide) rfl g12 dX4_newNode_72 hE (fun m17 hE => ?_)
    refine vl_iload_n 0 rfl dX4_newNode_73 ?_
    exact vl_ret (r := v1) rfl dX4_newNode_74 hE (hP' (v1, m17))
set_option maxRecDepth 100000 in
set_option maxHeartbeats 4000000 in
theorem vx_X4_placeAt {nc : Nat} {S : vl_Sh} {sc : Nat × (Nat → Int32)} {w : Nat} (hG : vl_G1 nc S w) {d : Nat} (hd : 0 ≤ d) {Post : Int → vl_M → vl_M → Prop} {m ρ : vl_M} {a1 a2 a3 : Int} (hE : vl_ok (fun b : vl_M => Post 0 b ρ) (fn_X4_placeAt w m a1 a2 a3)) : vl_V nc S sc kX4_placeAt d Post 0 [(0, .ref 1), (1, vl_iv a1), (2, vl_iv a2), (3, vl_iv a3)] [] m ρ := by
  generalize hP : (fun b : vl_M => Post 0 b ρ) = P at hE
  have hP' : ∀ b : vl_M, P b → Post 0 b ρ := fun b h => by rw [← hP] at h; exact h
  clear hP
  have s1 : S 1 = .inr (4, [0, 0, 5, 6, 7, 8, 9, 10, 11, 12, 0, 13, 0, 0, 0, 0, 0]) := hG.2.1 1 (by decide) (by decide)
  have n1 : 1 < nc := Nat.lt_of_lt_of_le (by decide) hG.1
  have s10 : S 10 = .inl (404 * w) := hG.2.1 10 (by decide) (by decide)
  have n10 : 10 < nc := Nat.lt_of_lt_of_le (by decide) hG.1
  have hw : w ≤ 11 := hG.2.2
  unfold fn_X4_placeAt at hE
  refine vl_iload_n 1 rfl dX4_placeAt_0 ?_
  refine vl_sipush (by decide) dX4_placeAt_1 ?_
  refine vl_isub dX4_placeAt_4 ?_
  refine vl_aload_n 0 rfl dX4_placeAt_5 ?_
  refine vl_getIc (h := 1) (k0 := 10) (ki := 10) iu_X4 n1 (by decide) s1 rfl (by decide) fk_X4_43 rfl rfl dX4_placeAt_6 ?_
  refine vl_imul dX4_placeAt_9 ?_
  refine vl_iload_n 2 rfl dX4_placeAt_10 ?_
  refine vl_iadd dX4_placeAt_11 ?_
  refine vl_istore (fun v1 => [(4, vl_iv v1), (0, .ref 1), (1, vl_iv a1), (2, vl_iv a2), (3, vl_iv a3)]) dX4_placeAt_12 (by decide) (fun _ => rfl) hE (fun v1 hE => ?_)
  refine vl_iload 0 rfl dX4_placeAt_14 ?_
  obtain ⟨g2, hE⟩ := vl_ok_gd hE
  refine vl_if_lt (tgt := 37) dX4_placeAt_16 (by decide) g2  hE (fun c8 hE => ?_) (fun c8 hE => ?_)
  · exact vl_ret (r := 0) rfl dX4_placeAt_37 hE (hP' m)
  · refine vl_iload 0 rfl dX4_placeAt_19 ?_
    refine vl_aload_n 1 rfl dX4_placeAt_21 ?_
    refine vl_getR (h := 1) (k0 := 11) (h2 := 10) iu_X4 n1 s1 rfl (by decide) fk_X4_46 rfl dX4_placeAt_22 ?_
    refine vl_alen (h := 10) (n := (404 * w)) (ni := (404 * (w : Int))) n10 s10 (vl_c404 w) dX4_placeAt_25 ?_
    obtain ⟨g3, hE⟩ := vl_ok_gd hE
    refine vl_icmp_ge (tgt := 37) dX4_placeAt_26 (by decide) g2 g3 hE (fun c7 hE => ?_) (fun c7 hE => ?_)
    · exact vl_ret (r := 0) rfl dX4_placeAt_37 hE (hP' m)
    · refine vl_aload_n 1 rfl dX4_placeAt_29 ?_
      refine vl_getR (h := 1) (k0 := 11) (h2 := 10) iu_X4 n1 s1 rfl (by decide) fk_X4_46 rfl dX4_placeAt_30 ?_
      refine vl_iload 0 rfl dX4_placeAt_33 ?_
      refine vl_iload_n 4 rfl dX4_placeAt_35 ?_
      refine vl_astc (h := 10) (n := (404 * w)) (ni := (404 * (w : Int))) n10 (by decide) s10 (vl_w404 hw) (vl_c404 w) dX4_placeAt_36 hE (fun g5 g6 m4 hE => ?_)
      exact vl_ret (r := 0) rfl dX4_placeAt_37 hE (hP' m4)
set_option maxRecDepth 100000 in
set_option maxHeartbeats 4000000 in
theorem vx_X4_sameRectangle {nc : Nat} {S : vl_Sh} {sc : Nat × (Nat → Int32)} {w : Nat} (hG : vl_G1 nc S w) {d : Nat} (hd : 0 ≤ d) {Post : Int → vl_M → vl_M → Prop} {m ρ : vl_M} {a1 a2 : Int} (hE : vl_ok (fun r : Int => Post r m ρ) (fn_X4_sameRectangle m a1 a2)) : vl_V nc S sc kX4_sameRectangle d Post 0 [(0, .ref 1), (1, vl_iv a1), (2, vl_iv a2)] [] m ρ := by
  generalize hP : (fun r : Int => Post r m ρ) = P at hE
  have hP' : ∀ r : Int, P r → Post r m ρ := fun b h => by rw [← hP] at h; exact h
  clear hP
  have s1 : S 1 = .inr (4, [0, 0, 5, 6, 7, 8, 9, 10, 11, 12, 0, 13, 0, 0, 0, 0, 0]) := hG.2.1 1 (by decide) (by decide)
  have n1 : 1 < nc := Nat.lt_of_lt_of_le (by decide) hG.1
  have s3 : S 3 = .inl 807 := hG.2.1 3 (by decide) (by decide)
  have n3 : 3 < nc := Nat.lt_of_lt_of_le (by decide) hG.1
  have s4 : S 4 = .inl 807 := hG.2.1 4 (by decide) (by decide)
  have n4 : 4 < nc := Nat.lt_of_lt_of_le (by decide) hG.1
  have s5 : S 5 = .inl 807 := hG.2.1 5 (by decide) (by decide)
  have n5 : 5 < nc := Nat.lt_of_lt_of_le (by decide) hG.1
  have s6 : S 6 = .inl 807 := hG.2.1 6 (by decide) (by decide)
  have n6 : 6 < nc := Nat.lt_of_lt_of_le (by decide) hG.1
  unfold fn_X4_sameRectangle at hE
  refine vl_aload_n 0 rfl dX4_sameRectangle_0 ?_
  refine vl_getR (h := 1) (k0 := 3) (h2 := 3) iu_X4 n1 s1 rfl (by decide) fk_X4_15 rfl dX4_sameRectangle_1 ?_
  refine vl_iload_n 1 rfl dX4_sameRectangle_4 ?_
  refine vl_aldc (h := 3) (n := 807) (ni := 807) n3 (by decide) s3 (by decide) rfl dX4_sameRectangle_5 hE (fun g1 g2 hE => ?_)
  refine vl_aload_n 0 rfl dX4_sameRectangle_6 ?_
  refine vl_getR (h := 1) (k0 := 3) (h2 := 3) iu_X4 n1 s1 rfl (by decide) fk_X4_15 rfl dX4_sameRectangle_7 ?_
  refine vl_iload_n 2 rfl dX4_sameRectangle_10 ?_
  refine vl_aldc (h := 3) (n := 807) (ni := 807) n3 (by decide) s3 (by decide) rfl dX4_sameRectangle_11 hE (fun g3 g4 hE => ?_)
  obtain ⟨g5, hE⟩ := vl_ok_gd hE
  obtain ⟨g6, hE⟩ := vl_ok_gd hE
  refine vl_icmp_ne (tgt := 64) dX4_sameRectangle_12 (by decide) g5 g6 hE (fun c16 hE => ?_) (fun c16 hE => ?_)
  · refine vl_iconst dX4_sameRectangle_64 ?_
    exact vl_ret (r := 0) rfl ⟨dX4_sameRectangle_65, by decide⟩ hE (hP' (0))
  · refine vl_aload_n 0 rfl dX4_sameRectangle_15 ?_
    refine vl_getR (h := 1) (k0 := 4) (h2 := 4) iu_X4 n1 s1 rfl (by decide) fk_X4_18 rfl dX4_sameRectangle_16 ?_
    refine vl_iload_n 1 rfl dX4_sameRectangle_19 ?_
    refine vl_aldc1 (h := 4) (n := 807) (ni := 807) n4 (by decide) s4 (by decide) rfl g1 dX4_sameRectangle_20 ?_
    refine vl_aload_n 0 rfl dX4_sameRectangle_21 ?_
    refine vl_getR (h := 1) (k0 := 4) (h2 := 4) iu_X4 n1 s1 rfl (by decide) fk_X4_18 rfl dX4_sameRectangle_22 ?_
    refine vl_iload_n 2 rfl dX4_sameRectangle_25 ?_
    refine vl_aldc1 (h := 4) (n := 807) (ni := 807) n4 (by decide) s4 (by decide) rfl g3 dX4_sameRectangle_26 ?_
    obtain ⟨g7, hE⟩ := vl_ok_gd hE
    obtain ⟨g8, hE⟩ := vl_ok_gd hE
    refine vl_icmp_ne (tgt := 64) dX4_sameRectangle_27 (by decide) g7 g8 hE (fun c15 hE => ?_) (fun c15 hE => ?_)
    · refine vl_iconst dX4_sameRectangle_64 ?_
      exact vl_ret (r := 0) rfl ⟨dX4_sameRectangle_65, by decide⟩ hE (hP' (0))
    · refine vl_aload_n 0 rfl dX4_sameRectangle_30 ?_
      refine vl_getR (h := 1) (k0 := 5) (h2 := 5) iu_X4 n1 s1 rfl (by decide) fk_X4_21 rfl dX4_sameRectangle_31 ?_
      refine vl_iload_n 1 rfl dX4_sameRectangle_34 ?_
      refine vl_aldc1 (h := 5) (n := 807) (ni := 807) n5 (by decide) s5 (by decide) rfl g1 dX4_sameRectangle_35 ?_
      refine vl_aload_n 0 rfl dX4_sameRectangle_36 ?_
      refine vl_getR (h := 1) (k0 := 5) (h2 := 5) iu_X4 n1 s1 rfl (by decide) fk_X4_21 rfl dX4_sameRectangle_37 ?_
      refine vl_iload_n 2 rfl dX4_sameRectangle_40 ?_
      refine vl_aldc1 (h := 5) (n := 807) (ni := 807) n5 (by decide) s5 (by decide) rfl g3 dX4_sameRectangle_41 ?_
      obtain ⟨g9, hE⟩ := vl_ok_gd hE
      obtain ⟨g10, hE⟩ := vl_ok_gd hE
      refine vl_icmp_ne (tgt := 64) dX4_sameRectangle_42 (by decide) g9 g10 hE (fun c14 hE => ?_) (fun c14 hE => ?_)
      · refine vl_iconst dX4_sameRectangle_64 ?_
        exact vl_ret (r := 0) rfl ⟨dX4_sameRectangle_65, by decide⟩ hE (hP' (0))
      · refine vl_aload_n 0 rfl dX4_sameRectangle_45 ?_
        refine vl_getR (h := 1) (k0 := 6) (h2 := 6) iu_X4 n1 s1 rfl (by decide) fk_X4_24 rfl dX4_sameRectangle_46 ?_
        refine vl_iload_n 1 rfl dX4_sameRectangle_49 ?_
        refine vl_aldc1 (h := 6) (n := 807) (ni := 807) n6 (by decide) s6 (by decide) rfl g1 dX4_sameRectangle_50 ?_
        refine vl_aload_n 0 rfl dX4_sameRectangle_51 ?_
        refine vl_getR (h := 1) (k0 := 6) (h2 := 6) iu_X4 n1 s1 rfl (by decide) fk_X4_24 rfl dX4_sameRectangle_52 ?_
        refine vl_iload_n 2 rfl dX4_sameRectangle_55 ?_
        refine vl_aldc1 (h := 6) (n := 807) (ni := 807) n6 (by decide) s6 (by decide) rfl g3 dX4_sameRectangle_56 ?_
        obtain ⟨g11, hE⟩ := vl_ok_gd hE
        obtain ⟨g12, hE⟩ := vl_ok_gd hE
        refine vl_icmp_ne (tgt := 64) dX4_sameRectangle_57 (by decide) g11 g12 hE (fun c13 hE => ?_) (fun c13 hE => ?_)
        · refine vl_iconst dX4_sameRectangle_64 ?_
          exact vl_ret (r := 0) rfl ⟨dX4_sameRectangle_65, by decide⟩ hE (hP' (0))
        · refine vl_iconst dX4_sameRectangle_60 ?_
          refine vl_goto (tgt := 65) dX4_sameRectangle_61 (by decide) ?_
          exact vl_ret (r := 1) rfl ⟨dX4_sameRectangle_65, by decide⟩ hE (hP' (1))
set_option maxRecDepth 100000 in
set_option maxHeartbeats 4000000 in
theorem vx_X4_side {nc : Nat} {S : vl_Sh} {sc : Nat × (Nat → Int32)} {w : Nat} (hG : vl_G1 nc S w) {d : Nat} (hd : 0 ≤ d) {Post : Int → vl_M → vl_M → Prop} {m ρ : vl_M} {a1 a2 : Int} (hE : vl_ok (fun r : Int => Post r m ρ) (fn_X4_side m a1 a2)) : vl_V nc S sc kX4_side d Post 0 [(0, .ref 1), (1, vl_iv a1), (2, vl_iv a2)] [] m ρ := by
  generalize hP : (fun r : Int => Post r m ρ) = P at hE
  have hP' : ∀ r : Int, P r → Post r m ρ := fun b h => by rw [← hP] at h; exact h
  clear hP
  have s1 : S 1 = .inr (4, [0, 0, 5, 6, 7, 8, 9, 10, 11, 12, 0, 13, 0, 0, 0, 0, 0]) := hG.2.1 1 (by decide) (by decide)
  have n1 : 1 < nc := Nat.lt_of_lt_of_le (by decide) hG.1
  have s3 : S 3 = .inl 807 := hG.2.1 3 (by decide) (by decide)
  have n3 : 3 < nc := Nat.lt_of_lt_of_le (by decide) hG.1
  have s4 : S 4 = .inl 807 := hG.2.1 4 (by decide) (by decide)
  have n4 : 4 < nc := Nat.lt_of_lt_of_le (by decide) hG.1
  have s5 : S 5 = .inl 807 := hG.2.1 5 (by decide) (by decide)
  have n5 : 5 < nc := Nat.lt_of_lt_of_le (by decide) hG.1
  have s6 : S 6 = .inl 807 := hG.2.1 6 (by decide) (by decide)
  have n6 : 6 < nc := Nat.lt_of_lt_of_le (by decide) hG.1
  unfold fn_X4_side at hE
  refine vl_iload_n 2 rfl dX4_side_0 ?_
  obtain ⟨g1, hE⟩ := vl_ok_gd hE
  by_cases c2 : a2 = 0
  · rw [if_pos c2] at hE
    refine vl_tabIn (off := 31) (tgt := 32) dX4_side_1 g1 (by omega) (by omega) (by rw [c2]; rfl) (by decide) ?_
    refine vl_aload_n 0 rfl dX4_side_32 ?_
    refine vl_getR (h := 1) (k0 := 3) (h2 := 3) iu_X4 n1 s1 rfl (by decide) fk_X4_15 rfl dX4_side_33 ?_
    refine vl_iload_n 1 rfl dX4_side_36 ?_
    refine vl_aldc (h := 3) (n := 807) (ni := 807) n3 (by decide) s3 (by decide) rfl dX4_side_37 hE (fun g3 g4 hE => ?_)
    exact vl_ret (r := (m 3 a1)) rfl dX4_side_38 hE (hP' (m 3 a1))
  · rw [if_neg c2] at hE
    by_cases c5 : a2 = 1
    · rw [if_pos c5] at hE
      refine vl_tabIn (off := 38) (tgt := 39) dX4_side_1 g1 (by omega) (by omega) (by rw [c5]; rfl) (by decide) ?_
      refine vl_aload_n 0 rfl dX4_side_39 ?_
      refine vl_getR (h := 1) (k0 := 4) (h2 := 4) iu_X4 n1 s1 rfl (by decide) fk_X4_18 rfl dX4_side_40 ?_
      refine vl_iload_n 1 rfl dX4_side_43 ?_
      refine vl_aldc (h := 4) (n := 807) (ni := 807) n4 (by decide) s4 (by decide) rfl dX4_side_44 hE (fun g6 g7 hE => ?_)
      exact vl_ret (r := (m 4 a1)) rfl dX4_side_45 hE (hP' (m 4 a1))
    · rw [if_neg c5] at hE
      by_cases c8 : a2 = 2
      · rw [if_pos c8] at hE
        refine vl_tabIn (off := 45) (tgt := 46) dX4_side_1 g1 (by omega) (by omega) (by rw [c8]; rfl) (by decide) ?_
        refine vl_aload_n 0 rfl dX4_side_46 ?_
        refine vl_getR (h := 1) (k0 := 5) (h2 := 5) iu_X4 n1 s1 rfl (by decide) fk_X4_21 rfl dX4_side_47 ?_
        refine vl_iload_n 1 rfl dX4_side_50 ?_
        refine vl_aldc (h := 5) (n := 807) (ni := 807) n5 (by decide) s5 (by decide) rfl dX4_side_51 hE (fun g9 g10 hE => ?_)
        exact vl_ret (r := (m 5 a1)) rfl dX4_side_52 hE (hP' (m 5 a1))
      · rw [if_neg c8] at hE
        by_cases c11 : a2 = 3
        · rw [if_pos c11] at hE
          refine vl_tabIn (off := 52) (tgt := 53) dX4_side_1 g1 (by omega) (by omega) (by rw [c11]; rfl) (by decide) ?_
          refine vl_aload_n 0 rfl dX4_side_53 ?_
          refine vl_getR (h := 1) (k0 := 6) (h2 := 6) iu_X4 n1 s1 rfl (by decide) fk_X4_24 rfl dX4_side_54 ?_
          refine vl_iload_n 1 rfl dX4_side_57 ?_
          refine vl_aldc (h := 6) (n := 807) (ni := 807) n6 (by decide) s6 (by decide) rfl dX4_side_58 hE (fun g12 g13 hE => ?_)
          exact vl_ret (r := (m 6 a1)) rfl dX4_side_59 hE (hP' (m 6 a1))
        · rw [if_neg c11] at hE
          refine vl_tabOut (tgt := 60) dX4_side_1 g1 (by omega) (by decide) ?_
          refine vl_iconst dX4_side_60 ?_
          exact vl_ret (r := (-1)) rfl dX4_side_61 hE (hP' (-1))
set_option maxRecDepth 100000 in
set_option maxHeartbeats 4000000 in
theorem vx_X4_thingAt {nc : Nat} {S : vl_Sh} {sc : Nat × (Nat → Int32)} {w : Nat} (hG : vl_G1 nc S w) {d : Nat} (hd : 0 ≤ d) {Post : Int → vl_M → vl_M → Prop} {m ρ : vl_M} {a1 a2 : Int} (hE : vl_ok (fun r : Int => Post r m ρ) (fn_X4_thingAt w m a1 a2)) : vl_V nc S sc kX4_thingAt d Post 0 [(0, .ref 1), (1, vl_iv a1), (2, vl_iv a2)] [] m ρ := by
  generalize hP : (fun r : Int => Post r m ρ) = P at hE
  have hP' : ∀ r : Int, P r → Post r m ρ := fun b h => by rw [← hP] at h; exact h
  clear hP
  have s1 : S 1 = .inr (4, [0, 0, 5, 6, 7, 8, 9, 10, 11, 12, 0, 13, 0, 0, 0, 0, 0]) := hG.2.1 1 (by decide) (by decide)
  have n1 : 1 < nc := Nat.lt_of_lt_of_le (by decide) hG.1
  have s10 : S 10 = .inl (404 * w) := hG.2.1 10 (by decide) (by decide)
  have n10 : 10 < nc := Nat.lt_of_lt_of_le (by decide) hG.1
  have hw : w ≤ 11 := hG.2.2
  unfold fn_X4_thingAt at hE
  refine vl_iload_n 1 rfl dX4_thingAt_0 ?_
  refine vl_sipush (by decide) dX4_thingAt_1 ?_
  refine vl_isub dX4_thingAt_4 ?_
  refine vl_aload_n 0 rfl dX4_thingAt_5 ?_
  refine vl_getIc (h := 1) (k0 := 10) (ki := 10) iu_X4 n1 (by decide) s1 rfl (by decide) fk_X4_43 rfl rfl dX4_thingAt_6 ?_
  refine vl_imul dX4_thingAt_9 ?_
  refine vl_iload_n 2 rfl dX4_thingAt_10 ?_
  refine vl_iadd dX4_thingAt_11 ?_
  refine vl_istore_n rfl (fun v1 => [(3, vl_iv v1), (0, .ref 1), (1, vl_iv a1), (2, vl_iv a2)]) dX4_thingAt_12 (by decide) (fun _ => rfl) hE (fun v1 hE => ?_)
  refine vl_iload_n 0 rfl dX4_thingAt_13 ?_
  obtain ⟨g2, hE⟩ := vl_ok_gd hE
  refine vl_if_lt (tgt := 35) dX4_thingAt_14 (by decide) g2  hE (fun c7 hE => ?_) (fun c7 hE => ?_)
  · refine vl_sipush (by decide) dX4_thingAt_35 ?_
    exact vl_ret (r := 806) rfl dX4_thingAt_38 hE (hP' (806))
  · refine vl_iload_n 0 rfl dX4_thingAt_17 ?_
    refine vl_aload_n 1 rfl dX4_thingAt_18 ?_
    refine vl_getR (h := 1) (k0 := 11) (h2 := 10) iu_X4 n1 s1 rfl (by decide) fk_X4_46 rfl dX4_thingAt_19 ?_
    refine vl_alen (h := 10) (n := (404 * w)) (ni := (404 * (w : Int))) n10 s10 (vl_c404 w) dX4_thingAt_22 ?_
    obtain ⟨g3, hE⟩ := vl_ok_gd hE
    refine vl_icmp_ge (tgt := 35) dX4_thingAt_23 (by decide) g2 g3 hE (fun c6 hE => ?_) (fun c6 hE => ?_)
    · refine vl_sipush (by decide) dX4_thingAt_35 ?_
      exact vl_ret (r := 806) rfl dX4_thingAt_38 hE (hP' (806))
    · refine vl_aload_n 1 rfl dX4_thingAt_26 ?_
      refine vl_getR (h := 1) (k0 := 11) (h2 := 10) iu_X4 n1 s1 rfl (by decide) fk_X4_46 rfl dX4_thingAt_27 ?_
      refine vl_iload_n 0 rfl dX4_thingAt_30 ?_
      refine vl_aldc (h := 10) (n := (404 * w)) (ni := (404 * (w : Int))) n10 (by decide) s10 (vl_w404 hw) (vl_c404 w) dX4_thingAt_31 hE (fun g4 g5 hE => ?_)
      refine vl_goto (tgt := 38) dX4_thingAt_32 (by decide) ?_
      exact vl_ret (r := (m 10 v1)) rfl dX4_thingAt_38 hE (hP' (m 10 v1))
set_option maxRecDepth 100000 in
set_option maxHeartbeats 4000000 in
theorem vx_X4_alike {nc : Nat} {S : vl_Sh} {sc : Nat × (Nat → Int32)} {w : Nat} (hG : vl_G1 nc S w) {d : Nat} (hd : 1 ≤ d) {Post : Int → vl_M → vl_M → Prop} {m ρ : vl_M} {a1 a2 : Int} (hE : vl_ok (fun r : Int => Post r m ρ) (fn_X4_alike m a1 a2)) : vl_V nc S sc kX4_alike d Post 0 [(0, .ref 1), (1, vl_iv a1), (2, vl_iv a2)] [] m ρ := by
  generalize hP : (fun r : Int => Post r m ρ) = P at hE
  have hP' : ∀ r : Int, P r → Post r m ρ := fun b h => by rw [← hP] at h; exact h
  clear hP
  have s1 : S 1 = .inr (4, [0, 0, 5, 6, 7, 8, 9, 10, 11, 12, 0, 13, 0, 0, 0, 0, 0]) := hG.2.1 1 (by decide) (by decide)
  have n1 : 1 < nc := Nat.lt_of_lt_of_le (by decide) hG.1
  have s7 : S 7 = .inl 807 := hG.2.1 7 (by decide) (by decide)
  have n7 : 7 < nc := Nat.lt_of_lt_of_le (by decide) hG.1
  unfold fn_X4_alike at hE
  refine vl_aload_n 0 rfl dX4_alike_0 ?_
  refine vl_getR (h := 1) (k0 := 7) (h2 := 7) iu_X4 n1 s1 rfl (by decide) fk_X4_27 rfl dX4_alike_1 ?_
  refine vl_iload_n 1 rfl dX4_alike_4 ?_
  refine vl_aldc (h := 7) (n := 807) (ni := 807) n7 (by decide) s7 (by decide) rfl dX4_alike_5 hE (fun g1 g2 hE => ?_)
  refine vl_aload_n 0 rfl dX4_alike_6 ?_
  refine vl_getR (h := 1) (k0 := 7) (h2 := 7) iu_X4 n1 s1 rfl (by decide) fk_X4_27 rfl dX4_alike_7 ?_
  refine vl_iload_n 2 rfl dX4_alike_10 ?_
  refine vl_aldc (h := 7) (n := 807) (ni := 807) n7 (by decide) s7 (by decide) rfl dX4_alike_11 hE (fun g3 g4 hE => ?_)
  obtain ⟨g5, hE⟩ := vl_ok_gd hE
  obtain ⟨g6, hE⟩ := vl_ok_gd hE
  refine vl_icmp_ne (tgt := 28) dX4_alike_12 (by decide) g5 g6 hE (fun c10 hE => ?_) (fun c10 hE => ?_)
  · refine vl_iconst dX4_alike_28 ?_
    exact vl_ret (r := 0) rfl ⟨dX4_alike_29, by decide⟩ hE (hP' (0))
  · refine vl_aload_n 0 rfl dX4_alike_15 ?_
    refine vl_iload_n 1 rfl dX4_alike_16 ?_
    refine vl_iload_n 2 rfl dX4_alike_17 ?_
    refine vl_VpI (K' := kX4_sameRectangle) (d' := 0) (h := 1) (As := [vl_iv a1, vl_iv a2]) (st := []) lk_X4_87 (fun _ => rfl) (by omega) n1 s1 rfl rfl (Nat.le_of_ble_eq_true rfl) rfl (Nat.le_of_ble_eq_true rfl) dX4_alike_18 hE (fun _ h => vx_X4_sameRectangle hG (Nat.le_refl _) h) (fun b7 hE => ?_)
    obtain ⟨g8, hE⟩ := vl_ok_gd hE
    refine vl_if_eq (tgt := 28) dX4_alike_21 (by decide) g8  hE (fun c9 hE => ?_) (fun c9 hE => ?_)
    · refine vl_iconst dX4_alike_28 ?_
      exact vl_ret (r := 0) rfl ⟨dX4_alike_29, by decide⟩ hE (hP' (0))
    · refine vl_iconst dX4_alike_24 ?_
      refine vl_goto (tgt := 29) dX4_alike_25 (by decide) ?_
      exact vl_ret (r := 1) rfl ⟨dX4_alike_29, by decide⟩ hE (hP' (1))
set_option maxRecDepth 100000 in
set_option maxHeartbeats 4000000 in
theorem vx_X4_attachAt {nc : Nat} {S : vl_Sh} {sc : Nat × (Nat → Int32)} {w : Nat} (hG : vl_G1 nc S w) {N : Nat} {d : Nat} (hd : 1 ≤ d) {Post : Int → vl_M → vl_M → Prop} {m ρ : vl_M} {a1 a2 a3 : Int} (hE : vl_ok (fun b : vl_M => Post 0 b ρ) (fn_X4_attachAt w N m a1 a2 a3)) : vl_V nc S sc kX4_attachAt d Post 0 [(0, .ref 1), (1, vl_iv a1), (2, vl_iv a2), (3, vl_iv a3)] [] m ρ := by
  generalize hP : (fun b : vl_M => Post 0 b ρ) = P at hE
  have hP' : ∀ b : vl_M, P b → Post 0 b ρ := fun b h => by rw [← hP] at h; exact h
  clear hP
  have s1 : S 1 = .inr (4, [0, 0, 5, 6, 7, 8, 9, 10, 11, 12, 0, 13, 0, 0, 0, 0, 0]) := hG.2.1 1 (by decide) (by decide)
  have n1 : 1 < nc := Nat.lt_of_lt_of_le (by decide) hG.1
  have s8 : S 8 = .inl 807 := hG.2.1 8 (by decide) (by decide)
  have n8 : 8 < nc := Nat.lt_of_lt_of_le (by decide) hG.1
  have s9 : S 9 = .inl 807 := hG.2.1 9 (by decide) (by decide)
  have n9 : 9 < nc := Nat.lt_of_lt_of_le (by decide) hG.1
  unfold fn_X4_attachAt at hE
  refine vl_aload_n 0 rfl dX4_attachAt_0 ?_
  refine vl_getR (h := 1) (k0 := 9) (h2 := 9) iu_X4 n1 s1 rfl (by decide) fk_X4_33 rfl dX4_attachAt_1 ?_
  refine vl_iload_n 1 rfl dX4_attachAt_4 ?_
  refine vl_aldc (h := 9) (n := 807) (ni := 807) n9 (by decide) s9 (by decide) rfl dX4_attachAt_5 hE (fun g1 g2 hE => ?_)
  refine vl_istore (fun v3 => [(4, vl_iv v3), (0, .ref 1), (1, vl_iv a1), (2, vl_iv a2), (3, vl_iv a3)]) dX4_attachAt_6 (by decide) (fun _ => rfl) hE (fun v3 hE => ?_)
  refine vl_lpr (F := fun κ : Int → vl_M → Option (vl_M) => fn_X4_attachAt_L8 w N a1 a2 a3 κ N v3 m) (J := fun κ => ∀ (v6 : Int) (m7 : vl_M), vl_ok P (κ v6 m7) → vl_V nc S sc kX4_attachAt d Post 36 [(0, .ref 1), (1, vl_iv a1), (2, vl_iv a2), (3, vl_iv a3)] [] m7 ρ) ?_ hE (fun κ hκL85 hE => ?_)
  · intro v6 m7 hE
    refine vl_aload_n 0 rfl dX4_attachAt_36 ?_
    refine vl_iload_n 1 rfl dX4_attachAt_37 ?_
    refine vl_iload_n 2 rfl dX4_attachAt_38 ?_
    refine vl_iload_n 3 rfl dX4_attachAt_39 ?_
    refine vl_VcWV (K' := kX4_placeAt) (d' := 0) (h := 1) (As := [vl_iv a1, vl_iv a2, vl_iv a3]) (st := []) lk_X4_119 (fun _ => rfl) (by omega) n1 s1 rfl rfl (Nat.le_of_ble_eq_true rfl) rfl (Nat.le_of_ble_eq_true rfl) dX4_attachAt_40 hE (fun _ h => vx_X4_placeAt hG (Nat.le_refl _) h) (fun m9 hE => ?_)
    refine vl_aload_n 0 rfl dX4_attachAt_43 ?_
    refine vl_getR (h := 1) (k0 := 9) (h2 := 9) iu_X4 n1 s1 rfl (by decide) fk_X4_33 rfl dX4_attachAt_44 ?_
    refine vl_iload_n 1 rfl dX4_attachAt_47 ?_
    refine vl_dup2 rfl rfl dX4_attachAt_48 ?_
    refine vl_aldc1 (h := 9) (n := 807) (ni := 807) n9 (by decide) s9 (by decide) rfl g1 dX4_attachAt_49 ?_
    refine vl_iconst dX4_attachAt_50 ?_
    refine vl_iadd dX4_attachAt_51 ?_
    refine vl_astc1 (h := 9) (n := 807) (ni := 807) n9 (by decide) s9 (by decide) rfl g1 dX4_attachAt_52 hE (fun m10 hE => ?_)
    refine vl_aload_n 0 rfl dX4_attachAt_53 ?_
    refine vl_getR (h := 1) (k0 := 8) (h2 := 8) iu_X4 n1 s1 rfl (by decide) fk_X4_30 rfl dX4_attachAt_54 ?_
    refine vl_iload_n 3 rfl dX4_attachAt_57 ?_
    refine vl_iload_n 1 rfl dX4_attachAt_58 ?_
    refine vl_astc (h := 8) (n := 807) (ni := 807) n8 (by decide) s8 (by decide) rfl dX4_attachAt_59 hE (fun g12 g13 m11 hE => ?_)
    exact vl_ret (r := 0) rfl dX4_attachAt_60 hE (hP' m11)
  have hL8_ : ∀ (n : Nat) (v4 : Int) (m5 : vl_M), vl_ok P (fn_X4_attachAt_L8 w N a1 a2 a3 κ n v4 m5) → vl_V nc S sc kX4_attachAt d Post 8 [(0, .ref 1), (1, vl_iv a1), (2, vl_iv a2), (3, vl_iv a3), (4, vl_iv v4)] [] m5 ρ := by
    intro n
    induction n with
    | zero => intro v4 m5 hE; exact vl_no hE
    | succ n ih8_ =>
      intro v4 m5 hE
      rw [fn_X4_attachAt_L8] at hE
      refine vl_iload 4 rfl dX4_attachAt_8 ?_
      refine vl_iload_n 2 rfl dX4_attachAt_10 ?_
      obtain ⟨g14, hE⟩ := vl_ok_gd hE
      obtain ⟨g15, hE⟩ := vl_ok_gd hE
      refine vl_icmp_le (tgt := 36) dX4_attachAt_11 (by decide) g14 g15 hE (fun c20 hE => ?_) (fun c20 hE => ?_)
      · exact vl_wk [0, 1, 2, 3] rfl (hκL85 v4 m5 hE)
      · refine vl_aload_n 0 rfl dX4_attachAt_14 ?_
        refine vl_iload_n 1 rfl dX4_attachAt_15 ?_
        refine vl_iload 4 rfl dX4_attachAt_16 ?_
        refine vl_aload_n 0 rfl dX4_attachAt_18 ?_
        refine vl_iload_n 1 rfl dX4_attachAt_19 ?_
        refine vl_iload 4 rfl dX4_attachAt_20 ?_
        refine vl_iconst dX4_attachAt_22 ?_
        refine vl_isub dX4_attachAt_23 ?_
        refine vl_VpI (K' := kX4_thingAt) (d' := 0) (h := 1) (As := [vl_iv a1, vl_iv (v4 - 1)]) (st := [vl_iv v4, vl_iv a1, .ref 1]) lk_X4_106 (fun _ => rfl) (by omega) n1 s1 rfl rfl (Nat.le_of_ble_eq_true rfl) rfl (Nat.le_of_ble_eq_true rfl) dX4_attachAt_24 hE (fun _ h => vx_X4_thingAt hG (Nat.le_refl _) h) (fun b16 hE => ?_)
        refine vl_VcWV (K' := kX4_placeAt) (d' := 0) (h := 1) (As := [vl_iv a1, vl_iv v4, vl_iv b16]) (st := []) lk_X4_119 (fun _ => rfl) (by omega) n1 s1 rfl rfl (Nat.le_of_ble_eq_true rfl) rfl (Nat.le_of_ble_eq_true rfl) dX4_attachAt_27 hE (fun _ h => vx_X4_placeAt hG (Nat.le_refl _) h) (fun m18 hE => ?_)
        refine vl_iinc 4 (fun v19 => [(4, vl_iv v19), (0, .ref 1), (1, vl_iv a1), (2, vl_iv a2), (3, vl_iv a3)]) dX4_attachAt_30 rfl (by decide) (fun _ => rfl) hE (fun v19 hE => ?_)
        refine vl_goto (tgt := 8) dX4_attachAt_33 (by decide) ?_
        exact vl_wk [1, 2, 3, 4, 0] rfl (ih8_ v19 m18 hE)
  exact vl_wk [1, 2, 3, 4, 0] rfl (hL8_ N v3 m hE)
set_option maxRecDepth 100000 in
set_option maxHeartbeats 4000000 in
theorem vx_X4_compareNames {nc : Nat} {S : vl_Sh} {sc : Nat × (Nat → Int32)} {w : Nat} (hG : vl_G1 nc S w) {d : Nat} (hd : 1 ≤ d) {Post : Int → vl_M → vl_M → Prop} {m ρ : vl_M} {a1 a2 : Int} (hE : vl_ok (fun r : Int => Post r m ρ) (fn_X4_compareNames m a1 a2)) : vl_V nc S sc kX4_compareNames d Post 0 [(0, .ref 1), (1, vl_iv a1), (2, vl_iv a2)] [] m ρ := by
  generalize hP : (fun r : Int => Post r m ρ) = P at hE
  have hP' : ∀ r : Int, P r → Post r m ρ := fun b h => by rw [← hP] at h; exact h
  clear hP
  have s1 : S 1 = .inr (4, [0, 0, 5, 6, 7, 8, 9, 10, 11, 12, 0, 13, 0, 0, 0, 0, 0]) := hG.2.1 1 (by decide) (by decide)
  have n1 : 1 < nc := Nat.lt_of_lt_of_le (by decide) hG.1
  have s3 : S 3 = .inl 807 := hG.2.1 3 (by decide) (by decide)
  have n3 : 3 < nc := Nat.lt_of_lt_of_le (by decide) hG.1
  have s4 : S 4 = .inl 807 := hG.2.1 4 (by decide) (by decide)
  have n4 : 4 < nc := Nat.lt_of_lt_of_le (by decide) hG.1
  have s5 : S 5 = .inl 807 := hG.2.1 5 (by decide) (by decide)
  have n5 : 5 < nc := Nat.lt_of_lt_of_le (by decide) hG.1
  have s6 : S 6 = .inl 807 := hG.2.1 6 (by decide) (by decide)
  have n6 : 6 < nc := Nat.lt_of_lt_of_le (by decide) hG.1
  have s7 : S 7 = .inl 807 := hG.2.1 7 (by decide) (by decide)
  have n7 : 7 < nc := Nat.lt_of_lt_of_le (by decide) hG.1
  unfold fn_X4_compareNames at hE
  refine vl_aload_n 0 rfl dX4_compareNames_0 ?_
  refine vl_getR (h := 1) (k0 := 7) (h2 := 7) iu_X4 n1 s1 rfl (by decide) fk_X4_27 rfl dX4_compareNames_1 ?_
  refine vl_iload_n 1 rfl dX4_compareNames_4 ?_
  refine vl_aldc (h := 7) (n := 807) (ni := 807) n7 (by decide) s7 (by decide) rfl dX4_compareNames_5 hE (fun g1 g2 hE => ?_)
  refine vl_aload_n 0 rfl dX4_compareNames_6 ?_
  refine vl_getR (h := 1) (k0 := 7) (h2 := 7) iu_X4 n1 s1 rfl (by decide) fk_X4_27 rfl dX4_compareNames_7 ?_
  refine vl_iload_n 2 rfl dX4_compareNames_10 ?_
  refine vl_aldc (h := 7) (n := 807) (ni := 807) n7 (by decide) s7 (by decide) rfl dX4_compareNames_11 hE (fun g3 g4 hE => ?_)
  obtain ⟨g5, hE⟩ := vl_ok_gd hE
  obtain ⟨g6, hE⟩ := vl_ok_gd hE
  refine vl_icmp_eq (tgt := 31) dX4_compareNames_12 (by decide) g5 g6 hE (fun c21 hE => ?_) (fun c21 hE => ?_)
  · refine vl_aload_n 0 rfl dX4_compareNames_31 ?_
    refine vl_getR (h := 1) (k0 := 3) (h2 := 3) iu_X4 n1 s1 rfl (by decide) fk_X4_15 rfl dX4_compareNames_32 ?_
    refine vl_iload_n 1 rfl dX4_compareNames_35 ?_
    refine vl_aldc1 (h := 3) (n := 807) (ni := 807) n3 (by decide) s3 (by decide) rfl g1 dX4_compareNames_36 ?_
    refine vl_aload_n 0 rfl dX4_compareNames_37 ?_
    refine vl_getR (h := 1) (k0 := 3) (h2 := 3) iu_X4 n1 s1 rfl (by decide) fk_X4_15 rfl dX4_compareNames_38 ?_
    refine vl_iload_n 2 rfl dX4_compareNames_41 ?_
    refine vl_aldc1 (h := 3) (n := 807) (ni := 807) n3 (by decide) s3 (by decide) rfl g3 dX4_compareNames_42 ?_
    obtain ⟨g7, hE⟩ := vl_ok_gd hE
    obtain ⟨g8, hE⟩ := vl_ok_gd hE
    refine vl_icmp_eq (tgt := 62) dX4_compareNames_43 (by decide) g7 g8 hE (fun c19 hE => ?_) (fun c19 hE => ?_)
    · refine vl_aload_n 0 rfl dX4_compareNames_62 ?_
      refine vl_getR (h := 1) (k0 := 4) (h2 := 4) iu_X4 n1 s1 rfl (by decide) fk_X4_18 rfl dX4_compareNames_63 ?_
      refine vl_iload_n 1 rfl dX4_compareNames_66 ?_
      refine vl_aldc1 (h := 4) (n := 807) (ni := 807) n4 (by decide) s4 (by decide) rfl g1 dX4_compareNames_67 ?_
      refine vl_aload_n 0 rfl dX4_compareNames_68 ?_
      refine vl_getR (h := 1) (k0 := 4) (h2 := 4) iu_X4 n1 s1 rfl (by decide) fk_X4_18 rfl dX4_compareNames_69 ?_
      refine vl_iload_n 2 rfl dX4_compareNames_72 ?_
      refine vl_aldc1 (h := 4) (n := 807) (ni := 807) n4 (by decide) s4 (by decide) rfl g3 dX4_compareNames_73 ?_
      obtain ⟨g9, hE⟩ := vl_ok_gd hE
      obtain ⟨g10, hE⟩ := vl_ok_gd hE
      refine vl_icmp_eq (tgt := 93) dX4_compareNames_74 (by decide) g9 g10 hE (fun c17 hE => ?_) (fun c17 hE => ?_)
      · refine vl_aload_n 0 rfl dX4_compareNames_93 ?_
        refine vl_getR (h := 1) (k0 := 5) (h2 := 5) iu_X4 n1 s1 rfl (by decide) fk_X4_21 rfl dX4_compareNames_94 ?_
        refine vl_iload_n 1 rfl dX4_compareNames_97 ?_
        refine vl_aldc1 (h := 5) (n := 807) (ni := 807) n5 (by decide) s5 (by decide) rfl g1 dX4_compareNames_98 ?_
        refine vl_aload_n 0 rfl dX4_compareNames_99 ?_
        refine vl_getR (h := 1) (k0 := 5) (h2 := 5) iu_X4 n1 s1 rfl (by decide) fk_X4_21 rfl dX4_compareNames_100 ?_
        refine vl_iload_n 2 rfl dX4_compareNames_103 ?_
        refine vl_aldc1 (h := 5) (n := 807) (ni := 807) n5 (by decide) s5 (by decide) rfl g3 dX4_compareNames_104 ?_
        obtain ⟨g11, hE⟩ := vl_ok_gd hE
        obtain ⟨g12, hE⟩ := vl_ok_gd hE
        refine vl_icmp_eq (tgt := 124) dX4_compareNames_105 (by decide) g11 g12 hE (fun c15 hE => ?_) (fun c15 hE => ?_)
        · refine vl_aload_n 0 rfl dX4_compareNames_124 ?_
          refine vl_getR (h := 1) (k0 := 6) (h2 := 6) iu_X4 n1 s1 rfl (by decide) fk_X4_24 rfl dX4_compareNames_125 ?_
          refine vl_iload_n 1 rfl dX4_compareNames_128 ?_
          refine vl_aldc1 (h := 6) (n := 807) (ni := 807) n6 (by decide) s6 (by decide) rfl g1 dX4_compareNames_129 ?_
          refine vl_aload_n 0 rfl dX4_compareNames_130 ?_
          refine vl_getR (h := 1) (k0 := 6) (h2 := 6) iu_X4 n1 s1 rfl (by decide) fk_X4_24 rfl dX4_compareNames_131 ?_
          refine vl_iload_n 2 rfl dX4_compareNames_134 ?_
          refine vl_aldc1 (h := 6) (n := 807) (ni := 807) n6 (by decide) s6 (by decide) rfl g3 dX4_compareNames_135 ?_
          refine vl_SpI (K' := kJ6_compare_7cf53) (d' := 0) (As := [vl_iv (m 6 a1), vl_iv (m 6 a2)]) (st := []) lk_X4_91 (fun _ => rfl) (by omega) rfl (Nat.le_of_ble_eq_true rfl) rfl (Nat.le_of_ble_eq_true rfl) dX4_compareNames_136 hE (fun _ h => vx_J6_compare_7cf53  (Nat.le_refl _) h) (fun b13 hE => ?_)
          exact vl_ret (r := b13) rfl dX4_compareNames_139 hE (hP' (b13))
        · refine vl_aload_n 0 rfl dX4_compareNames_108 ?_
          refine vl_getR (h := 1) (k0 := 5) (h2 := 5) iu_X4 n1 s1 rfl (by decide) fk_X4_21 rfl dX4_compareNames_109 ?_
          refine vl_iload_n 1 rfl dX4_compareNames_112 ?_
          refine vl_aldc1 (h := 5) (n := 807) (ni := 807) n5 (by decide) s5 (by decide) rfl g1 dX4_compareNames_113 ?_
          refine vl_aload_n 0 rfl dX4_compareNames_114 ?_
          refine vl_getR (h := 1) (k0 := 5) (h2 := 5) iu_X4 n1 s1 rfl (by decide) fk_X4_21 rfl dX4_compareNames_115 ?_
          refine vl_iload_n 2 rfl dX4_compareNames_118 ?_
          refine vl_aldc1 (h := 5) (n := 807) (ni := 807) n5 (by decide) s5 (by decide) rfl g3 dX4_compareNames_119 ?_
          refine vl_SpI (K' := kJ6_compare_7cf53) (d' := 0) (As := [vl_iv (m 5 a1), vl_iv (m 5 a2)]) (st := []) lk_X4_91 (fun _ => rfl) (by omega) rfl (Nat.le_of_ble_eq_true rfl) rfl (Nat.le_of_ble_eq_true rfl) dX4_compareNames_120 hE (fun _ h => vx_J6_compare_7cf53  (Nat.le_refl _) h) (fun b14 hE => ?_)
          exact vl_ret (r := b14) rfl dX4_compareNames_123 hE (hP' (b14))
      · refine vl_aload_n 0 rfl dX4_compareNames_77 ?_
        refine vl_getR (h := 1) (k0 := 4) (h2 := 4) iu_X4 n1 s1 rfl (by decide) fk_X4_18 rfl dX4_compareNames_78 ?_
        refine vl_iload_n 1 rfl dX4_compareNames_81 ?_
        refine vl_aldc1 (h := 4) (n := 807) (ni := 807) n4 (by decide) s4 (by decide) rfl g1 dX4_compareNames_82 ?_
        refine vl_aload_n 0 rfl dX4_compareNames_83 ?_
        refine vl_getR (h := 1) (k0 := 4) (h2 := 4) iu_X4 n1 s1 rfl (by decide) fk_X4_18 rfl dX4_compareNames_84 ?_
        refine vl_iload_n 2 rfl dX4_compareNames_87 ?_
        refine vl_aldc1 (h := 4) (n := 807) (ni := 807) n4 (by decide) s4 (by decide) rfl g3 dX4_compareNames_88 ?_
        refine vl_SpI (K' := kJ6_compare_7cf53) (d' := 0) (As := [vl_iv (m 4 a1), vl_iv (m 4 a2)]) (st := []) lk_X4_91 (fun _ => rfl) (by omega) rfl (Nat.le_of_ble_eq_true rfl) rfl (Nat.le_of_ble_eq_true rfl) dX4_compareNames_89 hE (fun _ h => vx_J6_compare_7cf53  (Nat.le_refl _) h) (fun b16 hE => ?_)
        exact vl_ret (r := b16) rfl dX4_compareNames_92 hE (hP' (b16))
    · refine vl_aload_n 0 rfl dX4_compareNames_46 ?_
      refine vl_getR (h := 1) (k0 := 3) (h2 := 3) iu_X4 n1 s1 rfl (by decide) fk_X4_15 rfl dX4_compareNames_47 ?_
      refine vl_iload_n 1 rfl dX4_compareNames_50 ?_
      refine vl_aldc1 (h := 3) (n := 807) (ni := 807) n3 (by decide) s3 (by decide) rfl g1 dX4_compareNames_51 ?_
      refine vl_aload_n 0 rfl dX4_compareNames_52 ?_
      refine vl_getR (h := 1) (k0 := 3) (h2 := 3) iu_X4 n1 s1 rfl (by decide) fk_X4_15 rfl dX4_compareNames_53 ?_
      refine vl_iload_n 2 rfl dX4_compareNames_56 ?_
      refine vl_aldc1 (h := 3) (n := 807) (ni := 807) n3 (by decide) s3 (by decide) rfl g3 dX4_compareNames_57 ?_
      refine vl_SpI (K' := kJ6_compare_7cf53) (d' := 0) (As := [vl_iv (m 3 a1), vl_iv (m 3 a2)]) (st := []) lk_X4_91 (fun _ => rfl) (by omega) rfl (Nat.le_of_ble_eq_true rfl) rfl (Nat.le_of_ble_eq_true rfl) dX4_compareNames_58 hE (fun _ h => vx_J6_compare_7cf53  (Nat.le_refl _) h) (fun b18 hE => ?_)
      exact vl_ret (r := b18) rfl dX4_compareNames_61 hE (hP' (b18))
  · refine vl_aload_n 0 rfl dX4_compareNames_15 ?_
    refine vl_getR (h := 1) (k0 := 7) (h2 := 7) iu_X4 n1 s1 rfl (by decide) fk_X4_27 rfl dX4_compareNames_16 ?_
    refine vl_iload_n 1 rfl dX4_compareNames_19 ?_
    refine vl_aldc1 (h := 7) (n := 807) (ni := 807) n7 (by decide) s7 (by decide) rfl g1 dX4_compareNames_20 ?_
    refine vl_aload_n 0 rfl dX4_compareNames_21 ?_
    refine vl_getR (h := 1) (k0 := 7) (h2 := 7) iu_X4 n1 s1 rfl (by decide) fk_X4_27 rfl dX4_compareNames_22 ?_
    refine vl_iload_n 2 rfl dX4_compareNames_25 ?_
    refine vl_aldc1 (h := 7) (n := 807) (ni := 807) n7 (by decide) s7 (by decide) rfl g3 dX4_compareNames_26 ?_
    refine vl_SpI (K' := kJ6_compare_7cf53) (d' := 0) (As := [vl_iv (m 7 a1), vl_iv (m 7 a2)]) (st := []) lk_X4_91 (fun _ => rfl) (by omega) rfl (Nat.le_of_ble_eq_true rfl) rfl (Nat.le_of_ble_eq_true rfl) dX4_compareNames_27 hE (fun _ h => vx_J6_compare_7cf53  (Nat.le_refl _) h) (fun b20 hE => ?_)
    exact vl_ret (r := b20) rfl dX4_compareNames_30 hE (hP' (b20))
set_option maxRecDepth 100000 in
set_option maxHeartbeats 4000000 in
theorem vx_X4_cover {nc : Nat} {S : vl_Sh} {sc : Nat × (Nat → Int32)} {w : Nat} (hG : vl_G1 nc S w) {d : Nat} (hd : 1 ≤ d) {Post : Int → vl_M → vl_M → Prop} {m ρ : vl_M} {a1 a2 : Int} (hE : vl_ok (fun b : vl_M => Post 0 b ρ) (fn_X4_cover m a1 a2)) : vl_V nc S sc kX4_cover d Post 0 [(0, .ref 1), (1, vl_iv a1), (2, vl_iv a2)] [] m ρ := by
  generalize hP : (fun b : vl_M => Post 0 b ρ) = P at hE
  have hP' : ∀ b : vl_M, P b → Post 0 b ρ := fun b h => by rw [← hP] at h; exact h
  clear hP
  have s1 : S 1 = .inr (4, [0, 0, 5, 6, 7, 8, 9, 10, 11, 12, 0, 13, 0, 0, 0, 0, 0]) := hG.2.1 1 (by decide) (by decide)
  have n1 : 1 < nc := Nat.lt_of_lt_of_le (by decide) hG.1
  have s3 : S 3 = .inl 807 := hG.2.1 3 (by decide) (by decide)
  have n3 : 3 < nc := Nat.lt_of_lt_of_le (by decide) hG.1
  have s4 : S 4 = .inl 807 := hG.2.1 4 (by decide) (by decide)
  have n4 : 4 < nc := Nat.lt_of_lt_of_le (by decide) hG.1
  have s5 : S 5 = .inl 807 := hG.2.1 5 (by decide) (by decide)
  have n5 : 5 < nc := Nat.lt_of_lt_of_le (by decide) hG.1
  have s6 : S 6 = .inl 807 := hG.2.1 6 (by decide) (by decide)
  have n6 : 6 < nc := Nat.lt_of_lt_of_le (by decide) hG.1
  unfold fn_X4_cover at hE
  refine vl_aload_n 0 rfl dX4_cover_0 ?_
  refine vl_getR (h := 1) (k0 := 3) (h2 := 3) iu_X4 n1 s1 rfl (by decide) fk_X4_15 rfl dX4_cover_1 ?_
  refine vl_iload_n 1 rfl dX4_cover_4 ?_
  refine vl_aload_n 0 rfl dX4_cover_5 ?_
  refine vl_getR (h := 1) (k0 := 3) (h2 := 3) iu_X4 n1 s1 rfl (by decide) fk_X4_15 rfl dX4_cover_6 ?_
  refine vl_iload_n 1 rfl dX4_cover_9 ?_
  refine vl_aldc (h := 3) (n := 807) (ni := 807) n3 (by decide) s3 (by decide) rfl dX4_cover_10 hE (fun g1 g2 hE => ?_)
  refine vl_aload_n 0 rfl dX4_cover_11 ?_
  refine vl_getR (h := 1) (k0 := 3) (h2 := 3) iu_X4 n1 s1 rfl (by decide) fk_X4_15 rfl dX4_cover_12 ?_
  refine vl_iload_n 2 rfl dX4_cover_15 ?_
  refine vl_aldc (h := 3) (n := 807) (ni := 807) n3 (by decide) s3 (by decide) rfl dX4_cover_16 hE (fun g3 g4 hE => ?_)
  obtain ⟨g5, hE⟩ := vl_ok_gd hE
  obtain ⟨g6, hE⟩ := vl_ok_gd hE
  refine vl_mmin lk_X4_80 (by omega) g5 g6 (Nat.le_of_ble_eq_true rfl) dX4_cover_17 ?_
  refine vl_astc1 (h := 3) (n := 807) (ni := 807) n3 (by decide) s3 (by decide) rfl g1 dX4_cover_20 hE (fun m7 hE => ?_)
  refine vl_aload_n 0 rfl dX4_cover_21 ?_
  refine vl_getR (h := 1) (k0 := 4) (h2 := 4) iu_X4 n1 s1 rfl (by decide) fk_X4_18 rfl dX4_cover_22 ?_
  refine vl_iload_n 1 rfl dX4_cover_25 ?_
  refine vl_aload_n 0 rfl dX4_cover_26 ?_
  refine vl_getR (h := 1) (k0 := 4) (h2 := 4) iu_X4 n1 s1 rfl (by decide) fk_X4_18 rfl dX4_cover_27 ?_
  refine vl_iload_n 1 rfl dX4_cover_30 ?_
  refine vl_aldc1 (h := 4) (n := 807) (ni := 807) n4 (by decide) s4 (by decide) rfl g1 dX4_cover_31 ?_
  refine vl_aload_n 0 rfl dX4_cover_32 ?_
  refine vl_getR (h := 1) (k0 := 4) (h2 := 4) iu_X4 n1 s1 rfl (by decide) fk_X4_18 rfl dX4_cover_33 ?_
  refine vl_iload_n 2 rfl dX4_cover_36 ?_
  refine vl_aldc1 (h := 4) (n := 807) (ni := 807) n4 (by decide) s4 (by decide) rfl g3 dX4_cover_37 ?_
  obtain ⟨g8, hE⟩ := vl_ok_gd hE
  obtain ⟨g9, hE⟩ := vl_ok_gd hE
  refine vl_mmin lk_X4_80 (by omega) g8 g9 (Nat.le_of_ble_eq_true rfl) dX4_cover_38 ?_
  refine vl_astc1 (h := 4) (n := 807) (ni := 807) n4 (by decide) s4 (by decide) rfl g1 dX4_cover_41 hE (fun m10 hE => ?_)
  refine vl_aload_n 0 rfl dX4_cover_42 ?_
  refine vl_getR (h := 1) (k0 := 5) (h2 := 5) iu_X4 n1 s1 rfl (by decide) fk_X4_21 rfl dX4_cover_43 ?_
  refine vl_iload_n 1 rfl dX4_cover_46 ?_
  refine vl_aload_n 0 rfl dX4_cover_47 ?_
  refine vl_getR (h := 1) (k0 := 5) (h2 := 5) iu_X4 n1 s1 rfl (by decide) fk_X4_21 rfl dX4_cover_48 ?_
  refine vl_iload_n 1 rfl dX4_cover_51 ?_
  refine vl_aldc1 (h := 5) (n := 807) (ni := 807) n5 (by decide) s5 (by decide) rfl g1 dX4_cover_52 ?_
  refine vl_aload_n 0 rfl dX4_cover_53 ?_
  refine vl_getR (h := 1) (k0 := 5) (h2 := 5) iu_X4 n1 s1 rfl (by decide) fk_X4_21 rfl dX4_cover_54 ?_
  refine vl_iload_n 2 rfl dX4_cover_57 ?_
  refine vl_aldc1 (h := 5) (n := 807) (ni := 807) n5 (by decide) s5 (by decide) rfl g3 dX4_cover_58 ?_
  obtain ⟨g11, hE⟩ := vl_ok_gd hE
  obtain ⟨g12, hE⟩ := vl_ok_gd hE
  refine vl_mmax lk_X4_74 (by omega) g11 g12 (Nat.le_of_ble_eq_true rfl) dX4_cover_59 ?_
  refine vl_astc1 (h := 5) (n := 807) (ni := 807) n5 (by decide) s5 (by decide) rfl g1 dX4_cover_62 hE (fun m13 hE => ?_)
  refine vl_aload_n 0 rfl dX4_cover_63 ?_
  refine vl_getR (h := 1) (k0 := 6) (h2 := 6) iu_X4 n1 s1 rfl (by decide) fk_X4_24 rfl dX4_cover_64 ?_
  refine vl_iload_n 1 rfl dX4_cover_67 ?_
  refine vl_aload_n 0 rfl dX4_cover_68 ?_
  refine vl_getR (h := 1) (k0 := 6) (h2 := 6) iu_X4 n1 s1 rfl (by decide) fk_X4_24 rfl dX4_cover_69 ?_
  refine vl_iload_n 1 rfl dX4_cover_72 ?_
  refine vl_aldc1 (h := 6) (n := 807) (ni := 807) n6 (by decide) s6 (by decide) rfl g1 dX4_cover_73 ?_
  refine vl_aload_n 0 rfl dX4_cover_74 ?_
  refine vl_getR (h := 1) (k0 := 6) (h2 := 6) iu_X4 n1 s1 rfl (by decide) fk_X4_24 rfl dX4_cover_75 ?_
  refine vl_iload_n 2 rfl dX4_cover_78 ?_
  refine vl_aldc1 (h := 6) (n := 807) (ni := 807) n6 (by decide) s6 (by decide) rfl g3 dX4_cover_79 ?_
  obtain ⟨g14, hE⟩ := vl_ok_gd hE
  obtain ⟨g15, hE⟩ := vl_ok_gd hE
  refine vl_mmax lk_X4_74 (by omega) g14 g15 (Nat.le_of_ble_eq_true rfl) dX4_cover_80 ?_
  refine vl_astc1 (h := 6) (n := 807) (ni := 807) n6 (by decide) s6 (by decide) rfl g1 dX4_cover_83 hE (fun m16 hE => ?_)
  exact vl_ret (r := 0) rfl dX4_cover_84 hE (hP' m16)
set_option maxRecDepth 100000 in
set_option maxHeartbeats 4000000 in
theorem vx_X4_entriesMeeting {nc : Nat} {S : vl_Sh} {sc : Nat × (Nat → Int32)} {w : Nat} (hG : vl_G1 nc S w) {N : Nat} {d : Nat} (hd : 1 ≤ d) {Post : Int → vl_M → vl_M → Prop} {m ρ : vl_M} {a1 a2 : Int} (hE : vl_ok (fun r : Int => Post r m ρ) (fn_X4_entriesMeeting N m a1 a2)) : vl_V nc S sc kX4_entriesMeeting d Post 0 [(0, .ref 1), (1, vl_iv a1), (2, vl_iv a2)] [] m ρ := by
  generalize hP : (fun r : Int => Post r m ρ) = P at hE
  have hP' : ∀ r : Int, P r → Post r m ρ := fun b h => by rw [← hP] at h; exact h
  clear hP
  have s1 : S 1 = .inr (4, [0, 0, 5, 6, 7, 8, 9, 10, 11, 12, 0, 13, 0, 0, 0, 0, 0]) := hG.2.1 1 (by decide) (by decide)
  have n1 : 1 < nc := Nat.lt_of_lt_of_le (by decide) hG.1
  unfold fn_X4_entriesMeeting at hE
  refine vl_iconst dX4_entriesMeeting_0 ?_
  refine vl_istore_n0 rfl (lv' := [(3, vl_iv 0), (0, .ref 1), (1, vl_iv a1), (2, vl_iv a2)]) dX4_entriesMeeting_1 (by decide) rfl ?_
  refine vl_iload_n 3 rfl dX4_entriesMeeting_2 ?_
  refine vl_istore0 (lv' := [(4, vl_iv a2), (3, vl_iv 0), (0, .ref 1), (1, vl_iv a1), (2, vl_iv a2)]) dX4_entriesMeeting_3 (by decide) rfl ?_
  refine vl_lpr (F := fun κ : Int → Int → Option (Int) => fn_X4_entriesMeeting_L5 N m a1 κ N 0 a2) (J := fun κ => ∀ (v3 : Int) (v4 : Int), vl_ok P (κ v3 v4) → vl_V nc S sc kX4_entriesMeeting d Post 42 [(3, vl_iv v3)] [] m ρ) ?_ hE (fun κ hκL52 hE => ?_)
  · intro v3 v4 hE
    refine vl_iload_n 0 rfl dX4_entriesMeeting_42 ?_
    exact vl_ret (r := v3) rfl dX4_entriesMeeting_43 hE (hP' (v3))
  have hL5_ : ∀ (n : Nat) (v1 : Int) (v2 : Int), vl_ok P (fn_X4_entriesMeeting_L5 N m a1 κ n v1 v2) → vl_V nc S sc kX4_entriesMeeting d Post 5 [(0, .ref 1), (1, vl_iv a1), (3, vl_iv v1), (4, vl_iv v2)] [] m ρ := by
    intro n
    induction n with
    | zero => intro v1 v2 hE; exact vl_no hE
    | succ n ih5_ =>
      intro v1 v2 hE
      rw [fn_X4_entriesMeeting_L5] at hE
      refine vl_iload 3 rfl dX4_entriesMeeting_5 ?_
      refine vl_aload_n 0 rfl dX4_entriesMeeting_7 ?_
      refine vl_getIc (h := 1) (k0 := 13) (ki := 13) iu_X4 n1 (by decide) s1 rfl (by decide) fk_X4_58 rfl rfl dX4_entriesMeeting_8 ?_
      obtain ⟨g5, hE⟩ := vl_ok_gd hE
      obtain ⟨g6, hE⟩ := vl_ok_gd hE
      refine vl_icmp_ge (tgt := 42) dX4_entriesMeeting_11 (by decide) g5 g6 hE (fun c17 hE => ?_) (fun c17 hE => ?_)
      · exact vl_wk [2] rfl (hκL52 v1 v2 hE)
      · refine vl_aload_n 0 rfl dX4_entriesMeeting_14 ?_
        refine vl_iload 3 rfl dX4_entriesMeeting_15 ?_
        refine vl_VpI (K' := kX4_isEntry) (d' := 0) (h := 1) (As := [vl_iv v2]) (st := []) lk_X4_96 (fun _ => rfl) (by omega) n1 s1 rfl rfl (Nat.le_of_ble_eq_true rfl) rfl (Nat.le_of_ble_eq_true rfl) dX4_entriesMeeting_17 hE (fun _ h => vx_X4_isEntry hG (Nat.le_refl _) h) (fun b7 hE => ?_)
        obtain ⟨g8, hE⟩ := vl_ok_gd hE
        refine vl_jnr (J := fun κ : Int → Option (Int) => ∀ (v9 : Int), vl_ok P (κ v9) → vl_V nc S sc kX4_entriesMeeting d Post 36 [(0, .ref 1), (1, vl_iv a1), (3, vl_iv v9), (4, vl_iv v2)] [] m ρ) ?_ hE (fun κ10 hκ10 hE => ?_)
        · intro v9 hE
          refine vl_iinc 3 (fun v11 => [(4, vl_iv v11), (0, .ref 1), (1, vl_iv a1), (3, vl_iv v9)]) dX4_entriesMeeting_36 rfl (by decide) (fun _ => rfl) hE (fun v11 hE => ?_)
          refine vl_goto (tgt := 5) dX4_entriesMeeting_39 (by decide) ?_
          exact vl_wk [1, 2, 3, 0] rfl (ih5_ v9 v11 hE)
        refine vl_if_eq (tgt := 36) dX4_entriesMeeting_20 (by decide) g8  hE (fun c16 hE => ?_) (fun c16 hE => ?_)
        · exact (hκ10 v1 hE)
        · refine vl_aload_n 0 rfl dX4_entriesMeeting_23 ?_
          refine vl_iload 3 rfl dX4_entriesMeeting_24 ?_
          refine vl_iload_n 1 rfl dX4_entriesMeeting_26 ?_
          refine vl_VpI (K' := kX4_meet) (d' := 0) (h := 1) (As := [vl_iv v2, vl_iv a1]) (st := []) lk_X4_103 (fun _ => rfl) (by omega) n1 s1 rfl rfl (Nat.le_of_ble_eq_true rfl) rfl (Nat.le_of_ble_eq_true rfl) dX4_entriesMeeting_27 hE (fun _ h => vx_X4_meet hG (Nat.le_refl _) h) (fun b12 hE => ?_)
          obtain ⟨g13, hE⟩ := vl_ok_gd hE
          refine vl_if_eq (tgt := 36) dX4_entriesMeeting_30 (by decide) g13  hE (fun c15 hE => ?_) (fun c15 hE => ?_)
          · exact (hκ10 v1 hE)
          · refine vl_iinc 2 (fun v14 => [(3, vl_iv v14), (0, .ref 1), (1, vl_iv a1), (4, vl_iv v2)]) dX4_entriesMeeting_33 rfl (by decide) (fun _ => rfl) hE (fun v14 hE => ?_)
            exact vl_wk [1, 2, 0, 3] rfl (hκ10 v14 hE)
  exact vl_wk [2, 3, 1, 0] rfl (hL5_ N 0 a2 hE)
set_option maxRecDepth 100000 in
set_option maxHeartbeats 4000000 in
theorem vx_X4_growth {nc : Nat} {S : vl_Sh} {sc : Nat × (Nat → Int32)} {w : Nat} (hG : vl_G1 nc S w) {d : Nat} (hd : 1 ≤ d) {Post : Int → vl_M → vl_M → Prop} {m ρ : vl_M} {a1 a2 : Int} (hE : vl_ok (fun r : Int => Post r m ρ) (fn_X4_growth m a1 a2)) : vl_V nc S sc kX4_growth d Post 0 [(0, .ref 1), (1, vl_iv a1), (2, vl_iv a2)] [] m ρ := by
  generalize hP : (fun r : Int => Post r m ρ) = P at hE
  have hP' : ∀ r : Int, P r → Post r m ρ := fun b h => by rw [← hP] at h; exact h
  clear hP
  have s1 : S 1 = .inr (4, [0, 0, 5, 6, 7, 8, 9, 10, 11, 12, 0, 13, 0, 0, 0, 0, 0]) := hG.2.1 1 (by decide) (by decide)
  have n1 : 1 < nc := Nat.lt_of_lt_of_le (by decide) hG.1
  have s3 : S 3 = .inl 807 := hG.2.1 3 (by decide) (by decide)
  have n3 : 3 < nc := Nat.lt_of_lt_of_le (by decide) hG.1
  have s4 : S 4 = .inl 807 := hG.2.1 4 (by decide) (by decide)
  have n4 : 4 < nc := Nat.lt_of_lt_of_le (by decide) hG.1
  have s5 : S 5 = .inl 807 := hG.2.1 5 (by decide) (by decide)
  have n5 : 5 < nc := Nat.lt_of_lt_of_le (by decide) hG.1
  have s6 : S 6 = .inl 807 := hG.2.1 6 (by decide) (by decide)
  have n6 : 6 < nc := Nat.lt_of_lt_of_le (by decide) hG.1
  unfold fn_X4_growth at hE
  refine vl_aload_n 0 rfl dX4_growth_0 ?_
  refine vl_getR (h := 1) (k0 := 5) (h2 := 5) iu_X4 n1 s1 rfl (by decide) fk_X4_21 rfl dX4_growth_1 ?_
  refine vl_iload_n 1 rfl dX4_growth_4 ?_
  refine vl_aldc (h := 5) (n := 807) (ni := 807) n5 (by decide) s5 (by decide) rfl dX4_growth_5 hE (fun g1 g2 hE => ?_)
  refine vl_aload_n 0 rfl dX4_growth_6 ?_
  refine vl_getR (h := 1) (k0 := 5) (h2 := 5) iu_X4 n1 s1 rfl (by decide) fk_X4_21 rfl dX4_growth_7 ?_
  refine vl_iload_n 2 rfl dX4_growth_10 ?_
  refine vl_aldc (h := 5) (n := 807) (ni := 807) n5 (by decide) s5 (by decide) rfl dX4_growth_11 hE (fun g3 g4 hE => ?_)
  obtain ⟨g5, hE⟩ := vl_ok_gd hE
  obtain ⟨g6, hE⟩ := vl_ok_gd hE
  refine vl_mmax lk_X4_74 (by omega) g5 g6 (Nat.le_of_ble_eq_true rfl) dX4_growth_12 ?_
  refine vl_aload_n 0 rfl dX4_growth_15 ?_
  refine vl_getR (h := 1) (k0 := 3) (h2 := 3) iu_X4 n1 s1 rfl (by decide) fk_X4_15 rfl dX4_growth_16 ?_
  refine vl_iload_n 1 rfl dX4_growth_19 ?_
  refine vl_aldc1 (h := 3) (n := 807) (ni := 807) n3 (by decide) s3 (by decide) rfl g1 dX4_growth_20 ?_
  refine vl_aload_n 0 rfl dX4_growth_21 ?_
  refine vl_getR (h := 1) (k0 := 3) (h2 := 3) iu_X4 n1 s1 rfl (by decide) fk_X4_15 rfl dX4_growth_22 ?_
  refine vl_iload_n 2 rfl dX4_growth_25 ?_
  refine vl_aldc1 (h := 3) (n := 807) (ni := 807) n3 (by decide) s3 (by decide) rfl g3 dX4_growth_26 ?_
  obtain ⟨g7, hE⟩ := vl_ok_gd hE
  obtain ⟨g8, hE⟩ := vl_ok_gd hE
  refine vl_mmin lk_X4_80 (by omega) g7 g8 (Nat.le_of_ble_eq_true rfl) dX4_growth_27 ?_
  refine vl_isub dX4_growth_30 ?_
  refine vl_iconst dX4_growth_31 ?_
  refine vl_iadd dX4_growth_32 ?_
  refine vl_istore_n rfl (fun v9 => [(3, vl_iv v9), (0, .ref 1), (1, vl_iv a1), (2, vl_iv a2)]) dX4_growth_33 (by decide) (fun _ => rfl) hE (fun v9 hE => ?_)
  refine vl_aload_n 1 rfl dX4_growth_34 ?_
  refine vl_getR (h := 1) (k0 := 6) (h2 := 6) iu_X4 n1 s1 rfl (by decide) fk_X4_24 rfl dX4_growth_35 ?_
  refine vl_iload_n 2 rfl dX4_growth_38 ?_
  refine vl_aldc1 (h := 6) (n := 807) (ni := 807) n6 (by decide) s6 (by decide) rfl g1 dX4_growth_39 ?_
  refine vl_aload_n 1 rfl dX4_growth_40 ?_
  refine vl_getR (h := 1) (k0 := 6) (h2 := 6) iu_X4 n1 s1 rfl (by decide) fk_X4_24 rfl dX4_growth_41 ?_
  refine vl_iload_n 3 rfl dX4_growth_44 ?_
  refine vl_aldc1 (h := 6) (n := 807) (ni := 807) n6 (by decide) s6 (by decide) rfl g3 dX4_growth_45 ?_
  obtain ⟨g10, hE⟩ := vl_ok_gd hE
  obtain ⟨g11, hE⟩ := vl_ok_gd hE
  refine vl_mmax lk_X4_74 (by omega) g10 g11 (Nat.le_of_ble_eq_true rfl) dX4_growth_46 ?_
  refine vl_aload_n 1 rfl dX4_growth_49 ?_
  refine vl_getR (h := 1) (k0 := 4) (h2 := 4) iu_X4 n1 s1 rfl (by decide) fk_X4_18 rfl dX4_growth_50 ?_
  refine vl_iload_n 2 rfl dX4_growth_53 ?_
  refine vl_aldc1 (h := 4) (n := 807) (ni := 807) n4 (by decide) s4 (by decide) rfl g1 dX4_growth_54 ?_
  refine vl_aload_n 1 rfl dX4_growth_55 ?_
  refine vl_getR (h := 1) (k0 := 4) (h2 := 4) iu_X4 n1 s1 rfl (by decide) fk_X4_18 rfl dX4_growth_56 ?_
  refine vl_iload_n 3 rfl dX4_growth_59 ?_
  refine vl_aldc1 (h := 4) (n := 807) (ni := 807) n4 (by decide) s4 (by decide) rfl g3 dX4_growth_60 ?_
  obtain ⟨g12, hE⟩ := vl_ok_gd hE
  obtain ⟨g13, hE⟩ := vl_ok_gd hE
  refine vl_mmin lk_X4_80 (by omega) g12 g13 (Nat.le_of_ble_eq_true rfl) dX4_growth_61 ?_
  refine vl_isub dX4_growth_64 ?_
  refine vl_iconst dX4_growth_65 ?_
  refine vl_iadd dX4_growth_66 ?_
  refine vl_istore (fun v14 => [(4, vl_iv v14), (3, vl_iv v9), (0, .ref 1), (1, vl_iv a1), (2, vl_iv a2)]) dX4_growth_67 (by decide) (fun _ => rfl) hE (fun v14 hE => ?_)
  refine vl_iload_n 1 rfl dX4_growth_69 ?_
  refine vl_iload 0 rfl dX4_growth_70 ?_
  refine vl_imul dX4_growth_72 ?_
  refine vl_aload_n 2 rfl dX4_growth_73 ?_
  refine vl_iload_n 3 rfl dX4_growth_74 ?_
  refine vl_VpI (K' := kX4_area) (d' := 0) (h := 1) (As := [vl_iv a1]) (st := [vl_iv (v9 * v14)]) lk_X4_83 (fun _ => rfl) (by omega) n1 s1 rfl rfl (Nat.le_of_ble_eq_true rfl) rfl (Nat.le_of_ble_eq_true rfl) dX4_growth_75 hE (fun _ h => vx_X4_area hG (Nat.le_refl _) h) (fun b15 hE => ?_)
  refine vl_isub dX4_growth_78 ?_
  exact vl_ret (r := ((v9 * v14) - b15)) rfl dX4_growth_79 hE (hP' ((v9 * v14) - b15))
set_option maxRecDepth 100000 in
set_option maxHeartbeats 4000000 in
theorem vx_X4_indexIn {nc : Nat} {S : vl_Sh} {sc : Nat × (Nat → Int32)} {w : Nat} (hG : vl_G1 nc S w) {N : Nat} {d : Nat} (hd : 1 ≤ d) {Post : Int → vl_M → vl_M → Prop} {m ρ : vl_M} {a1 a2 : Int} (hE : vl_ok (fun r : Int => Post r m ρ) (fn_X4_indexIn w N m a1 a2)) : vl_V nc S sc kX4_indexIn d Post 0 [(0, .ref 1), (1, vl_iv a1), (2, vl_iv a2)] [] m ρ := by
  generalize hP : (fun r : Int => Post r m ρ) = P at hE
  have hP' : ∀ r : Int, P r → Post r m ρ := fun b h => by rw [← hP] at h; exact h
  clear hP
  have s1 : S 1 = .inr (4, [0, 0, 5, 6, 7, 8, 9, 10, 11, 12, 0, 13, 0, 0, 0, 0, 0]) := hG.2.1 1 (by decide) (by decide)
  have n1 : 1 < nc := Nat.lt_of_lt_of_le (by decide) hG.1
  have s9 : S 9 = .inl 807 := hG.2.1 9 (by decide) (by decide)
  have n9 : 9 < nc := Nat.lt_of_lt_of_le (by decide) hG.1
  unfold fn_X4_indexIn at hE
  refine vl_iconst dX4_indexIn_0 ?_
  refine vl_istore_n0 rfl (lv' := [(3, vl_iv 0), (0, .ref 1), (1, vl_iv a1), (2, vl_iv a2)]) dX4_indexIn_1 (by decide) rfl ?_
  refine vl_lpr (F := fun κ : Int → Option (Int) => fn_X4_indexIn_L2 w N m a1 a2 κ N 0) (J := fun κ => ∀ (v2 : Int), vl_ok P (κ v2) → vl_V nc S sc kX4_indexIn d Post 28 [(3, vl_iv v2)] [] m ρ) ?_ hE (fun κ hκL21 hE => ?_)
  · intro v2 hE
    refine vl_iload_n 0 rfl dX4_indexIn_28 ?_
    exact vl_ret (r := v2) rfl dX4_indexIn_29 hE (hP' (v2))
  have hL2_ : ∀ (n : Nat) (v1 : Int), vl_ok P (fn_X4_indexIn_L2 w N m a1 a2 κ n v1) → vl_V nc S sc kX4_indexIn d Post 2 [(0, .ref 1), (1, vl_iv a1), (2, vl_iv a2), (3, vl_iv v1)] [] m ρ := by
    intro n
    induction n with
    | zero => intro v1 hE; exact vl_no hE
    | succ n ih2_ =>
      intro v1 hE
      rw [fn_X4_indexIn_L2] at hE
      refine vl_iload_n 3 rfl dX4_indexIn_2 ?_
      refine vl_aload_n 0 rfl dX4_indexIn_3 ?_
      refine vl_getR (h := 1) (k0 := 9) (h2 := 9) iu_X4 n1 s1 rfl (by decide) fk_X4_33 rfl dX4_indexIn_4 ?_
      refine vl_iload_n 1 rfl dX4_indexIn_7 ?_
      refine vl_aldc (h := 9) (n := 807) (ni := 807) n9 (by decide) s9 (by decide) rfl dX4_indexIn_8 hE (fun g3 g4 hE => ?_)
      obtain ⟨g5, hE⟩ := vl_ok_gd hE
      obtain ⟨g6, hE⟩ := vl_ok_gd hE
      refine vl_icmp_ge (tgt := 28) dX4_indexIn_9 (by decide) g5 g6 hE (fun c12 hE => ?_) (fun c12 hE => ?_)
      · exact vl_wk [3] rfl (hκL21 v1 hE)
      · refine vl_aload_n 0 rfl dX4_indexIn_12 ?_
        refine vl_iload_n 1 rfl dX4_indexIn_13 ?_
        refine vl_iload_n 3 rfl dX4_indexIn_14 ?_
        refine vl_VpI (K' := kX4_thingAt) (d' := 0) (h := 1) (As := [vl_iv a1, vl_iv v1]) (st := []) lk_X4_106 (fun _ => rfl) (by omega) n1 s1 rfl rfl (Nat.le_of_ble_eq_true rfl) rfl (Nat.le_of_ble_eq_true rfl) dX4_indexIn_15 hE (fun _ h => vx_X4_thingAt hG (Nat.le_refl _) h) (fun b7 hE => ?_)
        refine vl_iload_n 2 rfl dX4_indexIn_18 ?_
        obtain ⟨g8, hE⟩ := vl_ok_gd hE
        obtain ⟨g9, hE⟩ := vl_ok_gd hE
        refine vl_icmp_eq (tgt := 28) dX4_indexIn_19 (by decide) g8 g9 hE (fun c11 hE => ?_) (fun c11 hE => ?_)
        · exact vl_wk [3] rfl (hκL21 v1 hE)
        · refine vl_iinc 3 (fun v10 => [(3, vl_iv v10), (0, .ref 1), (1, vl_iv a1), (2, vl_iv a2)]) dX4_indexIn_22 rfl (by decide) (fun _ => rfl) hE (fun v10 hE => ?_)
          refine vl_goto (tgt := 2) dX4_indexIn_25 (by decide) ?_
          exact vl_wk [1, 2, 3, 0] rfl (ih2_ v10 hE)
  exact vl_wk [1, 2, 3, 0] rfl (hL2_ N 0 hE)
set_option maxRecDepth 100000 in
set_option maxHeartbeats 4000000 in
theorem vx_X4_newEntry {nc : Nat} {S : vl_Sh} {sc : Nat × (Nat → Int32)} {w : Nat} (hG : vl_G1 nc S w) {d : Nat} (hd : 1 ≤ d) {Post : Int → vl_M → vl_M → Prop} {m ρ : vl_M} {a1 : Int} (hE : vl_ok (fun b : Int × vl_M => Post b.1 b.2 ρ) (fn_X4_newEntry m a1)) : vl_V nc S sc kX4_newEntry d Post 0 [(0, .ref 1), (1, vl_iv a1)] [] m ρ := by
  generalize hP : (fun b : Int × vl_M => Post b.1 b.2 ρ) = P at hE
  have hP' : ∀ b : Int × vl_M, P b → Post b.1 b.2 ρ := fun b h => by rw [← hP] at h; exact h
  clear hP
  have s1 : S 1 = .inr (4, [0, 0, 5, 6, 7, 8, 9, 10, 11, 12, 0, 13, 0, 0, 0, 0, 0]) := hG.2.1 1 (by decide) (by decide)
  have n1 : 1 < nc := Nat.lt_of_lt_of_le (by decide) hG.1
  have s2 : S 2 = .inl 807 := hG.2.1 2 (by decide) (by decide)
  have n2 : 2 < nc := Nat.lt_of_lt_of_le (by decide) hG.1
  have s7 : S 7 = .inl 807 := hG.2.1 7 (by decide) (by decide)
  have n7 : 7 < nc := Nat.lt_of_lt_of_le (by decide) hG.1
  have s8 : S 8 = .inl 807 := hG.2.1 8 (by decide) (by decide)
  have n8 : 8 < nc := Nat.lt_of_lt_of_le (by decide) hG.1
  unfold fn_X4_newEntry at hE
  refine vl_aload_n 0 rfl dX4_newEntry_0 ?_
  refine vl_getIc (h := 1) (k0 := 14) (ki := 14) iu_X4 n1 (by decide) s1 rfl (by decide) fk_X4_61 rfl rfl dX4_newEntry_1 ?_
  refine vl_istore_n rfl (fun v1 => [(2, vl_iv v1), (0, .ref 1), (1, vl_iv a1)]) dX4_newEntry_4 (by decide) (fun _ => rfl) hE (fun v1 hE => ?_)
  refine vl_iload_n 0 rfl dX4_newEntry_5 ?_
  refine vl_iconst dX4_newEntry_6 ?_
  obtain ⟨g2, hE⟩ := vl_ok_gd hE
  refine vl_icmp_eq (tgt := 23) dX4_newEntry_7 (by decide) g2 (by decide) hE (fun c26 hE => ?_) (fun c26 hE => ?_)
  · refine vl_aload_n 1 rfl dX4_newEntry_23 ?_
    refine vl_getIc (h := 1) (k0 := 13) (ki := 13) iu_X4 n1 (by decide) s1 rfl (by decide) fk_X4_58 rfl rfl dX4_newEntry_24 ?_
    refine vl_sipush (by decide) dX4_newEntry_27 ?_
    obtain ⟨g3, hE⟩ := vl_ok_gd hE
    refine vl_icmp_ge (tgt := 48) dX4_newEntry_30 (by decide) g3 (by decide) hE (fun c15 hE => ?_) (fun c15 hE => ?_)
    · refine vl_sipush (by decide) dX4_newEntry_48 ?_
      exact vl_ret (r := 806) rfl dX4_newEntry_51 hE (hP' (806, m))
    · refine vl_aload_n 1 rfl dX4_newEntry_33 ?_
      refine vl_dup rfl dX4_newEntry_34 ?_
      refine vl_getIc (h := 1) (k0 := 13) (ki := 13) iu_X4 n1 (by decide) s1 rfl (by decide) fk_X4_58 rfl rfl dX4_newEntry_35 ?_
      refine vl_dup_x1 rfl rfl dX4_newEntry_38 ?_
      refine vl_iconst dX4_newEntry_39 ?_
      refine vl_iadd dX4_newEntry_40 ?_
      refine vl_putIc (h := 1) (k0 := 13) (ki := 13) iu_X4 tyX4_ok nmX4 n1 (by decide) s1 rfl (by decide) fk_X4_58 rfl rfl rfl (vl_nI _) dX4_newEntry_41 hE (fun m4 hE => ?_)
      refine vl_istore_n rfl (fun v5 => [(2, vl_iv v5), (0, .ref 1), (1, vl_iv a1)]) dX4_newEntry_44 (by decide) (fun _ => rfl) hE (fun v5 hE => ?_)
      refine vl_goto (tgt := 52) dX4_newEntry_45 (by decide) ?_
      refine vl_aload_n 1 rfl dX4_newEntry_52 ?_
      refine vl_dup rfl dX4_newEntry_53 ?_
      refine vl_getIc (h := 1) (k0 := 12) (ki := 12) iu_X4 n1 (by decide) s1 rfl (by decide) fk_X4_55 rfl rfl dX4_newEntry_54 ?_
      refine vl_iconst dX4_newEntry_57 ?_
      refine vl_iadd dX4_newEntry_58 ?_
      refine vl_putIc (h := 1) (k0 := 12) (ki := 12) iu_X4 tyX4_ok nmX4 n1 (by decide) s1 rfl (by decide) fk_X4_55 rfl rfl rfl (vl_nI _) dX4_newEntry_59 hE (fun m6 hE => ?_)
      refine vl_aload_n 1 rfl dX4_newEntry_62 ?_
      refine vl_getR (h := 1) (k0 := 2) (h2 := 2) iu_X4 n1 s1 rfl (by decide) fk_X4_9 rfl dX4_newEntry_63 ?_
      refine vl_iload_n 0 rfl dX4_newEntry_66 ?_
      refine vl_iconst dX4_newEntry_67 ?_
      refine vl_astc (h := 2) (n := 807) (ni := 807) n2 (by decide) s2 (by decide) rfl dX4_newEntry_68 hE (fun g8 g9 m7 hE => ?_)
      refine vl_aload_n 1 rfl dX4_newEntry_69 ?_
      refine vl_getR (h := 1) (k0 := 7) (h2 := 7) iu_X4 n1 s1 rfl (by decide) fk_X4_27 rfl dX4_newEntry_70 ?_
      refine vl_iload_n 0 rfl dX4_newEntry_73 ?_
      refine vl_aload_n 1 rfl dX4_newEntry_74 ?_
      refine vl_getR (h := 1) (k0 := 7) (h2 := 7) iu_X4 n1 s1 rfl (by decide) fk_X4_27 rfl dX4_newEntry_75 ?_
      refine vl_iload_n 2 rfl dX4_newEntry_78 ?_
      refine vl_aldc (h := 7) (n := 807) (ni := 807) n7 (by decide) s7 (by decide) rfl dX4_newEntry_79 hE (fun g10 g11 hE => ?_)
      refine vl_astc1 (h := 7) (n := 807) (ni := 807) n7 (by decide) s7 (by decide) rfl g8 dX4_newEntry_80 hE (fun m12 hE => ?_)
      refine vl_aload_n 1 rfl dX4_newEntry_81 ?_
      refine vl_iload_n 2 rfl dX4_newEntry_82 ?_
      refine vl_iload_n 0 rfl dX4_newEntry_83 ?_
      refine vl_VcWV (K' := kX4_copyRectangle) (d' := 0) (h := 1) (As := [vl_iv a1, vl_iv v5]) (st := []) lk_X4_70 (fun _ => rfl) (by omega) n1 s1 rfl rfl (Nat.le_of_ble_eq_true rfl) rfl (Nat.le_of_ble_eq_true rfl) dX4_newEntry_84 hE (fun _ h => vx_X4_copyRectangle hG (Nat.le_refl _) h) (fun m14 hE => ?_)
      refine vl_iload_n 0 rfl dX4_newEntry_87 ?_
      exact vl_ret (r := v5) rfl dX4_newEntry_88 hE (hP' (v5, m14))
  · refine vl_aload_n 1 rfl dX4_newEntry_10 ?_
    refine vl_aload_n 1 rfl dX4_newEntry_11 ?_
    refine vl_getR (h := 1) (k0 := 8) (h2 := 8) iu_X4 n1 s1 rfl (by decide) fk_X4_30 rfl dX4_newEntry_12 ?_
    refine vl_iload_n 0 rfl dX4_newEntry_15 ?_
    refine vl_aldc (h := 8) (n := 807) (ni := 807) n8 (by decide) s8 (by decide) rfl dX4_newEntry_16 hE (fun g16 g17 hE => ?_)
    refine vl_putIc (h := 1) (k0 := 14) (ki := 14) iu_X4 tyX4_ok nmX4 n1 (by decide) s1 rfl (by decide) fk_X4_61 rfl rfl rfl (vl_nI _) dX4_newEntry_17 hE (fun m18 hE => ?_)
    refine vl_goto (tgt := 52) dX4_newEntry_20 (by decide) ?_
    refine vl_aload_n 1 rfl dX4_newEntry_52 ?_
    refine vl_dup rfl dX4_newEntry_53 ?_
    refine vl_getIc (h := 1) (k0 := 12) (ki := 12) iu_X4 n1 (by decide) s1 rfl (by decide) fk_X4_55 rfl rfl dX4_newEntry_54 ?_
    refine vl_iconst dX4_newEntry_57 ?_
    refine vl_iadd dX4_newEntry_58 ?_
    refine vl_putIc (h := 1) (k0 := 12) (ki := 12) iu_X4 tyX4_ok nmX4 n1 (by decide) s1 rfl (by decide) fk_X4_55 rfl rfl rfl (vl_nI _) dX4_newEntry_59 hE (fun m19 hE => ?_)
    refine vl_aload_n 1 rfl dX4_newEntry_62 ?_
    refine vl_getR (h := 1) (k0 := 2) (h2 := 2) iu_X4 n1 s1 rfl (by decide) fk_X4_9 rfl dX4_newEntry_63 ?_
    refine vl_iload_n 0 rfl dX4_newEntry_66 ?_
    refine vl_iconst dX4_newEntry_67 ?_
    refine vl_astc1 (h := 2) (n := 807) (ni := 807) n2 (by decide) s2 (by decide) rfl g16 dX4_newEntry_68 hE (fun m20 hE => ?_)
    refine vl_aload_n 1 rfl dX4_newEntry_69 ?_
    refine vl_getR (h := 1) (k0 := 7) (h2 := 7) iu_X4 n1 s1 rfl (by decide) fk_X4_27 rfl dX4_newEntry_70 ?_
    refine vl_iload_n 0 rfl dX4_newEntry_73 ?_
    refine vl_aload_n 1 rfl dX4_newEntry_74 ?_
    refine vl_getR (h := 1) (k0 := 7) (h2 := 7) iu_X4 n1 s1 rfl (by decide) fk_X4_27 rfl dX4_newEntry_75 ?_
    refine vl_iload_n 2 rfl dX4_newEntry_78 ?_
    refine vl_aldc (h := 7) (n := 807) (ni := 807) n7 (by decide) s7 (by decide) rfl dX4_newEntry_79 hE (fun g21 g22 hE => ?_)
    refine vl_astc1 (h := 7) (n := 807) (ni := 807) n7 (by decide) s7 (by decide) rfl g16 dX4_newEntry_80 hE (fun m23 hE => ?_)
    refine vl_aload_n 1 rfl dX4_newEntry_81 ?_
    refine vl_iload_n 2 rfl dX4_newEntry_82 ?_
    refine vl_iload_n 0 rfl dX4_newEntry_83 ?_
    refine vl_VcWV (K' := kX4_copyRectangle) (d' := 0) (h := 1) (As := [vl_iv a1, vl_iv v1]) (st := []) lk_X4_70 (fun _ => rfl) (by omega) n1 s1 rfl rfl (Nat.le_of_ble_eq_true rfl) rfl (Nat.le_of_ble_eq_true rfl) dX4_newEntry_84 hE (fun _ h => vx_X4_copyRectangle hG (Nat.le_refl _) h) (fun m25 hE => ?_)
    refine vl_iload_n 0 rfl dX4_newEntry_87 ?_
    exact vl_ret (r := v1) rfl dX4_newEntry_88 hE (hP' (v1, m25))
set_option maxRecDepth 100000 in
set_option maxHeartbeats 4000000 in
theorem vx_X4_squareTo {nc : Nat} {S : vl_Sh} {sc : Nat × (Nat → Int32)} {w : Nat} (hG : vl_G1 nc S w) {d : Nat} (hd : 1 ≤ d) {Post : Int → vl_M → vl_M → Prop} {m ρ : vl_M} {a1 a2 a3 : Int} (hE : vl_ok (fun r : Int => Post r m ρ) (fn_X4_squareTo m a1 a2 a3)) : vl_V nc S sc kX4_squareTo d Post 0 [(0, .ref 1), (1, vl_iv a1), (2, vl_iv a2), (3, vl_iv a3)] [] m ρ := by
  generalize hP : (fun r : Int => Post r m ρ) = P at hE
  have hP' : ∀ r : Int, P r → Post r m ρ := fun b h => by rw [← hP] at h; exact h
  clear hP
  have s1 : S 1 = .inr (4, [0, 0, 5, 6, 7, 8, 9, 10, 11, 12, 0, 13, 0, 0, 0, 0, 0]) := hG.2.1 1 (by decide) (by decide)
  have n1 : 1 < nc := Nat.lt_of_lt_of_le (by decide) hG.1
  have s3 : S 3 = .inl 807 := hG.2.1 3 (by decide) (by decide)
  have n3 : 3 < nc := Nat.lt_of_lt_of_le (by decide) hG.1
  have s4 : S 4 = .inl 807 := hG.2.1 4 (by decide) (by decide)
  have n4 : 4 < nc := Nat.lt_of_lt_of_le (by decide) hG.1
  have s5 : S 5 = .inl 807 := hG.2.1 5 (by decide) (by decide)
  have n5 : 5 < nc := Nat.lt_of_lt_of_le (by decide) hG.1
  have s6 : S 6 = .inl 807 := hG.2.1 6 (by decide) (by decide)
  have n6 : 6 < nc := Nat.lt_of_lt_of_le (by decide) hG.1
  unfold fn_X4_squareTo at hE
  refine vl_iconst dX4_squareTo_0 ?_
  refine vl_aload_n 0 rfl dX4_squareTo_1 ?_
  refine vl_getR (h := 1) (k0 := 3) (h2 := 3) iu_X4 n1 s1 rfl (by decide) fk_X4_15 rfl dX4_squareTo_2 ?_
  refine vl_iload_n 1 rfl dX4_squareTo_5 ?_
  refine vl_aldc (h := 3) (n := 807) (ni := 807) n3 (by decide) s3 (by decide) rfl dX4_squareTo_6 hE (fun g1 g2 hE => ?_)
  refine vl_iload_n 2 rfl dX4_squareTo_7 ?_
  refine vl_isub dX4_squareTo_8 ?_
  refine vl_iload_n 2 rfl dX4_squareTo_9 ?_
  refine vl_aload_n 0 rfl dX4_squareTo_10 ?_
  refine vl_getR (h := 1) (k0 := 5) (h2 := 5) iu_X4 n1 s1 rfl (by decide) fk_X4_21 rfl dX4_squareTo_11 ?_
  refine vl_iload_n 1 rfl dX4_squareTo_14 ?_
  refine vl_aldc1 (h := 5) (n := 807) (ni := 807) n5 (by decide) s5 (by decide) rfl g1 dX4_squareTo_15 ?_
  refine vl_isub dX4_squareTo_16 ?_
  obtain ⟨g3, hE⟩ := vl_ok_gd hE
  obtain ⟨g4, hE⟩ := vl_ok_gd hE
  refine vl_mmax lk_X4_74 (by omega) g3 g4 (Nat.le_of_ble_eq_true rfl) dX4_squareTo_17 ?_
  obtain ⟨g5, hE⟩ := vl_ok_gd hE
  refine vl_mmax lk_X4_74 (by omega) (by decide) g5 (Nat.le_of_ble_eq_true rfl) dX4_squareTo_20 ?_
  refine vl_istore (fun v6 => [(4, vl_iv v6), (0, .ref 1), (1, vl_iv a1), (2, vl_iv a2), (3, vl_iv a3)]) dX4_squareTo_23 (by decide) (fun _ => rfl) hE (fun v6 hE => ?_)
  refine vl_iconst dX4_squareTo_25 ?_
  refine vl_aload_n 1 rfl dX4_squareTo_26 ?_
  refine vl_getR (h := 1) (k0 := 4) (h2 := 4) iu_X4 n1 s1 rfl (by decide) fk_X4_18 rfl dX4_squareTo_27 ?_
  refine vl_iload_n 2 rfl dX4_squareTo_30 ?_
  refine vl_aldc1 (h := 4) (n := 807) (ni := 807) n4 (by decide) s4 (by decide) rfl g1 dX4_squareTo_31 ?_
  refine vl_iload_n 4 rfl dX4_squareTo_32 ?_
  refine vl_isub dX4_squareTo_33 ?_
  refine vl_iload_n 4 rfl dX4_squareTo_34 ?_
  refine vl_aload_n 1 rfl dX4_squareTo_35 ?_
  refine vl_getR (h := 1) (k0 := 6) (h2 := 6) iu_X4 n1 s1 rfl (by decide) fk_X4_24 rfl dX4_squareTo_36 ?_
  refine vl_iload_n 2 rfl dX4_squareTo_39 ?_
  refine vl_aldc1 (h := 6) (n := 807) (ni := 807) n6 (by decide) s6 (by decide) rfl g1 dX4_squareTo_40 ?_
  refine vl_isub dX4_squareTo_41 ?_
  obtain ⟨g7, hE⟩ := vl_ok_gd hE
  obtain ⟨g8, hE⟩ := vl_ok_gd hE
  refine vl_mmax lk_X4_74 (by omega) g7 g8 (Nat.le_of_ble_eq_true rfl) dX4_squareTo_42 ?_
  obtain ⟨g9, hE⟩ := vl_ok_gd hE
  refine vl_mmax lk_X4_74 (by omega) (by decide) g9 (Nat.le_of_ble_eq_true rfl) dX4_squareTo_45 ?_
  refine vl_istore (fun v10 => [(5, vl_iv v10), (4, vl_iv v6), (0, .ref 1), (1, vl_iv a1), (2, vl_iv a2), (3, vl_iv a3)]) dX4_squareTo_48 (by decide) (fun _ => rfl) hE (fun v10 hE => ?_)
  refine vl_iload 1 rfl dX4_squareTo_50 ?_
  refine vl_iload 1 rfl dX4_squareTo_52 ?_
  refine vl_imul dX4_squareTo_54 ?_
  refine vl_iload 0 rfl dX4_squareTo_55 ?_
  refine vl_iload 0 rfl dX4_squareTo_57 ?_
  refine vl_imul dX4_squareTo_59 ?_
  refine vl_iadd dX4_squareTo_60 ?_
  exact vl_ret (r := ((v6 * v6) + (v10 * v10))) rfl dX4_squareTo_61 hE (hP' ((v6 * v6) + (v10 * v10)))
set_option maxRecDepth 100000 in
set_option maxHeartbeats 4000000 in
theorem vx_X4_attach {nc : Nat} {S : vl_Sh} {sc : Nat × (Nat → Int32)} {w : Nat} (hG : vl_G1 nc S w) {N : Nat} {d : Nat} (hd : 2 ≤ d) {Post : Int → vl_M → vl_M → Prop} {m ρ : vl_M} {a1 a2 : Int} (hE : vl_ok (fun b : vl_M => Post 0 b ρ) (fn_X4_attach w N m a1 a2)) : vl_V nc S sc kX4_attach d Post 0 [(0, .ref 1), (1, vl_iv a1), (2, vl_iv a2)] [] m ρ := by
  generalize hP : (fun b : vl_M => Post 0 b ρ) = P at hE
  have hP' : ∀ b : vl_M, P b → Post 0 b ρ := fun b h => by rw [← hP] at h; exact h
  clear hP
  have s1 : S 1 = .inr (4, [0, 0, 5, 6, 7, 8, 9, 10, 11, 12, 0, 13, 0, 0, 0, 0, 0]) := hG.2.1 1 (by decide) (by decide)
  have n1 : 1 < nc := Nat.lt_of_lt_of_le (by decide) hG.1
  have s9 : S 9 = .inl 807 := hG.2.1 9 (by decide) (by decide)
  have n9 : 9 < nc := Nat.lt_of_lt_of_le (by decide) hG.1
  unfold fn_X4_attach at hE
  refine vl_aload_n 0 rfl dX4_attach_0 ?_
  refine vl_getR (h := 1) (k0 := 9) (h2 := 9) iu_X4 n1 s1 rfl (by decide) fk_X4_33 rfl dX4_attach_1 ?_
  refine vl_iload_n 1 rfl dX4_attach_4 ?_
  refine vl_aldc (h := 9) (n := 807) (ni := 807) n9 (by decide) s9 (by decide) rfl dX4_attach_5 hE (fun g1 g2 hE => ?_)
  obtain ⟨g3, hE⟩ := vl_ok_gd hE
  refine vl_jnr (J := fun κ : vl_M → Option (vl_M) => ∀ (m4 : vl_M), vl_ok P (κ m4) → vl_V nc S sc kX4_attach d Post 24 [(0, .ref 1), (1, vl_iv a1), (2, vl_iv a2)] [] m4 ρ) ?_ hE (fun κ5 hκ5 hE => ?_)
  · intro m4 hE
    refine vl_aload_n 0 rfl dX4_attach_24 ?_
    refine vl_iload_n 1 rfl dX4_attach_25 ?_
    refine vl_aload_n 0 rfl dX4_attach_26 ?_
    refine vl_getR (h := 1) (k0 := 9) (h2 := 9) iu_X4 n1 s1 rfl (by decide) fk_X4_33 rfl dX4_attach_27 ?_
    refine vl_iload_n 1 rfl dX4_attach_30 ?_
    refine vl_aldc1 (h := 9) (n := 807) (ni := 807) n9 (by decide) s9 (by decide) rfl g1 dX4_attach_31 ?_
    refine vl_iload_n 2 rfl dX4_attach_32 ?_
    refine vl_VcWV (K' := kX4_attachAt) (d' := 1) (h := 1) (As := [vl_iv a1, vl_iv (m4 9 a1), vl_iv a2]) (st := []) lk_X4_112 (fun _ => rfl) (by omega) n1 s1 rfl rfl (Nat.le_of_ble_eq_true rfl) rfl (Nat.le_of_ble_eq_true rfl) dX4_attach_33 hE (fun _ h => vx_X4_attachAt hG (Nat.le_refl _) h) (fun m7 hE => ?_)
    exact vl_ret (r := 0) rfl dX4_attach_36 hE (hP' m7)
  refine vl_if_ne (tgt := 18) dX4_attach_6 (by decide) g3  hE (fun c12 hE => ?_) (fun c12 hE => ?_)
  · refine vl_aload_n 0 rfl dX4_attach_18 ?_
    refine vl_iload_n 1 rfl dX4_attach_19 ?_
    refine vl_iload_n 2 rfl dX4_attach_20 ?_
    refine vl_VcWV (K' := kX4_cover) (d' := 1) (h := 1) (As := [vl_iv a1, vl_iv a2]) (st := []) lk_X4_109 (fun _ => rfl) (by omega) n1 s1 rfl rfl (Nat.le_of_ble_eq_true rfl) rfl (Nat.le_of_ble_eq_true rfl) dX4_attach_21 hE (fun _ h => vx_X4_cover hG (Nat.le_refl _) h) (fun m9 hE => ?_)
    exact (hκ5 m9 hE)
  · refine vl_aload_n 0 rfl dX4_attach_9 ?_
    refine vl_iload_n 2 rfl dX4_attach_10 ?_
    refine vl_iload_n 1 rfl dX4_attach_11 ?_
    refine vl_VcWV (K' := kX4_copyRectangle) (d' := 0) (h := 1) (As := [vl_iv a2, vl_iv a1]) (st := []) lk_X4_70 (fun _ => rfl) (by omega) n1 s1 rfl rfl (Nat.le_of_ble_eq_true rfl) rfl (Nat.le_of_ble_eq_true rfl) dX4_attach_12 hE (fun _ h => vx_X4_copyRectangle hG (Nat.le_refl _) h) (fun m11 hE => ?_)
    refine vl_goto (tgt := 24) dX4_attach_15 (by decide) ?_
    exact (hκ5 m11 hE)
set_option maxRecDepth 100000 in
set_option maxHeartbeats 4000000 in
theorem vx_X4_attachBehind {nc : Nat} {S : vl_Sh} {sc : Nat × (Nat → Int32)} {w : Nat} (hG : vl_G1 nc S w) {N : Nat} {d : Nat} (hd : 2 ≤ d) {Post : Int → vl_M → vl_M → Prop} {m ρ : vl_M} {a1 a2 : Int} (hE : vl_ok (fun b : vl_M => Post 0 b ρ) (fn_X4_attachBehind w N m a1 a2)) : vl_V nc S sc kX4_attachBehind d Post 0 [(0, .ref 1), (1, vl_iv a1), (2, vl_iv a2)] [] m ρ := by
  generalize hP : (fun b : vl_M => Post 0 b ρ) = P at hE
  have hP' : ∀ b : vl_M, P b → Post 0 b ρ := fun b h => by rw [← hP] at h; exact h
  clear hP
  have s1 : S 1 = .inr (4, [0, 0, 5, 6, 7, 8, 9, 10, 11, 12, 0, 13, 0, 0, 0, 0, 0]) := hG.2.1 1 (by decide) (by decide)
  have n1 : 1 < nc := Nat.lt_of_lt_of_le (by decide) hG.1
  have s8 : S 8 = .inl 807 := hG.2.1 8 (by decide) (by decide)
  have n8 : 8 < nc := Nat.lt_of_lt_of_le (by decide) hG.1
  unfold fn_X4_attachBehind at hE
  refine vl_aload_n 0 rfl dX4_attachBehind_0 ?_
  refine vl_getR (h := 1) (k0 := 8) (h2 := 8) iu_X4 n1 s1 rfl (by decide) fk_X4_30 rfl dX4_attachBehind_1 ?_
  refine vl_iload_n 1 rfl dX4_attachBehind_4 ?_
  refine vl_aldc (h := 8) (n := 807) (ni := 807) n8 (by decide) s8 (by decide) rfl dX4_attachBehind_5 hE (fun g1 g2 hE => ?_)
  refine vl_istore_n rfl (fun v3 => [(3, vl_iv v3), (0, .ref 1), (1, vl_iv a1), (2, vl_iv a2)]) dX4_attachBehind_6 (by decide) (fun _ => rfl) hE (fun v3 hE => ?_)
  refine vl_iload_n 0 rfl dX4_attachBehind_7 ?_
  refine vl_iconst dX4_attachBehind_8 ?_
  obtain ⟨g4, hE⟩ := vl_ok_gd hE
  refine vl_icmp_eq (tgt := 26) dX4_attachBehind_9 (by decide) g4 (by decide) hE (fun c8 hE => ?_) (fun c8 hE => ?_)
  · exact vl_ret (r := 0) rfl dX4_attachBehind_26 hE (hP' m)
  · refine vl_aload_n 1 rfl dX4_attachBehind_12 ?_
    refine vl_iload_n 0 rfl dX4_attachBehind_13 ?_
    refine vl_aload_n 1 rfl dX4_attachBehind_14 ?_
    refine vl_iload_n 0 rfl dX4_attachBehind_15 ?_
    refine vl_iload_n 2 rfl dX4_attachBehind_16 ?_
    refine vl_VpI (K' := kX4_indexIn) (d' := 1) (h := 1) (As := [vl_iv v3, vl_iv a1]) (st := [vl_iv v3, .ref 1]) lk_X4_116 (fun _ => rfl) (by omega) n1 s1 rfl rfl (Nat.le_of_ble_eq_true rfl) rfl (Nat.le_of_ble_eq_true rfl) dX4_attachBehind_17 hE (fun _ h => vx_X4_indexIn hG (Nat.le_refl _) h) (fun b5 hE => ?_)
    refine vl_iconst dX4_attachBehind_20 ?_
    refine vl_iadd dX4_attachBehind_21 ?_
    refine vl_iload_n 3 rfl dX4_attachBehind_22 ?_
    refine vl_VcWV (K' := kX4_attachAt) (d' := 1) (h := 1) (As := [vl_iv v3, vl_iv (b5 + 1), vl_iv a2]) (st := []) lk_X4_112 (fun _ => rfl) (by omega) n1 s1 rfl rfl (Nat.le_of_ble_eq_true rfl) rfl (Nat.le_of_ble_eq_true rfl) dX4_attachBehind_23 hE (fun _ h => vx_X4_attachAt hG (Nat.le_refl _) h) (fun m7 hE => ?_)
    exact vl_ret (r := 0) rfl dX4_attachBehind_26 hE (hP' m7)
set_option maxRecDepth 100000 in
set_option maxHeartbeats 4000000 in
theorem vx_X4_detach {nc : Nat} {S : vl_Sh} {sc : Nat × (Nat → Int32)} {w : Nat} (hG : vl_G1 nc S w) {N : Nat} {d : Nat} (hd : 2 ≤ d) {Post : Int → vl_M → vl_M → Prop} {m ρ : vl_M} {a1 : Int} (hE : vl_ok (fun b : vl_M => Post 0 b ρ) (fn_X4_detach w N m a1)) : vl_V nc S sc kX4_detach d Post 0 [(0, .ref 1), (1, vl_iv a1)] [] m ρ := by
  generalize hP : (fun b : vl_M => Post 0 b ρ) = P at hE
  have hP' : ∀ b : vl_M, P b → Post 0 b ρ := fun b h => by rw [← hP] at h; exact h
  clear hP
  have s1 : S 1 = .inr (4, [0, 0, 5, 6, 7, 8, 9, 10, 11, 12, 0, 13, 0, 0, 0, 0, 0]) := hG.2.1 1 (by decide) (by decide)
  have n1 : 1 < nc := Nat.lt_of_lt_of_le (by decide) hG.1
  have s8 : S 8 = .inl 807 := hG.2.1 8 (by decide) (by decide)
  have n8 : 8 < nc := Nat.lt_of_lt_of_le (by decide) hG.1
  have s9 : S 9 = .inl 807 := hG.2.1 9 (by decide) (by decide)
  have n9 : 9 < nc := Nat.lt_of_lt_of_le (by decide) hG.1
  unfold fn_X4_detach at hE
  refine vl_aload_n 0 rfl dX4_detach_0 ?_
  refine vl_getR (h := 1) (k0 := 8) (h2 := 8) iu_X4 n1 s1 rfl (by decide) fk_X4_30 rfl dX4_detach_1 ?_
  refine vl_iload_n 1 rfl dX4_detach_4 ?_
  refine vl_aldc (h := 8) (n := 807) (ni := 807) n8 (by decide) s8 (by decide) rfl dX4_detach_5 hE (fun g1 g2 hE => ?_)
  refine vl_istore_n rfl (fun v3 => [(2, vl_iv v3), (0, .ref 1), (1, vl_iv a1)]) dX4_detach_6 (by decide) (fun _ => rfl) hE (fun v3 hE => ?_)
  refine vl_iload_n 0 rfl dX4_detach_7 ?_
  refine vl_iconst dX4_detach_8 ?_
  obtain ⟨g4, hE⟩ := vl_ok_gd hE
  refine vl_icmp_eq (tgt := 21) dX4_detach_9 (by decide) g4 (by decide) hE (fun c23 hE => ?_) (fun c23 hE => ?_)
  · exact vl_ret (r := 0) rfl dX4_detach_21 hE (hP' m)
  · refine vl_aload_n 1 rfl dX4_detach_12 ?_
    refine vl_getR (h := 1) (k0 := 9) (h2 := 9) iu_X4 n1 s1 rfl (by decide) fk_X4_33 rfl dX4_detach_13 ?_
    refine vl_iload_n 0 rfl dX4_detach_16 ?_
    refine vl_aldc (h := 9) (n := 807) (ni := 807) n9 (by decide) s9 (by decide) rfl dX4_detach_17 hE (fun g5 g6 hE => ?_)
    obtain ⟨g7, hE⟩ := vl_ok_gd hE
    refine vl_if_ne (tgt := 22) dX4_detach_18 (by decide) g7  hE (fun c22 hE => ?_) (fun c22 hE => ?_)
    · refine vl_aload_n 1 rfl dX4_detach_22 ?_
      refine vl_iload_n 0 rfl dX4_detach_23 ?_
      refine vl_iload_n 2 rfl dX4_detach_24 ?_
      refine vl_VpI (K' := kX4_indexIn) (d' := 1) (h := 1) (As := [vl_iv v3, vl_iv a1]) (st := []) lk_X4_116 (fun _ => rfl) (by omega) n1 s1 rfl rfl (Nat.le_of_ble_eq_true rfl) rfl (Nat.le_of_ble_eq_true rfl) dX4_detach_25 hE (fun _ h => vx_X4_indexIn hG (Nat.le_refl _) h) (fun b8 hE => ?_)
      refine vl_iconst dX4_detach_28 ?_
      refine vl_iadd dX4_detach_29 ?_
      refine vl_istore_n rfl (fun v9 => [(3, vl_iv v9), (2, vl_iv v3), (0, .ref 1), (1, vl_iv a1)]) dX4_detach_30 (by decide) (fun _ => rfl) hE (fun v9 hE => ?_)
      refine vl_lpr (F := fun κ : Int → vl_M → Option (vl_M) => fn_X4_detach_L31 w N v3 κ N v9 m) (J := fun κ => ∀ (v12 : Int) (m13 : vl_M), vl_ok P (κ v12 m13) → vl_V nc S sc kX4_detach d Post 61 [(0, .ref 1), (2, vl_iv v3)] [] m13 ρ) ?_ hE (fun κ hκL3111 hE => ?_)
      · intro v12 m13 hE
        refine vl_aload_n 0 rfl dX4_detach_61 ?_
        refine vl_getR (h := 1) (k0 := 9) (h2 := 9) iu_X4 n1 s1 rfl (by decide) fk_X4_33 rfl dX4_detach_62 ?_
        refine vl_iload_n 1 rfl dX4_detach_65 ?_
        refine vl_dup2 rfl rfl dX4_detach_66 ?_
        refine vl_aldc1 (h := 9) (n := 807) (ni := 807) n9 (by decide) s9 (by decide) rfl g5 dX4_detach_67 ?_
        refine vl_iconst dX4_detach_68 ?_
        refine vl_isub dX4_detach_69 ?_
        refine vl_astc1 (h := 9) (n := 807) (ni := 807) n9 (by decide) s9 (by decide) rfl g5 dX4_detach_70 hE (fun m14 hE => ?_)
        exact vl_ret (r := 0) rfl dX4_detach_71 hE (hP' m14)
      have hL31_ : ∀ (n : Nat) (v10 : Int) (m11 : vl_M), vl_ok P (fn_X4_detach_L31 w N v3 κ n v10 m11) → vl_V nc S sc kX4_detach d Post 31 [(0, .ref 1), (2, vl_iv v3), (3, vl_iv v10)] [] m11 ρ := by
        intro n
        induction n with
        | zero => intro v10 m11 hE; exact vl_no hE
        | succ n ih31_ =>
          intro v10 m11 hE
          rw [fn_X4_detach_L31] at hE
          refine vl_iload_n 2 rfl dX4_detach_31 ?_
          refine vl_aload_n 0 rfl dX4_detach_32 ?_
          refine vl_getR (h := 1) (k0 := 9) (h2 := 9) iu_X4 n1 s1 rfl (by decide) fk_X4_33 rfl dX4_detach_33 ?_
          refine vl_iload_n 1 rfl dX4_detach_36 ?_
          refine vl_aldc1 (h := 9) (n := 807) (ni := 807) n9 (by decide) s9 (by decide) rfl g5 dX4_detach_37 ?_
          obtain ⟨g15, hE⟩ := vl_ok_gd hE
          obtain ⟨g16, hE⟩ := vl_ok_gd hE
          refine vl_icmp_ge (tgt := 61) dX4_detach_38 (by decide) g15 g16 hE (fun c21 hE => ?_) (fun c21 hE => ?_)
          · exact vl_wk [0, 1] rfl (hκL3111 v10 m11 hE)
          · refine vl_aload_n 0 rfl dX4_detach_41 ?_
            refine vl_iload_n 1 rfl dX4_detach_42 ?_
            refine vl_iload_n 2 rfl dX4_detach_43 ?_
            refine vl_iconst dX4_detach_44 ?_
            refine vl_isub dX4_detach_45 ?_
            refine vl_aload_n 0 rfl dX4_detach_46 ?_
            refine vl_iload_n 1 rfl dX4_detach_47 ?_
            refine vl_iload_n 2 rfl dX4_detach_48 ?_
            refine vl_VpI (K' := kX4_thingAt) (d' := 0) (h := 1) (As := [vl_iv v3, vl_iv v10]) (st := [vl_iv (v10 - 1), vl_iv v3, .ref 1]) lk_X4_106 (fun _ => rfl) (by omega) n1 s1 rfl rfl (Nat.le_of_ble_eq_true rfl) rfl (Nat.le_of_ble_eq_true rfl) dX4_detach_49 hE (fun _ h => vx_X4_thingAt hG (Nat.le_refl _) h) (fun b17 hE => ?_)
            refine vl_VcWV (K' := kX4_placeAt) (d' := 0) (h := 1) (As := [vl_iv v3, vl_iv (v10 - 1), vl_iv b17]) (st := []) lk_X4_119 (fun _ => rfl) (by omega) n1 s1 rfl rfl (Nat.le_of_ble_eq_true rfl) rfl (Nat.le_of_ble_eq_true rfl) dX4_detach_52 hE (fun _ h => vx_X4_placeAt hG (Nat.le_refl _) h) (fun m19 hE => ?_)
            refine vl_iinc 2 (fun v20 => [(3, vl_iv v20), (0, .ref 1), (2, vl_iv v3)]) dX4_detach_55 rfl (by decide) (fun _ => rfl) hE (fun v20 hE => ?_)
            refine vl_goto (tgt := 31) dX4_detach_58 (by decide) ?_
            exact vl_wk [1, 2, 0] rfl (ih31_ v20 m19 hE)
      exact vl_wk [2, 1, 0] rfl (hL31_ N v9 m hE)
    · exact vl_ret (r := 0) rfl dX4_detach_21 hE (hP' m)
set_option maxRecDepth 100000 in
set_option maxHeartbeats 4000000 in
theorem vx_X4_entryLike {nc : Nat} {S : vl_Sh} {sc : Nat × (Nat → Int32)} {w : Nat} (hG : vl_G1 nc S w) {N : Nat} {d : Nat} (hd : 2 ≤ d) {Post : Int → vl_M → vl_M → Prop} {m ρ : vl_M} {a1 : Int} (hE : vl_ok (fun r : Int => Post r m ρ) (fn_X4_entryLike N m a1)) : vl_V nc S sc kX4_entryLike d Post 0 [(0, .ref 1), (1, vl_iv a1)] [] m ρ := by
  generalize hP : (fun r : Int => Post r m ρ) = P at hE
  have hP' : ∀ r : Int, P r → Post r m ρ := fun b h => by rw [← hP] at h; exact h
  clear hP
  have s1 : S 1 = .inr (4, [0, 0, 5, 6, 7, 8, 9, 10, 11, 12, 0, 13, 0, 0, 0, 0, 0]) := hG.2.1 1 (by decide) (by decide)
  have n1 : 1 < nc := Nat.lt_of_lt_of_le (by decide) hG.1
  unfold fn_X4_entryLike at hE
  refine vl_iconst dX4_entryLike_0 ?_
  refine vl_istore_n0 rfl (lv' := [(2, vl_iv 0), (0, .ref 1), (1, vl_iv a1)]) dX4_entryLike_1 (by decide) rfl ?_
  refine vl_lpr (F := fun κ : Int → Option (Int) => fn_X4_entryLike_L2 N m a1 κ N 0) (J := fun κ => ∀ (v2 : Int), vl_ok P (κ v2) → vl_V nc S sc kX4_entryLike d Post 35 [] [] m ρ) ?_ hE (fun κ hκL21 hE => ?_)
  · intro v2 hE
    refine vl_iconst dX4_entryLike_35 ?_
    exact vl_ret (r := (-1)) rfl dX4_entryLike_36 hE (hP' (-1))
  have hL2_ : ∀ (n : Nat) (v1 : Int), vl_ok P (fn_X4_entryLike_L2 N m a1 κ n v1) → vl_V nc S sc kX4_entryLike d Post 2 [(0, .ref 1), (1, vl_iv a1), (2, vl_iv v1)] [] m ρ := by
    intro n
    induction n with
    | zero => intro v1 hE; exact vl_no hE
    | succ n ih2_ =>
      intro v1 hE
      rw [fn_X4_entryLike_L2] at hE
      refine vl_iload_n 2 rfl dX4_entryLike_2 ?_
      refine vl_aload_n 0 rfl dX4_entryLike_3 ?_
      refine vl_getIc (h := 1) (k0 := 13) (ki := 13) iu_X4 n1 (by decide) s1 rfl (by decide) fk_X4_58 rfl rfl dX4_entryLike_4 ?_
      obtain ⟨g3, hE⟩ := vl_ok_gd hE
      obtain ⟨g4, hE⟩ := vl_ok_gd hE
      refine vl_icmp_ge (tgt := 35) dX4_entryLike_7 (by decide) g3 g4 hE (fun c13 hE => ?_) (fun c13 hE => ?_)
      · exact vl_wk [] rfl (hκL21 v1 hE)
      · refine vl_aload_n 0 rfl dX4_entryLike_10 ?_
        refine vl_iload_n 2 rfl dX4_entryLike_11 ?_
        refine vl_VpI (K' := kX4_isEntry) (d' := 0) (h := 1) (As := [vl_iv v1]) (st := []) lk_X4_96 (fun _ => rfl) (by omega) n1 s1 rfl rfl (Nat.le_of_ble_eq_true rfl) rfl (Nat.le_of_ble_eq_true rfl) dX4_entryLike_12 hE (fun _ h => vx_X4_isEntry hG (Nat.le_refl _) h) (fun b5 hE => ?_)
        obtain ⟨g6, hE⟩ := vl_ok_gd hE
        refine vl_if_eq (tgt := 29) dX4_entryLike_15 (by decide) g6  hE (fun c12 hE => ?_) (fun c12 hE => ?_)
        · refine vl_iinc 2 (fun v7 => [(2, vl_iv v7), (0, .ref 1), (1, vl_iv a1)]) dX4_entryLike_29 rfl (by decide) (fun _ => rfl) hE (fun v7 hE => ?_)
          refine vl_goto (tgt := 2) dX4_entryLike_32 (by decide) ?_
          exact vl_wk [1, 2, 0] rfl (ih2_ v7 hE)
        · refine vl_aload_n 0 rfl dX4_entryLike_18 ?_
          refine vl_iload_n 2 rfl dX4_entryLike_19 ?_
          refine vl_iload_n 1 rfl dX4_entryLike_20 ?_
          refine vl_VpI (K' := kX4_alike) (d' := 1) (h := 1) (As := [vl_iv v1, vl_iv a1]) (st := []) lk_X4_100 (fun _ => rfl) (by omega) n1 s1 rfl rfl (Nat.le_of_ble_eq_true rfl) rfl (Nat.le_of_ble_eq_true rfl) dX4_entryLike_21 hE (fun _ h => vx_X4_alike hG (Nat.le_refl _) h) (fun b8 hE => ?_)
          obtain ⟨g9, hE⟩ := vl_ok_gd hE
          refine vl_if_eq (tgt := 29) dX4_entryLike_24 (by decide) g9  hE (fun c11 hE => ?_) (fun c11 hE => ?_)
          · refine vl_iinc 2 (fun v10 => [(2, vl_iv v10), (0, .ref 1), (1, vl_iv a1)]) dX4_entryLike_29 rfl (by decide) (fun _ => rfl) hE (fun v10 hE => ?_)
            refine vl_goto (tgt := 2) dX4_entryLike_32 (by decide) ?_
            exact vl_wk [1, 2, 0] rfl (ih2_ v10 hE)
          · refine vl_iload_n 2 rfl dX4_entryLike_27 ?_
            exact vl_ret (r := v1) rfl dX4_entryLike_28 hE (hP' (v1))
  exact vl_wk [1, 2, 0] rfl (hL2_ N 0 hE)
set_option maxRecDepth 100000 in
set_option maxHeartbeats 4000000 in
theorem vx_X4_fitAround {nc : Nat} {S : vl_Sh} {sc : Nat × (Nat → Int32)} {w : Nat} (hG : vl_G1 nc S w) {N : Nat} {d : Nat} (hd : 2 ≤ d) {Post : Int → vl_M → vl_M → Prop} {m ρ : vl_M} {a1 a2 : Int} (hE : vl_ok (fun b : vl_M => Post 0 b ρ) (fn_X4_fitAround w N m a1 a2)) : vl_V nc S sc kX4_fitAround d Post 0 [(0, .ref 1), (1, vl_iv a1), (2, vl_iv a2)] [] m ρ := by
  generalize hP : (fun b : vl_M => Post 0 b ρ) = P at hE
  have hP' : ∀ b : vl_M, P b → Post 0 b ρ := fun b h => by rw [← hP] at h; exact h
  clear hP
  have s1 : S 1 = .inr (4, [0, 0, 5, 6, 7, 8, 9, 10, 11, 12, 0, 13, 0, 0, 0, 0, 0]) := hG.2.1 1 (by decide) (by decide)
  have n1 : 1 < nc := Nat.lt_of_lt_of_le (by decide) hG.1
  have s9 : S 9 = .inl 807 := hG.2.1 9 (by decide) (by decide)
  have n9 : 9 < nc := Nat.lt_of_lt_of_le (by decide) hG.1
  unfold fn_X4_fitAround at hE
  refine vl_iconst dX4_fitAround_0 ?_
  refine vl_istore_n0 rfl (lv' := [(3, vl_iv 0), (0, .ref 1), (1, vl_iv a1), (2, vl_iv a2)]) dX4_fitAround_1 (by decide) rfl ?_
  refine vl_lpr (F := fun κ : Int → vl_M → Option (vl_M) => fn_X4_fitAround_L2 w N a1 a2 κ N 0 m) (J := fun κ => ∀ (v3 : Int) (m4 : vl_M), vl_ok P (κ v3 m4) → vl_V nc S sc kX4_fitAround d Post 47 [] [] m4 ρ) ?_ hE (fun κ hκL22 hE => ?_)
  · intro v3 m4 hE
    exact vl_ret (r := 0) rfl dX4_fitAround_47 hE (hP' m4)
  have hL2_ : ∀ (n : Nat) (v1 : Int) (m2 : vl_M), vl_ok P (fn_X4_fitAround_L2 w N a1 a2 κ n v1 m2) → vl_V nc S sc kX4_fitAround d Post 2 [(0, .ref 1), (1, vl_iv a1), (2, vl_iv a2), (3, vl_iv v1)] [] m2 ρ := by
    intro n
    induction n with
    | zero => intro v1 m2 hE; exact vl_no hE
    | succ n ih2_ =>
      intro v1 m2 hE
      rw [fn_X4_fitAround_L2] at hE
      refine vl_iload_n 3 rfl dX4_fitAround_2 ?_
      refine vl_aload_n 0 rfl dX4_fitAround_3 ?_
      refine vl_getR (h := 1) (k0 := 9) (h2 := 9) iu_X4 n1 s1 rfl (by decide) fk_X4_33 rfl dX4_fitAround_4 ?_
      refine vl_iload_n 2 rfl dX4_fitAround_7 ?_
      refine vl_aldc (h := 9) (n := 807) (ni := 807) n9 (by decide) s9 (by decide) rfl dX4_fitAround_8 hE (fun g5 g6 hE => ?_)
      obtain ⟨g7, hE⟩ := vl_ok_gd hE
      obtain ⟨g8, hE⟩ := vl_ok_gd hE
      refine vl_icmp_ge (tgt := 47) dX4_fitAround_9 (by decide) g7 g8 hE (fun c19 hE => ?_) (fun c19 hE => ?_)
      · exact vl_wk [] rfl (hκL22 v1 m2 hE)
      · refine vl_iload_n 3 rfl dX4_fitAround_12 ?_
        refine vl_jnr (J := fun κ : vl_M → Option (vl_M) => ∀ (m9 : vl_M), vl_ok P (κ m9) → vl_V nc S sc kX4_fitAround d Post 41 [(0, .ref 1), (1, vl_iv a1), (2, vl_iv a2), (3, vl_iv v1)] [] m9 ρ) ?_ hE (fun κ10 hκ10 hE => ?_)
        · intro m9 hE
          refine vl_iinc 3 (fun v11 => [(3, vl_iv v11), (0, .ref 1), (1, vl_iv a1), (2, vl_iv a2)]) dX4_fitAround_41 rfl (by decide) (fun _ => rfl) hE (fun v11 hE => ?_)
          refine vl_goto (tgt := 2) dX4_fitAround_44 (by decide) ?_
          exact vl_wk [1, 2, 3, 0] rfl (ih2_ v11 m9 hE)
        refine vl_if_ne (tgt := 30) dX4_fitAround_13 (by decide) g7  hE (fun c18 hE => ?_) (fun c18 hE => ?_)
        · refine vl_aload_n 0 rfl dX4_fitAround_30 ?_
          refine vl_iload_n 1 rfl dX4_fitAround_31 ?_
          refine vl_aload_n 0 rfl dX4_fitAround_32 ?_
          refine vl_iload_n 2 rfl dX4_fitAround_33 ?_
          refine vl_iload_n 3 rfl dX4_fitAround_34 ?_
          refine vl_VpI (K' := kX4_thingAt) (d' := 0) (h := 1) (As := [vl_iv a2, vl_iv v1]) (st := [vl_iv a1, .ref 1]) lk_X4_106 (fun _ => rfl) (by omega) n1 s1 rfl rfl (Nat.le_of_ble_eq_true rfl) rfl (Nat.le_of_ble_eq_true rfl) dX4_fitAround_35 hE (fun _ h => vx_X4_thingAt hG (Nat.le_refl _) h) (fun b12 hE => ?_)
          refine vl_VcWV (K' := kX4_cover) (d' := 1) (h := 1) (As := [vl_iv a1, vl_iv b12]) (st := []) lk_X4_109 (fun _ => rfl) (by omega) n1 s1 rfl rfl (Nat.le_of_ble_eq_true rfl) rfl (Nat.le_of_ble_eq_true rfl) dX4_fitAround_38 hE (fun _ h => vx_X4_cover hG (Nat.le_refl _) h) (fun m14 hE => ?_)
          exact (hκ10 m14 hE)
        · refine vl_aload_n 0 rfl dX4_fitAround_16 ?_
          refine vl_aload_n 0 rfl dX4_fitAround_17 ?_
          refine vl_iload_n 2 rfl dX4_fitAround_18 ?_
          refine vl_iconst dX4_fitAround_19 ?_
          refine vl_VpI (K' := kX4_thingAt) (d' := 0) (h := 1) (As := [vl_iv a2, vl_iv 0]) (st := [.ref 1]) lk_X4_106 (fun _ => rfl) (by omega) n1 s1 rfl rfl (Nat.le_of_ble_eq_true rfl) rfl (Nat.le_of_ble_eq_true rfl) dX4_fitAround_20 hE (fun _ h => vx_X4_thingAt hG (Nat.le_refl _) h) (fun b15 hE => ?_)
          refine vl_iload_n 1 rfl dX4_fitAround_23 ?_
          refine vl_VcWV (K' := kX4_copyRectangle) (d' := 0) (h := 1) (As := [vl_iv b15, vl_iv a1]) (st := []) lk_X4_70 (fun _ => rfl) (by omega) n1 s1 rfl rfl (Nat.le_of_ble_eq_true rfl) rfl (Nat.le_of_ble_eq_true rfl) dX4_fitAround_24 hE (fun _ h => vx_X4_copyRectangle hG (Nat.le_refl _) h) (fun m17 hE => ?_)
          refine vl_goto (tgt := 41) dX4_fitAround_27 (by decide) ?_
          exact (hκ10 m17 hE)
  exact vl_wk [1, 2, 3, 0] rfl (hL2_ N 0 m hE)
