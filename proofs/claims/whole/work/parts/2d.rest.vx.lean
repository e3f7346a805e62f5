set_option maxRecDepth 100000 in
set_option maxHeartbeats 4000000 in
theorem vx_X0_holdsEnough {nc : Nat} {S : vl_Sh} {sc : Nat × (Nat → Int32)} {w : Nat} (hG : vl_G2 nc S w) {d : Nat} (hd : 0 ≤ d) {Post : Int → vl_M → vl_M → Prop} {m ρ : vl_M} {a1 : Int} (hE : vl_ok (fun r : Int => Post r m ρ) (fn_X0_holdsEnough m a1)) : vl_V nc S sc kX0_holdsEnough d Post 0 [(0, .ref 22), (1, vl_iv a1)] [] m ρ := by
  generalize hP : (fun r : Int => Post r m ρ) = P at hE
  have hP' : ∀ r : Int, P r → Post r m ρ := fun b h => by rw [← hP] at h; exact h
  clear hP
  have s1 : S 1 = .inr (4, [0, 0, 5, 6, 7, 8, 9, 10, 11, 12, 0, 13, 0, 0, 0, 0, 0]) := hG.2.1 1 (by decide) (by decide)
  have n1 : 1 < nc := Nat.lt_of_lt_of_le (by decide) hG.1
  have s2 : S 2 = .inl 807 := hG.2.1 2 (by decide) (by decide)
  have n2 : 2 < nc := Nat.lt_of_lt_of_le (by decide) hG.1
  have s9 : S 9 = .inl 807 := hG.2.1 9 (by decide) (by decide)
  have n9 : 9 < nc := Nat.lt_of_lt_of_le (by decide) hG.1
  have s11 : S 11 = .inr (5, [4, 17, 15, 0, 16, 0, 0, 0, 0, 0]) := hG.2.1 11 (by decide) (by decide)
  have n11 : 11 < nc := Nat.lt_of_lt_of_le (by decide) hG.1
  have s22 : S 22 = .inr (0, [4, 14]) := hG.2.1 22 (by decide) (by decide)
  have n22 : 22 < nc := Nat.lt_of_lt_of_le (by decide) hG.1
  unfold fn_X0_holdsEnough at hE
  refine vl_aload_n 0 rfl dX0_holdsEnough_0 ?_
  refine vl_getR (h := 22) (k0 := 0) (h2 := 1) iu_X0 n22 s22 rfl (by decide) fk_X0_9 rfl dX0_holdsEnough_1 ?_
  refine vl_getIc (h := 1) (k0 := 1) (ki := 1) iu_X4 n1 (by decide) s1 rfl (by decide) fk_X0_54 rfl rfl dX0_holdsEnough_4 ?_
  refine vl_istore_n rfl (fun v1 => [(2, vl_iv v1), (0, .ref 22), (1, vl_iv a1)]) dX0_holdsEnough_7 (by decide) (fun _ => rfl) hE (fun v1 hE => ?_)
  refine vl_iload_n 2 rfl dX0_holdsEnough_8 ?_
  refine vl_aload_n 1 rfl dX0_holdsEnough_9 ?_
  refine vl_getR (h := 22) (k0 := 1) (h2 := 11) iu_X0 n22 s22 rfl (by decide) fk_X0_15 rfl dX0_holdsEnough_10 ?_
  refine vl_getIc (h := 11) (k0 := 6) (ki := 6) iu_X5 n11 (by decide) s11 rfl (by decide) fk_X0_57 rfl rfl dX0_holdsEnough_13 ?_
  obtain ⟨g2, hE⟩ := vl_ok_gd hE
  obtain ⟨g3, hE⟩ := vl_ok_gd hE
  refine vl_jnr (J := fun κ : Int → Option (Int) => ∀ (v4 : Int), vl_ok P (κ v4) → vl_V nc S sc kX0_holdsEnough d Post 37 [(0, .ref 22), (1, vl_iv a1), (2, vl_iv v4)] [] m ρ) ?_ hE (fun κ5 hκ5 hE => ?_)
  · intro v4 hE
    refine vl_aload_n 0 rfl dX0_holdsEnough_37 ?_
    refine vl_getR (h := 22) (k0 := 0) (h2 := 1) iu_X0 n22 s22 rfl (by decide) fk_X0_9 rfl dX0_holdsEnough_38 ?_
    refine vl_getR (h := 1) (k0 := 9) (h2 := 9) iu_X4 n1 s1 rfl (by decide) fk_X0_44 rfl dX0_holdsEnough_41 ?_
    refine vl_iload_n 1 rfl dX0_holdsEnough_44 ?_
    refine vl_aldc (h := 9) (n := 807) (ni := 807) n9 (by decide) s9 (by decide) rfl dX0_holdsEnough_45 hE (fun g6 g7 hE => ?_)
    refine vl_iload_n 2 rfl dX0_holdsEnough_46 ?_
    obtain ⟨g8, hE⟩ := vl_ok_gd hE
    obtain ⟨g9, hE⟩ := vl_ok_gd hE
    refine vl_icmp_lt (tgt := 73) dX0_holdsEnough_47 (by decide) g8 g9 hE (fun c12 hE => ?_) (fun c12 hE => ?_)
    · refine vl_iconst dX0_holdsEnough_73 ?_
      exact vl_ret (r := 0) rfl ⟨dX0_holdsEnough_74, by decide⟩ hE (hP' (0))
    · refine vl_aload_n 0 rfl dX0_holdsEnough_50 ?_
      refine vl_getR (h := 22) (k0 := 0) (h2 := 1) iu_X0 n22 s22 rfl (by decide) fk_X0_9 rfl dX0_holdsEnough_51 ?_
      refine vl_getR (h := 1) (k0 := 9) (h2 := 9) iu_X4 n1 s1 rfl (by decide) fk_X0_44 rfl dX0_holdsEnough_54 ?_
      refine vl_iload_n 1 rfl dX0_holdsEnough_57 ?_
      refine vl_aldc1 (h := 9) (n := 807) (ni := 807) n9 (by decide) s9 (by decide) rfl g6 dX0_holdsEnough_58 ?_
      refine vl_aload_n 0 rfl dX0_holdsEnough_59 ?_
      refine vl_getR (h := 22) (k0 := 0) (h2 := 1) iu_X0 n22 s22 rfl (by decide) fk_X0_9 rfl dX0_holdsEnough_60 ?_
      refine vl_getIc (h := 1) (k0 := 0) (ki := 0) iu_X4 n1 (by decide) s1 rfl (by decide) fk_X0_60 rfl rfl dX0_holdsEnough_63 ?_
      obtain ⟨g10, hE⟩ := vl_ok_gd hE
      refine vl_icmp_gt (tgt := 73) dX0_holdsEnough_66 (by decide) g8 g10 hE (fun c11 hE => ?_) (fun c11 hE => ?_)
      · refine vl_iconst dX0_holdsEnough_73 ?_
        exact vl_ret (r := 0) rfl ⟨dX0_holdsEnough_74, by decide⟩ hE (hP' (0))
      · refine vl_iconst dX0_holdsEnough_69 ?_
        refine vl_goto (tgt := 74) dX0_holdsEnough_70 (by decide) ?_
        exact vl_ret (r := 1) rfl ⟨dX0_holdsEnough_74, by decide⟩ hE (hP' (1))
  refine vl_icmp_ne (tgt := 37) dX0_holdsEnough_16 (by decide) g2 g3 hE (fun c19 hE => ?_) (fun c19 hE => ?_)
  · exact vl_wk [1, 2, 0] rfl (hκ5 v1 hE)
  · refine vl_aload_n 1 rfl dX0_holdsEnough_19 ?_
    refine vl_getR (h := 22) (k0 := 0) (h2 := 1) iu_X0 n22 s22 rfl (by decide) fk_X0_9 rfl dX0_holdsEnough_20 ?_
    refine vl_getR (h := 1) (k0 := 2) (h2 := 2) iu_X4 n1 s1 rfl (by decide) fk_X0_39 rfl dX0_holdsEnough_23 ?_
    refine vl_iload_n 2 rfl dX0_holdsEnough_26 ?_
    refine vl_aldc (h := 2) (n := 807) (ni := 807) n2 (by decide) s2 (by decide) rfl dX0_holdsEnough_27 hE (fun g13 g14 hE => ?_)
    obtain ⟨g15, hE⟩ := vl_ok_gd hE
    refine vl_jnr (J := fun κ : Int → Option (Int) => ∀ (v16 : Int), vl_ok P (κ v16) → vl_V nc S sc kX0_holdsEnough d Post 36 [(0, .ref 22), (1, vl_iv a1)] [vl_iv v16] m ρ) ?_ hE (fun κ17 hκ17 hE => ?_)
    · intro v16 hE
      refine vl_istore_n0 rfl (lv' := [(2, vl_iv v16), (0, .ref 22), (1, vl_iv a1)]) dX0_holdsEnough_36 (by decide) rfl ?_
      exact vl_wk [1, 2, 0] rfl (hκ5 v16 hE)
    refine vl_if_ne (tgt := 35) dX0_holdsEnough_28 (by decide) g15  hE (fun c18 hE => ?_) (fun c18 hE => ?_)
    · refine vl_iconst dX0_holdsEnough_35 ?_
      exact vl_wk [1, 2] rfl (hκ17 2 hE)
    · refine vl_iconst dX0_holdsEnough_31 ?_
      refine vl_goto (tgt := 36) dX0_holdsEnough_32 (by decide) ?_
      exact vl_wk [1, 2] rfl (hκ17 0 hE)
set_option maxRecDepth 100000 in
set_option maxHeartbeats 4000000 in
theorem vx_X1_groupsOf {nc : Nat} {S : vl_Sh} {sc : Nat × (Nat → Int32)} {w : Nat} (hG : vl_G2 nc S w) {d : Nat} (hd : 0 ≤ d) {Post : Int → vl_M → vl_M → Prop} {m ρ : vl_M} {a1 : Int} (hE : vl_ok (fun r : Int => Post r m ρ) (fn_X1_groupsOf m a1)) : vl_V nc S sc kX1_groupsOf d Post 0 [(0, .ref 16), (1, vl_iv a1)] [] m ρ := by
  generalize hP : (fun r : Int => Post r m ρ) = P at hE
  have hP' : ∀ r : Int, P r → Post r m ρ := fun b h => by rw [← hP] at h; exact h
  clear hP
  have s1 : S 1 = .inr (4, [0, 0, 5, 6, 7, 8, 9, 10, 11, 12, 0, 13, 0, 0, 0, 0, 0]) := hG.2.1 1 (by decide) (by decide)
  have n1 : 1 < nc := Nat.lt_of_lt_of_le (by decide) hG.1
  have s16 : S 16 = .inr (1, [4, 14, 20, 0]) := hG.2.1 16 (by decide) (by decide)
  have n16 : 16 < nc := Nat.lt_of_lt_of_le (by decide) hG.1
  unfold fn_X1_groupsOf at hE
  refine vl_iload_n 1 rfl dX1_groupsOf_0 ?_
  refine vl_aload_n 0 rfl dX1_groupsOf_1 ?_
  refine vl_getR (h := 16) (k0 := 0) (h2 := 1) iu_X1 n16 s16 rfl (by decide) fk_X1_15 rfl dX1_groupsOf_2 ?_
  refine vl_getIc (h := 1) (k0 := 0) (ki := 0) iu_X4 n1 (by decide) s1 rfl (by decide) fk_X1_65 rfl rfl dX1_groupsOf_5 ?_
  refine vl_iadd dX1_groupsOf_8 ?_
  refine vl_iconst dX1_groupsOf_9 ?_
  refine vl_isub dX1_groupsOf_10 ?_
  refine vl_aload_n 0 rfl dX1_groupsOf_11 ?_
  refine vl_getR (h := 16) (k0 := 0) (h2 := 1) iu_X1 n16 s16 rfl (by decide) fk_X1_15 rfl dX1_groupsOf_12 ?_
  refine vl_getIc (h := 1) (k0 := 0) (ki := 0) iu_X4 n1 (by decide) s1 rfl (by decide) fk_X1_65 rfl rfl dX1_groupsOf_15 ?_
  obtain ⟨g1, hE⟩ := vl_ok_gd hE
  obtain ⟨g2, hE⟩ := vl_ok_gd hE
  refine vl_idiv g1 g2 dX1_groupsOf_18 ?_
  exact vl_ret (r := (((a1 + (m 1 0)) - 1) / (m 1 0))) rfl dX1_groupsOf_19 hE (hP' (((a1 + (m 1 0)) - 1) / (m 1 0)))
set_option maxRecDepth 100000 in
set_option maxHeartbeats 4000000 in
theorem vx_X6_open {nc : Nat} {S : vl_Sh} {sc : Nat × (Nat → Int32)} {w : Nat} (hG : vl_G2 nc S w) {d : Nat} (hd : 0 ≤ d) {Post : Int → vl_M → vl_M → Prop} {m ρ : vl_M} (hE : vl_ok (fun b : vl_M => Post 0 b ρ) (fn_X6_open m )) : vl_V nc S sc kX6_open d Post 0 [(0, .ref 18)] [] m ρ := by
  generalize hP : (fun b : vl_M => Post 0 b ρ) = P at hE
  have hP' : ∀ b : vl_M, P b → Post 0 b ρ := fun b h => by rw [← hP] at h; exact h
  clear hP
  have s18 : S 18 = .inr (6, [4, 14, 0, 0, 0, 0, 0]) := hG.2.1 18 (by decide) (by decide)
  have n18 : 18 < nc := Nat.lt_of_lt_of_le (by decide) hG.1
  unfold fn_X6_open at hE
  refine vl_aload_n 0 rfl dX6_open_0 ?_
  refine vl_iconst dX6_open_1 ?_
  refine vl_putIc (h := 18) (k0 := 2) (ki := 2) iu_X6 tyX6_ok nmX6 n18 (by decide) s18 rfl (by decide) fk_X6_19 rfl rfl rfl (vl_nZ (by decide)) dX6_open_2 hE (fun m1 hE => ?_)
  refine vl_aload_n 0 rfl dX6_open_5 ?_
  refine vl_iconst dX6_open_6 ?_
  refine vl_putIc (h := 18) (k0 := 3) (ki := 3) iu_X6 tyX6_ok nmX6 n18 (by decide) s18 rfl (by decide) fk_X6_23 rfl rfl rfl (vl_nI _) dX6_open_7 hE (fun m2 hE => ?_)
  refine vl_aload_n 0 rfl dX6_open_10 ?_
  refine vl_iconst dX6_open_11 ?_
  refine vl_putIc (h := 18) (k0 := 4) (ki := 4) iu_X6 tyX6_ok nmX6 n18 (by decide) s18 rfl (by decide) fk_X6_27 rfl rfl rfl (vl_nI _) dX6_open_12 hE (fun m3 hE => ?_)
  refine vl_aload_n 0 rfl dX6_open_15 ?_
  refine vl_iconst dX6_open_16 ?_
  refine vl_putIc (h := 18) (k0 := 5) (ki := 5) iu_X6 tyX6_ok nmX6 n18 (by decide) s18 rfl (by decide) fk_X6_30 rfl rfl rfl (vl_nI _) dX6_open_17 hE (fun m4 hE => ?_)
  exact vl_ret (r := 0) rfl dX6_open_20 hE (hP' m4)
set_option maxRecDepth 100000 in
set_option maxHeartbeats 4000000 in
theorem vx_X6_shut {nc : Nat} {S : vl_Sh} {sc : Nat × (Nat → Int32)} {w : Nat} (hG : vl_G2 nc S w) {d : Nat} (hd : 0 ≤ d) {Post : Int → vl_M → vl_M → Prop} {m ρ : vl_M} (hE : vl_ok (fun b : vl_M => Post 0 b ρ) (fn_X6_shut m )) : vl_V nc S sc kX6_shut d Post 0 [(0, .ref 18)] [] m ρ := by
  generalize hP : (fun b : vl_M => Post 0 b ρ) = P at hE
  have hP' : ∀ b : vl_M, P b → Post 0 b ρ := fun b h => by rw [← hP] at h; exact h
  clear hP
  have s18 : S 18 = .inr (6, [4, 14, 0, 0, 0, 0, 0]) := hG.2.1 18 (by decide) (by decide)
  have n18 : 18 < nc := Nat.lt_of_lt_of_le (by decide) hG.1
  unfold fn_X6_shut at hE
  refine vl_aload_n 0 rfl dX6_shut_0 ?_
  refine vl_iconst dX6_shut_1 ?_
  refine vl_putIc (h := 18) (k0 := 2) (ki := 2) iu_X6 tyX6_ok nmX6 n18 (by decide) s18 rfl (by decide) fk_X6_19 rfl rfl rfl (vl_nZ (by decide)) dX6_shut_2 hE (fun m1 hE => ?_)
  exact vl_ret (r := 0) rfl dX6_shut_5 hE (hP' m1)
set_option maxRecDepth 100000 in
set_option maxHeartbeats 4000000 in
theorem vx_X0_holdsRightly {nc : Nat} {S : vl_Sh} {sc : Nat × (Nat → Int32)} {w : Nat} (hG : vl_G2 nc S w) {N : Nat} {d : Nat} (hd : 1 ≤ d) {Post : Int → vl_M → vl_M → Prop} {m ρ : vl_M} {a1 : Int} (hE : vl_ok (fun r : Int => Post r m ρ) (fn_X0_holdsRightly w N m a1)) : vl_V nc S sc kX0_holdsRightly d Post 0 [(0, .ref 22), (1, vl_iv a1)] [] m ρ := by
  generalize hP : (fun r : Int => Post r m ρ) = P at hE
  have hP' : ∀ r : Int, P r → Post r m ρ := fun b h => by rw [← hP] at h; exact h
  clear hP
  have s1 : S 1 = .inr (4, [0, 0, 5, 6, 7, 8, 9, 10, 11, 12, 0, 13, 0, 0, 0, 0, 0]) := hG.2.1 1 (by decide) (by decide)
  have n1 : 1 < nc := Nat.lt_of_lt_of_le (by decide) hG.1
  have s2 : S 2 = .inl 807 := hG.2.1 2 (by decide) (by decide)
  have n2 : 2 < nc := Nat.lt_of_lt_of_le (by decide) hG.1
  have s8 : S 8 = .inl 807 := hG.2.1 8 (by decide) (by decide)
  have n8 : 8 < nc := Nat.lt_of_lt_of_le (by decide) hG.1
  have s9 : S 9 = .inl 807 := hG.2.1 9 (by decide) (by decide)
  have n9 : 9 < nc := Nat.lt_of_lt_of_le (by decide) hG.1
  have s22 : S 22 = .inr (0, [4, 14]) := hG.2.1 22 (by decide) (by decide)
  have n22 : 22 < nc := Nat.lt_of_lt_of_le (by decide) hG.1
  unfold fn_X0_holdsRightly at hE
  refine vl_iconst dX0_holdsRightly_0 ?_
  refine vl_istore_n0 rfl (lv' := [(2, vl_iv 0), (0, .ref 22), (1, vl_iv a1)]) dX0_holdsRightly_1 (by decide) rfl ?_
  refine vl_lpr (F := fun κ : Int → Option (Int) => fn_X0_holdsRightly_L2 w N m a1 κ N 0) (J := fun κ => ∀ (v2 : Int), vl_ok P (κ v2) → vl_V nc S sc kX0_holdsRightly d Post 69 [] [] m ρ) ?_ hE (fun κ hκL21 hE => ?_)
  · intro v2 hE
    refine vl_iconst dX0_holdsRightly_69 ?_
    exact vl_ret (r := 1) rfl ⟨dX0_holdsRightly_70, by decide⟩ hE (hP' (1))
  have hL2_ : ∀ (n : Nat) (v1 : Int), vl_ok P (fn_X0_holdsRightly_L2 w N m a1 κ n v1) → vl_V nc S sc kX0_holdsRightly d Post 2 [(0, .ref 22), (1, vl_iv a1), (2, vl_iv v1)] [] m ρ := by
    intro n
    induction n with
    | zero => intro v1 hE; exact vl_no hE
    | succ n ih2_ =>
      intro v1 hE
      rw [fn_X0_holdsRightly_L2] at hE
      refine vl_iload_n 2 rfl dX0_holdsRightly_2 ?_
      refine vl_aload_n 0 rfl dX0_holdsRightly_3 ?_
      refine vl_getR (h := 22) (k0 := 0) (h2 := 1) iu_X0 n22 s22 rfl (by decide) fk_X0_9 rfl dX0_holdsRightly_4 ?_
      refine vl_getR (h := 1) (k0 := 9) (h2 := 9) iu_X4 n1 s1 rfl (by decide) fk_X0_44 rfl dX0_holdsRightly_7 ?_
      refine vl_iload_n 1 rfl dX0_holdsRightly_10 ?_
      refine vl_aldc (h := 9) (n := 807) (ni := 807) n9 (by decide) s9 (by decide) rfl dX0_holdsRightly_11 hE (fun g3 g4 hE => ?_)
      obtain ⟨g5, hE⟩ := vl_ok_gd hE
      obtain ⟨g6, hE⟩ := vl_ok_gd hE
      refine vl_icmp_ge (tgt := 69) dX0_holdsRightly_12 (by decide) g5 g6 hE (fun c16 hE => ?_) (fun c16 hE => ?_)
      · exact vl_wk [] rfl (hκL21 v1 hE)
      · refine vl_aload_n 0 rfl dX0_holdsRightly_15 ?_
        refine vl_getR (h := 22) (k0 := 0) (h2 := 1) iu_X0 n22 s22 rfl (by decide) fk_X0_9 rfl dX0_holdsRightly_16 ?_
        refine vl_iload_n 1 rfl dX0_holdsRightly_19 ?_
        refine vl_iload_n 2 rfl dX0_holdsRightly_20 ?_
        refine vl_VpI (K' := kX4_thingAt) (d' := 0) (h := 1) (As := [vl_iv a1, vl_iv v1]) (st := []) lk_X0_63 (fun _ => rfl) (by omega) n1 s1 rfl rfl (Nat.le_of_ble_eq_true rfl) rfl (Nat.le_of_ble_eq_true rfl) dX0_holdsRightly_21 hE (fun _ h => vx_X4_thingAt (vl_G21 hG) (Nat.le_refl _) h) (fun b7 hE => ?_)
        refine vl_istore_n0 rfl (lv' := [(3, vl_iv b7), (0, .ref 22), (1, vl_iv a1), (2, vl_iv v1)]) dX0_holdsRightly_24 (by decide) rfl ?_
        refine vl_aload_n 1 rfl dX0_holdsRightly_25 ?_
        refine vl_getR (h := 22) (k0 := 0) (h2 := 1) iu_X0 n22 s22 rfl (by decide) fk_X0_9 rfl dX0_holdsRightly_26 ?_
        refine vl_getR (h := 1) (k0 := 2) (h2 := 2) iu_X4 n1 s1 rfl (by decide) fk_X0_39 rfl dX0_holdsRightly_29 ?_
        refine vl_iload_n 0 rfl dX0_holdsRightly_32 ?_
        refine vl_aldc (h := 2) (n := 807) (ni := 807) n2 (by decide) s2 (by decide) rfl dX0_holdsRightly_33 hE (fun g8 g9 hE => ?_)
        refine vl_aload_n 1 rfl dX0_holdsRightly_34 ?_
        refine vl_getR (h := 22) (k0 := 0) (h2 := 1) iu_X0 n22 s22 rfl (by decide) fk_X0_9 rfl dX0_holdsRightly_35 ?_
        refine vl_getR (h := 1) (k0 := 2) (h2 := 2) iu_X4 n1 s1 rfl (by decide) fk_X0_39 rfl dX0_holdsRightly_38 ?_
        refine vl_iload_n 2 rfl dX0_holdsRightly_41 ?_
        refine vl_aldc1 (h := 2) (n := 807) (ni := 807) n2 (by decide) s2 (by decide) rfl g3 dX0_holdsRightly_42 ?_
        refine vl_iconst dX0_holdsRightly_43 ?_
        refine vl_isub dX0_holdsRightly_44 ?_
        obtain ⟨g10, hE⟩ := vl_ok_gd hE
        obtain ⟨g11, hE⟩ := vl_ok_gd hE
        refine vl_icmp_ne (tgt := 61) dX0_holdsRightly_45 (by decide) g10 g11 hE (fun c15 hE => ?_) (fun c15 hE => ?_)
        · refine vl_iconst dX0_holdsRightly_61 ?_
          exact vl_ret (r := 0) rfl ⟨dX0_holdsRightly_62, by decide⟩ hE (hP' (0))
        · refine vl_aload_n 1 rfl dX0_holdsRightly_48 ?_
          refine vl_getR (h := 22) (k0 := 0) (h2 := 1) iu_X0 n22 s22 rfl (by decide) fk_X0_9 rfl dX0_holdsRightly_49 ?_
          refine vl_getR (h := 1) (k0 := 8) (h2 := 8) iu_X4 n1 s1 rfl (by decide) fk_X0_67 rfl dX0_holdsRightly_52 ?_
          refine vl_iload_n 0 rfl dX0_holdsRightly_55 ?_
          refine vl_aldc1 (h := 8) (n := 807) (ni := 807) n8 (by decide) s8 (by decide) rfl g8 dX0_holdsRightly_56 ?_
          refine vl_iload_n 2 rfl dX0_holdsRightly_57 ?_
          obtain ⟨g12, hE⟩ := vl_ok_gd hE
          refine vl_icmp_eq (tgt := 63) dX0_holdsRightly_58 (by decide) g12 g4 hE (fun c14 hE => ?_) (fun c14 hE => ?_)
          · refine vl_iinc 3 (fun v13 => [(2, vl_iv v13), (3, vl_iv b7), (0, .ref 22), (1, vl_iv a1)]) dX0_holdsRightly_63 rfl (by decide) (fun _ => rfl) hE (fun v13 hE => ?_)
            refine vl_goto (tgt := 2) dX0_holdsRightly_66 (by decide) ?_
            exact vl_wk [2, 3, 0] rfl (ih2_ v13 hE)
          · refine vl_iconst dX0_holdsRightly_61 ?_
            exact vl_ret (r := 0) rfl ⟨dX0_holdsRightly_62, by decide⟩ hE (hP' (0))
  exact vl_wk [1, 2, 0] rfl (hL2_ N 0 hE)
set_option maxRecDepth 100000 in
set_option maxHeartbeats 4000000 in
theorem vx_X1_gather {nc : Nat} {S : vl_Sh} {sc : Nat × (Nat → Int32)} {w : Nat} (hG : vl_G2 nc S w) {N : Nat} {d : Nat} (hd : 1 ≤ d) {Post : Int → vl_M → vl_M → Prop} {m ρ : vl_M} (hE : vl_ok (fun b : vl_M => Post 0 b ρ) (fn_X1_gather N m )) : vl_V nc S sc kX1_gather d Post 0 [(0, .ref 16)] [] m ρ := by
  generalize hP : (fun b : vl_M => Post 0 b ρ) = P at hE
  have hP' : ∀ b : vl_M, P b → Post 0 b ρ := fun b h => by rw [← hP] at h; exact h
  clear hP
  have s1 : S 1 = .inr (4, [0, 0, 5, 6, 7, 8, 9, 10, 11, 12, 0, 13, 0, 0, 0, 0, 0]) := hG.2.1 1 (by decide) (by decide)
  have n1 : 1 < nc := Nat.lt_of_lt_of_le (by decide) hG.1
  have s16 : S 16 = .inr (1, [4, 14, 20, 0]) := hG.2.1 16 (by decide) (by decide)
  have n16 : 16 < nc := Nat.lt_of_lt_of_le (by decide) hG.1
  have s17 : S 17 = .inl 400 := hG.2.1 17 (by decide) (by decide)
  have n17 : 17 < nc := Nat.lt_of_lt_of_le (by decide) hG.1
  unfold fn_X1_gather at hE
  refine vl_aload_n 0 rfl dX1_gather_0 ?_
  refine vl_iconst dX1_gather_1 ?_
  refine vl_putIc (h := 16) (k0 := 3) (ki := 3) iu_X1 tyX1_ok nmX1 n16 (by decide) s16 rfl (by decide) fk_X1_26 rfl rfl rfl (vl_nI _) dX1_gather_2 hE (fun m1 hE => ?_)
  refine vl_iconst dX1_gather_5 ?_
  refine vl_istore_n0 rfl (lv' := [(1, vl_iv 0), (0, .ref 16)]) dX1_gather_6 (by decide) rfl ?_
  refine vl_lpr (F := fun κ : Int → vl_M → Option (vl_M) => fn_X1_gather_L7 N  κ N 0 m1) (J := fun κ => ∀ (v4 : Int) (m5 : vl_M), vl_ok P (κ v4 m5) → vl_V nc S sc kX1_gather d Post 52 [] [] m5 ρ) ?_ hE (fun κ hκL73 hE => ?_)
  · intro v4 m5 hE
    exact vl_ret (r := 0) rfl dX1_gather_52 hE (hP' m5)
  have hL7_ : ∀ (n : Nat) (v2 : Int) (m3 : vl_M), vl_ok P (fn_X1_gather_L7 N  κ n v2 m3) → vl_V nc S sc kX1_gather d Post 7 [(0, .ref 16), (1, vl_iv v2)] [] m3 ρ := by
    intro n
    induction n with
    | zero => intro v2 m3 hE; exact vl_no hE
    | succ n ih7_ =>
      intro v2 m3 hE
      rw [fn_X1_gather_L7] at hE
      refine vl_iload_n 1 rfl dX1_gather_7 ?_
      refine vl_aload_n 0 rfl dX1_gather_8 ?_
      refine vl_getR (h := 16) (k0 := 0) (h2 := 1) iu_X1 n16 s16 rfl (by decide) fk_X1_15 rfl dX1_gather_9 ?_
      refine vl_getIc (h := 1) (k0 := 13) (ki := 13) iu_X4 n1 (by decide) s1 rfl (by decide) fk_X1_50 rfl rfl dX1_gather_12 ?_
      obtain ⟨g6, hE⟩ := vl_ok_gd hE
      obtain ⟨g7, hE⟩ := vl_ok_gd hE
      refine vl_icmp_ge (tgt := 52) dX1_gather_15 (by decide) g6 g7 hE (fun c18 hE => ?_) (fun c18 hE => ?_)
      · exact vl_wk [] rfl (hκL73 v2 m3 hE)
      · refine vl_aload_n 0 rfl dX1_gather_18 ?_
        refine vl_getR (h := 16) (k0 := 0) (h2 := 1) iu_X1 n16 s16 rfl (by decide) fk_X1_15 rfl dX1_gather_19 ?_
        refine vl_iload_n 1 rfl dX1_gather_22 ?_
        refine vl_VpI (K' := kX4_isEntry) (d' := 0) (h := 1) (As := [vl_iv v2]) (st := []) lk_X1_53 (fun _ => rfl) (by omega) n1 s1 rfl rfl (Nat.le_of_ble_eq_true rfl) rfl (Nat.le_of_ble_eq_true rfl) dX1_gather_23 hE (fun _ h => vx_X4_isEntry (vl_G21 hG) (Nat.le_refl _) h) (fun b8 hE => ?_)
        obtain ⟨g9, hE⟩ := vl_ok_gd hE
        refine vl_jnr (J := fun κ : vl_M → Option (vl_M) => ∀ (m10 : vl_M), vl_ok P (κ m10) → vl_V nc S sc kX1_gather d Post 46 [(0, .ref 16), (1, vl_iv v2)] [] m10 ρ) ?_ hE (fun κ11 hκ11 hE => ?_)
        · intro m10 hE
          refine vl_iinc 1 (fun v12 => [(1, vl_iv v12), (0, .ref 16)]) dX1_gather_46 rfl (by decide) (fun _ => rfl) hE (fun v12 hE => ?_)
          refine vl_goto (tgt := 7) dX1_gather_49 (by decide) ?_
          exact vl_wk [1, 0] rfl (ih7_ v12 m10 hE)
        refine vl_if_eq (tgt := 46) dX1_gather_26 (by decide) g9  hE (fun c17 hE => ?_) (fun c17 hE => ?_)
        · exact (hκ11 m3 hE)
        · refine vl_aload_n 0 rfl dX1_gather_29 ?_
          refine vl_getR (h := 16) (k0 := 2) (h2 := 17) iu_X1 n16 s16 rfl (by decide) fk_X1_9 rfl dX1_gather_30 ?_
          refine vl_aload_n 0 rfl dX1_gather_33 ?_
          refine vl_dup rfl dX1_gather_34 ?_
          refine vl_getIc (h := 16) (k0 := 3) (ki := 3) iu_X1 n16 (by decide) s16 rfl (by decide) fk_X1_26 rfl rfl dX1_gather_35 ?_
          refine vl_dup_x1 rfl rfl dX1_gather_38 ?_
          refine vl_iconst dX1_gather_39 ?_
          refine vl_iadd dX1_gather_40 ?_
          refine vl_putIc (h := 16) (k0 := 3) (ki := 3) iu_X1 tyX1_ok nmX1 n16 (by decide) s16 rfl (by decide) fk_X1_26 rfl rfl rfl (vl_nI _) dX1_gather_41 hE (fun m13 hE => ?_)
          refine vl_iload_n 1 rfl dX1_gather_44 ?_
          refine vl_astc (h := 17) (n := 400) (ni := 400) n17 (by decide) s17 (by decide) rfl dX1_gather_45 hE (fun g15 g16 m14 hE => ?_)
          exact (hκ11 m14 hE)
  exact vl_wk [1, 0] rfl (hL7_ N 0 m1 hE)
set_option maxRecDepth 100000 in
set_option maxHeartbeats 4000000 in
theorem vx_X1_startOf {nc : Nat} {S : vl_Sh} {sc : Nat × (Nat → Int32)} {w : Nat} (hG : vl_G2 nc S w) {d : Nat} (hd : 1 ≤ d) {Post : Int → vl_M → vl_M → Prop} {m ρ : vl_M} {a1 a2 : Int} (hE : vl_ok (fun r : Int => Post r m ρ) (fn_X1_startOf m a1 a2)) : vl_V nc S sc kX1_startOf d Post 0 [(0, .ref 16), (1, vl_iv a1), (2, vl_iv a2)] [] m ρ := by
  generalize hP : (fun r : Int => Post r m ρ) = P at hE
  have hP' : ∀ r : Int, P r → Post r m ρ := fun b h => by rw [← hP] at h; exact h
  clear hP
  have s1 : S 1 = .inr (4, [0, 0, 5, 6, 7, 8, 9, 10, 11, 12, 0, 13, 0, 0, 0, 0, 0]) := hG.2.1 1 (by decide) (by decide)
  have n1 : 1 < nc := Nat.lt_of_lt_of_le (by decide) hG.1
  have s16 : S 16 = .inr (1, [4, 14, 20, 0]) := hG.2.1 16 (by decide) (by decide)
  have n16 : 16 < nc := Nat.lt_of_lt_of_le (by decide) hG.1
  unfold fn_X1_startOf at hE
  refine vl_iload_n 1 rfl dX1_startOf_0 ?_
  refine vl_iload_n 2 rfl dX1_startOf_1 ?_
  obtain ⟨g1, hE⟩ := vl_ok_gd hE
  obtain ⟨g2, hE⟩ := vl_ok_gd hE
  refine vl_icmp_ne (tgt := 10) dX1_startOf_2 (by decide) g1 g2 hE (fun c13 hE => ?_) (fun c13 hE => ?_)
  · refine vl_iload_n 1 rfl dX1_startOf_10 ?_
    refine vl_aload_n 0 rfl dX1_startOf_11 ?_
    refine vl_getR (h := 16) (k0 := 0) (h2 := 1) iu_X1 n16 s16 rfl (by decide) fk_X1_15 rfl dX1_startOf_12 ?_
    refine vl_getIc (h := 1) (k0 := 0) (ki := 0) iu_X4 n1 (by decide) s1 rfl (by decide) fk_X1_65 rfl rfl dX1_startOf_15 ?_
    refine vl_imul dX1_startOf_18 ?_
    refine vl_istore_n rfl (fun v3 => [(3, vl_iv v3), (0, .ref 16), (1, vl_iv a1), (2, vl_iv a2)]) dX1_startOf_19 (by decide) (fun _ => rfl) hE (fun v3 hE => ?_)
    refine vl_iload_n 2 rfl dX1_startOf_20 ?_
    refine vl_jnr (J := fun κ : Int → Option (Int) => ∀ (v4 : Int), vl_ok P (κ v4) → vl_V nc S sc kX1_startOf d Post 36 [(0, .ref 16), (3, vl_iv v3)] [vl_iv v4] m ρ) ?_ hE (fun κ5 hκ5 hE => ?_)
    · intro v4 hE
      refine vl_istore0 (lv' := [(4, vl_iv v4), (0, .ref 16), (3, vl_iv v3)]) dX1_startOf_36 (by decide) rfl ?_
      refine vl_iload 0 rfl dX1_startOf_38 ?_
      obtain ⟨g6, hE⟩ := vl_ok_gd hE
      refine vl_if_eq (tgt := 62) dX1_startOf_40 (by decide) g6  hE (fun c9 hE => ?_) (fun c9 hE => ?_)
      · refine vl_iload_n 2 rfl dX1_startOf_62 ?_
        exact vl_ret (r := v3) rfl dX1_startOf_63 hE (hP' (v3))
      · refine vl_iload_n 2 rfl dX1_startOf_43 ?_
        refine vl_aload_n 1 rfl dX1_startOf_44 ?_
        refine vl_getIc (h := 16) (k0 := 3) (ki := 3) iu_X1 n16 (by decide) s16 rfl (by decide) fk_X1_26 rfl rfl dX1_startOf_45 ?_
        refine vl_aload_n 1 rfl dX1_startOf_48 ?_
        refine vl_getR (h := 16) (k0 := 0) (h2 := 1) iu_X1 n16 s16 rfl (by decide) fk_X1_15 rfl dX1_startOf_49 ?_
        refine vl_getIc (h := 1) (k0 := 1) (ki := 1) iu_X4 n1 (by decide) s1 rfl (by decide) fk_X1_110 rfl rfl dX1_startOf_52 ?_
        refine vl_isub dX1_startOf_55 ?_
        obtain ⟨g7, hE⟩ := vl_ok_gd hE
        obtain ⟨g8, hE⟩ := vl_ok_gd hE
        refine vl_mmin lk_X1_68 (by omega) g7 g8 (Nat.le_of_ble_eq_true rfl) dX1_startOf_56 ?_
        refine vl_goto (tgt := 63) dX1_startOf_59 (by decide) ?_
        exact vl_ret (r := (min v3 ((m 16 3) - (m 1 1)))) rfl dX1_startOf_63 hE (hP' (min v3 ((m 16 3) - (m 1 1))))
    refine vl_if_le (tgt := 35) dX1_startOf_21 (by decide) g1  hE (fun c12 hE => ?_) (fun c12 hE => ?_)
    · refine vl_iconst dX1_startOf_35 ?_
      exact vl_wk [1, 0] rfl (hκ5 0 hE)
    · refine vl_iload_n 2 rfl dX1_startOf_24 ?_
      refine vl_iload_n 3 rfl dX1_startOf_25 ?_
      refine vl_iconst dX1_startOf_26 ?_
      refine vl_isub dX1_startOf_27 ?_
      obtain ⟨g10, hE⟩ := vl_ok_gd hE
      refine vl_icmp_ne (tgt := 35) dX1_startOf_28 (by decide) g1 g10 hE (fun c11 hE => ?_) (fun c11 hE => ?_)
      · refine vl_iconst dX1_startOf_35 ?_
        exact vl_wk [1, 0] rfl (hκ5 0 hE)
      · refine vl_iconst dX1_startOf_31 ?_
        refine vl_goto (tgt := 36) dX1_startOf_32 (by decide) ?_
        exact vl_wk [1, 0] rfl (hκ5 1 hE)
  · refine vl_aload_n 0 rfl dX1_startOf_5 ?_
    refine vl_getIc (h := 16) (k0 := 3) (ki := 3) iu_X1 n16 (by decide) s16 rfl (by decide) fk_X1_26 rfl rfl dX1_startOf_6 ?_
    exact vl_ret (r := (m 16 3)) rfl dX1_startOf_9 hE (hP' (m 16 3))
set_option maxRecDepth 100000 in
set_option maxHeartbeats 4000000 in
theorem vx_X6_lookAt {nc : Nat} {S : vl_Sh} {sc : Nat × (Nat → Int32)} {w : Nat} (hG : vl_G2 nc S w) {d : Nat} (hd : 1 ≤ d) {Post : Int → vl_M → vl_M → Prop} {m ρ : vl_M} {a1 : Int} (hE : vl_ok (fun b : vl_M => Post 0 b ρ) (fn_X6_lookAt m a1)) : vl_V nc S sc kX6_lookAt d Post 0 [(0, .ref 18), (1, vl_iv a1)] [] m ρ := by
  generalize hP : (fun b : vl_M => Post 0 b ρ) = P at hE
  have hP' : ∀ b : vl_M, P b → Post 0 b ρ := fun b h => by rw [← hP] at h; exact h
  clear hP
  have s1 : S 1 = .inr (4, [0, 0, 5, 6, 7, 8, 9, 10, 11, 12, 0, 13, 0, 0, 0, 0, 0]) := hG.2.1 1 (by decide) (by decide)
  have n1 : 1 < nc := Nat.lt_of_lt_of_le (by decide) hG.1
  have s2 : S 2 = .inl 807 := hG.2.1 2 (by decide) (by decide)
  have n2 : 2 < nc := Nat.lt_of_lt_of_le (by decide) hG.1
  have s11 : S 11 = .inr (5, [4, 17, 15, 0, 16, 0, 0, 0, 0, 0]) := hG.2.1 11 (by decide) (by decide)
  have n11 : 11 < nc := Nat.lt_of_lt_of_le (by decide) hG.1
  have s18 : S 18 = .inr (6, [4, 14, 0, 0, 0, 0, 0]) := hG.2.1 18 (by decide) (by decide)
  have n18 : 18 < nc := Nat.lt_of_lt_of_le (by decide) hG.1
  unfold fn_X6_lookAt at hE
  refine vl_iload_n 1 rfl dX6_lookAt_0 ?_
  refine vl_aload_n 0 rfl dX6_lookAt_1 ?_
  refine vl_getR (h := 18) (k0 := 1) (h2 := 11) iu_X6 n18 s18 rfl (by decide) fk_X6_15 rfl dX6_lookAt_2 ?_
  refine vl_getIc (h := 11) (k0 := 6) (ki := 6) iu_X5 n11 (by decide) s11 rfl (by decide) fk_X6_50 rfl rfl dX6_lookAt_5 ?_
  obtain ⟨g1, hE⟩ := vl_ok_gd hE
  obtain ⟨g2, hE⟩ := vl_ok_gd hE
  refine vl_jnr (J := fun κ : Unit → Option (vl_M) => ∀ (u_κ3 : Unit), vl_ok P (κ u_κ3) → vl_V nc S sc kX6_lookAt d Post 26 [(0, .ref 18), (1, vl_iv a1)] [] m ρ) ?_ hE (fun κ3 hκ3 hE => ?_)
  · intro u_κ3 hE
    refine vl_aload_n 0 rfl dX6_lookAt_26 ?_
    refine vl_dup rfl dX6_lookAt_27 ?_
    refine vl_getIc (h := 18) (k0 := 3) (ki := 3) iu_X6 n18 (by decide) s18 rfl (by decide) fk_X6_23 rfl rfl dX6_lookAt_28 ?_
    refine vl_iconst dX6_lookAt_31 ?_
    refine vl_iadd dX6_lookAt_32 ?_
    refine vl_putIc (h := 18) (k0 := 3) (ki := 3) iu_X6 tyX6_ok nmX6 n18 (by decide) s18 rfl (by decide) fk_X6_23 rfl rfl rfl (vl_nI _) dX6_lookAt_33 hE (fun m4 hE => ?_)
    refine vl_aload_n 0 rfl dX6_lookAt_36 ?_
    refine vl_getR (h := 18) (k0 := 0) (h2 := 1) iu_X6 n18 s18 rfl (by decide) fk_X6_9 rfl dX6_lookAt_37 ?_
    refine vl_getR (h := 1) (k0 := 2) (h2 := 2) iu_X4 n1 s1 rfl (by decide) fk_X6_59 rfl dX6_lookAt_40 ?_
    refine vl_iload_n 1 rfl dX6_lookAt_43 ?_
    refine vl_aldc (h := 2) (n := 807) (ni := 807) n2 (by decide) s2 (by decide) rfl dX6_lookAt_44 hE (fun g5 g6 hE => ?_)
    obtain ⟨g7, hE⟩ := vl_ok_gd hE
    refine vl_if_ne (tgt := 58) dX6_lookAt_45 (by decide) g7  hE (fun c10 hE => ?_) (fun c10 hE => ?_)
    · exact vl_ret (r := 0) rfl dX6_lookAt_58 hE (hP' m4)
    · refine vl_aload_n 0 rfl dX6_lookAt_48 ?_
      refine vl_iload_n 1 rfl dX6_lookAt_49 ?_
      refine vl_putIc (h := 18) (k0 := 5) (ki := 5) iu_X6 tyX6_ok nmX6 n18 (by decide) s18 rfl (by decide) fk_X6_30 rfl rfl rfl (vl_nI _) dX6_lookAt_50 hE (fun m8 hE => ?_)
      refine vl_aload_n 0 rfl dX6_lookAt_53 ?_
      refine vl_iconst dX6_lookAt_54 ?_
      refine vl_putIc (h := 18) (k0 := 6) (ki := 6) iu_X6 tyX6_ok nmX6 n18 (by decide) s18 rfl (by decide) fk_X6_62 rfl rfl rfl (vl_nI _) dX6_lookAt_55 hE (fun m9 hE => ?_)
      exact vl_ret (r := 0) rfl dX6_lookAt_58 hE (hP' m9)
  refine vl_icmp_eq (tgt := 26) dX6_lookAt_8 (by decide) g1 g2 hE (fun c14 hE => ?_) (fun c14 hE => ?_)
  · exact (hκ3 () hE)
  · refine vl_aload_n 0 rfl dX6_lookAt_11 ?_
    refine vl_getR (h := 18) (k0 := 0) (h2 := 1) iu_X6 n18 s18 rfl (by decide) fk_X6_9 rfl dX6_lookAt_12 ?_
    refine vl_iload_n 1 rfl dX6_lookAt_15 ?_
    refine vl_sipush (by decide) dX6_lookAt_16 ?_
    refine vl_VpI (K' := kX4_meet) (d' := 0) (h := 1) (As := [vl_iv a1, vl_iv 804]) (st := []) lk_X6_53 (fun _ => rfl) (by omega) n1 s1 rfl rfl (Nat.le_of_ble_eq_true rfl) rfl (Nat.le_of_ble_eq_true rfl) dX6_lookAt_19 hE (fun _ h => vx_X4_meet (vl_G21 hG) (Nat.le_refl _) h) (fun b11 hE => ?_)
    obtain ⟨g12, hE⟩ := vl_ok_gd hE
    refine vl_if_ne (tgt := 26) dX6_lookAt_22 (by decide) g12  hE (fun c13 hE => ?_) (fun c13 hE => ?_)
    · exact (hκ3 () hE)
    · exact vl_ret (r := 0) rfl dX6_lookAt_25 hE (hP' m)
set_option maxRecDepth 100000 in
set_option maxHeartbeats 4000000 in
theorem vx_X6_nextInLeaf {nc : Nat} {S : vl_Sh} {sc : Nat × (Nat → Int32)} {w : Nat} (hG : vl_G2 nc S w) {N : Nat} {d : Nat} (hd : 1 ≤ d) {Post : Int → vl_M → vl_M → Prop} {m ρ : vl_M} (hE : vl_ok (fun b : Int × vl_M => Post b.1 b.2 ρ) (fn_X6_nextInLeaf w N m )) : vl_V nc S sc kX6_nextInLeaf d Post 0 [(0, .ref 18)] [] m ρ := by
  generalize hP : (fun b : Int × vl_M => Post b.1 b.2 ρ) = P at hE
  have hP' : ∀ b : Int × vl_M, P b → Post b.1 b.2 ρ := fun b h => by rw [← hP] at h; exact h
  clear hP
  have s1 : S 1 = .inr (4, [0, 0, 5, 6, 7, 8, 9, 10, 11, 12, 0, 13, 0, 0, 0, 0, 0]) := hG.2.1 1 (by decide) (by decide)
  have n1 : 1 < nc := Nat.lt_of_lt_of_le (by decide) hG.1
  have s9 : S 9 = .inl 807 := hG.2.1 9 (by decide) (by decide)
  have n9 : 9 < nc := Nat.lt_of_lt_of_le (by decide) hG.1
  have s18 : S 18 = .inr (6, [4, 14, 0, 0, 0, 0, 0]) := hG.2.1 18 (by decide) (by decide)
  have n18 : 18 < nc := Nat.lt_of_lt_of_le (by decide) hG.1
  unfold fn_X6_nextInLeaf at hE
  refine vl_aload_n 0 rfl dX6_nextInLeaf_0 ?_
  refine vl_getIc (h := 18) (k0 := 5) (ki := 5) iu_X6 n18 (by decide) s18 rfl (by decide) fk_X6_30 rfl rfl dX6_nextInLeaf_1 ?_
  refine vl_iconst dX6_nextInLeaf_4 ?_
  obtain ⟨g1, hE⟩ := vl_ok_gd hE
  refine vl_icmp_ne (tgt := 10) dX6_nextInLeaf_5 (by decide) g1 (by decide) hE (fun c15 hE => ?_) (fun c15 hE => ?_)
  · refine vl_lpr (F := fun κ : vl_M → Option (Int × vl_M) => fn_X6_nextInLeaf_L10 w N  κ N m) (J := fun κ => ∀ (m3 : vl_M), vl_ok P (κ m3) → vl_V nc S sc kX6_nextInLeaf d Post 74 [(0, .ref 18)] [] m3 ρ) ?_ hE (fun κ hκL102 hE => ?_)
    · intro m3 hE
      refine vl_aload_n 0 rfl dX6_nextInLeaf_74 ?_
      refine vl_iconst dX6_nextInLeaf_75 ?_
      refine vl_putIc (h := 18) (k0 := 5) (ki := 5) iu_X6 tyX6_ok nmX6 n18 (by decide) s18 rfl (by decide) fk_X6_30 rfl rfl rfl (vl_nI _) dX6_nextInLeaf_76 hE (fun m4 hE => ?_)
      refine vl_iconst dX6_nextInLeaf_79 ?_
      exact vl_ret (r := (-1)) rfl dX6_nextInLeaf_80 hE (hP' ((-1), m4))
    have hL10_ : ∀ (n : Nat) (m2 : vl_M), vl_ok P (fn_X6_nextInLeaf_L10 w N  κ n m2) → vl_V nc S sc kX6_nextInLeaf d Post 10 [(0, .ref 18)] [] m2 ρ := by
      intro n
      induction n with
      | zero => intro m2 hE; exact vl_no hE
      | succ n ih10_ =>
        intro m2 hE
        rw [fn_X6_nextInLeaf_L10] at hE
        refine vl_aload_n 0 rfl dX6_nextInLeaf_10 ?_
        refine vl_getIc (h := 18) (k0 := 6) (ki := 6) iu_X6 n18 (by decide) s18 rfl (by decide) fk_X6_62 rfl rfl dX6_nextInLeaf_11 ?_
        refine vl_aload_n 0 rfl dX6_nextInLeaf_14 ?_
        refine vl_getR (h := 18) (k0 := 0) (h2 := 1) iu_X6 n18 s18 rfl (by decide) fk_X6_9 rfl dX6_nextInLeaf_15 ?_
        refine vl_getR (h := 1) (k0 := 9) (h2 := 9) iu_X4 n1 s1 rfl (by decide) fk_X6_65 rfl dX6_nextInLeaf_18 ?_
        refine vl_aload_n 0 rfl dX6_nextInLeaf_21 ?_
        refine vl_getIc (h := 18) (k0 := 5) (ki := 5) iu_X6 n18 (by decide) s18 rfl (by decide) fk_X6_30 rfl rfl dX6_nextInLeaf_22 ?_
        refine vl_aldc (h := 9) (n := 807) (ni := 807) n9 (by decide) s9 (by decide) rfl dX6_nextInLeaf_25 hE (fun g5 g6 hE => ?_)
        obtain ⟨g7, hE⟩ := vl_ok_gd hE
        obtain ⟨g8, hE⟩ := vl_ok_gd hE
        refine vl_icmp_ge (tgt := 74) dX6_nextInLeaf_26 (by decide) g7 g8 hE (fun c14 hE => ?_) (fun c14 hE => ?_)
        · exact (hκL102 m2 hE)
        · refine vl_aload_n 0 rfl dX6_nextInLeaf_29 ?_
          refine vl_getR (h := 18) (k0 := 0) (h2 := 1) iu_X6 n18 s18 rfl (by decide) fk_X6_9 rfl dX6_nextInLeaf_30 ?_
          refine vl_aload_n 0 rfl dX6_nextInLeaf_33 ?_
          refine vl_getIc (h := 18) (k0 := 5) (ki := 5) iu_X6 n18 (by decide) s18 rfl (by decide) fk_X6_30 rfl rfl dX6_nextInLeaf_34 ?_
          refine vl_aload_n 0 rfl dX6_nextInLeaf_37 ?_
          refine vl_getIc (h := 18) (k0 := 6) (ki := 6) iu_X6 n18 (by decide) s18 rfl (by decide) fk_X6_62 rfl rfl dX6_nextInLeaf_38 ?_
          refine vl_VpI (K' := kX4_thingAt) (d' := 0) (h := 1) (As := [vl_iv (m2 18 5), vl_iv (m2 18 6)]) (st := []) lk_X6_68 (fun _ => rfl) (by omega) n1 s1 rfl rfl (Nat.le_of_ble_eq_true rfl) rfl (Nat.le_of_ble_eq_true rfl) dX6_nextInLeaf_41 hE (fun _ h => vx_X4_thingAt (vl_G21 hG) (Nat.le_refl _) h) (fun b9 hE => ?_)
          refine vl_istore_n0 rfl (lv' := [(1, vl_iv b9), (0, .ref 18)]) dX6_nextInLeaf_44 (by decide) rfl ?_
          refine vl_aload_n 1 rfl dX6_nextInLeaf_45 ?_
          refine vl_dup rfl dX6_nextInLeaf_46 ?_
          refine vl_getIc (h := 18) (k0 := 6) (ki := 6) iu_X6 n18 (by decide) s18 rfl (by decide) fk_X6_62 rfl rfl dX6_nextInLeaf_47 ?_
          refine vl_iconst dX6_nextInLeaf_50 ?_
          refine vl_iadd dX6_nextInLeaf_51 ?_
          refine vl_putIc (h := 18) (k0 := 6) (ki := 6) iu_X6 tyX6_ok nmX6 n18 (by decide) s18 rfl (by decide) fk_X6_62 rfl rfl rfl (vl_nI _) dX6_nextInLeaf_52 hE (fun m10 hE => ?_)
          refine vl_aload_n 1 rfl dX6_nextInLeaf_55 ?_
          refine vl_getR (h := 18) (k0 := 0) (h2 := 1) iu_X6 n18 s18 rfl (by decide) fk_X6_9 rfl dX6_nextInLeaf_56 ?_
          refine vl_iload_n 0 rfl dX6_nextInLeaf_59 ?_
          refine vl_sipush (by decide) dX6_nextInLeaf_60 ?_
          refine vl_VpI (K' := kX4_meet) (d' := 0) (h := 1) (As := [vl_iv b9, vl_iv 804]) (st := []) lk_X6_53 (fun _ => rfl) (by omega) n1 s1 rfl rfl (Nat.le_of_ble_eq_true rfl) rfl (Nat.le_of_ble_eq_true rfl) dX6_nextInLeaf_63 hE (fun _ h => vx_X4_meet (vl_G21 hG) (Nat.le_refl _) h) (fun b11 hE => ?_)
          obtain ⟨g12, hE⟩ := vl_ok_gd hE
          refine vl_if_eq (tgt := 71) dX6_nextInLeaf_66 (by decide) g12  hE (fun c13 hE => ?_) (fun c13 hE => ?_)
          · refine vl_goto (tgt := 10) dX6_nextInLeaf_71 (by decide) ?_
            exact vl_wk [1] rfl (ih10_ m10 hE)
          · refine vl_iload_n 0 rfl dX6_nextInLeaf_69 ?_
            exact vl_ret (r := b9) rfl dX6_nextInLeaf_70 hE (hP' (b9, m10))
    exact (hL10_ N m hE)
  · refine vl_iconst dX6_nextInLeaf_8 ?_
    exact vl_ret (r := (-1)) rfl dX6_nextInLeaf_9 hE (hP' ((-1), m))
set_option maxRecDepth 100000 in
set_option maxHeartbeats 4000000 in
theorem vx_X0_noneIsTwice {nc : Nat} {S : vl_Sh} {sc : Nat × (Nat → Int32)} {w : Nat} (hG : vl_G2 nc S w) {N : Nat} {d : Nat} (hd : 2 ≤ d) {Post : Int → vl_M → vl_M → Prop} {m ρ : vl_M} (hE : vl_ok (fun r : Int => Post r m ρ) (fn_X0_noneIsTwice N m )) : vl_V nc S sc kX0_noneIsTwice d Post 0 [(0, .ref 22)] [] m ρ := by
  generalize hP : (fun r : Int => Post r m ρ) = P at hE
  have hP' : ∀ r : Int, P r → Post r m ρ := fun b h => by rw [← hP] at h; exact h
  clear hP
  have s1 : S 1 = .inr (4, [0, 0, 5, 6, 7, 8, 9, 10, 11, 12, 0, 13, 0, 0, 0, 0, 0]) := hG.2.1 1 (by decide) (by decide)
  have n1 : 1 < nc := Nat.lt_of_lt_of_le (by decide) hG.1
  have s22 : S 22 = .inr (0, [4, 14]) := hG.2.1 22 (by decide) (by decide)
  have n22 : 22 < nc := Nat.lt_of_lt_of_le (by decide) hG.1
  unfold fn_X0_noneIsTwice at hE
  refine vl_iconst dX0_noneIsTwice_0 ?_
  refine vl_istore_n0 rfl (lv' := [(1, vl_iv 0), (0, .ref 22)]) dX0_noneIsTwice_1 (by decide) rfl ?_
  refine vl_lpr (F := fun κ : Int → Option (Int) => fn_X0_noneIsTwice_L2 N m κ N 0) (J := fun κ => ∀ (v2 : Int), vl_ok P (κ v2) → vl_V nc S sc kX0_noneIsTwice d Post 76 [] [] m ρ) ?_ hE (fun κ hκL21 hE => ?_)
  · intro v2 hE
    refine vl_iconst dX0_noneIsTwice_76 ?_
    exact vl_ret (r := 1) rfl ⟨dX0_noneIsTwice_77, by decide⟩ hE (hP' (1))
  have hL2_ : ∀ (n : Nat) (v1 : Int), vl_ok P (fn_X0_noneIsTwice_L2 N m κ n v1) → vl_V nc S sc kX0_noneIsTwice d Post 2 [(0, .ref 22), (1, vl_iv v1)] [] m ρ := by
    intro n
    induction n with
    | zero => intro v1 hE; exact vl_no hE
    | succ n ih2_ =>
      intro v1 hE
      rw [fn_X0_noneIsTwice_L2] at hE
      refine vl_iload_n 1 rfl dX0_noneIsTwice_2 ?_
      refine vl_aload_n 0 rfl dX0_noneIsTwice_3 ?_
      refine vl_getR (h := 22) (k0 := 0) (h2 := 1) iu_X0 n22 s22 rfl (by decide) fk_X0_9 rfl dX0_noneIsTwice_4 ?_
      refine vl_getIc (h := 1) (k0 := 13) (ki := 13) iu_X4 n1 (by decide) s1 rfl (by decide) fk_X0_78 rfl rfl dX0_noneIsTwice_7 ?_
      obtain ⟨g3, hE⟩ := vl_ok_gd hE
      obtain ⟨g4, hE⟩ := vl_ok_gd hE
      refine vl_icmp_ge (tgt := 76) dX0_noneIsTwice_10 (by decide) g3 g4 hE (fun c23 hE => ?_) (fun c23 hE => ?_)
      · exact vl_wk [] rfl (hκL21 v1 hE)
      · refine vl_iload_n 1 rfl dX0_noneIsTwice_13 ?_
        refine vl_iconst dX0_noneIsTwice_14 ?_
        refine vl_iadd dX0_noneIsTwice_15 ?_
        refine vl_istore_n rfl (fun v5 => [(2, vl_iv v5), (0, .ref 22), (1, vl_iv v1)]) dX0_noneIsTwice_16 (by decide) (fun _ => rfl) hE (fun v5 hE => ?_)
        refine vl_lpr (F := fun κ : Int → Option (Int) => fn_X0_noneIsTwice_L17 N m v1 κ N v5) (J := fun κ => ∀ (v7 : Int), vl_ok P (κ v7) → vl_V nc S sc kX0_noneIsTwice d Post 70 [(0, .ref 22), (1, vl_iv v1)] [] m ρ) ?_ hE (fun κ hκL176 hE => ?_)
        · intro v7 hE
          refine vl_iinc 1 (fun v8 => [(1, vl_iv v8), (0, .ref 22)]) dX0_noneIsTwice_70 rfl (by decide) (fun _ => rfl) hE (fun v8 hE => ?_)
          refine vl_goto (tgt := 2) dX0_noneIsTwice_73 (by decide) ?_
          exact vl_wk [1, 0] rfl (ih2_ v8 hE)
        have hL17_ : ∀ (n : Nat) (v6 : Int), vl_ok P (fn_X0_noneIsTwice_L17 N m v1 κ n v6) → vl_V nc S sc kX0_noneIsTwice d Post 17 [(0, .ref 22), (1, vl_iv v1), (2, vl_iv v6)] [] m ρ := by
          intro n
          induction n with
          | zero => intro v6 hE; exact vl_no hE
          | succ n ih17_ =>
            intro v6 hE
            rw [fn_X0_noneIsTwice_L17] at hE
            refine vl_iload_n 2 rfl dX0_noneIsTwice_17 ?_
            refine vl_aload_n 0 rfl dX0_noneIsTwice_18 ?_
            refine vl_getR (h := 22) (k0 := 0) (h2 := 1) iu_X0 n22 s22 rfl (by decide) fk_X0_9 rfl dX0_noneIsTwice_19 ?_
            refine vl_getIc (h := 1) (k0 := 13) (ki := 13) iu_X4 n1 (by decide) s1 rfl (by decide) fk_X0_78 rfl rfl dX0_noneIsTwice_22 ?_
            obtain ⟨g9, hE⟩ := vl_ok_gd hE
            refine vl_icmp_ge (tgt := 70) dX0_noneIsTwice_25 (by decide) g9 g4 hE (fun c22 hE => ?_) (fun c22 hE => ?_)
            · exact vl_wk [0, 1] rfl (hκL176 v6 hE)
            · refine vl_aload_n 0 rfl dX0_noneIsTwice_28 ?_
              refine vl_getR (h := 22) (k0 := 0) (h2 := 1) iu_X0 n22 s22 rfl (by decide) fk_X0_9 rfl dX0_noneIsTwice_29 ?_
              refine vl_iload_n 1 rfl dX0_noneIsTwice_32 ?_
              refine vl_VpI (K' := kX4_isEntry) (d' := 0) (h := 1) (As := [vl_iv v1]) (st := []) lk_X0_81 (fun _ => rfl) (by omega) n1 s1 rfl rfl (Nat.le_of_ble_eq_true rfl) rfl (Nat.le_of_ble_eq_true rfl) dX0_noneIsTwice_33 hE (fun _ h => vx_X4_isEntry (vl_G21 hG) (Nat.le_refl _) h) (fun b10 hE => ?_)
              obtain ⟨g11, hE⟩ := vl_ok_gd hE
              refine vl_if_eq (tgt := 64) dX0_noneIsTwice_36 (by decide) g11  hE (fun c21 hE => ?_) (fun c21 hE => ?_)
              · refine vl_iinc 2 (fun v12 => [(2, vl_iv v12), (0, .ref 22), (1, vl_iv v1)]) dX0_noneIsTwice_64 rfl (by decide) (fun _ => rfl) hE (fun v12 hE => ?_)
                refine vl_goto (tgt := 17) dX0_noneIsTwice_67 (by decide) ?_
                exact vl_wk [1, 2, 0] rfl (ih17_ v12 hE)
              · refine vl_aload_n 0 rfl dX0_noneIsTwice_39 ?_
                refine vl_getR (h := 22) (k0 := 0) (h2 := 1) iu_X0 n22 s22 rfl (by decide) fk_X0_9 rfl dX0_noneIsTwice_40 ?_
                refine vl_iload_n 2 rfl dX0_noneIsTwice_43 ?_
                refine vl_VpI (K' := kX4_isEntry) (d' := 0) (h := 1) (As := [vl_iv v6]) (st := []) lk_X0_81 (fun _ => rfl) (by omega) n1 s1 rfl rfl (Nat.le_of_ble_eq_true rfl) rfl (Nat.le_of_ble_eq_true rfl) dX0_noneIsTwice_44 hE (fun _ h => vx_X4_isEntry (vl_G21 hG) (Nat.le_refl _) h) (fun b13 hE => ?_)
                obtain ⟨g14, hE⟩ := vl_ok_gd hE
                refine vl_if_eq (tgt := 64) dX0_noneIsTwice_47 (by decide) g14  hE (fun c20 hE => ?_) (fun c20 hE => ?_)
                · refine vl_iinc 2 (fun v15 => [(2, vl_iv v15), (0, .ref 22), (1, vl_iv v1)]) dX0_noneIsTwice_64 rfl (by decide) (fun _ => rfl) hE (fun v15 hE => ?_)
                  refine vl_goto (tgt := 17) dX0_noneIsTwice_67 (by decide) ?_
                  exact vl_wk [1, 2, 0] rfl (ih17_ v15 hE)
                · refine vl_aload_n 0 rfl dX0_noneIsTwice_50 ?_
                  refine vl_getR (h := 22) (k0 := 0) (h2 := 1) iu_X0 n22 s22 rfl (by decide) fk_X0_9 rfl dX0_noneIsTwice_51 ?_
                  refine vl_iload_n 1 rfl dX0_noneIsTwice_54 ?_
                  refine vl_iload_n 2 rfl dX0_noneIsTwice_55 ?_
                  refine vl_VpI (K' := kX4_alike) (d' := 1) (h := 1) (As := [vl_iv v1, vl_iv v6]) (st := []) lk_X0_84 (fun _ => rfl) (by omega) n1 s1 rfl rfl (Nat.le_of_ble_eq_true rfl) rfl (Nat.le_of_ble_eq_true rfl) dX0_noneIsTwice_56 hE (fun _ h => vx_X4_alike (vl_G21 hG) (Nat.le_refl _) h) (fun b16 hE => ?_)
                  obtain ⟨g17, hE⟩ := vl_ok_gd hE
                  refine vl_if_eq (tgt := 64) dX0_noneIsTwice_59 (by decide) g17  hE (fun c19 hE => ?_) (fun c19 hE => ?_)
                  · refine vl_iinc 2 (fun v18 => [(2, vl_iv v18), (0, .ref 22), (1, vl_iv v1)]) dX0_noneIsTwice_64 rfl (by decide) (fun _ => rfl) hE (fun v18 hE => ?_)
                    refine vl_goto (tgt := 17) dX0_noneIsTwice_67 (by decide) ?_
                    exact vl_wk [1, 2, 0] rfl (ih17_ v18 hE)
                  · refine vl_iconst dX0_noneIsTwice_62 ?_
                    exact vl_ret (r := 0) rfl ⟨dX0_noneIsTwice_63, by decide⟩ hE (hP' (0))
        exact vl_wk [1, 2, 0] rfl (hL17_ N v5 hE)
  exact vl_wk [1, 0] rfl (hL2_ N 0 hE)
set_option maxRecDepth 100000 in
set_option maxHeartbeats 4000000 in
theorem vx_X1_compare {nc : Nat} {S : vl_Sh} {sc : Nat × (Nat → Int32)} {w : Nat} (hG : vl_G2 nc S w) {d : Nat} (hd : 2 ≤ d) {Post : Int → vl_M → vl_M → Prop} {m ρ : vl_M} {a1 a2 a3 : Int} (hE : vl_ok (fun r : Int => Post r m ρ) (fn_X1_compare m a1 a2 a3)) : vl_V nc S sc kX1_compare d Post 0 [(0, .ref 16), (1, vl_iv a1), (2, vl_iv a2), (3, vl_iv a3)] [] m ρ := by
  generalize hP : (fun r : Int => Post r m ρ) = P at hE
  have hP' : ∀ r : Int, P r → Post r m ρ := fun b h => by rw [← hP] at h; exact h
  clear hP
  have s1 : S 1 = .inr (4, [0, 0, 5, 6, 7, 8, 9, 10, 11, 12, 0, 13, 0, 0, 0, 0, 0]) := hG.2.1 1 (by decide) (by decide)
  have n1 : 1 < nc := Nat.lt_of_lt_of_le (by decide) hG.1
  have s3 : S 3 = .inl 807 := hG.2.1 3 (by decide) (by decide)
  have n3 : 3 < nc := Nat.lt_of_lt_of_le (by decide) hG.1
  have s4 : S 4 = .inl 807 := hG.2.1 4 (by decide) (by decide)
  have n4 : 4 < nc := Nat.lt_of_lt_of_le (by decide) hG.1
  have s5 : S 5 = .inl 807 := hG.2.1 5 (by decide) (by decide)
  have n5 : 5 < nc := Nat.lt_of_lt_of_le (by decide) hG.1
  have s6 : S 6 = .inl 807 := hG.2.1 6 (by decide) (by decide)
  have n6 : 6 < nc := Nat.lt_of_lt_of_le (by decide) hG.1
  have s16 : S 16 = .inr (1, [4, 14, 20, 0]) := hG.2.1 16 (by decide) (by decide)
  have n16 : 16 < nc := Nat.lt_of_lt_of_le (by decide) hG.1
  unfold fn_X1_compare at hE
  refine vl_aload_n 0 rfl dX1_compare_0 ?_
  refine vl_getR (h := 16) (k0 := 0) (h2 := 1) iu_X1 n16 s16 rfl (by decide) fk_X1_15 rfl dX1_compare_1 ?_
  refine vl_getR (h := 1) (k0 := 3) (h2 := 3) iu_X4 n1 s1 rfl (by decide) fk_X1_81 rfl dX1_compare_4 ?_
  refine vl_iload_n 1 rfl dX1_compare_7 ?_
  refine vl_aldc (h := 3) (n := 807) (ni := 807) n3 (by decide) s3 (by decide) rfl dX1_compare_8 hE (fun g1 g2 hE => ?_)
  refine vl_aload_n 0 rfl dX1_compare_9 ?_
  refine vl_getR (h := 16) (k0 := 0) (h2 := 1) iu_X1 n16 s16 rfl (by decide) fk_X1_15 rfl dX1_compare_10 ?_
  refine vl_getR (h := 1) (k0 := 5) (h2 := 5) iu_X4 n1 s1 rfl (by decide) fk_X1_84 rfl dX1_compare_13 ?_
  refine vl_iload_n 1 rfl dX1_compare_16 ?_
  refine vl_aldc1 (h := 5) (n := 807) (ni := 807) n5 (by decide) s5 (by decide) rfl g1 dX1_compare_17 ?_
  refine vl_iadd dX1_compare_18 ?_
  refine vl_aload_n 0 rfl dX1_compare_19 ?_
  refine vl_getR (h := 16) (k0 := 0) (h2 := 1) iu_X1 n16 s16 rfl (by decide) fk_X1_15 rfl dX1_compare_20 ?_
  refine vl_getR (h := 1) (k0 := 3) (h2 := 3) iu_X4 n1 s1 rfl (by decide) fk_X1_81 rfl dX1_compare_23 ?_
  refine vl_iload_n 2 rfl dX1_compare_26 ?_
  refine vl_aldc (h := 3) (n := 807) (ni := 807) n3 (by decide) s3 (by decide) rfl dX1_compare_27 hE (fun g3 g4 hE => ?_)
  refine vl_aload_n 0 rfl dX1_compare_28 ?_
  refine vl_getR (h := 16) (k0 := 0) (h2 := 1) iu_X1 n16 s16 rfl (by decide) fk_X1_15 rfl dX1_compare_29 ?_
  refine vl_getR (h := 1) (k0 := 5) (h2 := 5) iu_X4 n1 s1 rfl (by decide) fk_X1_84 rfl dX1_compare_32 ?_
  refine vl_iload_n 2 rfl dX1_compare_35 ?_
  refine vl_aldc1 (h := 5) (n := 807) (ni := 807) n5 (by decide) s5 (by decide) rfl g3 dX1_compare_36 ?_
  refine vl_iadd dX1_compare_37 ?_
  refine vl_SpI (K' := kJ6_compare_7cf53) (d' := 0) (As := [vl_iv ((m 3 a1) + (m 5 a1)), vl_iv ((m 3 a2) + (m 5 a2))]) (st := []) lk_X1_87 (fun _ => rfl) (by omega) rfl (Nat.le_of_ble_eq_true rfl) rfl (Nat.le_of_ble_eq_true rfl) dX1_compare_38 hE (fun _ h => vx_J6_compare_7cf53  (Nat.le_refl _) h) (fun b5 hE => ?_)
  refine vl_istore0 (lv' := [(4, vl_iv b5), (0, .ref 16), (1, vl_iv a1), (2, vl_iv a2), (3, vl_iv a3)]) dX1_compare_41 (by decide) rfl ?_
  refine vl_aload_n 1 rfl dX1_compare_43 ?_
  refine vl_getR (h := 16) (k0 := 0) (h2 := 1) iu_X1 n16 s16 rfl (by decide) fk_X1_15 rfl dX1_compare_44 ?_
  refine vl_getR (h := 1) (k0 := 4) (h2 := 4) iu_X4 n1 s1 rfl (by decide) fk_X1_91 rfl dX1_compare_47 ?_
  refine vl_iload_n 2 rfl dX1_compare_50 ?_
  refine vl_aldc1 (h := 4) (n := 807) (ni := 807) n4 (by decide) s4 (by decide) rfl g1 dX1_compare_51 ?_
  refine vl_aload_n 1 rfl dX1_compare_52 ?_
  refine vl_getR (h := 16) (k0 := 0) (h2 := 1) iu_X1 n16 s16 rfl (by decide) fk_X1_15 rfl dX1_compare_53 ?_
  refine vl_getR (h := 1) (k0 := 6) (h2 := 6) iu_X4 n1 s1 rfl (by decide) fk_X1_94 rfl dX1_compare_56 ?_
  refine vl_iload_n 2 rfl dX1_compare_59 ?_
  refine vl_aldc1 (h := 6) (n := 807) (ni := 807) n6 (by decide) s6 (by decide) rfl g1 dX1_compare_60 ?_
  refine vl_iadd dX1_compare_61 ?_
  refine vl_aload_n 1 rfl dX1_compare_62 ?_
  refine vl_getR (h := 16) (k0 := 0) (h2 := 1) iu_X1 n16 s16 rfl (by decide) fk_X1_15 rfl dX1_compare_63 ?_
  refine vl_getR (h := 1) (k0 := 4) (h2 := 4) iu_X4 n1 s1 rfl (by decide) fk_X1_91 rfl dX1_compare_66 ?_
  refine vl_iload_n 3 rfl dX1_compare_69 ?_
  refine vl_aldc1 (h := 4) (n := 807) (ni := 807) n4 (by decide) s4 (by decide) rfl g3 dX1_compare_70 ?_
  refine vl_aload_n 1 rfl dX1_compare_71 ?_
  refine vl_getR (h := 16) (k0 := 0) (h2 := 1) iu_X1 n16 s16 rfl (by decide) fk_X1_15 rfl dX1_compare_72 ?_
  refine vl_getR (h := 1) (k0 := 6) (h2 := 6) iu_X4 n1 s1 rfl (by decide) fk_X1_94 rfl dX1_compare_75 ?_
  refine vl_iload_n 3 rfl dX1_compare_78 ?_
  refine vl_aldc1 (h := 6) (n := 807) (ni := 807) n6 (by decide) s6 (by decide) rfl g3 dX1_compare_79 ?_
  refine vl_iadd dX1_compare_80 ?_
  refine vl_SpI (K' := kJ6_compare_7cf53) (d' := 0) (As := [vl_iv ((m 4 a1) + (m 6 a1)), vl_iv ((m 4 a2) + (m 6 a2))]) (st := []) lk_X1_87 (fun _ => rfl) (by omega) rfl (Nat.le_of_ble_eq_true rfl) rfl (Nat.le_of_ble_eq_true rfl) dX1_compare_81 hE (fun _ h => vx_J6_compare_7cf53  (Nat.le_refl _) h) (fun b6 hE => ?_)
  refine vl_istore0 (lv' := [(5, vl_iv b6), (4, vl_iv b5), (0, .ref 16), (1, vl_iv a1), (2, vl_iv a2), (3, vl_iv a3)]) dX1_compare_84 (by decide) rfl ?_
  refine vl_iload_n 5 rfl dX1_compare_86 ?_
  obtain ⟨g7, hE⟩ := vl_ok_gd hE
  refine vl_jnr (J := fun κ : Int → Option (Int) => ∀ (v8 : Int), vl_ok P (κ v8) → vl_V nc S sc kX1_compare d Post 97 [(0, .ref 16), (1, vl_iv a1), (2, vl_iv a2), (3, vl_iv a3), (4, vl_iv b5), (5, vl_iv b6)] [vl_iv v8] m ρ) ?_ hE (fun κ9 hκ9 hE => ?_)
  · intro v8 hE
    refine vl_istore0 (lv' := [(6, vl_iv v8), (0, .ref 16), (1, vl_iv a1), (2, vl_iv a2), (3, vl_iv a3), (4, vl_iv b5), (5, vl_iv b6)]) dX1_compare_97 (by decide) rfl ?_
    refine vl_iload_n 4 rfl dX1_compare_99 ?_
    refine vl_jnr (J := fun κ : Int → Option (Int) => ∀ (v10 : Int), vl_ok P (κ v10) → vl_V nc S sc kX1_compare d Post 110 [(0, .ref 16), (1, vl_iv a1), (2, vl_iv a2), (6, vl_iv v8)] [vl_iv v10] m ρ) ?_ hE (fun κ11 hκ11 hE => ?_)
    · intro v10 hE
      refine vl_istore0 (lv' := [(7, vl_iv v10), (0, .ref 16), (1, vl_iv a1), (2, vl_iv a2), (6, vl_iv v8)]) dX1_compare_110 (by decide) rfl ?_
      refine vl_iload 4 rfl dX1_compare_112 ?_
      obtain ⟨g12, hE⟩ := vl_ok_gd hE
      refine vl_if_eq (tgt := 120) dX1_compare_114 (by decide) g12  hE (fun c16 hE => ?_) (fun c16 hE => ?_)
      · refine vl_iload 0 rfl dX1_compare_120 ?_
        obtain ⟨g13, hE⟩ := vl_ok_gd hE
        refine vl_if_eq (tgt := 130) dX1_compare_122 (by decide) g13  hE (fun c15 hE => ?_) (fun c15 hE => ?_)
        · refine vl_aload_n 1 rfl dX1_compare_130 ?_
          refine vl_getR (h := 16) (k0 := 0) (h2 := 1) iu_X1 n16 s16 rfl (by decide) fk_X1_15 rfl dX1_compare_131 ?_
          refine vl_iload_n 2 rfl dX1_compare_134 ?_
          refine vl_iload_n 3 rfl dX1_compare_135 ?_
          refine vl_VpI (K' := kX4_compareNames) (d' := 1) (h := 1) (As := [vl_iv a1, vl_iv a2]) (st := []) lk_X1_97 (fun _ => rfl) (by omega) n1 s1 rfl rfl (Nat.le_of_ble_eq_true rfl) rfl (Nat.le_of_ble_eq_true rfl) dX1_compare_136 hE (fun _ h => vx_X4_compareNames (vl_G21 hG) (Nat.le_refl _) h) (fun b14 hE => ?_)
          exact vl_ret (r := b14) rfl dX1_compare_139 hE (hP' (b14))
        · refine vl_iload 0 rfl dX1_compare_125 ?_
          refine vl_goto (tgt := 139) dX1_compare_127 (by decide) ?_
          exact vl_ret (r := v10) rfl dX1_compare_139 hE (hP' (v10))
      · refine vl_iload 4 rfl dX1_compare_117 ?_
        exact vl_ret (r := v8) rfl dX1_compare_119 hE (hP' (v8))
    refine vl_if_eq (tgt := 108) dX1_compare_100 (by decide) g7  hE (fun c17 hE => ?_) (fun c17 hE => ?_)
    · refine vl_iload 6 rfl dX1_compare_108 ?_
      exact vl_wk [1, 2, 3, 0] rfl (hκ11 b6 hE)
    · refine vl_iload 5 rfl dX1_compare_103 ?_
      refine vl_goto (tgt := 110) dX1_compare_105 (by decide) ?_
      exact vl_wk [1, 2, 3, 0] rfl (hκ11 b5 hE)
  refine vl_if_eq (tgt := 95) dX1_compare_87 (by decide) g7  hE (fun c18 hE => ?_) (fun c18 hE => ?_)
  · refine vl_iload 1 rfl dX1_compare_95 ?_
    exact vl_wk [2, 3, 4, 5, 1, 0] rfl (hκ9 b5 hE)
  · refine vl_iload 0 rfl dX1_compare_90 ?_
    refine vl_goto (tgt := 97) dX1_compare_92 (by decide) ?_
    exact vl_wk [2, 3, 4, 5, 1, 0] rfl (hκ9 b6 hE)
set_option maxRecDepth 100000 in
set_option maxHeartbeats 4000000 in
theorem vx_X2_isBefore {nc : Nat} {S : vl_Sh} {sc : Nat × (Nat → Int32)} {w : Nat} (hG : vl_G2 nc S w) {d : Nat} (hd : 2 ≤ d) {Post : Int → vl_M → vl_M → Prop} {m ρ : vl_M} {a1 a2 : Int} (hE : vl_ok (fun r : Int => Post r m ρ) (fn_X2_isBefore m a1 a2)) : vl_V nc S sc kX2_isBefore d Post 0 [(0, .ref 19), (1, vl_iv a1), (2, vl_iv a2)] [] m ρ := by
  generalize hP : (fun r : Int => Post r m ρ) = P at hE
  have hP' : ∀ r : Int, P r → Post r m ρ := fun b h => by rw [← hP] at h; exact h
  clear hP
  have s1 : S 1 = .inr (4, [0, 0, 5, 6, 7, 8, 9, 10, 11, 12, 0, 13, 0, 0, 0, 0, 0]) := hG.2.1 1 (by decide) (by decide)
  have n1 : 1 < nc := Nat.lt_of_lt_of_le (by decide) hG.1
  have s19 : S 19 = .inr (2, [4, 14, 23, 24, 0, 0, 0]) := hG.2.1 19 (by decide) (by decide)
  have n19 : 19 < nc := Nat.lt_of_lt_of_le (by decide) hG.1
  have s21 : S 21 = .inl 807 := hG.2.1 21 (by decide) (by decide)
  have n21 : 21 < nc := Nat.lt_of_lt_of_le (by decide) hG.1
  unfold fn_X2_isBefore at hE
  refine vl_aload_n 0 rfl dX2_isBefore_0 ?_
  refine vl_getR (h := 19) (k0 := 3) (h2 := 21) iu_X2 n19 s19 rfl (by decide) fk_X2_15 rfl dX2_isBefore_1 ?_
  refine vl_iload_n 1 rfl dX2_isBefore_4 ?_
  refine vl_aldc (h := 21) (n := 807) (ni := 807) n21 (by decide) s21 (by decide) rfl dX2_isBefore_5 hE (fun g1 g2 hE => ?_)
  refine vl_aload_n 0 rfl dX2_isBefore_6 ?_
  refine vl_getR (h := 19) (k0 := 3) (h2 := 21) iu_X2 n19 s19 rfl (by decide) fk_X2_15 rfl dX2_isBefore_7 ?_
  refine vl_iload_n 2 rfl dX2_isBefore_10 ?_
  refine vl_aldc (h := 21) (n := 807) (ni := 807) n21 (by decide) s21 (by decide) rfl dX2_isBefore_11 hE (fun g3 g4 hE => ?_)
  obtain ⟨g5, hE⟩ := vl_ok_gd hE
  obtain ⟨g6, hE⟩ := vl_ok_gd hE
  refine vl_icmp_eq (tgt := 36) dX2_isBefore_12 (by decide) g5 g6 hE (fun c18 hE => ?_) (fun c18 hE => ?_)
  · refine vl_aload_n 0 rfl dX2_isBefore_36 ?_
    refine vl_getR (h := 19) (k0 := 0) (h2 := 1) iu_X2 n19 s19 rfl (by decide) fk_X2_22 rfl dX2_isBefore_37 ?_
    refine vl_iload_n 1 rfl dX2_isBefore_40 ?_
    refine vl_VpI (K' := kX4_isEntry) (d' := 0) (h := 1) (As := [vl_iv a1]) (st := []) lk_X2_49 (fun _ => rfl) (by omega) n1 s1 rfl rfl (Nat.le_of_ble_eq_true rfl) rfl (Nat.le_of_ble_eq_true rfl) dX2_isBefore_41 hE (fun _ h => vx_X4_isEntry (vl_G21 hG) (Nat.le_refl _) h) (fun b7 hE => ?_)
    refine vl_aload_n 0 rfl dX2_isBefore_44 ?_
    refine vl_getR (h := 19) (k0 := 0) (h2 := 1) iu_X2 n19 s19 rfl (by decide) fk_X2_22 rfl dX2_isBefore_45 ?_
    refine vl_iload_n 2 rfl dX2_isBefore_48 ?_
    refine vl_VpI (K' := kX4_isEntry) (d' := 0) (h := 1) (As := [vl_iv a2]) (st := [vl_iv b7]) lk_X2_49 (fun _ => rfl) (by omega) n1 s1 rfl rfl (Nat.le_of_ble_eq_true rfl) rfl (Nat.le_of_ble_eq_true rfl) dX2_isBefore_49 hE (fun _ h => vx_X4_isEntry (vl_G21 hG) (Nat.le_refl _) h) (fun b8 hE => ?_)
    obtain ⟨g9, hE⟩ := vl_ok_gd hE
    obtain ⟨g10, hE⟩ := vl_ok_gd hE
    refine vl_icmp_eq (tgt := 64) dX2_isBefore_52 (by decide) g9 g10 hE (fun c16 hE => ?_) (fun c16 hE => ?_)
    · refine vl_aload_n 0 rfl dX2_isBefore_64 ?_
      refine vl_getR (h := 19) (k0 := 0) (h2 := 1) iu_X2 n19 s19 rfl (by decide) fk_X2_22 rfl dX2_isBefore_65 ?_
      refine vl_iload_n 1 rfl dX2_isBefore_68 ?_
      refine vl_iload_n 2 rfl dX2_isBefore_69 ?_
      refine vl_VpI (K' := kX4_compareNames) (d' := 1) (h := 1) (As := [vl_iv a1, vl_iv a2]) (st := []) lk_X2_77 (fun _ => rfl) (by omega) n1 s1 rfl rfl (Nat.le_of_ble_eq_true rfl) rfl (Nat.le_of_ble_eq_true rfl) dX2_isBefore_70 hE (fun _ h => vx_X4_compareNames (vl_G21 hG) (Nat.le_refl _) h) (fun b11 hE => ?_)
      obtain ⟨g12, hE⟩ := vl_ok_gd hE
      refine vl_if_ge (tgt := 80) dX2_isBefore_73 (by decide) g12  hE (fun c13 hE => ?_) (fun c13 hE => ?_)
      · refine vl_iconst dX2_isBefore_80 ?_
        exact vl_ret (r := 0) rfl ⟨dX2_isBefore_81, by decide⟩ hE (hP' (0))
      · refine vl_iconst dX2_isBefore_76 ?_
        refine vl_goto (tgt := 81) dX2_isBefore_77 (by decide) ?_
        exact vl_ret (r := 1) rfl ⟨dX2_isBefore_81, by decide⟩ hE (hP' (1))
    · refine vl_aload_n 0 rfl dX2_isBefore_55 ?_
      refine vl_getR (h := 19) (k0 := 0) (h2 := 1) iu_X2 n19 s19 rfl (by decide) fk_X2_22 rfl dX2_isBefore_56 ?_
      refine vl_iload_n 1 rfl dX2_isBefore_59 ?_
      refine vl_VpI (K' := kX4_isEntry) (d' := 0) (h := 1) (As := [vl_iv a1]) (st := []) lk_X2_49 (fun _ => rfl) (by omega) n1 s1 rfl rfl (Nat.le_of_ble_eq_true rfl) rfl (Nat.le_of_ble_eq_true rfl) dX2_isBefore_60 hE (fun _ h => vx_X4_isEntry (vl_G21 hG) (Nat.le_refl _) h) (fun b14 hE => ?_)
      obtain ⟨g15, hE⟩ := vl_ok_gd hE
      exact vl_ret (r := b14) rfl ⟨dX2_isBefore_63, g15⟩ hE (hP' (b14))
  · refine vl_aload_n 0 rfl dX2_isBefore_15 ?_
    refine vl_getR (h := 19) (k0 := 3) (h2 := 21) iu_X2 n19 s19 rfl (by decide) fk_X2_15 rfl dX2_isBefore_16 ?_
    refine vl_iload_n 1 rfl dX2_isBefore_19 ?_
    refine vl_aldc1 (h := 21) (n := 807) (ni := 807) n21 (by decide) s21 (by decide) rfl g1 dX2_isBefore_20 ?_
    refine vl_aload_n 0 rfl dX2_isBefore_21 ?_
    refine vl_getR (h := 19) (k0 := 3) (h2 := 21) iu_X2 n19 s19 rfl (by decide) fk_X2_15 rfl dX2_isBefore_22 ?_
    refine vl_iload_n 2 rfl dX2_isBefore_25 ?_
    refine vl_aldc1 (h := 21) (n := 807) (ni := 807) n21 (by decide) s21 (by decide) rfl g3 dX2_isBefore_26 ?_
    refine vl_icmp_ge (tgt := 34) dX2_isBefore_27 (by decide) g5 g6 hE (fun c17 hE => ?_) (fun c17 hE => ?_)
    · refine vl_iconst dX2_isBefore_34 ?_
      exact vl_ret (r := 0) rfl ⟨dX2_isBefore_35, by decide⟩ hE (hP' (0))
    · refine vl_iconst dX2_isBefore_30 ?_
      refine vl_goto (tgt := 35) dX2_isBefore_31 (by decide) ?_
      exact vl_ret (r := 1) rfl ⟨dX2_isBefore_35, by decide⟩ hE (hP' (1))
set_option maxRecDepth 100000 in
set_option maxHeartbeats 4000000 in
theorem vx_X6_goOn {nc : Nat} {S : vl_Sh} {sc : Nat × (Nat → Int32)} {w : Nat} (hG : vl_G2 nc S w) {N : Nat} {d : Nat} (hd : 2 ≤ d) {Post : Int → vl_M → vl_M → Prop} {m ρ : vl_M} (hE : vl_ok (fun b : Int × vl_M => Post b.1 b.2 ρ) (fn_X6_goOn w N m )) : vl_V nc S sc kX6_goOn d Post 0 [(0, .ref 18)] [] m ρ := by
  generalize hP : (fun b : Int × vl_M => Post b.1 b.2 ρ) = P at hE
  have hP' : ∀ b : Int × vl_M, P b → Post b.1 b.2 ρ := fun b h => by rw [← hP] at h; exact h
  clear hP
  have s11 : S 11 = .inr (5, [4, 17, 15, 0, 16, 0, 0, 0, 0, 0]) := hG.2.1 11 (by decide) (by decide)
  have n11 : 11 < nc := Nat.lt_of_lt_of_le (by decide) hG.1
  have s13 : S 13 = .inl 404 := hG.2.1 13 (by decide) (by decide)
  have n13 : 13 < nc := Nat.lt_of_lt_of_le (by decide) hG.1
  have s18 : S 18 = .inr (6, [4, 14, 0, 0, 0, 0, 0]) := hG.2.1 18 (by decide) (by decide)
  have n18 : 18 < nc := Nat.lt_of_lt_of_le (by decide) hG.1
  unfold fn_X6_goOn at hE
  refine vl_aload_n 0 rfl dX6_goOn_0 ?_
  refine vl_VcWI (K' := kX6_nextInLeaf) (d' := 1) (h := 18) (As := []) (st := []) lk_X6_33 (fun _ => rfl) (by omega) n18 s18 rfl rfl (Nat.le_of_ble_eq_true rfl) rfl (Nat.le_of_ble_eq_true rfl) dX6_goOn_1 hE (fun _ h => vx_X6_nextInLeaf hG (Nat.le_refl _) h) (fun b1 m2 hE => ?_)
  refine vl_istore_n0 rfl (lv' := [(1, vl_iv b1), (0, .ref 18)]) dX6_goOn_4 (by decide) rfl ?_
  refine vl_lpr (F := fun κ : Int → vl_M → Option (Int × vl_M) => fn_X6_goOn_L5 w N  κ N b1 m2) (J := fun κ => ∀ (v5 : Int) (m6 : vl_M), vl_ok P (κ v5 m6) → vl_V nc S sc kX6_goOn d Post 58 [(1, vl_iv v5)] [] m6 ρ) ?_ hE (fun κ hκL54 hE => ?_)
  · intro v5 m6 hE
    refine vl_iload_n 0 rfl dX6_goOn_58 ?_
    exact vl_ret (r := v5) rfl dX6_goOn_59 hE (hP' (v5, m6))
  have hL5_ : ∀ (n : Nat) (v3 : Int) (m4 : vl_M), vl_ok P (fn_X6_goOn_L5 w N  κ n v3 m4) → vl_V nc S sc kX6_goOn d Post 5 [(0, .ref 18), (1, vl_iv v3)] [] m4 ρ := by
    intro n
    induction n with
    | zero => intro v3 m4 hE; exact vl_no hE
    | succ n ih5_ =>
      intro v3 m4 hE
      rw [fn_X6_goOn_L5] at hE
      refine vl_iload_n 1 rfl dX6_goOn_5 ?_
      refine vl_iconst dX6_goOn_6 ?_
      obtain ⟨g7, hE⟩ := vl_ok_gd hE
      refine vl_icmp_ne (tgt := 58) dX6_goOn_7 (by decide) g7 (by decide) hE (fun c18 hE => ?_) (fun c18 hE => ?_)
      · exact vl_wk [1] rfl (hκL54 v3 m4 hE)
      · refine vl_aload_n 0 rfl dX6_goOn_10 ?_
        refine vl_getIc (h := 18) (k0 := 4) (ki := 4) iu_X6 n18 (by decide) s18 rfl (by decide) fk_X6_27 rfl rfl dX6_goOn_11 ?_
        refine vl_aload_n 0 rfl dX6_goOn_14 ?_
        refine vl_getR (h := 18) (k0 := 1) (h2 := 11) iu_X6 n18 s18 rfl (by decide) fk_X6_15 rfl dX6_goOn_15 ?_
        refine vl_getIc (h := 11) (k0 := 5) (ki := 5) iu_X5 n11 (by decide) s11 rfl (by decide) fk_X6_37 rfl rfl dX6_goOn_18 ?_
        obtain ⟨g8, hE⟩ := vl_ok_gd hE
        obtain ⟨g9, hE⟩ := vl_ok_gd hE
        refine vl_icmp_ge (tgt := 58) dX6_goOn_21 (by decide) g8 g9 hE (fun c17 hE => ?_) (fun c17 hE => ?_)
        · exact vl_wk [1] rfl (hκL54 v3 m4 hE)
        · refine vl_aload_n 0 rfl dX6_goOn_24 ?_
          refine vl_aload_n 0 rfl dX6_goOn_25 ?_
          refine vl_getR (h := 18) (k0 := 1) (h2 := 11) iu_X6 n18 s18 rfl (by decide) fk_X6_15 rfl dX6_goOn_26 ?_
          refine vl_getR (h := 11) (k0 := 4) (h2 := 13) iu_X5 n11 s11 rfl (by decide) fk_X6_42 rfl dX6_goOn_29 ?_
          refine vl_aload_n 0 rfl dX6_goOn_32 ?_
          refine vl_getIc (h := 18) (k0 := 4) (ki := 4) iu_X6 n18 (by decide) s18 rfl (by decide) fk_X6_27 rfl rfl dX6_goOn_33 ?_
          refine vl_aldc (h := 13) (n := 404) (ni := 404) n13 (by decide) s13 (by decide) rfl dX6_goOn_36 hE (fun g10 g11 hE => ?_)
          refine vl_VcWV (K' := kX6_lookAt) (d' := 1) (h := 18) (As := [vl_iv (m4 13 (m4 18 4))]) (st := []) lk_X6_46 (fun _ => rfl) (by omega) n18 s18 rfl rfl (Nat.le_of_ble_eq_true rfl) rfl (Nat.le_of_ble_eq_true rfl) dX6_goOn_37 hE (fun _ h => vx_X6_lookAt hG (Nat.le_refl _) h) (fun m13 hE => ?_)
          refine vl_aload_n 0 rfl dX6_goOn_40 ?_
          refine vl_dup rfl dX6_goOn_41 ?_
          refine vl_getIc (h := 18) (k0 := 4) (ki := 4) iu_X6 n18 (by decide) s18 rfl (by decide) fk_X6_27 rfl rfl dX6_goOn_42 ?_
          refine vl_iconst dX6_goOn_45 ?_
          refine vl_iadd dX6_goOn_46 ?_
          refine vl_putIc (h := 18) (k0 := 4) (ki := 4) iu_X6 tyX6_ok nmX6 n18 (by decide) s18 rfl (by decide) fk_X6_27 rfl rfl rfl (vl_nI _) dX6_goOn_47 hE (fun m14 hE => ?_)
          refine vl_aload_n 0 rfl dX6_goOn_50 ?_
          refine vl_VcWI (K' := kX6_nextInLeaf) (d' := 1) (h := 18) (As := []) (st := []) lk_X6_33 (fun _ => rfl) (by omega) n18 s18 rfl rfl (Nat.le_of_ble_eq_true rfl) rfl (Nat.le_of_ble_eq_true rfl) dX6_goOn_51 hE (fun _ h => vx_X6_nextInLeaf hG (Nat.le_refl _) h) (fun b15 m16 hE => ?_)
          refine vl_istore_n0 rfl (lv' := [(1, vl_iv b15), (0, .ref 18)]) dX6_goOn_54 (by decide) rfl ?_
          refine vl_goto (tgt := 5) dX6_goOn_55 (by decide) ?_
          exact vl_wk [1, 0] rfl (ih5_ b15 m16 hE)
  exact vl_wk [1, 0] rfl (hL5_ N b1 m2 hE)
set_option maxRecDepth 100000 in
set_option maxHeartbeats 4000000 in
theorem vx_X0_isTight {nc : Nat} {S : vl_Sh} {sc : Nat × (Nat → Int32)} {w : Nat} (hG : vl_G2 nc S w) {N : Nat} {d : Nat} (hd : 3 ≤ d) {Post : Int → vl_M → vl_M → Prop} {m ρ : vl_M} {a1 : Int} (hE : vl_ok (fun b : Int × vl_M => Post b.1 b.2 ρ) (fn_X0_isTight w N m a1)) : vl_V nc S sc kX0_isTight d Post 0 [(0, .ref 22), (1, vl_iv a1)] [] m ρ := by
  generalize hP : (fun b : Int × vl_M => Post b.1 b.2 ρ) = P at hE
  have hP' : ∀ b : Int × vl_M, P b → Post b.1 b.2 ρ := fun b h => by rw [← hP] at h; exact h
  clear hP
  have s1 : S 1 = .inr (4, [0, 0, 5, 6, 7, 8, 9, 10, 11, 12, 0, 13, 0, 0, 0, 0, 0]) := hG.2.1 1 (by decide) (by decide)
  have n1 : 1 < nc := Nat.lt_of_lt_of_le (by decide) hG.1
  have s9 : S 9 = .inl 807 := hG.2.1 9 (by decide) (by decide)
  have n9 : 9 < nc := Nat.lt_of_lt_of_le (by decide) hG.1
  have s22 : S 22 = .inr (0, [4, 14]) := hG.2.1 22 (by decide) (by decide)
  have n22 : 22 < nc := Nat.lt_of_lt_of_le (by decide) hG.1
  unfold fn_X0_isTight at hE
  refine vl_aload_n 0 rfl dX0_isTight_0 ?_
  refine vl_getR (h := 22) (k0 := 0) (h2 := 1) iu_X0 n22 s22 rfl (by decide) fk_X0_9 rfl dX0_isTight_1 ?_
  refine vl_sipush (by decide) dX0_isTight_4 ?_
  refine vl_iload_n 1 rfl dX0_isTight_7 ?_
  refine vl_VcWV (K' := kX4_fitAround) (d' := 2) (h := 1) (As := [vl_iv 805, vl_iv a1]) (st := []) lk_X0_70 (fun _ => rfl) (by omega) n1 s1 rfl rfl (Nat.le_of_ble_eq_true rfl) rfl (Nat.le_of_ble_eq_true rfl) dX0_isTight_8 hE (fun _ h => vx_X4_fitAround (vl_G21 hG) (Nat.le_refl _) h) (fun m2 hE => ?_)
  refine vl_aload_n 0 rfl dX0_isTight_11 ?_
  refine vl_getR (h := 22) (k0 := 0) (h2 := 1) iu_X0 n22 s22 rfl (by decide) fk_X0_9 rfl dX0_isTight_12 ?_
  refine vl_getR (h := 1) (k0 := 9) (h2 := 9) iu_X4 n1 s1 rfl (by decide) fk_X0_44 rfl dX0_isTight_15 ?_
  refine vl_iload_n 1 rfl dX0_isTight_18 ?_
  refine vl_aldc (h := 9) (n := 807) (ni := 807) n9 (by decide) s9 (by decide) rfl dX0_isTight_19 hE (fun g3 g4 hE => ?_)
  obtain ⟨g5, hE⟩ := vl_ok_gd hE
  refine vl_if_eq (tgt := 37) dX0_isTight_20 (by decide) g5  hE (fun c9 hE => ?_) (fun c9 hE => ?_)
  · refine vl_iconst dX0_isTight_37 ?_
    refine vl_goto (tgt := 42) dX0_isTight_38 (by decide) ?_
    exact vl_ret (r := 1) rfl ⟨dX0_isTight_42, by decide⟩ hE (hP' (1, m2))
  · refine vl_aload_n 0 rfl dX0_isTight_23 ?_
    refine vl_getR (h := 22) (k0 := 0) (h2 := 1) iu_X0 n22 s22 rfl (by decide) fk_X0_9 rfl dX0_isTight_24 ?_
    refine vl_sipush (by decide) dX0_isTight_27 ?_
    refine vl_iload_n 1 rfl dX0_isTight_30 ?_
    refine vl_VpI (K' := kX4_sameRectangle) (d' := 0) (h := 1) (As := [vl_iv 805, vl_iv a1]) (st := []) lk_X0_74 (fun _ => rfl) (by omega) n1 s1 rfl rfl (Nat.le_of_ble_eq_true rfl) rfl (Nat.le_of_ble_eq_true rfl) dX0_isTight_31 hE (fun _ h => vx_X4_sameRectangle (vl_G21 hG) (Nat.le_refl _) h) (fun b6 hE => ?_)
    obtain ⟨g7, hE⟩ := vl_ok_gd hE
    refine vl_if_eq (tgt := 41) dX0_isTight_34 (by decide) g7  hE (fun c8 hE => ?_) (fun c8 hE => ?_)
    · refine vl_iconst dX0_isTight_41 ?_
      exact vl_ret (r := 0) rfl ⟨dX0_isTight_42, by decide⟩ hE (hP' (0, m2))
    · refine vl_iconst dX0_isTight_37 ?_
      refine vl_goto (tgt := 42) dX0_isTight_38 (by decide) ?_
      exact vl_ret (r := 1) rfl ⟨dX0_isTight_42, by decide⟩ hE (hP' (1, m2))
set_option maxRecDepth 100000 in
set_option maxHeartbeats 4000000 in
theorem vx_X1_groupInto {nc : Nat} {S : vl_Sh} {sc : Nat × (Nat → Int32)} {w : Nat} (hG : vl_G2 nc S w) {N : Nat} {d : Nat} (hd : 3 ≤ d) {Post : Int → vl_M → vl_M → Prop} {m ρ : vl_M} {a1 : Int} (hE : vl_ok (fun b : vl_M => Post 0 b ρ) (fn_X1_groupInto w N m a1)) : vl_V nc S sc kX1_groupInto d Post 0 [(0, .ref 16), (1, vl_iv a1)] [] m ρ := by
  generalize hP : (fun b : vl_M => Post 0 b ρ) = P at hE
  have hP' : ∀ b : vl_M, P b → Post 0 b ρ := fun b h => by rw [← hP] at h; exact h
  clear hP
  have s1 : S 1 = .inr (4, [0, 0, 5, 6, 7, 8, 9, 10, 11, 12, 0, 13, 0, 0, 0, 0, 0]) := hG.2.1 1 (by decide) (by decide)
  have n1 : 1 < nc := Nat.lt_of_lt_of_le (by decide) hG.1
  have s16 : S 16 = .inr (1, [4, 14, 20, 0]) := hG.2.1 16 (by decide) (by decide)
  have n16 : 16 < nc := Nat.lt_of_lt_of_le (by decide) hG.1
  have s17 : S 17 = .inl 400 := hG.2.1 17 (by decide) (by decide)
  have n17 : 17 < nc := Nat.lt_of_lt_of_le (by decide) hG.1
  unfold fn_X1_groupInto at hE
  refine vl_aload_n 0 rfl dX1_groupInto_0 ?_
  refine vl_aload_n 0 rfl dX1_groupInto_1 ?_
  refine vl_getIc (h := 16) (k0 := 3) (ki := 3) iu_X1 n16 (by decide) s16 rfl (by decide) fk_X1_26 rfl rfl dX1_groupInto_2 ?_
  refine vl_VpI (K' := kX1_groupsOf) (d' := 0) (h := 16) (As := [vl_iv (m 16 3)]) (st := []) lk_X1_61 (fun _ => rfl) (by omega) n16 s16 rfl rfl (Nat.le_of_ble_eq_true rfl) rfl (Nat.le_of_ble_eq_true rfl) dX1_groupInto_5 hE (fun _ h => vx_X1_groupsOf hG (Nat.le_refl _) h) (fun b1 hE => ?_)
  refine vl_istore_n0 rfl (lv' := [(2, vl_iv b1), (0, .ref 16), (1, vl_iv a1)]) dX1_groupInto_8 (by decide) rfl ?_
  refine vl_iconst dX1_groupInto_9 ?_
  refine vl_istore_n0 rfl (lv' := [(3, vl_iv 0), (2, vl_iv b1), (0, .ref 16), (1, vl_iv a1)]) dX1_groupInto_10 (by decide) rfl ?_
  refine vl_lpr (F := fun κ : Int → vl_M → Option (vl_M) => fn_X1_groupInto_L11 w N a1 b1 κ N 0 m) (J := fun κ => ∀ (v4 : Int) (m5 : vl_M), vl_ok P (κ v4 m5) → vl_V nc S sc kX1_groupInto d Post 87 [(0, .ref 16), (2, vl_iv b1)] [] m5 ρ) ?_ hE (fun κ hκL113 hE => ?_)
  · intro v4 m5 hE
    refine vl_aload_n 0 rfl dX1_groupInto_87 ?_
    refine vl_iload_n 1 rfl dX1_groupInto_88 ?_
    refine vl_putIc (h := 16) (k0 := 3) (ki := 3) iu_X1 tyX1_ok nmX1 n16 (by decide) s16 rfl (by decide) fk_X1_26 rfl rfl rfl (vl_nI _) dX1_groupInto_89 hE (fun m6 hE => ?_)
    exact vl_ret (r := 0) rfl dX1_groupInto_92 hE (hP' m6)
  have hL11_ : ∀ (n : Nat) (v2 : Int) (m3 : vl_M), vl_ok P (fn_X1_groupInto_L11 w N a1 b1 κ n v2 m3) → vl_V nc S sc kX1_groupInto d Post 11 [(0, .ref 16), (1, vl_iv a1), (2, vl_iv b1), (3, vl_iv v2)] [] m3 ρ := by
    intro n
    induction n with
    | zero => intro v2 m3 hE; exact vl_no hE
    | succ n ih11_ =>
      intro v2 m3 hE
      rw [fn_X1_groupInto_L11] at hE
      refine vl_iload_n 3 rfl dX1_groupInto_11 ?_
      refine vl_iload_n 2 rfl dX1_groupInto_12 ?_
      obtain ⟨g7, hE⟩ := vl_ok_gd hE
      obtain ⟨g8, hE⟩ := vl_ok_gd hE
      refine vl_icmp_ge (tgt := 87) dX1_groupInto_13 (by decide) g7 g8 hE (fun c29 hE => ?_) (fun c29 hE => ?_)
      · exact vl_wk [0, 2] rfl (hκL113 v2 m3 hE)
      · refine vl_aload_n 0 rfl dX1_groupInto_16 ?_
        refine vl_getR (h := 16) (k0 := 0) (h2 := 1) iu_X1 n16 s16 rfl (by decide) fk_X1_15 rfl dX1_groupInto_17 ?_
        refine vl_iload_n 1 rfl dX1_groupInto_20 ?_
        refine vl_VcWI (K' := kX4_newNode) (d' := 0) (h := 1) (As := [vl_iv a1]) (st := []) lk_X1_100 (fun _ => rfl) (by omega) n1 s1 rfl rfl (Nat.le_of_ble_eq_true rfl) rfl (Nat.le_of_ble_eq_true rfl) dX1_groupInto_21 hE (fun _ h => vx_X4_newNode (vl_G21 hG) (Nat.le_refl _) h) (fun b9 m10 hE => ?_)
        refine vl_istore0 (lv' := [(4, vl_iv b9), (0, .ref 16), (1, vl_iv a1), (2, vl_iv b1), (3, vl_iv v2)]) dX1_groupInto_24 (by decide) rfl ?_
        refine vl_aload_n 1 rfl dX1_groupInto_26 ?_
        refine vl_iload_n 4 rfl dX1_groupInto_27 ?_
        refine vl_iconst dX1_groupInto_28 ?_
        refine vl_iadd dX1_groupInto_29 ?_
        refine vl_iload_n 3 rfl dX1_groupInto_30 ?_
        refine vl_VpI (K' := kX1_startOf) (d' := 1) (h := 16) (As := [vl_iv (v2 + 1), vl_iv b1]) (st := []) lk_X1_103 (fun _ => rfl) (by omega) n16 s16 rfl rfl (Nat.le_of_ble_eq_true rfl) rfl (Nat.le_of_ble_eq_true rfl) dX1_groupInto_31 hE (fun _ h => vx_X1_startOf hG (Nat.le_refl _) h) (fun b11 hE => ?_)
        refine vl_istore0 (lv' := [(5, vl_iv b11), (4, vl_iv b9), (0, .ref 16), (1, vl_iv a1), (2, vl_iv b1), (3, vl_iv v2)]) dX1_groupInto_34 (by decide) rfl ?_
        refine vl_aload_n 2 rfl dX1_groupInto_36 ?_
        refine vl_iload_n 5 rfl dX1_groupInto_37 ?_
        refine vl_iload_n 4 rfl dX1_groupInto_38 ?_
        refine vl_VpI (K' := kX1_startOf) (d' := 1) (h := 16) (As := [vl_iv v2, vl_iv b1]) (st := []) lk_X1_103 (fun _ => rfl) (by omega) n16 s16 rfl rfl (Nat.le_of_ble_eq_true rfl) rfl (Nat.le_of_ble_eq_true rfl) dX1_groupInto_39 hE (fun _ h => vx_X1_startOf hG (Nat.le_refl _) h) (fun b12 hE => ?_)
        refine vl_istore0 (lv' := [(6, vl_iv b12), (5, vl_iv b11), (4, vl_iv b9), (0, .ref 16), (1, vl_iv a1), (2, vl_iv b1), (3, vl_iv v2)]) dX1_groupInto_42 (by decide) rfl ?_
        refine vl_lpr (F := fun κ : Int → vl_M → Option (vl_M) => fn_X1_groupInto_L44 w N a1 b1 v2 b9 b11 κ N b12 m10) (J := fun κ => ∀ (v15 : Int) (m16 : vl_M), vl_ok P (κ v15 m16) → vl_V nc S sc kX1_groupInto d Post 73 [(0, .ref 16), (1, vl_iv a1), (2, vl_iv b1), (3, vl_iv v2), (4, vl_iv b9)] [] m16 ρ) ?_ hE (fun κ hκL4414 hE => ?_)
        · intro v15 m16 hE
          refine vl_aload_n 0 rfl dX1_groupInto_73 ?_
          refine vl_getR (h := 16) (k0 := 2) (h2 := 17) iu_X1 n16 s16 rfl (by decide) fk_X1_9 rfl dX1_groupInto_74 ?_
          refine vl_iload_n 3 rfl dX1_groupInto_77 ?_
          refine vl_iload 4 rfl dX1_groupInto_78 ?_
          refine vl_astc (h := 17) (n := 400) (ni := 400) n17 (by decide) s17 (by decide) rfl dX1_groupInto_80 hE (fun g18 g19 m17 hE => ?_)
          refine vl_iinc 3 (fun v20 => [(3, vl_iv v20), (0, .ref 16), (1, vl_iv a1), (2, vl_iv b1), (4, vl_iv b9)]) dX1_groupInto_81 rfl (by decide) (fun _ => rfl) hE (fun v20 hE => ?_)
          refine vl_goto (tgt := 11) dX1_groupInto_84 (by decide) ?_
          exact vl_wk [1, 2, 3, 0] rfl (ih11_ v20 m17 hE)
        have hL44_ : ∀ (n : Nat) (v13 : Int) (m14 : vl_M), vl_ok P (fn_X1_groupInto_L44 w N a1 b1 v2 b9 b11 κ n v13 m14) → vl_V nc S sc kX1_groupInto d Post 44 [(0, .ref 16), (1, vl_iv a1), (2, vl_iv b1), (3, vl_iv v2), (4, vl_iv b9), (5, vl_iv b11), (6, vl_iv v13)] [] m14 ρ := by
          intro n
          induction n with
          | zero => intro v13 m14 hE; exact vl_no hE
          | succ n ih44_ =>
            intro v13 m14 hE
            rw [fn_X1_groupInto_L44] at hE
            refine vl_iload 6 rfl dX1_groupInto_44 ?_
            refine vl_iload 5 rfl dX1_groupInto_46 ?_
            obtain ⟨g21, hE⟩ := vl_ok_gd hE
            obtain ⟨g22, hE⟩ := vl_ok_gd hE
            refine vl_icmp_ge (tgt := 73) dX1_groupInto_48 (by decide) g21 g22 hE (fun c28 hE => ?_) (fun c28 hE => ?_)
            · exact vl_wk [0, 1, 2, 3, 4] rfl (hκL4414 v13 m14 hE)
            · refine vl_aload_n 0 rfl dX1_groupInto_51 ?_
              refine vl_getR (h := 16) (k0 := 0) (h2 := 1) iu_X1 n16 s16 rfl (by decide) fk_X1_15 rfl dX1_groupInto_52 ?_
              refine vl_iload 4 rfl dX1_groupInto_55 ?_
              refine vl_aload_n 0 rfl dX1_groupInto_57 ?_
              refine vl_getR (h := 16) (k0 := 2) (h2 := 17) iu_X1 n16 s16 rfl (by decide) fk_X1_9 rfl dX1_groupInto_58 ?_
              refine vl_iload 6 rfl dX1_groupInto_61 ?_
              refine vl_aldc (h := 17) (n := 400) (ni := 400) n17 (by decide) s17 (by decide) rfl dX1_groupInto_63 hE (fun g23 g24 hE => ?_)
              refine vl_VcWV (K' := kX4_attach) (d' := 2) (h := 1) (As := [vl_iv b9, vl_iv (m14 17 v13)]) (st := []) lk_X1_106 (fun _ => rfl) (by omega) n1 s1 rfl rfl (Nat.le_of_ble_eq_true rfl) rfl (Nat.le_of_ble_eq_true rfl) dX1_groupInto_64 hE (fun _ h => vx_X4_attach (vl_G21 hG) (Nat.le_refl _) h) (fun m26 hE => ?_)
              refine vl_iinc 6 (fun v27 => [(6, vl_iv v27), (0, .ref 16), (1, vl_iv a1), (2, vl_iv b1), (3, vl_iv v2), (4, vl_iv b9), (5, vl_iv b11)]) dX1_groupInto_67 rfl (by decide) (fun _ => rfl) hE (fun v27 hE => ?_)
              refine vl_goto (tgt := 44) dX1_groupInto_70 (by decide) ?_
              exact vl_wk [1, 2, 3, 4, 5, 6, 0] rfl (ih44_ v27 m26 hE)
        exact vl_wk [3, 4, 5, 6, 2, 1, 0] rfl (hL44_ N b12 m10 hE)
  exact vl_wk [2, 3, 1, 0] rfl (hL11_ N 0 m hE)
set_option maxRecDepth 100000 in
set_option maxHeartbeats 4000000 in
theorem vx_X1_sort {nc : Nat} {S : vl_Sh} {sc : Nat × (Nat → Int32)} {w : Nat} (hG : vl_G2 nc S w) {N : Nat} {d : Nat} (hd : 3 ≤ d) {Post : Int → vl_M → vl_M → Prop} {m ρ : vl_M} {a1 a2 a3 : Int} (hE : vl_ok (fun b : vl_M => Post 0 b ρ) (fn_X1_sort N m a1 a2 a3)) : vl_V nc S sc kX1_sort d Post 0 [(0, .ref 16), (1, vl_iv a1), (2, vl_iv a2), (3, vl_iv a3)] [] m ρ := by
  generalize hP : (fun b : vl_M => Post 0 b ρ) = P at hE
  have hP' : ∀ b : vl_M, P b → Post 0 b ρ := fun b h => by rw [← hP] at h; exact h
  clear hP
  have s16 : S 16 = .inr (1, [4, 14, 20, 0]) := hG.2.1 16 (by decide) (by decide)
  have n16 : 16 < nc := Nat.lt_of_lt_of_le (by decide) hG.1
  have s17 : S 17 = .inl 400 := hG.2.1 17 (by decide) (by decide)
  have n17 : 17 < nc := Nat.lt_of_lt_of_le (by decide) hG.1
  unfold fn_X1_sort at hE
  refine vl_gaps fk_X1_74 dX1_sort_0 ?_
  refine vl_astore (lv' := [(4, .ref 100), (0, .ref 16), (1, vl_iv a1), (2, vl_iv a2), (3, vl_iv a3)]) dX1_sort_3 (by decide) rfl ?_
  refine vl_aload 0 rfl dX1_sort_5 ?_
  refine vl_gapsLen dX1_sort_7 ?_
  refine vl_istore0 (lv' := [(5, vl_iv 5), (4, .ref 100), (0, .ref 16), (1, vl_iv a1), (2, vl_iv a2), (3, vl_iv a3)]) dX1_sort_8 (by decide) rfl ?_
  refine vl_iconst dX1_sort_10 ?_
  refine vl_istore0 (lv' := [(6, vl_iv 0), (5, vl_iv 5), (4, .ref 100), (0, .ref 16), (1, vl_iv a1), (2, vl_iv a2), (3, vl_iv a3)]) dX1_sort_11 (by decide) rfl ?_
  refine vl_lpr (F := fun κ : Int → vl_M → Option (vl_M) => fn_X1_sort_L13 N a1 a2 a3 κ N 0 m) (J := fun κ => ∀ (v3 : Int) (m4 : vl_M), vl_ok P (κ v3 m4) → vl_V nc S sc kX1_sort d Post 129 [] [] m4 ρ) ?_ hE (fun κ hκL132 hE => ?_)
  · intro v3 m4 hE
    exact vl_ret (r := 0) rfl dX1_sort_129 hE (hP' m4)
  have hL13_ : ∀ (n : Nat) (v1 : Int) (m2 : vl_M), vl_ok P (fn_X1_sort_L13 N a1 a2 a3 κ n v1 m2) → vl_V nc S sc kX1_sort d Post 13 [(0, .ref 16), (1, vl_iv a1), (2, vl_iv a2), (3, vl_iv a3), (4, .ref 100), (5, vl_iv 5), (6, vl_iv v1)] [] m2 ρ := by
    intro n
    induction n with
    | zero => intro v1 m2 hE; exact vl_no hE
    | succ n ih13_ =>
      intro v1 m2 hE
      rw [fn_X1_sort_L13] at hE
      refine vl_iload 6 rfl dX1_sort_13 ?_
      refine vl_iload 5 rfl dX1_sort_15 ?_
      obtain ⟨g5, hE⟩ := vl_ok_gd hE
      refine vl_icmp_ge (tgt := 129) dX1_sort_17 (by decide) g5 (by decide) hE (fun c41 hE => ?_) (fun c41 hE => ?_)
      · exact vl_wk [] rfl (hκL132 v1 m2 hE)
      · refine vl_aload 4 rfl dX1_sort_20 ?_
        refine vl_iload 6 rfl dX1_sort_22 ?_
        refine vl_gapsLd dX1_sort_24 hE (fun g6 g7 hE => ?_)
        refine vl_istore (fun v8 => [(7, vl_iv v8), (0, .ref 16), (1, vl_iv a1), (2, vl_iv a2), (3, vl_iv a3), (4, .ref 100), (5, vl_iv 5), (6, vl_iv v1)]) dX1_sort_25 (by decide) (fun _ => rfl) hE (fun v8 hE => ?_)
        refine vl_iload_n 2 rfl dX1_sort_27 ?_
        refine vl_iload 0 rfl dX1_sort_28 ?_
        refine vl_iadd dX1_sort_30 ?_
        refine vl_istore (fun v9 => [(8, vl_iv v9), (7, vl_iv v8), (0, .ref 16), (1, vl_iv a1), (2, vl_iv a2), (3, vl_iv a3), (4, .ref 100), (5, vl_iv 5), (6, vl_iv v1)]) dX1_sort_31 (by decide) (fun _ => rfl) hE (fun v9 hE => ?_)
        refine vl_lpr (F := fun κ : Int → vl_M → Option (vl_M) => fn_X1_sort_L33 N a1 a2 a3 v1 v8 κ N v9 m2) (J := fun κ => ∀ (v12 : Int) (m13 : vl_M), vl_ok P (κ v12 m13) → vl_V nc S sc kX1_sort d Post 123 [(0, .ref 16), (1, vl_iv a1), (2, vl_iv a2), (3, vl_iv a3), (4, .ref 100), (5, vl_iv 5), (6, vl_iv v1)] [] m13 ρ) ?_ hE (fun κ hκL3311 hE => ?_)
        · intro v12 m13 hE
          refine vl_iinc 6 (fun v14 => [(6, vl_iv v14), (0, .ref 16), (1, vl_iv a1), (2, vl_iv a2), (3, vl_iv a3), (4, .ref 100), (5, vl_iv 5)]) dX1_sort_123 rfl (by decide) (fun _ => rfl) hE (fun v14 hE => ?_)
          refine vl_goto (tgt := 13) dX1_sort_126 (by decide) ?_
          exact vl_wk [1, 2, 3, 4, 5, 6, 0] rfl (ih13_ v14 m13 hE)
        have hL33_ : ∀ (n : Nat) (v10 : Int) (m11 : vl_M), vl_ok P (fn_X1_sort_L33 N a1 a2 a3 v1 v8 κ n v10 m11) → vl_V nc S sc kX1_sort d Post 33 [(0, .ref 16), (1, vl_iv a1), (2, vl_iv a2), (3, vl_iv a3), (4, .ref 100), (5, vl_iv 5), (6, vl_iv v1), (7, vl_iv v8), (8, vl_iv v10)] [] m11 ρ := by
          intro n
          induction n with
          | zero => intro v10 m11 hE; exact vl_no hE
          | succ n ih33_ =>
            intro v10 m11 hE
            rw [fn_X1_sort_L33] at hE
            refine vl_iload 8 rfl dX1_sort_33 ?_
            refine vl_iload_n 2 rfl dX1_sort_35 ?_
            obtain ⟨g15, hE⟩ := vl_ok_gd hE
            obtain ⟨g16, hE⟩ := vl_ok_gd hE
            refine vl_icmp_ge (tgt := 123) dX1_sort_36 (by decide) g15 g16 hE (fun c40 hE => ?_) (fun c40 hE => ?_)
            · exact vl_wk [0, 1, 2, 3, 4, 5, 6] rfl (hκL3311 v10 m11 hE)
            · refine vl_aload_n 0 rfl dX1_sort_39 ?_
              refine vl_getR (h := 16) (k0 := 2) (h2 := 17) iu_X1 n16 s16 rfl (by decide) fk_X1_9 rfl dX1_sort_40 ?_
              refine vl_iload 8 rfl dX1_sort_43 ?_
              refine vl_aldc (h := 17) (n := 400) (ni := 400) n17 (by decide) s17 (by decide) rfl dX1_sort_45 hE (fun g17 g18 hE => ?_)
              refine vl_istore (fun v19 => [(9, vl_iv v19), (0, .ref 16), (1, vl_iv a1), (2, vl_iv a2), (3, vl_iv a3), (4, .ref 100), (5, vl_iv 5), (6, vl_iv v1), (7, vl_iv v8), (8, vl_iv v10)]) dX1_sort_46 (by decide) (fun _ => rfl) hE (fun v19 hE => ?_)
              refine vl_iload 9 rfl dX1_sort_48 ?_
              refine vl_istore0 (lv' := [(10, vl_iv v10), (9, vl_iv v19), (0, .ref 16), (1, vl_iv a1), (2, vl_iv a2), (3, vl_iv a3), (4, .ref 100), (5, vl_iv 5), (6, vl_iv v1), (7, vl_iv v8), (8, vl_iv v10)]) dX1_sort_50 (by decide) rfl ?_
              refine vl_lpr (F := fun κ : Int → vl_M → Option (vl_M) => fn_X1_sort_L52 N a1 a2 a3 v1 v8 v10 v19 κ N v10 m11) (J := fun κ => ∀ (v22 : Int) (m23 : vl_M), vl_ok P (κ v22 m23) → vl_V nc S sc kX1_sort d Post 108 [(0, .ref 16), (1, vl_iv a1), (2, vl_iv a2), (3, vl_iv a3), (4, .ref 100), (5, vl_iv 5), (6, vl_iv v1), (7, vl_iv v8), (8, vl_iv v10), (9, vl_iv v19), (10, vl_iv v22)] [] m23 ρ) ?_ hE (fun κ hκL5221 hE => ?_)
              · intro v22 m23 hE
                refine vl_aload_n 0 rfl dX1_sort_108 ?_
                refine vl_getR (h := 16) (k0 := 2) (h2 := 17) iu_X1 n16 s16 rfl (by decide) fk_X1_9 rfl dX1_sort_109 ?_
                refine vl_iload 10 rfl dX1_sort_112 ?_
                refine vl_iload 9 rfl dX1_sort_114 ?_
                refine vl_astc (h := 17) (n := 400) (ni := 400) n17 (by decide) s17 (by decide) rfl dX1_sort_116 hE (fun g25 g26 m24 hE => ?_)
                refine vl_iinc 8 (fun v27 => [(8, vl_iv v27), (0, .ref 16), (1, vl_iv a1), (2, vl_iv a2), (3, vl_iv a3), (4, .ref 100), (5, vl_iv 5), (6, vl_iv v1), (7, vl_iv v8), (9, vl_iv v19), (10, vl_iv v22)]) dX1_sort_117 rfl (by decide) (fun _ => rfl) hE (fun v27 hE => ?_)
                refine vl_goto (tgt := 33) dX1_sort_120 (by decide) ?_
                exact vl_wk [1, 2, 3, 4, 5, 6, 7, 8, 0] rfl (ih33_ v27 m24 hE)
              have hL52_ : ∀ (n : Nat) (v20 : Int) (m21 : vl_M), vl_ok P (fn_X1_sort_L52 N a1 a2 a3 v1 v8 v10 v19 κ n v20 m21) → vl_V nc S sc kX1_sort d Post 52 [(0, .ref 16), (1, vl_iv a1), (2, vl_iv a2), (3, vl_iv a3), (4, .ref 100), (5, vl_iv 5), (6, vl_iv v1), (7, vl_iv v8), (8, vl_iv v10), (9, vl_iv v19), (10, vl_iv v20)] [] m21 ρ := by
                intro n
                induction n with
                | zero => intro v20 m21 hE; exact vl_no hE
                | succ n ih52_ =>
                  intro v20 m21 hE
                  rw [fn_X1_sort_L52] at hE
                  refine vl_iload 10 rfl dX1_sort_52 ?_
                  refine vl_iload 7 rfl dX1_sort_54 ?_
                  refine vl_isub dX1_sort_56 ?_
                  refine vl_iload_n 1 rfl dX1_sort_57 ?_
                  obtain ⟨g28, hE⟩ := vl_ok_gd hE
                  obtain ⟨g29, hE⟩ := vl_ok_gd hE
                  refine vl_icmp_lt (tgt := 108) dX1_sort_58 (by decide) g28 g29 hE (fun c39 hE => ?_) (fun c39 hE => ?_)
                  · exact (hκL5221 v20 m21 hE)
                  · refine vl_aload_n 0 rfl dX1_sort_61 ?_
                    refine vl_iload 9 rfl dX1_sort_62 ?_
                    refine vl_aload_n 0 rfl dX1_sort_64 ?_
                    refine vl_getR (h := 16) (k0 := 2) (h2 := 17) iu_X1 n16 s16 rfl (by decide) fk_X1_9 rfl dX1_sort_65 ?_
                    refine vl_iload 10 rfl dX1_sort_68 ?_
                    refine vl_iload 7 rfl dX1_sort_70 ?_
                    refine vl_isub dX1_sort_72 ?_
                    refine vl_aldc (h := 17) (n := 400) (ni := 400) n17 (by decide) s17 (by decide) rfl dX1_sort_73 hE (fun g30 g31 hE => ?_)
                    refine vl_iload_n 3 rfl dX1_sort_74 ?_
                    refine vl_VpI (K' := kX1_compare) (d' := 2) (h := 16) (As := [vl_iv v19, vl_iv (m21 17 (v20 - v8)), vl_iv a3]) (st := []) lk_X1_77 (fun _ => rfl) (by omega) n16 s16 rfl rfl (Nat.le_of_ble_eq_true rfl) rfl (Nat.le_of_ble_eq_true rfl) dX1_sort_75 hE (fun _ h => vx_X1_compare hG (Nat.le_refl _) h) (fun b32 hE => ?_)
                    obtain ⟨g33, hE⟩ := vl_ok_gd hE
                    refine vl_if_ge (tgt := 108) dX1_sort_78 (by decide) g33  hE (fun c38 hE => ?_) (fun c38 hE => ?_)
                    · exact (hκL5221 v20 m21 hE)
                    · refine vl_aload_n 0 rfl dX1_sort_81 ?_
                      refine vl_getR (h := 16) (k0 := 2) (h2 := 17) iu_X1 n16 s16 rfl (by decide) fk_X1_9 rfl dX1_sort_82 ?_
                      refine vl_iload 10 rfl dX1_sort_85 ?_
                      refine vl_aload_n 0 rfl dX1_sort_87 ?_
                      refine vl_getR (h := 16) (k0 := 2) (h2 := 17) iu_X1 n16 s16 rfl (by decide) fk_X1_9 rfl dX1_sort_88 ?_
                      refine vl_iload 10 rfl dX1_sort_91 ?_
                      refine vl_iload 7 rfl dX1_sort_93 ?_
                      refine vl_isub dX1_sort_95 ?_
                      refine vl_aldc1 (h := 17) (n := 400) (ni := 400) n17 (by decide) s17 (by decide) rfl g30 dX1_sort_96 ?_
                      refine vl_astc (h := 17) (n := 400) (ni := 400) n17 (by decide) s17 (by decide) rfl dX1_sort_97 hE (fun g35 g36 m34 hE => ?_)
                      refine vl_iload 10 rfl dX1_sort_98 ?_
                      refine vl_iload 7 rfl dX1_sort_100 ?_
                      refine vl_isub dX1_sort_102 ?_
                      refine vl_istore (fun v37 => [(10, vl_iv v37), (0, .ref 16), (1, vl_iv a1), (2, vl_iv a2), (3, vl_iv a3), (4, .ref 100), (5, vl_iv 5), (6, vl_iv v1), (7, vl_iv v8), (8, vl_iv v10), (9, vl_iv v19)]) dX1_sort_103 (by decide) (fun _ => rfl) hE (fun v37 hE => ?_)
                      refine vl_goto (tgt := 52) dX1_sort_105 (by decide) ?_
                      exact vl_wk [1, 2, 3, 4, 5, 6, 7, 8, 9, 10, 0] rfl (ih52_ v37 m34 hE)
              exact vl_wk [2, 3, 4, 5, 6, 7, 8, 9, 10, 1, 0] rfl (hL52_ N v10 m11 hE)
        exact vl_wk [2, 3, 4, 5, 6, 7, 8, 1, 0] rfl (hL33_ N v9 m2 hE)
  exact vl_wk [3, 4, 5, 6, 2, 1, 0] rfl (hL13_ N 0 m hE)
set_option maxRecDepth 100000 in
set_option maxHeartbeats 4000000 in
theorem vx_X2_lesserBelow {nc : Nat} {S : vl_Sh} {sc : Nat × (Nat → Int32)} {w : Nat} (hG : vl_G2 nc S w) {d : Nat} (hd : 3 ≤ d) {Post : Int → vl_M → vl_M → Prop} {m ρ : vl_M} {a1 : Int} (hE : vl_ok (fun r : Int => Post r m ρ) (fn_X2_lesserBelow m a1)) : vl_V nc S sc kX2_lesserBelow d Post 0 [(0, .ref 19), (1, vl_iv a1)] [] m ρ := by
  generalize hP : (fun r : Int => Post r m ρ) = P at hE
  have hP' : ∀ r : Int, P r → Post r m ρ := fun b h => by rw [← hP] at h; exact h
  clear hP
  have s19 : S 19 = .inr (2, [4, 14, 23, 24, 0, 0, 0]) := hG.2.1 19 (by decide) (by decide)
  have n19 : 19 < nc := Nat.lt_of_lt_of_le (by decide) hG.1
  have s20 : S 20 = .inl 807 := hG.2.1 20 (by decide) (by decide)
  have n20 : 20 < nc := Nat.lt_of_lt_of_le (by decide) hG.1
  unfold fn_X2_lesserBelow at hE
  refine vl_iconst dX2_lesserBelow_0 ?_
  refine vl_iload_n 1 rfl dX2_lesserBelow_1 ?_
  refine vl_imul dX2_lesserBelow_2 ?_
  refine vl_iconst dX2_lesserBelow_3 ?_
  refine vl_iadd dX2_lesserBelow_4 ?_
  refine vl_istore_n rfl (fun v1 => [(2, vl_iv v1), (0, .ref 19), (1, vl_iv a1)]) dX2_lesserBelow_5 (by decide) (fun _ => rfl) hE (fun v1 hE => ?_)
  refine vl_iload_n 0 rfl dX2_lesserBelow_6 ?_
  refine vl_iconst dX2_lesserBelow_7 ?_
  refine vl_iadd dX2_lesserBelow_8 ?_
  refine vl_aload_n 1 rfl dX2_lesserBelow_9 ?_
  refine vl_getIc (h := 19) (k0 := 4) (ki := 4) iu_X2 n19 (by decide) s19 rfl (by decide) fk_X2_33 rfl rfl dX2_lesserBelow_10 ?_
  obtain ⟨g2, hE⟩ := vl_ok_gd hE
  obtain ⟨g3, hE⟩ := vl_ok_gd hE
  refine vl_icmp_ge (tgt := 41) dX2_lesserBelow_13 (by decide) g2 g3 hE (fun c11 hE => ?_) (fun c11 hE => ?_)
  · refine vl_iload_n 0 rfl dX2_lesserBelow_41 ?_
    exact vl_ret (r := v1) rfl dX2_lesserBelow_42 hE (hP' (v1))
  · refine vl_aload_n 1 rfl dX2_lesserBelow_16 ?_
    refine vl_aload_n 1 rfl dX2_lesserBelow_17 ?_
    refine vl_getR (h := 19) (k0 := 2) (h2 := 20) iu_X2 n19 s19 rfl (by decide) fk_X2_9 rfl dX2_lesserBelow_18 ?_
    refine vl_iload_n 0 rfl dX2_lesserBelow_21 ?_
    refine vl_iconst dX2_lesserBelow_22 ?_
    refine vl_iadd dX2_lesserBelow_23 ?_
    refine vl_aldc (h := 20) (n := 807) (ni := 807) n20 (by decide) s20 (by decide) rfl dX2_lesserBelow_24 hE (fun g4 g5 hE => ?_)
    refine vl_aload_n 1 rfl dX2_lesserBelow_25 ?_
    refine vl_getR (h := 19) (k0 := 2) (h2 := 20) iu_X2 n19 s19 rfl (by decide) fk_X2_9 rfl dX2_lesserBelow_26 ?_
    refine vl_iload_n 0 rfl dX2_lesserBelow_29 ?_
    refine vl_aldc (h := 20) (n := 807) (ni := 807) n20 (by decide) s20 (by decide) rfl dX2_lesserBelow_30 hE (fun g6 g7 hE => ?_)
    refine vl_VpI (K' := kX2_isBefore) (d' := 2) (h := 19) (As := [vl_iv (m 20 (v1 + 1)), vl_iv (m 20 v1)]) (st := []) lk_X2_69 (fun _ => rfl) (by omega) n19 s19 rfl rfl (Nat.le_of_ble_eq_true rfl) rfl (Nat.le_of_ble_eq_true rfl) dX2_lesserBelow_31 hE (fun _ h => vx_X2_isBefore hG (Nat.le_refl _) h) (fun b8 hE => ?_)
    obtain ⟨g9, hE⟩ := vl_ok_gd hE
    refine vl_if_eq (tgt := 41) dX2_lesserBelow_34 (by decide) g9  hE (fun c10 hE => ?_) (fun c10 hE => ?_)
    · refine vl_iload_n 0 rfl dX2_lesserBelow_41 ?_
      exact vl_ret (r := v1) rfl dX2_lesserBelow_42 hE (hP' (v1))
    · refine vl_iload_n 0 rfl dX2_lesserBelow_37 ?_
      refine vl_iconst dX2_lesserBelow_38 ?_
      refine vl_iadd dX2_lesserBelow_39 ?_
      exact vl_ret (r := (v1 + 1)) rfl dX2_lesserBelow_40 hE (hP' (v1 + 1))
set_option maxRecDepth 100000 in
set_option maxHeartbeats 4000000 in
theorem vx_X2_push {nc : Nat} {S : vl_Sh} {sc : Nat × (Nat → Int32)} {w : Nat} (hG : vl_G2 nc S w) {N : Nat} {d : Nat} (hd : 3 ≤ d) {Post : Int → vl_M → vl_M → Prop} {m ρ : vl_M} {a1 a2 a3 : Int} (hE : vl_ok (fun b : vl_M => Post 0 b ρ) (fn_X2_push N m a1 a2 a3)) : vl_V nc S sc kX2_push d Post 0 [(0, .ref 19), (1, vl_iv a1), (2, vl_iv a2), (3, vl_iv a3)] [] m ρ := by
  generalize hP : (fun b : vl_M => Post 0 b ρ) = P at hE
  have hP' : ∀ b : vl_M, P b → Post 0 b ρ := fun b h => by rw [← hP] at h; exact h
  clear hP
  have s1 : S 1 = .inr (4, [0, 0, 5, 6, 7, 8, 9, 10, 11, 12, 0, 13, 0, 0, 0, 0, 0]) := hG.2.1 1 (by decide) (by decide)
  have n1 : 1 < nc := Nat.lt_of_lt_of_le (by decide) hG.1
  have s19 : S 19 = .inr (2, [4, 14, 23, 24, 0, 0, 0]) := hG.2.1 19 (by decide) (by decide)
  have n19 : 19 < nc := Nat.lt_of_lt_of_le (by decide) hG.1
  have s20 : S 20 = .inl 807 := hG.2.1 20 (by decide) (by decide)
  have n20 : 20 < nc := Nat.lt_of_lt_of_le (by decide) hG.1
  have s21 : S 21 = .inl 807 := hG.2.1 21 (by decide) (by decide)
  have n21 : 21 < nc := Nat.lt_of_lt_of_le (by decide) hG.1
  unfold fn_X2_push at hE
  refine vl_aload_n 0 rfl dX2_push_0 ?_
  refine vl_getIc (h := 19) (k0 := 4) (ki := 4) iu_X2 n19 (by decide) s19 rfl (by decide) fk_X2_33 rfl rfl dX2_push_1 ?_
  refine vl_aload_n 0 rfl dX2_push_4 ?_
  refine vl_getR (h := 19) (k0 := 2) (h2 := 20) iu_X2 n19 s19 rfl (by decide) fk_X2_9 rfl dX2_push_5 ?_
  refine vl_alen (h := 20) (n := 807) (ni := 807) n20 s20 rfl dX2_push_8 ?_
  obtain ⟨g1, hE⟩ := vl_ok_gd hE
  refine vl_icmp_lt (tgt := 13) dX2_push_9 (by decide) g1 (by decide) hE (fun c27 hE => ?_) (fun c27 hE => ?_)
  · refine vl_aload_n 0 rfl dX2_push_13 ?_
    refine vl_getR (h := 19) (k0 := 3) (h2 := 21) iu_X2 n19 s19 rfl (by decide) fk_X2_15 rfl dX2_push_14 ?_
    refine vl_iload_n 1 rfl dX2_push_17 ?_
    refine vl_aload_n 0 rfl dX2_push_18 ?_
    refine vl_getR (h := 19) (k0 := 0) (h2 := 1) iu_X2 n19 s19 rfl (by decide) fk_X2_22 rfl dX2_push_19 ?_
    refine vl_iload_n 1 rfl dX2_push_22 ?_
    refine vl_iload_n 2 rfl dX2_push_23 ?_
    refine vl_iload_n 3 rfl dX2_push_24 ?_
    refine vl_VpI (K' := kX4_squareTo) (d' := 1) (h := 1) (As := [vl_iv a1, vl_iv a2, vl_iv a3]) (st := [vl_iv a1, .ref 21]) lk_X2_65 (fun _ => rfl) (by omega) n1 s1 rfl rfl (Nat.le_of_ble_eq_true rfl) rfl (Nat.le_of_ble_eq_true rfl) dX2_push_25 hE (fun _ h => vx_X4_squareTo (vl_G21 hG) (Nat.le_refl _) h) (fun b2 hE => ?_)
    refine vl_astc (h := 21) (n := 807) (ni := 807) n21 (by decide) s21 (by decide) rfl dX2_push_28 hE (fun g4 g5 m3 hE => ?_)
    refine vl_aload_n 0 rfl dX2_push_29 ?_
    refine vl_dup rfl dX2_push_30 ?_
    refine vl_getIc (h := 19) (k0 := 4) (ki := 4) iu_X2 n19 (by decide) s19 rfl (by decide) fk_X2_33 rfl rfl dX2_push_31 ?_
    refine vl_dup_x1 rfl rfl dX2_push_34 ?_
    refine vl_iconst dX2_push_35 ?_
    refine vl_iadd dX2_push_36 ?_
    refine vl_putIc (h := 19) (k0 := 4) (ki := 4) iu_X2 tyX2_ok nmX2 n19 (by decide) s19 rfl (by decide) fk_X2_33 rfl rfl rfl (vl_nI _) dX2_push_37 hE (fun m6 hE => ?_)
    refine vl_istore (fun v7 => [(4, vl_iv v7), (0, .ref 19), (1, vl_iv a1), (2, vl_iv a2), (3, vl_iv a3)]) dX2_push_40 (by decide) (fun _ => rfl) hE (fun v7 hE => ?_)
    refine vl_lpr (F := fun κ : Int → vl_M → Option (vl_M) => fn_X2_push_L42 N a1 κ N v7 m6) (J := fun κ => ∀ (v10 : Int) (m11 : vl_M), vl_ok P (κ v10 m11) → vl_V nc S sc kX2_push d Post 95 [(0, .ref 19), (1, vl_iv a1), (4, vl_iv v10)] [] m11 ρ) ?_ hE (fun κ hκL429 hE => ?_)
    · intro v10 m11 hE
      refine vl_aload_n 0 rfl dX2_push_95 ?_
      refine vl_getR (h := 19) (k0 := 2) (h2 := 20) iu_X2 n19 s19 rfl (by decide) fk_X2_9 rfl dX2_push_96 ?_
      refine vl_iload 2 rfl dX2_push_99 ?_
      refine vl_iload_n 1 rfl dX2_push_101 ?_
      refine vl_astc (h := 20) (n := 807) (ni := 807) n20 (by decide) s20 (by decide) rfl dX2_push_102 hE (fun g13 g14 m12 hE => ?_)
      exact vl_ret (r := 0) rfl dX2_push_103 hE (hP' m12)
    have hL42_ : ∀ (n : Nat) (v8 : Int) (m9 : vl_M), vl_ok P (fn_X2_push_L42 N a1 κ n v8 m9) → vl_V nc S sc kX2_push d Post 42 [(0, .ref 19), (1, vl_iv a1), (4, vl_iv v8)] [] m9 ρ := by
      intro n
      induction n with
      | zero => intro v8 m9 hE; exact vl_no hE
      | succ n ih42_ =>
        intro v8 m9 hE
        rw [fn_X2_push_L42] at hE
        refine vl_iload 2 rfl dX2_push_42 ?_
        obtain ⟨g15, hE⟩ := vl_ok_gd hE
        refine vl_if_le (tgt := 95) dX2_push_44 (by decide) g15  hE (fun c26 hE => ?_) (fun c26 hE => ?_)
        · exact (hκL429 v8 m9 hE)
        · refine vl_aload_n 0 rfl dX2_push_47 ?_
          refine vl_iload_n 1 rfl dX2_push_48 ?_
          refine vl_aload_n 0 rfl dX2_push_49 ?_
          refine vl_getR (h := 19) (k0 := 2) (h2 := 20) iu_X2 n19 s19 rfl (by decide) fk_X2_9 rfl dX2_push_50 ?_
          refine vl_iload 2 rfl dX2_push_53 ?_
          refine vl_iconst dX2_push_55 ?_
          refine vl_isub dX2_push_56 ?_
          refine vl_iconst dX2_push_57 ?_
          obtain ⟨g16, hE⟩ := vl_ok_gd hE
          refine vl_idiv g16 (by decide) dX2_push_58 ?_
          refine vl_aldc (h := 20) (n := 807) (ni := 807) n20 (by decide) s20 (by decide) rfl dX2_push_59 hE (fun g17 g18 hE => ?_)
          refine vl_VpI (K' := kX2_isBefore) (d' := 2) (h := 19) (As := [vl_iv a1, vl_iv (m9 20 ((v8 - 1) / 2))]) (st := []) lk_X2_69 (fun _ => rfl) (by omega) n19 s19 rfl rfl (Nat.le_of_ble_eq_true rfl) rfl (Nat.le_of_ble_eq_true rfl) dX2_push_60 hE (fun _ h => vx_X2_isBefore hG (Nat.le_refl _) h) (fun b19 hE => ?_)
          obtain ⟨g20, hE⟩ := vl_ok_gd hE
          refine vl_if_eq (tgt := 95) dX2_push_63 (by decide) g20  hE (fun c25 hE => ?_) (fun c25 hE => ?_)
          · exact (hκL429 v8 m9 hE)
          · refine vl_aload_n 0 rfl dX2_push_66 ?_
            refine vl_getR (h := 19) (k0 := 2) (h2 := 20) iu_X2 n19 s19 rfl (by decide) fk_X2_9 rfl dX2_push_67 ?_
            refine vl_iload 2 rfl dX2_push_70 ?_
            refine vl_aload_n 0 rfl dX2_push_72 ?_
            refine vl_getR (h := 19) (k0 := 2) (h2 := 20) iu_X2 n19 s19 rfl (by decide) fk_X2_9 rfl dX2_push_73 ?_
            refine vl_iload 2 rfl dX2_push_76 ?_
            refine vl_iconst dX2_push_78 ?_
            refine vl_isub dX2_push_79 ?_
            refine vl_iconst dX2_push_80 ?_
            refine vl_idiv g16 (by decide) dX2_push_81 ?_
            refine vl_aldc1 (h := 20) (n := 807) (ni := 807) n20 (by decide) s20 (by decide) rfl g17 dX2_push_82 ?_
            refine vl_astc (h := 20) (n := 807) (ni := 807) n20 (by decide) s20 (by decide) rfl dX2_push_83 hE (fun g22 g23 m21 hE => ?_)
            refine vl_iload 2 rfl dX2_push_84 ?_
            refine vl_iconst dX2_push_86 ?_
            refine vl_isub dX2_push_87 ?_
            refine vl_iconst dX2_push_88 ?_
            refine vl_idiv g16 (by decide) dX2_push_89 ?_
            refine vl_istore (fun v24 => [(4, vl_iv v24), (0, .ref 19), (1, vl_iv a1)]) dX2_push_90 (by decide) (fun _ => rfl) hE (fun v24 hE => ?_)
            refine vl_goto (tgt := 42) dX2_push_92 (by decide) ?_
            exact vl_wk [1, 2, 0] rfl (ih42_ v24 m21 hE)
    exact vl_wk [1, 2, 0] rfl (hL42_ N v7 m6 hE)
  · exact vl_ret (r := 0) rfl dX2_push_12 hE (hP' m)
set_option maxRecDepth 100000 in
set_option maxHeartbeats 4000000 in
theorem vx_X0_findsAllWell {nc : Nat} {S : vl_Sh} {sc : Nat × (Nat → Int32)} {w : Nat} (hG : vl_G2 nc S w) {N : Nat} {d : Nat} (hd : 4 ≤ d) {Post : Int → vl_M → vl_M → Prop} {m ρ : vl_M} (hE : vl_ok (fun b : Int × vl_M => Post b.1 b.2 ρ) (fn_X0_findsAllWell w N m )) : vl_V nc S sc kX0_findsAllWell d Post 0 [(0, .ref 22)] [] m ρ := by
  generalize hP : (fun b : Int × vl_M => Post b.1 b.2 ρ) = P at hE
  have hP' : ∀ b : Int × vl_M, P b → Post b.1 b.2 ρ := fun b h => by rw [← hP] at h; exact h
  clear hP
  have s1 : S 1 = .inr (4, [0, 0, 5, 6, 7, 8, 9, 10, 11, 12, 0, 13, 0, 0, 0, 0, 0]) := hG.2.1 1 (by decide) (by decide)
  have n1 : 1 < nc := Nat.lt_of_lt_of_le (by decide) hG.1
  have s2 : S 2 = .inl 807 := hG.2.1 2 (by decide) (by decide)
  have n2 : 2 < nc := Nat.lt_of_lt_of_le (by decide) hG.1
  have s9 : S 9 = .inl 807 := hG.2.1 9 (by decide) (by decide)
  have n9 : 9 < nc := Nat.lt_of_lt_of_le (by decide) hG.1
  have s11 : S 11 = .inr (5, [4, 17, 15, 0, 16, 0, 0, 0, 0, 0]) := hG.2.1 11 (by decide) (by decide)
  have n11 : 11 < nc := Nat.lt_of_lt_of_le (by decide) hG.1
  have s13 : S 13 = .inl 404 := hG.2.1 13 (by decide) (by decide)
  have n13 : 13 < nc := Nat.lt_of_lt_of_le (by decide) hG.1
  have s22 : S 22 = .inr (0, [4, 14]) := hG.2.1 22 (by decide) (by decide)
  have n22 : 22 < nc := Nat.lt_of_lt_of_le (by decide) hG.1
  unfold fn_X0_findsAllWell at hE
  refine vl_iconst dX0_findsAllWell_0 ?_
  refine vl_istore_n0 rfl (lv' := [(1, vl_iv 0), (0, .ref 22)]) dX0_findsAllWell_1 (by decide) rfl ?_
  refine vl_iconst dX0_findsAllWell_2 ?_
  refine vl_istore_n0 rfl (lv' := [(2, vl_iv 0), (1, vl_iv 0), (0, .ref 22)]) dX0_findsAllWell_3 (by decide) rfl ?_
  refine vl_lpr (F := fun κ : Int → Int → vl_M → Option (Int × vl_M) => fn_X0_findsAllWell_L4 w N  κ N 0 0 m) (J := fun κ => ∀ (v4 : Int) (v5 : Int) (m6 : vl_M), vl_ok P (κ v4 v5 m6) → vl_V nc S sc kX0_findsAllWell d Post 81 [(0, .ref 22), (1, vl_iv v4)] [] m6 ρ) ?_ hE (fun κ hκL43 hE => ?_)
  · intro v4 v5 m6 hE
    refine vl_iload_n 1 rfl dX0_findsAllWell_81 ?_
    refine vl_aload_n 0 rfl dX0_findsAllWell_82 ?_
    refine vl_getR (h := 22) (k0 := 0) (h2 := 1) iu_X0 n22 s22 rfl (by decide) fk_X0_9 rfl dX0_findsAllWell_83 ?_
    refine vl_getIc (h := 1) (k0 := 12) (ki := 12) iu_X4 n1 (by decide) s1 rfl (by decide) fk_X0_47 rfl rfl dX0_findsAllWell_86 ?_
    obtain ⟨g7, hE⟩ := vl_ok_gd hE
    obtain ⟨g8, hE⟩ := vl_ok_gd hE
    refine vl_icmp_ne (tgt := 103) dX0_findsAllWell_89 (by decide) g7 g8 hE (fun c12 hE => ?_) (fun c12 hE => ?_)
    · refine vl_iconst dX0_findsAllWell_103 ?_
      exact vl_ret (r := 0) rfl ⟨dX0_findsAllWell_104, by decide⟩ hE (hP' (0, m6))
    · refine vl_aload_n 0 rfl dX0_findsAllWell_92 ?_
      refine vl_VpI (K' := kX0_noneIsTwice) (d' := 2) (h := 22) (As := []) (st := []) lk_X0_50 (fun _ => rfl) (by omega) n22 s22 rfl rfl (Nat.le_of_ble_eq_true rfl) rfl (Nat.le_of_ble_eq_true rfl) dX0_findsAllWell_93 hE (fun _ h => vx_X0_noneIsTwice hG (Nat.le_refl _) h) (fun b9 hE => ?_)
      obtain ⟨g10, hE⟩ := vl_ok_gd hE
      refine vl_if_eq (tgt := 103) dX0_findsAllWell_96 (by decide) g10  hE (fun c11 hE => ?_) (fun c11 hE => ?_)
      · refine vl_iconst dX0_findsAllWell_103 ?_
        exact vl_ret (r := 0) rfl ⟨dX0_findsAllWell_104, by decide⟩ hE (hP' (0, m6))
      · refine vl_iconst dX0_findsAllWell_99 ?_
        refine vl_goto (tgt := 104) dX0_findsAllWell_100 (by decide) ?_
        exact vl_ret (r := 1) rfl ⟨dX0_findsAllWell_104, by decide⟩ hE (hP' (1, m6))
  have hL4_ : ∀ (n : Nat) (v1 : Int) (v2 : Int) (m3 : vl_M), vl_ok P (fn_X0_findsAllWell_L4 w N  κ n v1 v2 m3) → vl_V nc S sc kX0_findsAllWell d Post 4 [(0, .ref 22), (1, vl_iv v1), (2, vl_iv v2)] [] m3 ρ := by
    intro n
    induction n with
    | zero => intro v1 v2 m3 hE; exact vl_no hE
    | succ n ih4_ =>
      intro v1 v2 m3 hE
      rw [fn_X0_findsAllWell_L4] at hE
      refine vl_iload_n 2 rfl dX0_findsAllWell_4 ?_
      refine vl_aload_n 0 rfl dX0_findsAllWell_5 ?_
      refine vl_getR (h := 22) (k0 := 1) (h2 := 11) iu_X0 n22 s22 rfl (by decide) fk_X0_15 rfl dX0_findsAllWell_6 ?_
      refine vl_getIc (h := 11) (k0 := 5) (ki := 5) iu_X5 n11 (by decide) s11 rfl (by decide) fk_X0_19 rfl rfl dX0_findsAllWell_9 ?_
      obtain ⟨g13, hE⟩ := vl_ok_gd hE
      obtain ⟨g14, hE⟩ := vl_ok_gd hE
      refine vl_icmp_ge (tgt := 81) dX0_findsAllWell_12 (by decide) g13 g14 hE (fun c36 hE => ?_) (fun c36 hE => ?_)
      · exact vl_wk [0, 1] rfl (hκL43 v1 v2 m3 hE)
      · refine vl_aload_n 0 rfl dX0_findsAllWell_15 ?_
        refine vl_getR (h := 22) (k0 := 1) (h2 := 11) iu_X0 n22 s22 rfl (by decide) fk_X0_15 rfl dX0_findsAllWell_16 ?_
        refine vl_getR (h := 11) (k0 := 4) (h2 := 13) iu_X5 n11 s11 rfl (by decide) fk_X0_25 rfl dX0_findsAllWell_19 ?_
        refine vl_iload_n 2 rfl dX0_findsAllWell_22 ?_
        refine vl_aldc (h := 13) (n := 404) (ni := 404) n13 (by decide) s13 (by decide) rfl dX0_findsAllWell_23 hE (fun g15 g16 hE => ?_)
        refine vl_istore_n rfl (fun v17 => [(3, vl_iv v17), (0, .ref 22), (1, vl_iv v1), (2, vl_iv v2)]) dX0_findsAllWell_24 (by decide) (fun _ => rfl) hE (fun v17 hE => ?_)
        refine vl_aload_n 1 rfl dX0_findsAllWell_25 ?_
        refine vl_iload_n 0 rfl dX0_findsAllWell_26 ?_
        refine vl_VpI (K' := kX0_holdsEnough) (d' := 0) (h := 22) (As := [vl_iv v17]) (st := []) lk_X0_29 (fun _ => rfl) (by omega) n22 s22 rfl rfl (Nat.le_of_ble_eq_true rfl) rfl (Nat.le_of_ble_eq_true rfl) dX0_findsAllWell_27 hE (fun _ h => vx_X0_holdsEnough hG (Nat.le_refl _) h) (fun b18 hE => ?_)
        obtain ⟨g19, hE⟩ := vl_ok_gd hE
        refine vl_if_eq (tgt := 49) dX0_findsAllWell_30 (by decide) g19  hE (fun c35 hE => ?_) (fun c35 hE => ?_)
        · refine vl_iconst dX0_findsAllWell_49 ?_
          exact vl_ret (r := 0) rfl ⟨dX0_findsAllWell_50, by decide⟩ hE (hP' (0, m3))
        · refine vl_aload_n 1 rfl dX0_findsAllWell_33 ?_
          refine vl_iload_n 0 rfl dX0_findsAllWell_34 ?_
          refine vl_VpI (K' := kX0_holdsRightly) (d' := 1) (h := 22) (As := [vl_iv v17]) (st := []) lk_X0_33 (fun _ => rfl) (by omega) n22 s22 rfl rfl (Nat.le_of_ble_eq_true rfl) rfl (Nat.le_of_ble_eq_true rfl) dX0_findsAllWell_35 hE (fun _ h => vx_X0_holdsRightly hG (Nat.le_refl _) h) (fun b20 hE => ?_)
          obtain ⟨g21, hE⟩ := vl_ok_gd hE
          refine vl_if_eq (tgt := 49) dX0_findsAllWell_38 (by decide) g21  hE (fun c34 hE => ?_) (fun c34 hE => ?_)
          · refine vl_iconst dX0_findsAllWell_49 ?_
            exact vl_ret (r := 0) rfl ⟨dX0_findsAllWell_50, by decide⟩ hE (hP' (0, m3))
          · refine vl_aload_n 1 rfl dX0_findsAllWell_41 ?_
            refine vl_iload_n 0 rfl dX0_findsAllWell_42 ?_
            refine vl_VcWI (K' := kX0_isTight) (d' := 3) (h := 22) (As := [vl_iv v17]) (st := []) lk_X0_36 (fun _ => rfl) (by omega) n22 s22 rfl rfl (Nat.le_of_ble_eq_true rfl) rfl (Nat.le_of_ble_eq_true rfl) dX0_findsAllWell_43 hE (fun _ h => vx_X0_isTight hG (Nat.le_refl _) h) (fun b22 m23 hE => ?_)
            obtain ⟨g24, hE⟩ := vl_ok_gd hE
            refine vl_if_ne (tgt := 51) dX0_findsAllWell_46 (by decide) g24  hE (fun c33 hE => ?_) (fun c33 hE => ?_)
            · refine vl_aload_n 1 rfl dX0_findsAllWell_51 ?_
              refine vl_getR (h := 22) (k0 := 0) (h2 := 1) iu_X0 n22 s22 rfl (by decide) fk_X0_9 rfl dX0_findsAllWell_52 ?_
              refine vl_getR (h := 1) (k0 := 2) (h2 := 2) iu_X4 n1 s1 rfl (by decide) fk_X0_39 rfl dX0_findsAllWell_55 ?_
              refine vl_iload_n 0 rfl dX0_findsAllWell_58 ?_
              refine vl_aldc (h := 2) (n := 807) (ni := 807) n2 (by decide) s2 (by decide) rfl dX0_findsAllWell_59 hE (fun g25 g26 hE => ?_)
              obtain ⟨g27, hE⟩ := vl_ok_gd hE
              refine vl_jnr (J := fun κ : Int → Option (Int × vl_M) => ∀ (v28 : Int), vl_ok P (κ v28) → vl_V nc S sc kX0_findsAllWell d Post 75 [(0, .ref 22), (1, vl_iv v28), (2, vl_iv v2)] [] m23 ρ) ?_ hE (fun κ29 hκ29 hE => ?_)
              · intro v28 hE
                refine vl_iinc 2 (fun v30 => [(2, vl_iv v30), (0, .ref 22), (1, vl_iv v28)]) dX0_findsAllWell_75 rfl (by decide) (fun _ => rfl) hE (fun v30 hE => ?_)
                refine vl_goto (tgt := 4) dX0_findsAllWell_78 (by decide) ?_
                exact vl_wk [1, 2, 0] rfl (ih4_ v28 v30 m23 hE)
              refine vl_if_ne (tgt := 75) dX0_findsAllWell_60 (by decide) g27  hE (fun c32 hE => ?_) (fun c32 hE => ?_)
              · exact vl_wk [1, 2, 3] rfl (hκ29 v1 hE)
              · refine vl_iload_n 2 rfl dX0_findsAllWell_63 ?_
                refine vl_aload_n 1 rfl dX0_findsAllWell_64 ?_
                refine vl_getR (h := 22) (k0 := 0) (h2 := 1) iu_X0 n22 s22 rfl (by decide) fk_X0_9 rfl dX0_findsAllWell_65 ?_
                refine vl_getR (h := 1) (k0 := 9) (h2 := 9) iu_X4 n1 s1 rfl (by decide) fk_X0_44 rfl dX0_findsAllWell_68 ?_
                refine vl_iload_n 0 rfl dX0_findsAllWell_71 ?_
                refine vl_aldc1 (h := 9) (n := 807) (ni := 807) n9 (by decide) s9 (by decide) rfl g25 dX0_findsAllWell_72 ?_
                refine vl_iadd dX0_findsAllWell_73 ?_
                refine vl_istore_n rfl (fun v31 => [(1, vl_iv v31), (3, vl_iv v17), (0, .ref 22), (2, vl_iv v2)]) dX0_findsAllWell_74 (by decide) (fun _ => rfl) hE (fun v31 hE => ?_)
                exact vl_wk [2, 0, 3] rfl (hκ29 v31 hE)
            · refine vl_iconst dX0_findsAllWell_49 ?_
              exact vl_ret (r := 0) rfl ⟨dX0_findsAllWell_50, by decide⟩ hE (hP' (0, m23))
  exact vl_wk [2, 1, 0] rfl (hL4_ N 0 0 m hE)
set_option maxRecDepth 100000 in
set_option maxHeartbeats 4000000 in
theorem vx_X1_sortSlices {nc : Nat} {S : vl_Sh} {sc : Nat × (Nat → Int32)} {w : Nat} (hG : vl_G2 nc S w) {N : Nat} {d : Nat} (hd : 4 ≤ d) {Post : Int → vl_M → vl_M → Prop} {m ρ : vl_M} (hE : vl_ok (fun b : vl_M => Post 0 b ρ) (fn_X1_sortSlices N m )) : vl_V nc S sc kX1_sortSlices d Post 0 [(0, .ref 16)] [] m ρ := by
  generalize hP : (fun b : vl_M => Post 0 b ρ) = P at hE
  have hP' : ∀ b : vl_M, P b → Post 0 b ρ := fun b h => by rw [← hP] at h; exact h
  clear hP
  have s1 : S 1 = .inr (4, [0, 0, 5, 6, 7, 8, 9, 10, 11, 12, 0, 13, 0, 0, 0, 0, 0]) := hG.2.1 1 (by decide) (by decide)
  have n1 : 1 < nc := Nat.lt_of_lt_of_le (by decide) hG.1
  have s16 : S 16 = .inr (1, [4, 14, 20, 0]) := hG.2.1 16 (by decide) (by decide)
  have n16 : 16 < nc := Nat.lt_of_lt_of_le (by decide) hG.1
  unfold fn_X1_sortSlices at hE
  refine vl_aload_n 0 rfl dX1_sortSlices_0 ?_
  refine vl_iconst dX1_sortSlices_1 ?_
  refine vl_aload_n 0 rfl dX1_sortSlices_2 ?_
  refine vl_getIc (h := 16) (k0 := 3) (ki := 3) iu_X1 n16 (by decide) s16 rfl (by decide) fk_X1_26 rfl rfl dX1_sortSlices_3 ?_
  refine vl_iconst dX1_sortSlices_6 ?_
  refine vl_VcWV (K' := kX1_sort) (d' := 3) (h := 16) (As := [vl_iv 0, vl_iv (m 16 3), vl_iv 0]) (st := []) lk_X1_57 (fun _ => rfl) (by omega) n16 s16 rfl rfl (Nat.le_of_ble_eq_true rfl) rfl (Nat.le_of_ble_eq_true rfl) dX1_sortSlices_7 hE (fun _ h => vx_X1_sort hG (Nat.le_refl _) h) (fun m2 hE => ?_)
  refine vl_aload_n 0 rfl dX1_sortSlices_10 ?_
  refine vl_aload_n 0 rfl dX1_sortSlices_11 ?_
  refine vl_getIc (h := 16) (k0 := 3) (ki := 3) iu_X1 n16 (by decide) s16 rfl (by decide) fk_X1_26 rfl rfl dX1_sortSlices_12 ?_
  refine vl_VpI (K' := kX1_groupsOf) (d' := 0) (h := 16) (As := [vl_iv (m2 16 3)]) (st := []) lk_X1_61 (fun _ => rfl) (by omega) n16 s16 rfl rfl (Nat.le_of_ble_eq_true rfl) rfl (Nat.le_of_ble_eq_true rfl) dX1_sortSlices_15 hE (fun _ h => vx_X1_groupsOf hG (Nat.le_refl _) h) (fun b3 hE => ?_)
  refine vl_istore_n0 rfl (lv' := [(1, vl_iv b3), (0, .ref 16)]) dX1_sortSlices_18 (by decide) rfl ?_
  refine vl_iconst dX1_sortSlices_19 ?_
  refine vl_istore_n0 rfl (lv' := [(2, vl_iv 1), (1, vl_iv b3), (0, .ref 16)]) dX1_sortSlices_20 (by decide) rfl ?_
  refine vl_lpr (F := fun κ : Int → Option (vl_M) => fn_X1_sortSlices_L21 N m2 b3 κ N 1) (J := fun κ => ∀ (v5 : Int), vl_ok P (κ v5) → vl_V nc S sc kX1_sortSlices d Post 34 [(0, .ref 16), (2, vl_iv v5)] [] m2 ρ) ?_ hE (fun κ hκL214 hE => ?_)
  · intro v5 hE
    refine vl_iload_n 1 rfl dX1_sortSlices_34 ?_
    refine vl_aload_n 0 rfl dX1_sortSlices_35 ?_
    refine vl_getR (h := 16) (k0 := 0) (h2 := 1) iu_X1 n16 s16 rfl (by decide) fk_X1_15 rfl dX1_sortSlices_36 ?_
    refine vl_getIc (h := 1) (k0 := 0) (ki := 0) iu_X4 n1 (by decide) s1 rfl (by decide) fk_X1_65 rfl rfl dX1_sortSlices_39 ?_
    refine vl_imul dX1_sortSlices_42 ?_
    refine vl_istore_n rfl (fun v6 => [(3, vl_iv v6), (0, .ref 16), (2, vl_iv v5)]) dX1_sortSlices_43 (by decide) (fun _ => rfl) hE (fun v6 hE => ?_)
    refine vl_iconst dX1_sortSlices_44 ?_
    refine vl_istore0 (lv' := [(4, vl_iv 0), (3, vl_iv v6), (0, .ref 16), (2, vl_iv v5)]) dX1_sortSlices_45 (by decide) rfl ?_
    refine vl_lpr (F := fun κ : Int → vl_M → Option (vl_M) => fn_X1_sortSlices_L47 N v5 v6 κ N 0 m2) (J := fun κ => ∀ (v9 : Int) (m10 : vl_M), vl_ok P (κ v9 m10) → vl_V nc S sc kX1_sortSlices d Post 81 [] [] m10 ρ) ?_ hE (fun κ hκL478 hE => ?_)
    · intro v9 m10 hE
      exact vl_ret (r := 0) rfl dX1_sortSlices_81 hE (hP' m10)
    have hL47_ : ∀ (n : Nat) (v7 : Int) (m8 : vl_M), vl_ok P (fn_X1_sortSlices_L47 N v5 v6 κ n v7 m8) → vl_V nc S sc kX1_sortSlices d Post 47 [(0, .ref 16), (2, vl_iv v5), (3, vl_iv v6), (4, vl_iv v7)] [] m8 ρ := by
      intro n
      induction n with
      | zero => intro v7 m8 hE; exact vl_no hE
      | succ n ih47_ =>
        intro v7 m8 hE
        rw [fn_X1_sortSlices_L47] at hE
        refine vl_iload 3 rfl dX1_sortSlices_47 ?_
        refine vl_iload_n 1 rfl dX1_sortSlices_49 ?_
        obtain ⟨g11, hE⟩ := vl_ok_gd hE
        obtain ⟨g12, hE⟩ := vl_ok_gd hE
        refine vl_icmp_ge (tgt := 81) dX1_sortSlices_50 (by decide) g11 g12 hE (fun c18 hE => ?_) (fun c18 hE => ?_)
        · exact vl_wk [] rfl (hκL478 v7 m8 hE)
        · refine vl_aload_n 0 rfl dX1_sortSlices_53 ?_
          refine vl_iload 3 rfl dX1_sortSlices_54 ?_
          refine vl_iload_n 2 rfl dX1_sortSlices_56 ?_
          refine vl_imul dX1_sortSlices_57 ?_
          refine vl_aload_n 0 rfl dX1_sortSlices_58 ?_
          refine vl_getIc (h := 16) (k0 := 3) (ki := 3) iu_X1 n16 (by decide) s16 rfl (by decide) fk_X1_26 rfl rfl dX1_sortSlices_59 ?_
          refine vl_iload 3 rfl dX1_sortSlices_62 ?_
          refine vl_iconst dX1_sortSlices_64 ?_
          refine vl_iadd dX1_sortSlices_65 ?_
          refine vl_iload_n 2 rfl dX1_sortSlices_66 ?_
          refine vl_imul dX1_sortSlices_67 ?_
          obtain ⟨g13, hE⟩ := vl_ok_gd hE
          obtain ⟨g14, hE⟩ := vl_ok_gd hE
          refine vl_mmin lk_X1_68 (by omega) g13 g14 (Nat.le_of_ble_eq_true rfl) dX1_sortSlices_68 ?_
          refine vl_iconst dX1_sortSlices_71 ?_
          refine vl_VcWV (K' := kX1_sort) (d' := 3) (h := 16) (As := [vl_iv (v7 * v6), vl_iv (min (m8 16 3) ((v7 + 1) * v6)), vl_iv 1]) (st := []) lk_X1_57 (fun _ => rfl) (by omega) n16 s16 rfl rfl (Nat.le_of_ble_eq_true rfl) rfl (Nat.le_of_ble_eq_true rfl) dX1_sortSlices_72 hE (fun _ h => vx_X1_sort hG (Nat.le_refl _) h) (fun m16 hE => ?_)
          refine vl_iinc 3 (fun v17 => [(4, vl_iv v17), (0, .ref 16), (2, vl_iv v5), (3, vl_iv v6)]) dX1_sortSlices_75 rfl (by decide) (fun _ => rfl) hE (fun v17 hE => ?_)
          refine vl_goto (tgt := 47) dX1_sortSlices_78 (by decide) ?_
          exact vl_wk [1, 2, 3, 0] rfl (ih47_ v17 m16 hE)
    exact vl_wk [2, 3, 1, 0] rfl (hL47_ N 0 m2 hE)
  have hL21_ : ∀ (n : Nat) (v4 : Int), vl_ok P (fn_X1_sortSlices_L21 N m2 b3 κ n v4) → vl_V nc S sc kX1_sortSlices d Post 21 [(0, .ref 16), (1, vl_iv b3), (2, vl_iv v4)] [] m2 ρ := by
    intro n
    induction n with
    | zero => intro v4 hE; exact vl_no hE
    | succ n ih21_ =>
      intro v4 hE
      rw [fn_X1_sortSlices_L21] at hE
      refine vl_iload_n 2 rfl dX1_sortSlices_21 ?_
      refine vl_iload_n 2 rfl dX1_sortSlices_22 ?_
      refine vl_imul dX1_sortSlices_23 ?_
      refine vl_iload_n 1 rfl dX1_sortSlices_24 ?_
      obtain ⟨g19, hE⟩ := vl_ok_gd hE
      obtain ⟨g20, hE⟩ := vl_ok_gd hE
      refine vl_icmp_ge (tgt := 34) dX1_sortSlices_25 (by decide) g19 g20 hE (fun c22 hE => ?_) (fun c22 hE => ?_)
      · exact vl_wk [0, 2] rfl (hκL214 v4 hE)
      · refine vl_iinc 2 (fun v21 => [(2, vl_iv v21), (0, .ref 16), (1, vl_iv b3)]) dX1_sortSlices_28 rfl (by decide) (fun _ => rfl) hE (fun v21 hE => ?_)
        refine vl_goto (tgt := 21) dX1_sortSlices_31 (by decide) ?_
        exact vl_wk [1, 2, 0] rfl (ih21_ v21 hE)
  exact vl_wk [2, 1, 0] rfl (hL21_ N 1 hE)
set_option maxRecDepth 100000 in
set_option maxHeartbeats 4000000 in
theorem vx_X2_pop {nc : Nat} {S : vl_Sh} {sc : Nat × (Nat → Int32)} {w : Nat} (hG : vl_G2 nc S w) {N : Nat} {d : Nat} (hd : 4 ≤ d) {Post : Int → vl_M → vl_M → Prop} {m ρ : vl_M} (hE : vl_ok (fun b : Int × vl_M => Post b.1 b.2 ρ) (fn_X2_pop N m )) : vl_V nc S sc kX2_pop d Post 0 [(0, .ref 19)] [] m ρ := by
  generalize hP : (fun b : Int × vl_M => Post b.1 b.2 ρ) = P at hE
  have hP' : ∀ b : Int × vl_M, P b → Post b.1 b.2 ρ := fun b h => by rw [← hP] at h; exact h
  clear hP
  have s19 : S 19 = .inr (2, [4, 14, 23, 24, 0, 0, 0]) := hG.2.1 19 (by decide) (by decide)
  have n19 : 19 < nc := Nat.lt_of_lt_of_le (by decide) hG.1
  have s20 : S 20 = .inl 807 := hG.2.1 20 (by decide) (by decide)
  have n20 : 20 < nc := Nat.lt_of_lt_of_le (by decide) hG.1
  unfold fn_X2_pop at hE
  refine vl_aload_n 0 rfl dX2_pop_0 ?_
  refine vl_getR (h := 19) (k0 := 2) (h2 := 20) iu_X2 n19 s19 rfl (by decide) fk_X2_9 rfl dX2_pop_1 ?_
  refine vl_iconst dX2_pop_4 ?_
  refine vl_aldc (h := 20) (n := 807) (ni := 807) n20 (by decide) s20 (by decide) rfl dX2_pop_5 hE (fun g1 g2 hE => ?_)
  refine vl_istore_n rfl (fun v3 => [(1, vl_iv v3), (0, .ref 19)]) dX2_pop_6 (by decide) (fun _ => rfl) hE (fun v3 hE => ?_)
  refine vl_aload_n 1 rfl dX2_pop_7 ?_
  refine vl_dup rfl dX2_pop_8 ?_
  refine vl_getIc (h := 19) (k0 := 4) (ki := 4) iu_X2 n19 (by decide) s19 rfl (by decide) fk_X2_33 rfl rfl dX2_pop_9 ?_
  refine vl_iconst dX2_pop_12 ?_
  refine vl_isub dX2_pop_13 ?_
  refine vl_putIc (h := 19) (k0 := 4) (ki := 4) iu_X2 tyX2_ok nmX2 n19 (by decide) s19 rfl (by decide) fk_X2_33 rfl rfl rfl (vl_nI _) dX2_pop_14 hE (fun m4 hE => ?_)
  refine vl_aload_n 1 rfl dX2_pop_17 ?_
  refine vl_getR (h := 19) (k0 := 2) (h2 := 20) iu_X2 n19 s19 rfl (by decide) fk_X2_9 rfl dX2_pop_18 ?_
  refine vl_aload_n 1 rfl dX2_pop_21 ?_
  refine vl_getIc (h := 19) (k0 := 4) (ki := 4) iu_X2 n19 (by decide) s19 rfl (by decide) fk_X2_33 rfl rfl dX2_pop_22 ?_
  refine vl_aldc (h := 20) (n := 807) (ni := 807) n20 (by decide) s20 (by decide) rfl dX2_pop_25 hE (fun g5 g6 hE => ?_)
  refine vl_istore_n rfl (fun v7 => [(2, vl_iv v7), (1, vl_iv v3), (0, .ref 19)]) dX2_pop_26 (by decide) (fun _ => rfl) hE (fun v7 hE => ?_)
  refine vl_iconst dX2_pop_27 ?_
  refine vl_istore_n0 rfl (lv' := [(3, vl_iv 0), (2, vl_iv v7), (1, vl_iv v3), (0, .ref 19)]) dX2_pop_28 (by decide) rfl ?_
  refine vl_aload_n 3 rfl dX2_pop_29 ?_
  refine vl_iload_n 0 rfl dX2_pop_30 ?_
  refine vl_VpI (K' := kX2_lesserBelow) (d' := 3) (h := 19) (As := [vl_iv 0]) (st := []) lk_X2_73 (fun _ => rfl) (by omega) n19 s19 rfl rfl (Nat.le_of_ble_eq_true rfl) rfl (Nat.le_of_ble_eq_true rfl) dX2_pop_31 hE (fun _ h => vx_X2_lesserBelow hG (Nat.le_refl _) h) (fun b8 hE => ?_)
  refine vl_istore0 (lv' := [(4, vl_iv b8), (3, vl_iv 0), (2, vl_iv v7), (1, vl_iv v3), (0, .ref 19)]) dX2_pop_34 (by decide) rfl ?_
  refine vl_lpr (F := fun κ : Int → Int → vl_M → Option (Int × vl_M) => fn_X2_pop_L36 N v3 v7 κ N 0 b8 m4) (J := fun κ => ∀ (v12 : Int) (v13 : Int) (m14 : vl_M), vl_ok P (κ v12 v13 m14) → vl_V nc S sc kX2_pop d Post 86 [(0, .ref 19), (1, vl_iv v3), (2, vl_iv v7), (3, vl_iv v12)] [] m14 ρ) ?_ hE (fun κ hκL3611 hE => ?_)
  · intro v12 v13 m14 hE
    refine vl_aload_n 0 rfl dX2_pop_86 ?_
    refine vl_getR (h := 19) (k0 := 2) (h2 := 20) iu_X2 n19 s19 rfl (by decide) fk_X2_9 rfl dX2_pop_87 ?_
    refine vl_iload_n 3 rfl dX2_pop_90 ?_
    refine vl_iload_n 2 rfl dX2_pop_91 ?_
    refine vl_astc (h := 20) (n := 807) (ni := 807) n20 (by decide) s20 (by decide) rfl dX2_pop_92 hE (fun g16 g17 m15 hE => ?_)
    refine vl_iload_n 1 rfl dX2_pop_93 ?_
    exact vl_ret (r := v3) rfl dX2_pop_94 hE (hP' (v3, m15))
  have hL36_ : ∀ (n : Nat) (v9 : Int) (v10 : Int) (m11 : vl_M), vl_ok P (fn_X2_pop_L36 N v3 v7 κ n v9 v10 m11) → vl_V nc S sc kX2_pop d Post 36 [(0, .ref 19), (1, vl_iv v3), (2, vl_iv v7), (3, vl_iv v9), (4, vl_iv v10)] [] m11 ρ := by
    intro n
    induction n with
    | zero => intro v9 v10 m11 hE; exact vl_no hE
    | succ n ih36_ =>
      intro v9 v10 m11 hE
      rw [fn_X2_pop_L36] at hE
      refine vl_iload 4 rfl dX2_pop_36 ?_
      refine vl_aload_n 0 rfl dX2_pop_38 ?_
      refine vl_getIc (h := 19) (k0 := 4) (ki := 4) iu_X2 n19 (by decide) s19 rfl (by decide) fk_X2_33 rfl rfl dX2_pop_39 ?_
      obtain ⟨g18, hE⟩ := vl_ok_gd hE
      obtain ⟨g19, hE⟩ := vl_ok_gd hE
      refine vl_icmp_ge (tgt := 86) dX2_pop_42 (by decide) g18 g19 hE (fun c29 hE => ?_) (fun c29 hE => ?_)
      · exact vl_wk [0, 1, 2, 3] rfl (hκL3611 v9 v10 m11 hE)
      · refine vl_aload_n 0 rfl dX2_pop_45 ?_
        refine vl_aload_n 0 rfl dX2_pop_46 ?_
        refine vl_getR (h := 19) (k0 := 2) (h2 := 20) iu_X2 n19 s19 rfl (by decide) fk_X2_9 rfl dX2_pop_47 ?_
        refine vl_iload 4 rfl dX2_pop_50 ?_
        refine vl_aldc (h := 20) (n := 807) (ni := 807) n20 (by decide) s20 (by decide) rfl dX2_pop_52 hE (fun g20 g21 hE => ?_)
        refine vl_iload_n 2 rfl dX2_pop_53 ?_
        refine vl_VpI (K' := kX2_isBefore) (d' := 2) (h := 19) (As := [vl_iv (m11 20 v10), vl_iv v7]) (st := []) lk_X2_69 (fun _ => rfl) (by omega) n19 s19 rfl rfl (Nat.le_of_ble_eq_true rfl) rfl (Nat.le_of_ble_eq_true rfl) dX2_pop_54 hE (fun _ h => vx_X2_isBefore hG (Nat.le_refl _) h) (fun b22 hE => ?_)
        obtain ⟨g23, hE⟩ := vl_ok_gd hE
        refine vl_if_eq (tgt := 86) dX2_pop_57 (by decide) g23  hE (fun c28 hE => ?_) (fun c28 hE => ?_)
        · exact vl_wk [0, 1, 2, 3] rfl (hκL3611 v9 v10 m11 hE)
        · refine vl_aload_n 0 rfl dX2_pop_60 ?_
          refine vl_getR (h := 19) (k0 := 2) (h2 := 20) iu_X2 n19 s19 rfl (by decide) fk_X2_9 rfl dX2_pop_61 ?_
          refine vl_iload_n 3 rfl dX2_pop_64 ?_
          refine vl_aload_n 0 rfl dX2_pop_65 ?_
          refine vl_getR (h := 19) (k0 := 2) (h2 := 20) iu_X2 n19 s19 rfl (by decide) fk_X2_9 rfl dX2_pop_66 ?_
          refine vl_iload 4 rfl dX2_pop_69 ?_
          refine vl_aldc1 (h := 20) (n := 807) (ni := 807) n20 (by decide) s20 (by decide) rfl g20 dX2_pop_71 ?_
          refine vl_astc (h := 20) (n := 807) (ni := 807) n20 (by decide) s20 (by decide) rfl dX2_pop_72 hE (fun g25 g26 m24 hE => ?_)
          refine vl_iload 4 rfl dX2_pop_73 ?_
          refine vl_istore_n0 rfl (lv' := [(3, vl_iv v10), (0, .ref 19), (1, vl_iv v3), (2, vl_iv v7), (4, vl_iv v10)]) dX2_pop_75 (by decide) rfl ?_
          refine vl_aload_n 1 rfl dX2_pop_76 ?_
          refine vl_iload_n 0 rfl dX2_pop_77 ?_
          refine vl_VpI (K' := kX2_lesserBelow) (d' := 3) (h := 19) (As := [vl_iv v10]) (st := []) lk_X2_73 (fun _ => rfl) (by omega) n19 s19 rfl rfl (Nat.le_of_ble_eq_true rfl) rfl (Nat.le_of_ble_eq_true rfl) dX2_pop_78 hE (fun _ h => vx_X2_lesserBelow hG (Nat.le_refl _) h) (fun b27 hE => ?_)
          refine vl_istore0 (lv' := [(4, vl_iv b27), (3, vl_iv v10), (0, .ref 19), (1, vl_iv v3), (2, vl_iv v7)]) dX2_pop_81 (by decide) rfl ?_
          refine vl_goto (tgt := 36) dX2_pop_83 (by decide) ?_
          exact vl_wk [2, 3, 4, 1, 0] rfl (ih36_ v10 b27 m24 hE)
  exact vl_wk [4, 3, 2, 1, 0] rfl (hL36_ N 0 b8 m4 hE)
set_option maxRecDepth 100000 in
set_option maxHeartbeats 4000000 in
theorem vx_X2_read {nc : Nat} {S : vl_Sh} {sc : Nat × (Nat → Int32)} {w : Nat} (hG : vl_G2 nc S w) {N : Nat} {d : Nat} (hd : 4 ≤ d) {Post : Int → vl_M → vl_M → Prop} {m ρ : vl_M} {a1 a2 a3 : Int} (hE : vl_ok (fun b : vl_M => Post 0 b ρ) (fn_X2_read w N m a1 a2 a3)) : vl_V nc S sc kX2_read d Post 0 [(0, .ref 19), (1, vl_iv a1), (2, vl_iv a2), (3, vl_iv a3)] [] m ρ := by
  generalize hP : (fun b : vl_M => Post 0 b ρ) = P at hE
  have hP' : ∀ b : vl_M, P b → Post 0 b ρ := fun b h => by rw [← hP] at h; exact h
  clear hP
  have s1 : S 1 = .inr (4, [0, 0, 5, 6, 7, 8, 9, 10, 11, 12, 0, 13, 0, 0, 0, 0, 0]) := hG.2.1 1 (by decide) (by decide)
  have n1 : 1 < nc := Nat.lt_of_lt_of_le (by decide) hG.1
  have s9 : S 9 = .inl 807 := hG.2.1 9 (by decide) (by decide)
  have n9 : 9 < nc := Nat.lt_of_lt_of_le (by decide) hG.1
  have s19 : S 19 = .inr (2, [4, 14, 23, 24, 0, 0, 0]) := hG.2.1 19 (by decide) (by decide)
  have n19 : 19 < nc := Nat.lt_of_lt_of_le (by decide) hG.1
  unfold fn_X2_read at hE
  refine vl_aload_n 0 rfl dX2_read_0 ?_
  refine vl_dup rfl dX2_read_1 ?_
  refine vl_getIc (h := 19) (k0 := 5) (ki := 5) iu_X2 n19 (by decide) s19 rfl (by decide) fk_X2_30 rfl rfl dX2_read_2 ?_
  refine vl_iconst dX2_read_5 ?_
  refine vl_iadd dX2_read_6 ?_
  refine vl_putIc (h := 19) (k0 := 5) (ki := 5) iu_X2 tyX2_ok nmX2 n19 (by decide) s19 rfl (by decide) fk_X2_30 rfl rfl rfl (vl_nI _) dX2_read_7 hE (fun m1 hE => ?_)
  refine vl_iconst dX2_read_10 ?_
  refine vl_istore0 (lv' := [(4, vl_iv 0), (0, .ref 19), (1, vl_iv a1), (2, vl_iv a2), (3, vl_iv a3)]) dX2_read_11 (by decide) rfl ?_
  refine vl_lpr (F := fun κ : Int → vl_M → Option (vl_M) => fn_X2_read_L13 w N a1 a2 a3 κ N 0 m1) (J := fun κ => ∀ (v4 : Int) (m5 : vl_M), vl_ok P (κ v4 m5) → vl_V nc S sc kX2_read d Post 49 [] [] m5 ρ) ?_ hE (fun κ hκL133 hE => ?_)
  · intro v4 m5 hE
    exact vl_ret (r := 0) rfl dX2_read_49 hE (hP' m5)
  have hL13_ : ∀ (n : Nat) (v2 : Int) (m3 : vl_M), vl_ok P (fn_X2_read_L13 w N a1 a2 a3 κ n v2 m3) → vl_V nc S sc kX2_read d Post 13 [(0, .ref 19), (1, vl_iv a1), (2, vl_iv a2), (3, vl_iv a3), (4, vl_iv v2)] [] m3 ρ := by
    intro n
    induction n with
    | zero => intro v2 m3 hE; exact vl_no hE
    | succ n ih13_ =>
      intro v2 m3 hE
      rw [fn_X2_read_L13] at hE
      refine vl_iload 4 rfl dX2_read_13 ?_
      refine vl_aload_n 0 rfl dX2_read_15 ?_
      refine vl_getR (h := 19) (k0 := 0) (h2 := 1) iu_X2 n19 s19 rfl (by decide) fk_X2_22 rfl dX2_read_16 ?_
      refine vl_getR (h := 1) (k0 := 9) (h2 := 9) iu_X4 n1 s1 rfl (by decide) fk_X2_58 rfl dX2_read_19 ?_
      refine vl_iload_n 1 rfl dX2_read_22 ?_
      refine vl_aldc (h := 9) (n := 807) (ni := 807) n9 (by decide) s9 (by decide) rfl dX2_read_23 hE (fun g6 g7 hE => ?_)
      obtain ⟨g8, hE⟩ := vl_ok_gd hE
      obtain ⟨g9, hE⟩ := vl_ok_gd hE
      refine vl_icmp_ge (tgt := 49) dX2_read_24 (by decide) g8 g9 hE (fun c14 hE => ?_) (fun c14 hE => ?_)
      · exact vl_wk [] rfl (hκL133 v2 m3 hE)
      · refine vl_aload_n 0 rfl dX2_read_27 ?_
        refine vl_aload_n 0 rfl dX2_read_28 ?_
        refine vl_getR (h := 19) (k0 := 0) (h2 := 1) iu_X2 n19 s19 rfl (by decide) fk_X2_22 rfl dX2_read_29 ?_
        refine vl_iload_n 1 rfl dX2_read_32 ?_
        refine vl_iload 4 rfl dX2_read_33 ?_
        refine vl_VpI (K' := kX4_thingAt) (d' := 0) (h := 1) (As := [vl_iv a1, vl_iv v2]) (st := [.ref 19]) lk_X2_61 (fun _ => rfl) (by omega) n1 s1 rfl rfl (Nat.le_of_ble_eq_true rfl) rfl (Nat.le_of_ble_eq_true rfl) dX2_read_35 hE (fun _ h => vx_X4_thingAt (vl_G21 hG) (Nat.le_refl _) h) (fun b10 hE => ?_)
        refine vl_iload_n 2 rfl dX2_read_38 ?_
        refine vl_iload_n 3 rfl dX2_read_39 ?_
        refine vl_VcWV (K' := kX2_push) (d' := 3) (h := 19) (As := [vl_iv b10, vl_iv a2, vl_iv a3]) (st := []) lk_X2_41 (fun _ => rfl) (by omega) n19 s19 rfl rfl (Nat.le_of_ble_eq_true rfl) rfl (Nat.le_of_ble_eq_true rfl) dX2_read_40 hE (fun _ h => vx_X2_push hG (Nat.le_refl _) h) (fun m12 hE => ?_)
        refine vl_iinc 4 (fun v13 => [(4, vl_iv v13), (0, .ref 19), (1, vl_iv a1), (2, vl_iv a2), (3, vl_iv a3)]) dX2_read_43 rfl (by decide) (fun _ => rfl) hE (fun v13 hE => ?_)
        refine vl_goto (tgt := 13) dX2_read_46 (by decide) ?_
        exact vl_wk [1, 2, 3, 4, 0] rfl (ih13_ v13 m12 hE)
  exact vl_wk [1, 2, 3, 4, 0] rfl (hL13_ N 0 m1 hE)
set_option maxRecDepth 100000 in
set_option maxHeartbeats 4000000 in
theorem vx_X2_find {nc : Nat} {S : vl_Sh} {sc : Nat × (Nat → Int32)} {w : Nat} (hG : vl_G2 nc S w) {N : Nat} {d : Nat} (hd : 5 ≤ d) {Post : Int → vl_M → vl_M → Prop} {m ρ : vl_M} {a1 a2 a3 : Int} (hE : vl_ok (fun b : Int × vl_M => Post b.1 b.2 ρ) (fn_X2_find w N m a1 a2 a3)) : vl_V nc S sc kX2_find d Post 0 [(0, .ref 19), (1, vl_iv a1), (2, vl_iv a2), (3, vl_iv a3)] [] m ρ := by
  generalize hP : (fun b : Int × vl_M => Post b.1 b.2 ρ) = P at hE
  have hP' : ∀ b : Int × vl_M, P b → Post b.1 b.2 ρ := fun b h => by rw [← hP] at h; exact h
  clear hP
  have s1 : S 1 = .inr (4, [0, 0, 5, 6, 7, 8, 9, 10, 11, 12, 0, 13, 0, 0, 0, 0, 0]) := hG.2.1 1 (by decide) (by decide)
  have n1 : 1 < nc := Nat.lt_of_lt_of_le (by decide) hG.1
  have s11 : S 11 = .inr (5, [4, 17, 15, 0, 16, 0, 0, 0, 0, 0]) := hG.2.1 11 (by decide) (by decide)
  have n11 : 11 < nc := Nat.lt_of_lt_of_le (by decide) hG.1
  have s19 : S 19 = .inr (2, [4, 14, 23, 24, 0, 0, 0]) := hG.2.1 19 (by decide) (by decide)
  have n19 : 19 < nc := Nat.lt_of_lt_of_le (by decide) hG.1
  have s21 : S 21 = .inl 807 := hG.2.1 21 (by decide) (by decide)
  have n21 : 21 < nc := Nat.lt_of_lt_of_le (by decide) hG.1
  unfold fn_X2_find at hE
  refine vl_aload_n 0 rfl dX2_find_0 ?_
  refine vl_iconst dX2_find_1 ?_
  refine vl_putIc (h := 19) (k0 := 5) (ki := 5) iu_X2 tyX2_ok nmX2 n19 (by decide) s19 rfl (by decide) fk_X2_30 rfl rfl rfl (vl_nI _) dX2_find_2 hE (fun m1 hE => ?_)
  refine vl_aload_n 0 rfl dX2_find_5 ?_
  refine vl_iconst dX2_find_6 ?_
  refine vl_putIc (h := 19) (k0 := 4) (ki := 4) iu_X2 tyX2_ok nmX2 n19 (by decide) s19 rfl (by decide) fk_X2_33 rfl rfl rfl (vl_nI _) dX2_find_7 hE (fun m2 hE => ?_)
  refine vl_aload_n 0 rfl dX2_find_10 ?_
  refine vl_aload_n 0 rfl dX2_find_11 ?_
  refine vl_getR (h := 19) (k0 := 1) (h2 := 11) iu_X2 n19 s19 rfl (by decide) fk_X2_26 rfl dX2_find_12 ?_
  refine vl_getIc (h := 11) (k0 := 6) (ki := 6) iu_X5 n11 (by decide) s11 rfl (by decide) fk_X2_36 rfl rfl dX2_find_15 ?_
  refine vl_iload_n 1 rfl dX2_find_18 ?_
  refine vl_iload_n 2 rfl dX2_find_19 ?_
  refine vl_VcWV (K' := kX2_push) (d' := 3) (h := 19) (As := [vl_iv (m2 11 6), vl_iv a1, vl_iv a2]) (st := []) lk_X2_41 (fun _ => rfl) (by omega) n19 s19 rfl rfl (Nat.le_of_ble_eq_true rfl) rfl (Nat.le_of_ble_eq_true rfl) dX2_find_20 hE (fun _ h => vx_X2_push hG (Nat.le_refl _) h) (fun m4 hE => ?_)
  refine vl_iconst dX2_find_23 ?_
  refine vl_istore0 (lv' := [(4, vl_iv 0), (0, .ref 19), (1, vl_iv a1), (2, vl_iv a2), (3, vl_iv a3)]) dX2_find_24 (by decide) rfl ?_
  refine vl_iconst dX2_find_26 ?_
  refine vl_istore0 (lv' := [(5, vl_iv 0), (4, vl_iv 0), (0, .ref 19), (1, vl_iv a1), (2, vl_iv a2), (3, vl_iv a3)]) dX2_find_27 (by decide) rfl ?_
  refine vl_lpr (F := fun κ : Int → Int → vl_M → Option (Int × vl_M) => fn_X2_find_L29 w N a1 a2 a3 κ N 0 0 m4) (J := fun κ => ∀ (v8 : Int) (v9 : Int) (m10 : vl_M), vl_ok P (κ v8 v9 m10) → vl_V nc S sc kX2_find d Post 105 [] [] m10 ρ) ?_ hE (fun κ hκL297 hE => ?_)
  · intro v8 v9 m10 hE
    refine vl_iconst dX2_find_105 ?_
    exact vl_ret (r := (-1)) rfl dX2_find_106 hE (hP' ((-1), m10))
  have hL29_ : ∀ (n : Nat) (v5 : Int) (v6 : Int) (m7 : vl_M), vl_ok P (fn_X2_find_L29 w N a1 a2 a3 κ n v5 v6 m7) → vl_V nc S sc kX2_find d Post 29 [(0, .ref 19), (1, vl_iv a1), (2, vl_iv a2), (3, vl_iv a3), (4, vl_iv v5), (5, vl_iv v6)] [] m7 ρ := by
    intro n
    induction n with
    | zero => intro v5 v6 m7 hE; exact vl_no hE
    | succ n ih29_ =>
      intro v5 v6 m7 hE
      rw [fn_X2_find_L29] at hE
      refine vl_iload 5 rfl dX2_find_29 ?_
      refine vl_sipush (by decide) dX2_find_31 ?_
      obtain ⟨g11, hE⟩ := vl_ok_gd hE
      refine vl_icmp_ge (tgt := 105) dX2_find_34 (by decide) g11 (by decide) hE (fun c30 hE => ?_) (fun c30 hE => ?_)
      · exact vl_wk [] rfl (hκL297 v5 v6 m7 hE)
      · refine vl_aload_n 0 rfl dX2_find_37 ?_
        refine vl_getIc (h := 19) (k0 := 4) (ki := 4) iu_X2 n19 (by decide) s19 rfl (by decide) fk_X2_33 rfl rfl dX2_find_38 ?_
        obtain ⟨g12, hE⟩ := vl_ok_gd hE
        refine vl_if_le (tgt := 105) dX2_find_41 (by decide) g12  hE (fun c29 hE => ?_) (fun c29 hE => ?_)
        · exact vl_wk [] rfl (hκL297 v5 v6 m7 hE)
        · refine vl_aload_n 0 rfl dX2_find_44 ?_
          refine vl_VcWI (K' := kX2_pop) (d' := 4) (h := 19) (As := []) (st := []) lk_X2_45 (fun _ => rfl) (by omega) n19 s19 rfl rfl (Nat.le_of_ble_eq_true rfl) rfl (Nat.le_of_ble_eq_true rfl) dX2_find_45 hE (fun _ h => vx_X2_pop hG (Nat.le_refl _) h) (fun b13 m14 hE => ?_)
          refine vl_istore0 (lv' := [(6, vl_iv b13), (0, .ref 19), (1, vl_iv a1), (2, vl_iv a2), (3, vl_iv a3), (4, vl_iv v5), (5, vl_iv v6)]) dX2_find_48 (by decide) rfl ?_
          refine vl_aload_n 1 rfl dX2_find_50 ?_
          refine vl_getR (h := 19) (k0 := 0) (h2 := 1) iu_X2 n19 s19 rfl (by decide) fk_X2_22 rfl dX2_find_51 ?_
          refine vl_iload 0 rfl dX2_find_54 ?_
          refine vl_VpI (K' := kX4_isEntry) (d' := 0) (h := 1) (As := [vl_iv b13]) (st := []) lk_X2_49 (fun _ => rfl) (by omega) n1 s1 rfl rfl (Nat.le_of_ble_eq_true rfl) rfl (Nat.le_of_ble_eq_true rfl) dX2_find_56 hE (fun _ h => vx_X4_isEntry (vl_G21 hG) (Nat.le_refl _) h) (fun b15 hE => ?_)
          obtain ⟨g16, hE⟩ := vl_ok_gd hE
          refine vl_if_ne (tgt := 73) dX2_find_59 (by decide) g16  hE (fun c28 hE => ?_) (fun c28 hE => ?_)
          · refine vl_iload 5 rfl dX2_find_73 ?_
            refine vl_iload_n 4 rfl dX2_find_75 ?_
            obtain ⟨g17, hE⟩ := vl_ok_gd hE
            obtain ⟨g18, hE⟩ := vl_ok_gd hE
            refine vl_icmp_ge (tgt := 85) dX2_find_76 (by decide) g17 g18 hE (fun c24 hE => ?_) (fun c24 hE => ?_)
            · refine vl_aload_n 1 rfl dX2_find_85 ?_
              refine vl_aload_n 1 rfl dX2_find_86 ?_
              refine vl_getR (h := 19) (k0 := 3) (h2 := 21) iu_X2 n19 s19 rfl (by decide) fk_X2_15 rfl dX2_find_87 ?_
              refine vl_iload 0 rfl dX2_find_90 ?_
              refine vl_aldc (h := 21) (n := 807) (ni := 807) n21 (by decide) s21 (by decide) rfl dX2_find_92 hE (fun g19 g20 hE => ?_)
              refine vl_putIc (h := 19) (k0 := 6) (ki := 6) iu_X2 tyX2_ok nmX2 n19 (by decide) s19 rfl (by decide) fk_X2_18 rfl rfl rfl (vl_nI _) dX2_find_93 hE (fun m21 hE => ?_)
              refine vl_iload 0 rfl dX2_find_96 ?_
              exact vl_ret (r := b13) rfl dX2_find_98 hE (hP' (b13, m21))
            · refine vl_iinc 5 (fun v22 => [(4, vl_iv v22), (6, vl_iv b13), (0, .ref 19), (1, vl_iv a1), (2, vl_iv a2), (3, vl_iv a3), (5, vl_iv v6)]) dX2_find_79 rfl (by decide) (fun _ => rfl) hE (fun v22 hE => ?_)
              refine vl_goto (tgt := 99) dX2_find_82 (by decide) ?_
              refine vl_iinc 6 (fun v23 => [(5, vl_iv v23), (4, vl_iv v22), (6, vl_iv b13), (0, .ref 19), (1, vl_iv a1), (2, vl_iv a2), (3, vl_iv a3)]) dX2_find_99 rfl (by decide) (fun _ => rfl) hE (fun v23 hE => ?_)
              refine vl_goto (tgt := 29) dX2_find_102 (by decide) ?_
              exact vl_wk [3, 4, 5, 6, 1, 0] rfl (ih29_ v22 v23 m14 hE)
          · refine vl_aload_n 1 rfl dX2_find_62 ?_
            refine vl_iload 0 rfl dX2_find_63 ?_
            refine vl_iload_n 2 rfl dX2_find_65 ?_
            refine vl_iload_n 3 rfl dX2_find_66 ?_
            refine vl_VcWV (K' := kX2_read) (d' := 4) (h := 19) (As := [vl_iv b13, vl_iv a1, vl_iv a2]) (st := []) lk_X2_55 (fun _ => rfl) (by omega) n19 s19 rfl rfl (Nat.le_of_ble_eq_true rfl) rfl (Nat.le_of_ble_eq_true rfl) dX2_find_67 hE (fun _ h => vx_X2_read hG (Nat.le_refl _) h) (fun m26 hE => ?_)
            refine vl_goto (tgt := 99) dX2_find_70 (by decide) ?_
            refine vl_iinc 6 (fun v27 => [(5, vl_iv v27), (6, vl_iv b13), (0, .ref 19), (1, vl_iv a1), (2, vl_iv a2), (3, vl_iv a3), (4, vl_iv v5)]) dX2_find_99 rfl (by decide) (fun _ => rfl) hE (fun v27 hE => ?_)
            refine vl_goto (tgt := 29) dX2_find_102 (by decide) ?_
            exact vl_wk [2, 3, 4, 5, 6, 0] rfl (ih29_ v5 v27 m26 hE)
  exact vl_wk [2, 3, 4, 5, 1, 0] rfl (hL29_ N 0 0 m4 hE)
set_option maxRecDepth 100000 in
set_option maxHeartbeats 4000000 in
theorem vx_X1_buildAnew {nc : Nat} {S : vl_Sh} {sc : Nat × (Nat → Int32)} {w : Nat} (hG : vl_G2 nc S w) {N : Nat} {d : Nat} (hd : 64 ≤ d) {Post : Int → vl_M → vl_M → Prop} {m ρ : vl_M} (hE : vl_ok (fun b : vl_M => Post 0 b ρ) (fn_X1_buildAnew w N m )) : vl_V nc S sc kX1_buildAnew d Post 0 [(0, .ref 16)] [] m ρ := by
  generalize hP : (fun b : vl_M => Post 0 b ρ) = P at hE
  have hP' : ∀ b : vl_M, P b → Post 0 b ρ := fun b h => by rw [← hP] at h; exact h
  clear hP
  have s1 : S 1 = .inr (4, [0, 0, 5, 6, 7, 8, 9, 10, 11, 12, 0, 13, 0, 0, 0, 0, 0]) := hG.2.1 1 (by decide) (by decide)
  have n1 : 1 < nc := Nat.lt_of_lt_of_le (by decide) hG.1
  have s11 : S 11 = .inr (5, [4, 17, 15, 0, 16, 0, 0, 0, 0, 0]) := hG.2.1 11 (by decide) (by decide)
  have n11 : 11 < nc := Nat.lt_of_lt_of_le (by decide) hG.1
  have s16 : S 16 = .inr (1, [4, 14, 20, 0]) := hG.2.1 16 (by decide) (by decide)
  have n16 : 16 < nc := Nat.lt_of_lt_of_le (by decide) hG.1
  have s17 : S 17 = .inl 400 := hG.2.1 17 (by decide) (by decide)
  have n17 : 17 < nc := Nat.lt_of_lt_of_le (by decide) hG.1
  unfold fn_X1_buildAnew at hE
  refine vl_aload_n 0 rfl dX1_buildAnew_0 ?_
  refine vl_VcWV (K' := kX1_gather) (d' := 1) (h := 16) (As := []) (st := []) lk_X1_23 (fun _ => rfl) (by omega) n16 s16 rfl rfl (Nat.le_of_ble_eq_true rfl) rfl (Nat.le_of_ble_eq_true rfl) dX1_buildAnew_1 hE (fun _ h => vx_X1_gather hG (Nat.le_refl _) h) (fun m2 hE => ?_)
  refine vl_aload_n 0 rfl dX1_buildAnew_4 ?_
  refine vl_getIc (h := 16) (k0 := 3) (ki := 3) iu_X1 n16 (by decide) s16 rfl (by decide) fk_X1_26 rfl rfl dX1_buildAnew_5 ?_
  obtain ⟨g3, hE⟩ := vl_ok_gd hE
  refine vl_if_ne (tgt := 19) dX1_buildAnew_8 (by decide) g3  hE (fun c28 hE => ?_) (fun c28 hE => ?_)
  · refine vl_aload_n 0 rfl dX1_buildAnew_19 ?_
    refine vl_VcWV (K' := kX1_sortSlices) (d' := 4) (h := 16) (As := []) (st := []) lk_X1_35 (fun _ => rfl) (by omega) n16 s16 rfl rfl (Nat.le_of_ble_eq_true rfl) rfl (Nat.le_of_ble_eq_true rfl) dX1_buildAnew_20 hE (fun _ h => vx_X1_sortSlices hG (Nat.le_refl _) h) (fun m5 hE => ?_)
    refine vl_aload_n 0 rfl dX1_buildAnew_23 ?_
    refine vl_getR (h := 16) (k0 := 0) (h2 := 1) iu_X1 n16 s16 rfl (by decide) fk_X1_15 rfl dX1_buildAnew_24 ?_
    refine vl_VcWV (K' := kX4_forgetNodes) (d' := 0) (h := 1) (As := []) (st := []) lk_X1_38 (fun _ => rfl) (by omega) n1 s1 rfl rfl (Nat.le_of_ble_eq_true rfl) rfl (Nat.le_of_ble_eq_true rfl) dX1_buildAnew_27 hE (fun _ h => vx_X4_forgetNodes (vl_G21 hG) (Nat.le_refl _) h) (fun m7 hE => ?_)
    refine vl_iconst dX1_buildAnew_30 ?_
    refine vl_istore_n0 rfl (lv' := [(1, vl_iv 0), (0, .ref 16)]) dX1_buildAnew_31 (by decide) rfl ?_
    have hL32_ : ∀ (n : Nat) (v8 : Int) (m9 : vl_M), vl_ok P (fn_X1_buildAnew_L32 w N   n v8 m9) → vl_V nc S sc kX1_buildAnew d Post 32 [(0, .ref 16), (1, vl_iv v8)] [] m9 ρ := by
      intro n
      induction n with
      | zero => intro v8 m9 hE; exact vl_no hE
      | succ n ih32_ =>
        intro v8 m9 hE
        rw [fn_X1_buildAnew_L32] at hE
        refine vl_iload_n 1 rfl dX1_buildAnew_32 ?_
        obtain ⟨g10, hE⟩ := vl_ok_gd hE
        refine vl_if_eq (tgt := 50) dX1_buildAnew_33 (by decide) g10  hE (fun c25 hE => ?_) (fun c25 hE => ?_)
        · refine vl_aload_n 0 rfl dX1_buildAnew_50 ?_
          refine vl_iload_n 1 rfl dX1_buildAnew_51 ?_
          refine vl_VcWV (K' := kX1_groupInto) (d' := 3) (h := 16) (As := [vl_iv v8]) (st := []) lk_X1_43 (fun _ => rfl) (by omega) n16 s16 rfl rfl (Nat.le_of_ble_eq_true rfl) rfl (Nat.le_of_ble_eq_true rfl) dX1_buildAnew_52 hE (fun _ h => vx_X1_groupInto hG (Nat.le_refl _) h) (fun m12 hE => ?_)
          refine vl_iinc 1 (fun v13 => [(1, vl_iv v13), (0, .ref 16)]) dX1_buildAnew_55 rfl (by decide) (fun _ => rfl) hE (fun v13 hE => ?_)
          refine vl_goto (tgt := 32) dX1_buildAnew_58 (by decide) ?_
          exact vl_wk [1, 0] rfl (ih32_ v13 m12 hE)
        · refine vl_aload_n 0 rfl dX1_buildAnew_36 ?_
          refine vl_getIc (h := 16) (k0 := 3) (ki := 3) iu_X1 n16 (by decide) s16 rfl (by decide) fk_X1_26 rfl rfl dX1_buildAnew_37 ?_
          refine vl_iconst dX1_buildAnew_40 ?_
          obtain ⟨g14, hE⟩ := vl_ok_gd hE
          refine vl_jnr (J := fun κ : vl_M → Option (vl_M) => ∀ (m15 : vl_M), vl_ok P (κ m15) → vl_V nc S sc kX1_buildAnew d Post 61 [(0, .ref 16)] [] m15 ρ) ?_ hE (fun κ16 hκ16 hE => ?_)
          · intro m15 hE
            refine vl_aload_n 0 rfl dX1_buildAnew_61 ?_
            refine vl_getR (h := 16) (k0 := 1) (h2 := 11) iu_X1 n16 s16 rfl (by decide) fk_X1_19 rfl dX1_buildAnew_62 ?_
            refine vl_aload_n 0 rfl dX1_buildAnew_65 ?_
            refine vl_getR (h := 16) (k0 := 2) (h2 := 17) iu_X1 n16 s16 rfl (by decide) fk_X1_9 rfl dX1_buildAnew_66 ?_
            refine vl_iconst dX1_buildAnew_69 ?_
            refine vl_aldc (h := 17) (n := 400) (ni := 400) n17 (by decide) s17 (by decide) rfl dX1_buildAnew_70 hE (fun g17 g18 hE => ?_)
            refine vl_putIc (h := 11) (k0 := 6) (ki := 6) iu_X5 tyX5_ok nmX5 n11 (by decide) s11 rfl (by decide) fk_X1_47 rfl rfl rfl (vl_nI _) dX1_buildAnew_71 hE (fun m19 hE => ?_)
            exact vl_ret (r := 0) rfl dX1_buildAnew_74 hE (hP' m19)
          refine vl_icmp_le (tgt := 61) dX1_buildAnew_41 (by decide) g14 (by decide) hE (fun c24 hE => ?_) (fun c24 hE => ?_)
          · exact vl_wk [0] rfl (hκ16 m9 hE)
          · refine vl_iload_n 1 rfl dX1_buildAnew_44 ?_
            refine vl_bipush (by decide) dX1_buildAnew_45 ?_
            refine vl_icmp_ge (tgt := 61) dX1_buildAnew_47 (by decide) g10 (by decide) hE (fun c23 hE => ?_) (fun c23 hE => ?_)
            · exact vl_wk [0] rfl (hκ16 m9 hE)
            · refine vl_aload_n 0 rfl dX1_buildAnew_50 ?_
              refine vl_iload_n 1 rfl dX1_buildAnew_51 ?_
              refine vl_VcWV (K' := kX1_groupInto) (d' := 3) (h := 16) (As := [vl_iv v8]) (st := []) lk_X1_43 (fun _ => rfl) (by omega) n16 s16 rfl rfl (Nat.le_of_ble_eq_true rfl) rfl (Nat.le_of_ble_eq_true rfl) dX1_buildAnew_52 hE (fun _ h => vx_X1_groupInto hG (Nat.le_refl _) h) (fun m21 hE => ?_)
              refine vl_iinc 1 (fun v22 => [(1, vl_iv v22), (0, .ref 16)]) dX1_buildAnew_55 rfl (by decide) (fun _ => rfl) hE (fun v22 hE => ?_)
              refine vl_goto (tgt := 32) dX1_buildAnew_58 (by decide) ?_
              exact vl_wk [1, 0] rfl (ih32_ v22 m21 hE)
    exact vl_wk [1, 0] rfl (hL32_ N 0 m7 hE)
  · refine vl_aload_n 0 rfl dX1_buildAnew_11 ?_
    refine vl_getR (h := 16) (k0 := 1) (h2 := 11) iu_X1 n16 s16 rfl (by decide) fk_X1_19 rfl dX1_buildAnew_12 ?_
    refine vl_VcWV (K' := kX5_startEmpty) (d' := 63) (h := 11) (As := []) (st := []) lk_X1_30 (fun _ => rfl) (by omega) n11 s11 rfl rfl (Nat.le_of_ble_eq_true rfl) rfl (Nat.le_of_ble_eq_true rfl) dX1_buildAnew_15 hE (fun _ h => vx_X5_startEmpty (vl_G21 hG) (Nat.le_refl _) h) (fun m27 hE => ?_)
    exact vl_ret (r := 0) rfl dX1_buildAnew_18 hE (hP' m27)
