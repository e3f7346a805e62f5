set_option maxRecDepth 100000 in
set_option maxHeartbeats 4000000 in
theorem vx_X3_needsAll {nc : Nat} {S : vl_Sh} {sc : Nat × (Nat → Int32)} {w : Nat} (hG : vl_G1 nc S w) {d : Nat} (hd : 0 ≤ d) {Post : Int → vl_M → vl_M → Prop} {m ρ : vl_M} {a1 : Int} (hE : vl_ok (fun r : Int => Post r m ρ) (fn_X3_needsAll m a1)) : vl_V nc S sc kX3_needsAll d Post 0 [(0, .ref 14), (1, vl_iv a1)] [] m ρ := by
  generalize hP : (fun r : Int => Post r m ρ) = P at hE
  have hP' : ∀ r : Int, P r → Post r m ρ := fun b h => by rw [← hP] at h; exact h
  clear hP
  have s1 : S 1 = .inr (4, [0, 0, 5, 6, 7, 8, 9, 10, 11, 12, 0, 13, 0, 0, 0, 0, 0]) := hG.2.1 1 (by decide) (by decide)
  have n1 : 1 < nc := Nat.lt_of_lt_of_le (by decide) hG.1
  have s9 : S 9 = .inl 807 := hG.2.1 9 (by decide) (by decide)
  have n9 : 9 < nc := Nat.lt_of_lt_of_le (by decide) hG.1
  have s14 : S 14 = .inr (3, [4, 18, 0, 0, 0]) := hG.2.1 14 (by decide) (by decide)
  have n14 : 14 < nc := Nat.lt_of_lt_of_le (by decide) hG.1
  unfold fn_X3_needsAll at hE
  refine vl_aload_n 0 rfl dX3_needsAll_0 ?_
  refine vl_getR (h := 14) (k0 := 0) (h2 := 1) iu_X3 n14 s14 rfl (by decide) fk_X3_9 rfl dX3_needsAll_1 ?_
  refine vl_getR (h := 1) (k0 := 9) (h2 := 9) iu_X4 n1 s1 rfl (by decide) fk_X3_61 rfl dX3_needsAll_4 ?_
  refine vl_iload_n 1 rfl dX3_needsAll_7 ?_
  refine vl_aldc (h := 9) (n := 807) (ni := 807) n9 (by decide) s9 (by decide) rfl dX3_needsAll_8 hE (fun g1 g2 hE => ?_)
  refine vl_aload_n 0 rfl dX3_needsAll_9 ?_
  refine vl_getIc (h := 14) (k0 := 2) (ki := 2) iu_X3 n14 (by decide) s14 rfl (by decide) fk_X3_46 rfl rfl dX3_needsAll_10 ?_
  refine vl_iadd dX3_needsAll_13 ?_
  refine vl_aload_n 0 rfl dX3_needsAll_14 ?_
  refine vl_getR (h := 14) (k0 := 0) (h2 := 1) iu_X3 n14 s14 rfl (by decide) fk_X3_9 rfl dX3_needsAll_15 ?_
  refine vl_getIc (h := 1) (k0 := 1) (ki := 1) iu_X4 n1 (by decide) s1 rfl (by decide) fk_X3_81 rfl rfl dX3_needsAll_18 ?_
  obtain ⟨g3, hE⟩ := vl_ok_gd hE
  obtain ⟨g4, hE⟩ := vl_ok_gd hE
  refine vl_icmp_gt (tgt := 28) dX3_needsAll_21 (by decide) g3 g4 hE (fun c5 hE => ?_) (fun c5 hE => ?_)
  · refine vl_iconst dX3_needsAll_28 ?_
    exact vl_ret (r := 0) rfl ⟨dX3_needsAll_29, by decide⟩ hE (hP' (0))
  · refine vl_iconst dX3_needsAll_24 ?_
    refine vl_goto (tgt := 29) dX3_needsAll_25 (by decide) ?_
    exact vl_ret (r := 1) rfl ⟨dX3_needsAll_29, by decide⟩ hE (hP' (1))
set_option maxRecDepth 100000 in
set_option maxHeartbeats 4000000 in
theorem vx_X3_takeLeft {nc : Nat} {S : vl_Sh} {sc : Nat × (Nat → Int32)} {w : Nat} (hG : vl_G1 nc S w) {N : Nat} {d : Nat} (hd : 0 ≤ d) {Post : Int → vl_M → vl_M → Prop} {m ρ : vl_M} {a1 : Int} (hE : vl_ok (fun b : Int × vl_M => Post b.1 b.2 ρ) (fn_X3_takeLeft w N m a1)) : vl_V nc S sc kX3_takeLeft d Post 0 [(0, .ref 14), (1, vl_iv a1)] [] m ρ := by
  generalize hP : (fun b : Int × vl_M => Post b.1 b.2 ρ) = P at hE
  have hP' : ∀ b : Int × vl_M, P b → Post b.1 b.2 ρ := fun b h => by rw [← hP] at h; exact h
  clear hP
  have s14 : S 14 = .inr (3, [4, 18, 0, 0, 0]) := hG.2.1 14 (by decide) (by decide)
  have n14 : 14 < nc := Nat.lt_of_lt_of_le (by decide) hG.1
  have s15 : S 15 = .inl w := hG.2.1 15 (by decide) (by decide)
  have n15 : 15 < nc := Nat.lt_of_lt_of_le (by decide) hG.1
  have hw : w ≤ 11 := hG.2.2
  unfold fn_X3_takeLeft at hE
  refine vl_iload_n 1 rfl dX3_takeLeft_0 ?_
  obtain ⟨g1, hE⟩ := vl_ok_gd hE
  refine vl_if_lt (tgt := 12) dX3_takeLeft_1 (by decide) g1  hE (fun c21 hE => ?_) (fun c21 hE => ?_)
  · refine vl_sipush (by decide) dX3_takeLeft_12 ?_
    exact vl_ret (r := 806) rfl dX3_takeLeft_15 hE (hP' (806, m))
  · refine vl_iload_n 1 rfl dX3_takeLeft_4 ?_
    refine vl_aload_n 0 rfl dX3_takeLeft_5 ?_
    refine vl_getIc (h := 14) (k0 := 2) (ki := 2) iu_X3 n14 (by decide) s14 rfl (by decide) fk_X3_46 rfl rfl dX3_takeLeft_6 ?_
    obtain ⟨g2, hE⟩ := vl_ok_gd hE
    refine vl_icmp_lt (tgt := 16) dX3_takeLeft_9 (by decide) g1 g2 hE (fun c20 hE => ?_) (fun c20 hE => ?_)
    · refine vl_aload_n 0 rfl dX3_takeLeft_16 ?_
      refine vl_getR (h := 14) (k0 := 1) (h2 := 15) iu_X3 n14 s14 rfl (by decide) fk_X3_21 rfl dX3_takeLeft_17 ?_
      refine vl_iload_n 1 rfl dX3_takeLeft_20 ?_
      refine vl_aldc (h := 15) (n := w) (ni := (w : Int)) n15 (by decide) s15 (vl_wle hw) rfl dX3_takeLeft_21 hE (fun g3 g4 hE => ?_)
      refine vl_istore_n rfl (fun v5 => [(2, vl_iv v5), (0, .ref 14), (1, vl_iv a1)]) dX3_takeLeft_22 (by decide) (fun _ => rfl) hE (fun v5 hE => ?_)
      refine vl_aload_n 1 rfl dX3_takeLeft_23 ?_
      refine vl_dup rfl dX3_takeLeft_24 ?_
      refine vl_getIc (h := 14) (k0 := 2) (ki := 2) iu_X3 n14 (by decide) s14 rfl (by decide) fk_X3_46 rfl rfl dX3_takeLeft_25 ?_
      refine vl_iconst dX3_takeLeft_28 ?_
      refine vl_isub dX3_takeLeft_29 ?_
      refine vl_putIc (h := 14) (k0 := 2) (ki := 2) iu_X3 tyX3_ok nmX3 n14 (by decide) s14 rfl (by decide) fk_X3_46 rfl rfl rfl (vl_nI _) dX3_takeLeft_30 hE (fun m6 hE => ?_)
      refine vl_iload_n 2 rfl dX3_takeLeft_33 ?_
      refine vl_istore_n0 rfl (lv' := [(3, vl_iv a1), (2, vl_iv v5), (0, .ref 14), (1, vl_iv a1)]) dX3_takeLeft_34 (by decide) rfl ?_
      refine vl_lpr (F := fun κ : Int → vl_M → Option (Int × vl_M) => fn_X3_takeLeft_L35 w N v5 κ N a1 m6) (J := fun κ => ∀ (v9 : Int) (m10 : vl_M), vl_ok P (κ v9 m10) → vl_V nc S sc kX3_takeLeft d Post 63 [(2, vl_iv v5)] [] m10 ρ) ?_ hE (fun κ hκL358 hE => ?_)
      · intro v9 m10 hE
        refine vl_iload_n 0 rfl dX3_takeLeft_63 ?_
        exact vl_ret (r := v5) rfl dX3_takeLeft_64 hE (hP' (v5, m10))
      have hL35_ : ∀ (n : Nat) (v7 : Int) (m8 : vl_M), vl_ok P (fn_X3_takeLeft_L35 w N v5 κ n v7 m8) → vl_V nc S sc kX3_takeLeft d Post 35 [(0, .ref 14), (2, vl_iv v5), (3, vl_iv v7)] [] m8 ρ := by
        intro n
        induction n with
        | zero => intro v7 m8 hE; exact vl_no hE
        | succ n ih35_ =>
          intro v7 m8 hE
          rw [fn_X3_takeLeft_L35] at hE
          refine vl_iload_n 2 rfl dX3_takeLeft_35 ?_
          refine vl_aload_n 0 rfl dX3_takeLeft_36 ?_
          refine vl_getIc (h := 14) (k0 := 2) (ki := 2) iu_X3 n14 (by decide) s14 rfl (by decide) fk_X3_46 rfl rfl dX3_takeLeft_37 ?_
          obtain ⟨g11, hE⟩ := vl_ok_gd hE
          obtain ⟨g12, hE⟩ := vl_ok_gd hE
          refine vl_icmp_ge (tgt := 63) dX3_takeLeft_40 (by decide) g11 g12 hE (fun c19 hE => ?_) (fun c19 hE => ?_)
          · exact vl_wk [1] rfl (hκL358 v7 m8 hE)
          · refine vl_aload_n 0 rfl dX3_takeLeft_43 ?_
            refine vl_getR (h := 14) (k0 := 1) (h2 := 15) iu_X3 n14 s14 rfl (by decide) fk_X3_21 rfl dX3_takeLeft_44 ?_
            refine vl_iload_n 2 rfl dX3_takeLeft_47 ?_
            refine vl_aload_n 0 rfl dX3_takeLeft_48 ?_
            refine vl_getR (h := 14) (k0 := 1) (h2 := 15) iu_X3 n14 s14 rfl (by decide) fk_X3_21 rfl dX3_takeLeft_49 ?_
            refine vl_iload_n 2 rfl dX3_takeLeft_52 ?_
            refine vl_iconst dX3_takeLeft_53 ?_
            refine vl_iadd dX3_takeLeft_54 ?_
            refine vl_aldc (h := 15) (n := w) (ni := (w : Int)) n15 (by decide) s15 (vl_wle hw) rfl dX3_takeLeft_55 hE (fun g13 g14 hE => ?_)
            refine vl_astc (h := 15) (n := w) (ni := (w : Int)) n15 (by decide) s15 (vl_wle hw) rfl dX3_takeLeft_56 hE (fun g16 g17 m15 hE => ?_)
            refine vl_iinc 2 (fun v18 => [(3, vl_iv v18), (0, .ref 14), (2, vl_iv v5)]) dX3_takeLeft_57 rfl (by decide) (fun _ => rfl) hE (fun v18 hE => ?_)
            refine vl_goto (tgt := 35) dX3_takeLeft_60 (by decide) ?_
            exact vl_wk [1, 2, 0] rfl (ih35_ v18 m15 hE)
      exact vl_wk [2, 1, 0] rfl (hL35_ N a1 m6 hE)
    · refine vl_sipush (by decide) dX3_takeLeft_12 ?_
      exact vl_ret (r := 806) rfl dX3_takeLeft_15 hE (hP' (806, m))
set_option maxRecDepth 100000 in
set_option maxHeartbeats 4000000 in
theorem vx_X3_pourOut {nc : Nat} {S : vl_Sh} {sc : Nat × (Nat → Int32)} {w : Nat} (hG : vl_G1 nc S w) {N : Nat} {d : Nat} (hd : 1 ≤ d) {Post : Int → vl_M → vl_M → Prop} {m ρ : vl_M} {a1 : Int} (hE : vl_ok (fun b : vl_M => Post 0 b ρ) (fn_X3_pourOut w N m a1)) : vl_V nc S sc kX3_pourOut d Post 0 [(0, .ref 14), (1, vl_iv a1)] [] m ρ := by
  generalize hP : (fun b : vl_M => Post 0 b ρ) = P at hE
  have hP' : ∀ b : vl_M, P b → Post 0 b ρ := fun b h => by rw [← hP] at h; exact h
  clear hP
  have s1 : S 1 = .inr (4, [0, 0, 5, 6, 7, 8, 9, 10, 11, 12, 0, 13, 0, 0, 0, 0, 0]) := hG.2.1 1 (by decide) (by decide)
  have n1 : 1 < nc := Nat.lt_of_lt_of_le (by decide) hG.1
  have s9 : S 9 = .inl 807 := hG.2.1 9 (by decide) (by decide)
  have n9 : 9 < nc := Nat.lt_of_lt_of_le (by decide) hG.1
  have s14 : S 14 = .inr (3, [4, 18, 0, 0, 0]) := hG.2.1 14 (by decide) (by decide)
  have n14 : 14 < nc := Nat.lt_of_lt_of_le (by decide) hG.1
  have s15 : S 15 = .inl w := hG.2.1 15 (by decide) (by decide)
  have n15 : 15 < nc := Nat.lt_of_lt_of_le (by decide) hG.1
  have hw : w ≤ 11 := hG.2.2
  unfold fn_X3_pourOut at hE
  refine vl_aload_n 0 rfl dX3_pourOut_0 ?_
  refine vl_aload_n 0 rfl dX3_pourOut_1 ?_
  refine vl_getR (h := 14) (k0 := 0) (h2 := 1) iu_X3 n14 s14 rfl (by decide) fk_X3_9 rfl dX3_pourOut_2 ?_
  refine vl_getR (h := 1) (k0 := 9) (h2 := 9) iu_X4 n1 s1 rfl (by decide) fk_X3_61 rfl dX3_pourOut_5 ?_
  refine vl_iload_n 1 rfl dX3_pourOut_8 ?_
  refine vl_aldc (h := 9) (n := 807) (ni := 807) n9 (by decide) s9 (by decide) rfl dX3_pourOut_9 hE (fun g1 g2 hE => ?_)
  refine vl_aload_n 0 rfl dX3_pourOut_10 ?_
  refine vl_getR (h := 14) (k0 := 1) (h2 := 15) iu_X3 n14 s14 rfl (by decide) fk_X3_21 rfl dX3_pourOut_11 ?_
  refine vl_alen (h := 15) (n := w) (ni := (w : Int)) n15 s15 rfl dX3_pourOut_14 ?_
  obtain ⟨g3, hE⟩ := vl_ok_gd hE
  obtain ⟨g4, hE⟩ := vl_ok_gd hE
  refine vl_mmin lk_X3_64 (by omega) g3 g4 (Nat.le_of_ble_eq_true rfl) dX3_pourOut_15 ?_
  refine vl_putIc (h := 14) (k0 := 2) (ki := 2) iu_X3 tyX3_ok nmX3 n14 (by decide) s14 rfl (by decide) fk_X3_46 rfl rfl rfl (vl_nI _) dX3_pourOut_18 hE (fun m5 hE => ?_)
  refine vl_iconst dX3_pourOut_21 ?_
  refine vl_istore_n0 rfl (lv' := [(2, vl_iv 0), (0, .ref 14), (1, vl_iv a1)]) dX3_pourOut_22 (by decide) rfl ?_
  refine vl_lpr (F := fun κ : Int → vl_M → Option (vl_M) => fn_X3_pourOut_L23 w N a1 κ N 0 m5) (J := fun κ => ∀ (v8 : Int) (m9 : vl_M), vl_ok P (κ v8 m9) → vl_V nc S sc kX3_pourOut d Post 52 [(0, .ref 14), (1, vl_iv a1)] [] m9 ρ) ?_ hE (fun κ hκL237 hE => ?_)
  · intro v8 m9 hE
    refine vl_aload_n 0 rfl dX3_pourOut_52 ?_
    refine vl_getR (h := 14) (k0 := 0) (h2 := 1) iu_X3 n14 s14 rfl (by decide) fk_X3_9 rfl dX3_pourOut_53 ?_
    refine vl_getR (h := 1) (k0 := 9) (h2 := 9) iu_X4 n1 s1 rfl (by decide) fk_X3_61 rfl dX3_pourOut_56 ?_
    refine vl_iload_n 1 rfl dX3_pourOut_59 ?_
    refine vl_iconst dX3_pourOut_60 ?_
    refine vl_astc1 (h := 9) (n := 807) (ni := 807) n9 (by decide) s9 (by decide) rfl g1 dX3_pourOut_61 hE (fun m10 hE => ?_)
    exact vl_ret (r := 0) rfl dX3_pourOut_62 hE (hP' m10)
  have hL23_ : ∀ (n : Nat) (v6 : Int) (m7 : vl_M), vl_ok P (fn_X3_pourOut_L23 w N a1 κ n v6 m7) → vl_V nc S sc kX3_pourOut d Post 23 [(0, .ref 14), (1, vl_iv a1), (2, vl_iv v6)] [] m7 ρ := by
    intro n
    induction n with
    | zero => intro v6 m7 hE; exact vl_no hE
    | succ n ih23_ =>
      intro v6 m7 hE
      rw [fn_X3_pourOut_L23] at hE
      refine vl_iload_n 2 rfl dX3_pourOut_23 ?_
      refine vl_aload_n 0 rfl dX3_pourOut_24 ?_
      refine vl_getIc (h := 14) (k0 := 2) (ki := 2) iu_X3 n14 (by decide) s14 rfl (by decide) fk_X3_46 rfl rfl dX3_pourOut_25 ?_
      obtain ⟨g11, hE⟩ := vl_ok_gd hE
      obtain ⟨g12, hE⟩ := vl_ok_gd hE
      refine vl_icmp_ge (tgt := 52) dX3_pourOut_28 (by decide) g11 g12 hE (fun c18 hE => ?_) (fun c18 hE => ?_)
      · exact vl_wk [0, 1] rfl (hκL237 v6 m7 hE)
      · refine vl_aload_n 0 rfl dX3_pourOut_31 ?_
        refine vl_getR (h := 14) (k0 := 1) (h2 := 15) iu_X3 n14 s14 rfl (by decide) fk_X3_21 rfl dX3_pourOut_32 ?_
        refine vl_iload_n 2 rfl dX3_pourOut_35 ?_
        refine vl_aload_n 0 rfl dX3_pourOut_36 ?_
        refine vl_getR (h := 14) (k0 := 0) (h2 := 1) iu_X3 n14 s14 rfl (by decide) fk_X3_9 rfl dX3_pourOut_37 ?_
        refine vl_iload_n 1 rfl dX3_pourOut_40 ?_
        refine vl_iload_n 2 rfl dX3_pourOut_41 ?_
        refine vl_VpI (K' := kX4_thingAt) (d' := 0) (h := 1) (As := [vl_iv a1, vl_iv v6]) (st := [vl_iv v6, .ref 15]) lk_X3_69 (fun _ => rfl) (by omega) n1 s1 rfl rfl (Nat.le_of_ble_eq_true rfl) rfl (Nat.le_of_ble_eq_true rfl) dX3_pourOut_42 hE (fun _ h => vx_X4_thingAt hG (Nat.le_refl _) h) (fun b13 hE => ?_)
        refine vl_astc (h := 15) (n := w) (ni := (w : Int)) n15 (by decide) s15 (vl_wle hw) rfl dX3_pourOut_45 hE (fun g15 g16 m14 hE => ?_)
        refine vl_iinc 2 (fun v17 => [(2, vl_iv v17), (0, .ref 14), (1, vl_iv a1)]) dX3_pourOut_46 rfl (by decide) (fun _ => rfl) hE (fun v17 hE => ?_)
        refine vl_goto (tgt := 23) dX3_pourOut_49 (by decide) ?_
        exact vl_wk [1, 2, 0] rfl (ih23_ v17 m14 hE)
  exact vl_wk [1, 2, 0] rfl (hL23_ N 0 m5 hE)
set_option maxRecDepth 100000 in
set_option maxHeartbeats 4000000 in
theorem vx_X5_lowerRoot {nc : Nat} {S : vl_Sh} {sc : Nat × (Nat → Int32)} {w : Nat} (hG : vl_G1 nc S w) {N : Nat} {d : Nat} (hd : 1 ≤ d) {Post : Int → vl_M → vl_M → Prop} {m ρ : vl_M} (hE : vl_ok (fun b : vl_M => Post 0 b ρ) (fn_X5_lowerRoot w N m )) : vl_V nc S sc kX5_lowerRoot d Post 0 [(0, .ref 11)] [] m ρ := by
  generalize hP : (fun b : vl_M => Post 0 b ρ) = P at hE
  have hP' : ∀ b : vl_M, P b → Post 0 b ρ := fun b h => by rw [← hP] at h; exact h
  clear hP
  have s1 : S 1 = .inr (4, [0, 0, 5, 6, 7, 8, 9, 10, 11, 12, 0, 13, 0, 0, 0, 0, 0]) := hG.2.1 1 (by decide) (by decide)
  have n1 : 1 < nc := Nat.lt_of_lt_of_le (by decide) hG.1
  have s2 : S 2 = .inl 807 := hG.2.1 2 (by decide) (by decide)
  have n2 : 2 < nc := Nat.lt_of_lt_of_le (by decide) hG.1
  have s8 : S 8 = .inl 807 := hG.2.1 8 (by decide) (by decide)
  have n8 : 8 < nc := Nat.lt_of_lt_of_le (by decide) hG.1
  have s9 : S 9 = .inl 807 := hG.2.1 9 (by decide) (by decide)
  have n9 : 9 < nc := Nat.lt_of_lt_of_le (by decide) hG.1
  have s11 : S 11 = .inr (5, [4, 17, 15, 0, 16, 0, 0, 0, 0, 0]) := hG.2.1 11 (by decide) (by decide)
  have n11 : 11 < nc := Nat.lt_of_lt_of_le (by decide) hG.1
  unfold fn_X5_lowerRoot at hE
  refine vl_iconst dX5_lowerRoot_0 ?_
  refine vl_istore_n0 rfl (lv' := [(1, vl_iv 0), (0, .ref 11)]) dX5_lowerRoot_1 (by decide) rfl ?_
  refine vl_lpr (F := fun κ : Int → vl_M → Option (vl_M) => fn_X5_lowerRoot_L2 w N  κ N 0 m) (J := fun κ => ∀ (v3 : Int) (m4 : vl_M), vl_ok P (κ v3 m4) → vl_V nc S sc kX5_lowerRoot d Post 84 [] [] m4 ρ) ?_ hE (fun κ hκL22 hE => ?_)
  · intro v3 m4 hE
    exact vl_ret (r := 0) rfl dX5_lowerRoot_84 hE (hP' m4)
  have hL2_ : ∀ (n : Nat) (v1 : Int) (m2 : vl_M), vl_ok P (fn_X5_lowerRoot_L2 w N  κ n v1 m2) → vl_V nc S sc kX5_lowerRoot d Post 2 [(0, .ref 11), (1, vl_iv v1)] [] m2 ρ := by
    intro n
    induction n with
    | zero => intro v1 m2 hE; exact vl_no hE
    | succ n ih2_ =>
      intro v1 m2 hE
      rw [fn_X5_lowerRoot_L2] at hE
      refine vl_iload_n 1 rfl dX5_lowerRoot_2 ?_
      refine vl_bipush (by decide) dX5_lowerRoot_3 ?_
      obtain ⟨g5, hE⟩ := vl_ok_gd hE
      refine vl_icmp_ge (tgt := 84) dX5_lowerRoot_5 (by decide) g5 (by decide) hE (fun c20 hE => ?_) (fun c20 hE => ?_)
      · exact vl_wk [] rfl (hκL22 v1 m2 hE)
      · refine vl_aload_n 0 rfl dX5_lowerRoot_8 ?_
        refine vl_getR (h := 11) (k0 := 0) (h2 := 1) iu_X5 n11 s11 rfl (by decide) fk_X5_18 rfl dX5_lowerRoot_9 ?_
        refine vl_getR (h := 1) (k0 := 2) (h2 := 2) iu_X4 n1 s1 rfl (by decide) fk_X5_60 rfl dX5_lowerRoot_12 ?_
        refine vl_aload_n 0 rfl dX5_lowerRoot_15 ?_
        refine vl_getIc (h := 11) (k0 := 6) (ki := 6) iu_X5 n11 (by decide) s11 rfl (by decide) fk_X5_43 rfl rfl dX5_lowerRoot_16 ?_
        refine vl_aldc (h := 2) (n := 807) (ni := 807) n2 (by decide) s2 (by decide) rfl dX5_lowerRoot_19 hE (fun g6 g7 hE => ?_)
        obtain ⟨g8, hE⟩ := vl_ok_gd hE
        refine vl_if_le (tgt := 84) dX5_lowerRoot_20 (by decide) g8  hE (fun c19 hE => ?_) (fun c19 hE => ?_)
        · exact vl_wk [] rfl (hκL22 v1 m2 hE)
        · refine vl_aload_n 0 rfl dX5_lowerRoot_23 ?_
          refine vl_getR (h := 11) (k0 := 0) (h2 := 1) iu_X5 n11 s11 rfl (by decide) fk_X5_18 rfl dX5_lowerRoot_24 ?_
          refine vl_getR (h := 1) (k0 := 9) (h2 := 9) iu_X4 n1 s1 rfl (by decide) fk_X5_63 rfl dX5_lowerRoot_27 ?_
          refine vl_aload_n 0 rfl dX5_lowerRoot_30 ?_
          refine vl_getIc (h := 11) (k0 := 6) (ki := 6) iu_X5 n11 (by decide) s11 rfl (by decide) fk_X5_43 rfl rfl dX5_lowerRoot_31 ?_
          refine vl_aldc1 (h := 9) (n := 807) (ni := 807) n9 (by decide) s9 (by decide) rfl g6 dX5_lowerRoot_34 ?_
          refine vl_iconst dX5_lowerRoot_35 ?_
          obtain ⟨g9, hE⟩ := vl_ok_gd hE
          refine vl_icmp_ne (tgt := 84) dX5_lowerRoot_36 (by decide) g9 (by decide) hE (fun c18 hE => ?_) (fun c18 hE => ?_)
          · exact vl_wk [] rfl (hκL22 v1 m2 hE)
          · refine vl_aload_n 0 rfl dX5_lowerRoot_39 ?_
            refine vl_getR (h := 11) (k0 := 0) (h2 := 1) iu_X5 n11 s11 rfl (by decide) fk_X5_18 rfl dX5_lowerRoot_40 ?_
            refine vl_aload_n 0 rfl dX5_lowerRoot_43 ?_
            refine vl_getIc (h := 11) (k0 := 6) (ki := 6) iu_X5 n11 (by decide) s11 rfl (by decide) fk_X5_43 rfl rfl dX5_lowerRoot_44 ?_
            refine vl_iconst dX5_lowerRoot_47 ?_
            refine vl_VpI (K' := kX4_thingAt) (d' := 0) (h := 1) (As := [vl_iv (m2 11 6), vl_iv 0]) (st := []) lk_X5_66 (fun _ => rfl) (by omega) n1 s1 rfl rfl (Nat.le_of_ble_eq_true rfl) rfl (Nat.le_of_ble_eq_true rfl) dX5_lowerRoot_48 hE (fun _ h => vx_X4_thingAt hG (Nat.le_refl _) h) (fun b10 hE => ?_)
            refine vl_istore_n0 rfl (lv' := [(2, vl_iv b10), (0, .ref 11), (1, vl_iv v1)]) dX5_lowerRoot_51 (by decide) rfl ?_
            refine vl_aload_n 1 rfl dX5_lowerRoot_52 ?_
            refine vl_getR (h := 11) (k0 := 0) (h2 := 1) iu_X5 n11 s11 rfl (by decide) fk_X5_18 rfl dX5_lowerRoot_53 ?_
            refine vl_aload_n 1 rfl dX5_lowerRoot_56 ?_
            refine vl_getIc (h := 11) (k0 := 6) (ki := 6) iu_X5 n11 (by decide) s11 rfl (by decide) fk_X5_43 rfl rfl dX5_lowerRoot_57 ?_
            refine vl_VcWV (K' := kX4_freeNode) (d' := 0) (h := 1) (As := [vl_iv (m2 11 6)]) (st := []) lk_X5_142 (fun _ => rfl) (by omega) n1 s1 rfl rfl (Nat.le_of_ble_eq_true rfl) rfl (Nat.le_of_ble_eq_true rfl) dX5_lowerRoot_60 hE (fun _ h => vx_X4_freeNode hG (Nat.le_refl _) h) (fun m12 hE => ?_)
            refine vl_aload_n 1 rfl dX5_lowerRoot_63 ?_
            refine vl_getR (h := 11) (k0 := 0) (h2 := 1) iu_X5 n11 s11 rfl (by decide) fk_X5_18 rfl dX5_lowerRoot_64 ?_
            refine vl_getR (h := 1) (k0 := 8) (h2 := 8) iu_X4 n1 s1 rfl (by decide) fk_X5_109 rfl dX5_lowerRoot_67 ?_
            refine vl_iload_n 0 rfl dX5_lowerRoot_70 ?_
            refine vl_iconst dX5_lowerRoot_71 ?_
            refine vl_astc (h := 8) (n := 807) (ni := 807) n8 (by decide) s8 (by decide) rfl dX5_lowerRoot_72 hE (fun g14 g15 m13 hE => ?_)
            refine vl_aload_n 1 rfl dX5_lowerRoot_73 ?_
            refine vl_iload_n 0 rfl dX5_lowerRoot_74 ?_
            refine vl_putIc (h := 11) (k0 := 6) (ki := 6) iu_X5 tyX5_ok nmX5 n11 (by decide) s11 rfl (by decide) fk_X5_43 rfl rfl rfl (vl_nI _) dX5_lowerRoot_75 hE (fun m16 hE => ?_)
            refine vl_iinc 2 (fun v17 => [(1, vl_iv v17), (2, vl_iv b10), (0, .ref 11)]) dX5_lowerRoot_78 rfl (by decide) (fun _ => rfl) hE (fun v17 hE => ?_)
            refine vl_goto (tgt := 2) dX5_lowerRoot_81 (by decide) ?_
            exact vl_wk [2, 0] rfl (ih2_ v17 m16 hE)
  exact vl_wk [1, 0] rfl (hL2_ N 0 m hE)
set_option maxRecDepth 100000 in
set_option maxHeartbeats 4000000 in
theorem vx_X5_meetingNodes {nc : Nat} {S : vl_Sh} {sc : Nat × (Nat → Int32)} {w : Nat} (hG : vl_G1 nc S w) {N : Nat} {d : Nat} (hd : 1 ≤ d) {Post : Int → vl_M → vl_M → Prop} {m ρ : vl_M} (hE : vl_ok (fun r : Int => Post r m ρ) (fn_X5_meetingNodes N m )) : vl_V nc S sc kX5_meetingNodes d Post 0 [(0, .ref 11)] [] m ρ := by
  generalize hP : (fun r : Int => Post r m ρ) = P at hE
  have hP' : ∀ r : Int, P r → Post r m ρ := fun b h => by rw [← hP] at h; exact h
  clear hP
  have s1 : S 1 = .inr (4, [0, 0, 5, 6, 7, 8, 9, 10, 11, 12, 0, 13, 0, 0, 0, 0, 0]) := hG.2.1 1 (by decide) (by decide)
  have n1 : 1 < nc := Nat.lt_of_lt_of_le (by decide) hG.1
  have s2 : S 2 = .inl 807 := hG.2.1 2 (by decide) (by decide)
  have n2 : 2 < nc := Nat.lt_of_lt_of_le (by decide) hG.1
  have s11 : S 11 = .inr (5, [4, 17, 15, 0, 16, 0, 0, 0, 0, 0]) := hG.2.1 11 (by decide) (by decide)
  have n11 : 11 < nc := Nat.lt_of_lt_of_le (by decide) hG.1
  have s13 : S 13 = .inl 404 := hG.2.1 13 (by decide) (by decide)
  have n13 : 13 < nc := Nat.lt_of_lt_of_le (by decide) hG.1
  unfold fn_X5_meetingNodes at hE
  refine vl_aload_n 0 rfl dX5_meetingNodes_0 ?_
  refine vl_getIc (h := 11) (k0 := 5) (ki := 5) iu_X5 n11 (by decide) s11 rfl (by decide) fk_X5_50 rfl rfl dX5_meetingNodes_1 ?_
  refine vl_istore_n rfl (fun v1 => [(1, vl_iv v1), (0, .ref 11)]) dX5_meetingNodes_4 (by decide) (fun _ => rfl) hE (fun v1 hE => ?_)
  refine vl_iconst dX5_meetingNodes_5 ?_
  refine vl_istore_n0 rfl (lv' := [(2, vl_iv 0), (1, vl_iv v1), (0, .ref 11)]) dX5_meetingNodes_6 (by decide) rfl ?_
  refine vl_lpr (F := fun κ : Int → Int → Option (Int) => fn_X5_meetingNodes_L7 N m κ N v1 0) (J := fun κ => ∀ (v4 : Int) (v5 : Int), vl_ok P (κ v4 v5) → vl_V nc S sc kX5_meetingNodes d Post 95 [(1, vl_iv v4)] [] m ρ) ?_ hE (fun κ hκL73 hE => ?_)
  · intro v4 v5 hE
    refine vl_iload_n 0 rfl dX5_meetingNodes_95 ?_
    exact vl_ret (r := v4) rfl dX5_meetingNodes_96 hE (hP' (v4))
  have hL7_ : ∀ (n : Nat) (v2 : Int) (v3 : Int), vl_ok P (fn_X5_meetingNodes_L7 N m κ n v2 v3) → vl_V nc S sc kX5_meetingNodes d Post 7 [(0, .ref 11), (1, vl_iv v2), (2, vl_iv v3)] [] m ρ := by
    intro n
    induction n with
    | zero => intro v2 v3 hE; exact vl_no hE
    | succ n ih7_ =>
      intro v2 v3 hE
      rw [fn_X5_meetingNodes_L7] at hE
      refine vl_iload_n 2 rfl dX5_meetingNodes_7 ?_
      refine vl_aload_n 0 rfl dX5_meetingNodes_8 ?_
      refine vl_getIc (h := 11) (k0 := 5) (ki := 5) iu_X5 n11 (by decide) s11 rfl (by decide) fk_X5_50 rfl rfl dX5_meetingNodes_9 ?_
      obtain ⟨g6, hE⟩ := vl_ok_gd hE
      obtain ⟨g7, hE⟩ := vl_ok_gd hE
      refine vl_icmp_ge (tgt := 95) dX5_meetingNodes_12 (by decide) g6 g7 hE (fun c34 hE => ?_) (fun c34 hE => ?_)
      · exact vl_wk [1] rfl (hκL73 v2 v3 hE)
      · refine vl_iload_n 2 rfl dX5_meetingNodes_15 ?_
        refine vl_iconst dX5_meetingNodes_16 ?_
        refine vl_iadd dX5_meetingNodes_17 ?_
        refine vl_istore_n rfl (fun v8 => [(3, vl_iv v8), (0, .ref 11), (1, vl_iv v2), (2, vl_iv v3)]) dX5_meetingNodes_18 (by decide) (fun _ => rfl) hE (fun v8 hE => ?_)
        refine vl_lpr (F := fun κ : Int → Int → Option (Int) => fn_X5_meetingNodes_L19 N m v3 κ N v2 v8) (J := fun κ => ∀ (v11 : Int) (v12 : Int), vl_ok P (κ v11 v12) → vl_V nc S sc kX5_meetingNodes d Post 89 [(0, .ref 11), (1, vl_iv v11), (2, vl_iv v3)] [] m ρ) ?_ hE (fun κ hκL1910 hE => ?_)
        · intro v11 v12 hE
          refine vl_iinc 2 (fun v13 => [(2, vl_iv v13), (0, .ref 11), (1, vl_iv v11)]) dX5_meetingNodes_89 rfl (by decide) (fun _ => rfl) hE (fun v13 hE => ?_)
          refine vl_goto (tgt := 7) dX5_meetingNodes_92 (by decide) ?_
          exact vl_wk [1, 2, 0] rfl (ih7_ v11 v13 hE)
        have hL19_ : ∀ (n : Nat) (v9 : Int) (v10 : Int), vl_ok P (fn_X5_meetingNodes_L19 N m v3 κ n v9 v10) → vl_V nc S sc kX5_meetingNodes d Post 19 [(0, .ref 11), (1, vl_iv v9), (2, vl_iv v3), (3, vl_iv v10)] [] m ρ := by
          intro n
          induction n with
          | zero => intro v9 v10 hE; exact vl_no hE
          | succ n ih19_ =>
            intro v9 v10 hE
            rw [fn_X5_meetingNodes_L19] at hE
            refine vl_iload_n 3 rfl dX5_meetingNodes_19 ?_
            refine vl_aload_n 0 rfl dX5_meetingNodes_20 ?_
            refine vl_getIc (h := 11) (k0 := 5) (ki := 5) iu_X5 n11 (by decide) s11 rfl (by decide) fk_X5_50 rfl rfl dX5_meetingNodes_21 ?_
            obtain ⟨g14, hE⟩ := vl_ok_gd hE
            refine vl_icmp_ge (tgt := 89) dX5_meetingNodes_24 (by decide) g14 g7 hE (fun c33 hE => ?_) (fun c33 hE => ?_)
            · exact vl_wk [0, 1, 2] rfl (hκL1910 v9 v10 hE)
            · refine vl_aload_n 0 rfl dX5_meetingNodes_27 ?_
              refine vl_getR (h := 11) (k0 := 0) (h2 := 1) iu_X5 n11 s11 rfl (by decide) fk_X5_18 rfl dX5_meetingNodes_28 ?_
              refine vl_getR (h := 1) (k0 := 2) (h2 := 2) iu_X4 n1 s1 rfl (by decide) fk_X5_60 rfl dX5_meetingNodes_31 ?_
              refine vl_aload_n 0 rfl dX5_meetingNodes_34 ?_
              refine vl_getR (h := 11) (k0 := 4) (h2 := 13) iu_X5 n11 s11 rfl (by decide) fk_X5_15 rfl dX5_meetingNodes_35 ?_
              refine vl_iload_n 2 rfl dX5_meetingNodes_38 ?_
              refine vl_aldc (h := 13) (n := 404) (ni := 404) n13 (by decide) s13 (by decide) rfl dX5_meetingNodes_39 hE (fun g15 g16 hE => ?_)
              refine vl_aldc (h := 2) (n := 807) (ni := 807) n2 (by decide) s2 (by decide) rfl dX5_meetingNodes_40 hE (fun g17 g18 hE => ?_)
              refine vl_aload_n 0 rfl dX5_meetingNodes_41 ?_
              refine vl_getR (h := 11) (k0 := 0) (h2 := 1) iu_X5 n11 s11 rfl (by decide) fk_X5_18 rfl dX5_meetingNodes_42 ?_
              refine vl_getR (h := 1) (k0 := 2) (h2 := 2) iu_X4 n1 s1 rfl (by decide) fk_X5_60 rfl dX5_meetingNodes_45 ?_
              refine vl_aload_n 0 rfl dX5_meetingNodes_48 ?_
              refine vl_getR (h := 11) (k0 := 4) (h2 := 13) iu_X5 n11 s11 rfl (by decide) fk_X5_15 rfl dX5_meetingNodes_49 ?_
              refine vl_iload_n 3 rfl dX5_meetingNodes_52 ?_
              refine vl_aldc (h := 13) (n := 404) (ni := 404) n13 (by decide) s13 (by decide) rfl dX5_meetingNodes_53 hE (fun g19 g20 hE => ?_)
              refine vl_aldc (h := 2) (n := 807) (ni := 807) n2 (by decide) s2 (by decide) rfl dX5_meetingNodes_54 hE (fun g21 g22 hE => ?_)
              obtain ⟨g23, hE⟩ := vl_ok_gd hE
              obtain ⟨g24, hE⟩ := vl_ok_gd hE
              refine vl_jnr (J := fun κ : Int → Option (Int) => ∀ (v25 : Int), vl_ok P (κ v25) → vl_V nc S sc kX5_meetingNodes d Post 83 [(0, .ref 11), (1, vl_iv v25), (2, vl_iv v3), (3, vl_iv v10)] [] m ρ) ?_ hE (fun κ26 hκ26 hE => ?_)
              · intro v25 hE
                refine vl_iinc 3 (fun v27 => [(3, vl_iv v27), (0, .ref 11), (1, vl_iv v25), (2, vl_iv v3)]) dX5_meetingNodes_83 rfl (by decide) (fun _ => rfl) hE (fun v27 hE => ?_)
                refine vl_goto (tgt := 19) dX5_meetingNodes_86 (by decide) ?_
                exact vl_wk [1, 2, 3, 0] rfl (ih19_ v25 v27 hE)
              refine vl_icmp_ne (tgt := 83) dX5_meetingNodes_55 (by decide) g23 g24 hE (fun c32 hE => ?_) (fun c32 hE => ?_)
              · exact (hκ26 v9 hE)
              · refine vl_aload_n 0 rfl dX5_meetingNodes_58 ?_
                refine vl_getR (h := 11) (k0 := 0) (h2 := 1) iu_X5 n11 s11 rfl (by decide) fk_X5_18 rfl dX5_meetingNodes_59 ?_
                refine vl_aload_n 0 rfl dX5_meetingNodes_62 ?_
                refine vl_getR (h := 11) (k0 := 4) (h2 := 13) iu_X5 n11 s11 rfl (by decide) fk_X5_15 rfl dX5_meetingNodes_63 ?_
                refine vl_iload_n 2 rfl dX5_meetingNodes_66 ?_
                refine vl_aldc1 (h := 13) (n := 404) (ni := 404) n13 (by decide) s13 (by decide) rfl g15 dX5_meetingNodes_67 ?_
                refine vl_aload_n 0 rfl dX5_meetingNodes_68 ?_
                refine vl_getR (h := 11) (k0 := 4) (h2 := 13) iu_X5 n11 s11 rfl (by decide) fk_X5_15 rfl dX5_meetingNodes_69 ?_
                refine vl_iload_n 3 rfl dX5_meetingNodes_72 ?_
                refine vl_aldc1 (h := 13) (n := 404) (ni := 404) n13 (by decide) s13 (by decide) rfl g19 dX5_meetingNodes_73 ?_
                refine vl_VpI (K' := kX4_meet) (d' := 0) (h := 1) (As := [vl_iv (m 13 v3), vl_iv (m 13 v10)]) (st := []) lk_X5_148 (fun _ => rfl) (by omega) n1 s1 rfl rfl (Nat.le_of_ble_eq_true rfl) rfl (Nat.le_of_ble_eq_true rfl) dX5_meetingNodes_74 hE (fun _ h => vx_X4_meet hG (Nat.le_refl _) h) (fun b28 hE => ?_)
                obtain ⟨g29, hE⟩ := vl_ok_gd hE
                refine vl_if_eq (tgt := 83) dX5_meetingNodes_77 (by decide) g29  hE (fun c31 hE => ?_) (fun c31 hE => ?_)
                · exact (hκ26 v9 hE)
                · refine vl_iinc 1 (fun v30 => [(1, vl_iv v30), (0, .ref 11), (2, vl_iv v3), (3, vl_iv v10)]) dX5_meetingNodes_80 rfl (by decide) (fun _ => rfl) hE (fun v30 hE => ?_)
                  exact vl_wk [1, 0, 2, 3] rfl (hκ26 v30 hE)
        exact vl_wk [1, 2, 3, 0] rfl (hL19_ N v2 v8 hE)
  exact vl_wk [2, 1, 0] rfl (hL7_ N v1 0 hE)
set_option maxRecDepth 100000 in
set_option maxHeartbeats 4000000 in
theorem vx_X3_findSeeds {nc : Nat} {S : vl_Sh} {sc : Nat × (Nat → Int32)} {w : Nat} (hG : vl_G1 nc S w) {N : Nat} {d : Nat} (hd : 2 ≤ d) {Post : Int → vl_M → vl_M → Prop} {m ρ : vl_M} (hE : vl_ok (fun b : vl_M => Post 0 b ρ) (fn_X3_findSeeds w N m )) : vl_V nc S sc kX3_findSeeds d Post 0 [(0, .ref 14)] [] m ρ := by
  generalize hP : (fun b : vl_M => Post 0 b ρ) = P at hE
  have hP' : ∀ b : vl_M, P b → Post 0 b ρ := fun b h => by rw [← hP] at h; exact h
  clear hP
  have s1 : S 1 = .inr (4, [0, 0, 5, 6, 7, 8, 9, 10, 11, 12, 0, 13, 0, 0, 0, 0, 0]) := hG.2.1 1 (by decide) (by decide)
  have n1 : 1 < nc := Nat.lt_of_lt_of_le (by decide) hG.1
  have s14 : S 14 = .inr (3, [4, 18, 0, 0, 0]) := hG.2.1 14 (by decide) (by decide)
  have n14 : 14 < nc := Nat.lt_of_lt_of_le (by decide) hG.1
  have s15 : S 15 = .inl w := hG.2.1 15 (by decide) (by decide)
  have n15 : 15 < nc := Nat.lt_of_lt_of_le (by decide) hG.1
  have hw : w ≤ 11 := hG.2.2
  unfold fn_X3_findSeeds at hE
  refine vl_ldc cst_X3_74 dX3_findSeeds_0 ?_
  refine vl_istore_n0 rfl (lv' := [(1, vl_iv (-2147483648)), (0, .ref 14)]) dX3_findSeeds_2 (by decide) rfl ?_
  refine vl_iconst dX3_findSeeds_3 ?_
  refine vl_istore_n0 rfl (lv' := [(2, vl_iv 0), (1, vl_iv (-2147483648)), (0, .ref 14)]) dX3_findSeeds_4 (by decide) rfl ?_
  refine vl_lpr (F := fun κ : Int → Int → vl_M → Option (vl_M) => fn_X3_findSeeds_L5 w N  κ N (-2147483648) 0 m) (J := fun κ => ∀ (v4 : Int) (v5 : Int) (m6 : vl_M), vl_ok P (κ v4 v5 m6) → vl_V nc S sc kX3_findSeeds d Post 91 [] [] m6 ρ) ?_ hE (fun κ hκL53 hE => ?_)
  · intro v4 v5 m6 hE
    exact vl_ret (r := 0) rfl dX3_findSeeds_91 hE (hP' m6)
  have hL5_ : ∀ (n : Nat) (v1 : Int) (v2 : Int) (m3 : vl_M), vl_ok P (fn_X3_findSeeds_L5 w N  κ n v1 v2 m3) → vl_V nc S sc kX3_findSeeds d Post 5 [(0, .ref 14), (1, vl_iv v1), (2, vl_iv v2)] [] m3 ρ := by
    intro n
    induction n with
    | zero => intro v1 v2 m3 hE; exact vl_no hE
    | succ n ih5_ =>
      intro v1 v2 m3 hE
      rw [fn_X3_findSeeds_L5] at hE
      refine vl_iload_n 2 rfl dX3_findSeeds_5 ?_
      refine vl_aload_n 0 rfl dX3_findSeeds_6 ?_
      refine vl_getIc (h := 14) (k0 := 2) (ki := 2) iu_X3 n14 (by decide) s14 rfl (by decide) fk_X3_46 rfl rfl dX3_findSeeds_7 ?_
      obtain ⟨g7, hE⟩ := vl_ok_gd hE
      obtain ⟨g8, hE⟩ := vl_ok_gd hE
      refine vl_icmp_ge (tgt := 91) dX3_findSeeds_10 (by decide) g7 g8 hE (fun c36 hE => ?_) (fun c36 hE => ?_)
      · exact vl_wk [] rfl (hκL53 v1 v2 m3 hE)
      · refine vl_iload_n 2 rfl dX3_findSeeds_13 ?_
        refine vl_iconst dX3_findSeeds_14 ?_
        refine vl_iadd dX3_findSeeds_15 ?_
        refine vl_istore_n rfl (fun v9 => [(3, vl_iv v9), (0, .ref 14), (1, vl_iv v1), (2, vl_iv v2)]) dX3_findSeeds_16 (by decide) (fun _ => rfl) hE (fun v9 hE => ?_)
        refine vl_lpr (F := fun κ : Int → Int → vl_M → Option (vl_M) => fn_X3_findSeeds_L17 w N v2 κ N v1 v9 m3) (J := fun κ => ∀ (v13 : Int) (v14 : Int) (m15 : vl_M), vl_ok P (κ v13 v14 m15) → vl_V nc S sc kX3_findSeeds d Post 85 [(0, .ref 14), (1, vl_iv v13), (2, vl_iv v2)] [] m15 ρ) ?_ hE (fun κ hκL1712 hE => ?_)
        · intro v13 v14 m15 hE
          refine vl_iinc 2 (fun v16 => [(2, vl_iv v16), (0, .ref 14), (1, vl_iv v13)]) dX3_findSeeds_85 rfl (by decide) (fun _ => rfl) hE (fun v16 hE => ?_)
          refine vl_goto (tgt := 5) dX3_findSeeds_88 (by decide) ?_
          exact vl_wk [1, 2, 0] rfl (ih5_ v13 v16 m15 hE)
        have hL17_ : ∀ (n : Nat) (v10 : Int) (v11 : Int) (m12 : vl_M), vl_ok P (fn_X3_findSeeds_L17 w N v2 κ n v10 v11 m12) → vl_V nc S sc kX3_findSeeds d Post 17 [(0, .ref 14), (1, vl_iv v10), (2, vl_iv v2), (3, vl_iv v11)] [] m12 ρ := by
          intro n
          induction n with
          | zero => intro v10 v11 m12 hE; exact vl_no hE
          | succ n ih17_ =>
            intro v10 v11 m12 hE
            rw [fn_X3_findSeeds_L17] at hE
            refine vl_iload_n 3 rfl dX3_findSeeds_17 ?_
            refine vl_aload_n 0 rfl dX3_findSeeds_18 ?_
            refine vl_getIc (h := 14) (k0 := 2) (ki := 2) iu_X3 n14 (by decide) s14 rfl (by decide) fk_X3_46 rfl rfl dX3_findSeeds_19 ?_
            obtain ⟨g17, hE⟩ := vl_ok_gd hE
            obtain ⟨g18, hE⟩ := vl_ok_gd hE
            refine vl_icmp_ge (tgt := 85) dX3_findSeeds_22 (by decide) g17 g18 hE (fun c35 hE => ?_) (fun c35 hE => ?_)
            · exact vl_wk [0, 1, 2] rfl (hκL1712 v10 v11 m12 hE)
            · refine vl_aload_n 0 rfl dX3_findSeeds_25 ?_
              refine vl_getR (h := 14) (k0 := 0) (h2 := 1) iu_X3 n14 s14 rfl (by decide) fk_X3_9 rfl dX3_findSeeds_26 ?_
              refine vl_aload_n 0 rfl dX3_findSeeds_29 ?_
              refine vl_getR (h := 14) (k0 := 1) (h2 := 15) iu_X3 n14 s14 rfl (by decide) fk_X3_21 rfl dX3_findSeeds_30 ?_
              refine vl_iload_n 2 rfl dX3_findSeeds_33 ?_
              refine vl_aldc (h := 15) (n := w) (ni := (w : Int)) n15 (by decide) s15 (vl_wle hw) rfl dX3_findSeeds_34 hE (fun g19 g20 hE => ?_)
              refine vl_aload_n 0 rfl dX3_findSeeds_35 ?_
              refine vl_getR (h := 14) (k0 := 1) (h2 := 15) iu_X3 n14 s14 rfl (by decide) fk_X3_21 rfl dX3_findSeeds_36 ?_
              refine vl_iload_n 3 rfl dX3_findSeeds_39 ?_
              refine vl_aldc (h := 15) (n := w) (ni := (w : Int)) n15 (by decide) s15 (vl_wle hw) rfl dX3_findSeeds_40 hE (fun g21 g22 hE => ?_)
              refine vl_VpI (K' := kX4_growth) (d' := 1) (h := 1) (As := [vl_iv (m12 15 v2), vl_iv (m12 15 v11)]) (st := []) lk_X3_75 (fun _ => rfl) (by omega) n1 s1 rfl rfl (Nat.le_of_ble_eq_true rfl) rfl (Nat.le_of_ble_eq_true rfl) dX3_findSeeds_41 hE (fun _ h => vx_X4_growth hG (Nat.le_refl _) h) (fun b23 hE => ?_)
              refine vl_aload_n 0 rfl dX3_findSeeds_44 ?_
              refine vl_getR (h := 14) (k0 := 0) (h2 := 1) iu_X3 n14 s14 rfl (by decide) fk_X3_9 rfl dX3_findSeeds_45 ?_
              refine vl_aload_n 0 rfl dX3_findSeeds_48 ?_
              refine vl_getR (h := 14) (k0 := 1) (h2 := 15) iu_X3 n14 s14 rfl (by decide) fk_X3_21 rfl dX3_findSeeds_49 ?_
              refine vl_iload_n 3 rfl dX3_findSeeds_52 ?_
              refine vl_aldc1 (h := 15) (n := w) (ni := (w : Int)) n15 (by decide) s15 (vl_wle hw) rfl g21 dX3_findSeeds_53 ?_
              refine vl_VpI (K' := kX4_area) (d' := 0) (h := 1) (As := [vl_iv (m12 15 v11)]) (st := [vl_iv b23]) lk_X3_78 (fun _ => rfl) (by omega) n1 s1 rfl rfl (Nat.le_of_ble_eq_true rfl) rfl (Nat.le_of_ble_eq_true rfl) dX3_findSeeds_54 hE (fun _ h => vx_X4_area hG (Nat.le_refl _) h) (fun b24 hE => ?_)
              refine vl_isub dX3_findSeeds_57 ?_
              refine vl_istore (fun v25 => [(4, vl_iv v25), (0, .ref 14), (1, vl_iv v10), (2, vl_iv v2), (3, vl_iv v11)]) dX3_findSeeds_58 (by decide) (fun _ => rfl) hE (fun v25 hE => ?_)
              refine vl_iload 0 rfl dX3_findSeeds_60 ?_
              refine vl_iload_n 2 rfl dX3_findSeeds_62 ?_
              obtain ⟨g26, hE⟩ := vl_ok_gd hE
              obtain ⟨g27, hE⟩ := vl_ok_gd hE
              refine vl_jnr (J := fun κ : Int → vl_M → Option (vl_M) => ∀ (v28 : Int) (m29 : vl_M), vl_ok P (κ v28 m29) → vl_V nc S sc kX3_findSeeds d Post 79 [(0, .ref 14), (1, vl_iv v28), (2, vl_iv v2), (3, vl_iv v11)] [] m29 ρ) ?_ hE (fun κ30 hκ30 hE => ?_)
              · intro v28 m29 hE
                refine vl_iinc 3 (fun v31 => [(3, vl_iv v31), (0, .ref 14), (1, vl_iv v28), (2, vl_iv v2)]) dX3_findSeeds_79 rfl (by decide) (fun _ => rfl) hE (fun v31 hE => ?_)
                refine vl_goto (tgt := 17) dX3_findSeeds_82 (by decide) ?_
                exact vl_wk [1, 2, 3, 0] rfl (ih17_ v28 v31 m29 hE)
              refine vl_icmp_le (tgt := 79) dX3_findSeeds_63 (by decide) g26 g27 hE (fun c34 hE => ?_) (fun c34 hE => ?_)
              · exact vl_wk [1, 2, 3, 4] rfl (hκ30 v10 m12 hE)
              · refine vl_iload 0 rfl dX3_findSeeds_66 ?_
                refine vl_istore_n0 rfl (lv' := [(1, vl_iv v25), (4, vl_iv v25), (0, .ref 14), (2, vl_iv v2), (3, vl_iv v11)]) dX3_findSeeds_68 (by decide) rfl ?_
                refine vl_aload_n 2 rfl dX3_findSeeds_69 ?_
                refine vl_iload_n 3 rfl dX3_findSeeds_70 ?_
                refine vl_putIc (h := 14) (k0 := 3) (ki := 3) iu_X3 tyX3_ok nmX3 n14 (by decide) s14 rfl (by decide) fk_X3_39 rfl rfl rfl (vl_nI _) dX3_findSeeds_71 hE (fun m32 hE => ?_)
                refine vl_aload_n 2 rfl dX3_findSeeds_74 ?_
                refine vl_iload_n 4 rfl dX3_findSeeds_75 ?_
                refine vl_putIc (h := 14) (k0 := 4) (ki := 4) iu_X3 tyX3_ok nmX3 n14 (by decide) s14 rfl (by decide) fk_X3_32 rfl rfl rfl (vl_nI _) dX3_findSeeds_76 hE (fun m33 hE => ?_)
                exact vl_wk [2, 0, 3, 4] rfl (hκ30 v25 m33 hE)
        exact vl_wk [1, 2, 3, 0] rfl (hL17_ N v1 v9 m3 hE)
  exact vl_wk [2, 1, 0] rfl (hL5_ N (-2147483648) 0 m hE)
set_option maxRecDepth 100000 in
set_option maxHeartbeats 4000000 in
theorem vx_X3_fitting {nc : Nat} {S : vl_Sh} {sc : Nat × (Nat → Int32)} {w : Nat} (hG : vl_G1 nc S w) {d : Nat} (hd : 2 ≤ d) {Post : Int → vl_M → vl_M → Prop} {m ρ : vl_M} {a1 a2 a3 : Int} (hE : vl_ok (fun r : Int => Post r m ρ) (fn_X3_fitting m a1 a2 a3)) : vl_V nc S sc kX3_fitting d Post 0 [(0, .ref 14), (1, vl_iv a1), (2, vl_iv a2), (3, vl_iv a3)] [] m ρ := by
  generalize hP : (fun r : Int => Post r m ρ) = P at hE
  have hP' : ∀ r : Int, P r → Post r m ρ := fun b h => by rw [← hP] at h; exact h
  clear hP
  have s1 : S 1 = .inr (4, [0, 0, 5, 6, 7, 8, 9, 10, 11, 12, 0, 13, 0, 0, 0, 0, 0]) := hG.2.1 1 (by decide) (by decide)
  have n1 : 1 < nc := Nat.lt_of_lt_of_le (by decide) hG.1
  have s9 : S 9 = .inl 807 := hG.2.1 9 (by decide) (by decide)
  have n9 : 9 < nc := Nat.lt_of_lt_of_le (by decide) hG.1
  have s14 : S 14 = .inr (3, [4, 18, 0, 0, 0]) := hG.2.1 14 (by decide) (by decide)
  have n14 : 14 < nc := Nat.lt_of_lt_of_le (by decide) hG.1
  unfold fn_X3_fitting at hE
  refine vl_aload_n 0 rfl dX3_fitting_0 ?_
  refine vl_getR (h := 14) (k0 := 0) (h2 := 1) iu_X3 n14 s14 rfl (by decide) fk_X3_9 rfl dX3_fitting_1 ?_
  refine vl_iload_n 2 rfl dX3_fitting_4 ?_
  refine vl_iload_n 1 rfl dX3_fitting_5 ?_
  refine vl_VpI (K' := kX4_growth) (d' := 1) (h := 1) (As := [vl_iv a2, vl_iv a1]) (st := []) lk_X3_75 (fun _ => rfl) (by omega) n1 s1 rfl rfl (Nat.le_of_ble_eq_true rfl) rfl (Nat.le_of_ble_eq_true rfl) dX3_fitting_6 hE (fun _ h => vx_X4_growth hG (Nat.le_refl _) h) (fun b1 hE => ?_)
  refine vl_aload_n 0 rfl dX3_fitting_9 ?_
  refine vl_getR (h := 14) (k0 := 0) (h2 := 1) iu_X3 n14 s14 rfl (by decide) fk_X3_9 rfl dX3_fitting_10 ?_
  refine vl_iload_n 3 rfl dX3_fitting_13 ?_
  refine vl_iload_n 1 rfl dX3_fitting_14 ?_
  refine vl_VpI (K' := kX4_growth) (d' := 1) (h := 1) (As := [vl_iv a3, vl_iv a1]) (st := [vl_iv b1]) lk_X3_75 (fun _ => rfl) (by omega) n1 s1 rfl rfl (Nat.le_of_ble_eq_true rfl) rfl (Nat.le_of_ble_eq_true rfl) dX3_fitting_15 hE (fun _ h => vx_X4_growth hG (Nat.le_refl _) h) (fun b2 hE => ?_)
  refine vl_SpI (K' := kJ6_compare_7cf53) (d' := 0) (As := [vl_iv b1, vl_iv b2]) (st := []) lk_X3_87 (fun _ => rfl) (by omega) rfl (Nat.le_of_ble_eq_true rfl) rfl (Nat.le_of_ble_eq_true rfl) dX3_fitting_18 hE (fun _ h => vx_J6_compare_7cf53  (Nat.le_refl _) h) (fun b3 hE => ?_)
  refine vl_istore0 (lv' := [(4, vl_iv b3), (0, .ref 14), (1, vl_iv a1), (2, vl_iv a2), (3, vl_iv a3)]) dX3_fitting_21 (by decide) rfl ?_
  refine vl_iload 0 rfl dX3_fitting_23 ?_
  obtain ⟨g4, hE⟩ := vl_ok_gd hE
  refine vl_jnr (J := fun κ : Int → Option (Int) => ∀ (v5 : Int), vl_ok P (κ v5) → vl_V nc S sc kX3_fitting d Post 49 [(0, .ref 14), (2, vl_iv a2), (3, vl_iv a3), (4, vl_iv v5)] [] m ρ) ?_ hE (fun κ6 hκ6 hE => ?_)
  · intro v5 hE
    refine vl_iload 3 rfl dX3_fitting_49 ?_
    obtain ⟨g7, hE⟩ := vl_ok_gd hE
    refine vl_jnr (J := fun κ : Int → Option (Int) => ∀ (v8 : Int), vl_ok P (κ v8) → vl_V nc S sc kX3_fitting d Post 77 [(2, vl_iv a2), (3, vl_iv a3), (4, vl_iv v8)] [] m ρ) ?_ hE (fun κ9 hκ9 hE => ?_)
    · intro v8 hE
      refine vl_iload 2 rfl dX3_fitting_77 ?_
      obtain ⟨g10, hE⟩ := vl_ok_gd hE
      refine vl_if_gt (tgt := 86) dX3_fitting_79 (by decide) g10  hE (fun c11 hE => ?_) (fun c11 hE => ?_)
      · refine vl_iload_n 1 rfl dX3_fitting_86 ?_
        exact vl_ret (r := a3) rfl dX3_fitting_87 hE (hP' (a3))
      · refine vl_iload_n 0 rfl dX3_fitting_82 ?_
        refine vl_goto (tgt := 87) dX3_fitting_83 (by decide) ?_
        exact vl_ret (r := a2) rfl dX3_fitting_87 hE (hP' (a2))
    refine vl_if_ne (tgt := 77) dX3_fitting_51 (by decide) g7  hE (fun c17 hE => ?_) (fun c17 hE => ?_)
    · exact vl_wk [1, 2, 3] rfl (hκ9 v5 hE)
    · refine vl_aload_n 0 rfl dX3_fitting_54 ?_
      refine vl_getR (h := 14) (k0 := 0) (h2 := 1) iu_X3 n14 s14 rfl (by decide) fk_X3_9 rfl dX3_fitting_55 ?_
      refine vl_getR (h := 1) (k0 := 9) (h2 := 9) iu_X4 n1 s1 rfl (by decide) fk_X3_61 rfl dX3_fitting_58 ?_
      refine vl_iload_n 1 rfl dX3_fitting_61 ?_
      refine vl_aldc (h := 9) (n := 807) (ni := 807) n9 (by decide) s9 (by decide) rfl dX3_fitting_62 hE (fun g12 g13 hE => ?_)
      refine vl_aload_n 0 rfl dX3_fitting_63 ?_
      refine vl_getR (h := 14) (k0 := 0) (h2 := 1) iu_X3 n14 s14 rfl (by decide) fk_X3_9 rfl dX3_fitting_64 ?_
      refine vl_getR (h := 1) (k0 := 9) (h2 := 9) iu_X4 n1 s1 rfl (by decide) fk_X3_61 rfl dX3_fitting_67 ?_
      refine vl_iload_n 2 rfl dX3_fitting_70 ?_
      refine vl_aldc (h := 9) (n := 807) (ni := 807) n9 (by decide) s9 (by decide) rfl dX3_fitting_71 hE (fun g14 g15 hE => ?_)
      refine vl_SpI (K' := kJ6_compare_7cf53) (d' := 0) (As := [vl_iv (m 9 a2), vl_iv (m 9 a3)]) (st := []) lk_X3_87 (fun _ => rfl) (by omega) rfl (Nat.le_of_ble_eq_true rfl) rfl (Nat.le_of_ble_eq_true rfl) dX3_fitting_72 hE (fun _ h => vx_J6_compare_7cf53  (Nat.le_refl _) h) (fun b16 hE => ?_)
      refine vl_istore0 (lv' := [(4, vl_iv b16), (0, .ref 14), (2, vl_iv a2), (3, vl_iv a3)]) dX3_fitting_75 (by decide) rfl ?_
      exact vl_wk [2, 3, 0] rfl (hκ9 b16 hE)
  refine vl_if_ne (tgt := 49) dX3_fitting_25 (by decide) g4  hE (fun c21 hE => ?_) (fun c21 hE => ?_)
  · exact vl_wk [1, 3, 4, 0] rfl (hκ6 b3 hE)
  · refine vl_aload_n 1 rfl dX3_fitting_28 ?_
    refine vl_getR (h := 14) (k0 := 0) (h2 := 1) iu_X3 n14 s14 rfl (by decide) fk_X3_9 rfl dX3_fitting_29 ?_
    refine vl_iload_n 3 rfl dX3_fitting_32 ?_
    refine vl_VpI (K' := kX4_area) (d' := 0) (h := 1) (As := [vl_iv a2]) (st := []) lk_X3_78 (fun _ => rfl) (by omega) n1 s1 rfl rfl (Nat.le_of_ble_eq_true rfl) rfl (Nat.le_of_ble_eq_true rfl) dX3_fitting_33 hE (fun _ h => vx_X4_area hG (Nat.le_refl _) h) (fun b18 hE => ?_)
    refine vl_aload_n 1 rfl dX3_fitting_36 ?_
    refine vl_getR (h := 14) (k0 := 0) (h2 := 1) iu_X3 n14 s14 rfl (by decide) fk_X3_9 rfl dX3_fitting_37 ?_
    refine vl_iload_n 4 rfl dX3_fitting_40 ?_
    refine vl_VpI (K' := kX4_area) (d' := 0) (h := 1) (As := [vl_iv a3]) (st := [vl_iv b18]) lk_X3_78 (fun _ => rfl) (by omega) n1 s1 rfl rfl (Nat.le_of_ble_eq_true rfl) rfl (Nat.le_of_ble_eq_true rfl) dX3_fitting_41 hE (fun _ h => vx_X4_area hG (Nat.le_refl _) h) (fun b19 hE => ?_)
    refine vl_SpI (K' := kJ6_compare_7cf53) (d' := 0) (As := [vl_iv b18, vl_iv b19]) (st := []) lk_X3_87 (fun _ => rfl) (by omega) rfl (Nat.le_of_ble_eq_true rfl) rfl (Nat.le_of_ble_eq_true rfl) dX3_fitting_44 hE (fun _ h => vx_J6_compare_7cf53  (Nat.le_refl _) h) (fun b20 hE => ?_)
    refine vl_istore0 (lv' := [(4, vl_iv b20), (0, .ref 14), (1, vl_iv a1), (2, vl_iv a2), (3, vl_iv a3)]) dX3_fitting_47 (by decide) rfl ?_
    exact vl_wk [1, 3, 4, 0] rfl (hκ6 b20 hE)
set_option maxRecDepth 100000 in
set_option maxHeartbeats 4000000 in
theorem vx_X3_mostDecided {nc : Nat} {S : vl_Sh} {sc : Nat × (Nat → Int32)} {w : Nat} (hG : vl_G1 nc S w) {N : Nat} {d : Nat} (hd : 2 ≤ d) {Post : Int → vl_M → vl_M → Prop} {m ρ : vl_M} {a1 a2 : Int} (hE : vl_ok (fun r : Int => Post r m ρ) (fn_X3_mostDecided w N m a1 a2)) : vl_V nc S sc kX3_mostDecided d Post 0 [(0, .ref 14), (1, vl_iv a1), (2, vl_iv a2)] [] m ρ := by
  generalize hP : (fun r : Int => Post r m ρ) = P at hE
  have hP' : ∀ r : Int, P r → Post r m ρ := fun b h => by rw [← hP] at h; exact h
  clear hP
  have s1 : S 1 = .inr (4, [0, 0, 5, 6, 7, 8, 9, 10, 11, 12, 0, 13, 0, 0, 0, 0, 0]) := hG.2.1 1 (by decide) (by decide)
  have n1 : 1 < nc := Nat.lt_of_lt_of_le (by decide) hG.1
  have s14 : S 14 = .inr (3, [4, 18, 0, 0, 0]) := hG.2.1 14 (by decide) (by decide)
  have n14 : 14 < nc := Nat.lt_of_lt_of_le (by decide) hG.1
  have s15 : S 15 = .inl w := hG.2.1 15 (by decide) (by decide)
  have n15 : 15 < nc := Nat.lt_of_lt_of_le (by decide) hG.1
  have hw : w ≤ 11 := hG.2.2
  unfold fn_X3_mostDecided at hE
  refine vl_iconst dX3_mostDecided_0 ?_
  refine vl_istore_n0 rfl (lv' := [(3, vl_iv 0), (0, .ref 14), (1, vl_iv a1), (2, vl_iv a2)]) dX3_mostDecided_1 (by decide) rfl ?_
  refine vl_iconst dX3_mostDecided_2 ?_
  refine vl_istore0 (lv' := [(4, vl_iv (-1)), (3, vl_iv 0), (0, .ref 14), (1, vl_iv a1), (2, vl_iv a2)]) dX3_mostDecided_3 (by decide) rfl ?_
  refine vl_iconst dX3_mostDecided_5 ?_
  refine vl_istore0 (lv' := [(5, vl_iv 0), (4, vl_iv (-1)), (3, vl_iv 0), (0, .ref 14), (1, vl_iv a1), (2, vl_iv a2)]) dX3_mostDecided_6 (by decide) rfl ?_
  refine vl_lpr (F := fun κ : Int → Int → Int → Option (Int) => fn_X3_mostDecided_L8 w N m a1 a2 κ N 0 (-1) 0) (J := fun κ => ∀ (v4 : Int) (v5 : Int) (v6 : Int), vl_ok P (κ v4 v5 v6) → vl_V nc S sc kX3_mostDecided d Post 73 [(3, vl_iv v4)] [] m ρ) ?_ hE (fun κ hκL83 hE => ?_)
  · intro v4 v5 v6 hE
    refine vl_iload_n 0 rfl dX3_mostDecided_73 ?_
    exact vl_ret (r := v4) rfl dX3_mostDecided_74 hE (hP' (v4))
  have hL8_ : ∀ (n : Nat) (v1 : Int) (v2 : Int) (v3 : Int), vl_ok P (fn_X3_mostDecided_L8 w N m a1 a2 κ n v1 v2 v3) → vl_V nc S sc kX3_mostDecided d Post 8 [(0, .ref 14), (1, vl_iv a1), (2, vl_iv a2), (3, vl_iv v1), (4, vl_iv v2), (5, vl_iv v3)] [] m ρ := by
    intro n
    induction n with
    | zero => intro v1 v2 v3 hE; exact vl_no hE
    | succ n ih8_ =>
      intro v1 v2 v3 hE
      rw [fn_X3_mostDecided_L8] at hE
      refine vl_iload 5 rfl dX3_mostDecided_8 ?_
      refine vl_aload_n 0 rfl dX3_mostDecided_10 ?_
      refine vl_getIc (h := 14) (k0 := 2) (ki := 2) iu_X3 n14 (by decide) s14 rfl (by decide) fk_X3_46 rfl rfl dX3_mostDecided_11 ?_
      obtain ⟨g7, hE⟩ := vl_ok_gd hE
      obtain ⟨g8, hE⟩ := vl_ok_gd hE
      refine vl_icmp_ge (tgt := 73) dX3_mostDecided_14 (by decide) g7 g8 hE (fun c22 hE => ?_) (fun c22 hE => ?_)
      · exact vl_wk [3] rfl (hκL83 v1 v2 v3 hE)
      · refine vl_aload_n 0 rfl dX3_mostDecided_17 ?_
        refine vl_getR (h := 14) (k0 := 0) (h2 := 1) iu_X3 n14 s14 rfl (by decide) fk_X3_9 rfl dX3_mostDecided_18 ?_
        refine vl_iload_n 1 rfl dX3_mostDecided_21 ?_
        refine vl_aload_n 0 rfl dX3_mostDecided_22 ?_
        refine vl_getR (h := 14) (k0 := 1) (h2 := 15) iu_X3 n14 s14 rfl (by decide) fk_X3_21 rfl dX3_mostDecided_23 ?_
        refine vl_iload 5 rfl dX3_mostDecided_26 ?_
        refine vl_aldc (h := 15) (n := w) (ni := (w : Int)) n15 (by decide) s15 (vl_wle hw) rfl dX3_mostDecided_28 hE (fun g9 g10 hE => ?_)
        refine vl_VpI (K' := kX4_growth) (d' := 1) (h := 1) (As := [vl_iv a1, vl_iv (m 15 v3)]) (st := []) lk_X3_75 (fun _ => rfl) (by omega) n1 s1 rfl rfl (Nat.le_of_ble_eq_true rfl) rfl (Nat.le_of_ble_eq_true rfl) dX3_mostDecided_29 hE (fun _ h => vx_X4_growth hG (Nat.le_refl _) h) (fun b11 hE => ?_)
        refine vl_aload_n 0 rfl dX3_mostDecided_32 ?_
        refine vl_getR (h := 14) (k0 := 0) (h2 := 1) iu_X3 n14 s14 rfl (by decide) fk_X3_9 rfl dX3_mostDecided_33 ?_
        refine vl_iload_n 2 rfl dX3_mostDecided_36 ?_
        refine vl_aload_n 0 rfl dX3_mostDecided_37 ?_
        refine vl_getR (h := 14) (k0 := 1) (h2 := 15) iu_X3 n14 s14 rfl (by decide) fk_X3_21 rfl dX3_mostDecided_38 ?_
        refine vl_iload 5 rfl dX3_mostDecided_41 ?_
        refine vl_aldc1 (h := 15) (n := w) (ni := (w : Int)) n15 (by decide) s15 (vl_wle hw) rfl g9 dX3_mostDecided_43 ?_
        refine vl_VpI (K' := kX4_growth) (d' := 1) (h := 1) (As := [vl_iv a2, vl_iv (m 15 v3)]) (st := [vl_iv b11]) lk_X3_75 (fun _ => rfl) (by omega) n1 s1 rfl rfl (Nat.le_of_ble_eq_true rfl) rfl (Nat.le_of_ble_eq_true rfl) dX3_mostDecided_44 hE (fun _ h => vx_X4_growth hG (Nat.le_refl _) h) (fun b12 hE => ?_)
        refine vl_isub dX3_mostDecided_47 ?_
        obtain ⟨g13, hE⟩ := vl_ok_gd hE
        refine vl_mabs lk_X3_84 (by omega) g13 (Nat.le_of_ble_eq_true rfl) dX3_mostDecided_48 ?_
        refine vl_istore (fun v14 => [(6, vl_iv v14), (0, .ref 14), (1, vl_iv a1), (2, vl_iv a2), (3, vl_iv v1), (4, vl_iv v2), (5, vl_iv v3)]) dX3_mostDecided_51 (by decide) (fun _ => rfl) hE (fun v14 hE => ?_)
        refine vl_iload 0 rfl dX3_mostDecided_53 ?_
        refine vl_iload 5 rfl dX3_mostDecided_55 ?_
        obtain ⟨g15, hE⟩ := vl_ok_gd hE
        obtain ⟨g16, hE⟩ := vl_ok_gd hE
        refine vl_jnr (J := fun κ : Int → Int → Option (Int) => ∀ (v17 : Int) (v18 : Int), vl_ok P (κ v17 v18) → vl_V nc S sc kX3_mostDecided d Post 67 [(0, .ref 14), (1, vl_iv a1), (2, vl_iv a2), (3, vl_iv v17), (4, vl_iv v18), (5, vl_iv v3)] [] m ρ) ?_ hE (fun κ19 hκ19 hE => ?_)
        · intro v17 v18 hE
          refine vl_iinc 5 (fun v20 => [(5, vl_iv v20), (0, .ref 14), (1, vl_iv a1), (2, vl_iv a2), (3, vl_iv v17), (4, vl_iv v18)]) dX3_mostDecided_67 rfl (by decide) (fun _ => rfl) hE (fun v20 hE => ?_)
          refine vl_goto (tgt := 8) dX3_mostDecided_70 (by decide) ?_
          exact vl_wk [1, 2, 3, 4, 5, 0] rfl (ih8_ v17 v18 v20 hE)
        refine vl_icmp_le (tgt := 67) dX3_mostDecided_57 (by decide) g15 g16 hE (fun c21 hE => ?_) (fun c21 hE => ?_)
        · exact vl_wk [1, 2, 3, 4, 5, 6] rfl (hκ19 v1 v2 hE)
        · refine vl_iload 6 rfl dX3_mostDecided_60 ?_
          refine vl_istore_n0 rfl (lv' := [(3, vl_iv v3), (6, vl_iv v14), (0, .ref 14), (1, vl_iv a1), (2, vl_iv a2), (4, vl_iv v2), (5, vl_iv v3)]) dX3_mostDecided_62 (by decide) rfl ?_
          refine vl_iload 1 rfl dX3_mostDecided_63 ?_
          refine vl_istore0 (lv' := [(4, vl_iv v14), (3, vl_iv v3), (6, vl_iv v14), (0, .ref 14), (1, vl_iv a1), (2, vl_iv a2), (5, vl_iv v3)]) dX3_mostDecided_65 (by decide) rfl ?_
          exact vl_wk [3, 4, 5, 1, 0, 6] rfl (hκ19 v3 v14 hE)
  exact vl_wk [3, 4, 5, 2, 1, 0] rfl (hL8_ N 0 (-1) 0 hE)
set_option maxRecDepth 100000 in
set_option maxHeartbeats 4000000 in
theorem vx_X5_leastGrowing {nc : Nat} {S : vl_Sh} {sc : Nat × (Nat → Int32)} {w : Nat} (hG : vl_G1 nc S w) {N : Nat} {d : Nat} (hd : 2 ≤ d) {Post : Int → vl_M → vl_M → Prop} {m ρ : vl_M} {a1 a2 : Int} (hE : vl_ok (fun r : Int => Post r m ρ) (fn_X5_leastGrowing w N m a1 a2)) : vl_V nc S sc kX5_leastGrowing d Post 0 [(0, .ref 11), (1, vl_iv a1), (2, vl_iv a2)] [] m ρ := by
  generalize hP : (fun r : Int => Post r m ρ) = P at hE
  have hP' : ∀ r : Int, P r → Post r m ρ := fun b h => by rw [← hP] at h; exact h
  clear hP
  have s1 : S 1 = .inr (4, [0, 0, 5, 6, 7, 8, 9, 10, 11, 12, 0, 13, 0, 0, 0, 0, 0]) := hG.2.1 1 (by decide) (by decide)
  have n1 : 1 < nc := Nat.lt_of_lt_of_le (by decide) hG.1
  have s9 : S 9 = .inl 807 := hG.2.1 9 (by decide) (by decide)
  have n9 : 9 < nc := Nat.lt_of_lt_of_le (by decide) hG.1
  have s11 : S 11 = .inr (5, [4, 17, 15, 0, 16, 0, 0, 0, 0, 0]) := hG.2.1 11 (by decide) (by decide)
  have n11 : 11 < nc := Nat.lt_of_lt_of_le (by decide) hG.1
  unfold fn_X5_leastGrowing at hE
  refine vl_aload_n 0 rfl dX5_leastGrowing_0 ?_
  refine vl_getR (h := 11) (k0 := 0) (h2 := 1) iu_X5 n11 s11 rfl (by decide) fk_X5_18 rfl dX5_leastGrowing_1 ?_
  refine vl_iload_n 1 rfl dX5_leastGrowing_4 ?_
  refine vl_iconst dX5_leastGrowing_5 ?_
  refine vl_VpI (K' := kX4_thingAt) (d' := 0) (h := 1) (As := [vl_iv a1, vl_iv 0]) (st := []) lk_X5_66 (fun _ => rfl) (by omega) n1 s1 rfl rfl (Nat.le_of_ble_eq_true rfl) rfl (Nat.le_of_ble_eq_true rfl) dX5_leastGrowing_6 hE (fun _ h => vx_X4_thingAt hG (Nat.le_refl _) h) (fun b1 hE => ?_)
  refine vl_istore_n0 rfl (lv' := [(3, vl_iv b1), (0, .ref 11), (1, vl_iv a1), (2, vl_iv a2)]) dX5_leastGrowing_9 (by decide) rfl ?_
  refine vl_iconst dX5_leastGrowing_10 ?_
  refine vl_istore0 (lv' := [(4, vl_iv 1), (3, vl_iv b1), (0, .ref 11), (1, vl_iv a1), (2, vl_iv a2)]) dX5_leastGrowing_11 (by decide) rfl ?_
  refine vl_lpr (F := fun κ : Int → Int → Option (Int) => fn_X5_leastGrowing_L13 w N m a1 a2 κ N b1 1) (J := fun κ => ∀ (v4 : Int) (v5 : Int), vl_ok P (κ v4 v5) → vl_V nc S sc kX5_leastGrowing d Post 102 [(3, vl_iv v4)] [] m ρ) ?_ hE (fun κ hκL133 hE => ?_)
  · intro v4 v5 hE
    refine vl_iload_n 0 rfl dX5_leastGrowing_102 ?_
    exact vl_ret (r := v4) rfl dX5_leastGrowing_103 hE (hP' (v4))
  have hL13_ : ∀ (n : Nat) (v2 : Int) (v3 : Int), vl_ok P (fn_X5_leastGrowing_L13 w N m a1 a2 κ n v2 v3) → vl_V nc S sc kX5_leastGrowing d Post 13 [(0, .ref 11), (1, vl_iv a1), (2, vl_iv a2), (3, vl_iv v2), (4, vl_iv v3)] [] m ρ := by
    intro n
    induction n with
    | zero => intro v2 v3 hE; exact vl_no hE
    | succ n ih13_ =>
      intro v2 v3 hE
      rw [fn_X5_leastGrowing_L13] at hE
      refine vl_iload 4 rfl dX5_leastGrowing_13 ?_
      refine vl_aload_n 0 rfl dX5_leastGrowing_15 ?_
      refine vl_getR (h := 11) (k0 := 0) (h2 := 1) iu_X5 n11 s11 rfl (by decide) fk_X5_18 rfl dX5_leastGrowing_16 ?_
      refine vl_getR (h := 1) (k0 := 9) (h2 := 9) iu_X4 n1 s1 rfl (by decide) fk_X5_63 rfl dX5_leastGrowing_19 ?_
      refine vl_iload_n 1 rfl dX5_leastGrowing_22 ?_
      refine vl_aldc (h := 9) (n := 807) (ni := 807) n9 (by decide) s9 (by decide) rfl dX5_leastGrowing_23 hE (fun g6 g7 hE => ?_)
      obtain ⟨g8, hE⟩ := vl_ok_gd hE
      obtain ⟨g9, hE⟩ := vl_ok_gd hE
      refine vl_icmp_ge (tgt := 102) dX5_leastGrowing_24 (by decide) g8 g9 hE (fun c25 hE => ?_) (fun c25 hE => ?_)
      · exact vl_wk [3] rfl (hκL133 v2 v3 hE)
      · refine vl_aload_n 0 rfl dX5_leastGrowing_27 ?_
        refine vl_getR (h := 11) (k0 := 0) (h2 := 1) iu_X5 n11 s11 rfl (by decide) fk_X5_18 rfl dX5_leastGrowing_28 ?_
        refine vl_iload_n 1 rfl dX5_leastGrowing_31 ?_
        refine vl_iload 4 rfl dX5_leastGrowing_32 ?_
        refine vl_VpI (K' := kX4_thingAt) (d' := 0) (h := 1) (As := [vl_iv a1, vl_iv v3]) (st := []) lk_X5_66 (fun _ => rfl) (by omega) n1 s1 rfl rfl (Nat.le_of_ble_eq_true rfl) rfl (Nat.le_of_ble_eq_true rfl) dX5_leastGrowing_34 hE (fun _ h => vx_X4_thingAt hG (Nat.le_refl _) h) (fun b10 hE => ?_)
        refine vl_istore0 (lv' := [(5, vl_iv b10), (0, .ref 11), (1, vl_iv a1), (2, vl_iv a2), (3, vl_iv v2), (4, vl_iv v3)]) dX5_leastGrowing_37 (by decide) rfl ?_
        refine vl_aload_n 1 rfl dX5_leastGrowing_39 ?_
        refine vl_getR (h := 11) (k0 := 0) (h2 := 1) iu_X5 n11 s11 rfl (by decide) fk_X5_18 rfl dX5_leastGrowing_40 ?_
        refine vl_iload 0 rfl dX5_leastGrowing_43 ?_
        refine vl_iload_n 3 rfl dX5_leastGrowing_45 ?_
        refine vl_VpI (K' := kX4_growth) (d' := 1) (h := 1) (As := [vl_iv b10, vl_iv a2]) (st := []) lk_X5_83 (fun _ => rfl) (by omega) n1 s1 rfl rfl (Nat.le_of_ble_eq_true rfl) rfl (Nat.le_of_ble_eq_true rfl) dX5_leastGrowing_46 hE (fun _ h => vx_X4_growth hG (Nat.le_refl _) h) (fun b11 hE => ?_)
        refine vl_aload_n 1 rfl dX5_leastGrowing_49 ?_
        refine vl_getR (h := 11) (k0 := 0) (h2 := 1) iu_X5 n11 s11 rfl (by decide) fk_X5_18 rfl dX5_leastGrowing_50 ?_
        refine vl_iload_n 4 rfl dX5_leastGrowing_53 ?_
        refine vl_iload_n 3 rfl dX5_leastGrowing_54 ?_
        refine vl_VpI (K' := kX4_growth) (d' := 1) (h := 1) (As := [vl_iv v2, vl_iv a2]) (st := [vl_iv b11]) lk_X5_83 (fun _ => rfl) (by omega) n1 s1 rfl rfl (Nat.le_of_ble_eq_true rfl) rfl (Nat.le_of_ble_eq_true rfl) dX5_leastGrowing_55 hE (fun _ h => vx_X4_growth hG (Nat.le_refl _) h) (fun b12 hE => ?_)
        refine vl_SpI (K' := kJ6_compare_7cf53) (d' := 0) (As := [vl_iv b11, vl_iv b12]) (st := []) lk_X5_86 (fun _ => rfl) (by omega) rfl (Nat.le_of_ble_eq_true rfl) rfl (Nat.le_of_ble_eq_true rfl) dX5_leastGrowing_58 hE (fun _ h => vx_J6_compare_7cf53  (Nat.le_refl _) h) (fun b13 hE => ?_)
        refine vl_istore0 (lv' := [(6, vl_iv b13), (5, vl_iv b10), (0, .ref 11), (1, vl_iv a1), (2, vl_iv a2), (3, vl_iv v2), (4, vl_iv v3)]) dX5_leastGrowing_61 (by decide) rfl ?_
        refine vl_iload 0 rfl dX5_leastGrowing_63 ?_
        obtain ⟨g14, hE⟩ := vl_ok_gd hE
        refine vl_jnr (J := fun κ : Int → Option (Int) => ∀ (v15 : Int), vl_ok P (κ v15) → vl_V nc S sc kX5_leastGrowing d Post 96 [(0, .ref 11), (1, vl_iv a1), (2, vl_iv a2), (3, vl_iv v15), (4, vl_iv v3)] [] m ρ) ?_ hE (fun κ16 hκ16 hE => ?_)
        · intro v15 hE
          refine vl_iinc 4 (fun v17 => [(4, vl_iv v17), (0, .ref 11), (1, vl_iv a1), (2, vl_iv a2), (3, vl_iv v15)]) dX5_leastGrowing_96 rfl (by decide) (fun _ => rfl) hE (fun v17 hE => ?_)
          refine vl_goto (tgt := 13) dX5_leastGrowing_99 (by decide) ?_
          exact vl_wk [1, 2, 3, 4, 0] rfl (ih13_ v15 v17 hE)
        refine vl_if_lt (tgt := 93) dX5_leastGrowing_65 (by decide) g14  hE (fun c24 hE => ?_) (fun c24 hE => ?_)
        · refine vl_iload 1 rfl dX5_leastGrowing_93 ?_
          refine vl_istore_n0 rfl (lv' := [(3, vl_iv b10), (6, vl_iv b13), (5, vl_iv b10), (0, .ref 11), (1, vl_iv a1), (2, vl_iv a2), (4, vl_iv v3)]) dX5_leastGrowing_95 (by decide) rfl ?_
          exact vl_wk [3, 4, 5, 0, 6] rfl (hκ16 b10 hE)
        · refine vl_iload 0 rfl dX5_leastGrowing_68 ?_
          refine vl_if_ne (tgt := 96) dX5_leastGrowing_70 (by decide) g14  hE (fun c23 hE => ?_) (fun c23 hE => ?_)
          · exact vl_wk [2, 3, 4, 5, 6] rfl (hκ16 v2 hE)
          · refine vl_aload_n 2 rfl dX5_leastGrowing_73 ?_
            refine vl_getR (h := 11) (k0 := 0) (h2 := 1) iu_X5 n11 s11 rfl (by decide) fk_X5_18 rfl dX5_leastGrowing_74 ?_
            refine vl_iload 1 rfl dX5_leastGrowing_77 ?_
            refine vl_VpI (K' := kX4_area) (d' := 0) (h := 1) (As := [vl_iv b10]) (st := []) lk_X5_91 (fun _ => rfl) (by omega) n1 s1 rfl rfl (Nat.le_of_ble_eq_true rfl) rfl (Nat.le_of_ble_eq_true rfl) dX5_leastGrowing_79 hE (fun _ h => vx_X4_area hG (Nat.le_refl _) h) (fun b18 hE => ?_)
            refine vl_aload_n 2 rfl dX5_leastGrowing_82 ?_
            refine vl_getR (h := 11) (k0 := 0) (h2 := 1) iu_X5 n11 s11 rfl (by decide) fk_X5_18 rfl dX5_leastGrowing_83 ?_
            refine vl_iload_n 5 rfl dX5_leastGrowing_86 ?_
            refine vl_VpI (K' := kX4_area) (d' := 0) (h := 1) (As := [vl_iv v2]) (st := [vl_iv b18]) lk_X5_91 (fun _ => rfl) (by omega) n1 s1 rfl rfl (Nat.le_of_ble_eq_true rfl) rfl (Nat.le_of_ble_eq_true rfl) dX5_leastGrowing_87 hE (fun _ h => vx_X4_area hG (Nat.le_refl _) h) (fun b19 hE => ?_)
            obtain ⟨g20, hE⟩ := vl_ok_gd hE
            obtain ⟨g21, hE⟩ := vl_ok_gd hE
            refine vl_icmp_ge (tgt := 96) dX5_leastGrowing_90 (by decide) g20 g21 hE (fun c22 hE => ?_) (fun c22 hE => ?_)
            · exact vl_wk [2, 3, 4, 5, 6] rfl (hκ16 v2 hE)
            · refine vl_iload 1 rfl dX5_leastGrowing_93 ?_
              refine vl_istore_n0 rfl (lv' := [(3, vl_iv b10), (6, vl_iv b13), (5, vl_iv b10), (0, .ref 11), (1, vl_iv a1), (2, vl_iv a2), (4, vl_iv v3)]) dX5_leastGrowing_95 (by decide) rfl ?_
              exact vl_wk [3, 4, 5, 0, 6] rfl (hκ16 b10 hE)
  exact vl_wk [2, 3, 4, 1, 0] rfl (hL13_ N b1 1 hE)
set_option maxRecDepth 100000 in
set_option maxHeartbeats 4000000 in
theorem vx_X3_share {nc : Nat} {S : vl_Sh} {sc : Nat × (Nat → Int32)} {w : Nat} (hG : vl_G1 nc S w) {N : Nat} {d : Nat} (hd : 3 ≤ d) {Post : Int → vl_M → vl_M → Prop} {m ρ : vl_M} {a1 a2 : Int} (hE : vl_ok (fun b : vl_M => Post 0 b ρ) (fn_X3_share w N m a1 a2)) : vl_V nc S sc kX3_share d Post 0 [(0, .ref 14), (1, vl_iv a1), (2, vl_iv a2)] [] m ρ := by
  generalize hP : (fun b : vl_M => Post 0 b ρ) = P at hE
  have hP' : ∀ b : vl_M, P b → Post 0 b ρ := fun b h => by rw [← hP] at h; exact h
  clear hP
  have s1 : S 1 = .inr (4, [0, 0, 5, 6, 7, 8, 9, 10, 11, 12, 0, 13, 0, 0, 0, 0, 0]) := hG.2.1 1 (by decide) (by decide)
  have n1 : 1 < nc := Nat.lt_of_lt_of_le (by decide) hG.1
  have s14 : S 14 = .inr (3, [4, 18, 0, 0, 0]) := hG.2.1 14 (by decide) (by decide)
  have n14 : 14 < nc := Nat.lt_of_lt_of_le (by decide) hG.1
  have s15 : S 15 = .inl w := hG.2.1 15 (by decide) (by decide)
  have n15 : 15 < nc := Nat.lt_of_lt_of_le (by decide) hG.1
  have hw : w ≤ 11 := hG.2.2
  unfold fn_X3_share at hE
  refine vl_aload_n 0 rfl dX3_share_0 ?_
  refine vl_iload_n 1 rfl dX3_share_1 ?_
  refine vl_VcWV (K' := kX3_pourOut) (d' := 1) (h := 14) (As := [vl_iv a1]) (st := []) lk_X3_25 (fun _ => rfl) (by omega) n14 s14 rfl rfl (Nat.le_of_ble_eq_true rfl) rfl (Nat.le_of_ble_eq_true rfl) dX3_share_2 hE (fun _ h => vx_X3_pourOut hG (Nat.le_refl _) h) (fun m2 hE => ?_)
  refine vl_aload_n 0 rfl dX3_share_5 ?_
  refine vl_VcWV (K' := kX3_findSeeds) (d' := 2) (h := 14) (As := []) (st := []) lk_X3_29 (fun _ => rfl) (by omega) n14 s14 rfl rfl (Nat.le_of_ble_eq_true rfl) rfl (Nat.le_of_ble_eq_true rfl) dX3_share_6 hE (fun _ h => vx_X3_findSeeds hG (Nat.le_refl _) h) (fun m4 hE => ?_)
  refine vl_aload_n 0 rfl dX3_share_9 ?_
  refine vl_aload_n 0 rfl dX3_share_10 ?_
  refine vl_getIc (h := 14) (k0 := 4) (ki := 4) iu_X3 n14 (by decide) s14 rfl (by decide) fk_X3_32 rfl rfl dX3_share_11 ?_
  refine vl_VcWI (K' := kX3_takeLeft) (d' := 0) (h := 14) (As := [vl_iv (m4 14 4)]) (st := []) lk_X3_35 (fun _ => rfl) (by omega) n14 s14 rfl rfl (Nat.le_of_ble_eq_true rfl) rfl (Nat.le_of_ble_eq_true rfl) dX3_share_14 hE (fun _ h => vx_X3_takeLeft hG (Nat.le_refl _) h) (fun b5 m6 hE => ?_)
  refine vl_istore_n0 rfl (lv' := [(3, vl_iv b5), (0, .ref 14), (1, vl_iv a1), (2, vl_iv a2)]) dX3_share_17 (by decide) rfl ?_
  refine vl_aload_n 1 rfl dX3_share_18 ?_
  refine vl_getR (h := 14) (k0 := 0) (h2 := 1) iu_X3 n14 s14 rfl (by decide) fk_X3_9 rfl dX3_share_19 ?_
  refine vl_iload_n 2 rfl dX3_share_22 ?_
  refine vl_aload_n 1 rfl dX3_share_23 ?_
  refine vl_aload_n 1 rfl dX3_share_24 ?_
  refine vl_getIc (h := 14) (k0 := 3) (ki := 3) iu_X3 n14 (by decide) s14 rfl (by decide) fk_X3_39 rfl rfl dX3_share_25 ?_
  refine vl_VcWI (K' := kX3_takeLeft) (d' := 0) (h := 14) (As := [vl_iv (m6 14 3)]) (st := [vl_iv a1, .ref 1]) lk_X3_35 (fun _ => rfl) (by omega) n14 s14 rfl rfl (Nat.le_of_ble_eq_true rfl) rfl (Nat.le_of_ble_eq_true rfl) dX3_share_28 hE (fun _ h => vx_X3_takeLeft hG (Nat.le_refl _) h) (fun b7 m8 hE => ?_)
  refine vl_VcWV (K' := kX4_attach) (d' := 2) (h := 1) (As := [vl_iv a1, vl_iv b7]) (st := []) lk_X3_42 (fun _ => rfl) (by omega) n1 s1 rfl rfl (Nat.le_of_ble_eq_true rfl) rfl (Nat.le_of_ble_eq_true rfl) dX3_share_31 hE (fun _ h => vx_X4_attach hG (Nat.le_refl _) h) (fun m10 hE => ?_)
  refine vl_aload_n 1 rfl dX3_share_34 ?_
  refine vl_getR (h := 14) (k0 := 0) (h2 := 1) iu_X3 n14 s14 rfl (by decide) fk_X3_9 rfl dX3_share_35 ?_
  refine vl_iload_n 3 rfl dX3_share_38 ?_
  refine vl_iload_n 0 rfl dX3_share_39 ?_
  refine vl_VcWV (K' := kX4_attach) (d' := 2) (h := 1) (As := [vl_iv a2, vl_iv b5]) (st := []) lk_X3_42 (fun _ => rfl) (by omega) n1 s1 rfl rfl (Nat.le_of_ble_eq_true rfl) rfl (Nat.le_of_ble_eq_true rfl) dX3_share_40 hE (fun _ h => vx_X4_attach hG (Nat.le_refl _) h) (fun m12 hE => ?_)
  refine vl_iconst dX3_share_43 ?_
  refine vl_istore0 (lv' := [(4, vl_iv 0), (3, vl_iv b5), (0, .ref 14), (1, vl_iv a1), (2, vl_iv a2)]) dX3_share_44 (by decide) rfl ?_
  refine vl_lpr (F := fun κ : Int → vl_M → Option (vl_M) => fn_X3_share_L46 w N a1 a2 κ N 0 m12) (J := fun κ => ∀ (v15 : Int) (m16 : vl_M), vl_ok P (κ v15 m16) → vl_V nc S sc kX3_share d Post 146 [] [] m16 ρ) ?_ hE (fun κ hκL4614 hE => ?_)
  · intro v15 m16 hE
    exact vl_ret (r := 0) rfl dX3_share_146 hE (hP' m16)
  have hL46_ : ∀ (n : Nat) (v13 : Int) (m14 : vl_M), vl_ok P (fn_X3_share_L46 w N a1 a2 κ n v13 m14) → vl_V nc S sc kX3_share d Post 46 [(0, .ref 14), (1, vl_iv a1), (2, vl_iv a2), (4, vl_iv v13)] [] m14 ρ := by
    intro n
    induction n with
    | zero => intro v13 m14 hE; exact vl_no hE
    | succ n ih46_ =>
      intro v13 m14 hE
      rw [fn_X3_share_L46] at hE
      refine vl_iload 3 rfl dX3_share_46 ?_
      refine vl_aload_n 0 rfl dX3_share_48 ?_
      refine vl_getR (h := 14) (k0 := 1) (h2 := 15) iu_X3 n14 s14 rfl (by decide) fk_X3_21 rfl dX3_share_49 ?_
      refine vl_alen (h := 15) (n := w) (ni := (w : Int)) n15 s15 rfl dX3_share_52 ?_
      obtain ⟨g17, hE⟩ := vl_ok_gd hE
      obtain ⟨g18, hE⟩ := vl_ok_gd hE
      refine vl_icmp_ge (tgt := 146) dX3_share_53 (by decide) g17 g18 hE (fun c44 hE => ?_) (fun c44 hE => ?_)
      · exact vl_wk [] rfl (hκL4614 v13 m14 hE)
      · refine vl_aload_n 0 rfl dX3_share_56 ?_
        refine vl_getIc (h := 14) (k0 := 2) (ki := 2) iu_X3 n14 (by decide) s14 rfl (by decide) fk_X3_46 rfl rfl dX3_share_57 ?_
        obtain ⟨g19, hE⟩ := vl_ok_gd hE
        refine vl_if_le (tgt := 146) dX3_share_60 (by decide) g19  hE (fun c43 hE => ?_) (fun c43 hE => ?_)
        · exact vl_wk [] rfl (hκL4614 v13 m14 hE)
        · refine vl_aload_n 0 rfl dX3_share_63 ?_
          refine vl_iload_n 1 rfl dX3_share_64 ?_
          refine vl_VpI (K' := kX3_needsAll) (d' := 0) (h := 14) (As := [vl_iv a1]) (st := []) lk_X3_49 (fun _ => rfl) (by omega) n14 s14 rfl rfl (Nat.le_of_ble_eq_true rfl) rfl (Nat.le_of_ble_eq_true rfl) dX3_share_65 hE (fun _ h => vx_X3_needsAll hG (Nat.le_refl _) h) (fun b20 hE => ?_)
          obtain ⟨g21, hE⟩ := vl_ok_gd hE
          refine vl_jnr (J := fun κ : vl_M → Option (vl_M) => ∀ (m22 : vl_M), vl_ok P (κ m22) → vl_V nc S sc kX3_share d Post 140 [(0, .ref 14), (1, vl_iv a1), (2, vl_iv a2), (4, vl_iv v13)] [] m22 ρ) ?_ hE (fun κ23 hκ23 hE => ?_)
          · intro m22 hE
            refine vl_iinc 3 (fun v24 => [(4, vl_iv v24), (0, .ref 14), (1, vl_iv a1), (2, vl_iv a2)]) dX3_share_140 rfl (by decide) (fun _ => rfl) hE (fun v24 hE => ?_)
            refine vl_goto (tgt := 46) dX3_share_143 (by decide) ?_
            exact vl_wk [1, 2, 3, 0] rfl (ih46_ v24 m22 hE)
          refine vl_if_eq (tgt := 87) dX3_share_68 (by decide) g21  hE (fun c42 hE => ?_) (fun c42 hE => ?_)
          · refine vl_aload_n 0 rfl dX3_share_87 ?_
            refine vl_iload_n 2 rfl dX3_share_88 ?_
            refine vl_VpI (K' := kX3_needsAll) (d' := 0) (h := 14) (As := [vl_iv a2]) (st := []) lk_X3_49 (fun _ => rfl) (by omega) n14 s14 rfl rfl (Nat.le_of_ble_eq_true rfl) rfl (Nat.le_of_ble_eq_true rfl) dX3_share_89 hE (fun _ h => vx_X3_needsAll hG (Nat.le_refl _) h) (fun b25 hE => ?_)
            obtain ⟨g26, hE⟩ := vl_ok_gd hE
            refine vl_if_eq (tgt := 111) dX3_share_92 (by decide) g26  hE (fun c37 hE => ?_) (fun c37 hE => ?_)
            · refine vl_aload_n 0 rfl dX3_share_111 ?_
              refine vl_aload_n 0 rfl dX3_share_112 ?_
              refine vl_iload_n 1 rfl dX3_share_113 ?_
              refine vl_iload_n 2 rfl dX3_share_114 ?_
              refine vl_VpI (K' := kX3_mostDecided) (d' := 2) (h := 14) (As := [vl_iv a1, vl_iv a2]) (st := [.ref 14]) lk_X3_53 (fun _ => rfl) (by omega) n14 s14 rfl rfl (Nat.le_of_ble_eq_true rfl) rfl (Nat.le_of_ble_eq_true rfl) dX3_share_115 hE (fun _ h => vx_X3_mostDecided hG (Nat.le_refl _) h) (fun b27 hE => ?_)
              refine vl_VcWI (K' := kX3_takeLeft) (d' := 0) (h := 14) (As := [vl_iv b27]) (st := []) lk_X3_35 (fun _ => rfl) (by omega) n14 s14 rfl rfl (Nat.le_of_ble_eq_true rfl) rfl (Nat.le_of_ble_eq_true rfl) dX3_share_118 hE (fun _ h => vx_X3_takeLeft hG (Nat.le_refl _) h) (fun b28 m29 hE => ?_)
              refine vl_istore0 (lv' := [(5, vl_iv b28), (0, .ref 14), (1, vl_iv a1), (2, vl_iv a2), (4, vl_iv v13)]) dX3_share_121 (by decide) rfl ?_
              refine vl_aload_n 1 rfl dX3_share_123 ?_
              refine vl_getR (h := 14) (k0 := 0) (h2 := 1) iu_X3 n14 s14 rfl (by decide) fk_X3_9 rfl dX3_share_124 ?_
              refine vl_aload_n 1 rfl dX3_share_127 ?_
              refine vl_iload 0 rfl dX3_share_128 ?_
              refine vl_iload_n 2 rfl dX3_share_130 ?_
              refine vl_iload_n 3 rfl dX3_share_131 ?_
              refine vl_VpI (K' := kX3_fitting) (d' := 2) (h := 14) (As := [vl_iv b28, vl_iv a1, vl_iv a2]) (st := [.ref 1]) lk_X3_57 (fun _ => rfl) (by omega) n14 s14 rfl rfl (Nat.le_of_ble_eq_true rfl) rfl (Nat.le_of_ble_eq_true rfl) dX3_share_132 hE (fun _ h => vx_X3_fitting hG (Nat.le_refl _) h) (fun b30 hE => ?_)
              refine vl_iload 0 rfl dX3_share_135 ?_
              refine vl_VcWV (K' := kX4_attach) (d' := 2) (h := 1) (As := [vl_iv b30, vl_iv b28]) (st := []) lk_X3_42 (fun _ => rfl) (by omega) n1 s1 rfl rfl (Nat.le_of_ble_eq_true rfl) rfl (Nat.le_of_ble_eq_true rfl) dX3_share_137 hE (fun _ h => vx_X4_attach hG (Nat.le_refl _) h) (fun m32 hE => ?_)
              exact vl_wk [1, 2, 3, 4] rfl (hκ23 m32 hE)
            · refine vl_aload_n 0 rfl dX3_share_95 ?_
              refine vl_getR (h := 14) (k0 := 0) (h2 := 1) iu_X3 n14 s14 rfl (by decide) fk_X3_9 rfl dX3_share_96 ?_
              refine vl_iload_n 2 rfl dX3_share_99 ?_
              refine vl_aload_n 0 rfl dX3_share_100 ?_
              refine vl_iconst dX3_share_101 ?_
              refine vl_VcWI (K' := kX3_takeLeft) (d' := 0) (h := 14) (As := [vl_iv 0]) (st := [vl_iv a2, .ref 1]) lk_X3_35 (fun _ => rfl) (by omega) n14 s14 rfl rfl (Nat.le_of_ble_eq_true rfl) rfl (Nat.le_of_ble_eq_true rfl) dX3_share_102 hE (fun _ h => vx_X3_takeLeft hG (Nat.le_refl _) h) (fun b33 m34 hE => ?_)
              refine vl_VcWV (K' := kX4_attach) (d' := 2) (h := 1) (As := [vl_iv a2, vl_iv b33]) (st := []) lk_X3_42 (fun _ => rfl) (by omega) n1 s1 rfl rfl (Nat.le_of_ble_eq_true rfl) rfl (Nat.le_of_ble_eq_true rfl) dX3_share_105 hE (fun _ h => vx_X4_attach hG (Nat.le_refl _) h) (fun m36 hE => ?_)
              refine vl_goto (tgt := 140) dX3_share_108 (by decide) ?_
              exact (hκ23 m36 hE)
          · refine vl_aload_n 0 rfl dX3_share_71 ?_
            refine vl_getR (h := 14) (k0 := 0) (h2 := 1) iu_X3 n14 s14 rfl (by decide) fk_X3_9 rfl dX3_share_72 ?_
            refine vl_iload_n 1 rfl dX3_share_75 ?_
            refine vl_aload_n 0 rfl dX3_share_76 ?_
            refine vl_iconst dX3_share_77 ?_
            refine vl_VcWI (K' := kX3_takeLeft) (d' := 0) (h := 14) (As := [vl_iv 0]) (st := [vl_iv a1, .ref 1]) lk_X3_35 (fun _ => rfl) (by omega) n14 s14 rfl rfl (Nat.le_of_ble_eq_true rfl) rfl (Nat.le_of_ble_eq_true rfl) dX3_share_78 hE (fun _ h => vx_X3_takeLeft hG (Nat.le_refl _) h) (fun b38 m39 hE => ?_)
            refine vl_VcWV (K' := kX4_attach) (d' := 2) (h := 1) (As := [vl_iv a1, vl_iv b38]) (st := []) lk_X3_42 (fun _ => rfl) (by omega) n1 s1 rfl rfl (Nat.le_of_ble_eq_true rfl) rfl (Nat.le_of_ble_eq_true rfl) dX3_share_81 hE (fun _ h => vx_X4_attach hG (Nat.le_refl _) h) (fun m41 hE => ?_)
            refine vl_goto (tgt := 140) dX3_share_84 (by decide) ?_
            exact (hκ23 m41 hE)
  exact vl_wk [2, 3, 4, 0] rfl (hL46_ N 0 m12 hE)
set_option maxRecDepth 100000 in
set_option maxHeartbeats 4000000 in
theorem vx_X5_dissolve {nc : Nat} {S : vl_Sh} {sc : Nat × (Nat → Int32)} {w : Nat} (hG : vl_G1 nc S w) {N : Nat} {d : Nat} (hd : 3 ≤ d) {Post : Int → vl_M → vl_M → Prop} {m ρ : vl_M} {a1 : Int} (hE : vl_ok (fun b : vl_M => Post 0 b ρ) (fn_X5_dissolve w N m a1)) : vl_V nc S sc kX5_dissolve d Post 0 [(0, .ref 11), (1, vl_iv a1)] [] m ρ := by
  generalize hP : (fun b : vl_M => Post 0 b ρ) = P at hE
  have hP' : ∀ b : vl_M, P b → Post 0 b ρ := fun b h => by rw [← hP] at h; exact h
  clear hP
  have s1 : S 1 = .inr (4, [0, 0, 5, 6, 7, 8, 9, 10, 11, 12, 0, 13, 0, 0, 0, 0, 0]) := hG.2.1 1 (by decide) (by decide)
  have n1 : 1 < nc := Nat.lt_of_lt_of_le (by decide) hG.1
  have s9 : S 9 = .inl 807 := hG.2.1 9 (by decide) (by decide)
  have n9 : 9 < nc := Nat.lt_of_lt_of_le (by decide) hG.1
  have s11 : S 11 = .inr (5, [4, 17, 15, 0, 16, 0, 0, 0, 0, 0]) := hG.2.1 11 (by decide) (by decide)
  have n11 : 11 < nc := Nat.lt_of_lt_of_le (by decide) hG.1
  have s12 : S 12 = .inl 160 := hG.2.1 12 (by decide) (by decide)
  have n12 : 12 < nc := Nat.lt_of_lt_of_le (by decide) hG.1
  unfold fn_X5_dissolve at hE
  refine vl_aload_n 0 rfl dX5_dissolve_0 ?_
  refine vl_getR (h := 11) (k0 := 0) (h2 := 1) iu_X5 n11 s11 rfl (by decide) fk_X5_18 rfl dX5_dissolve_1 ?_
  refine vl_iload_n 1 rfl dX5_dissolve_4 ?_
  refine vl_VcWV (K' := kX4_detach) (d' := 2) (h := 1) (As := [vl_iv a1]) (st := []) lk_X5_112 (fun _ => rfl) (by omega) n1 s1 rfl rfl (Nat.le_of_ble_eq_true rfl) rfl (Nat.le_of_ble_eq_true rfl) dX5_dissolve_5 hE (fun _ h => vx_X4_detach hG (Nat.le_refl _) h) (fun m2 hE => ?_)
  refine vl_iconst dX5_dissolve_8 ?_
  refine vl_istore_n0 rfl (lv' := [(2, vl_iv 0), (0, .ref 11), (1, vl_iv a1)]) dX5_dissolve_9 (by decide) rfl ?_
  refine vl_lpr (F := fun κ : Int → vl_M → Option (vl_M) => fn_X5_dissolve_L10 w N a1 κ N 0 m2) (J := fun κ => ∀ (v5 : Int) (m6 : vl_M), vl_ok P (κ v5 m6) → vl_V nc S sc kX5_dissolve d Post 76 [(0, .ref 11), (1, vl_iv a1)] [] m6 ρ) ?_ hE (fun κ hκL104 hE => ?_)
  · intro v5 m6 hE
    refine vl_aload_n 0 rfl dX5_dissolve_76 ?_
    refine vl_getR (h := 11) (k0 := 0) (h2 := 1) iu_X5 n11 s11 rfl (by decide) fk_X5_18 rfl dX5_dissolve_77 ?_
    refine vl_iload_n 1 rfl dX5_dissolve_80 ?_
    refine vl_VcWV (K' := kX4_freeNode) (d' := 0) (h := 1) (As := [vl_iv a1]) (st := []) lk_X5_142 (fun _ => rfl) (by omega) n1 s1 rfl rfl (Nat.le_of_ble_eq_true rfl) rfl (Nat.le_of_ble_eq_true rfl) dX5_dissolve_81 hE (fun _ h => vx_X4_freeNode hG (Nat.le_refl _) h) (fun m8 hE => ?_)
    refine vl_aload_n 0 rfl dX5_dissolve_84 ?_
    refine vl_dup rfl dX5_dissolve_85 ?_
    refine vl_getIc (h := 11) (k0 := 8) (ki := 8) iu_X5 n11 (by decide) s11 rfl (by decide) fk_X5_145 rfl rfl dX5_dissolve_86 ?_
    refine vl_iconst dX5_dissolve_89 ?_
    refine vl_iadd dX5_dissolve_90 ?_
    refine vl_putIc (h := 11) (k0 := 8) (ki := 8) iu_X5 tyX5_ok nmX5 n11 (by decide) s11 rfl (by decide) fk_X5_145 rfl rfl rfl (vl_nI _) dX5_dissolve_91 hE (fun m9 hE => ?_)
    exact vl_ret (r := 0) rfl dX5_dissolve_94 hE (hP' m9)
  have hL10_ : ∀ (n : Nat) (v3 : Int) (m4 : vl_M), vl_ok P (fn_X5_dissolve_L10 w N a1 κ n v3 m4) → vl_V nc S sc kX5_dissolve d Post 10 [(0, .ref 11), (1, vl_iv a1), (2, vl_iv v3)] [] m4 ρ := by
    intro n
    induction n with
    | zero => intro v3 m4 hE; exact vl_no hE
    | succ n ih10_ =>
      intro v3 m4 hE
      rw [fn_X5_dissolve_L10] at hE
      refine vl_iload_n 2 rfl dX5_dissolve_10 ?_
      refine vl_aload_n 0 rfl dX5_dissolve_11 ?_
      refine vl_getR (h := 11) (k0 := 0) (h2 := 1) iu_X5 n11 s11 rfl (by decide) fk_X5_18 rfl dX5_dissolve_12 ?_
      refine vl_getR (h := 1) (k0 := 9) (h2 := 9) iu_X4 n1 s1 rfl (by decide) fk_X5_63 rfl dX5_dissolve_15 ?_
      refine vl_iload_n 1 rfl dX5_dissolve_18 ?_
      refine vl_aldc (h := 9) (n := 807) (ni := 807) n9 (by decide) s9 (by decide) rfl dX5_dissolve_19 hE (fun g10 g11 hE => ?_)
      obtain ⟨g12, hE⟩ := vl_ok_gd hE
      obtain ⟨g13, hE⟩ := vl_ok_gd hE
      refine vl_icmp_ge (tgt := 76) dX5_dissolve_20 (by decide) g12 g13 hE (fun c23 hE => ?_) (fun c23 hE => ?_)
      · exact vl_wk [0, 1] rfl (hκL104 v3 m4 hE)
      · refine vl_aload_n 0 rfl dX5_dissolve_23 ?_
        refine vl_getIc (h := 11) (k0 := 3) (ki := 3) iu_X5 n11 (by decide) s11 rfl (by decide) fk_X5_118 rfl rfl dX5_dissolve_24 ?_
        refine vl_aload_n 0 rfl dX5_dissolve_27 ?_
        refine vl_getR (h := 11) (k0 := 2) (h2 := 12) iu_X5 n11 s11 rfl (by decide) fk_X5_9 rfl dX5_dissolve_28 ?_
        refine vl_alen (h := 12) (n := 160) (ni := 160) n12 s12 rfl dX5_dissolve_31 ?_
        obtain ⟨g14, hE⟩ := vl_ok_gd hE
        refine vl_icmp_ge (tgt := 76) dX5_dissolve_32 (by decide) g14 (by decide) hE (fun c22 hE => ?_) (fun c22 hE => ?_)
        · exact vl_wk [0, 1] rfl (hκL104 v3 m4 hE)
        · refine vl_aload_n 0 rfl dX5_dissolve_35 ?_
          refine vl_getR (h := 11) (k0 := 2) (h2 := 12) iu_X5 n11 s11 rfl (by decide) fk_X5_9 rfl dX5_dissolve_36 ?_
          refine vl_aload_n 0 rfl dX5_dissolve_39 ?_
          refine vl_dup rfl dX5_dissolve_40 ?_
          refine vl_getIc (h := 11) (k0 := 3) (ki := 3) iu_X5 n11 (by decide) s11 rfl (by decide) fk_X5_118 rfl rfl dX5_dissolve_41 ?_
          refine vl_dup_x1 rfl rfl dX5_dissolve_44 ?_
          refine vl_iconst dX5_dissolve_45 ?_
          refine vl_iadd dX5_dissolve_46 ?_
          refine vl_putIc (h := 11) (k0 := 3) (ki := 3) iu_X5 tyX5_ok nmX5 n11 (by decide) s11 rfl (by decide) fk_X5_118 rfl rfl rfl (vl_nI _) dX5_dissolve_47 hE (fun m15 hE => ?_)
          refine vl_aload_n 0 rfl dX5_dissolve_50 ?_
          refine vl_getR (h := 11) (k0 := 0) (h2 := 1) iu_X5 n11 s11 rfl (by decide) fk_X5_18 rfl dX5_dissolve_51 ?_
          refine vl_iload_n 1 rfl dX5_dissolve_54 ?_
          refine vl_iload_n 2 rfl dX5_dissolve_55 ?_
          refine vl_VpI (K' := kX4_thingAt) (d' := 0) (h := 1) (As := [vl_iv a1, vl_iv v3]) (st := [vl_iv (m4 11 3), .ref 12]) lk_X5_66 (fun _ => rfl) (by omega) n1 s1 rfl rfl (Nat.le_of_ble_eq_true rfl) rfl (Nat.le_of_ble_eq_true rfl) dX5_dissolve_56 hE (fun _ h => vx_X4_thingAt hG (Nat.le_refl _) h) (fun b16 hE => ?_)
          refine vl_astc (h := 12) (n := 160) (ni := 160) n12 (by decide) s12 (by decide) rfl dX5_dissolve_59 hE (fun g18 g19 m17 hE => ?_)
          refine vl_aload_n 0 rfl dX5_dissolve_60 ?_
          refine vl_dup rfl dX5_dissolve_61 ?_
          refine vl_getIc (h := 11) (k0 := 9) (ki := 9) iu_X5 n11 (by decide) s11 rfl (by decide) fk_X5_139 rfl rfl dX5_dissolve_62 ?_
          refine vl_iconst dX5_dissolve_65 ?_
          refine vl_iadd dX5_dissolve_66 ?_
          refine vl_putIc (h := 11) (k0 := 9) (ki := 9) iu_X5 tyX5_ok nmX5 n11 (by decide) s11 rfl (by decide) fk_X5_139 rfl rfl rfl (vl_nI _) dX5_dissolve_67 hE (fun m20 hE => ?_)
          refine vl_iinc 2 (fun v21 => [(2, vl_iv v21), (0, .ref 11), (1, vl_iv a1)]) dX5_dissolve_70 rfl (by decide) (fun _ => rfl) hE (fun v21 hE => ?_)
          refine vl_goto (tgt := 10) dX5_dissolve_73 (by decide) ?_
          exact vl_wk [1, 2, 0] rfl (ih10_ v21 m20 hE)
  exact vl_wk [1, 2, 0] rfl (hL10_ N 0 m2 hE)
set_option maxRecDepth 100000 in
set_option maxHeartbeats 4000000 in
theorem vx_X5_raiseRoot {nc : Nat} {S : vl_Sh} {sc : Nat × (Nat → Int32)} {w : Nat} (hG : vl_G1 nc S w) {N : Nat} {d : Nat} (hd : 3 ≤ d) {Post : Int → vl_M → vl_M → Prop} {m ρ : vl_M} {a1 : Int} (hE : vl_ok (fun b : vl_M => Post 0 b ρ) (fn_X5_raiseRoot w N m a1)) : vl_V nc S sc kX5_raiseRoot d Post 0 [(0, .ref 11), (1, vl_iv a1)] [] m ρ := by
  generalize hP : (fun b : vl_M => Post 0 b ρ) = P at hE
  have hP' : ∀ b : vl_M, P b → Post 0 b ρ := fun b h => by rw [← hP] at h; exact h
  clear hP
  have s1 : S 1 = .inr (4, [0, 0, 5, 6, 7, 8, 9, 10, 11, 12, 0, 13, 0, 0, 0, 0, 0]) := hG.2.1 1 (by decide) (by decide)
  have n1 : 1 < nc := Nat.lt_of_lt_of_le (by decide) hG.1
  have s2 : S 2 = .inl 807 := hG.2.1 2 (by decide) (by decide)
  have n2 : 2 < nc := Nat.lt_of_lt_of_le (by decide) hG.1
  have s11 : S 11 = .inr (5, [4, 17, 15, 0, 16, 0, 0, 0, 0, 0]) := hG.2.1 11 (by decide) (by decide)
  have n11 : 11 < nc := Nat.lt_of_lt_of_le (by decide) hG.1
  unfold fn_X5_raiseRoot at hE
  refine vl_aload_n 0 rfl dX5_raiseRoot_0 ?_
  refine vl_getR (h := 11) (k0 := 0) (h2 := 1) iu_X5 n11 s11 rfl (by decide) fk_X5_18 rfl dX5_raiseRoot_1 ?_
  refine vl_aload_n 0 rfl dX5_raiseRoot_4 ?_
  refine vl_getR (h := 11) (k0 := 0) (h2 := 1) iu_X5 n11 s11 rfl (by decide) fk_X5_18 rfl dX5_raiseRoot_5 ?_
  refine vl_getR (h := 1) (k0 := 2) (h2 := 2) iu_X4 n1 s1 rfl (by decide) fk_X5_60 rfl dX5_raiseRoot_8 ?_
  refine vl_aload_n 0 rfl dX5_raiseRoot_11 ?_
  refine vl_getIc (h := 11) (k0 := 6) (ki := 6) iu_X5 n11 (by decide) s11 rfl (by decide) fk_X5_43 rfl rfl dX5_raiseRoot_12 ?_
  refine vl_aldc (h := 2) (n := 807) (ni := 807) n2 (by decide) s2 (by decide) rfl dX5_raiseRoot_15 hE (fun g1 g2 hE => ?_)
  refine vl_iconst dX5_raiseRoot_16 ?_
  refine vl_iadd dX5_raiseRoot_17 ?_
  refine vl_VcWI (K' := kX4_newNode) (d' := 0) (h := 1) (As := [vl_iv ((m 2 (m 11 6)) + 1)]) (st := []) lk_X5_39 (fun _ => rfl) (by omega) n1 s1 rfl rfl (Nat.le_of_ble_eq_true rfl) rfl (Nat.le_of_ble_eq_true rfl) dX5_raiseRoot_18 hE (fun _ h => vx_X4_newNode hG (Nat.le_refl _) h) (fun b3 m4 hE => ?_)
  refine vl_istore_n0 rfl (lv' := [(2, vl_iv b3), (0, .ref 11), (1, vl_iv a1)]) dX5_raiseRoot_21 (by decide) rfl ?_
  refine vl_aload_n 1 rfl dX5_raiseRoot_22 ?_
  refine vl_getR (h := 11) (k0 := 0) (h2 := 1) iu_X5 n11 s11 rfl (by decide) fk_X5_18 rfl dX5_raiseRoot_23 ?_
  refine vl_iload_n 0 rfl dX5_raiseRoot_26 ?_
  refine vl_aload_n 1 rfl dX5_raiseRoot_27 ?_
  refine vl_getIc (h := 11) (k0 := 6) (ki := 6) iu_X5 n11 (by decide) s11 rfl (by decide) fk_X5_43 rfl rfl dX5_raiseRoot_28 ?_
  refine vl_VcWV (K' := kX4_attach) (d' := 2) (h := 1) (As := [vl_iv b3, vl_iv (m4 11 6)]) (st := []) lk_X5_76 (fun _ => rfl) (by omega) n1 s1 rfl rfl (Nat.le_of_ble_eq_true rfl) rfl (Nat.le_of_ble_eq_true rfl) dX5_raiseRoot_31 hE (fun _ h => vx_X4_attach hG (Nat.le_refl _) h) (fun m6 hE => ?_)
  refine vl_aload_n 1 rfl dX5_raiseRoot_34 ?_
  refine vl_getR (h := 11) (k0 := 0) (h2 := 1) iu_X5 n11 s11 rfl (by decide) fk_X5_18 rfl dX5_raiseRoot_35 ?_
  refine vl_iload_n 0 rfl dX5_raiseRoot_38 ?_
  refine vl_iload_n 2 rfl dX5_raiseRoot_39 ?_
  refine vl_VcWV (K' := kX4_attach) (d' := 2) (h := 1) (As := [vl_iv b3, vl_iv a1]) (st := []) lk_X5_76 (fun _ => rfl) (by omega) n1 s1 rfl rfl (Nat.le_of_ble_eq_true rfl) rfl (Nat.le_of_ble_eq_true rfl) dX5_raiseRoot_40 hE (fun _ h => vx_X4_attach hG (Nat.le_refl _) h) (fun m8 hE => ?_)
  refine vl_aload_n 1 rfl dX5_raiseRoot_43 ?_
  refine vl_iload_n 0 rfl dX5_raiseRoot_44 ?_
  refine vl_putIc (h := 11) (k0 := 6) (ki := 6) iu_X5 tyX5_ok nmX5 n11 (by decide) s11 rfl (by decide) fk_X5_43 rfl rfl rfl (vl_nI _) dX5_raiseRoot_45 hE (fun m9 hE => ?_)
  exact vl_ret (r := 0) rfl dX5_raiseRoot_48 hE (hP' m9)
set_option maxRecDepth 100000 in
set_option maxHeartbeats 4000000 in
theorem vx_X5_splitUpwards {nc : Nat} {S : vl_Sh} {sc : Nat × (Nat → Int32)} {w : Nat} (hG : vl_G1 nc S w) {N : Nat} {d : Nat} (hd : 4 ≤ d) {Post : Int → vl_M → vl_M → Prop} {m ρ : vl_M} {a1 : Int} (hE : vl_ok (fun b : vl_M => Post 0 b ρ) (fn_X5_splitUpwards w N m a1)) : vl_V nc S sc kX5_splitUpwards d Post 0 [(0, .ref 11), (1, vl_iv a1)] [] m ρ := by
  generalize hP : (fun b : vl_M => Post 0 b ρ) = P at hE
  have hP' : ∀ b : vl_M, P b → Post 0 b ρ := fun b h => by rw [← hP] at h; exact h
  clear hP
  have s1 : S 1 = .inr (4, [0, 0, 5, 6, 7, 8, 9, 10, 11, 12, 0, 13, 0, 0, 0, 0, 0]) := hG.2.1 1 (by decide) (by decide)
  have n1 : 1 < nc := Nat.lt_of_lt_of_le (by decide) hG.1
  have s2 : S 2 = .inl 807 := hG.2.1 2 (by decide) (by decide)
  have n2 : 2 < nc := Nat.lt_of_lt_of_le (by decide) hG.1
  have s8 : S 8 = .inl 807 := hG.2.1 8 (by decide) (by decide)
  have n8 : 8 < nc := Nat.lt_of_lt_of_le (by decide) hG.1
  have s9 : S 9 = .inl 807 := hG.2.1 9 (by decide) (by decide)
  have n9 : 9 < nc := Nat.lt_of_lt_of_le (by decide) hG.1
  have s11 : S 11 = .inr (5, [4, 17, 15, 0, 16, 0, 0, 0, 0, 0]) := hG.2.1 11 (by decide) (by decide)
  have n11 : 11 < nc := Nat.lt_of_lt_of_le (by decide) hG.1
  have s14 : S 14 = .inr (3, [4, 18, 0, 0, 0]) := hG.2.1 14 (by decide) (by decide)
  have n14 : 14 < nc := Nat.lt_of_lt_of_le (by decide) hG.1
  unfold fn_X5_splitUpwards at hE
  refine vl_iload_n 1 rfl dX5_splitUpwards_0 ?_
  refine vl_istore_n0 rfl (lv' := [(2, vl_iv a1), (0, .ref 11), (1, vl_iv a1)]) dX5_splitUpwards_1 (by decide) rfl ?_
  refine vl_iconst dX5_splitUpwards_2 ?_
  refine vl_istore_n0 rfl (lv' := [(3, vl_iv 0), (2, vl_iv a1), (0, .ref 11), (1, vl_iv a1)]) dX5_splitUpwards_3 (by decide) rfl ?_
  refine vl_lpr (F := fun κ : Int → Int → vl_M → Option (vl_M) => fn_X5_splitUpwards_L4 w N  κ N a1 0 m) (J := fun κ => ∀ (v4 : Int) (v5 : Int) (m6 : vl_M), vl_ok P (κ v4 v5 m6) → vl_V nc S sc kX5_splitUpwards d Post 115 [] [] m6 ρ) ?_ hE (fun κ hκL43 hE => ?_)
  · intro v4 v5 m6 hE
    exact vl_ret (r := 0) rfl dX5_splitUpwards_115 hE (hP' m6)
  have hL4_ : ∀ (n : Nat) (v1 : Int) (v2 : Int) (m3 : vl_M), vl_ok P (fn_X5_splitUpwards_L4 w N  κ n v1 v2 m3) → vl_V nc S sc kX5_splitUpwards d Post 4 [(0, .ref 11), (2, vl_iv v1), (3, vl_iv v2)] [] m3 ρ := by
    intro n
    induction n with
    | zero => intro v1 v2 m3 hE; exact vl_no hE
    | succ n ih4_ =>
      intro v1 v2 m3 hE
      rw [fn_X5_splitUpwards_L4] at hE
      refine vl_iload_n 2 rfl dX5_splitUpwards_4 ?_
      refine vl_bipush (by decide) dX5_splitUpwards_5 ?_
      obtain ⟨g7, hE⟩ := vl_ok_gd hE
      refine vl_icmp_ge (tgt := 115) dX5_splitUpwards_7 (by decide) g7 (by decide) hE (fun c30 hE => ?_) (fun c30 hE => ?_)
      · exact vl_wk [] rfl (hκL43 v1 v2 m3 hE)
      · refine vl_iload_n 1 rfl dX5_splitUpwards_10 ?_
        refine vl_iconst dX5_splitUpwards_11 ?_
        obtain ⟨g8, hE⟩ := vl_ok_gd hE
        refine vl_icmp_eq (tgt := 115) dX5_splitUpwards_12 (by decide) g8 (by decide) hE (fun c29 hE => ?_) (fun c29 hE => ?_)
        · exact vl_wk [] rfl (hκL43 v1 v2 m3 hE)
        · refine vl_aload_n 0 rfl dX5_splitUpwards_15 ?_
          refine vl_getR (h := 11) (k0 := 0) (h2 := 1) iu_X5 n11 s11 rfl (by decide) fk_X5_18 rfl dX5_splitUpwards_16 ?_
          refine vl_getR (h := 1) (k0 := 9) (h2 := 9) iu_X4 n1 s1 rfl (by decide) fk_X5_63 rfl dX5_splitUpwards_19 ?_
          refine vl_iload_n 1 rfl dX5_splitUpwards_22 ?_
          refine vl_aldc (h := 9) (n := 807) (ni := 807) n9 (by decide) s9 (by decide) rfl dX5_splitUpwards_23 hE (fun g9 g10 hE => ?_)
          refine vl_aload_n 0 rfl dX5_splitUpwards_24 ?_
          refine vl_getR (h := 11) (k0 := 0) (h2 := 1) iu_X5 n11 s11 rfl (by decide) fk_X5_18 rfl dX5_splitUpwards_25 ?_
          refine vl_getIc (h := 1) (k0 := 0) (ki := 0) iu_X4 n1 (by decide) s1 rfl (by decide) fk_X5_94 rfl rfl dX5_splitUpwards_28 ?_
          obtain ⟨g11, hE⟩ := vl_ok_gd hE
          obtain ⟨g12, hE⟩ := vl_ok_gd hE
          refine vl_icmp_le (tgt := 115) dX5_splitUpwards_31 (by decide) g11 g12 hE (fun c28 hE => ?_) (fun c28 hE => ?_)
          · exact vl_wk [] rfl (hκL43 v1 v2 m3 hE)
          · refine vl_aload_n 0 rfl dX5_splitUpwards_34 ?_
            refine vl_getR (h := 11) (k0 := 0) (h2 := 1) iu_X5 n11 s11 rfl (by decide) fk_X5_18 rfl dX5_splitUpwards_35 ?_
            refine vl_aload_n 0 rfl dX5_splitUpwards_38 ?_
            refine vl_getR (h := 11) (k0 := 0) (h2 := 1) iu_X5 n11 s11 rfl (by decide) fk_X5_18 rfl dX5_splitUpwards_39 ?_
            refine vl_getR (h := 1) (k0 := 2) (h2 := 2) iu_X4 n1 s1 rfl (by decide) fk_X5_60 rfl dX5_splitUpwards_42 ?_
            refine vl_iload_n 1 rfl dX5_splitUpwards_45 ?_
            refine vl_aldc1 (h := 2) (n := 807) (ni := 807) n2 (by decide) s2 (by decide) rfl g9 dX5_splitUpwards_46 ?_
            refine vl_VcWI (K' := kX4_newNode) (d' := 0) (h := 1) (As := [vl_iv (m3 2 v1)]) (st := []) lk_X5_39 (fun _ => rfl) (by omega) n1 s1 rfl rfl (Nat.le_of_ble_eq_true rfl) rfl (Nat.le_of_ble_eq_true rfl) dX5_splitUpwards_47 hE (fun _ h => vx_X4_newNode hG (Nat.le_refl _) h) (fun b13 m14 hE => ?_)
            refine vl_istore0 (lv' := [(4, vl_iv b13), (0, .ref 11), (2, vl_iv v1), (3, vl_iv v2)]) dX5_splitUpwards_50 (by decide) rfl ?_
            refine vl_aload_n 1 rfl dX5_splitUpwards_52 ?_
            refine vl_dup rfl dX5_splitUpwards_53 ?_
            refine vl_getIc (h := 11) (k0 := 7) (ki := 7) iu_X5 n11 (by decide) s11 rfl (by decide) fk_X5_97 rfl rfl dX5_splitUpwards_54 ?_
            refine vl_iconst dX5_splitUpwards_57 ?_
            refine vl_iadd dX5_splitUpwards_58 ?_
            refine vl_putIc (h := 11) (k0 := 7) (ki := 7) iu_X5 tyX5_ok nmX5 n11 (by decide) s11 rfl (by decide) fk_X5_97 rfl rfl rfl (vl_nI _) dX5_splitUpwards_59 hE (fun m15 hE => ?_)
            refine vl_aload_n 1 rfl dX5_splitUpwards_62 ?_
            refine vl_getR (h := 11) (k0 := 1) (h2 := 14) iu_X5 n11 s11 rfl (by decide) fk_X5_27 rfl dX5_splitUpwards_63 ?_
            refine vl_iload_n 2 rfl dX5_splitUpwards_66 ?_
            refine vl_iload 0 rfl dX5_splitUpwards_67 ?_
            refine vl_VcWV (K' := kX3_share) (d' := 3) (h := 14) (As := [vl_iv v1, vl_iv b13]) (st := []) lk_X5_100 (fun _ => rfl) (by omega) n14 s14 rfl rfl (Nat.le_of_ble_eq_true rfl) rfl (Nat.le_of_ble_eq_true rfl) dX5_splitUpwards_69 hE (fun _ h => vx_X3_share hG (Nat.le_refl _) h) (fun m17 hE => ?_)
            refine vl_iload_n 2 rfl dX5_splitUpwards_72 ?_
            refine vl_aload_n 1 rfl dX5_splitUpwards_73 ?_
            refine vl_getIc (h := 11) (k0 := 6) (ki := 6) iu_X5 n11 (by decide) s11 rfl (by decide) fk_X5_43 rfl rfl dX5_splitUpwards_74 ?_
            obtain ⟨g18, hE⟩ := vl_ok_gd hE
            refine vl_jnr (J := fun κ : vl_M → Option (vl_M) => ∀ (m19 : vl_M), vl_ok P (κ m19) → vl_V nc S sc kX5_splitUpwards d Post 99 [(0, .ref 11), (2, vl_iv v1), (3, vl_iv v2)] [] m19 ρ) ?_ hE (fun κ20 hκ20 hE => ?_)
            · intro m19 hE
              refine vl_aload_n 0 rfl dX5_splitUpwards_99 ?_
              refine vl_getR (h := 11) (k0 := 0) (h2 := 1) iu_X5 n11 s11 rfl (by decide) fk_X5_18 rfl dX5_splitUpwards_100 ?_
              refine vl_getR (h := 1) (k0 := 8) (h2 := 8) iu_X4 n1 s1 rfl (by decide) fk_X5_109 rfl dX5_splitUpwards_103 ?_
              refine vl_iload_n 1 rfl dX5_splitUpwards_106 ?_
              refine vl_aldc1 (h := 8) (n := 807) (ni := 807) n8 (by decide) s8 (by decide) rfl g9 dX5_splitUpwards_107 ?_
              refine vl_istore_n rfl (fun v21 => [(2, vl_iv v21), (0, .ref 11), (3, vl_iv v2)]) dX5_splitUpwards_108 (by decide) (fun _ => rfl) hE (fun v21 hE => ?_)
              refine vl_iinc 2 (fun v22 => [(3, vl_iv v22), (2, vl_iv v21), (0, .ref 11)]) dX5_splitUpwards_109 rfl (by decide) (fun _ => rfl) hE (fun v22 hE => ?_)
              refine vl_goto (tgt := 4) dX5_splitUpwards_112 (by decide) ?_
              exact vl_wk [2, 1, 0] rfl (ih4_ v21 v22 m19 hE)
            refine vl_icmp_ne (tgt := 89) dX5_splitUpwards_77 (by decide) g8 g18 hE (fun c27 hE => ?_) (fun c27 hE => ?_)
            · refine vl_aload_n 1 rfl dX5_splitUpwards_89 ?_
              refine vl_getR (h := 11) (k0 := 0) (h2 := 1) iu_X5 n11 s11 rfl (by decide) fk_X5_18 rfl dX5_splitUpwards_90 ?_
              refine vl_iload_n 2 rfl dX5_splitUpwards_93 ?_
              refine vl_iload 0 rfl dX5_splitUpwards_94 ?_
              refine vl_VcWV (K' := kX4_attachBehind) (d' := 2) (h := 1) (As := [vl_iv v1, vl_iv b13]) (st := []) lk_X5_106 (fun _ => rfl) (by omega) n1 s1 rfl rfl (Nat.le_of_ble_eq_true rfl) rfl (Nat.le_of_ble_eq_true rfl) dX5_splitUpwards_96 hE (fun _ h => vx_X4_attachBehind hG (Nat.le_refl _) h) (fun m24 hE => ?_)
              exact vl_wk [1, 2, 3] rfl (hκ20 m24 hE)
            · refine vl_aload_n 1 rfl dX5_splitUpwards_80 ?_
              refine vl_iload 0 rfl dX5_splitUpwards_81 ?_
              refine vl_VcWV (K' := kX5_raiseRoot) (d' := 3) (h := 11) (As := [vl_iv b13]) (st := []) lk_X5_103 (fun _ => rfl) (by omega) n11 s11 rfl rfl (Nat.le_of_ble_eq_true rfl) rfl (Nat.le_of_ble_eq_true rfl) dX5_splitUpwards_83 hE (fun _ h => vx_X5_raiseRoot hG (Nat.le_refl _) h) (fun m26 hE => ?_)
              refine vl_goto (tgt := 99) dX5_splitUpwards_86 (by decide) ?_
              exact vl_wk [1, 2, 3] rfl (hκ20 m26 hE)
  exact vl_wk [2, 1, 0] rfl (hL4_ N a1 0 m hE)
set_option maxRecDepth 100000 in
set_option maxHeartbeats 4000000 in
theorem vx_X5_thinUpwards {nc : Nat} {S : vl_Sh} {sc : Nat × (Nat → Int32)} {w : Nat} (hG : vl_G1 nc S w) {N : Nat} {d : Nat} (hd : 4 ≤ d) {Post : Int → vl_M → vl_M → Prop} {m ρ : vl_M} {a1 : Int} (hE : vl_ok (fun b : vl_M => Post 0 b ρ) (fn_X5_thinUpwards w N m a1)) : vl_V nc S sc kX5_thinUpwards d Post 0 [(0, .ref 11), (1, vl_iv a1)] [] m ρ := by
  generalize hP : (fun b : vl_M => Post 0 b ρ) = P at hE
  have hP' : ∀ b : vl_M, P b → Post 0 b ρ := fun b h => by rw [← hP] at h; exact h
  clear hP
  have s1 : S 1 = .inr (4, [0, 0, 5, 6, 7, 8, 9, 10, 11, 12, 0, 13, 0, 0, 0, 0, 0]) := hG.2.1 1 (by decide) (by decide)
  have n1 : 1 < nc := Nat.lt_of_lt_of_le (by decide) hG.1
  have s8 : S 8 = .inl 807 := hG.2.1 8 (by decide) (by decide)
  have n8 : 8 < nc := Nat.lt_of_lt_of_le (by decide) hG.1
  have s9 : S 9 = .inl 807 := hG.2.1 9 (by decide) (by decide)
  have n9 : 9 < nc := Nat.lt_of_lt_of_le (by decide) hG.1
  have s11 : S 11 = .inr (5, [4, 17, 15, 0, 16, 0, 0, 0, 0, 0]) := hG.2.1 11 (by decide) (by decide)
  have n11 : 11 < nc := Nat.lt_of_lt_of_le (by decide) hG.1
  unfold fn_X5_thinUpwards at hE
  refine vl_iload_n 1 rfl dX5_thinUpwards_0 ?_
  refine vl_istore_n0 rfl (lv' := [(2, vl_iv a1), (0, .ref 11), (1, vl_iv a1)]) dX5_thinUpwards_1 (by decide) rfl ?_
  refine vl_iconst dX5_thinUpwards_2 ?_
  refine vl_istore_n0 rfl (lv' := [(3, vl_iv 0), (2, vl_iv a1), (0, .ref 11), (1, vl_iv a1)]) dX5_thinUpwards_3 (by decide) rfl ?_
  refine vl_lpr (F := fun κ : Int → Int → vl_M → Option (vl_M) => fn_X5_thinUpwards_L4 w N  κ N a1 0 m) (J := fun κ => ∀ (v4 : Int) (v5 : Int) (m6 : vl_M), vl_ok P (κ v4 v5 m6) → vl_V nc S sc kX5_thinUpwards d Post 77 [] [] m6 ρ) ?_ hE (fun κ hκL43 hE => ?_)
  · intro v4 v5 m6 hE
    exact vl_ret (r := 0) rfl dX5_thinUpwards_77 hE (hP' m6)
  have hL4_ : ∀ (n : Nat) (v1 : Int) (v2 : Int) (m3 : vl_M), vl_ok P (fn_X5_thinUpwards_L4 w N  κ n v1 v2 m3) → vl_V nc S sc kX5_thinUpwards d Post 4 [(0, .ref 11), (2, vl_iv v1), (3, vl_iv v2)] [] m3 ρ := by
    intro n
    induction n with
    | zero => intro v1 v2 m3 hE; exact vl_no hE
    | succ n ih4_ =>
      intro v1 v2 m3 hE
      rw [fn_X5_thinUpwards_L4] at hE
      refine vl_iload_n 2 rfl dX5_thinUpwards_4 ?_
      refine vl_bipush (by decide) dX5_thinUpwards_5 ?_
      obtain ⟨g7, hE⟩ := vl_ok_gd hE
      refine vl_icmp_ge (tgt := 77) dX5_thinUpwards_7 (by decide) g7 (by decide) hE (fun c27 hE => ?_) (fun c27 hE => ?_)
      · exact vl_wk [] rfl (hκL43 v1 v2 m3 hE)
      · refine vl_iload_n 1 rfl dX5_thinUpwards_10 ?_
        refine vl_iconst dX5_thinUpwards_11 ?_
        obtain ⟨g8, hE⟩ := vl_ok_gd hE
        refine vl_icmp_eq (tgt := 77) dX5_thinUpwards_12 (by decide) g8 (by decide) hE (fun c26 hE => ?_) (fun c26 hE => ?_)
        · exact vl_wk [] rfl (hκL43 v1 v2 m3 hE)
        · refine vl_aload_n 0 rfl dX5_thinUpwards_15 ?_
          refine vl_getR (h := 11) (k0 := 0) (h2 := 1) iu_X5 n11 s11 rfl (by decide) fk_X5_18 rfl dX5_thinUpwards_16 ?_
          refine vl_getR (h := 1) (k0 := 8) (h2 := 8) iu_X4 n1 s1 rfl (by decide) fk_X5_109 rfl dX5_thinUpwards_19 ?_
          refine vl_iload_n 1 rfl dX5_thinUpwards_22 ?_
          refine vl_aldc (h := 8) (n := 807) (ni := 807) n8 (by decide) s8 (by decide) rfl dX5_thinUpwards_23 hE (fun g9 g10 hE => ?_)
          refine vl_istore (fun v11 => [(4, vl_iv v11), (0, .ref 11), (2, vl_iv v1), (3, vl_iv v2)]) dX5_thinUpwards_24 (by decide) (fun _ => rfl) hE (fun v11 hE => ?_)
          refine vl_iload 0 rfl dX5_thinUpwards_26 ?_
          refine vl_iconst dX5_thinUpwards_28 ?_
          obtain ⟨g12, hE⟩ := vl_ok_gd hE
          refine vl_jnr (J := fun κ : vl_M → Option (vl_M) => ∀ (m13 : vl_M), vl_ok P (κ m13) → vl_V nc S sc kX5_thinUpwards d Post 68 [(0, .ref 11), (3, vl_iv v2), (4, vl_iv v11)] [] m13 ρ) ?_ hE (fun κ14 hκ14 hE => ?_)
          · intro m13 hE
            refine vl_iload 2 rfl dX5_thinUpwards_68 ?_
            refine vl_istore_n0 rfl (lv' := [(2, vl_iv v11), (0, .ref 11), (3, vl_iv v2), (4, vl_iv v11)]) dX5_thinUpwards_70 (by decide) rfl ?_
            refine vl_iinc 2 (fun v15 => [(3, vl_iv v15), (2, vl_iv v11), (0, .ref 11), (4, vl_iv v11)]) dX5_thinUpwards_71 rfl (by decide) (fun _ => rfl) hE (fun v15 hE => ?_)
            refine vl_goto (tgt := 4) dX5_thinUpwards_74 (by decide) ?_
            exact vl_wk [2, 1, 0] rfl (ih4_ v11 v15 m13 hE)
          refine vl_icmp_eq (tgt := 59) dX5_thinUpwards_29 (by decide) g12 (by decide) hE (fun c25 hE => ?_) (fun c25 hE => ?_)
          · refine vl_aload_n 1 rfl dX5_thinUpwards_59 ?_
            refine vl_getR (h := 11) (k0 := 0) (h2 := 1) iu_X5 n11 s11 rfl (by decide) fk_X5_18 rfl dX5_thinUpwards_60 ?_
            refine vl_iload_n 2 rfl dX5_thinUpwards_63 ?_
            refine vl_iload_n 2 rfl dX5_thinUpwards_64 ?_
            refine vl_VcWV (K' := kX4_fitAround) (d' := 2) (h := 1) (As := [vl_iv v1, vl_iv v1]) (st := []) lk_X5_136 (fun _ => rfl) (by omega) n1 s1 rfl rfl (Nat.le_of_ble_eq_true rfl) rfl (Nat.le_of_ble_eq_true rfl) dX5_thinUpwards_65 hE (fun _ h => vx_X4_fitAround hG (Nat.le_refl _) h) (fun m17 hE => ?_)
            exact vl_wk [1, 3, 0] rfl (hκ14 m17 hE)
          · refine vl_aload_n 1 rfl dX5_thinUpwards_32 ?_
            refine vl_getR (h := 11) (k0 := 0) (h2 := 1) iu_X5 n11 s11 rfl (by decide) fk_X5_18 rfl dX5_thinUpwards_33 ?_
            refine vl_getR (h := 1) (k0 := 9) (h2 := 9) iu_X4 n1 s1 rfl (by decide) fk_X5_63 rfl dX5_thinUpwards_36 ?_
            refine vl_iload_n 2 rfl dX5_thinUpwards_39 ?_
            refine vl_aldc1 (h := 9) (n := 807) (ni := 807) n9 (by decide) s9 (by decide) rfl g9 dX5_thinUpwards_40 ?_
            refine vl_aload_n 1 rfl dX5_thinUpwards_41 ?_
            refine vl_getR (h := 11) (k0 := 0) (h2 := 1) iu_X5 n11 s11 rfl (by decide) fk_X5_18 rfl dX5_thinUpwards_42 ?_
            refine vl_getIc (h := 1) (k0 := 1) (ki := 1) iu_X4 n1 (by decide) s1 rfl (by decide) fk_X5_130 rfl rfl dX5_thinUpwards_45 ?_
            obtain ⟨g18, hE⟩ := vl_ok_gd hE
            obtain ⟨g19, hE⟩ := vl_ok_gd hE
            refine vl_icmp_ge (tgt := 59) dX5_thinUpwards_48 (by decide) g18 g19 hE (fun c24 hE => ?_) (fun c24 hE => ?_)
            · refine vl_aload_n 1 rfl dX5_thinUpwards_59 ?_
              refine vl_getR (h := 11) (k0 := 0) (h2 := 1) iu_X5 n11 s11 rfl (by decide) fk_X5_18 rfl dX5_thinUpwards_60 ?_
              refine vl_iload_n 2 rfl dX5_thinUpwards_63 ?_
              refine vl_iload_n 2 rfl dX5_thinUpwards_64 ?_
              refine vl_VcWV (K' := kX4_fitAround) (d' := 2) (h := 1) (As := [vl_iv v1, vl_iv v1]) (st := []) lk_X5_136 (fun _ => rfl) (by omega) n1 s1 rfl rfl (Nat.le_of_ble_eq_true rfl) rfl (Nat.le_of_ble_eq_true rfl) dX5_thinUpwards_65 hE (fun _ h => vx_X4_fitAround hG (Nat.le_refl _) h) (fun m21 hE => ?_)
              exact vl_wk [1, 3, 0] rfl (hκ14 m21 hE)
            · refine vl_aload_n 1 rfl dX5_thinUpwards_51 ?_
              refine vl_iload_n 2 rfl dX5_thinUpwards_52 ?_
              refine vl_VcWV (K' := kX5_dissolve) (d' := 3) (h := 11) (As := [vl_iv v1]) (st := []) lk_X5_133 (fun _ => rfl) (by omega) n11 s11 rfl rfl (Nat.le_of_ble_eq_true rfl) rfl (Nat.le_of_ble_eq_true rfl) dX5_thinUpwards_53 hE (fun _ h => vx_X5_dissolve hG (Nat.le_refl _) h) (fun m23 hE => ?_)
              refine vl_goto (tgt := 68) dX5_thinUpwards_56 (by decide) ?_
              exact vl_wk [1, 3, 0] rfl (hκ14 m23 hE)
  exact vl_wk [2, 1, 0] rfl (hL4_ N a1 0 m hE)
set_option maxRecDepth 100000 in
set_option maxHeartbeats 4000000 in
theorem vx_X5_put {nc : Nat} {S : vl_Sh} {sc : Nat × (Nat → Int32)} {w : Nat} (hG : vl_G1 nc S w) {N : Nat} {d : Nat} (hd : 5 ≤ d) {Post : Int → vl_M → vl_M → Prop} {m ρ : vl_M} {a1 : Int} (hE : vl_ok (fun b : vl_M => Post 0 b ρ) (fn_X5_put w N m a1)) : vl_V nc S sc kX5_put d Post 0 [(0, .ref 11), (1, vl_iv a1)] [] m ρ := by
  generalize hP : (fun b : vl_M => Post 0 b ρ) = P at hE
  have hP' : ∀ b : vl_M, P b → Post 0 b ρ := fun b h => by rw [← hP] at h; exact h
  clear hP
  have s1 : S 1 = .inr (4, [0, 0, 5, 6, 7, 8, 9, 10, 11, 12, 0, 13, 0, 0, 0, 0, 0]) := hG.2.1 1 (by decide) (by decide)
  have n1 : 1 < nc := Nat.lt_of_lt_of_le (by decide) hG.1
  have s2 : S 2 = .inl 807 := hG.2.1 2 (by decide) (by decide)
  have n2 : 2 < nc := Nat.lt_of_lt_of_le (by decide) hG.1
  have s11 : S 11 = .inr (5, [4, 17, 15, 0, 16, 0, 0, 0, 0, 0]) := hG.2.1 11 (by decide) (by decide)
  have n11 : 11 < nc := Nat.lt_of_lt_of_le (by decide) hG.1
  unfold fn_X5_put at hE
  refine vl_aload_n 0 rfl dX5_put_0 ?_
  refine vl_getIc (h := 11) (k0 := 6) (ki := 6) iu_X5 n11 (by decide) s11 rfl (by decide) fk_X5_43 rfl rfl dX5_put_1 ?_
  refine vl_istore_n rfl (fun v1 => [(2, vl_iv v1), (0, .ref 11), (1, vl_iv a1)]) dX5_put_4 (by decide) (fun _ => rfl) hE (fun v1 hE => ?_)
  refine vl_iconst dX5_put_5 ?_
  refine vl_istore_n0 rfl (lv' := [(3, vl_iv 0), (2, vl_iv v1), (0, .ref 11), (1, vl_iv a1)]) dX5_put_6 (by decide) rfl ?_
  refine vl_lpr (F := fun κ : Int → Int → vl_M → Option (vl_M) => fn_X5_put_L7 w N a1 κ N v1 0 m) (J := fun κ => ∀ (v5 : Int) (v6 : Int) (m7 : vl_M), vl_ok P (κ v5 v6 m7) → vl_V nc S sc kX5_put d Post 58 [(0, .ref 11), (1, vl_iv a1), (2, vl_iv v5)] [] m7 ρ) ?_ hE (fun κ hκL74 hE => ?_)
  · intro v5 v6 m7 hE
    refine vl_aload_n 0 rfl dX5_put_58 ?_
    refine vl_getR (h := 11) (k0 := 0) (h2 := 1) iu_X5 n11 s11 rfl (by decide) fk_X5_18 rfl dX5_put_59 ?_
    refine vl_iload_n 2 rfl dX5_put_62 ?_
    refine vl_iload_n 1 rfl dX5_put_63 ?_
    refine vl_VcWV (K' := kX4_attach) (d' := 2) (h := 1) (As := [vl_iv v5, vl_iv a1]) (st := []) lk_X5_76 (fun _ => rfl) (by omega) n1 s1 rfl rfl (Nat.le_of_ble_eq_true rfl) rfl (Nat.le_of_ble_eq_true rfl) dX5_put_64 hE (fun _ h => vx_X4_attach hG (Nat.le_refl _) h) (fun m9 hE => ?_)
    refine vl_aload_n 0 rfl dX5_put_67 ?_
    refine vl_iload_n 2 rfl dX5_put_68 ?_
    refine vl_VcWV (K' := kX5_splitUpwards) (d' := 4) (h := 11) (As := [vl_iv v5]) (st := []) lk_X5_79 (fun _ => rfl) (by omega) n11 s11 rfl rfl (Nat.le_of_ble_eq_true rfl) rfl (Nat.le_of_ble_eq_true rfl) dX5_put_69 hE (fun _ h => vx_X5_splitUpwards hG (Nat.le_refl _) h) (fun m11 hE => ?_)
    exact vl_ret (r := 0) rfl dX5_put_72 hE (hP' m11)
  have hL7_ : ∀ (n : Nat) (v2 : Int) (v3 : Int) (m4 : vl_M), vl_ok P (fn_X5_put_L7 w N a1 κ n v2 v3 m4) → vl_V nc S sc kX5_put d Post 7 [(0, .ref 11), (1, vl_iv a1), (2, vl_iv v2), (3, vl_iv v3)] [] m4 ρ := by
    intro n
    induction n with
    | zero => intro v2 v3 m4 hE; exact vl_no hE
    | succ n ih7_ =>
      intro v2 v3 m4 hE
      rw [fn_X5_put_L7] at hE
      refine vl_iload_n 3 rfl dX5_put_7 ?_
      refine vl_bipush (by decide) dX5_put_8 ?_
      obtain ⟨g12, hE⟩ := vl_ok_gd hE
      refine vl_icmp_ge (tgt := 58) dX5_put_10 (by decide) g12 (by decide) hE (fun c24 hE => ?_) (fun c24 hE => ?_)
      · exact vl_wk [0, 1, 2] rfl (hκL74 v2 v3 m4 hE)
      · refine vl_aload_n 0 rfl dX5_put_13 ?_
        refine vl_getR (h := 11) (k0 := 0) (h2 := 1) iu_X5 n11 s11 rfl (by decide) fk_X5_18 rfl dX5_put_14 ?_
        refine vl_getR (h := 1) (k0 := 2) (h2 := 2) iu_X4 n1 s1 rfl (by decide) fk_X5_60 rfl dX5_put_17 ?_
        refine vl_iload_n 2 rfl dX5_put_20 ?_
        refine vl_aldc (h := 2) (n := 807) (ni := 807) n2 (by decide) s2 (by decide) rfl dX5_put_21 hE (fun g13 g14 hE => ?_)
        refine vl_aload_n 0 rfl dX5_put_22 ?_
        refine vl_getR (h := 11) (k0 := 0) (h2 := 1) iu_X5 n11 s11 rfl (by decide) fk_X5_18 rfl dX5_put_23 ?_
        refine vl_getR (h := 1) (k0 := 2) (h2 := 2) iu_X4 n1 s1 rfl (by decide) fk_X5_60 rfl dX5_put_26 ?_
        refine vl_iload_n 1 rfl dX5_put_29 ?_
        refine vl_aldc (h := 2) (n := 807) (ni := 807) n2 (by decide) s2 (by decide) rfl dX5_put_30 hE (fun g15 g16 hE => ?_)
        refine vl_iconst dX5_put_31 ?_
        refine vl_iadd dX5_put_32 ?_
        obtain ⟨g17, hE⟩ := vl_ok_gd hE
        obtain ⟨g18, hE⟩ := vl_ok_gd hE
        refine vl_icmp_le (tgt := 58) dX5_put_33 (by decide) g17 g18 hE (fun c23 hE => ?_) (fun c23 hE => ?_)
        · exact vl_wk [0, 1, 2] rfl (hκL74 v2 v3 m4 hE)
        · refine vl_aload_n 0 rfl dX5_put_36 ?_
          refine vl_getR (h := 11) (k0 := 0) (h2 := 1) iu_X5 n11 s11 rfl (by decide) fk_X5_18 rfl dX5_put_37 ?_
          refine vl_iload_n 2 rfl dX5_put_40 ?_
          refine vl_iload_n 1 rfl dX5_put_41 ?_
          refine vl_VcWV (K' := kX4_cover) (d' := 1) (h := 1) (As := [vl_iv v2, vl_iv a1]) (st := []) lk_X5_70 (fun _ => rfl) (by omega) n1 s1 rfl rfl (Nat.le_of_ble_eq_true rfl) rfl (Nat.le_of_ble_eq_true rfl) dX5_put_42 hE (fun _ h => vx_X4_cover hG (Nat.le_refl _) h) (fun m20 hE => ?_)
          refine vl_aload_n 0 rfl dX5_put_45 ?_
          refine vl_iload_n 2 rfl dX5_put_46 ?_
          refine vl_iload_n 1 rfl dX5_put_47 ?_
          refine vl_VpI (K' := kX5_leastGrowing) (d' := 2) (h := 11) (As := [vl_iv v2, vl_iv a1]) (st := []) lk_X5_73 (fun _ => rfl) (by omega) n11 s11 rfl rfl (Nat.le_of_ble_eq_true rfl) rfl (Nat.le_of_ble_eq_true rfl) dX5_put_48 hE (fun _ h => vx_X5_leastGrowing hG (Nat.le_refl _) h) (fun b21 hE => ?_)
          refine vl_istore_n0 rfl (lv' := [(2, vl_iv b21), (0, .ref 11), (1, vl_iv a1), (3, vl_iv v3)]) dX5_put_51 (by decide) rfl ?_
          refine vl_iinc 3 (fun v22 => [(3, vl_iv v22), (2, vl_iv b21), (0, .ref 11), (1, vl_iv a1)]) dX5_put_52 rfl (by decide) (fun _ => rfl) hE (fun v22 hE => ?_)
          refine vl_goto (tgt := 7) dX5_put_55 (by decide) ?_
          exact vl_wk [2, 3, 1, 0] rfl (ih7_ b21 v22 m20 hE)
  exact vl_wk [2, 3, 1, 0] rfl (hL7_ N v1 0 m hE)
set_option maxRecDepth 100000 in
set_option maxHeartbeats 4000000 in
theorem vx_X5_take {nc : Nat} {S : vl_Sh} {sc : Nat × (Nat → Int32)} {w : Nat} (hG : vl_G1 nc S w) {N : Nat} {d : Nat} (hd : 6 ≤ d) {Post : Int → vl_M → vl_M → Prop} {m ρ : vl_M} {a1 : Int} (hE : vl_ok (fun b : vl_M => Post 0 b ρ) (fn_X5_take w N m a1)) : vl_V nc S sc kX5_take d Post 0 [(0, .ref 11), (1, vl_iv a1)] [] m ρ := by
  generalize hP : (fun b : vl_M => Post 0 b ρ) = P at hE
  have hP' : ∀ b : vl_M, P b → Post 0 b ρ := fun b h => by rw [← hP] at h; exact h
  clear hP
  have s1 : S 1 = .inr (4, [0, 0, 5, 6, 7, 8, 9, 10, 11, 12, 0, 13, 0, 0, 0, 0, 0]) := hG.2.1 1 (by decide) (by decide)
  have n1 : 1 < nc := Nat.lt_of_lt_of_le (by decide) hG.1
  have s8 : S 8 = .inl 807 := hG.2.1 8 (by decide) (by decide)
  have n8 : 8 < nc := Nat.lt_of_lt_of_le (by decide) hG.1
  have s11 : S 11 = .inr (5, [4, 17, 15, 0, 16, 0, 0, 0, 0, 0]) := hG.2.1 11 (by decide) (by decide)
  have n11 : 11 < nc := Nat.lt_of_lt_of_le (by decide) hG.1
  have s12 : S 12 = .inl 160 := hG.2.1 12 (by decide) (by decide)
  have n12 : 12 < nc := Nat.lt_of_lt_of_le (by decide) hG.1
  unfold fn_X5_take at hE
  refine vl_aload_n 0 rfl dX5_take_0 ?_
  refine vl_getR (h := 11) (k0 := 0) (h2 := 1) iu_X5 n11 s11 rfl (by decide) fk_X5_18 rfl dX5_take_1 ?_
  refine vl_getR (h := 1) (k0 := 8) (h2 := 8) iu_X4 n1 s1 rfl (by decide) fk_X5_109 rfl dX5_take_4 ?_
  refine vl_iload_n 1 rfl dX5_take_7 ?_
  refine vl_aldc (h := 8) (n := 807) (ni := 807) n8 (by decide) s8 (by decide) rfl dX5_take_8 hE (fun g1 g2 hE => ?_)
  refine vl_istore_n rfl (fun v3 => [(2, vl_iv v3), (0, .ref 11), (1, vl_iv a1)]) dX5_take_9 (by decide) (fun _ => rfl) hE (fun v3 hE => ?_)
  refine vl_aload_n 1 rfl dX5_take_10 ?_
  refine vl_getR (h := 11) (k0 := 0) (h2 := 1) iu_X5 n11 s11 rfl (by decide) fk_X5_18 rfl dX5_take_11 ?_
  refine vl_iload_n 2 rfl dX5_take_14 ?_
  refine vl_VcWV (K' := kX4_detach) (d' := 2) (h := 1) (As := [vl_iv a1]) (st := []) lk_X5_112 (fun _ => rfl) (by omega) n1 s1 rfl rfl (Nat.le_of_ble_eq_true rfl) rfl (Nat.le_of_ble_eq_true rfl) dX5_take_15 hE (fun _ h => vx_X4_detach hG (Nat.le_refl _) h) (fun m5 hE => ?_)
  refine vl_aload_n 1 rfl dX5_take_18 ?_
  refine vl_getR (h := 11) (k0 := 0) (h2 := 1) iu_X5 n11 s11 rfl (by decide) fk_X5_18 rfl dX5_take_19 ?_
  refine vl_iload_n 2 rfl dX5_take_22 ?_
  refine vl_VcWV (K' := kX4_freeEntry) (d' := 0) (h := 1) (As := [vl_iv a1]) (st := []) lk_X5_115 (fun _ => rfl) (by omega) n1 s1 rfl rfl (Nat.le_of_ble_eq_true rfl) rfl (Nat.le_of_ble_eq_true rfl) dX5_take_23 hE (fun _ h => vx_X4_freeEntry hG (Nat.le_refl _) h) (fun m7 hE => ?_)
  refine vl_aload_n 1 rfl dX5_take_26 ?_
  refine vl_iconst dX5_take_27 ?_
  refine vl_putIc (h := 11) (k0 := 3) (ki := 3) iu_X5 tyX5_ok nmX5 n11 (by decide) s11 rfl (by decide) fk_X5_118 rfl rfl rfl (vl_nI _) dX5_take_28 hE (fun m8 hE => ?_)
  refine vl_aload_n 1 rfl dX5_take_31 ?_
  refine vl_iload_n 0 rfl dX5_take_32 ?_
  refine vl_VcWV (K' := kX5_thinUpwards) (d' := 4) (h := 11) (As := [vl_iv v3]) (st := []) lk_X5_121 (fun _ => rfl) (by omega) n11 s11 rfl rfl (Nat.le_of_ble_eq_true rfl) rfl (Nat.le_of_ble_eq_true rfl) dX5_take_33 hE (fun _ h => vx_X5_thinUpwards hG (Nat.le_refl _) h) (fun m10 hE => ?_)
  refine vl_iconst dX5_take_36 ?_
  refine vl_istore_n0 rfl (lv' := [(3, vl_iv 0), (2, vl_iv v3), (0, .ref 11), (1, vl_iv a1)]) dX5_take_37 (by decide) rfl ?_
  refine vl_lpr (F := fun κ : Int → vl_M → Option (vl_M) => fn_X5_take_L38 w N  κ N 0 m10) (J := fun κ => ∀ (v13 : Int) (m14 : vl_M), vl_ok P (κ v13 m14) → vl_V nc S sc kX5_take d Post 62 [(0, .ref 11)] [] m14 ρ) ?_ hE (fun κ hκL3812 hE => ?_)
  · intro v13 m14 hE
    refine vl_aload_n 0 rfl dX5_take_62 ?_
    refine vl_VcWV (K' := kX5_lowerRoot) (d' := 1) (h := 11) (As := []) (st := []) lk_X5_127 (fun _ => rfl) (by omega) n11 s11 rfl rfl (Nat.le_of_ble_eq_true rfl) rfl (Nat.le_of_ble_eq_true rfl) dX5_take_63 hE (fun _ h => vx_X5_lowerRoot hG (Nat.le_refl _) h) (fun m16 hE => ?_)
    exact vl_ret (r := 0) rfl dX5_take_66 hE (hP' m16)
  have hL38_ : ∀ (n : Nat) (v11 : Int) (m12 : vl_M), vl_ok P (fn_X5_take_L38 w N  κ n v11 m12) → vl_V nc S sc kX5_take d Post 38 [(0, .ref 11), (3, vl_iv v11)] [] m12 ρ := by
    intro n
    induction n with
    | zero => intro v11 m12 hE; exact vl_no hE
    | succ n ih38_ =>
      intro v11 m12 hE
      rw [fn_X5_take_L38] at hE
      refine vl_iload_n 1 rfl dX5_take_38 ?_
      refine vl_aload_n 0 rfl dX5_take_39 ?_
      refine vl_getIc (h := 11) (k0 := 3) (ki := 3) iu_X5 n11 (by decide) s11 rfl (by decide) fk_X5_118 rfl rfl dX5_take_40 ?_
      obtain ⟨g17, hE⟩ := vl_ok_gd hE
      obtain ⟨g18, hE⟩ := vl_ok_gd hE
      refine vl_icmp_ge (tgt := 62) dX5_take_43 (by decide) g17 g18 hE (fun c24 hE => ?_) (fun c24 hE => ?_)
      · exact vl_wk [0] rfl (hκL3812 v11 m12 hE)
      · refine vl_aload_n 0 rfl dX5_take_46 ?_
        refine vl_aload_n 0 rfl dX5_take_47 ?_
        refine vl_getR (h := 11) (k0 := 2) (h2 := 12) iu_X5 n11 s11 rfl (by decide) fk_X5_9 rfl dX5_take_48 ?_
        refine vl_iload_n 1 rfl dX5_take_51 ?_
        refine vl_aldc (h := 12) (n := 160) (ni := 160) n12 (by decide) s12 (by decide) rfl dX5_take_52 hE (fun g19 g20 hE => ?_)
        refine vl_VcWV (K' := kX5_put) (d' := 5) (h := 11) (As := [vl_iv (m12 12 v11)]) (st := []) lk_X5_124 (fun _ => rfl) (by omega) n11 s11 rfl rfl (Nat.le_of_ble_eq_true rfl) rfl (Nat.le_of_ble_eq_true rfl) dX5_take_53 hE (fun _ h => vx_X5_put hG (Nat.le_refl _) h) (fun m22 hE => ?_)
        refine vl_iinc 1 (fun v23 => [(3, vl_iv v23), (0, .ref 11)]) dX5_take_56 rfl (by decide) (fun _ => rfl) hE (fun v23 hE => ?_)
        refine vl_goto (tgt := 38) dX5_take_59 (by decide) ?_
        exact vl_wk [1, 0] rfl (ih38_ v23 m22 hE)
  exact vl_wk [2, 0] rfl (hL38_ N 0 m10 hE)
set_option maxRecDepth 100000 in
set_option maxHeartbeats 4000000 in
theorem vx_X5_numberFrom {nc : Nat} {S : vl_Sh} {sc : Nat × (Nat → Int32)} {w : Nat} (hG : vl_G1 nc S w) {N : Nat} : ∀ (rr : Nat) {d : Nat} (hd : 1 + rr ≤ d) {Post : Int → vl_M → vl_M → Prop} {m ρ : vl_M} {a1 a2 : Int} (hE : vl_ok (fun b : vl_M => Post 0 b ρ) (fn_X5_numberFrom w N rr m a1 a2)), vl_V nc S sc kX5_numberFrom d Post 0 [(0, .ref 11), (1, vl_iv a1), (2, vl_iv a2)] [] m ρ := by
  intro rr
  induction rr with
  | zero => intro d hd Post m ρ a1 a2 hE; exact vl_no hE
  | succ rr ih =>
    intro d hd Post m ρ a1 a2 hE
    generalize hP : (fun b : vl_M => Post 0 b ρ) = P at hE
    have hP' : ∀ b : vl_M, P b → Post 0 b ρ := fun b h => by rw [← hP] at h; exact h
    clear hP
    have s1 : S 1 = .inr (4, [0, 0, 5, 6, 7, 8, 9, 10, 11, 12, 0, 13, 0, 0, 0, 0, 0]) := hG.2.1 1 (by decide) (by decide)
    have n1 : 1 < nc := Nat.lt_of_lt_of_le (by decide) hG.1
    have s2 : S 2 = .inl 807 := hG.2.1 2 (by decide) (by decide)
    have n2 : 2 < nc := Nat.lt_of_lt_of_le (by decide) hG.1
    have s7 : S 7 = .inl 807 := hG.2.1 7 (by decide) (by decide)
    have n7 : 7 < nc := Nat.lt_of_lt_of_le (by decide) hG.1
    have s9 : S 9 = .inl 807 := hG.2.1 9 (by decide) (by decide)
    have n9 : 9 < nc := Nat.lt_of_lt_of_le (by decide) hG.1
    have s11 : S 11 = .inr (5, [4, 17, 15, 0, 16, 0, 0, 0, 0, 0]) := hG.2.1 11 (by decide) (by decide)
    have n11 : 11 < nc := Nat.lt_of_lt_of_le (by decide) hG.1
    have s13 : S 13 = .inl 404 := hG.2.1 13 (by decide) (by decide)
    have n13 : 13 < nc := Nat.lt_of_lt_of_le (by decide) hG.1
    rw [fn_X5_numberFrom] at hE
    refine vl_iload_n 2 rfl dX5_numberFrom_0 ?_
    refine vl_bipush (by decide) dX5_numberFrom_1 ?_
    obtain ⟨g1, hE⟩ := vl_ok_gd hE
    refine vl_icmp_ge (tgt := 18) dX5_numberFrom_3 (by decide) g1 (by decide) hE (fun c24 hE => ?_) (fun c24 hE => ?_)
    · exact vl_ret (r := 0) rfl dX5_numberFrom_18 hE (hP' m)
    · refine vl_aload_n 0 rfl dX5_numberFrom_6 ?_
      refine vl_getIc (h := 11) (k0 := 5) (ki := 5) iu_X5 n11 (by decide) s11 rfl (by decide) fk_X5_50 rfl rfl dX5_numberFrom_7 ?_
      refine vl_aload_n 0 rfl dX5_numberFrom_10 ?_
      refine vl_getR (h := 11) (k0 := 4) (h2 := 13) iu_X5 n11 s11 rfl (by decide) fk_X5_15 rfl dX5_numberFrom_11 ?_
      refine vl_alen (h := 13) (n := 404) (ni := 404) n13 s13 rfl dX5_numberFrom_14 ?_
      obtain ⟨g2, hE⟩ := vl_ok_gd hE
      refine vl_icmp_lt (tgt := 19) dX5_numberFrom_15 (by decide) g2 (by decide) hE (fun c23 hE => ?_) (fun c23 hE => ?_)
      · refine vl_aload_n 0 rfl dX5_numberFrom_19 ?_
        refine vl_getR (h := 11) (k0 := 0) (h2 := 1) iu_X5 n11 s11 rfl (by decide) fk_X5_18 rfl dX5_numberFrom_20 ?_
        refine vl_getR (h := 1) (k0 := 7) (h2 := 7) iu_X4 n1 s1 rfl (by decide) fk_X5_57 rfl dX5_numberFrom_23 ?_
        refine vl_iload_n 1 rfl dX5_numberFrom_26 ?_
        refine vl_aload_n 0 rfl dX5_numberFrom_27 ?_
        refine vl_getIc (h := 11) (k0 := 5) (ki := 5) iu_X5 n11 (by decide) s11 rfl (by decide) fk_X5_50 rfl rfl dX5_numberFrom_28 ?_
        refine vl_astc (h := 7) (n := 807) (ni := 807) n7 (by decide) s7 (by decide) rfl dX5_numberFrom_31 hE (fun g4 g5 m3 hE => ?_)
        refine vl_aload_n 0 rfl dX5_numberFrom_32 ?_
        refine vl_getR (h := 11) (k0 := 4) (h2 := 13) iu_X5 n11 s11 rfl (by decide) fk_X5_15 rfl dX5_numberFrom_33 ?_
        refine vl_aload_n 0 rfl dX5_numberFrom_36 ?_
        refine vl_dup rfl dX5_numberFrom_37 ?_
        refine vl_getIc (h := 11) (k0 := 5) (ki := 5) iu_X5 n11 (by decide) s11 rfl (by decide) fk_X5_50 rfl rfl dX5_numberFrom_38 ?_
        refine vl_dup_x1 rfl rfl dX5_numberFrom_41 ?_
        refine vl_iconst dX5_numberFrom_42 ?_
        refine vl_iadd dX5_numberFrom_43 ?_
        refine vl_putIc (h := 11) (k0 := 5) (ki := 5) iu_X5 tyX5_ok nmX5 n11 (by decide) s11 rfl (by decide) fk_X5_50 rfl rfl rfl (vl_nI _) dX5_numberFrom_44 hE (fun m6 hE => ?_)
        refine vl_iload_n 1 rfl dX5_numberFrom_47 ?_
        refine vl_astc (h := 13) (n := 404) (ni := 404) n13 (by decide) s13 (by decide) rfl dX5_numberFrom_48 hE (fun g8 g9 m7 hE => ?_)
        refine vl_aload_n 0 rfl dX5_numberFrom_49 ?_
        refine vl_getR (h := 11) (k0 := 0) (h2 := 1) iu_X5 n11 s11 rfl (by decide) fk_X5_18 rfl dX5_numberFrom_50 ?_
        refine vl_getR (h := 1) (k0 := 2) (h2 := 2) iu_X4 n1 s1 rfl (by decide) fk_X5_60 rfl dX5_numberFrom_53 ?_
        refine vl_iload_n 1 rfl dX5_numberFrom_56 ?_
        refine vl_aldc1 (h := 2) (n := 807) (ni := 807) n2 (by decide) s2 (by decide) rfl g4 dX5_numberFrom_57 ?_
        obtain ⟨g10, hE⟩ := vl_ok_gd hE
        refine vl_if_ne (tgt := 62) dX5_numberFrom_58 (by decide) g10  hE (fun c22 hE => ?_) (fun c22 hE => ?_)
        · refine vl_iconst dX5_numberFrom_62 ?_
          refine vl_istore_n0 rfl (lv' := [(3, vl_iv 0), (0, .ref 11), (1, vl_iv a1), (2, vl_iv a2)]) dX5_numberFrom_63 (by decide) rfl ?_
          refine vl_lpr (F := fun κ : Int → vl_M → Option (vl_M) => fn_X5_numberFrom_L64 w N (fn_X5_numberFrom w N rr) a1 a2 κ N 0 m7) (J := fun κ => ∀ (v13 : Int) (m14 : vl_M), vl_ok P (κ v13 m14) → vl_V nc S sc kX5_numberFrom d Post 99 [] [] m14 ρ) ?_ hE (fun κ hκL6412 hE => ?_)
          · intro v13 m14 hE
            exact vl_ret (r := 0) rfl dX5_numberFrom_99 hE (hP' m14)
          have hL64_ : ∀ (n : Nat) (v11 : Int) (m12 : vl_M), vl_ok P (fn_X5_numberFrom_L64 w N (fn_X5_numberFrom w N rr) a1 a2 κ n v11 m12) → vl_V nc S sc kX5_numberFrom d Post 64 [(0, .ref 11), (1, vl_iv a1), (2, vl_iv a2), (3, vl_iv v11)] [] m12 ρ := by
            intro n
            induction n with
            | zero => intro v11 m12 hE; exact vl_no hE
            | succ n ih64_ =>
              intro v11 m12 hE
              rw [fn_X5_numberFrom_L64] at hE
              refine vl_iload_n 3 rfl dX5_numberFrom_64 ?_
              refine vl_aload_n 0 rfl dX5_numberFrom_65 ?_
              refine vl_getR (h := 11) (k0 := 0) (h2 := 1) iu_X5 n11 s11 rfl (by decide) fk_X5_18 rfl dX5_numberFrom_66 ?_
              refine vl_getR (h := 1) (k0 := 9) (h2 := 9) iu_X4 n1 s1 rfl (by decide) fk_X5_63 rfl dX5_numberFrom_69 ?_
              refine vl_iload_n 1 rfl dX5_numberFrom_72 ?_
              refine vl_aldc1 (h := 9) (n := 807) (ni := 807) n9 (by decide) s9 (by decide) rfl g4 dX5_numberFrom_73 ?_
              obtain ⟨g15, hE⟩ := vl_ok_gd hE
              obtain ⟨g16, hE⟩ := vl_ok_gd hE
              refine vl_icmp_ge (tgt := 99) dX5_numberFrom_74 (by decide) g15 g16 hE (fun c21 hE => ?_) (fun c21 hE => ?_)
              · exact vl_wk [] rfl (hκL6412 v11 m12 hE)
              · refine vl_aload_n 0 rfl dX5_numberFrom_77 ?_
                refine vl_aload_n 0 rfl dX5_numberFrom_78 ?_
                refine vl_getR (h := 11) (k0 := 0) (h2 := 1) iu_X5 n11 s11 rfl (by decide) fk_X5_18 rfl dX5_numberFrom_79 ?_
                refine vl_iload_n 1 rfl dX5_numberFrom_82 ?_
                refine vl_iload_n 3 rfl dX5_numberFrom_83 ?_
                refine vl_VpI (K' := kX4_thingAt) (d' := 0) (h := 1) (As := [vl_iv a1, vl_iv v11]) (st := [.ref 11]) lk_X5_66 (fun _ => rfl) (by omega) n1 s1 rfl rfl (Nat.le_of_ble_eq_true rfl) rfl (Nat.le_of_ble_eq_true rfl) dX5_numberFrom_84 hE (fun _ h => vx_X4_thingAt hG (Nat.le_refl _) h) (fun b17 hE => ?_)
                refine vl_iload_n 2 rfl dX5_numberFrom_87 ?_
                refine vl_iconst dX5_numberFrom_88 ?_
                refine vl_iadd dX5_numberFrom_89 ?_
                refine vl_VcWV (K' := kX5_numberFrom) (d' := (1 + rr)) (h := 11) (As := [vl_iv b17, vl_iv (a2 + 1)]) (st := []) lk_X5_53 (fun _ => rfl) (by omega) n11 s11 rfl rfl (Nat.le_of_ble_eq_true rfl) rfl (Nat.le_of_ble_eq_true rfl) dX5_numberFrom_90 hE (fun _ h => ih (Nat.le_refl _) h) (fun m19 hE => ?_)
                refine vl_iinc 3 (fun v20 => [(3, vl_iv v20), (0, .ref 11), (1, vl_iv a1), (2, vl_iv a2)]) dX5_numberFrom_93 rfl (by decide) (fun _ => rfl) hE (fun v20 hE => ?_)
                refine vl_goto (tgt := 64) dX5_numberFrom_96 (by decide) ?_
                exact vl_wk [1, 2, 3, 0] rfl (ih64_ v20 m19 hE)
          exact vl_wk [1, 2, 3, 0] rfl (hL64_ N 0 m7 hE)
        · exact vl_ret (r := 0) rfl dX5_numberFrom_61 hE (hP' m7)
      · exact vl_ret (r := 0) rfl dX5_numberFrom_18 hE (hP' m)
set_option maxRecDepth 100000 in
set_option maxHeartbeats 4000000 in
theorem vx_X5_renumber {nc : Nat} {S : vl_Sh} {sc : Nat × (Nat → Int32)} {w : Nat} (hG : vl_G1 nc S w) {N : Nat} {d : Nat} (hd : 62 ≤ d) {Post : Int → vl_M → vl_M → Prop} {m ρ : vl_M} (hE : vl_ok (fun b : vl_M => Post 0 b ρ) (fn_X5_renumber w N m )) : vl_V nc S sc kX5_renumber d Post 0 [(0, .ref 11)] [] m ρ := by
  generalize hP : (fun b : vl_M => Post 0 b ρ) = P at hE
  have hP' : ∀ b : vl_M, P b → Post 0 b ρ := fun b h => by rw [← hP] at h; exact h
  clear hP
  have s11 : S 11 = .inr (5, [4, 17, 15, 0, 16, 0, 0, 0, 0, 0]) := hG.2.1 11 (by decide) (by decide)
  have n11 : 11 < nc := Nat.lt_of_lt_of_le (by decide) hG.1
  unfold fn_X5_renumber at hE
  refine vl_aload_n 0 rfl dX5_renumber_0 ?_
  refine vl_iconst dX5_renumber_1 ?_
  refine vl_putIc (h := 11) (k0 := 5) (ki := 5) iu_X5 tyX5_ok nmX5 n11 (by decide) s11 rfl (by decide) fk_X5_50 rfl rfl rfl (vl_nI _) dX5_renumber_2 hE (fun m1 hE => ?_)
  refine vl_aload_n 0 rfl dX5_renumber_5 ?_
  refine vl_aload_n 0 rfl dX5_renumber_6 ?_
  refine vl_getIc (h := 11) (k0 := 6) (ki := 6) iu_X5 n11 (by decide) s11 rfl (by decide) fk_X5_43 rfl rfl dX5_renumber_7 ?_
  refine vl_iconst dX5_renumber_10 ?_
  refine vl_VcWV (K' := kX5_numberFrom) (d' := (1 + 60)) (h := 11) (As := [vl_iv (m1 11 6), vl_iv 0]) (st := []) lk_X5_53 (fun _ => rfl) (by omega) n11 s11 rfl rfl (Nat.le_of_ble_eq_true rfl) rfl (Nat.le_of_ble_eq_true rfl) dX5_renumber_11 hE (fun _ h => vx_X5_numberFrom hG 60 (Nat.le_refl _) h) (fun m3 hE => ?_)
  exact vl_ret (r := 0) rfl dX5_renumber_14 hE (hP' m3)
set_option maxRecDepth 100000 in
set_option maxHeartbeats 4000000 in
theorem vx_X5_startEmpty {nc : Nat} {S : vl_Sh} {sc : Nat × (Nat → Int32)} {w : Nat} (hG : vl_G1 nc S w) {N : Nat} {d : Nat} (hd : 63 ≤ d) {Post : Int → vl_M → vl_M → Prop} {m ρ : vl_M} (hE : vl_ok (fun b : vl_M => Post 0 b ρ) (fn_X5_startEmpty w N m )) : vl_V nc S sc kX5_startEmpty d Post 0 [(0, .ref 11)] [] m ρ := by
  generalize hP : (fun b : vl_M => Post 0 b ρ) = P at hE
  have hP' : ∀ b : vl_M, P b → Post 0 b ρ := fun b h => by rw [← hP] at h; exact h
  clear hP
  have s1 : S 1 = .inr (4, [0, 0, 5, 6, 7, 8, 9, 10, 11, 12, 0, 13, 0, 0, 0, 0, 0]) := hG.2.1 1 (by decide) (by decide)
  have n1 : 1 < nc := Nat.lt_of_lt_of_le (by decide) hG.1
  have s11 : S 11 = .inr (5, [4, 17, 15, 0, 16, 0, 0, 0, 0, 0]) := hG.2.1 11 (by decide) (by decide)
  have n11 : 11 < nc := Nat.lt_of_lt_of_le (by decide) hG.1
  unfold fn_X5_startEmpty at hE
  refine vl_aload_n 0 rfl dX5_startEmpty_0 ?_
  refine vl_getR (h := 11) (k0 := 0) (h2 := 1) iu_X5 n11 s11 rfl (by decide) fk_X5_18 rfl dX5_startEmpty_1 ?_
  refine vl_VcWV (K' := kX4_forgetNodes) (d' := 0) (h := 1) (As := []) (st := []) lk_X5_34 (fun _ => rfl) (by omega) n1 s1 rfl rfl (Nat.le_of_ble_eq_true rfl) rfl (Nat.le_of_ble_eq_true rfl) dX5_startEmpty_4 hE (fun _ h => vx_X4_forgetNodes hG (Nat.le_refl _) h) (fun m2 hE => ?_)
  refine vl_aload_n 0 rfl dX5_startEmpty_7 ?_
  refine vl_aload_n 0 rfl dX5_startEmpty_8 ?_
  refine vl_getR (h := 11) (k0 := 0) (h2 := 1) iu_X5 n11 s11 rfl (by decide) fk_X5_18 rfl dX5_startEmpty_9 ?_
  refine vl_iconst dX5_startEmpty_12 ?_
  refine vl_VcWI (K' := kX4_newNode) (d' := 0) (h := 1) (As := [vl_iv 0]) (st := [.ref 11]) lk_X5_39 (fun _ => rfl) (by omega) n1 s1 rfl rfl (Nat.le_of_ble_eq_true rfl) rfl (Nat.le_of_ble_eq_true rfl) dX5_startEmpty_13 hE (fun _ h => vx_X4_newNode hG (Nat.le_refl _) h) (fun b3 m4 hE => ?_)
  refine vl_putIc (h := 11) (k0 := 6) (ki := 6) iu_X5 tyX5_ok nmX5 n11 (by decide) s11 rfl (by decide) fk_X5_43 rfl rfl rfl (vl_nI _) dX5_startEmpty_16 hE (fun m5 hE => ?_)
  refine vl_aload_n 0 rfl dX5_startEmpty_19 ?_
  refine vl_VcWV (K' := kX5_renumber) (d' := 62) (h := 11) (As := []) (st := []) lk_X5_47 (fun _ => rfl) (by omega) n11 s11 rfl rfl (Nat.le_of_ble_eq_true rfl) rfl (Nat.le_of_ble_eq_true rfl) dX5_startEmpty_20 hE (fun _ h => vx_X5_renumber hG (Nat.le_refl _) h) (fun m7 hE => ?_)
  exact vl_ret (r := 0) rfl dX5_startEmpty_23 hE (hP' m7)
