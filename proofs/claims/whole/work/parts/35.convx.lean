theorem vy_X4_forgetEntries {nc : Nat} {S : vl_Sh} {sc : Nat × (Nat → Int32)} (n1 : 1 < nc) (s1 : S 1 = .inr (4, [0, 0, 5, 6, 7, 8, 9, 10, 11, 12, 0, 13, 0, 0, 0, 0, 0])) {d : Nat} (hd : 0 ≤ d) {Post : Int → vl_M → vl_M → Prop} {m ρ : vl_M} (hE : vl_ok (fun b : vl_M => Post 0 b ρ) (fn_X4_forgetEntries m)) : vl_V nc S sc kX4_forgetEntries d Post 0 [(0, .ref 1)] [] m ρ := by
  generalize hP : (fun b : vl_M => Post 0 b ρ) = P at hE
  have hP' : ∀ b : vl_M, P b → Post 0 b ρ := fun b h => by rw [← hP] at h; exact h
  clear hP
  unfold fn_X4_forgetEntries at hE
  refine vl_aload_n 0 rfl dX4_forgetEntries_0 ?_
  refine vl_iconst dX4_forgetEntries_1 ?_
  refine vl_putIc (h := 1) (k0 := 12) (ki := 12) iu_X4 tyX4_ok nmX4 n1 (by decide) s1 rfl (by decide) fk_X4_55 rfl rfl rfl (vl_nI _) dX4_forgetEntries_2 hE (fun m1 hE => ?_)
  refine vl_aload_n 0 rfl dX4_forgetEntries_5 ?_
  refine vl_iconst dX4_forgetEntries_6 ?_
  refine vl_putIc (h := 1) (k0 := 13) (ki := 13) iu_X4 tyX4_ok nmX4 n1 (by decide) s1 rfl (by decide) fk_X4_58 rfl rfl rfl (vl_nI _) dX4_forgetEntries_7 hE (fun m2 hE => ?_)
  refine vl_aload_n 0 rfl dX4_forgetEntries_10 ?_
  refine vl_iconst dX4_forgetEntries_11 ?_
  refine vl_putIc (h := 1) (k0 := 14) (ki := 14) iu_X4 tyX4_ok nmX4 n1 (by decide) s1 rfl (by decide) fk_X4_61 rfl rfl rfl (vl_nI _) dX4_forgetEntries_12 hE (fun m3 hE => ?_)
  exact vl_ret (r := 0) rfl dX4_forgetEntries_15 hE (hP' m3)
theorem vy_X4_forgetNodes {nc : Nat} {S : vl_Sh} {sc : Nat × (Nat → Int32)} (n1 : 1 < nc) (s1 : S 1 = .inr (4, [0, 0, 5, 6, 7, 8, 9, 10, 11, 12, 0, 13, 0, 0, 0, 0, 0])) {d : Nat} (hd : 0 ≤ d) {Post : Int → vl_M → vl_M → Prop} {m ρ : vl_M} (hE : vl_ok (fun b : vl_M => Post 0 b ρ) (fn_X4_forgetNodes m)) : vl_V nc S sc kX4_forgetNodes d Post 0 [(0, .ref 1)] [] m ρ := by
  generalize hP : (fun b : vl_M => Post 0 b ρ) = P at hE
  have hP' : ∀ b : vl_M, P b → Post 0 b ρ := fun b h => by rw [← hP] at h; exact h
  clear hP
  unfold fn_X4_forgetNodes at hE
  refine vl_aload_n 0 rfl dX4_forgetNodes_0 ?_
  refine vl_sipush (by decide) dX4_forgetNodes_1 ?_
  refine vl_putIc (h := 1) (k0 := 15) (ki := 15) iu_X4 tyX4_ok nmX4 n1 (by decide) s1 rfl (by decide) fk_X4_64 rfl rfl rfl (vl_nI _) dX4_forgetNodes_4 hE (fun m1 hE => ?_)
  refine vl_aload_n 0 rfl dX4_forgetNodes_7 ?_
  refine vl_iconst dX4_forgetNodes_8 ?_
  refine vl_putIc (h := 1) (k0 := 16) (ki := 16) iu_X4 tyX4_ok nmX4 n1 (by decide) s1 rfl (by decide) fk_X4_67 rfl rfl rfl (vl_nI _) dX4_forgetNodes_9 hE (fun m2 hE => ?_)
  exact vl_ret (r := 0) rfl dX4_forgetNodes_12 hE (hP' m2)
set_option maxRecDepth 100000 in
set_option maxHeartbeats 4000000 in
theorem vc_X4_init {sc : Nat × (Nat → Int32)} {w : Nat} (hw : w ≤ 11) {N d : Nat} (hd : 1 ≤ d) {P : vl_M → Prop} {m ρ : vl_M} {a1 a2 : Int} (hE : vl_ok P (fn_X4_init w N m a1 a2)) : vl_U (((((((((0 + 1) + 1) + 1) + 1) + 1) + 1) + 1) + 1) + 1) (((((((((0 + (404 * w)) + 807) + 807) + 807) + 807) + 807) + 807) + 807) + 807) 2 (vl_us (vl_us (vl_sd w) 0 (.inr (7, [2, 2, 2, 2, 2, 2]))) 1 (.inr (4, [0, 0, 2, 2, 2, 2, 2, 2, 2, 2, 0, 2, 0, 0, 0, 0, 0]))) sc kX4_init d (fun _ c' T' m1 m2 => c' = 11 ∧ T' = (vl_us (vl_sd w) 0 (.inr (7, [2, 2, 2, 2, 2, 2]))) ∧ m2 = ρ ∧ P m1) 0 [(0, .ref 1), (1, vl_iv a1), (2, vl_iv a2)] [] m ρ := by
  unfold fn_X4_init at hE
  refine vu_aload_n 0 rfl dX4_init_0 ?_
  refine vu_obj ob_X4_3 ob_i ob_c (by omega) (Nat.le_of_ble_eq_true rfl) dX4_init_1 ?_
  refine vu_aload_n 0 rfl dX4_init_4 ?_
  refine vu_sipush (by decide) dX4_init_5 ?_
  refine vu_newa (bc := ((((((((0 + 1) + 1) + 1) + 1) + 1) + 1) + 1) + 1)) (bs := ((((((((0 + (404 * w)) + 807) + 807) + 807) + 807) + 807) + 807) + 807)) (n := 807) (μ' := (vl_z m 2)) (ρ' := ρ) (vl_us (vl_us (vl_sd w) 0 (.inr (7, [2, 2, 2, 2, 2, 2]))) 1 (.inr (4, [0, 0, 2, 2, 2, 2, 2, 2, 2, 2, 0, 2, 0, 0, 0, 0, 0]))) ar_c rfl (by decide) (by decide) rfl rfl rfl rfl (fun _ _ => rfl) (vl_g_zc (by decide)) dX4_init_8 ?_
  refine vu_gmc hE (fun m1 hE => ?_)
  refine vu_putR (h := 1) (h2 := 2) (k0 := 2) [0, 0, 5, 2, 2, 2, 2, 2, 2, 2, 0, 2, 0, 0, 0, 0, 0] iu_X4 tyX4_ok nmX4 (by decide) rfl (by decide) fk_X4_9 rfl ⟨rfl, rfl⟩ rfl (Or.inr ⟨_, rfl⟩) rfl dX4_init_10 ?_
  refine vu_aload_n 0 rfl dX4_init_13 ?_
  refine vu_sipush (by decide) dX4_init_14 ?_
  refine vu_newa (bc := (((((((0 + 1) + 1) + 1) + 1) + 1) + 1) + 1)) (bs := (((((((0 + (404 * w)) + 807) + 807) + 807) + 807) + 807) + 807)) (n := 807) (μ' := (vl_z m1 3)) (ρ' := ρ) (vl_us (vl_us (vl_sd w) 0 (.inr (7, [2, 2, 2, 2, 2, 2]))) 1 (.inr (4, [0, 0, 5, 2, 2, 2, 2, 2, 2, 2, 0, 2, 0, 0, 0, 0, 0]))) ar_c rfl (by decide) (by decide) rfl rfl rfl rfl (fun _ _ => rfl) (vl_g_zc (by decide)) dX4_init_17 ?_
  refine vu_gmc hE (fun m2 hE => ?_)
  refine vu_putR (h := 1) (h2 := 3) (k0 := 3) [0, 0, 5, 6, 2, 2, 2, 2, 2, 2, 0, 2, 0, 0, 0, 0, 0] iu_X4 tyX4_ok nmX4 (by decide) rfl (by decide) fk_X4_15 rfl ⟨rfl, rfl⟩ rfl (Or.inr ⟨_, rfl⟩) rfl dX4_init_19 ?_
  refine vu_aload_n 0 rfl dX4_init_22 ?_
  refine vu_sipush (by decide) dX4_init_23 ?_
  refine vu_newa (bc := ((((((0 + 1) + 1) + 1) + 1) + 1) + 1)) (bs := ((((((0 + (404 * w)) + 807) + 807) + 807) + 807) + 807)) (n := 807) (μ' := (vl_z m2 4)) (ρ' := ρ) (vl_us (vl_us (vl_sd w) 0 (.inr (7, [2, 2, 2, 2, 2, 2]))) 1 (.inr (4, [0, 0, 5, 6, 2, 2, 2, 2, 2, 2, 0, 2, 0, 0, 0, 0, 0]))) ar_c rfl (by decide) (by decide) rfl rfl rfl rfl (fun _ _ => rfl) (vl_g_zc (by decide)) dX4_init_26 ?_
  refine vu_gmc hE (fun m3 hE => ?_)
  refine vu_putR (h := 1) (h2 := 4) (k0 := 4) [0, 0, 5, 6, 7, 2, 2, 2, 2, 2, 0, 2, 0, 0, 0, 0, 0] iu_X4 tyX4_ok nmX4 (by decide) rfl (by decide) fk_X4_18 rfl ⟨rfl, rfl⟩ rfl (Or.inr ⟨_, rfl⟩) rfl dX4_init_28 ?_
  refine vu_aload_n 0 rfl dX4_init_31 ?_
  refine vu_sipush (by decide) dX4_init_32 ?_
  refine vu_newa (bc := (((((0 + 1) + 1) + 1) + 1) + 1)) (bs := (((((0 + (404 * w)) + 807) + 807) + 807) + 807)) (n := 807) (μ' := (vl_z m3 5)) (ρ' := ρ) (vl_us (vl_us (vl_sd w) 0 (.inr (7, [2, 2, 2, 2, 2, 2]))) 1 (.inr (4, [0, 0, 5, 6, 7, 2, 2, 2, 2, 2, 0, 2, 0, 0, 0, 0, 0]))) ar_c rfl (by decide) (by decide) rfl rfl rfl rfl (fun _ _ => rfl) (vl_g_zc (by decide)) dX4_init_35 ?_
  refine vu_gmc hE (fun m4 hE => ?_)
  refine vu_putR (h := 1) (h2 := 5) (k0 := 5) [0, 0, 5, 6, 7, 8, 2, 2, 2, 2, 0, 2, 0, 0, 0, 0, 0] iu_X4 tyX4_ok nmX4 (by decide) rfl (by decide) fk_X4_21 rfl ⟨rfl, rfl⟩ rfl (Or.inr ⟨_, rfl⟩) rfl dX4_init_37 ?_
  refine vu_aload_n 0 rfl dX4_init_40 ?_
  refine vu_sipush (by decide) dX4_init_41 ?_
  refine vu_newa (bc := ((((0 + 1) + 1) + 1) + 1)) (bs := ((((0 + (404 * w)) + 807) + 807) + 807)) (n := 807) (μ' := (vl_z m4 6)) (ρ' := ρ) (vl_us (vl_us (vl_sd w) 0 (.inr (7, [2, 2, 2, 2, 2, 2]))) 1 (.inr (4, [0, 0, 5, 6, 7, 8, 2, 2, 2, 2, 0, 2, 0, 0, 0, 0, 0]))) ar_c rfl (by decide) (by decide) rfl rfl rfl rfl (fun _ _ => rfl) (vl_g_zc (by decide)) dX4_init_44 ?_
  refine vu_gmc hE (fun m5 hE => ?_)
  refine vu_putR (h := 1) (h2 := 6) (k0 := 6) [0, 0, 5, 6, 7, 8, 9, 2, 2, 2, 0, 2, 0, 0, 0, 0, 0] iu_X4 tyX4_ok nmX4 (by decide) rfl (by decide) fk_X4_24 rfl ⟨rfl, rfl⟩ rfl (Or.inr ⟨_, rfl⟩) rfl dX4_init_46 ?_
  refine vu_aload_n 0 rfl dX4_init_49 ?_
  refine vu_sipush (by decide) dX4_init_50 ?_
  refine vu_newa (bc := (((0 + 1) + 1) + 1)) (bs := (((0 + (404 * w)) + 807) + 807)) (n := 807) (μ' := (vl_z m5 7)) (ρ' := ρ) (vl_us (vl_us (vl_sd w) 0 (.inr (7, [2, 2, 2, 2, 2, 2]))) 1 (.inr (4, [0, 0, 5, 6, 7, 8, 9, 2, 2, 2, 0, 2, 0, 0, 0, 0, 0]))) ar_c rfl (by decide) (by decide) rfl rfl rfl rfl (fun _ _ => rfl) (vl_g_zc (by decide)) dX4_init_53 ?_
  refine vu_gmc hE (fun m6 hE => ?_)
  refine vu_putR (h := 1) (h2 := 7) (k0 := 7) [0, 0, 5, 6, 7, 8, 9, 10, 2, 2, 0, 2, 0, 0, 0, 0, 0] iu_X4 tyX4_ok nmX4 (by decide) rfl (by decide) fk_X4_27 rfl ⟨rfl, rfl⟩ rfl (Or.inr ⟨_, rfl⟩) rfl dX4_init_55 ?_
  refine vu_aload_n 0 rfl dX4_init_58 ?_
  refine vu_sipush (by decide) dX4_init_59 ?_
  refine vu_newa (bc := ((0 + 1) + 1)) (bs := ((0 + (404 * w)) + 807)) (n := 807) (μ' := (vl_z m6 8)) (ρ' := ρ) (vl_us (vl_us (vl_sd w) 0 (.inr (7, [2, 2, 2, 2, 2, 2]))) 1 (.inr (4, [0, 0, 5, 6, 7, 8, 9, 10, 2, 2, 0, 2, 0, 0, 0, 0, 0]))) ar_c rfl (by decide) (by decide) rfl rfl rfl rfl (fun _ _ => rfl) (vl_g_zc (by decide)) dX4_init_62 ?_
  refine vu_gmc hE (fun m7 hE => ?_)
  refine vu_putR (h := 1) (h2 := 8) (k0 := 8) [0, 0, 5, 6, 7, 8, 9, 10, 11, 2, 0, 2, 0, 0, 0, 0, 0] iu_X4 tyX4_ok nmX4 (by decide) rfl (by decide) fk_X4_30 rfl ⟨rfl, rfl⟩ rfl (Or.inr ⟨_, rfl⟩) rfl dX4_init_64 ?_
  refine vu_aload_n 0 rfl dX4_init_67 ?_
  refine vu_sipush (by decide) dX4_init_68 ?_
  refine vu_newa (bc := (0 + 1)) (bs := (0 + (404 * w))) (n := 807) (μ' := (vl_z m7 9)) (ρ' := ρ) (vl_us (vl_us (vl_sd w) 0 (.inr (7, [2, 2, 2, 2, 2, 2]))) 1 (.inr (4, [0, 0, 5, 6, 7, 8, 9, 10, 11, 2, 0, 2, 0, 0, 0, 0, 0]))) ar_c rfl (by decide) (by decide) rfl rfl rfl rfl (fun _ _ => rfl) (vl_g_zc (by decide)) dX4_init_71 ?_
  refine vu_gmc hE (fun m8 hE => ?_)
  refine vu_putR (h := 1) (h2 := 9) (k0 := 9) [0, 0, 5, 6, 7, 8, 9, 10, 11, 12, 0, 2, 0, 0, 0, 0, 0] iu_X4 tyX4_ok nmX4 (by decide) rfl (by decide) fk_X4_33 rfl ⟨rfl, rfl⟩ rfl (Or.inr ⟨_, rfl⟩) rfl dX4_init_73 ?_
  refine vu_aload_n 0 rfl dX4_init_76 ?_
  refine vu_iload_n 1 rfl dX4_init_77 ?_
  refine vu_putFI (h := 1) (k0 := 0) (μ' := (vl_up m8 1 0 a1)) (ρ' := ρ) iu_X4 tyX4_ok nmX4 (by decide) rfl rfl (by decide) fk_X4_36 rfl ⟨rfl, rfl⟩ rfl rfl dX4_init_78 (vl_g_upc (by decide) _ _) ?_
  refine vu_gmc hE (fun m9 hE => ?_)
  refine vu_aload_n 0 rfl dX4_init_81 ?_
  refine vu_iload_n 2 rfl dX4_init_82 ?_
  refine vu_putFI (h := 1) (k0 := 1) (μ' := (vl_up m9 1 1 a2)) (ρ' := ρ) iu_X4 tyX4_ok nmX4 (by decide) rfl rfl (by decide) fk_X4_40 rfl ⟨rfl, rfl⟩ rfl rfl dX4_init_83 (vl_g_upc (by decide) _ _) ?_
  refine vu_gmc hE (fun m10 hE => ?_)
  refine vu_aload_n 0 rfl dX4_init_86 ?_
  refine vu_iload_n 1 rfl dX4_init_87 ?_
  refine vu_iconst dX4_init_88 ?_
  refine vu_iadd dX4_init_89 ?_
  refine vu_putFI (h := 1) (k0 := 10) (μ' := (vl_up m10 1 10 (a1 + 1))) (ρ' := ρ) iu_X4 tyX4_ok nmX4 (by decide) rfl rfl (by decide) fk_X4_43 rfl ⟨rfl, rfl⟩ rfl rfl dX4_init_90 (vl_g_upc (by decide) _ _) ?_
  refine vu_gmc hE (fun m11 hE => ?_)
  refine vu_aload_n 0 rfl dX4_init_93 ?_
  refine vu_sipush (by decide) dX4_init_94 ?_
  refine vu_aload_n 0 rfl dX4_init_97 ?_
  refine vu_getIc (h := 1) (k0 := 10) (ki := 10) iu_X4 (by decide) (by decide) rfl rfl (by decide) fk_X4_43 rfl rfl dX4_init_98 ?_
  refine vu_imul dX4_init_101 ?_
  obtain ⟨g12, hE⟩ := vl_ok_gd hE
  refine vu_newa (bc := 0) (bs := 0) (n := (404 * w)) (μ' := (vl_z m11 10)) (ρ' := ρ) (vl_us (vl_us (vl_sd w) 0 (.inr (7, [2, 2, 2, 2, 2, 2]))) 1 (.inr (4, [0, 0, 5, 6, 7, 8, 9, 10, 11, 12, 0, 2, 0, 0, 0, 0, 0]))) ar_c (g12.trans (vl_c404 w).symm) (by omega) (by decide) rfl rfl rfl rfl (fun _ _ => rfl) (vl_g_zc (by decide)) dX4_init_102 ?_
  refine vu_gmc hE (fun m13 hE => ?_)
  refine vu_putR (h := 1) (h2 := 10) (k0 := 11) [0, 0, 5, 6, 7, 8, 9, 10, 11, 12, 0, 13, 0, 0, 0, 0, 0] iu_X4 tyX4_ok nmX4 (by decide) rfl (by decide) fk_X4_46 rfl ⟨rfl, rfl⟩ rfl (Or.inr ⟨_, rfl⟩) rfl dX4_init_104 ?_
  refine vu_drop rfl ?_
  refine vu_aload_n 0 rfl dX4_init_107 ?_
  refine vu_VcWV (K' := kX4_forgetEntries) (d' := 0) (h := 1) (As := []) (st := []) lk_X4_49 (fun _ => rfl) (by omega) (by decide) rfl rfl rfl (Nat.le_of_ble_eq_true rfl) rfl (Nat.le_of_ble_eq_true rfl) dX4_init_108 hE (fun _ h => vy_X4_forgetEntries (by decide) rfl (Nat.le_refl _) h) (fun m15 hE => ?_)
  refine vu_aload_n 0 rfl dX4_init_111 ?_
  refine vu_VcWV (K' := kX4_forgetNodes) (d' := 0) (h := 1) (As := []) (st := []) lk_X4_52 (fun _ => rfl) (by omega) (by decide) rfl rfl rfl (Nat.le_of_ble_eq_true rfl) rfl (Nat.le_of_ble_eq_true rfl) dX4_init_112 hE (fun _ h => vy_X4_forgetNodes (by decide) rfl (Nat.le_refl _) h) (fun m17 hE => ?_)
  exact vu_retE (r := 0) rfl dX4_init_115 hE (fun h => ⟨rfl, rfl, rfl, h⟩)
set_option maxRecDepth 100000 in
set_option maxHeartbeats 4000000 in
theorem vc_X3_init {sc : Nat × (Nat → Int32)} {w : Nat} (hw : w ≤ 11) {N d : Nat} (hd : 1 ≤ d) {P : vl_M → Prop} {m ρ : vl_M} (hE : vl_ok P (fn_X3_init w N m )) : vl_U (0 + 1) (0 + w) 15 (vl_us (vl_us (vl_us (vl_sd w) 0 (.inr (7, [4, 2, 2, 2, 2, 2]))) 11 (.inr (5, [4, 2, 15, 0, 16, 0, 0, 0, 0, 0]))) 14 (.inr (3, [2, 2, 0, 0, 0]))) sc kX3_init d (fun _ c' T' m1 m2 => c' = 16 ∧ T' = (vl_us (vl_us (vl_sd w) 0 (.inr (7, [4, 2, 2, 2, 2, 2]))) 11 (.inr (5, [4, 2, 15, 0, 16, 0, 0, 0, 0, 0]))) ∧ m2 = ρ ∧ P m1) 0 [(0, .ref 14), (1, .ref 1)] [] m ρ := by
  unfold fn_X3_init at hE
  refine vu_aload_n 0 rfl dX3_init_0 ?_
  refine vu_obj ob_X3_3 ob_i ob_c (by omega) (Nat.le_of_ble_eq_true rfl) dX3_init_1 ?_
  refine vu_aload_n 0 rfl dX3_init_4 ?_
  refine vu_aload_n 1 rfl dX3_init_5 ?_
  refine vu_putR (h := 14) (h2 := 1) (k0 := 0) [4, 2, 0, 0, 0] iu_X3 tyX3_ok nmX3 (by decide) rfl (by decide) fk_X3_9 rfl ⟨rfl, rfl⟩ rfl (Or.inl ⟨_, rfl⟩) rfl dX3_init_6 ?_
  refine vu_aload_n 0 rfl dX3_init_9 ?_
  refine vu_aload_n 1 rfl dX3_init_10 ?_
  refine vu_getIc (h := 1) (k0 := 10) (ki := 10) iu_X4 (by decide) (by decide) rfl rfl (by decide) fk_X3_15 rfl rfl dX3_init_11 ?_
  obtain ⟨g1, hE⟩ := vl_ok_gd hE
  refine vu_newa (bc := 0) (bs := 0) (n := w) (μ' := (vl_z m 15)) (ρ' := ρ) (vl_us (vl_us (vl_us (vl_sd w) 0 (.inr (7, [4, 2, 2, 2, 2, 2]))) 11 (.inr (5, [4, 2, 15, 0, 16, 0, 0, 0, 0, 0]))) 14 (.inr (3, [4, 2, 0, 0, 0]))) ar_c g1 (by omega) (by decide) rfl rfl rfl rfl (fun _ _ => rfl) (vl_g_zc (by decide)) dX3_init_14 ?_
  refine vu_gmc hE (fun m2 hE => ?_)
  refine vu_putR (h := 14) (h2 := 15) (k0 := 1) [4, 18, 0, 0, 0] iu_X3 tyX3_ok nmX3 (by decide) rfl (by decide) fk_X3_21 rfl ⟨rfl, rfl⟩ rfl (Or.inr ⟨_, rfl⟩) rfl dX3_init_16 ?_
  refine vu_drop rfl ?_
  exact vu_retE (r := 0) rfl dX3_init_19 hE (fun h => ⟨rfl, rfl, rfl, h⟩)
set_option maxRecDepth 100000 in
set_option maxHeartbeats 4000000 in
theorem vc_X5_init {sc : Nat × (Nat → Int32)} {w : Nat} (hw : w ≤ 11) {N d : Nat} (hd : 64 ≤ d) {P : vl_M → Prop} {m ρ : vl_M} (hE : vl_ok P (fn_X5_init w N m )) : vl_U ((((0 + (0 + 1)) + 1) + 1) + 1) ((((0 + (0 + w)) + 5) + 404) + 160) 12 (vl_us (vl_us (vl_sd w) 0 (.inr (7, [4, 2, 2, 2, 2, 2]))) 11 (.inr (5, [2, 2, 2, 0, 2, 0, 0, 0, 0, 0]))) sc kX5_init d (fun _ c' T' m1 m2 => c' = 16 ∧ T' = (vl_us (vl_sd w) 0 (.inr (7, [4, 2, 2, 2, 2, 2]))) ∧ m2 = ρ ∧ P m1) 0 [(0, .ref 11), (1, .ref 1)] [] m ρ := by
  unfold fn_X5_init at hE
  refine vu_aload_n 0 rfl dX5_init_0 ?_
  refine vu_obj ob_X5_3 ob_i ob_c (by omega) (Nat.le_of_ble_eq_true rfl) dX5_init_1 ?_
  refine vu_aload_n 0 rfl dX5_init_4 ?_
  refine vu_sipush (by decide) dX5_init_5 ?_
  refine vu_newa (bc := (((0 + (0 + 1)) + 1) + 1)) (bs := (((0 + (0 + w)) + 5) + 404)) (n := 160) (μ' := (vl_z m 12)) (ρ' := ρ) (vl_us (vl_us (vl_sd w) 0 (.inr (7, [4, 2, 2, 2, 2, 2]))) 11 (.inr (5, [2, 2, 2, 0, 2, 0, 0, 0, 0, 0]))) ar_c rfl (by decide) (by decide) rfl rfl rfl rfl (fun _ _ => rfl) (vl_g_zc (by decide)) dX5_init_8 ?_
  refine vu_gmc hE (fun m1 hE => ?_)
  refine vu_putR (h := 11) (h2 := 12) (k0 := 2) [2, 2, 15, 0, 2, 0, 0, 0, 0, 0] iu_X5 tyX5_ok nmX5 (by decide) rfl (by decide) fk_X5_9 rfl ⟨rfl, rfl⟩ rfl (Or.inr ⟨_, rfl⟩) rfl dX5_init_10 ?_
  refine vu_aload_n 0 rfl dX5_init_13 ?_
  refine vu_sipush (by decide) dX5_init_14 ?_
  refine vu_newa (bc := ((0 + (0 + 1)) + 1)) (bs := ((0 + (0 + w)) + 5)) (n := 404) (μ' := (vl_z m1 13)) (ρ' := ρ) (vl_us (vl_us (vl_sd w) 0 (.inr (7, [4, 2, 2, 2, 2, 2]))) 11 (.inr (5, [2, 2, 15, 0, 2, 0, 0, 0, 0, 0]))) ar_c rfl (by decide) (by decide) rfl rfl rfl rfl (fun _ _ => rfl) (vl_g_zc (by decide)) dX5_init_17 ?_
  refine vu_gmc hE (fun m2 hE => ?_)
  refine vu_putR (h := 11) (h2 := 13) (k0 := 4) [2, 2, 15, 0, 16, 0, 0, 0, 0, 0] iu_X5 tyX5_ok nmX5 (by decide) rfl (by decide) fk_X5_15 rfl ⟨rfl, rfl⟩ rfl (Or.inr ⟨_, rfl⟩) rfl dX5_init_19 ?_
  refine vu_aload_n 0 rfl dX5_init_22 ?_
  refine vu_aload_n 1 rfl dX5_init_23 ?_
  refine vu_putR (h := 11) (h2 := 1) (k0 := 0) [4, 2, 15, 0, 16, 0, 0, 0, 0, 0] iu_X5 tyX5_ok nmX5 (by decide) rfl (by decide) fk_X5_18 rfl ⟨rfl, rfl⟩ rfl (Or.inl ⟨_, rfl⟩) rfl dX5_init_24 ?_
  refine vu_aload_n 0 rfl dX5_init_27 ?_
  refine vu_new (bc := (0 + (0 + 1))) (bs := (0 + (0 + w))) (N := 5) (μ' := (vl_z m2 14)) (ρ' := ρ) (vl_us (vl_us (vl_us (vl_sd w) 0 (.inr (7, [4, 2, 2, 2, 2, 2]))) 11 (.inr (5, [4, 2, 15, 0, 16, 0, 0, 0, 0, 0]))) 14 (.inr (3, [2, 2, 0, 0, 0]))) iu_X3 tyX3_ok cl_X5_22 in_X3 ii_X3 rfl rfl df_X3 (by decide) rfl rfl rfl (if_pos rfl) (fun h hh => if_neg (by omega)) (vl_g_zc (by decide)) dX5_init_28 ?_
  refine vu_gmc hE (fun m3 hE => ?_)
  refine vu_dup rfl dX5_init_31 ?_
  refine vu_aload_n 1 rfl dX5_init_32 ?_
  refine vu_Ic (K' := kX3_init) (d' := 1) (bc := 0) (bs := 0) (bc' := (0 + 1)) (bs' := (0 + w)) (nc' := 16) (S' := (vl_us (vl_us (vl_sd w) 0 (.inr (7, [4, 2, 2, 2, 2, 2]))) 11 (.inr (5, [4, 2, 15, 0, 16, 0, 0, 0, 0, 0])))) (h := 14) (As := [.ref 1]) (st := [.ref 14, .ref 11]) li_X5_24 (by omega) (by decide) rfl (Nat.le_of_ble_eq_true rfl) rfl (Nat.le_of_ble_eq_true rfl) rfl rfl dX5_init_33 hE (fun _ h => vc_X3_init hw (Nat.le_refl _) h) (fun m4 hE => ?_)
  refine vu_putR (h := 11) (h2 := 14) (k0 := 1) [4, 17, 15, 0, 16, 0, 0, 0, 0, 0] iu_X5 tyX5_ok nmX5 (by decide) rfl (by decide) fk_X5_27 rfl ⟨rfl, rfl⟩ rfl (Or.inl ⟨_, rfl⟩) rfl dX5_init_36 ?_
  refine vu_drop rfl ?_
  refine vu_aload_n 0 rfl dX5_init_39 ?_
  refine vu_VcWV (K' := kX5_startEmpty) (d' := 63) (h := 11) (As := []) (st := []) lk_X5_31 (fun _ => rfl) (by omega) (by decide) rfl rfl rfl (Nat.le_of_ble_eq_true rfl) rfl (Nat.le_of_ble_eq_true rfl) dX5_init_40 hE (fun _ h => vx_X5_startEmpty (w := w) ⟨by decide, fun h h1 h2 => if_neg (by omega), hw⟩ (Nat.le_refl _) h) (fun m6 hE => ?_)
  exact vu_retE (r := 0) rfl dX5_init_43 hE (fun h => ⟨rfl, rfl, rfl, h⟩)
set_option maxRecDepth 100000 in
set_option maxHeartbeats 4000000 in
theorem vc_X1_init {sc : Nat × (Nat → Int32)} {w : Nat} (hw : w ≤ 11) {N d : Nat} (hd : 1 ≤ d) {P : vl_M → Prop} {m ρ : vl_M} (hE : vl_ok P (fn_X1_init w N m )) : vl_U (0 + 1) (0 + 400) 17 (vl_us (vl_us (vl_sd w) 0 (.inr (7, [4, 14, 2, 2, 2, 2]))) 16 (.inr (1, [2, 2, 2, 0]))) sc kX1_init d (fun _ c' T' m1 m2 => c' = 18 ∧ T' = (vl_us (vl_sd w) 0 (.inr (7, [4, 14, 2, 2, 2, 2]))) ∧ m2 = ρ ∧ P m1) 0 [(0, .ref 16), (1, .ref 1), (2, .ref 11)] [] m ρ := by
  unfold fn_X1_init at hE
  refine vu_aload_n 0 rfl dX1_init_0 ?_
  refine vu_obj ob_X1_3 ob_i ob_c (by omega) (Nat.le_of_ble_eq_true rfl) dX1_init_1 ?_
  refine vu_aload_n 0 rfl dX1_init_4 ?_
  refine vu_sipush (by decide) dX1_init_5 ?_
  refine vu_newa (bc := 0) (bs := 0) (n := 400) (μ' := (vl_z m 17)) (ρ' := ρ) (vl_us (vl_us (vl_sd w) 0 (.inr (7, [4, 14, 2, 2, 2, 2]))) 16 (.inr (1, [2, 2, 2, 0]))) ar_c rfl (by decide) (by decide) rfl rfl rfl rfl (fun _ _ => rfl) (vl_g_zc (by decide)) dX1_init_8 ?_
  refine vu_gmc hE (fun m1 hE => ?_)
  refine vu_putR (h := 16) (h2 := 17) (k0 := 2) [2, 2, 20, 0] iu_X1 tyX1_ok nmX1 (by decide) rfl (by decide) fk_X1_9 rfl ⟨rfl, rfl⟩ rfl (Or.inr ⟨_, rfl⟩) rfl dX1_init_10 ?_
  refine vu_aload_n 0 rfl dX1_init_13 ?_
  refine vu_aload_n 1 rfl dX1_init_14 ?_
  refine vu_putR (h := 16) (h2 := 1) (k0 := 0) [4, 2, 20, 0] iu_X1 tyX1_ok nmX1 (by decide) rfl (by decide) fk_X1_15 rfl ⟨rfl, rfl⟩ rfl (Or.inl ⟨_, rfl⟩) rfl dX1_init_15 ?_
  refine vu_aload_n 0 rfl dX1_init_18 ?_
  refine vu_aload_n 2 rfl dX1_init_19 ?_
  refine vu_putR (h := 16) (h2 := 11) (k0 := 1) [4, 14, 20, 0] iu_X1 tyX1_ok nmX1 (by decide) rfl (by decide) fk_X1_19 rfl ⟨rfl, rfl⟩ rfl (Or.inl ⟨_, rfl⟩) rfl dX1_init_20 ?_
  refine vu_drop rfl ?_
  exact vu_retE (r := 0) rfl dX1_init_23 hE (fun h => ⟨rfl, rfl, rfl, h⟩)
set_option maxRecDepth 100000 in
set_option maxHeartbeats 4000000 in
theorem vc_X6_init {sc : Nat × (Nat → Int32)} {w : Nat} (hw : w ≤ 11) {N d : Nat} (hd : 1 ≤ d) {P : vl_M → Prop} {m ρ : vl_M} (hE : vl_ok P (fn_X6_init w N m )) : vl_U 0 0 19 (vl_us (vl_us (vl_sd w) 0 (.inr (7, [4, 14, 19, 2, 2, 2]))) 18 (.inr (6, [2, 2, 0, 0, 0, 0, 0]))) sc kX6_init d (fun _ c' T' m1 m2 => c' = 19 ∧ T' = (vl_us (vl_sd w) 0 (.inr (7, [4, 14, 19, 2, 2, 2]))) ∧ m2 = ρ ∧ P m1) 0 [(0, .ref 18), (1, .ref 1), (2, .ref 11)] [] m ρ := by
  unfold fn_X6_init at hE
  refine vu_aload_n 0 rfl dX6_init_0 ?_
  refine vu_obj ob_X6_3 ob_i ob_c (by omega) (Nat.le_of_ble_eq_true rfl) dX6_init_1 ?_
  refine vu_aload_n 0 rfl dX6_init_4 ?_
  refine vu_aload_n 1 rfl dX6_init_5 ?_
  refine vu_putR (h := 18) (h2 := 1) (k0 := 0) [4, 2, 0, 0, 0, 0, 0] iu_X6 tyX6_ok nmX6 (by decide) rfl (by decide) fk_X6_9 rfl ⟨rfl, rfl⟩ rfl (Or.inl ⟨_, rfl⟩) rfl dX6_init_6 ?_
  refine vu_aload_n 0 rfl dX6_init_9 ?_
  refine vu_aload_n 2 rfl dX6_init_10 ?_
  refine vu_putR (h := 18) (h2 := 11) (k0 := 1) [4, 14, 0, 0, 0, 0, 0] iu_X6 tyX6_ok nmX6 (by decide) rfl (by decide) fk_X6_15 rfl ⟨rfl, rfl⟩ rfl (Or.inl ⟨_, rfl⟩) rfl dX6_init_11 ?_
  refine vu_drop rfl ?_
  exact vu_retE (r := 0) rfl dX6_init_14 hE (fun h => ⟨rfl, rfl, rfl, h⟩)
set_option maxRecDepth 100000 in
set_option maxHeartbeats 4000000 in
theorem vc_X2_init {sc : Nat × (Nat → Int32)} {w : Nat} (hw : w ≤ 11) {N d : Nat} (hd : 1 ≤ d) {P : vl_M → Prop} {m ρ : vl_M} (hE : vl_ok P (fn_X2_init w N m )) : vl_U ((0 + 1) + 1) ((0 + 807) + 807) 20 (vl_us (vl_us (vl_sd w) 0 (.inr (7, [4, 14, 19, 21, 2, 2]))) 19 (.inr (2, [2, 2, 2, 2, 0, 0, 0]))) sc kX2_init d (fun _ c' T' m1 m2 => c' = 22 ∧ T' = (vl_us (vl_sd w) 0 (.inr (7, [4, 14, 19, 21, 2, 2]))) ∧ m2 = ρ ∧ P m1) 0 [(0, .ref 19), (1, .ref 1), (2, .ref 11)] [] m ρ := by
  unfold fn_X2_init at hE
  refine vu_aload_n 0 rfl dX2_init_0 ?_
  refine vu_obj ob_X2_3 ob_i ob_c (by omega) (Nat.le_of_ble_eq_true rfl) dX2_init_1 ?_
  refine vu_aload_n 0 rfl dX2_init_4 ?_
  refine vu_sipush (by decide) dX2_init_5 ?_
  refine vu_newa (bc := (0 + 1)) (bs := (0 + 807)) (n := 807) (μ' := (vl_z m 20)) (ρ' := ρ) (vl_us (vl_us (vl_sd w) 0 (.inr (7, [4, 14, 19, 21, 2, 2]))) 19 (.inr (2, [2, 2, 2, 2, 0, 0, 0]))) ar_c rfl (by decide) (by decide) rfl rfl rfl rfl (fun _ _ => rfl) (vl_g_zc (by decide)) dX2_init_8 ?_
  refine vu_gmc hE (fun m1 hE => ?_)
  refine vu_putR (h := 19) (h2 := 20) (k0 := 2) [2, 2, 23, 2, 0, 0, 0] iu_X2 tyX2_ok nmX2 (by decide) rfl (by decide) fk_X2_9 rfl ⟨rfl, rfl⟩ rfl (Or.inr ⟨_, rfl⟩) rfl dX2_init_10 ?_
  refine vu_aload_n 0 rfl dX2_init_13 ?_
  refine vu_sipush (by decide) dX2_init_14 ?_
  refine vu_newa (bc := 0) (bs := 0) (n := 807) (μ' := (vl_z m1 21)) (ρ' := ρ) (vl_us (vl_us (vl_sd w) 0 (.inr (7, [4, 14, 19, 21, 2, 2]))) 19 (.inr (2, [2, 2, 23, 2, 0, 0, 0]))) ar_c rfl (by decide) (by decide) rfl rfl rfl rfl (fun _ _ => rfl) (vl_g_zc (by decide)) dX2_init_17 ?_
  refine vu_gmc hE (fun m2 hE => ?_)
  refine vu_putR (h := 19) (h2 := 21) (k0 := 3) [2, 2, 23, 24, 0, 0, 0] iu_X2 tyX2_ok nmX2 (by decide) rfl (by decide) fk_X2_15 rfl ⟨rfl, rfl⟩ rfl (Or.inr ⟨_, rfl⟩) rfl dX2_init_19 ?_
  refine vu_aload_n 0 rfl dX2_init_22 ?_
  refine vu_iconst dX2_init_23 ?_
  refine vu_putIc (h := 19) (k0 := 6) (ki := 6) iu_X2 tyX2_ok nmX2 (by decide) (by decide) rfl rfl (by decide) fk_X2_18 rfl rfl rfl (vl_nI _) dX2_init_24 hE (fun m3 hE => ?_)
  refine vu_aload_n 0 rfl dX2_init_27 ?_
  refine vu_aload_n 1 rfl dX2_init_28 ?_
  refine vu_putR (h := 19) (h2 := 1) (k0 := 0) [4, 2, 23, 24, 0, 0, 0] iu_X2 tyX2_ok nmX2 (by decide) rfl (by decide) fk_X2_22 rfl ⟨rfl, rfl⟩ rfl (Or.inl ⟨_, rfl⟩) rfl dX2_init_29 ?_
  refine vu_aload_n 0 rfl dX2_init_32 ?_
  refine vu_aload_n 2 rfl dX2_init_33 ?_
  refine vu_putR (h := 19) (h2 := 11) (k0 := 1) [4, 14, 23, 24, 0, 0, 0] iu_X2 tyX2_ok nmX2 (by decide) rfl (by decide) fk_X2_26 rfl ⟨rfl, rfl⟩ rfl (Or.inl ⟨_, rfl⟩) rfl dX2_init_34 ?_
  refine vu_drop rfl ?_
  exact vu_retE (r := 0) rfl dX2_init_37 hE (fun h => ⟨rfl, rfl, rfl, h⟩)
set_option maxRecDepth 100000 in
set_option maxHeartbeats 4000000 in
theorem vc_X0_init {sc : Nat × (Nat → Int32)} {w : Nat} (hw : w ≤ 11) {N d : Nat} (hd : 1 ≤ d) {P : vl_M → Prop} {m ρ : vl_M} (hE : vl_ok P (fn_X0_init w N m )) : vl_U 0 0 23 (vl_us (vl_us (vl_sd w) 0 (.inr (7, [4, 14, 19, 21, 22, 2]))) 22 (.inr (0, [2, 2]))) sc kX0_init d (fun _ c' T' m1 m2 => c' = 23 ∧ T' = (vl_us (vl_sd w) 0 (.inr (7, [4, 14, 19, 21, 22, 2]))) ∧ m2 = ρ ∧ P m1) 0 [(0, .ref 22), (1, .ref 1), (2, .ref 11)] [] m ρ := by
  unfold fn_X0_init at hE
  refine vu_aload_n 0 rfl dX0_init_0 ?_
  refine vu_obj ob_X0_3 ob_i ob_c (by omega) (Nat.le_of_ble_eq_true rfl) dX0_init_1 ?_
  refine vu_aload_n 0 rfl dX0_init_4 ?_
  refine vu_aload_n 1 rfl dX0_init_5 ?_
  refine vu_putR (h := 22) (h2 := 1) (k0 := 0) [4, 2] iu_X0 tyX0_ok nmX0 (by decide) rfl (by decide) fk_X0_9 rfl ⟨rfl, rfl⟩ rfl (Or.inl ⟨_, rfl⟩) rfl dX0_init_6 ?_
  refine vu_aload_n 0 rfl dX0_init_9 ?_
  refine vu_aload_n 2 rfl dX0_init_10 ?_
  refine vu_putR (h := 22) (h2 := 11) (k0 := 1) [4, 14] iu_X0 tyX0_ok nmX0 (by decide) rfl (by decide) fk_X0_15 rfl ⟨rfl, rfl⟩ rfl (Or.inl ⟨_, rfl⟩) rfl dX0_init_11 ?_
  refine vu_drop rfl ?_
  exact vu_retE (r := 0) rfl dX0_init_14 hE (fun h => ⟨rfl, rfl, rfl, h⟩)
set_option maxRecDepth 100000 in
set_option maxHeartbeats 4000000 in
theorem vc_X7_init {sc : Nat × (Nat → Int32)} {w : Nat} (hw : w ≤ 11) {N d : Nat} (hd : 65 ≤ d) {P : vl_M → Prop} {m ρ : vl_M} {a1 a2 : Int} (hE : vl_ok P (fn_X7_init w N m a1 a2)) : vl_U ((((((((((((0 + 0) + 1) + ((0 + 1) + 1)) + 1) + 0) + 1) + (0 + 1)) + 1) + ((((0 + (0 + 1)) + 1) + 1) + 1)) + 1) + (((((((((0 + 1) + 1) + 1) + 1) + 1) + 1) + 1) + 1) + 1)) + 1) ((((((((((((0 + 0) + 2) + ((0 + 807) + 807)) + 7) + 0) + 7) + (0 + 400)) + 4) + ((((0 + (0 + w)) + 5) + 404) + 160)) + 10) + (((((((((0 + (404 * w)) + 807) + 807) + 807) + 807) + 807) + 807) + 807) + 807)) + 17) 1 (vl_us (vl_sd w) 0 (.inr (7, [2, 2, 2, 2, 2, 2]))) sc kX7_init d (fun _ c' T' m1 m2 => c' = 23 ∧ T' = (vl_sd w) ∧ m2 = ρ ∧ P m1) 0 [(0, .ref 0), (1, vl_iv a1), (2, vl_iv a2)] [] m ρ := by
  unfold fn_X7_init at hE
  refine vu_aload_n 0 rfl dX7_init_0 ?_
  refine vu_obj ob_X7_3 ob_i ob_c (by omega) (Nat.le_of_ble_eq_true rfl) dX7_init_1 ?_
  refine vu_iconst dX7_init_4 ?_
  refine vu_bipush (by decide) dX7_init_5 ?_
  refine vu_iload_n 1 rfl dX7_init_7 ?_
  obtain ⟨g1, hE⟩ := vl_ok_gd hE
  refine vu_mmin lk_X7_9 (by omega) (by decide) g1 (Nat.le_of_ble_eq_true rfl) dX7_init_8 ?_
  obtain ⟨g2, hE⟩ := vl_ok_gd hE
  refine vu_mmax lk_X7_15 (by omega) (by decide) g2 (Nat.le_of_ble_eq_true rfl) dX7_init_11 ?_
  refine vu_istore_n rfl (fun v3 => [(3, vl_iv v3), (0, .ref 0), (1, vl_iv a1), (2, vl_iv a2)]) dX7_init_14 (by decide) (fun _ => rfl) hE (fun v3 hE => ?_)
  refine vu_aload_n 1 rfl dX7_init_15 ?_
  refine vu_new (bc := (((((((((((0 + 0) + 1) + ((0 + 1) + 1)) + 1) + 0) + 1) + (0 + 1)) + 1) + ((((0 + (0 + 1)) + 1) + 1) + 1)) + 1) + (((((((((0 + 1) + 1) + 1) + 1) + 1) + 1) + 1) + 1) + 1))) (bs := (((((((((((0 + 0) + 2) + ((0 + 807) + 807)) + 7) + 0) + 7) + (0 + 400)) + 4) + ((((0 + (0 + w)) + 5) + 404) + 160)) + 10) + (((((((((0 + (404 * w)) + 807) + 807) + 807) + 807) + 807) + 807) + 807) + 807))) (N := 17) (μ' := (vl_z m 1)) (ρ' := ρ) (vl_us (vl_us (vl_sd w) 0 (.inr (7, [2, 2, 2, 2, 2, 2]))) 1 (.inr (4, [0, 0, 2, 2, 2, 2, 2, 2, 2, 2, 0, 2, 0, 0, 0, 0, 0]))) iu_X4 tyX4_ok cl_X7_18 in_X4 ii_X4 rfl rfl df_X4 (by decide) rfl rfl rfl (if_pos rfl) (fun h hh => if_neg (by omega)) (vl_g_zc (by decide)) dX7_init_16 ?_
  refine vu_gmc hE (fun m4 hE => ?_)
  refine vu_dup rfl dX7_init_19 ?_
  refine vu_iload_n 0 rfl dX7_init_20 ?_
  refine vu_iconst dX7_init_21 ?_
  refine vu_iload_n 0 rfl dX7_init_22 ?_
  refine vu_iconst dX7_init_23 ?_
  obtain ⟨g5, hE⟩ := vl_ok_gd hE
  refine vu_idiv g5 (by decide) dX7_init_24 ?_
  refine vu_iload_n 3 rfl dX7_init_25 ?_
  obtain ⟨g6, hE⟩ := vl_ok_gd hE
  obtain ⟨g7, hE⟩ := vl_ok_gd hE
  refine vu_mmin lk_X7_9 (by omega) g6 g7 (Nat.le_of_ble_eq_true rfl) dX7_init_26 ?_
  obtain ⟨g8, hE⟩ := vl_ok_gd hE
  refine vu_mmax lk_X7_15 (by omega) (by decide) g8 (Nat.le_of_ble_eq_true rfl) dX7_init_29 ?_
  refine vu_Ic (K' := kX4_init) (d' := 1) (bc := ((((((((((0 + 0) + 1) + ((0 + 1) + 1)) + 1) + 0) + 1) + (0 + 1)) + 1) + ((((0 + (0 + 1)) + 1) + 1) + 1)) + 1)) (bs := ((((((((((0 + 0) + 2) + ((0 + 807) + 807)) + 7) + 0) + 7) + (0 + 400)) + 4) + ((((0 + (0 + w)) + 5) + 404) + 160)) + 10)) (bc' := (((((((((0 + 1) + 1) + 1) + 1) + 1) + 1) + 1) + 1) + 1)) (bs' := (((((((((0 + (404 * w)) + 807) + 807) + 807) + 807) + 807) + 807) + 807) + 807)) (nc' := 11) (S' := (vl_us (vl_sd w) 0 (.inr (7, [2, 2, 2, 2, 2, 2])))) (h := 1) (As := [vl_iv v3, vl_iv (max 2 (min (v3 / 2) a2))]) (st := [.ref 1, .ref 0]) li_X7_20 (by omega) (by decide) rfl (Nat.le_of_ble_eq_true rfl) rfl (Nat.le_of_ble_eq_true rfl) rfl rfl dX7_init_32 hE (fun _ h => vc_X4_init hw (Nat.le_refl _) h) (fun m9 hE => ?_)
  refine vu_putR (h := 0) (h2 := 1) (k0 := 0) [4, 2, 2, 2, 2, 2] iu_X7 tyX7_ok nmX7 (by decide) rfl (by decide) fk_X7_23 rfl ⟨rfl, rfl⟩ rfl (Or.inl ⟨_, rfl⟩) rfl dX7_init_35 ?_
  refine vu_aload_n 1 rfl dX7_init_38 ?_
  refine vu_new (bc := (((((((((0 + 0) + 1) + ((0 + 1) + 1)) + 1) + 0) + 1) + (0 + 1)) + 1) + ((((0 + (0 + 1)) + 1) + 1) + 1))) (bs := (((((((((0 + 0) + 2) + ((0 + 807) + 807)) + 7) + 0) + 7) + (0 + 400)) + 4) + ((((0 + (0 + w)) + 5) + 404) + 160))) (N := 10) (μ' := (vl_z m9 11)) (ρ' := ρ) (vl_us (vl_us (vl_sd w) 0 (.inr (7, [4, 2, 2, 2, 2, 2]))) 11 (.inr (5, [2, 2, 2, 0, 2, 0, 0, 0, 0, 0]))) iu_X5 tyX5_ok cl_X7_27 in_X5 ii_X5 rfl rfl df_X5 (by decide) rfl rfl rfl (if_pos rfl) (fun h hh => if_neg (by omega)) (vl_g_zc (by decide)) dX7_init_39 ?_
  refine vu_gmc hE (fun m10 hE => ?_)
  refine vu_dup rfl dX7_init_42 ?_
  refine vu_aload_n 1 rfl dX7_init_43 ?_
  refine vu_getR (h := 0) (k0 := 0) (h2 := 1) iu_X7 (by decide) rfl rfl (by decide) fk_X7_23 rfl dX7_init_44 ?_
  refine vu_Ic (K' := kX5_init) (d' := 64) (bc := ((((((((0 + 0) + 1) + ((0 + 1) + 1)) + 1) + 0) + 1) + (0 + 1)) + 1)) (bs := ((((((((0 + 0) + 2) + ((0 + 807) + 807)) + 7) + 0) + 7) + (0 + 400)) + 4)) (bc' := ((((0 + (0 + 1)) + 1) + 1) + 1)) (bs' := ((((0 + (0 + w)) + 5) + 404) + 160)) (nc' := 16) (S' := (vl_us (vl_sd w) 0 (.inr (7, [4, 2, 2, 2, 2, 2])))) (h := 11) (As := [.ref 1]) (st := [.ref 11, .ref 0]) li_X7_29 (by omega) (by decide) rfl (Nat.le_of_ble_eq_true rfl) rfl (Nat.le_of_ble_eq_true rfl) rfl rfl dX7_init_47 hE (fun _ h => vc_X5_init hw (Nat.le_refl _) h) (fun m11 hE => ?_)
  refine vu_putR (h := 0) (h2 := 11) (k0 := 1) [4, 14, 2, 2, 2, 2] iu_X7 tyX7_ok nmX7 (by decide) rfl (by decide) fk_X7_32 rfl ⟨rfl, rfl⟩ rfl (Or.inl ⟨_, rfl⟩) rfl dX7_init_50 ?_
  refine vu_aload_n 1 rfl dX7_init_53 ?_
  refine vu_new (bc := (((((((0 + 0) + 1) + ((0 + 1) + 1)) + 1) + 0) + 1) + (0 + 1))) (bs := (((((((0 + 0) + 2) + ((0 + 807) + 807)) + 7) + 0) + 7) + (0 + 400))) (N := 4) (μ' := (vl_z m11 16)) (ρ' := ρ) (vl_us (vl_us (vl_sd w) 0 (.inr (7, [4, 14, 2, 2, 2, 2]))) 16 (.inr (1, [2, 2, 2, 0]))) iu_X1 tyX1_ok cl_X7_36 in_X1 ii_X1 rfl rfl df_X1 (by decide) rfl rfl rfl (if_pos rfl) (fun h hh => if_neg (by omega)) (vl_g_zc (by decide)) dX7_init_54 ?_
  refine vu_gmc hE (fun m12 hE => ?_)
  refine vu_dup rfl dX7_init_57 ?_
  refine vu_aload_n 1 rfl dX7_init_58 ?_
  refine vu_getR (h := 0) (k0 := 0) (h2 := 1) iu_X7 (by decide) rfl rfl (by decide) fk_X7_23 rfl dX7_init_59 ?_
  refine vu_aload_n 1 rfl dX7_init_62 ?_
  refine vu_getR (h := 0) (k0 := 1) (h2 := 11) iu_X7 (by decide) rfl rfl (by decide) fk_X7_32 rfl dX7_init_63 ?_
  refine vu_Ic (K' := kX1_init) (d' := 1) (bc := ((((((0 + 0) + 1) + ((0 + 1) + 1)) + 1) + 0) + 1)) (bs := ((((((0 + 0) + 2) + ((0 + 807) + 807)) + 7) + 0) + 7)) (bc' := (0 + 1)) (bs' := (0 + 400)) (nc' := 18) (S' := (vl_us (vl_sd w) 0 (.inr (7, [4, 14, 2, 2, 2, 2])))) (h := 16) (As := [.ref 1, .ref 11]) (st := [.ref 16, .ref 0]) li_X7_38 (by omega) (by decide) rfl (Nat.le_of_ble_eq_true rfl) rfl (Nat.le_of_ble_eq_true rfl) rfl rfl dX7_init_66 hE (fun _ h => vc_X1_init hw (Nat.le_refl _) h) (fun m13 hE => ?_)
  refine vu_putR (h := 0) (h2 := 16) (k0 := 2) [4, 14, 19, 2, 2, 2] iu_X7 tyX7_ok nmX7 (by decide) rfl (by decide) fk_X7_41 rfl ⟨rfl, rfl⟩ rfl (Or.inl ⟨_, rfl⟩) rfl dX7_init_69 ?_
  refine vu_aload_n 1 rfl dX7_init_72 ?_
  refine vu_new (bc := (((((0 + 0) + 1) + ((0 + 1) + 1)) + 1) + 0)) (bs := (((((0 + 0) + 2) + ((0 + 807) + 807)) + 7) + 0)) (N := 7) (μ' := (vl_z m13 18)) (ρ' := ρ) (vl_us (vl_us (vl_sd w) 0 (.inr (7, [4, 14, 19, 2, 2, 2]))) 18 (.inr (6, [2, 2, 0, 0, 0, 0, 0]))) iu_X6 tyX6_ok cl_X7_45 in_X6 ii_X6 rfl rfl df_X6 (by decide) rfl rfl rfl (if_pos rfl) (fun h hh => if_neg (by omega)) (vl_g_zc (by decide)) dX7_init_73 ?_
  refine vu_gmc hE (fun m14 hE => ?_)
  refine vu_dup rfl dX7_init_76 ?_
  refine vu_aload_n 1 rfl dX7_init_77 ?_
  refine vu_getR (h := 0) (k0 := 0) (h2 := 1) iu_X7 (by decide) rfl rfl (by decide) fk_X7_23 rfl dX7_init_78 ?_
  refine vu_aload_n 1 rfl dX7_init_81 ?_
  refine vu_getR (h := 0) (k0 := 1) (h2 := 11) iu_X7 (by decide) rfl rfl (by decide) fk_X7_32 rfl dX7_init_82 ?_
  refine vu_Ic (K' := kX6_init) (d' := 1) (bc := ((((0 + 0) + 1) + ((0 + 1) + 1)) + 1)) (bs := ((((0 + 0) + 2) + ((0 + 807) + 807)) + 7)) (bc' := 0) (bs' := 0) (nc' := 19) (S' := (vl_us (vl_sd w) 0 (.inr (7, [4, 14, 19, 2, 2, 2])))) (h := 18) (As := [.ref 1, .ref 11]) (st := [.ref 18, .ref 0]) li_X7_47 (by omega) (by decide) rfl (Nat.le_of_ble_eq_true rfl) rfl (Nat.le_of_ble_eq_true rfl) rfl rfl dX7_init_85 hE (fun _ h => vc_X6_init hw (Nat.le_refl _) h) (fun m15 hE => ?_)
  refine vu_putR (h := 0) (h2 := 18) (k0 := 3) [4, 14, 19, 21, 2, 2] iu_X7 tyX7_ok nmX7 (by decide) rfl (by decide) fk_X7_48 rfl ⟨rfl, rfl⟩ rfl (Or.inl ⟨_, rfl⟩) rfl dX7_init_88 ?_
  refine vu_aload_n 1 rfl dX7_init_91 ?_
  refine vu_new (bc := (((0 + 0) + 1) + ((0 + 1) + 1))) (bs := (((0 + 0) + 2) + ((0 + 807) + 807))) (N := 7) (μ' := (vl_z m15 19)) (ρ' := ρ) (vl_us (vl_us (vl_sd w) 0 (.inr (7, [4, 14, 19, 21, 2, 2]))) 19 (.inr (2, [2, 2, 2, 2, 0, 0, 0]))) iu_X2 tyX2_ok cl_X7_52 in_X2 ii_X2 rfl rfl df_X2 (by decide) rfl rfl rfl (if_pos rfl) (fun h hh => if_neg (by omega)) (vl_g_zc (by decide)) dX7_init_92 ?_
  refine vu_gmc hE (fun m16 hE => ?_)
  refine vu_dup rfl dX7_init_95 ?_
  refine vu_aload_n 1 rfl dX7_init_96 ?_
  refine vu_getR (h := 0) (k0 := 0) (h2 := 1) iu_X7 (by decide) rfl rfl (by decide) fk_X7_23 rfl dX7_init_97 ?_
  refine vu_aload_n 1 rfl dX7_init_100 ?_
  refine vu_getR (h := 0) (k0 := 1) (h2 := 11) iu_X7 (by decide) rfl rfl (by decide) fk_X7_32 rfl dX7_init_101 ?_
  refine vu_Ic (K' := kX2_init) (d' := 1) (bc := ((0 + 0) + 1)) (bs := ((0 + 0) + 2)) (bc' := ((0 + 1) + 1)) (bs' := ((0 + 807) + 807)) (nc' := 22) (S' := (vl_us (vl_sd w) 0 (.inr (7, [4, 14, 19, 21, 2, 2])))) (h := 19) (As := [.ref 1, .ref 11]) (st := [.ref 19, .ref 0]) li_X7_54 (by omega) (by decide) rfl (Nat.le_of_ble_eq_true rfl) rfl (Nat.le_of_ble_eq_true rfl) rfl rfl dX7_init_104 hE (fun _ h => vc_X2_init hw (Nat.le_refl _) h) (fun m17 hE => ?_)
  refine vu_putR (h := 0) (h2 := 19) (k0 := 4) [4, 14, 19, 21, 22, 2] iu_X7 tyX7_ok nmX7 (by decide) rfl (by decide) fk_X7_55 rfl ⟨rfl, rfl⟩ rfl (Or.inl ⟨_, rfl⟩) rfl dX7_init_107 ?_
  refine vu_aload_n 1 rfl dX7_init_110 ?_
  refine vu_new (bc := (0 + 0)) (bs := (0 + 0)) (N := 2) (μ' := (vl_z m17 22)) (ρ' := ρ) (vl_us (vl_us (vl_sd w) 0 (.inr (7, [4, 14, 19, 21, 22, 2]))) 22 (.inr (0, [2, 2]))) iu_X0 tyX0_ok cl_X7_59 in_X0 ii_X0 rfl rfl df_X0 (by decide) rfl rfl rfl (if_pos rfl) (fun h hh => if_neg (by omega)) (vl_g_zc (by decide)) dX7_init_111 ?_
  refine vu_gmc hE (fun m18 hE => ?_)
  refine vu_dup rfl dX7_init_114 ?_
  refine vu_aload_n 1 rfl dX7_init_115 ?_
  refine vu_getR (h := 0) (k0 := 0) (h2 := 1) iu_X7 (by decide) rfl rfl (by decide) fk_X7_23 rfl dX7_init_116 ?_
  refine vu_aload_n 1 rfl dX7_init_119 ?_
  refine vu_getR (h := 0) (k0 := 1) (h2 := 11) iu_X7 (by decide) rfl rfl (by decide) fk_X7_32 rfl dX7_init_120 ?_
  refine vu_Ic (K' := kX0_init) (d' := 1) (bc := 0) (bs := 0) (bc' := 0) (bs' := 0) (nc' := 23) (S' := (vl_us (vl_sd w) 0 (.inr (7, [4, 14, 19, 21, 22, 2])))) (h := 22) (As := [.ref 1, .ref 11]) (st := [.ref 22, .ref 0]) li_X7_61 (by omega) (by decide) rfl (Nat.le_of_ble_eq_true rfl) rfl (Nat.le_of_ble_eq_true rfl) rfl rfl dX7_init_123 hE (fun _ h => vc_X0_init hw (Nat.le_refl _) h) (fun m19 hE => ?_)
  refine vu_putR (h := 0) (h2 := 22) (k0 := 5) [4, 14, 19, 21, 22, 25] iu_X7 tyX7_ok nmX7 (by decide) rfl (by decide) fk_X7_62 rfl ⟨rfl, rfl⟩ rfl (Or.inl ⟨_, rfl⟩) rfl dX7_init_126 ?_
  refine vu_drop rfl ?_
  exact vu_retE (r := 0) rfl dX7_init_129 hE (fun h => ⟨rfl, rfl, rfl, h⟩)
set_option maxRecDepth 100000 in
set_option maxHeartbeats 4000000 in
theorem vc_X8_init {sc : Nat × (Nat → Int32)} {w : Nat} (hw : w ≤ 11) {N d : Nat} (hd : 1 ≤ d) {P : vl_M → Prop} {μ m : vl_M} {a1 a2 : Int} (hE : vl_ok P (fn_X8_init N m a1 a2)) : vl_U (((((((((((((((((((((((0 + 1) + 1) + 1) + 1) + 1) + 1) + 1) + 1) + 1) + 1) + 1) + 1) + 1) + 1) + 1) + 1) + 1) + 1) + 1) + 1) + 1) + 1) + 1) (((((((((((((((((((((((0 + 200) + 400) + 500) + 1000) + 1000) + 2) + 8) + 11) + 11) + 11) + 40) + 40) + 4) + 500) + 64) + 64) + 500) + 2000) + 5500) + 500) + 500) + 1604) + 401) 24 (vl_us (vl_sd w) 23 (.inr (8, [0, 0, 0, 2, 2, 0, 2, 2, 2, 2, 2, 0, 0, 0, 0, 2, 2, 0, 2, 0, 0, 2, 2, 2, 0, 0, 0, 0, 0, 1, 2, 2, 2, 2, 2, 2, 2, 0, 2, 2, 2]))) sc kX8_init d (fun _ c' T' m1 m2 => c' = 47 ∧ T' = (vl_sd w) ∧ m1 = μ ∧ P m2) 0 [(0, .ref 23), (1, vl_iv a1), (2, vl_iv a2)] [] μ m := by
  unfold fn_X8_init at hE
  refine vu_aload_n 0 rfl dX8_init_0 ?_
  refine vu_obj ob_X8_7 ob_i ob_c (by omega) (Nat.le_of_ble_eq_true rfl) dX8_init_1 ?_
  refine vu_aload_n 0 rfl dX8_init_4 ?_
  refine vu_sipush (by decide) dX8_init_5 ?_
  refine vu_newa (bc := ((((((((((((((((((((((0 + 1) + 1) + 1) + 1) + 1) + 1) + 1) + 1) + 1) + 1) + 1) + 1) + 1) + 1) + 1) + 1) + 1) + 1) + 1) + 1) + 1) + 1)) (bs := ((((((((((((((((((((((0 + 200) + 400) + 500) + 1000) + 1000) + 2) + 8) + 11) + 11) + 11) + 40) + 40) + 4) + 500) + 64) + 64) + 500) + 2000) + 5500) + 500) + 500) + 1604)) (n := 401) (μ' := μ) (ρ' := (vl_z m 24)) (vl_us (vl_sd w) 23 (.inr (8, [0, 0, 0, 2, 2, 0, 2, 2, 2, 2, 2, 0, 0, 0, 0, 2, 2, 0, 2, 0, 0, 2, 2, 2, 0, 0, 0, 0, 0, 1, 2, 2, 2, 2, 2, 2, 2, 0, 2, 2, 2]))) ar_c rfl (by decide) (by decide) rfl rfl rfl rfl (fun _ _ => rfl) (vl_g_zr (by decide)) dX8_init_8 ?_
  refine vu_gmr hE (fun m1 hE => ?_)
  refine vu_putR (h := 23) (h2 := 24) (k0 := 3) [0, 0, 0, 27, 2, 0, 2, 2, 2, 2, 2, 0, 0, 0, 0, 2, 2, 0, 2, 0, 0, 2, 2, 2, 0, 0, 0, 0, 0, 1, 2, 2, 2, 2, 2, 2, 2, 0, 2, 2, 2] iu_X8 tyX8_ok nmX8 (by decide) rfl (by decide) fk_X8_13 rfl ⟨rfl, rfl⟩ rfl (Or.inr ⟨_, rfl⟩) rfl dX8_init_10 ?_
  refine vu_aload_n 0 rfl dX8_init_13 ?_
  refine vu_sipush (by decide) dX8_init_14 ?_
  refine vu_newa (bc := (((((((((((((((((((((0 + 1) + 1) + 1) + 1) + 1) + 1) + 1) + 1) + 1) + 1) + 1) + 1) + 1) + 1) + 1) + 1) + 1) + 1) + 1) + 1) + 1)) (bs := (((((((((((((((((((((0 + 200) + 400) + 500) + 1000) + 1000) + 2) + 8) + 11) + 11) + 11) + 40) + 40) + 4) + 500) + 64) + 64) + 500) + 2000) + 5500) + 500) + 500)) (n := 1604) (μ' := μ) (ρ' := (vl_z m1 25)) (vl_us (vl_sd w) 23 (.inr (8, [0, 0, 0, 27, 2, 0, 2, 2, 2, 2, 2, 0, 0, 0, 0, 2, 2, 0, 2, 0, 0, 2, 2, 2, 0, 0, 0, 0, 0, 1, 2, 2, 2, 2, 2, 2, 2, 0, 2, 2, 2]))) ar_c rfl (by decide) (by decide) rfl rfl rfl rfl (fun _ _ => rfl) (vl_g_zr (by decide)) dX8_init_17 ?_
  refine vu_gmr hE (fun m2 hE => ?_)
  refine vu_putR (h := 23) (h2 := 25) (k0 := 4) [0, 0, 0, 27, 28, 0, 2, 2, 2, 2, 2, 0, 0, 0, 0, 2, 2, 0, 2, 0, 0, 2, 2, 2, 0, 0, 0, 0, 0, 1, 2, 2, 2, 2, 2, 2, 2, 0, 2, 2, 2] iu_X8 tyX8_ok nmX8 (by decide) rfl (by decide) fk_X8_17 rfl ⟨rfl, rfl⟩ rfl (Or.inr ⟨_, rfl⟩) rfl dX8_init_19 ?_
  refine vu_aload_n 0 rfl dX8_init_22 ?_
  refine vu_sipush (by decide) dX8_init_23 ?_
  refine vu_newa (bc := ((((((((((((((((((((0 + 1) + 1) + 1) + 1) + 1) + 1) + 1) + 1) + 1) + 1) + 1) + 1) + 1) + 1) + 1) + 1) + 1) + 1) + 1) + 1)) (bs := ((((((((((((((((((((0 + 200) + 400) + 500) + 1000) + 1000) + 2) + 8) + 11) + 11) + 11) + 40) + 40) + 4) + 500) + 64) + 64) + 500) + 2000) + 5500) + 500)) (n := 500) (μ' := μ) (ρ' := (vl_z m2 26)) (vl_us (vl_sd w) 23 (.inr (8, [0, 0, 0, 27, 28, 0, 2, 2, 2, 2, 2, 0, 0, 0, 0, 2, 2, 0, 2, 0, 0, 2, 2, 2, 0, 0, 0, 0, 0, 1, 2, 2, 2, 2, 2, 2, 2, 0, 2, 2, 2]))) ar_c rfl (by decide) (by decide) rfl rfl rfl rfl (fun _ _ => rfl) (vl_g_zr (by decide)) dX8_init_26 ?_
  refine vu_gmr hE (fun m3 hE => ?_)
  refine vu_putR (h := 23) (h2 := 26) (k0 := 6) [0, 0, 0, 27, 28, 0, 29, 2, 2, 2, 2, 0, 0, 0, 0, 2, 2, 0, 2, 0, 0, 2, 2, 2, 0, 0, 0, 0, 0, 1, 2, 2, 2, 2, 2, 2, 2, 0, 2, 2, 2] iu_X8 tyX8_ok nmX8 (by decide) rfl (by decide) fk_X8_20 rfl ⟨rfl, rfl⟩ rfl (Or.inr ⟨_, rfl⟩) rfl dX8_init_28 ?_
  refine vu_aload_n 0 rfl dX8_init_31 ?_
  refine vu_sipush (by decide) dX8_init_32 ?_
  refine vu_newa (bc := (((((((((((((((((((0 + 1) + 1) + 1) + 1) + 1) + 1) + 1) + 1) + 1) + 1) + 1) + 1) + 1) + 1) + 1) + 1) + 1) + 1) + 1)) (bs := (((((((((((((((((((0 + 200) + 400) + 500) + 1000) + 1000) + 2) + 8) + 11) + 11) + 11) + 40) + 40) + 4) + 500) + 64) + 64) + 500) + 2000) + 5500)) (n := 500) (μ' := μ) (ρ' := (vl_z m3 27)) (vl_us (vl_sd w) 23 (.inr (8, [0, 0, 0, 27, 28, 0, 29, 2, 2, 2, 2, 0, 0, 0, 0, 2, 2, 0, 2, 0, 0, 2, 2, 2, 0, 0, 0, 0, 0, 1, 2, 2, 2, 2, 2, 2, 2, 0, 2, 2, 2]))) ar_c rfl (by decide) (by decide) rfl rfl rfl rfl (fun _ _ => rfl) (vl_g_zr (by decide)) dX8_init_35 ?_
  refine vu_gmr hE (fun m4 hE => ?_)
  refine vu_putR (h := 23) (h2 := 27) (k0 := 7) [0, 0, 0, 27, 28, 0, 29, 30, 2, 2, 2, 0, 0, 0, 0, 2, 2, 0, 2, 0, 0, 2, 2, 2, 0, 0, 0, 0, 0, 1, 2, 2, 2, 2, 2, 2, 2, 0, 2, 2, 2] iu_X8 tyX8_ok nmX8 (by decide) rfl (by decide) fk_X8_23 rfl ⟨rfl, rfl⟩ rfl (Or.inr ⟨_, rfl⟩) rfl dX8_init_37 ?_
  refine vu_aload_n 0 rfl dX8_init_40 ?_
  refine vu_sipush (by decide) dX8_init_41 ?_
  refine vu_newa (bc := ((((((((((((((((((0 + 1) + 1) + 1) + 1) + 1) + 1) + 1) + 1) + 1) + 1) + 1) + 1) + 1) + 1) + 1) + 1) + 1) + 1)) (bs := ((((((((((((((((((0 + 200) + 400) + 500) + 1000) + 1000) + 2) + 8) + 11) + 11) + 11) + 40) + 40) + 4) + 500) + 64) + 64) + 500) + 2000)) (n := 5500) (μ' := μ) (ρ' := (vl_z m4 28)) (vl_us (vl_sd w) 23 (.inr (8, [0, 0, 0, 27, 28, 0, 29, 30, 2, 2, 2, 0, 0, 0, 0, 2, 2, 0, 2, 0, 0, 2, 2, 2, 0, 0, 0, 0, 0, 1, 2, 2, 2, 2, 2, 2, 2, 0, 2, 2, 2]))) ar_c rfl (by decide) (by decide) rfl rfl rfl rfl (fun _ _ => rfl) (vl_g_zr (by decide)) dX8_init_44 ?_
  refine vu_gmr hE (fun m5 hE => ?_)
  refine vu_putR (h := 23) (h2 := 28) (k0 := 8) [0, 0, 0, 27, 28, 0, 29, 30, 31, 2, 2, 0, 0, 0, 0, 2, 2, 0, 2, 0, 0, 2, 2, 2, 0, 0, 0, 0, 0, 1, 2, 2, 2, 2, 2, 2, 2, 0, 2, 2, 2] iu_X8 tyX8_ok nmX8 (by decide) rfl (by decide) fk_X8_26 rfl ⟨rfl, rfl⟩ rfl (Or.inr ⟨_, rfl⟩) rfl dX8_init_46 ?_
  refine vu_aload_n 0 rfl dX8_init_49 ?_
  refine vu_sipush (by decide) dX8_init_50 ?_
  refine vu_newa (bc := (((((((((((((((((0 + 1) + 1) + 1) + 1) + 1) + 1) + 1) + 1) + 1) + 1) + 1) + 1) + 1) + 1) + 1) + 1) + 1)) (bs := (((((((((((((((((0 + 200) + 400) + 500) + 1000) + 1000) + 2) + 8) + 11) + 11) + 11) + 40) + 40) + 4) + 500) + 64) + 64) + 500)) (n := 2000) (μ' := μ) (ρ' := (vl_z m5 29)) (vl_us (vl_sd w) 23 (.inr (8, [0, 0, 0, 27, 28, 0, 29, 30, 31, 2, 2, 0, 0, 0, 0, 2, 2, 0, 2, 0, 0, 2, 2, 2, 0, 0, 0, 0, 0, 1, 2, 2, 2, 2, 2, 2, 2, 0, 2, 2, 2]))) ar_c rfl (by decide) (by decide) rfl rfl rfl rfl (fun _ _ => rfl) (vl_g_zr (by decide)) dX8_init_53 ?_
  refine vu_gmr hE (fun m6 hE => ?_)
  refine vu_putR (h := 23) (h2 := 29) (k0 := 9) [0, 0, 0, 27, 28, 0, 29, 30, 31, 32, 2, 0, 0, 0, 0, 2, 2, 0, 2, 0, 0, 2, 2, 2, 0, 0, 0, 0, 0, 1, 2, 2, 2, 2, 2, 2, 2, 0, 2, 2, 2] iu_X8 tyX8_ok nmX8 (by decide) rfl (by decide) fk_X8_29 rfl ⟨rfl, rfl⟩ rfl (Or.inr ⟨_, rfl⟩) rfl dX8_init_55 ?_
  refine vu_aload_n 0 rfl dX8_init_58 ?_
  refine vu_sipush (by decide) dX8_init_59 ?_
  refine vu_newa (bc := ((((((((((((((((0 + 1) + 1) + 1) + 1) + 1) + 1) + 1) + 1) + 1) + 1) + 1) + 1) + 1) + 1) + 1) + 1)) (bs := ((((((((((((((((0 + 200) + 400) + 500) + 1000) + 1000) + 2) + 8) + 11) + 11) + 11) + 40) + 40) + 4) + 500) + 64) + 64)) (n := 500) (μ' := μ) (ρ' := (vl_z m6 30)) (vl_us (vl_sd w) 23 (.inr (8, [0, 0, 0, 27, 28, 0, 29, 30, 31, 32, 2, 0, 0, 0, 0, 2, 2, 0, 2, 0, 0, 2, 2, 2, 0, 0, 0, 0, 0, 1, 2, 2, 2, 2, 2, 2, 2, 0, 2, 2, 2]))) ar_c rfl (by decide) (by decide) rfl rfl rfl rfl (fun _ _ => rfl) (vl_g_zr (by decide)) dX8_init_62 ?_
  refine vu_gmr hE (fun m7 hE => ?_)
  refine vu_putR (h := 23) (h2 := 30) (k0 := 10) [0, 0, 0, 27, 28, 0, 29, 30, 31, 32, 33, 0, 0, 0, 0, 2, 2, 0, 2, 0, 0, 2, 2, 2, 0, 0, 0, 0, 0, 1, 2, 2, 2, 2, 2, 2, 2, 0, 2, 2, 2] iu_X8 tyX8_ok nmX8 (by decide) rfl (by decide) fk_X8_32 rfl ⟨rfl, rfl⟩ rfl (Or.inr ⟨_, rfl⟩) rfl dX8_init_64 ?_
  refine vu_aload_n 0 rfl dX8_init_67 ?_
  refine vu_bipush (by decide) dX8_init_68 ?_
  refine vu_newa (bc := (((((((((((((((0 + 1) + 1) + 1) + 1) + 1) + 1) + 1) + 1) + 1) + 1) + 1) + 1) + 1) + 1) + 1)) (bs := (((((((((((((((0 + 200) + 400) + 500) + 1000) + 1000) + 2) + 8) + 11) + 11) + 11) + 40) + 40) + 4) + 500) + 64)) (n := 64) (μ' := μ) (ρ' := (vl_z m7 31)) (vl_us (vl_sd w) 23 (.inr (8, [0, 0, 0, 27, 28, 0, 29, 30, 31, 32, 33, 0, 0, 0, 0, 2, 2, 0, 2, 0, 0, 2, 2, 2, 0, 0, 0, 0, 0, 1, 2, 2, 2, 2, 2, 2, 2, 0, 2, 2, 2]))) ar_c rfl (by decide) (by decide) rfl rfl rfl rfl (fun _ _ => rfl) (vl_g_zr (by decide)) dX8_init_70 ?_
  refine vu_gmr hE (fun m8 hE => ?_)
  refine vu_putR (h := 23) (h2 := 31) (k0 := 15) [0, 0, 0, 27, 28, 0, 29, 30, 31, 32, 33, 0, 0, 0, 0, 34, 2, 0, 2, 0, 0, 2, 2, 2, 0, 0, 0, 0, 0, 1, 2, 2, 2, 2, 2, 2, 2, 0, 2, 2, 2] iu_X8 tyX8_ok nmX8 (by decide) rfl (by decide) fk_X8_35 rfl ⟨rfl, rfl⟩ rfl (Or.inr ⟨_, rfl⟩) rfl dX8_init_72 ?_
  refine vu_aload_n 0 rfl dX8_init_75 ?_
  refine vu_bipush (by decide) dX8_init_76 ?_
  refine vu_newa (bc := ((((((((((((((0 + 1) + 1) + 1) + 1) + 1) + 1) + 1) + 1) + 1) + 1) + 1) + 1) + 1) + 1)) (bs := ((((((((((((((0 + 200) + 400) + 500) + 1000) + 1000) + 2) + 8) + 11) + 11) + 11) + 40) + 40) + 4) + 500)) (n := 64) (μ' := μ) (ρ' := (vl_z m8 32)) (vl_us (vl_sd w) 23 (.inr (8, [0, 0, 0, 27, 28, 0, 29, 30, 31, 32, 33, 0, 0, 0, 0, 34, 2, 0, 2, 0, 0, 2, 2, 2, 0, 0, 0, 0, 0, 1, 2, 2, 2, 2, 2, 2, 2, 0, 2, 2, 2]))) ar_c rfl (by decide) (by decide) rfl rfl rfl rfl (fun _ _ => rfl) (vl_g_zr (by decide)) dX8_init_78 ?_
  refine vu_gmr hE (fun m9 hE => ?_)
  refine vu_putR (h := 23) (h2 := 32) (k0 := 16) [0, 0, 0, 27, 28, 0, 29, 30, 31, 32, 33, 0, 0, 0, 0, 34, 35, 0, 2, 0, 0, 2, 2, 2, 0, 0, 0, 0, 0, 1, 2, 2, 2, 2, 2, 2, 2, 0, 2, 2, 2] iu_X8 tyX8_ok nmX8 (by decide) rfl (by decide) fk_X8_38 rfl ⟨rfl, rfl⟩ rfl (Or.inr ⟨_, rfl⟩) rfl dX8_init_80 ?_
  refine vu_aload_n 0 rfl dX8_init_83 ?_
  refine vu_sipush (by decide) dX8_init_84 ?_
  refine vu_newa (bc := (((((((((((((0 + 1) + 1) + 1) + 1) + 1) + 1) + 1) + 1) + 1) + 1) + 1) + 1) + 1)) (bs := (((((((((((((0 + 200) + 400) + 500) + 1000) + 1000) + 2) + 8) + 11) + 11) + 11) + 40) + 40) + 4)) (n := 500) (μ' := μ) (ρ' := (vl_z m9 33)) (vl_us (vl_sd w) 23 (.inr (8, [0, 0, 0, 27, 28, 0, 29, 30, 31, 32, 33, 0, 0, 0, 0, 34, 35, 0, 2, 0, 0, 2, 2, 2, 0, 0, 0, 0, 0, 1, 2, 2, 2, 2, 2, 2, 2, 0, 2, 2, 2]))) ar_c rfl (by decide) (by decide) rfl rfl rfl rfl (fun _ _ => rfl) (vl_g_zr (by decide)) dX8_init_87 ?_
  refine vu_gmr hE (fun m10 hE => ?_)
  refine vu_putR (h := 23) (h2 := 33) (k0 := 18) [0, 0, 0, 27, 28, 0, 29, 30, 31, 32, 33, 0, 0, 0, 0, 34, 35, 0, 36, 0, 0, 2, 2, 2, 0, 0, 0, 0, 0, 1, 2, 2, 2, 2, 2, 2, 2, 0, 2, 2, 2] iu_X8 tyX8_ok nmX8 (by decide) rfl (by decide) fk_X8_41 rfl ⟨rfl, rfl⟩ rfl (Or.inr ⟨_, rfl⟩) rfl dX8_init_89 ?_
  refine vu_aload_n 0 rfl dX8_init_92 ?_
  refine vu_iconst dX8_init_93 ?_
  refine vu_newa (bc := ((((((((((((0 + 1) + 1) + 1) + 1) + 1) + 1) + 1) + 1) + 1) + 1) + 1) + 1)) (bs := ((((((((((((0 + 200) + 400) + 500) + 1000) + 1000) + 2) + 8) + 11) + 11) + 11) + 40) + 40)) (n := 4) (μ' := μ) (ρ' := (vl_z m10 34)) (vl_us (vl_sd w) 23 (.inr (8, [0, 0, 0, 27, 28, 0, 29, 30, 31, 32, 33, 0, 0, 0, 0, 34, 35, 0, 36, 0, 0, 2, 2, 2, 0, 0, 0, 0, 0, 1, 2, 2, 2, 2, 2, 2, 2, 0, 2, 2, 2]))) ar_c rfl (by decide) (by decide) rfl rfl rfl rfl (fun _ _ => rfl) (vl_g_zr (by decide)) dX8_init_94 ?_
  refine vu_gmr hE (fun m11 hE => ?_)
  refine vu_putR (h := 23) (h2 := 34) (k0 := 21) [0, 0, 0, 27, 28, 0, 29, 30, 31, 32, 33, 0, 0, 0, 0, 34, 35, 0, 36, 0, 0, 37, 2, 2, 0, 0, 0, 0, 0, 1, 2, 2, 2, 2, 2, 2, 2, 0, 2, 2, 2] iu_X8 tyX8_ok nmX8 (by decide) rfl (by decide) fk_X8_44 rfl ⟨rfl, rfl⟩ rfl (Or.inr ⟨_, rfl⟩) rfl dX8_init_96 ?_
  refine vu_aload_n 0 rfl dX8_init_99 ?_
  refine vu_bipush (by decide) dX8_init_100 ?_
  refine vu_newa (bc := (((((((((((0 + 1) + 1) + 1) + 1) + 1) + 1) + 1) + 1) + 1) + 1) + 1)) (bs := (((((((((((0 + 200) + 400) + 500) + 1000) + 1000) + 2) + 8) + 11) + 11) + 11) + 40)) (n := 40) (μ' := μ) (ρ' := (vl_z m11 35)) (vl_us (vl_sd w) 23 (.inr (8, [0, 0, 0, 27, 28, 0, 29, 30, 31, 32, 33, 0, 0, 0, 0, 34, 35, 0, 36, 0, 0, 37, 2, 2, 0, 0, 0, 0, 0, 1, 2, 2, 2, 2, 2, 2, 2, 0, 2, 2, 2]))) ar_c rfl (by decide) (by decide) rfl rfl rfl rfl (fun _ _ => rfl) (vl_g_zr (by decide)) dX8_init_102 ?_
  refine vu_gmr hE (fun m12 hE => ?_)
  refine vu_putR (h := 23) (h2 := 35) (k0 := 22) [0, 0, 0, 27, 28, 0, 29, 30, 31, 32, 33, 0, 0, 0, 0, 34, 35, 0, 36, 0, 0, 37, 38, 2, 0, 0, 0, 0, 0, 1, 2, 2, 2, 2, 2, 2, 2, 0, 2, 2, 2] iu_X8 tyX8_ok nmX8 (by decide) rfl (by decide) fk_X8_47 rfl ⟨rfl, rfl⟩ rfl (Or.inr ⟨_, rfl⟩) rfl dX8_init_104 ?_
  refine vu_aload_n 0 rfl dX8_init_107 ?_
  refine vu_bipush (by decide) dX8_init_108 ?_
  refine vu_newa (bc := ((((((((((0 + 1) + 1) + 1) + 1) + 1) + 1) + 1) + 1) + 1) + 1)) (bs := ((((((((((0 + 200) + 400) + 500) + 1000) + 1000) + 2) + 8) + 11) + 11) + 11)) (n := 40) (μ' := μ) (ρ' := (vl_z m12 36)) (vl_us (vl_sd w) 23 (.inr (8, [0, 0, 0, 27, 28, 0, 29, 30, 31, 32, 33, 0, 0, 0, 0, 34, 35, 0, 36, 0, 0, 37, 38, 2, 0, 0, 0, 0, 0, 1, 2, 2, 2, 2, 2, 2, 2, 0, 2, 2, 2]))) ar_c rfl (by decide) (by decide) rfl rfl rfl rfl (fun _ _ => rfl) (vl_g_zr (by decide)) dX8_init_110 ?_
  refine vu_gmr hE (fun m13 hE => ?_)
  refine vu_putR (h := 23) (h2 := 36) (k0 := 23) [0, 0, 0, 27, 28, 0, 29, 30, 31, 32, 33, 0, 0, 0, 0, 34, 35, 0, 36, 0, 0, 37, 38, 39, 0, 0, 0, 0, 0, 1, 2, 2, 2, 2, 2, 2, 2, 0, 2, 2, 2] iu_X8 tyX8_ok nmX8 (by decide) rfl (by decide) fk_X8_50 rfl ⟨rfl, rfl⟩ rfl (Or.inr ⟨_, rfl⟩) rfl dX8_init_112 ?_
  refine vu_aload_n 0 rfl dX8_init_115 ?_
  refine vu_bipush (by decide) dX8_init_116 ?_
  refine vu_newa (bc := (((((((((0 + 1) + 1) + 1) + 1) + 1) + 1) + 1) + 1) + 1)) (bs := (((((((((0 + 200) + 400) + 500) + 1000) + 1000) + 2) + 8) + 11) + 11)) (n := 11) (μ' := μ) (ρ' := (vl_z m13 37)) (vl_us (vl_sd w) 23 (.inr (8, [0, 0, 0, 27, 28, 0, 29, 30, 31, 32, 33, 0, 0, 0, 0, 34, 35, 0, 36, 0, 0, 37, 38, 39, 0, 0, 0, 0, 0, 1, 2, 2, 2, 2, 2, 2, 2, 0, 2, 2, 2]))) ar_c rfl (by decide) (by decide) rfl rfl rfl rfl (fun _ _ => rfl) (vl_g_zr (by decide)) dX8_init_118 ?_
  refine vu_gmr hE (fun m14 hE => ?_)
  refine vu_putR (h := 23) (h2 := 37) (k0 := 30) [0, 0, 0, 27, 28, 0, 29, 30, 31, 32, 33, 0, 0, 0, 0, 34, 35, 0, 36, 0, 0, 37, 38, 39, 0, 0, 0, 0, 0, 1, 40, 2, 2, 2, 2, 2, 2, 0, 2, 2, 2] iu_X8 tyX8_ok nmX8 (by decide) rfl (by decide) fk_X8_53 rfl ⟨rfl, rfl⟩ rfl (Or.inr ⟨_, rfl⟩) rfl dX8_init_120 ?_
  refine vu_aload_n 0 rfl dX8_init_123 ?_
  refine vu_bipush (by decide) dX8_init_124 ?_
  refine vu_newa (bc := ((((((((0 + 1) + 1) + 1) + 1) + 1) + 1) + 1) + 1)) (bs := ((((((((0 + 200) + 400) + 500) + 1000) + 1000) + 2) + 8) + 11)) (n := 11) (μ' := μ) (ρ' := (vl_z m14 38)) (vl_us (vl_sd w) 23 (.inr (8, [0, 0, 0, 27, 28, 0, 29, 30, 31, 32, 33, 0, 0, 0, 0, 34, 35, 0, 36, 0, 0, 37, 38, 39, 0, 0, 0, 0, 0, 1, 40, 2, 2, 2, 2, 2, 2, 0, 2, 2, 2]))) ar_c rfl (by decide) (by decide) rfl rfl rfl rfl (fun _ _ => rfl) (vl_g_zr (by decide)) dX8_init_126 ?_
  refine vu_gmr hE (fun m15 hE => ?_)
  refine vu_putR (h := 23) (h2 := 38) (k0 := 31) [0, 0, 0, 27, 28, 0, 29, 30, 31, 32, 33, 0, 0, 0, 0, 34, 35, 0, 36, 0, 0, 37, 38, 39, 0, 0, 0, 0, 0, 1, 40, 41, 2, 2, 2, 2, 2, 0, 2, 2, 2] iu_X8 tyX8_ok nmX8 (by decide) rfl (by decide) fk_X8_56 rfl ⟨rfl, rfl⟩ rfl (Or.inr ⟨_, rfl⟩) rfl dX8_init_128 ?_
  refine vu_aload_n 0 rfl dX8_init_131 ?_
  refine vu_bipush (by decide) dX8_init_132 ?_
  refine vu_newa (bc := (((((((0 + 1) + 1) + 1) + 1) + 1) + 1) + 1)) (bs := (((((((0 + 200) + 400) + 500) + 1000) + 1000) + 2) + 8)) (n := 11) (μ' := μ) (ρ' := (vl_z m15 39)) (vl_us (vl_sd w) 23 (.inr (8, [0, 0, 0, 27, 28, 0, 29, 30, 31, 32, 33, 0, 0, 0, 0, 34, 35, 0, 36, 0, 0, 37, 38, 39, 0, 0, 0, 0, 0, 1, 40, 41, 2, 2, 2, 2, 2, 0, 2, 2, 2]))) ar_c rfl (by decide) (by decide) rfl rfl rfl rfl (fun _ _ => rfl) (vl_g_zr (by decide)) dX8_init_134 ?_
  refine vu_gmr hE (fun m16 hE => ?_)
  refine vu_putR (h := 23) (h2 := 39) (k0 := 32) [0, 0, 0, 27, 28, 0, 29, 30, 31, 32, 33, 0, 0, 0, 0, 34, 35, 0, 36, 0, 0, 37, 38, 39, 0, 0, 0, 0, 0, 1, 40, 41, 42, 2, 2, 2, 2, 0, 2, 2, 2] iu_X8 tyX8_ok nmX8 (by decide) rfl (by decide) fk_X8_59 rfl ⟨rfl, rfl⟩ rfl (Or.inr ⟨_, rfl⟩) rfl dX8_init_136 ?_
  refine vu_aload_n 0 rfl dX8_init_139 ?_
  refine vu_bipush (by decide) dX8_init_140 ?_
  refine vu_newa (bc := ((((((0 + 1) + 1) + 1) + 1) + 1) + 1)) (bs := ((((((0 + 200) + 400) + 500) + 1000) + 1000) + 2)) (n := 8) (μ' := μ) (ρ' := (vl_z m16 40)) (vl_us (vl_sd w) 23 (.inr (8, [0, 0, 0, 27, 28, 0, 29, 30, 31, 32, 33, 0, 0, 0, 0, 34, 35, 0, 36, 0, 0, 37, 38, 39, 0, 0, 0, 0, 0, 1, 40, 41, 42, 2, 2, 2, 2, 0, 2, 2, 2]))) ar_c rfl (by decide) (by decide) rfl rfl rfl rfl (fun _ _ => rfl) (vl_g_zr (by decide)) dX8_init_142 ?_
  refine vu_gmr hE (fun m17 hE => ?_)
  refine vu_putR (h := 23) (h2 := 40) (k0 := 33) [0, 0, 0, 27, 28, 0, 29, 30, 31, 32, 33, 0, 0, 0, 0, 34, 35, 0, 36, 0, 0, 37, 38, 39, 0, 0, 0, 0, 0, 1, 40, 41, 42, 43, 2, 2, 2, 0, 2, 2, 2] iu_X8 tyX8_ok nmX8 (by decide) rfl (by decide) fk_X8_62 rfl ⟨rfl, rfl⟩ rfl (Or.inr ⟨_, rfl⟩) rfl dX8_init_144 ?_
  refine vu_aload_n 0 rfl dX8_init_147 ?_
  refine vu_iconst dX8_init_148 ?_
  refine vu_newa (bc := (((((0 + 1) + 1) + 1) + 1) + 1)) (bs := (((((0 + 200) + 400) + 500) + 1000) + 1000)) (n := 2) (μ' := μ) (ρ' := (vl_z m17 41)) (vl_us (vl_sd w) 23 (.inr (8, [0, 0, 0, 27, 28, 0, 29, 30, 31, 32, 33, 0, 0, 0, 0, 34, 35, 0, 36, 0, 0, 37, 38, 39, 0, 0, 0, 0, 0, 1, 40, 41, 42, 43, 2, 2, 2, 0, 2, 2, 2]))) ar_c rfl (by decide) (by decide) rfl rfl rfl rfl (fun _ _ => rfl) (vl_g_zr (by decide)) dX8_init_149 ?_
  refine vu_gmr hE (fun m18 hE => ?_)
  refine vu_putR (h := 23) (h2 := 41) (k0 := 34) [0, 0, 0, 27, 28, 0, 29, 30, 31, 32, 33, 0, 0, 0, 0, 34, 35, 0, 36, 0, 0, 37, 38, 39, 0, 0, 0, 0, 0, 1, 40, 41, 42, 43, 44, 2, 2, 0, 2, 2, 2] iu_X8 tyX8_ok nmX8 (by decide) rfl (by decide) fk_X8_65 rfl ⟨rfl, rfl⟩ rfl (Or.inr ⟨_, rfl⟩) rfl dX8_init_151 ?_
  refine vu_aload_n 0 rfl dX8_init_154 ?_
  refine vu_sipush (by decide) dX8_init_155 ?_
  refine vu_newa (bc := ((((0 + 1) + 1) + 1) + 1)) (bs := ((((0 + 200) + 400) + 500) + 1000)) (n := 1000) (μ' := μ) (ρ' := (vl_z m18 42)) (vl_us (vl_sd w) 23 (.inr (8, [0, 0, 0, 27, 28, 0, 29, 30, 31, 32, 33, 0, 0, 0, 0, 34, 35, 0, 36, 0, 0, 37, 38, 39, 0, 0, 0, 0, 0, 1, 40, 41, 42, 43, 44, 2, 2, 0, 2, 2, 2]))) ar_c rfl (by decide) (by decide) rfl rfl rfl rfl (fun _ _ => rfl) (vl_g_zr (by decide)) dX8_init_158 ?_
  refine vu_gmr hE (fun m19 hE => ?_)
  refine vu_putR (h := 23) (h2 := 42) (k0 := 35) [0, 0, 0, 27, 28, 0, 29, 30, 31, 32, 33, 0, 0, 0, 0, 34, 35, 0, 36, 0, 0, 37, 38, 39, 0, 0, 0, 0, 0, 1, 40, 41, 42, 43, 44, 45, 2, 0, 2, 2, 2] iu_X8 tyX8_ok nmX8 (by decide) rfl (by decide) fk_X8_68 rfl ⟨rfl, rfl⟩ rfl (Or.inr ⟨_, rfl⟩) rfl dX8_init_160 ?_
  refine vu_aload_n 0 rfl dX8_init_163 ?_
  refine vu_sipush (by decide) dX8_init_164 ?_
  refine vu_newa (bc := (((0 + 1) + 1) + 1)) (bs := (((0 + 200) + 400) + 500)) (n := 1000) (μ' := μ) (ρ' := (vl_z m19 43)) (vl_us (vl_sd w) 23 (.inr (8, [0, 0, 0, 27, 28, 0, 29, 30, 31, 32, 33, 0, 0, 0, 0, 34, 35, 0, 36, 0, 0, 37, 38, 39, 0, 0, 0, 0, 0, 1, 40, 41, 42, 43, 44, 45, 2, 0, 2, 2, 2]))) ar_c rfl (by decide) (by decide) rfl rfl rfl rfl (fun _ _ => rfl) (vl_g_zr (by decide)) dX8_init_167 ?_
  refine vu_gmr hE (fun m20 hE => ?_)
  refine vu_putR (h := 23) (h2 := 43) (k0 := 36) [0, 0, 0, 27, 28, 0, 29, 30, 31, 32, 33, 0, 0, 0, 0, 34, 35, 0, 36, 0, 0, 37, 38, 39, 0, 0, 0, 0, 0, 1, 40, 41, 42, 43, 44, 45, 46, 0, 2, 2, 2] iu_X8 tyX8_ok nmX8 (by decide) rfl (by decide) fk_X8_71 rfl ⟨rfl, rfl⟩ rfl (Or.inr ⟨_, rfl⟩) rfl dX8_init_169 ?_
  refine vu_aload_n 0 rfl dX8_init_172 ?_
  refine vu_sipush (by decide) dX8_init_173 ?_
  refine vu_newa (bc := ((0 + 1) + 1)) (bs := ((0 + 200) + 400)) (n := 500) (μ' := μ) (ρ' := (vl_z m20 44)) (vl_us (vl_sd w) 23 (.inr (8, [0, 0, 0, 27, 28, 0, 29, 30, 31, 32, 33, 0, 0, 0, 0, 34, 35, 0, 36, 0, 0, 37, 38, 39, 0, 0, 0, 0, 0, 1, 40, 41, 42, 43, 44, 45, 46, 0, 2, 2, 2]))) ar_c rfl (by decide) (by decide) rfl rfl rfl rfl (fun _ _ => rfl) (vl_g_zr (by decide)) dX8_init_176 ?_
  refine vu_gmr hE (fun m21 hE => ?_)
  refine vu_putR (h := 23) (h2 := 44) (k0 := 38) [0, 0, 0, 27, 28, 0, 29, 30, 31, 32, 33, 0, 0, 0, 0, 34, 35, 0, 36, 0, 0, 37, 38, 39, 0, 0, 0, 0, 0, 1, 40, 41, 42, 43, 44, 45, 46, 0, 47, 2, 2] iu_X8 tyX8_ok nmX8 (by decide) rfl (by decide) fk_X8_74 rfl ⟨rfl, rfl⟩ rfl (Or.inr ⟨_, rfl⟩) rfl dX8_init_178 ?_
  refine vu_aload_n 0 rfl dX8_init_181 ?_
  refine vu_sipush (by decide) dX8_init_182 ?_
  refine vu_newa (bc := (0 + 1)) (bs := (0 + 200)) (n := 400) (μ' := μ) (ρ' := (vl_z m21 45)) (vl_us (vl_sd w) 23 (.inr (8, [0, 0, 0, 27, 28, 0, 29, 30, 31, 32, 33, 0, 0, 0, 0, 34, 35, 0, 36, 0, 0, 37, 38, 39, 0, 0, 0, 0, 0, 1, 40, 41, 42, 43, 44, 45, 46, 0, 47, 2, 2]))) ar_c rfl (by decide) (by decide) rfl rfl rfl rfl (fun _ _ => rfl) (vl_g_zr (by decide)) dX8_init_185 ?_
  refine vu_gmr hE (fun m22 hE => ?_)
  refine vu_putR (h := 23) (h2 := 45) (k0 := 39) [0, 0, 0, 27, 28, 0, 29, 30, 31, 32, 33, 0, 0, 0, 0, 34, 35, 0, 36, 0, 0, 37, 38, 39, 0, 0, 0, 0, 0, 1, 40, 41, 42, 43, 44, 45, 46, 0, 47, 48, 2] iu_X8 tyX8_ok nmX8 (by decide) rfl (by decide) fk_X8_77 rfl ⟨rfl, rfl⟩ rfl (Or.inr ⟨_, rfl⟩) rfl dX8_init_187 ?_
  refine vu_aload_n 0 rfl dX8_init_190 ?_
  refine vu_sipush (by decide) dX8_init_191 ?_
  refine vu_newa (bc := 0) (bs := 0) (n := 200) (μ' := μ) (ρ' := (vl_z m22 46)) (vl_us (vl_sd w) 23 (.inr (8, [0, 0, 0, 27, 28, 0, 29, 30, 31, 32, 33, 0, 0, 0, 0, 34, 35, 0, 36, 0, 0, 37, 38, 39, 0, 0, 0, 0, 0, 1, 40, 41, 42, 43, 44, 45, 46, 0, 47, 48, 2]))) ar_c rfl (by decide) (by decide) rfl rfl rfl rfl (fun _ _ => rfl) (vl_g_zr (by decide)) dX8_init_194 ?_
  refine vu_gmr hE (fun m23 hE => ?_)
  refine vu_putR (h := 23) (h2 := 46) (k0 := 40) [0, 0, 0, 27, 28, 0, 29, 30, 31, 32, 33, 0, 0, 0, 0, 34, 35, 0, 36, 0, 0, 37, 38, 39, 0, 0, 0, 0, 0, 1, 40, 41, 42, 43, 44, 45, 46, 0, 47, 48, 49] iu_X8 tyX8_ok nmX8 (by decide) rfl (by decide) fk_X8_80 rfl ⟨rfl, rfl⟩ rfl (Or.inr ⟨_, rfl⟩) rfl dX8_init_196 ?_
  refine vu_drop rfl ?_
  refine vu_iload_n 1 rfl dX8_init_199 ?_
  refine vu_iconst dX8_init_200 ?_
  obtain ⟨g24, hE⟩ := vl_ok_gd hE
  refine vl_jnr (J := fun κ : Int → Option (vl_M) => ∀ (v25 : Int), vl_ok P (κ v25) → vl_U 0 0 47 (vl_sd w) sc kX8_init d (fun _ c' T' m1 m2 => c' = 47 ∧ T' = (vl_sd w) ∧ m1 = μ ∧ P m2) 220 [(0, .ref 23), (2, vl_iv a2)] [vl_iv v25] μ m23) ?_ hE (fun κ26 hκ26 hE => ?_)
  · intro v25 hE
    refine vu_istore_n0 rfl (lv' := [(3, vl_iv v25), (0, .ref 23), (2, vl_iv a2)]) dX8_init_220 (by decide) rfl ?_
    refine vu_aload_n 1 rfl dX8_init_221 ?_
    refine vu_iload_n 0 rfl dX8_init_222 ?_
    refine vu_putFI (h := 23) (k0 := 1) (μ' := μ) (ρ' := (vl_up m23 23 1 v25)) iu_X8 tyX8_ok nmX8 (by decide) rfl rfl (by decide) fk_X8_83 rfl ⟨rfl, rfl⟩ rfl rfl dX8_init_223 (vl_g_upr (by decide) _ _) ?_
    refine vu_gmr hE (fun m27 hE => ?_)
    refine vu_aload_n 1 rfl dX8_init_226 ?_
    refine vu_iload_n 2 rfl dX8_init_227 ?_
    refine vu_iconst dX8_init_228 ?_
    obtain ⟨g28, hE⟩ := vl_ok_gd hE
    refine vl_jnr (J := fun κ : Int → Option (vl_M) => ∀ (v29 : Int), vl_ok P (κ v29) → vl_U 0 0 47 (vl_sd w) sc kX8_init d (fun _ c' T' m1 m2 => c' = 47 ∧ T' = (vl_sd w) ∧ m1 = μ ∧ P m2) 250 [(0, .ref 23)] [vl_iv v29, .ref 23] μ m27) ?_ hE (fun κ30 hκ30 hE => ?_)
    · intro v29 hE
      refine vu_putFI (h := 23) (k0 := 2) (μ' := μ) (ρ' := (vl_up m27 23 2 v29)) iu_X8 tyX8_ok nmX8 (by decide) rfl rfl (by decide) fk_X8_86 rfl ⟨rfl, rfl⟩ rfl rfl dX8_init_250 (vl_g_upr (by decide) _ _) ?_
      refine vu_gmr hE (fun m31 hE => ?_)
      refine vu_iconst dX8_init_253 ?_
      refine vu_istore0 (lv' := [(4, vl_iv 0), (0, .ref 23)]) dX8_init_254 (by decide) rfl ?_
      refine vl_lpr (F := fun κ : Int → vl_M → Option (vl_M) => fn_X8_init_L256 N  κ N 0 m31) (J := fun κ => ∀ (v34 : Int) (m35 : vl_M), vl_ok P (κ v34 m35) → vl_U 0 0 47 (vl_sd w) sc kX8_init d (fun _ c' T' m1 m2 => c' = 47 ∧ T' = (vl_sd w) ∧ m1 = μ ∧ P m2) 279 [(0, .ref 23)] [] μ m35) ?_ hE (fun κ hκ25633 hE => ?_)
      · intro v34 m35 hE
        refine vu_iconst dX8_init_279 ?_
        refine vu_istore0 (lv' := [(4, vl_iv 0), (0, .ref 23)]) dX8_init_280 (by decide) rfl ?_
        refine vl_lpr (F := fun κ : Int → vl_M → Option (vl_M) => fn_X8_init_L282 N  κ N 0 m35) (J := fun κ => ∀ (v38 : Int) (m39 : vl_M), vl_ok P (κ v38 m39) → vl_U 0 0 47 (vl_sd w) sc kX8_init d (fun _ c' T' m1 m2 => c' = 47 ∧ T' = (vl_sd w) ∧ m1 = μ ∧ P m2) 305 [(0, .ref 23)] [] μ m39) ?_ hE (fun κ hκ28237 hE => ?_)
        · intro v38 m39 hE
          refine vu_aload_n 0 rfl dX8_init_305 ?_
          refine vu_aload_n 0 rfl dX8_init_306 ?_
          refine vu_iconst dX8_init_307 ?_
          refine vu_VrWI (K' := kX8_node) (d' := 0) (h := 23) (As := [vl_iv 0]) (st := [.ref 23]) lk_X8_89 (fun _ => rfl) (by omega) (by decide) rfl rfl rfl (Nat.le_of_ble_eq_true rfl) rfl (Nat.le_of_ble_eq_true rfl) dX8_init_308 hE (fun _ h => vx_X8_node ⟨by decide, fun h h1 h2 => vl_sd_w w h1 h2⟩ (Nat.le_refl _) h) (fun b40 m41 hE => ?_)
          refine vu_putIr (h := 23) (k0 := 11) (ki := 11) iu_X8 tyX8_ok nmX8 (by decide) (by decide) rfl rfl (by decide) fk_X8_93 rfl rfl rfl (vl_nI _) dX8_init_311 hE (fun m42 hE => ?_)
          exact vu_retE (r := 0) rfl dX8_init_314 hE (fun h => ⟨rfl, rfl, rfl, h⟩)
        have hL282_ : ∀ (n : Nat) (v36 : Int) (m37 : vl_M), vl_ok P (fn_X8_init_L282 N  κ n v36 m37) → vl_U 0 0 47 (vl_sd w) sc kX8_init d (fun _ c' T' m1 m2 => c' = 47 ∧ T' = (vl_sd w) ∧ m1 = μ ∧ P m2) 282 [(0, .ref 23), (4, vl_iv v36)] [] μ m37 := by
          intro n
          induction n with
          | zero => intro v36 m37 hE; exact vl_no hE
          | succ n ih282_ =>
            intro v36 m37 hE
            rw [fn_X8_init_L282] at hE
            refine vu_iload 1 rfl dX8_init_282 ?_
            refine vu_sipush (by decide) dX8_init_284 ?_
            obtain ⟨g43, hE⟩ := vl_ok_gd hE
            refine vu_icmp_ge (tgt := 305) dX8_init_287 (by decide) g43 (by decide) hE (fun c48 hE => ?_) (fun c48 hE => ?_)
            · exact vu_wk [0] rfl (hκ28237 v36 m37 hE)
            · refine vu_aload_n 0 rfl dX8_init_290 ?_
              refine vu_getR (h := 23) (k0 := 6) (h2 := 26) iu_X8 (by decide) rfl rfl (by decide) fk_X8_20 rfl dX8_init_291 ?_
              refine vu_iload 1 rfl dX8_init_294 ?_
              refine vu_bipush (by decide) dX8_init_296 ?_
              refine vu_astr (h := 26) (n := 500) (ni := 500) (by decide) (by decide) rfl (by decide) rfl dX8_init_298 hE (fun g45 g46 m44 hE => ?_)
              refine vu_iinc 1 (fun v47 => [(4, vl_iv v47), (0, .ref 23)]) dX8_init_299 rfl (by decide) (fun _ => rfl) hE (fun v47 hE => ?_)
              refine vu_goto (tgt := 282) dX8_init_302 (by decide) ?_
              exact vu_wk [1, 0] rfl (ih282_ v47 m44 hE)
        exact vu_wk [1, 0] rfl (hL282_ N 0 m35 hE)
      have hL256_ : ∀ (n : Nat) (v32 : Int) (m33 : vl_M), vl_ok P (fn_X8_init_L256 N  κ n v32 m33) → vl_U 0 0 47 (vl_sd w) sc kX8_init d (fun _ c' T' m1 m2 => c' = 47 ∧ T' = (vl_sd w) ∧ m1 = μ ∧ P m2) 256 [(0, .ref 23), (4, vl_iv v32)] [] μ m33 := by
        intro n
        induction n with
        | zero => intro v32 m33 hE; exact vl_no hE
        | succ n ih256_ =>
          intro v32 m33 hE
          rw [fn_X8_init_L256] at hE
          refine vu_iload 1 rfl dX8_init_256 ?_
          refine vu_sipush (by decide) dX8_init_258 ?_
          obtain ⟨g49, hE⟩ := vl_ok_gd hE
          refine vu_icmp_gt (tgt := 279) dX8_init_261 (by decide) g49 (by decide) hE (fun c54 hE => ?_) (fun c54 hE => ?_)
          · exact vu_wk [0] rfl (hκ25633 v32 m33 hE)
          · refine vu_aload_n 0 rfl dX8_init_264 ?_
            refine vu_getR (h := 23) (k0 := 3) (h2 := 24) iu_X8 (by decide) rfl rfl (by decide) fk_X8_13 rfl dX8_init_265 ?_
            refine vu_iload 1 rfl dX8_init_268 ?_
            refine vu_bipush (by decide) dX8_init_270 ?_
            refine vu_astr (h := 24) (n := 401) (ni := 401) (by decide) (by decide) rfl (by decide) rfl dX8_init_272 hE (fun g51 g52 m50 hE => ?_)
            refine vu_iinc 1 (fun v53 => [(4, vl_iv v53), (0, .ref 23)]) dX8_init_273 rfl (by decide) (fun _ => rfl) hE (fun v53 hE => ?_)
            refine vu_goto (tgt := 256) dX8_init_276 (by decide) ?_
            exact vu_wk [1, 0] rfl (ih256_ v53 m50 hE)
      exact vu_wk [1, 0] rfl (hL256_ N 0 m31 hE)
    refine vu_icmp_ge (tgt := 236) dX8_init_229 (by decide) g28 (by decide) hE (fun c58 hE => ?_) (fun c58 hE => ?_)
    · refine vu_iload_n 2 rfl dX8_init_236 ?_
      refine vu_iload_n 0 rfl dX8_init_237 ?_
      refine vu_iconst dX8_init_238 ?_
      obtain ⟨g55, hE⟩ := vl_ok_gd hE
      refine vu_idiv g55 (by decide) dX8_init_239 ?_
      obtain ⟨g56, hE⟩ := vl_ok_gd hE
      refine vu_icmp_le (tgt := 249) dX8_init_240 (by decide) g28 g56 hE (fun c57 hE => ?_) (fun c57 hE => ?_)
      · refine vu_iload_n 2 rfl dX8_init_249 ?_
        exact vu_wk [1] rfl (hκ30 a2 hE)
      · refine vu_iload_n 0 rfl dX8_init_243 ?_
        refine vu_iconst dX8_init_244 ?_
        refine vu_idiv g55 (by decide) dX8_init_245 ?_
        refine vu_goto (tgt := 250) dX8_init_246 (by decide) ?_
        exact vu_wk [1] rfl (hκ30 (v25 / 2) hE)
    · refine vu_iconst dX8_init_232 ?_
      refine vu_goto (tgt := 250) dX8_init_233 (by decide) ?_
      exact vu_wk [1] rfl (hκ30 2 hE)
  refine vu_icmp_ge (tgt := 208) dX8_init_201 (by decide) g24 (by decide) hE (fun c60 hE => ?_) (fun c60 hE => ?_)
  · refine vu_iload_n 1 rfl dX8_init_208 ?_
    refine vu_bipush (by decide) dX8_init_209 ?_
    refine vu_icmp_le (tgt := 219) dX8_init_211 (by decide) g24 (by decide) hE (fun c59 hE => ?_) (fun c59 hE => ?_)
    · refine vu_iload_n 1 rfl dX8_init_219 ?_
      exact vu_wk [0, 2] rfl (hκ26 a1 hE)
    · refine vu_bipush (by decide) dX8_init_214 ?_
      refine vu_goto (tgt := 220) dX8_init_216 (by decide) ?_
      exact vu_wk [0, 2] rfl (hκ26 10 hE)
  · refine vu_iconst dX8_init_204 ?_
    refine vu_goto (tgt := 220) dX8_init_205 (by decide) ?_
    exact vu_wk [0, 2] rfl (hκ26 4 hE)
theorem vx_L_cell {nc : Nat} {S : vl_Sh} {sc : Nat × (Nat → Int32)} (hsc : sc.1 ≤ 2147483648) {d : Nat} (hd : 0 ≤ d) {Post : Int → vl_M → vl_M → Prop} {μ m : vl_M} {a1 : Int} (hE : vl_ok (fun r : Int => Post r μ m) (fn_L_cell sc a1)) : vl_V nc S sc kL_cell d Post 0 [(0, .ref 101), (1, vl_iv a1)] [] μ m := by
  generalize hP : (fun r : Int => Post r μ m) = P at hE
  have hP' : ∀ r : Int, P r → Post r μ m := fun b h => by rw [← hP] at h; exact h
  clear hP
  unfold fn_L_cell at hE
  refine vl_iload_n 1 rfl dL_cell_0 ?_
  refine vl_aload_n 0 rfl dL_cell_1 ?_
  refine vl_scLen dL_cell_2 ?_
  obtain ⟨g1, hE⟩ := vl_ok_gd hE
  obtain ⟨g2, hE⟩ := vl_ok_gd hE
  refine vl_icmp_ge (tgt := 12) dL_cell_3 (by decide) g1 g2 hE (fun c5 hE => ?_) (fun c5 hE => ?_)
  · refine vl_iconst dL_cell_12 ?_
    exact vl_ret (r := 0) rfl dL_cell_13 hE (hP' (0))
  · refine vl_aload_n 0 rfl dL_cell_6 ?_
    refine vl_iload_n 1 rfl dL_cell_7 ?_
    refine vl_scLd hsc dL_cell_8 hE (fun g3 g4 hE => ?_)
    refine vl_goto (tgt := 13) dL_cell_9 (by decide) ?_
    exact vl_ret (r := (vl_sc sc a1)) rfl dL_cell_13 hE (hP' ((vl_sc sc a1)))
set_option maxRecDepth 100000 in
set_option maxHeartbeats 4000000 in
theorem vc_L_start {sc : Nat × (Nat → Int32)} (hsc : sc.1 ≤ 2147483648) {w : Nat} (hw : w ≤ 11) {N d : Nat} (hd : 66 ≤ d) {P : Int → Prop} {m r : vl_M} (hE : vl_ok P (fn_L_start sc w N m r)) : vl_U ((((0 + (((((((((((((((((((((((0 + 1) + 1) + 1) + 1) + 1) + 1) + 1) + 1) + 1) + 1) + 1) + 1) + 1) + 1) + 1) + 1) + 1) + 1) + 1) + 1) + 1) + 1) + 1)) + 1) + ((((((((((((0 + 0) + 1) + ((0 + 1) + 1)) + 1) + 0) + 1) + (0 + 1)) + 1) + ((((0 + (0 + 1)) + 1) + 1) + 1)) + 1) + (((((((((0 + 1) + 1) + 1) + 1) + 1) + 1) + 1) + 1) + 1)) + 1)) + 1) ((((0 + (((((((((((((((((((((((0 + 200) + 400) + 500) + 1000) + 1000) + 2) + 8) + 11) + 11) + 11) + 40) + 40) + 4) + 500) + 64) + 64) + 500) + 2000) + 5500) + 500) + 500) + 1604) + 401)) + 41) + ((((((((((((0 + 0) + 2) + ((0 + 807) + 807)) + 7) + 0) + 7) + (0 + 400)) + 4) + ((((0 + (0 + w)) + 5) + 404) + 160)) + 10) + (((((((((0 + (404 * w)) + 807) + 807) + 807) + 807) + 807) + 807) + 807) + 807)) + 17)) + 6) 0 (vl_sd w) sc kL_law d (fun a _ _ _ _ => P a) 0 [(0, .ref 101)] [] m r := by
  unfold fn_L_start at hE
  refine vu_new (bc := (((0 + (((((((((((((((((((((((0 + 1) + 1) + 1) + 1) + 1) + 1) + 1) + 1) + 1) + 1) + 1) + 1) + 1) + 1) + 1) + 1) + 1) + 1) + 1) + 1) + 1) + 1) + 1)) + 1) + ((((((((((((0 + 0) + 1) + ((0 + 1) + 1)) + 1) + 0) + 1) + (0 + 1)) + 1) + ((((0 + (0 + 1)) + 1) + 1) + 1)) + 1) + (((((((((0 + 1) + 1) + 1) + 1) + 1) + 1) + 1) + 1) + 1)) + 1))) (bs := (((0 + (((((((((((((((((((((((0 + 200) + 400) + 500) + 1000) + 1000) + 2) + 8) + 11) + 11) + 11) + 40) + 40) + 4) + 500) + 64) + 64) + 500) + 2000) + 5500) + 500) + 500) + 1604) + 401)) + 41) + ((((((((((((0 + 0) + 2) + ((0 + 807) + 807)) + 7) + 0) + 7) + (0 + 400)) + 4) + ((((0 + (0 + w)) + 5) + 404) + 160)) + 10) + (((((((((0 + (404 * w)) + 807) + 807) + 807) + 807) + 807) + 807) + 807) + 807)) + 17))) (N := 6) (μ' := (vl_z m 0)) (ρ' := r) (vl_us (vl_sd w) 0 (.inr (7, [2, 2, 2, 2, 2, 2]))) iu_X7 tyX7_ok cl_L_7 in_X7 ii_X7 rfl rfl df_X7 (by decide) rfl rfl rfl (if_pos rfl) (fun h hh => if_neg (by omega)) (vl_g_zc (by decide)) dL_law_0 ?_
  refine vu_gmc hE (fun m1 hE => ?_)
  refine vu_dup rfl dL_law_3 ?_
  refine vu_aload_n 0 rfl dL_law_4 ?_
  refine vu_iconst dL_law_5 ?_
  refine vu_SpI (K' := kL_cell) (d' := 0) (As := [.ref 101, vl_iv 0]) (st := [.ref 0, .ref 0]) lk_L_9 (fun _ => rfl) (by omega) rfl (Nat.le_of_ble_eq_true rfl) rfl (Nat.le_of_ble_eq_true rfl) dL_law_6 hE (fun _ h => vx_L_cell hsc (Nat.le_refl _) h) (fun b2 hE => ?_)
  refine vu_aload_n 0 rfl dL_law_9 ?_
  refine vu_iconst dL_law_10 ?_
  refine vu_SpI (K' := kL_cell) (d' := 0) (As := [.ref 101, vl_iv 1]) (st := [vl_iv b2, .ref 0, .ref 0]) lk_L_9 (fun _ => rfl) (by omega) rfl (Nat.le_of_ble_eq_true rfl) rfl (Nat.le_of_ble_eq_true rfl) dL_law_11 hE (fun _ h => vx_L_cell hsc (Nat.le_refl _) h) (fun b3 hE => ?_)
  refine vu_Ic (K' := kX7_init) (d' := 65) (bc := ((0 + (((((((((((((((((((((((0 + 1) + 1) + 1) + 1) + 1) + 1) + 1) + 1) + 1) + 1) + 1) + 1) + 1) + 1) + 1) + 1) + 1) + 1) + 1) + 1) + 1) + 1) + 1)) + 1)) (bs := ((0 + (((((((((((((((((((((((0 + 200) + 400) + 500) + 1000) + 1000) + 2) + 8) + 11) + 11) + 11) + 40) + 40) + 4) + 500) + 64) + 64) + 500) + 2000) + 5500) + 500) + 500) + 1604) + 401)) + 41)) (bc' := ((((((((((((0 + 0) + 1) + ((0 + 1) + 1)) + 1) + 0) + 1) + (0 + 1)) + 1) + ((((0 + (0 + 1)) + 1) + 1) + 1)) + 1) + (((((((((0 + 1) + 1) + 1) + 1) + 1) + 1) + 1) + 1) + 1)) + 1)) (bs' := ((((((((((((0 + 0) + 2) + ((0 + 807) + 807)) + 7) + 0) + 7) + (0 + 400)) + 4) + ((((0 + (0 + w)) + 5) + 404) + 160)) + 10) + (((((((((0 + (404 * w)) + 807) + 807) + 807) + 807) + 807) + 807) + 807) + 807)) + 17)) (nc' := 23) (S' := (vl_sd w)) (h := 0) (As := [vl_iv b2, vl_iv b3]) (st := [.ref 0]) li_L_15 (by omega) (by decide) rfl (Nat.le_of_ble_eq_true rfl) rfl (Nat.le_of_ble_eq_true rfl) rfl rfl dL_law_14 hE (fun _ h => vc_X7_init hw (Nat.le_refl _) h) (fun m4 hE => ?_)
  refine vu_astore_n rfl (lv' := [(1, .ref 0), (0, .ref 101)]) dL_law_17 (by decide) rfl ?_
  refine vu_new (bc := (0 + (((((((((((((((((((((((0 + 1) + 1) + 1) + 1) + 1) + 1) + 1) + 1) + 1) + 1) + 1) + 1) + 1) + 1) + 1) + 1) + 1) + 1) + 1) + 1) + 1) + 1) + 1))) (bs := (0 + (((((((((((((((((((((((0 + 200) + 400) + 500) + 1000) + 1000) + 2) + 8) + 11) + 11) + 11) + 40) + 40) + 4) + 500) + 64) + 64) + 500) + 2000) + 5500) + 500) + 500) + 1604) + 401))) (N := 41) (μ' := m4) (ρ' := (vl_z r 23)) (vl_us (vl_sd w) 23 (.inr (8, [0, 0, 0, 2, 2, 0, 2, 2, 2, 2, 2, 0, 0, 0, 0, 2, 2, 0, 2, 0, 0, 2, 2, 2, 0, 0, 0, 0, 0, 1, 2, 2, 2, 2, 2, 2, 2, 0, 2, 2, 2]))) iu_X8 tyX8_ok cl_L_18 in_X8 ii_X8 rfl rfl df_X8 (by decide) rfl rfl rfl (if_pos rfl) (fun h hh => if_neg (by omega)) (vl_g_zr (by decide)) dL_law_18 ?_
  refine vu_gmr hE (fun m5 hE => ?_)
  refine vu_dup rfl dL_law_21 ?_
  refine vu_aload_n 1 rfl dL_law_22 ?_
  refine vu_iconst dL_law_23 ?_
  refine vu_SpI (K' := kL_cell) (d' := 0) (As := [.ref 101, vl_iv 0]) (st := [.ref 23, .ref 23]) lk_L_9 (fun _ => rfl) (by omega) rfl (Nat.le_of_ble_eq_true rfl) rfl (Nat.le_of_ble_eq_true rfl) dL_law_24 hE (fun _ h => vx_L_cell hsc (Nat.le_refl _) h) (fun b6 hE => ?_)
  refine vu_aload_n 1 rfl dL_law_27 ?_
  refine vu_iconst dL_law_28 ?_
  refine vu_SpI (K' := kL_cell) (d' := 0) (As := [.ref 101, vl_iv 1]) (st := [vl_iv b6, .ref 23, .ref 23]) lk_L_9 (fun _ => rfl) (by omega) rfl (Nat.le_of_ble_eq_true rfl) rfl (Nat.le_of_ble_eq_true rfl) dL_law_29 hE (fun _ h => vx_L_cell hsc (Nat.le_refl _) h) (fun b7 hE => ?_)
  refine vu_Ir (K' := kX8_init) (d' := 1) (bc := 0) (bs := 0) (bc' := (((((((((((((((((((((((0 + 1) + 1) + 1) + 1) + 1) + 1) + 1) + 1) + 1) + 1) + 1) + 1) + 1) + 1) + 1) + 1) + 1) + 1) + 1) + 1) + 1) + 1) + 1)) (bs' := (((((((((((((((((((((((0 + 200) + 400) + 500) + 1000) + 1000) + 2) + 8) + 11) + 11) + 11) + 40) + 40) + 4) + 500) + 64) + 64) + 500) + 2000) + 5500) + 500) + 500) + 1604) + 401)) (nc' := 47) (S' := (vl_sd w)) (h := 23) (As := [vl_iv b6, vl_iv b7]) (st := [.ref 23]) li_L_20 (by omega) (by decide) rfl (Nat.le_of_ble_eq_true rfl) rfl (Nat.le_of_ble_eq_true rfl) rfl rfl dL_law_32 hE (fun _ h => vc_X8_init hw (Nat.le_refl _) h) (fun m8 hE => ?_)
  refine vu_astore_n rfl (lv' := [(2, .ref 23), (1, .ref 0), (0, .ref 101)]) dL_law_35 (by decide) rfl ?_
  refine vu_ofV (vl_wk [2, 1, 0] rfl ?_)
  exact vx_L_law (w := w) ⟨by decide, fun _ _ _ => rfl, hw⟩ ⟨by decide, fun h h1 h2 => vl_sd_w w h1 h2⟩ hsc (by omega) hE
